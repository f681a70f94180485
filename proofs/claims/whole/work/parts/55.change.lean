theorem c_remove {pd px py qf qs : Nat → Int32} {n : Nat} (hW : WF pd px py n) (v1 : Int32) {K : Int32 → (Nat → Int32) → (Nat → Int32) → (Nat → Int32) → Int32 → (Nat → Int32) → (Nat → Int32) → Prop}
    (h0 : (∀ k, k < n → ¬ pd k = v1) → K (-1) pd px py (nI n) qf qs)
    (h1 : ∀ r qd qx qy qf' qs', r < n → pd r = v1 → DEL pd px py n r qd qx qy → PT qf' qs' (n - 1) → K (nI (n - 1)) qd qx qy (nI (n - 1)) qf' qs') : wp_X5_remove pd px py (nI n) qf qs v1 K := by
  have hn := hW.1
  unfold wp_X5_remove
  refine s_rankOf hn v1 (fun r hr e => ⟨fun _ => ?_, fun c => absurd c (n_ne6 (by omega))⟩) (fun hno => ⟨fun c => absurd rfl c, fun _ => h0 hno⟩)
  exact s_delete hn hr (fun qd qx qy a1 a2 => s_split (by omega) (fun qf' qs' hT => h1 r qd qx qy qf' qs' hr e ⟨a1, a2⟩ hT))
theorem m_remove {pd px py mx my mi : Nat → Int32} {n : Nat} (hW : WF pd px py n) (hV : MV pd px py n mx my mi) (v1 : Int32) {K : Int32 → (Nat → Int32) → Int32 → Prop}
    (h0 : (∀ k, k < n → ¬ pd k = v1) → K (-1) mi (nI n))
    (h1 : ∀ r, r < n → pd r = v1 → K (nI (n - 1)) (upd mi (ig pd r) 0) (nI (n - 1))) : wp_X6_remove mi (nI n) v1 K := by
  have hn := hW.1
  unfold wp_X6_remove
  refine s_isPoint hW hV v1 (fun r hr e => ⟨fun _ => ?_, fun c => absurd c one_ne⟩) (fun hno => ⟨fun c => absurd rfl c, fun _ => h0 hno⟩)
  have H := h1 r hr e
  rw [show nI n - 1 = nI (n - 1) by obtain ⟨m, rfl⟩ : ∃ m, n = m + 1 := ⟨n - 1, by omega⟩; rw [n_s1]; rfl, nar_0, ← e]
  exact ⟨pd_in hW hr, H⟩
theorem c_move {pd px py : Nat → Int32} {n : Nat} (hW : WF pd px py n) (v1 v2 v3 : Int32) {K : Int32 → (Nat → Int32) → (Nat → Int32) → (Nat → Int32) → Int32 → Prop}
    (h0 : (∀ k, k < n → ¬ pd k = v1) → K (-1) pd px py (nI n)) (h2 : ∀ r, r < n → pd r = v1 → ¬ (inR v2 ∧ inR v3) → K (-2) pd px py (nI n)) (h5 : ∀ r, r < n → pd r = v1 → inR v2 → inR v3 → ¬ ntk px py n v2 v3 → K (-5) pd px py (nI n))
    (h1 : ∀ r zd zx zy qd qx qy, r < n → pd r = v1 → inR v2 → inR v3 → ntk px py n v2 v3 → DEL pd px py n r zd zx zy → INS zd zx zy (n - 1) v1 v2 v3 qd qx qy → K 1 qd qx qy (nI n)) : wp_X5_move pd px py (nI n) v1 v2 v3 K := by
  have hn := hW.1
  unfold wp_X5_move
  refine s_rankOf hn v1 (fun r hr e => ⟨fun _ => ?_, fun c => absurd c (n_ne6 (by omega))⟩) (fun hno => ⟨fun c => absurd rfl c, fun _ => h0 hno⟩)
  refine s_isPlaceC (fun i1 i2 => ⟨fun _ => s_isTaken hn v2 v3 (fun k hk e1 e2 => ⟨fun c => absurd c one_ne, fun _ => h5 r hr e i1 i2 (fun q => q k hk ⟨e1, e2⟩)⟩) (fun ht => ⟨fun _ => ?_, fun c => absurd rfl c⟩), fun c => absurd c one_ne⟩) (fun a => ⟨fun c => absurd rfl c, fun _ => h2 r hr e a⟩)
  refine s_delete hn hr (fun zd zx zy a1 a2 => s_insert (by omega) v1 v2 v3 (fun p qd qx qy b1 b2 b3 b4 b5 b6 => ?_))
  rw [show n - 1 + 1 = n by omega]
  exact h1 r zd zx zy qd qx qy hr e i1 i2 ht ⟨a1, a2⟩ ⟨p, b1, b2, b3, b4, b5, b6⟩
theorem m_move {pd px py mx my mi : Nat → Int32} {n : Nat} (hW : WF pd px py n) (hV : MV pd px py n mx my mi) (v1 v2 v3 : Int32) {K : Int32 → (Nat → Int32) → (Nat → Int32) → Prop}
    (h0 : (∀ k, k < n → ¬ pd k = v1) → K (-1) mx my) (h2 : ∀ r, r < n → pd r = v1 → ¬ (inR v2 ∧ inR v3) → K (-2) mx my) (h5 : ∀ r, r < n → pd r = v1 → inR v2 → inR v3 → ¬ ntk px py n v2 v3 → K (-5) mx my)
    (h1 : ∀ r, r < n → pd r = v1 → inR v2 → inR v3 → ntk px py n v2 v3 → K 1 (upd mx (ig pd r) v2) (upd my (ig pd r) v3)) : wp_X6_move mx my mi v1 v2 v3 K := by
  have hn := hW.1
  unfold wp_X6_move
  refine s_isPoint hW hV v1 (fun r hr e => ⟨fun _ => ?_, fun c => absurd c one_ne⟩) (fun hno => ⟨fun c => absurd rfl c, fun _ => h0 hno⟩)
  refine s_isPlaceM (fun i1 i2 => ⟨fun _ => s_isTakenM hW hV v2 v3 (fun ht => ⟨fun c => absurd c one_ne, fun _ => h5 r hr e i1 i2 ht⟩) (fun ht => ⟨fun _ => ?_, fun c => absurd rfl c⟩), fun c => absurd c one_ne⟩) (fun a => ⟨fun c => absurd rfl c, fun _ => h2 r hr e a⟩)
  have H := h1 r hr e i1 i2 ht
  rw [← e]
  exact ⟨pd_in hW hr, pd_in hW hr, H⟩
theorem mv_mv {pd px py zd zx zy qd qx qy mx my mi : Nat → Int32} {n r : Nat} {v1 v2 v3 : Int32} (hW : WF pd px py n) (hV : MV pd px py n mx my mi) (hr : r < n) (e : pd r = v1) (i1 : inR v2) (i2 : inR v3) (ht : ntk px py n v2 v3) (hD : DEL pd px py n r zd zx zy) (hI : INS zd zx zy (n - 1) v1 v2 v3 qd qx qy) : WF qd qx qy n ∧ MV qd qx qy n (upd mx (ig pd r) v2) (upd my (ig pd r) v3) mi := by
  have hn := hW.1
  have hg := hW.2.1 r hr
  rw [← e, hg.2] at hI
  have w1 := del_wf hW hr hD
  have f1 := del_fre hW hr hD
  have w2 := ins_wf w1 (by omega) hg.1 f1 (del_ntk hr hD ht) i1 i2 hI
  have m2 := ins_mv w1 (del_mv hW hV hr hD) hg.1 f1 hI
  rw [show n - 1 + 1 = n by omega] at w2 m2
  refine ⟨w2, ?_⟩
  rw [show upd (upd mi (ig pd r) 0) (ig pd r) 1 = mi from ?_] at m2
  · exact m2
  · funext j
    by_cases c : j = ig pd r
    · subst c; rw [up_s]; exact (hV.1 r hr).1.symm
    · rw [up_n c, up_n c]
/-- an image, as the model keeps it -/
def IM (me : Nat → Int32) (mS : Nat → Int64) (j : Nat) (ud ux uy : Nat → Int32) (m : Nat) : Prop :=
  WF ud ux uy m ∧ (∀ k, k < m → bt (mS j) (ig ud k) = true ∧ me (64 * j + ig ud k) = ux k ∧ me (64 * j + 32 + ig ud k) = uy k) ∧ (∀ a, a < 32 → (∀ k, k < m → ¬ ig ud k = a) → bt (mS j) a = false)
def IMJ (me : Nat → Int32) (mS : Nat → Int64) (kp mp : Nat → Int32) (j : Nat) (ud ux uy : Nat → Int32) (un : Int32) : Prop := (kp j = 0 ∧ mp j = 0) ∨ (kp j = 1 ∧ mp j = 1 ∧ ∃ m, un = nI m ∧ IM me mS j ud ux uy m)
theorem s_isImage {v : Int32} {K : Int32 → Prop} (h1 : ∀ s, s ≤ 1 → v = nI s → K 1) (h0 : ¬ v = 0 → ¬ v = 1 → K 0) : wp_X5_isImage v K := by
  unfold wp_X5_isImage
  refine ⟨fun c => h0 (fun q => ?_) (fun q => ?_), fun c => ⟨fun d => h0 (fun q => ?_) (fun q => ?_), fun d => ?_⟩⟩
  · subst q; exact absurd c (by decide)
  · subst q; exact absurd c (by decide)
  · subst q; exact absurd d (by decide)
  · subst q; exact absurd d (by decide)
  · obtain ⟨j, hj, rfl⟩ := n_of c
    rw [show (2 : Int32) = nI 2 from rfl, nI_leI (by omega) hj] at d
    exact h1 j (by omega) rfl
theorem copy_wf {pd px py qd qx qy : Nat → Int32} {n : Nat} (hW : WF pd px py n) (h : ∀ k, k < n → e3 qd qx qy k pd px py k) : WF qd qx qy n := wf_sub (fun k => k) hW hW.1 (fun j hj => hj) (fun j k hjk hk => hjk) h
theorem uL_s {f : Nat → Int64} {k : Nat} {x : Int64} : vp_updL f k x k = x := by unfold vp_updL; rw [if_pos rfl]
theorem uL_n {f : Nat → Int64} {k j : Nat} {x : Int64} (h : ¬ j = k) : vp_updL f k x j = f j := by unfold vp_updL; rw [if_neg h]
theorem n_64 (j i : Nat) : ((64 : Int32) * nI j) + nI i = nI (64 * j + i) := by rw [show (64 : Int32) * nI j = nI (64 * j) from pk_mul 64 j, nI_add]
theorem n_96 (j i : Nat) : (((64 : Int32) * nI j) + 32) + nI i = nI (64 * j + 32 + i) := by rw [show (64 : Int32) * nI j = nI (64 * j) from pk_mul 64 j, show (32 : Int32) = nI 32 from rfl, nI_add, nI_add]
theorem bt_o0 (w : Int64) (i : Nat) : bt (w ||| 0) i = bt w i := by rw [bt_or, bt_0]; simp
theorem m_image {mx my mi me mp : Nat → Int32} {mS : Nat → Int64} {j : Nat} (hj : j ≤ 1) {K : Int32 → (Nat → Int32) → (Nat → Int64) → (Nat → Int32) → Prop}
    (h : ∀ me' mS', (∀ a, a < 32 → me' (64 * j + a) = mx a ∧ me' (64 * j + 32 + a) = my a ∧ bt (mS' j) a = !decide (mi a = 0)) → (∀ x, ¬ (64 * j ≤ x ∧ x < 64 * j + 64) → me' x = me x) → (∀ x, ¬ x = j → mS' x = mS x) → K 1 me' mS' (upd mp j 1)) : wp_X6_image mx my mi me mS mp (nI j) K := by
  have key : ∀ (d i : Nat) (me' : Nat → Int32) (mS' : Nat → Int64), i + d = 32 → (∀ a, a < i → me' (64 * j + a) = mx a ∧ me' (64 * j + 32 + a) = my a) → (∀ a, a < 32 → bt (mS' j) a = (decide (a < i) && !decide (mi a = 0))) → (∀ x, ¬ (64 * j ≤ x ∧ x < 64 * j + 64) → me' x = me x) → (∀ x, ¬ x = j → mS' x = mS x) → wp_X6_image_21 mx my mi (nI j) K mp (d + 1) me' mS' (nI i) := by
    intro d
    induction d with
    | zero =>
      intro i me' mS' hi g1 g2 g3 g4
      refine wp_X6_image_21_s ?_
      unfold wp_X6_image_21b
      have hi2 : i = 32 := by omega
      subst hi2
      refine ⟨fun _ => ⟨n_in (by omega) (by omega), ?_⟩, fun c => absurd (by decide) c⟩
      rw [n_cl (by omega), nar_1]
      refine h _ _ (fun a ha => ⟨(g1 a ha).1, (g1 a ha).2, ?_⟩) g3 g4
      rw [g2 a ha, decide_eq_true ha]; rfl
    | succ d ih =>
      intro i me' mS' hi g1 g2 g3 g4
      refine wp_X6_image_21_s ?_
      unfold wp_X6_image_21b
      rw [n_64, n_96, n_cl (by omega), n_cl (by omega), n_cl (by omega), n_cl (by omega), nI_1]
      have vi : vp_in (nI i) 32 := n_in (by omega) (by omega)
      have vj : vp_in (nI j) 2 := n_in (by omega) (by omega)
      have e1 : ∀ a, a < i + 1 → upd (upd me' (64 * j + i) (mx i)) (64 * j + 32 + i) (my i) (64 * j + a) = mx a ∧ upd (upd me' (64 * j + i) (mx i)) (64 * j + 32 + i) (my i) (64 * j + 32 + a) = my a := by
        intro a ha
        by_cases c : a = i
        · subst c
          rw [up_s, up_n (by omega), up_s]; exact ⟨rfl, rfl⟩
        · rw [up_n (by omega), up_n (by omega), up_n (by omega), up_n (by omega)]; exact g1 a (by omega)
      have e3 : ∀ x, ¬ (64 * j ≤ x ∧ x < 64 * j + 64) → upd (upd me' (64 * j + i) (mx i)) (64 * j + 32 + i) (my i) x = me x := by
        intro x hx
        rw [up_n (by omega), up_n (by omega)]; exact g3 x hx
      refine ⟨fun c => by rw [show (32 : Int32) = nI 32 from rfl, n_le (by omega) (by omega)] at c; omega, fun _ => ⟨vi, n_in (by omega) (by omega), vi, n_in (by omega) (by omega), vj, vi, fun c => ⟨vj, ih (i + 1) _ _ (by omega) e1 (fun a ha => ?_) e3 (fun x hx => by rw [uL_n hx]; exact g4 x hx)⟩, fun c => ⟨vj, ih (i + 1) _ _ (by omega) e1 (fun a ha => ?_) e3 (fun x hx => by rw [uL_n hx]; exact g4 x hx)⟩⟩⟩
      · rw [uL_s, bt_o0, g2 a ha]
        by_cases q : a = i
        · subst q; rw [decide_eq_true c]; simp
        · rw [show decide (a < i + 1) = decide (a < i) from decide_eq_decide.mpr (by omega)]
      · rw [uL_s, bt_or, g2 a ha, bt_sh (by omega) ha]
        by_cases q : a = i
        · subst q; rw [decide_eq_false c]; simp
        · rw [show decide (a < i + 1) = decide (a < i) from decide_eq_decide.mpr (by omega), decide_eq_false (show ¬ i = a by omega)]; simp
  unfold wp_X6_image
  refine s_sideM (fun s hs es => ⟨fun _ => ⟨n_in (by omega) (by omega), ?_⟩, fun c => absurd c one_ne⟩) (fun a b => (sd_no hj rfl a b).elim)
  rw [n_cl (by omega)]
  refine ⟨_, key 32 0 me _ (by omega) (fun a ha => by omega) (fun a ha => ?_) (fun x _ => rfl) (fun x hx => uL_n hx)⟩
  rw [uL_s, bt_0, decide_eq_false (by omega)]; rfl
theorem IM_of {pd px py mx my mi me' qd qx qy : Nat → Int32} {mS' : Nat → Int64} {n j : Nat} (hW : WF pd px py n) (hV : MV pd px py n mx my mi) (hq : ∀ k, k < n → e3 qd qx qy k pd px py k) (h : ∀ a, a < 32 → me' (64 * j + a) = mx a ∧ me' (64 * j + 32 + a) = my a ∧ bt (mS' j) a = !decide (mi a = 0)) : IM me' mS' j qd qx qy n := by
  have igE : ∀ k, k < n → ig qd k = ig pd k := fun k hk => by unfold ig; rw [(hq k hk).1]
  refine ⟨copy_wf hW hq, fun k hk => ?_, fun a ha hno => ?_⟩
  · have g := h (ig pd k) (hW.2.1 k hk).1
    have v := hV.1 k hk
    rw [igE k hk, g.2.2, g.1, g.2.1, v.1, v.2.1, v.2.2, (hq k hk).2.1, (hq k hk).2.2]
    exact ⟨by decide, rfl, rfl⟩
  · rw [(h a ha).2.2, hV.2 a ha (fun k hk e => hno k hk (by rw [igE k hk]; exact e))]; decide
theorem IM_fr {ud ux uy me me' : Nat → Int32} {mS mS' : Nat → Int64} {m j : Nat} (h : IM me mS j ud ux uy m) (h1 : ∀ x, 64 * j ≤ x → x < 64 * j + 64 → me' x = me x) (h2 : mS' j = mS j) : IM me' mS' j ud ux uy m := by
  refine ⟨h.1, fun k hk => ?_, fun a ha hno => by rw [h2]; exact h.2.2 a ha hno⟩
  have g := h.2.1 k hk
  have := (h.1.2.1 k hk).1
  rw [h2, h1 _ (by omega) (by omega), h1 _ (by omega) (by omega)]; exact g
theorem m_restore {ud ux uy qd qx qy mx my mi me mp : Nat → Int32} {mS : Nat → Int64} {mn : Int32} {j m : Nat} (hj : j ≤ 1) (hp : mp j = 1) (hI : IM me mS j ud ux uy m) (hq : ∀ k, k < m → e3 qd qx qy k ud ux uy k) {K : Int32 → (Nat → Int32) → (Nat → Int32) → (Nat → Int32) → Int32 → Prop}
    (h : ∀ mx' my' mi', MV qd qx qy m mx' my' mi' → K 1 mx' my' mi' (nI m)) : wp_X6_restore mx my mi mn me mS mp (nI j) K := by
  have hm := hI.1.1
  have hcnt : ctb (bt (mS j)) 32 = m := by
    have hC : CS ud (dn m) (mS j) := by
      intro a ha
      constructor
      · intro hb
        apply Classical.byContradiction
        intro q
        have := hI.2.2 a ha (fun k hk e => q ⟨k, dn_mem.mpr hk, e⟩)
        rw [hb] at this; exact absurd this (by decide)
      · intro ⟨r, h1, h2⟩
        have := (hI.2.1 r (dn_mem.mp h1)).1
        rw [h2] at this; exact this
    rw [cs_len hI.1 (fun r hr => dn_mem.mp hr) (dn_dec m) hC, dn_len]
  have key : ∀ (d i : Nat) (mx' my' mi' : Nat → Int32), i + d = 32 → (∀ a, a < i → mx' a = me (64 * j + a) ∧ my' a = me (64 * j + 32 + a) ∧ mi' a = if bt (mS j) a then 1 else 0) → wp_X6_restore_31 me mS mp (nI j) K (d + 1) mx' my' mi' (nI (ctb (bt (mS j)) i)) (nI i) := by
    intro d
    induction d with
    | zero =>
      intro i mx' my' mi' hi g
      refine wp_X6_restore_31_s ?_
      unfold wp_X6_restore_31b
      have hi2 : i = 32 := by omega
      subst hi2
      refine ⟨fun _ => ?_, fun c => absurd (by decide) c⟩
      rw [hcnt]
      have igE : ∀ k, k < m → ig qd k = ig ud k := fun k hk => by unfold ig; rw [(hq k hk).1]
      refine h _ _ _ ⟨fun k hk => ?_, fun a ha hno => ?_⟩
      · have v := hI.2.1 k hk
        have w := g (ig ud k) (hI.1.2.1 k hk).1
        rw [igE k hk, w.1, w.2.1, w.2.2, v.1, v.2.1, v.2.2, (hq k hk).2.1, (hq k hk).2.2]
        exact ⟨by simp, rfl, rfl⟩
      · rw [(g a ha).2.2, hI.2.2 a ha (fun k hk e => hno k hk (by rw [igE k hk]; exact e))]; simp
    | succ d ih =>
      intro i mx' my' mi' hi g
      refine wp_X6_restore_31_s ?_
      unfold wp_X6_restore_31b wp_X6_restore_99
      rw [n_64, n_96, n_cl (by omega), n_cl (by omega), n_cl (by omega), n_cl (by omega), nI_1, nI_1, nar_0, nar_1, up_s, up_s, shr_bit _ (by omega)]
      have vi : vp_in (nI i) 32 := n_in (by omega) (by omega)
      have vj : vp_in (nI j) 2 := n_in (by omega) (by omega)
      have st : ∀ w : Int32, (w = if bt (mS j) i then 1 else 0) → ∀ a, a < i + 1 → upd mx' i (me (64 * j + i)) a = me (64 * j + a) ∧ upd my' i (me (64 * j + 32 + i)) a = me (64 * j + 32 + a) ∧ upd mi' i w a = if bt (mS j) a then 1 else 0 := by
        intro w hw a ha
        by_cases c : a = i
        · subst c; rw [up_s, up_s, up_s]; exact ⟨rfl, rfl, hw⟩
        · rw [up_n c, up_n c, up_n c]; exact g a (by omega)
      refine ⟨fun c => by rw [show (32 : Int32) = nI 32 from rfl, n_le (by omega) (by omega)] at c; omega, fun _ => ⟨n_in (by omega) (by omega), vi, n_in (by omega) (by omega), vi, vj, fun c => ⟨vi, vi, fun _ => ?_, fun q => absurd rfl q⟩, fun c => ⟨vi, vi, fun q => absurd q one_ne, fun _ => ?_⟩⟩⟩
      · have hb : bt (mS j) i = false := by
          cases hb : bt (mS j) i with
          | false => rfl
          | true => rw [hb] at c; exact absurd rfl c
        have := ih (i + 1) _ _ _ (by omega) (st 0 (by rw [hb]; rfl))
        rw [ctb_f hb] at this
        rw [show nI (ctb (bt (mS j)) i) + 0 = nI (ctb (bt (mS j)) i) from nI_add _ 0]
        exact this
      · have hb : bt (mS j) i = true := by
          cases hb : bt (mS j) i with
          | true => rfl
          | false => rw [hb] at c; exact absurd c (by decide)
        have := ih (i + 1) _ _ _ (by omega) (st 1 (by rw [hb]; rfl))
        rw [ctb_t hb] at this
        exact this
  unfold wp_X6_restore
  refine s_sideM (fun s hs es => ⟨fun _ => ⟨n_in (by omega) (by omega), fun _ => ⟨_, key 32 0 mx my mi (by omega) (fun a ha => by omega)⟩, fun c => ?_⟩, fun c => absurd c one_ne⟩) (fun a b => (sd_no hj rfl a b).elim)
  rw [n_cl (by omega), hp] at c
  exact absurd c one_ne
