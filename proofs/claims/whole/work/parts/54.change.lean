theorem wf_sub {pd px py qd qx qy : Nat → Int32} {n m : Nat} (o : Nat → Nat) (hW : WF pd px py n) (hm : m ≤ 32) (ho : ∀ j, j < m → o j < n) (hs : ∀ j k, j < k → k < m → o j < o k) (he : ∀ j, j < m → e3 qd qx qy j pd px py (o j)) : WF qd qx qy m := by
  have hi : ∀ j, j < m → ig qd j = ig pd (o j) := fun j hj => by unfold ig; rw [(he j hj).1]
  refine ⟨hm, fun k hk => ?_, fun j k hj hk e => ?_, fun j k hjk hk => ?_, fun k hk => ?_⟩
  · rw [hi k hk, (he k hk).1]; exact hW.2.1 _ (ho k hk)
  · rw [hi j hj, hi k hk] at e
    have := hW.2.2.1 _ _ (ho j hj) (ho k hk) e
    apply Classical.byContradiction
    intro q
    rcases Nat.lt_or_ge j k with w | w
    · have := hs j k w hk; omega
    · have := hs k j (by omega) hj; omega
  · have := hW.2.2.2.1 _ _ (hs j k hjk hk) (ho k hk)
    unfold lxl at *
    rw [(he j (by omega)).2.1, (he k hk).2.1, (he j (by omega)).2.2, (he k hk).2.2]; exact this
  · rw [(he k hk).2.1, (he k hk).2.2]; exact hW.2.2.2.2 _ (ho k hk)
def INS (pd px py : Nat → Int32) (n : Nat) (id x y : Int32) (qd qx qy : Nat → Int32) : Prop :=
  ∃ p, p ≤ n ∧ (∀ k, k + 1 = p → ¬ bf x y px py k) ∧ (∀ k, p ≤ k → k < n → bf x y px py k) ∧ (∀ k, k < p → e3 qd qx qy k pd px py k) ∧ (qd p = id ∧ qx p = x ∧ qy p = y) ∧ (∀ k, p ≤ k → k < n → e3 qd qx qy (k + 1) pd px py k)
def fre (pd : Nat → Int32) (n a : Nat) : Prop := ∀ k, k < n → ¬ pd k = nI a
def ntk (px py : Nat → Int32) (n : Nat) (x y : Int32) : Prop := ∀ k, k < n → ¬ (px k = x ∧ py k = y)
theorem fre_ig {pd px py : Nat → Int32} {n a k : Nat} (hW : WF pd px py n) (hf : fre pd n a) (hk : k < n) : ¬ ig pd k = a := fun e => hf k hk (by rw [(hW.2.1 k hk).2, e])
theorem ig_fre {pd px py : Nat → Int32} {n a : Nat} (hW : WF pd px py n) (ha : a < 32) (h : ∀ k, k < n → ¬ ig pd k = a) : fre pd n a := fun k hk e => by
  have hg := hW.2.1 k hk
  rw [e, n_eq (by omega) (by omega)] at hg
  exact h k hk hg.2.symm
/-- what a place of the new list is -/
theorem ins_at {pd px py qd qx qy : Nat → Int32} {n p : Nat} (hp : p ≤ n) (h1 : ∀ k, k < p → e3 qd qx qy k pd px py k) (h3 : ∀ k, p ≤ k → k < n → e3 qd qx qy (k + 1) pd px py k) {j : Nat} (hj : j < n + 1) (hne : ¬ j = p) : ∃ o, o < n ∧ e3 qd qx qy j pd px py o ∧ (j < p → o = j) ∧ (p < j → o + 1 = j) := by
  rcases Nat.lt_or_ge j p with w | w
  · exact ⟨j, by omega, h1 j w, fun _ => rfl, fun _ => by omega⟩
  · obtain ⟨i, rfl⟩ : ∃ i, j = i + 1 := ⟨j - 1, by omega⟩
    exact ⟨i, by omega, h3 i (by omega) (by omega), fun _ => by omega, fun _ => rfl⟩
theorem ins_wf {pd px py qd qx qy : Nat → Int32} {n a : Nat} {x y : Int32} (hW : WF pd px py n) (hn : n < 32) (ha : a < 32) (hf : fre pd n a) (ht : ntk px py n x y) (hx : inR x) (hy : inR y) (h : INS pd px py n (nI a) x y qd qx qy) : WF qd qx qy (n + 1) := by
  obtain ⟨p, hp, hb0, hb1, h1, h2, h3⟩ := h
  have hip : ig qd p = a := by unfold ig; rw [h2.1]; exact n_cl (by omega)
  have A : ∀ j, j < n + 1 → ¬ j = p → ∃ o, o < n ∧ e3 qd qx qy j pd px py o ∧ (j < p → o = j) ∧ (p < j → o + 1 = j) := fun j hj hne => ins_at hp h1 h3 hj hne
  have igE : ∀ {j o : Nat}, e3 qd qx qy j pd px py o → ig qd j = ig pd o := fun e => by unfold ig; rw [e.1]
  refine ⟨by omega, fun k hk => ?_, fun j k hj hk e => ?_, fun j k hjk hk => ?_, fun k hk => ?_⟩
  · by_cases c : k = p
    · subst c; rw [hip, h2.1]; exact ⟨ha, rfl⟩
    · obtain ⟨o, ho, eo, _⟩ := A k hk c
      rw [igE eo, eo.1]; exact hW.2.1 o ho
  · by_cases c : j = p
    · by_cases c' : k = p
      · omega
      · obtain ⟨o, ho, eo, _⟩ := A k hk c'
        rw [c, hip, igE eo] at e
        exact absurd e.symm (fre_ig hW hf ho)
    · obtain ⟨o, ho, eo, q1, q2⟩ := A j hj c
      by_cases c' : k = p
      · rw [c', hip, igE eo] at e
        exact absurd e (fre_ig hW hf ho)
      · obtain ⟨o', ho', eo', q1', q2'⟩ := A k hk c'
        rw [igE eo, igE eo'] at e
        have := hW.2.2.1 o o' ho ho' e
        omega
  · by_cases c : j = p
    · obtain ⟨o, ho, eo, q1, q2⟩ := A k hk (by omega)
      have hb := hb1 o (by omega) ho
      unfold lxl; unfold bf at hb
      rw [c, h2.2.1, h2.2.2, eo.2.1, eo.2.2]; exact hb
    · obtain ⟨o, ho, eo, q1, q2⟩ := A j (by omega) c
      by_cases c' : k = p
      · subst c'
        have hb := hb0 (k - 1) (by omega)
        have hne := ht (k - 1) (by omega)
        have hoj : o = j := q1 hjk
        have ll : lxl px py o (k - 1) ∨ o = k - 1 := by
          rcases Nat.lt_or_ge o (k - 1) with w | w
          · exact Or.inl (hW.2.2.2.1 o (k - 1) w (by omega))
          · right; omega
        unfold lxl
        rw [h2.2.1, h2.2.2, eo.2.1, eo.2.2]
        unfold bf at hb
        simp only [I_lt, I_eq] at hb hne ⊢
        rcases ll with ll | ll
        · unfold lxl at ll
          simp only [I_lt, I_eq] at ll
          omega
        · subst ll
          omega
      · obtain ⟨o', ho', eo', q1', q2'⟩ := A k hk c'
        have := hW.2.2.2.1 o o' (by omega) ho'
        unfold lxl at *
        rw [eo.2.1, eo.2.2, eo'.2.1, eo'.2.2]; exact this
  · by_cases c : k = p
    · subst c; rw [h2.2.1, h2.2.2]; exact ⟨hx, hy⟩
    · obtain ⟨o, ho, eo, _⟩ := A k hk c
      rw [eo.2.1, eo.2.2]; exact hW.2.2.2.2 o ho
theorem ins_mv {pd px py qd qx qy mx my mi : Nat → Int32} {n a : Nat} {x y : Int32} (hW : WF pd px py n) (hV : MV pd px py n mx my mi) (ha : a < 32) (hf : fre pd n a) (h : INS pd px py n (nI a) x y qd qx qy) : MV qd qx qy (n + 1) (upd mx a x) (upd my a y) (upd mi a 1) := by
  obtain ⟨p, hp, hb0, hb1, h1, h2, h3⟩ := h
  have hip : ig qd p = a := by unfold ig; rw [h2.1]; exact n_cl (by omega)
  have igE : ∀ {j o : Nat}, e3 qd qx qy j pd px py o → ig qd j = ig pd o := fun e => by unfold ig; rw [e.1]
  constructor
  · intro k hk
    by_cases c : k = p
    · subst c; rw [hip, up_s, up_s, up_s, h2.2.1, h2.2.2]; exact ⟨rfl, rfl, rfl⟩
    · obtain ⟨o, ho, eo, _⟩ := ins_at hp h1 h3 hk c
      have := fre_ig hW hf ho
      rw [igE eo, up_n this, up_n this, up_n this, eo.2.1, eo.2.2]; exact hV.1 o ho
  · intro b hb hno
    have hba : ¬ b = a := fun e => hno p (by omega) (by rw [hip, e])
    rw [up_n hba]
    refine hV.2 b hb (fun k hk e => ?_)
    rcases Nat.lt_or_ge k p with w | w
    · exact hno k (by omega) (by rw [igE (h1 k w)]; exact e)
    · exact hno (k + 1) (by omega) (by rw [igE (h3 k w hk)]; exact e)
def DEL (pd px py : Nat → Int32) (n r : Nat) (qd qx qy : Nat → Int32) : Prop := (∀ k, k < r → e3 qd qx qy k pd px py k) ∧ (∀ k, r ≤ k → k + 1 < n → e3 qd qx qy k pd px py (k + 1))
def oD (r k : Nat) : Nat := if k < r then k else k + 1
theorem del_e {pd px py qd qx qy : Nat → Int32} {n r k : Nat} (h : DEL pd px py n r qd qx qy) (hr : r < n) (hk : k < n - 1) : e3 qd qx qy k pd px py (oD r k) := by
  unfold oD
  split
  · exact h.1 k (by assumption)
  · exact h.2 k (by omega) (by omega)
theorem oD_lt {n r k : Nat} (hk : k < n - 1) : oD r k < n := by unfold oD; split <;> omega
theorem oD_ne {r k : Nat} : ¬ oD r k = r := by unfold oD; split <;> omega
theorem oD_sur {n r k : Nat} (hr : r < n) (hk : k < n) (hne : ¬ k = r) : ∃ j, j < n - 1 ∧ oD r j = k := by
  rcases Nat.lt_or_ge k r with w | w
  · exact ⟨k, by omega, by unfold oD; rw [if_pos w]⟩
  · exact ⟨k - 1, by omega, by unfold oD; rw [if_neg (by omega)]; omega⟩
theorem del_wf {pd px py qd qx qy : Nat → Int32} {n r : Nat} (hW : WF pd px py n) (hr : r < n) (h : DEL pd px py n r qd qx qy) : WF qd qx qy (n - 1) :=
  wf_sub (oD r) hW (by have := hW.1; omega) (fun j hj => oD_lt hj) (fun j k hjk hk => by unfold oD; split <;> split <;> omega) (fun j hj => del_e h hr hj)
theorem del_mv {pd px py qd qx qy mx my mi : Nat → Int32} {n r : Nat} (hW : WF pd px py n) (hV : MV pd px py n mx my mi) (hr : r < n) (h : DEL pd px py n r qd qx qy) : MV qd qx qy (n - 1) mx my (upd mi (ig pd r) 0) := by
  have igE : ∀ {j o : Nat}, e3 qd qx qy j pd px py o → ig qd j = ig pd o := fun e => by unfold ig; rw [e.1]
  constructor
  · intro k hk
    have e := del_e h hr hk
    have hne : ¬ ig pd (oD r k) = ig pd r := fun q => oD_ne (hW.2.2.1 _ _ (oD_lt hk) hr q)
    rw [igE e, up_n hne, e.2.1, e.2.2]; exact hV.1 _ (oD_lt hk)
  · intro a ha hno
    by_cases c : a = ig pd r
    · rw [c, up_s]
    · rw [up_n c]
      refine hV.2 a ha (fun k hk e => ?_)
      by_cases q : k = r
      · subst q; exact c e.symm
      · obtain ⟨j, hj, ej⟩ := oD_sur hr hk q
        exact hno j hj (by rw [igE (del_e h hr hj), ej]; exact e)
theorem del_ntk {pd px py qd qx qy : Nat → Int32} {n r : Nat} {x y : Int32} (hr : r < n) (h : DEL pd px py n r qd qx qy) (ht : ntk px py n x y) : ntk qx qy (n - 1) x y := fun k hk => by
  have e := del_e h hr hk
  rw [e.2.1, e.2.2]; exact ht _ (oD_lt hk)
theorem del_fre {pd px py qd qx qy : Nat → Int32} {n r : Nat} (hW : WF pd px py n) (hr : r < n) (h : DEL pd px py n r qd qx qy) : fre qd (n - 1) (ig pd r) := fun k hk e => by
  have e' := del_e h hr hk
  rw [e'.1] at e
  have hg := hW.2.1 _ (oD_lt (r := r) hk)
  have hg2 := hW.2.1 _ hr
  exact oD_ne (pd_inj hW (oD_lt hk) hr (by rw [e]; exact hg2.2.symm))
/-- how many identities are in use -/
def dn (n : Nat) : List Nat := (List.range n).reverse
theorem dn_len (n : Nat) : (dn n).length = n := by unfold dn; simp
theorem dn_mem {n r : Nat} : r ∈ dn n ↔ r < n := by unfold dn; simp
theorem dn_dec (n : Nat) : List.Pairwise (fun a b => b < a) (dn n) := by
  unfold dn; rw [List.pairwise_reverse]; exact List.pairwise_lt_range
theorem used_n {pd px py : Nat → Int32} {n : Nat} (hW : WF pd px py n) : ctb (pl pd (dn n)) 32 = n := by
  rw [pl_len hW (dn n) (fun r hr => dn_mem.mp hr) (dn_dec n), dn_len]
theorem ctb_sm {p : Nat → Bool} {a : Nat} (h : p a = false) : ∀ {m : Nat}, a < m → ctb p m < m
  | 0, hm => by omega
  | m + 1, hm => by
    rcases Nat.lt_or_ge a m with w | w
    · have ih := ctb_sm h w
      cases hp : p m with
      | true => rw [ctb_t hp]; omega
      | false => rw [ctb_f hp]; omega
    · rw [ctb_f (show p m = false by rw [show m = a by omega]; exact h)]
      have := ctb_le p m; omega
theorem free_lt {pd px py : Nat → Int32} {n a : Nat} (hW : WF pd px py n) (ha : a < 32) (hf : fre pd n a) : n < 32 := by
  have h := used_n hW
  have : pl pd (dn n) a = false := by
    cases hp : pl pd (dn n) a with
    | false => rfl
    | true =>
      obtain ⟨r, h1, h2⟩ := pl_iff.mp hp
      exact absurd h2 (fre_ig hW hf (dn_mem.mp h1))
  have := ctb_sm this ha
  omega
theorem full_eq {pd px py : Nat → Int32} {n : Nat} (hW : WF pd px py n) (h : ∀ b, b < 32 → ∃ k, k < n ∧ pd k = nI b) : n = 32 := by
  have hu := used_n hW
  rw [ctb_all] at hu
  · omega
  · intro j hj
    obtain ⟨k, hk, e⟩ := h j hj
    refine pl_iff.mpr ⟨k, dn_mem.mpr hk, ?_⟩
    unfold ig; rw [e]; exact n_cl (by omega)
def lst (pd : Nat → Int32) (n a : Nat) : Prop := a < 32 ∧ fre pd n a ∧ ∀ b, b < a → ∃ k, k < n ∧ pd k = nI b
theorem c_add {pd px py qf qs : Nat → Int32} {n : Nat} (hW : WF pd px py n) (v1 v2 : Int32) {K : Int32 → (Nat → Int32) → (Nat → Int32) → (Nat → Int32) → Int32 → (Nat → Int32) → (Nat → Int32) → Prop}
    (h2 : ¬ (inR v1 ∧ inR v2) → K (-2) pd px py (nI n) qf qs) (h5 : inR v1 → inR v2 → ¬ ntk px py n v1 v2 → K (-5) pd px py (nI n) qf qs) (h4 : inR v1 → inR v2 → ntk px py n v1 v2 → n = 32 → K (-4) pd px py (nI n) qf qs)
    (h1 : ∀ a qd qx qy qf' qs', inR v1 → inR v2 → ntk px py n v1 v2 → n < 32 → lst pd n a → INS pd px py n (nI a) v1 v2 qd qx qy → PT qf' qs' (n + 1) → K (nI a) qd qx qy (nI (n + 1)) qf' qs') : wp_X5_add pd px py (nI n) qf qs v1 v2 K := by
  have hn := hW.1
  unfold wp_X5_add
  refine s_isPlaceC (fun i1 i2 => ⟨fun _ => s_isTaken hn v1 v2 (fun k hk e1 e2 => ⟨fun c => absurd c one_ne, fun _ => h5 i1 i2 (fun q => q k hk ⟨e1, e2⟩)⟩) (fun ht => ⟨fun _ => s_leastFreeId hn (fun a ha hf hl => ⟨fun _ => ?_, fun c => absurd c (n_ne6 (by omega))⟩) (fun hf => ⟨fun c => absurd rfl c, fun _ => h4 i1 i2 ht (full_eq hW hf)⟩), fun c => absurd rfl c⟩), fun c => absurd c one_ne⟩) (fun a => ⟨fun c => absurd rfl c, fun _ => h2 a⟩)
  have hlt := free_lt hW ha hf
  refine s_insert hlt (nI a) v1 v2 (fun p qd qx qy a1 a2 a3 a4 a5 a6 => s_split (by omega) (fun qf' qs' hT => h1 a qd qx qy qf' qs' i1 i2 ht hlt ⟨ha, hf, hl⟩ ⟨p, a1, a2, a3, a4, a5, a6⟩ hT))
theorem mi_pos {pd px py mx my mi : Nat → Int32} {n a : Nat} (hV : MV pd px py n mx my mi) (ha : a < 32) (h : ¬ mi a = 0) : ∃ k, k < n ∧ ig pd k = a := by
  apply Classical.byContradiction
  intro q
  exact h (hV.2 a ha (fun k hk e => q ⟨k, hk, e⟩))
theorem s_isTakenM {pd px py mx my mi : Nat → Int32} {n : Nat} (hW : WF pd px py n) (hV : MV pd px py n mx my mi) (x y : Int32) {K : Int32 → Prop} (h1 : ¬ ntk px py n x y → K 1) (h0 : ntk px py n x y → K 0) : wp_X6_isTaken mx my mi x y K := by
  have hn := hW.1
  have key : ∀ d i v, i + d = 32 → ((v = 1 ∧ ¬ ntk px py n x y) ∨ (v = 0 ∧ ∀ k, k < n → ig pd k < i → ¬ (px k = x ∧ py k = y))) → wp_X6_isTaken_5 mx my mi x y K (d + 1) v (nI i) := by
    intro d
    induction d with
    | zero =>
      intro i v hi hv
      refine wp_X6_isTaken_5_s ?_
      unfold wp_X6_isTaken_5b
      rw [show i = 32 by omega] at hv ⊢
      refine ⟨fun _ => ?_, fun c => absurd (by decide) c⟩
      rcases hv with ⟨e, q⟩ | ⟨e, q⟩
      · subst e; exact ⟨rfl, h1 q⟩
      · subst e; exact ⟨rfl, h0 (fun k hk => q k hk (hW.2.1 k hk).1)⟩
    | succ d ih =>
      intro i v hi hv
      refine wp_X6_isTaken_5_s ?_
      unfold wp_X6_isTaken_5b
      rw [n_cl (by omega), nI_1]
      refine ⟨fun c => by rw [show (32 : Int32) = nI 32 from rfl, n_le (by omega) (by omega)] at c; omega, fun _ => ⟨fun c => ?_, fun c => ?_⟩⟩
      · rcases hv with ⟨e, q⟩ | ⟨e, q⟩
        · exact ih (i + 1) 1 (by omega) (Or.inl ⟨rfl, q⟩)
        · exact absurd e c
      · rcases hv with ⟨e, q⟩ | ⟨e, q⟩
        · rw [e] at c; exact absurd c one_ne
        · have st : (∀ k, k < n → ig pd k = i → ¬ (px k = x ∧ py k = y)) → wp_X6_isTaken_5 mx my mi x y K (d + 1) 0 (nI (i + 1)) := fun g => ih (i + 1) 0 (by omega) (Or.inr ⟨rfl, fun k hk hlt => by
              rcases Nat.lt_or_ge (ig pd k) i with w | w
              · exact q k hk w
              · exact g k hk (by omega)⟩)
          have vi : vp_in (nI i) 32 := n_in (by omega) (by omega)
          refine ⟨vi, fun m0 => st (fun k hk e1 => ?_), fun m1 => ⟨vi, fun m2 => st (fun k hk e1 z => ?_), fun m2 => ⟨vi, fun m3 => st (fun k hk e1 z => ?_), fun m3 => ih (i + 1) 1 (by omega) (Or.inl ⟨rfl, fun z => ?_⟩)⟩⟩⟩
          · have := (hV.1 k hk).1
            rw [e1, m0] at this
            exact absurd this (by decide)
          · have := (hV.1 k hk).2.1
            rw [e1] at this
            exact m2 (this.trans z.1)
          · have := (hV.1 k hk).2.2
            rw [e1] at this
            exact m3 (this.trans z.2)
          · obtain ⟨k, hk, e1⟩ := mi_pos hV (by omega) m1
            have g := hV.1 k hk
            rw [e1] at g
            exact z k hk ⟨g.2.1.symm.trans m2, g.2.2.symm.trans m3⟩
  unfold wp_X6_isTaken
  exact ⟨_, key 32 0 0 (by omega) (Or.inr ⟨rfl, fun k hk q => by omega⟩)⟩
theorem nar_1 : vp_nar .boolean 1 = 1 := rfl
theorem nar_0 : vp_nar .boolean 0 = 0 := rfl
theorem m_add {pd px py mx my mi : Nat → Int32} {n : Nat} (hW : WF pd px py n) (hV : MV pd px py n mx my mi) (v1 v2 : Int32) {K : Int32 → (Nat → Int32) → (Nat → Int32) → (Nat → Int32) → Int32 → Prop}
    (h2 : ¬ (inR v1 ∧ inR v2) → K (-2) mx my mi (nI n)) (h5 : inR v1 → inR v2 → ¬ ntk px py n v1 v2 → K (-5) mx my mi (nI n)) (h4 : inR v1 → inR v2 → ntk px py n v1 v2 → n = 32 → K (-4) mx my mi (nI n))
    (h1 : inR v1 → inR v2 → ntk px py n v1 v2 → n < 32 → ∃ a, lst pd n a ∧ K (nI a) (upd mx a v1) (upd my a v2) (upd mi a 1) (nI (n + 1))) : wp_X6_add mx my mi (nI n) v1 v2 K := by
  have hn := hW.1
  unfold wp_X6_add
  refine s_isPlaceM (fun i1 i2 => ⟨fun _ => s_isTakenM hW hV v1 v2 (fun ht => ⟨fun c => absurd c one_ne, fun _ => h5 i1 i2 ht⟩) (fun ht => ⟨fun _ => ⟨fun c => ?_, fun c => h4 i1 i2 ht ?_⟩, fun c => absurd rfl c⟩), fun c => absurd c one_ne⟩) (fun a => ⟨fun c => absurd rfl c, fun _ => h2 a⟩)
  · rw [show (32 : Int32) = nI 32 from rfl, n_eq (by omega) (by omega)] at c
    obtain ⟨a, ⟨ha, hf, hl⟩, hK⟩ := h1 i1 i2 ht (by omega)
    have key : ∀ d i, i + d = a → wp_X6_add_37 v1 v2 K mx my mi (nI n) (d + 1) (nI i) := by
      intro d
      induction d with
      | zero =>
        intro i hi
        have hia : i = a := by omega
        subst hia
        refine wp_X6_add_37_s ?_
        unfold wp_X6_add_37b
        rw [n_cl (by omega), nI_1, nar_1]
        have vi : vp_in (nI i) 32 := n_in (by omega) (by omega)
        exact ⟨vi, fun _ => ⟨vi, vi, vi, hK⟩, fun q => absurd (hV.2 i ha (fun k hk => fre_ig hW hf hk)) q⟩
      | succ d ih =>
        intro i hi
        refine wp_X6_add_37_s ?_
        unfold wp_X6_add_37b
        rw [n_cl (by omega), nI_1, nI_1]
        refine ⟨n_in (by omega) (by omega), fun q => ?_, fun _ => ih (i + 1) (by omega)⟩
        obtain ⟨k, hk, e⟩ := hl i (by omega)
        have g := (hV.1 k hk).1
        have : ig pd k = i := by unfold ig; rw [e]; exact n_cl (by omega)
        rw [this, q] at g
        exact absurd g (by decide)
    exact ⟨_, key a 0 (by omega)⟩
  · rw [show (32 : Int32) = nI 32 from rfl, n_eq (by omega) (by omega)] at c; exact c
