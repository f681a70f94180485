def INV (pd px py : Nat → Int32) (pn : Int32) (qf qs ud ux uy : Nat → Int32) (un : Int32) (wd wx wy : Nat → Int32) (wn : Int32) (kp mx my mi : Nat → Int32) (mn : Int32) (me : Nat → Int32) (mS : Nat → Int64) (mp : Nat → Int32) : Prop :=
  ∃ n, WF pd px py n ∧ pn = nI n ∧ PT qf qs n ∧ mn = nI n ∧ MV pd px py n mx my mi ∧ IMJ me mS kp mp 0 ud ux uy un ∧ IMJ me mS kp mp 1 wd wx wy wn
set_option maxHeartbeats 4000000 in
set_option maxRecDepth 20000 in
theorem law_step {L j : Nat} {xs : Nat → Int32} (hL : L ≤ 2048) (hj : 4 * j < 9000) (hj4 : ¬ (Int32.ofNat L - 4) < nI (4 * j) → 4 * j + 4 ≤ L) {L18 : (Nat → Int32) → (Nat → Int32) → (Nat → Int32) → Int32 → (Nat → Int32) → (Nat → Int32) → (Nat → Int32) → Int32 → (Nat → Int32) → Int32 → (Nat → Int32) → Int32 → (Nat → Int32) → (Nat → Int32) → (Nat → Int32) → Int32 → (Nat → Int32) → (Nat → Int32) → (Nat → Int32) → Int32 → (Nat → Int32) → (Nat → Int32) → (Nat → Int32) → (Nat → Int32) → Int32 → (Nat → Int32) → (Nat → Int32) → Int32 → Int32 → Int32 → (Nat → Int32) → Int32 → (Nat → Int32) → Int32 → (Nat → Int32) → (Nat → Int64) → (Nat → Int32) → Int32 → Prop}
    (hN : ∀ {pd px py : Nat → Int32} {pn : Int32} {qf qs tr : Nat → Int32} {ts : Int32} {gr : Nat → Int32} {gs : Int32} {rr : Nat → Int32} {rs : Int32} {ud ux uy : Nat → Int32} {un : Int32} {wd wx wy : Nat → Int32} {wn : Int32} {kp mx my mi : Nat → Int32} {mn : Int32} {mr mo : Nat → Int32} {mf mt md : Int32} {mc : Nat → Int32} {mk : Int32} {mg : Nat → Int32} {mh : Int32} {me : Nat → Int32} {mS : Nat → Int64} {mp : Nat → Int32}, INV pd px py pn qf qs ud ux uy un wd wx wy wn kp mx my mi mn me mS mp → L18 pd px py pn qf qs tr ts gr gs rr rs ud ux uy un wd wx wy wn kp mx my mi mn mr mo mf mt md mc mk mg mh me mS mp (nI (4 * (j + 1))))
    {pd px py : Nat → Int32} {pn : Int32} {qf qs tr : Nat → Int32} {ts : Int32} {gr : Nat → Int32} {gs : Int32} {rr : Nat → Int32} {rs : Int32} {ud ux uy : Nat → Int32} {un : Int32} {wd wx wy : Nat → Int32} {wn : Int32} {kp mx my mi : Nat → Int32} {mn : Int32} {mr mo : Nat → Int32} {mf mt md : Int32} {mc : Nat → Int32} {mk : Int32} {mg : Nat → Int32} {mh : Int32} {me : Nat → Int32} {mS : Nat → Int64} {mp : Nat → Int32}
    (HI : INV pd px py pn qf qs ud ux uy un wd wx wy wn kp mx my mi mn me mS mp) : wp_L_law_18b L xs L18 pd px py pn qf qs tr ts gr gs rr rs ud ux uy un wd wx wy wn kp mx my mi mn mr mo mf mt md mc mk mg mh me mS mp (nI (4 * j)) := by
  obtain ⟨n, hW, e1, hT, e2, hV, J0, J1⟩ := HI
  subst e1; subst e2
  have HI : INV pd px py (nI n) qf qs ud ux uy un wd wx wy wn kp mx my mi (nI n) me mS mp := ⟨n, hW, rfl, hT, rfl, hV, J0, J1⟩
  have hn := hW.1
  unfold wp_L_law_18b
  refine ⟨fun _ => trivial, fun c => ?_⟩
  have h4 := hj4 c
  have u1 : nI (4 * j) + 1 = nI (4 * j + 1) := nI_1 _
  have u2 : nI (4 * j) + 2 = nI (4 * j + 2) := nI_add _ 2
  have u3 : nI (4 * j) + 3 = nI (4 * j + 3) := nI_add _ 3
  have u4 : nI (4 * j) + 4 = nI (4 * (j + 1)) := nI_add _ 4
  rw [u1, u2, u3, u4]
  have i0 : vp_in (nI (4 * j)) L := n_in (by omega) (by omega)
  have i1 : vp_in (nI (4 * j + 1)) L := n_in (by omega) (by omega)
  have i2 : vp_in (nI (4 * j + 2)) L := n_in (by omega) (by omega)
  have i3 : vp_in (nI (4 * j + 3)) L := n_in (by omega) (by omega)
  generalize xs (nI (4 * j + 1)).toNatClampNeg = w1
  generalize xs (nI (4 * j + 2)).toNatClampNeg = w2
  generalize xs (nI (4 * j + 3)).toNatClampNeg = w3
  refine ⟨i0, fun _ => ⟨i1, i2, ?_⟩, fun _ => ⟨fun _ => ⟨i1, ?_⟩, fun _ => ⟨fun _ => ⟨i1, i2, i3, ?_⟩, fun _ => ⟨fun _ => ⟨i1, i2, ?_⟩, fun _ => ⟨fun _ => ⟨i1, ?_⟩, fun _ => ⟨fun _ => ⟨i1, i2, ?_⟩, fun _ => ⟨fun _ => ⟨i1, i2, i3, ?_⟩, fun _ => ⟨fun _ => ⟨i1, i2, i3, ?_⟩, fun _ => ⟨fun _ => ⟨i1, ?_⟩, fun _ => ⟨fun _ => ⟨i1, i2, ?_⟩, fun _ => ⟨fun _ => ⟨i1, i2, ?_⟩, fun _ => ⟨fun _ => ⟨i1, i2, i3, ?_⟩, fun _ => ⟨fun _ => ?_, fun _ => ⟨fun _ => ⟨i1, ?_⟩, fun _ => ⟨fun _ => ⟨i1, ?_⟩, fun _ => ⟨fun _ => ⟨i1, ?_⟩, fun _ => hN HI⟩⟩⟩⟩⟩⟩⟩⟩⟩⟩⟩⟩⟩⟩⟩⟩
  · exact c_add hW _ _
      (fun q => ⟨i1, i2, m_add hW hV _ _ (fun _ => ⟨fun _ => hN HI, fun c => c rfl⟩) (fun a b _ => (q ⟨a, b⟩).elim) (fun a b _ _ => (q ⟨a, b⟩).elim) (fun a b _ _ => (q ⟨a, b⟩).elim)⟩)
      (fun a b ht => ⟨i1, i2, m_add hW hV _ _ (fun q => (q ⟨a, b⟩).elim) (fun _ _ _ => ⟨fun _ => hN HI, fun c => c rfl⟩) (fun _ _ t _ => absurd t ht) (fun _ _ t _ => absurd t ht)⟩)
      (fun a b ht e => ⟨i1, i2, m_add hW hV _ _ (fun q => (q ⟨a, b⟩).elim) (fun _ _ t => absurd ht t) (fun _ _ _ _ => ⟨fun _ => hN HI, fun c => c rfl⟩) (fun _ _ _ l => absurd e (by omega))⟩)
      (fun a qd qx qy qf' qs' b1 b2 ht hlt hl hI hT' => ⟨i1, i2, m_add hW hV _ _ (fun q => (q ⟨b1, b2⟩).elim) (fun _ _ t => absurd ht t) (fun _ _ _ e => absurd e (by omega)) (fun _ _ _ _ => ⟨a, hl, fun _ => hN ⟨n + 1, ins_wf hW hlt hl.1 hl.2.1 ht b1 b2 hI, rfl, hT', rfl, ins_mv hW hV hl.1 hl.2.1 hI, J0, J1⟩, fun c => c rfl⟩)⟩)
  · exact c_remove hW _
      (fun q => ⟨i1, m_remove hW hV _ (fun _ => ⟨fun _ => hN HI, fun c => c rfl⟩) (fun r hr e => absurd e (q r hr))⟩)
      (fun r qd qx qy qf' qs' hr e hD hT' => ⟨i1, m_remove hW hV _ (fun q => absurd e (q r hr)) (fun r' hr' e' => by
        have := pd_inj hW hr hr' (e.trans e'.symm)
        subst this
        exact ⟨fun _ => hN ⟨n - 1, del_wf hW hr hD, rfl, hT', rfl, del_mv hW hV hr hD, J0, J1⟩, fun c => c rfl⟩)⟩)
  · exact c_move hW _ _ _
      (fun q => ⟨i1, i2, i3, m_move hW hV _ _ _ (fun _ => ⟨fun _ => hN HI, fun c => c rfl⟩) (fun r hr e _ => absurd e (q r hr)) (fun r hr e _ _ _ => absurd e (q r hr)) (fun r hr e _ _ _ => absurd e (q r hr))⟩)
      (fun r hr e q => ⟨i1, i2, i3, m_move hW hV _ _ _ (fun g => absurd e (g r hr)) (fun _ _ _ _ => ⟨fun _ => hN HI, fun c => c rfl⟩) (fun _ _ _ a b _ => (q ⟨a, b⟩).elim) (fun _ _ _ a b _ => (q ⟨a, b⟩).elim)⟩)
      (fun r hr e a b ht => ⟨i1, i2, i3, m_move hW hV _ _ _ (fun g => absurd e (g r hr)) (fun _ _ _ q => (q ⟨a, b⟩).elim) (fun _ _ _ _ _ _ => ⟨fun _ => hN HI, fun c => c rfl⟩) (fun _ _ _ _ _ t => absurd t ht)⟩)
      (fun r zd zx zy qd qx qy hr e a b ht hD hI => ⟨i1, i2, i3, m_move hW hV _ _ _ (fun g => absurd e (g r hr)) (fun _ _ _ q => (q ⟨a, b⟩).elim) (fun _ _ _ _ _ t => absurd ht t) (fun r' hr' e' _ _ _ => by
        have := pd_inj hW hr hr' (e.trans e'.symm)
        subst this
        have g := mv_mv hW hV hr e a b ht hD hI
        exact ⟨fun _ => hN ⟨n, g.1, rfl, hT, rfl, g.2, J0, J1⟩, fun c => c rfl⟩)⟩)
  · exact c_point hW hT _ _ (fun r _ _ hr => ⟨i1, i2, m_point hW hV _ _ (fun r2 _ _ _ _ _ _ _ hr2 => ⟨fun _ => hN HI, fun c => c (hr.uniq hW hr2)⟩)⟩)
  · exact c_ranked hW _ (fun r hr => ⟨i1, m_ranked hW hV _ (fun r2 _ _ hr2 => ⟨fun _ => hN HI, fun c => c (hr.uniq (by omega) hr2)⟩)⟩)
  · exact c_part hW hT _ _ (fun r _ _ _ _ hr => ⟨i1, i2, m_part hW hV _ _ (fun r2 _ _ _ _ _ _ _ hr2 => ⟨fun _ => hN HI, fun c => c (hr.uniq hr2)⟩)⟩)
  · exact c_chain hW hT _ _ _ (fun r _ _ hr => ⟨i1, i2, i3, m_chain hW hV _ _ _ (fun r2 _ _ _ _ _ _ _ hr2 => ⟨fun _ => hN HI, fun c => c (hr.uniq hn hr2)⟩)⟩)
  · exact c_bridge hW hT _ _ _ (fun r _ _ hr => ⟨i1, i2, i3, m_bridge hW hV _ _ _ (fun r2 _ _ _ _ _ _ _ hr2 => ⟨fun _ => hN HI, fun c => c (hr.uniq hr2)⟩)⟩)
  · exact c_round hW _ (fun r _ _ _ _ hr => ⟨i1, m_round hW hV _ (fun r2 _ _ _ _ _ _ _ _ _ hr2 => ⟨fun _ => hN HI, fun c => c (hr.uniq hW hr2)⟩)⟩)
  · exact c_extreme hW _ _ (fun r _ _ _ _ hr => ⟨i1, i2, m_extreme hW hV _ _ (fun r2 _ _ _ _ _ _ _ _ _ hr2 => ⟨fun _ => hN HI, fun c => c (hr.uniq hr2)⟩)⟩)
  · exact c_where hW _ _ (fun r _ _ _ _ hr => ⟨i1, i2, m_where hW hV _ _ (fun r2 _ _ _ _ _ _ _ _ _ hr2 => ⟨fun _ => hN HI, fun c => c (hr.uniq hr2)⟩)⟩)
  · exact c_touch hW _ _ _ (fun r _ _ _ _ hr => ⟨i1, i2, i3, m_touch hW hV _ _ _ (fun r2 _ _ _ _ _ _ _ _ _ hr2 => ⟨fun _ => hN HI, fun c => c (hr.uniq hr2)⟩)⟩)
  · exact c_area hW (fun _ _ _ _ => s_areaM hW hV (fun _ _ _ _ _ _ _ _ _ => ⟨fun _ => hN HI, fun c => c rfl⟩))
  · exact j_image hW hV J0 J1 _ i1 (fun _ _ _ _ _ _ _ _ _ _ _ _ g0 g1 => hN ⟨n, hW, rfl, hT, rfl, hV, g0, g1⟩)
  · exact j_restore J0 J1 _ i1 (hN HI) (fun _ _ _ m _ _ _ _ _ gW gT gV => hN ⟨m, gW, rfl, gT, rfl, gV, J0, J1⟩)
  · exact c_told hW hT _ (fun r _ _ _ _ hr => ⟨i1, m_told hW hV _ (fun r2 _ _ _ _ _ _ _ hr2 => ⟨fun _ => hN HI, fun c => c (hr.uniq hr2)⟩)⟩)
theorem L_4 {L j : Nat} (hL : L ≤ 2048) (hj : 4 * j < 9000) : (Int32.ofNat L - 4) < nI (4 * j) ↔ L < 4 * j + 4 := by
  rcases Nat.lt_or_ge L 4 with q | q
  · have hx : (Int32.ofNat L - 4).toInt = (L : Int) - 4 := by
      have : L = 0 ∨ L = 1 ∨ L = 2 ∨ L = 3 := by omega
      rcases this with z | z | z | z <;> subst z <;> decide
    rw [I_lt, hx, n_ti (by omega)]; omega
  · rw [show Int32.ofNat L - 4 = nI (L - 4) from n_sub (b := 4) q, n_lt (by omega) (by omega)]; omega
theorem pfs_00 : ∀ (m k : Nat), k ≤ m → 1 ≤ k → pfs 0 k = 0 := by
  intro m
  induction m with
  | zero => intro k a b; omega
  | succ m ih =>
    intro k a b
    rcases Nat.lt_or_ge k 2 with w | w
    · rw [show k = 1 by omega, pfs_1]
    · obtain ⟨i, h1, h2, h3⟩ := p_halves w
      have := ih i (by omega) h1
      have hz := psz_le 0 h1
      rcases h3 with h3 | h3
      · rw [h3, pfs_e 0 h1, this]
      · rw [h3, pfs_o 0 h1, this]; omega
theorem law_all {L : Nat} {xs : Nat → Int32} (hL : L ≤ 2048) : ∀ (d j : Nat), j ≤ L → L ≤ j + d → ∀ {pd px py : Nat → Int32} {pn : Int32} {qf qs tr : Nat → Int32} {ts : Int32} {gr : Nat → Int32} {gs : Int32} {rr : Nat → Int32} {rs : Int32} {ud ux uy : Nat → Int32} {un : Int32} {wd wx wy : Nat → Int32} {wn : Int32} {kp mx my mi : Nat → Int32} {mn : Int32} {mr mo : Nat → Int32} {mf mt md : Int32} {mc : Nat → Int32} {mk : Int32} {mg : Nat → Int32} {mh : Int32} {me : Nat → Int32} {mS : Nat → Int64} {mp : Nat → Int32}, INV pd px py pn qf qs ud ux uy un wd wx wy wn kp mx my mi mn me mS mp → wp_L_law_18 L xs (d + 1) pd px py pn qf qs tr ts gr gs rr rs ud ux uy un wd wx wy wn kp mx my mi mn mr mo mf mt md mc mk mg mh me mS mp (nI (4 * j)) := by
  intro d
  induction d with
  | zero =>
    intro j h1 h2
    intros
    refine wp_L_law_18_s ?_
    unfold wp_L_law_18b
    exact ⟨fun _ => trivial, fun c => absurd ((L_4 hL (by omega)).mpr (by omega)) c⟩
  | succ d ih =>
    intro j h1 h2
    intros
    rename_i HI
    refine wp_L_law_18_s ?_
    rcases Nat.lt_or_ge L (4 * j + 4) with w | w
    · unfold wp_L_law_18b
      exact ⟨fun _ => trivial, fun c => absurd ((L_4 hL (by omega)).mpr w) c⟩
    · exact law_step hL (by omega) (fun _ => w) (fun H => ih (j + 1) (by omega) (by omega) H) HI
theorem law_pure (L : Nat) (xs : Nat → Int32) (hL : L ≤ 2048) : ∃ k, wp_L_law_18 L xs k (fun _ => 0) (fun _ => 0) (fun _ => 0) 0 (fun _ => 0) (fun _ => 0) (fun _ => 0) 0 (fun _ => 0) 0 (fun _ => 0) 0 (fun _ => 0) (fun _ => 0) (fun _ => 0) 0 (fun _ => 0) (fun _ => 0) (fun _ => 0) 0 (fun _ => 0) (fun _ => 0) (fun _ => 0) (fun _ => 0) 0 (fun _ => 0) (fun _ => 0) 0 0 0 (fun _ => 0) 0 (fun _ => 0) 0 (fun _ => 0) (fun _ => 0) (fun _ => 0) 0 := by
  refine ⟨_, law_all hL L 0 (by omega) (by omega) ⟨0, ⟨by omega, fun k hk => by omega, fun j k hj => by omega, fun j k hj hk => by omega, fun k hk => by omega⟩, rfl, fun k k1 k2 => ?_, rfl, ⟨fun k hk => by omega, fun a ha _ => rfl⟩, Or.inl ⟨rfl, rfl⟩, Or.inl ⟨rfl, rfl⟩⟩⟩
  have hz := psz_le 0 k1
  rw [show psz 0 k = 0 by omega, pfs_00 k k (Nat.le_refl _) k1]
  exact ⟨rfl, rfl⟩
