/-- which ranks a PART has: how many, and its first -/
def psz (n k : Nat) : Nat := if h : k ≤ 1 then n else if 1 < psz n (k / 2) then (if k % 2 = 0 then (psz n (k / 2) + 1) / 2 else psz n (k / 2) - (psz n (k / 2) + 1) / 2) else 0
termination_by k
decreasing_by all_goals omega
def pfs (n k : Nat) : Nat := if h : k ≤ 1 then 0 else if k % 2 = 0 then pfs n (k / 2) else pfs n (k / 2) + (psz n (k / 2) + 1) / 2
termination_by k
decreasing_by all_goals omega
theorem psz_1 (n : Nat) : psz n 1 = n := by rw [psz]; simp
theorem pfs_1 (n : Nat) : pfs n 1 = 0 := by rw [pfs]; simp
theorem psz_e (n : Nat) {k : Nat} (hk : 1 ≤ k) : psz n (2 * k) = if 1 < psz n k then (psz n k + 1) / 2 else 0 := by
  rw [psz, dif_neg (by omega), show 2 * k / 2 = k by omega, if_pos (show 2 * k % 2 = 0 by omega)]
theorem psz_o (n : Nat) {k : Nat} (hk : 1 ≤ k) : psz n (2 * k + 1) = if 1 < psz n k then psz n k - (psz n k + 1) / 2 else 0 := by
  rw [psz, dif_neg (by omega), show (2 * k + 1) / 2 = k by omega, if_neg (show ¬ (2 * k + 1) % 2 = 0 by omega)]
theorem pfs_e (n : Nat) {k : Nat} (hk : 1 ≤ k) : pfs n (2 * k) = pfs n k := by
  rw [pfs, dif_neg (by omega), show 2 * k / 2 = k by omega, if_pos (show 2 * k % 2 = 0 by omega)]
theorem pfs_o (n : Nat) {k : Nat} (hk : 1 ≤ k) : pfs n (2 * k + 1) = pfs n k + (psz n k + 1) / 2 := by
  rw [pfs, dif_neg (by omega), show (2 * k + 1) / 2 = k by omega, if_neg (show ¬ (2 * k + 1) % 2 = 0 by omega)]
theorem p_halves {k : Nat} (hk : 2 ≤ k) : ∃ j, 1 ≤ j ∧ j < k ∧ (k = 2 * j ∨ k = 2 * j + 1) := ⟨k / 2, by omega, by omega, by omega⟩
theorem p_in (n : Nat) : ∀ (m k : Nat), k ≤ m → 1 ≤ k → psz n k ≤ n ∧ (0 < psz n k → pfs n k + psz n k ≤ n) := by
  intro m
  induction m with
  | zero => intro k h1 h2; omega
  | succ m ih =>
    intro k h1 h2
    by_cases hk : k = 1
    · subst hk; rw [psz_1, pfs_1]; omega
    · obtain ⟨j, hj, hjk, e⟩ := p_halves (show 2 ≤ k by omega)
      have := ih j (by omega) hj
      rcases e with rfl | rfl
      · rw [psz_e n hj, pfs_e n hj]
        split <;> omega
      · rw [psz_o n hj, pfs_o n hj]
        split <;> omega
theorem psz_le (n : Nat) {k : Nat} (hk : 1 ≤ k) : psz n k ≤ n := (p_in n k k (Nat.le_refl k) hk).1
theorem pfs_le (n : Nat) {k : Nat} (hk : 1 ≤ k) (h : 0 < psz n k) : pfs n k + psz n k ≤ n := (p_in n k k (Nat.le_refl k) hk).2 h
theorem pfs_bd (n : Nat) : ∀ (m k : Nat), k ≤ m → 1 ≤ k → k < 64 → pfs n k ≤ 6 * n + 6 ∧ (k < 32 → pfs n k ≤ 5 * n + 5) ∧ (k < 16 → pfs n k ≤ 4 * n + 4) ∧ (k < 8 → pfs n k ≤ 3 * n + 3) ∧ (k < 4 → pfs n k ≤ 2 * n + 2) ∧ (k < 2 → pfs n k ≤ n + 1) := by
  intro m
  induction m with
  | zero => intro k h1 h2; omega
  | succ m ih =>
    intro k h1 h2 h3
    by_cases hk : k = 1
    · subst hk; rw [pfs_1]; omega
    · obtain ⟨j, hj, hjk, e⟩ := p_halves (show 2 ≤ k by omega)
      have i1 := ih j (by omega) hj (by omega)
      have i2 := psz_le n hj
      rcases e with rfl | rfl
      · rw [pfs_e n hj]; omega
      · rw [pfs_o n hj]; omega
theorem pfs_s (n : Nat) (hn : n ≤ 32) {k : Nat} (hk : 1 ≤ k) (h : k < 64) : pfs n k ≤ 198 := by
  have := (pfs_bd n k k (Nat.le_refl k) hk h).1
  omega
theorem psz_d (n : Nat) (hn : n ≤ 32) : ∀ (m k : Nat), k ≤ m → 1 ≤ k → (2 ≤ k → psz n k ≤ 16) ∧ (4 ≤ k → psz n k ≤ 8) ∧ (8 ≤ k → psz n k ≤ 4) ∧ (16 ≤ k → psz n k ≤ 2) ∧ (32 ≤ k → psz n k ≤ 1) := by
  intro m
  induction m with
  | zero => intro k h1 h2; omega
  | succ m ih =>
    intro k h1 h2
    by_cases hk : k = 1
    · subst hk; omega
    · obtain ⟨j, hj, hjk, e⟩ := p_halves (show 2 ≤ k by omega)
      have i1 := ih j (by omega) hj
      have i2 := psz_le n hj
      rcases e with rfl | rfl
      · rw [psz_e n hj]; split <;> omega
      · rw [psz_o n hj]; split <;> omega
theorem psz_top (n : Nat) (hn : n ≤ 32) {k : Nat} (hk : 32 ≤ k) : psz n k ≤ 1 := (psz_d n hn k k (Nat.le_refl k) (by omega)).2.2.2.2 hk
def PT (qf qs : Nat → Int32) (n : Nat) : Prop := ∀ k, 1 ≤ k → k < 64 → qs k = nI (psz n k) ∧ qf k = nI (pfs n k)
theorem n_2m (i : Nat) : (2 : Int32) * nI i = nI (2 * i) := pk_mul 2 i
theorem n_half {z : Nat} (h : z < 1000) : (nI z + 1) / 2 = nI ((z + 1) / 2) := by
  rw [nI_1]; exact pk_div (a := z + 1) (d := 2) (by omega) (by omega) (by omega)
theorem s_splitPart {qf qs : Nat → Int32} {i z : Nat} (hi : 1 ≤ i) (hi2 : i < 32) (hz : qs i = nI z) (hz2 : z ≤ 32) {K : (Nat → Int32) → (Nat → Int32) → Prop}
    (h : K (upd (upd qf (2 * i) (qf i)) (2 * i + 1) (qf i + nI ((z + 1) / 2))) (upd (upd qs (2 * i) (nI (if 1 < z then (z + 1) / 2 else 0))) (2 * i + 1) (nI (if 1 < z then z - (z + 1) / 2 else 0)))) : wp_X2_splitPart qf qs (nI i) K := by
  have e1 : upd qf (2 * i) (qf i) i = qf i := up_n (by omega)
  unfold wp_X2_splitPart
  rw [n_cl (by omega), hz, show (1 : Int32) = nI 1 from rfl, n_le (by omega) (by omega)]
  refine ⟨n_in (by omega) (by omega), fun c => ?_, fun c => ?_⟩
  · unfold wp_X2_splitPart_17
    rw [n_2m, n_half (by omega), n_cl (i := i) (by omega), n_cl (i := 2 * i) (by omega)]
    refine ⟨n_in (by omega) (by omega), n_in (by omega) (by omega), fun _ => ?_, fun c => absurd rfl c⟩
    unfold wp_X2_splitPart_56
    rw [n_2m, nI_1, n_cl (i := i) (by omega), n_cl (i := 2 * i) (by omega), n_cl (i := 2 * i + 1) (by omega), e1]
    refine ⟨n_in (by omega) (by omega), n_in (by omega) (by omega), n_in (by omega) (by omega), fun _ => ⟨n_in (by omega) (by omega), ?_⟩, fun c => absurd rfl c⟩
    rw [if_neg (by omega), if_neg (by omega)] at h
    exact h
  · unfold wp_X2_splitPart_17
    rw [n_2m, n_half (by omega), n_cl (i := i) (by omega), n_cl (i := 2 * i) (by omega)]
    refine ⟨n_in (by omega) (by omega), n_in (by omega) (by omega), fun c => absurd c one_ne, fun _ => ?_⟩
    unfold wp_X2_splitPart_56
    rw [n_2m, nI_1, n_cl (i := i) (by omega), n_cl (i := 2 * i) (by omega), n_cl (i := 2 * i + 1) (by omega), e1, n_sub (by omega)]
    refine ⟨n_in (by omega) (by omega), n_in (by omega) (by omega), n_in (by omega) (by omega), fun c => absurd c one_ne, fun _ => ⟨n_in (by omega) (by omega), ?_⟩⟩
    rw [if_pos (by omega), if_pos (by omega)] at h
    exact h
theorem s_split {qf qs : Nat → Int32} {n : Nat} (hn : n ≤ 32) {K : (Nat → Int32) → (Nat → Int32) → Prop} (hK : ∀ qf' qs', PT qf' qs' n → K qf' qs') : wp_X2_split qf qs (nI n) K := by
  have key : ∀ (d i : Nat) (f g : Nat → Int32), i + d = 32 → 1 ≤ i → (∀ k, 1 ≤ k → k < 2 * i → g k = nI (psz n k) ∧ f k = nI (pfs n k)) → wp_X2_split_16 (nI n) K (d + 1) f g (nI i) := by
    intro d
    induction d with
    | zero =>
      intro i f g hi h1 h2
      refine wp_X2_split_16_s ?_
      unfold wp_X2_split_16b
      refine ⟨fun _ => hK f g (fun k a b => h2 k a (by omega)), fun c => absurd ?_ c⟩
      rw [n_2m, nI_1, show (63 : Int32) = nI 63 from rfl, n_lt (by omega) (by omega)]; omega
    | succ d ih =>
      intro i f g hi h1 h2
      refine wp_X2_split_16_s ?_
      unfold wp_X2_split_16b
      refine ⟨fun c => ?_, fun _ => ?_⟩
      · rw [n_2m, nI_1, show (63 : Int32) = nI 63 from rfl, n_lt (by omega) (by omega)] at c; omega
      · have hz := h2 i h1 (by omega)
        have hzl := psz_le n h1
        refine s_splitPart h1 (by omega) hz.1 (by omega) ?_
        rw [nI_1]
        refine ih (i + 1) _ _ (by omega) (by omega) (fun k a b => ?_)
        by_cases k1 : k = 2 * i + 1
        · subst k1
          rw [up_s, up_s, psz_o n h1, pfs_o n h1, hz.2, nI_add]
          exact ⟨rfl, rfl⟩
        · rw [up_n k1, up_n k1]
          by_cases k2 : k = 2 * i
          · subst k2
            rw [up_s, up_s, psz_e n h1, pfs_e n h1]
            exact ⟨rfl, hz.2⟩
          · rw [up_n k2, up_n k2]
            exact h2 k a (by omega)
  unfold wp_X2_split
  refine ⟨n_in (i := 1) (by omega) (by omega), n_in (i := 1) (by omega) (by omega), 32, ?_⟩
  rw [show (1 : Int32).toNatClampNeg = 1 from rfl]
  refine key 31 1 _ _ (by omega) (by omega) (fun k a b => ?_)
  rw [show k = 1 by omega, up_s, up_s, psz_1, pfs_1]
  exact ⟨rfl, rfl⟩
theorem v_part (v : Int32) : (v < 1 ∨ 63 < v) ∨ ∃ k, 1 ≤ k ∧ k < 64 ∧ v = nI k := by
  by_cases h1 : v < 1
  · exact Or.inl (Or.inl h1)
  · by_cases h2 : 63 < v
    · exact Or.inl (Or.inr h2)
    · have h0 : ¬ v < 0 := by
        rw [I_lt] at *
        have e1 : (1 : Int32).toInt = 1 := rfl
        have e0 : (0 : Int32).toInt = 0 := rfl
        omega
      obtain ⟨j, hj, rfl⟩ := n_of h0
      rw [I_lt] at h1 h2
      have e1 : (1 : Int32).toInt = 1 := rfl
      have e2 : (63 : Int32).toInt = 63 := rfl
      rw [nI_toInt hj] at h1 h2
      exact Or.inr ⟨j, by omega, by omega, rfl⟩
theorem s_has {qf qs : Nat → Int32} {n : Nat} (hn : n ≤ 32) (hT : PT qf qs n) (v : Int32) {K : Int32 → Prop} (h1 : ∀ k, 1 ≤ k → k < 64 → v = nI k → 0 < psz n k → K 1) (h0 : (∀ k, 1 ≤ k → k < 64 → v = nI k → psz n k = 0) → K 0) : wp_X2_has qs v K := by
  unfold wp_X2_has
  rcases v_part v with h | ⟨k, hk1, hk2, rfl⟩
  · have hz : K 0 := h0 (fun k a b e => by
      subst e
      rw [show (1 : Int32) = nI 1 from rfl, show (63 : Int32) = nI 63 from rfl, n_lt (by omega) (by omega), n_lt (by omega) (by omega)] at h
      omega)
    refine ⟨fun _ => hz, fun c => ⟨fun _ => hz, fun d => ?_⟩⟩
    rcases h with h | h
    · exact absurd h c
    · exact absurd h d
  · have hz := psz_le n hk1
    rw [n_cl (by omega), (hT k hk1 hk2).1, show (0 : Int32) = nI 0 from rfl, n_le (by omega) (by omega), show (1 : Int32) = nI 1 from rfl, show (63 : Int32) = nI 63 from rfl, n_lt (by omega) (by omega), n_lt (by omega) (by omega)]
    refine ⟨fun c => by omega, fun _ => ⟨fun c => by omega, fun _ => ⟨n_in (by omega) (by omega), fun c => h0 (fun j _ _ e => ?_), fun c => h1 k hk1 hk2 rfl (by omega)⟩⟩⟩
    rw [n_eq (by omega) (by omega)] at e
    subst e; omega
theorem s_hasHalves {qf qs : Nat → Int32} {n : Nat} (hn : n ≤ 32) (hT : PT qf qs n) {k : Nat} (hk1 : 1 ≤ k) (hk2 : k < 64) {K : Int32 → Prop} (h1 : 1 < psz n k → k < 32 → K 1) (h0 : psz n k ≤ 1 → K 0) : wp_X2_hasHalves qs (nI k) K := by
  have hz := psz_le n hk1
  unfold wp_X2_hasHalves
  refine s_has hn hT _ (fun j a b e c => ⟨fun q => absurd q one_ne, fun _ => ⟨fun c => ?_, fun c => ?_⟩⟩) (fun c => ⟨fun _ => h0 ?_, fun q => absurd rfl q⟩)
  · rw [show (31 : Int32) = nI 31 from rfl, n_lt (by omega) (by omega)] at c
    exact h0 (psz_top n hn (by omega))
  · rw [show (31 : Int32) = nI 31 from rfl, n_lt (by omega) (by omega)] at c
    rw [n_cl (by omega), (hT k hk1 hk2).1, show (1 : Int32) = nI 1 from rfl, n_le (by omega) (by omega)]
    exact ⟨n_in (by omega) (by omega), fun d => h0 d, fun d => h1 (by omega) (by omega)⟩
  · have := c k hk1 hk2 rfl; omega
theorem s_holds {qf qs : Nat → Int32} {n : Nat} (hn : n ≤ 32) (hT : PT qf qs n) {k r : Nat} (hk1 : 1 ≤ k) (hk2 : k < 64) (hr : r < 32) {K : Int32 → Prop} (h1 : 0 < psz n k → pfs n k ≤ r → r < pfs n k + psz n k → K 1) (h0 : ¬ (0 < psz n k ∧ pfs n k ≤ r ∧ r < pfs n k + psz n k) → K 0) : wp_X2_holds qf qs (nI k) (nI r) K := by
  have hz := psz_le n hk1
  have hf := pfs_s n hn hk1 hk2
  unfold wp_X2_holds
  refine s_has hn hT _ (fun j a b e c => ⟨fun q => absurd q one_ne, fun _ => ?_⟩) (fun c => ⟨fun _ => h0 (fun z => ?_), fun q => absurd rfl q⟩)
  · rw [n_eq (by omega) (by omega)] at e
    subst e
    rw [n_cl (by omega), (hT k hk1 hk2).1, (hT k hk1 hk2).2, nI_add, n_lt (by omega) (by omega), n_le (by omega) (by omega)]
    exact ⟨n_in (by omega) (by omega), fun d => h0 (fun z => by omega), fun d => ⟨n_in (by omega) (by omega), n_in (by omega) (by omega), fun e => h0 (fun z => by omega), fun e => h1 c (by omega) (by omega)⟩⟩
  · have := c k hk1 hk2 rfl; omega
/-- how many numbers under m are so -/
def ctb (p : Nat → Bool) : Nat → Nat
  | 0 => 0
  | m + 1 => ctb p m + (if p m then 1 else 0)
theorem ctb_le (p : Nat → Bool) : ∀ m, ctb p m ≤ m
  | 0 => Nat.le_refl 0
  | m + 1 => by
    have := ctb_le p m
    unfold ctb
    split <;> omega
def isP (n k : Nat) : Bool := decide (1 ≤ k ∧ 0 < psz n k)
theorem isP_t {n k : Nat} (h1 : 1 ≤ k) (h : 0 < psz n k) : isP n k = true := decide_eq_true ⟨h1, h⟩
theorem isP_f {n k : Nat} (h : psz n k = 0) : isP n k = false := decide_eq_false (by omega)
theorem s_howMany {qf qs : Nat → Int32} {n : Nat} (hn : n ≤ 32) (hT : PT qf qs n) {K : Int32 → Prop} (h : K (nI (ctb (isP n) 64))) : wp_X2_howMany qs K := by
  have key : ∀ (d i : Nat), i + d = 64 → 1 ≤ i → wp_X2_howMany_4 qs K (d + 1) (nI (ctb (isP n) i)) (nI i) := by
    intro d
    induction d with
    | zero =>
      intro i hi h1
      refine wp_X2_howMany_4_s ?_
      unfold wp_X2_howMany_4b
      rw [show i = 64 by omega]
      exact ⟨fun _ => h, fun c => absurd (by decide) c⟩
    | succ d ih =>
      intro i hi h1
      refine wp_X2_howMany_4_s ?_
      unfold wp_X2_howMany_4b
      have := ih (i + 1) (by omega) (by omega)
      refine ⟨fun c => ?_, fun _ => s_has hn hT _ (fun j a b e c => ⟨fun q => absurd q one_ne, fun _ => ?_⟩) (fun c => ⟨fun _ => ?_, fun q => absurd rfl q⟩)⟩
      · rw [show (63 : Int32) = nI 63 from rfl, n_lt (by omega) (by omega)] at c; omega
      · rw [n_eq (by omega) (by omega)] at e
        subst e
        rw [nI_1, nI_1]
        unfold ctb at this
        rw [isP_t h1 c] at this
        exact this
      · rw [nI_1]
        unfold ctb at this
        rw [isP_f (c i h1 (by omega) rfl)] at this
        exact this
  unfold wp_X2_howMany
  have := key 63 1 (by omega) (by omega)
  exact ⟨64, this⟩
theorem s_depthOf {k : Nat} (hk1 : 1 ≤ k) (hk2 : k < 64) {K : Int32 → Prop} (h : K (nI k.log2)) : wp_X2_depthOf (nI k) K := by
  have key : ∀ (f d q : Nat), q < 64 → d ≤ 100 → q ≤ f → (q = 0 → d = k.log2) → (1 ≤ q → d + 1 + q.log2 = k.log2) → wp_X2_depthOf_6 (nI k) K (f + 1) (nI d) (nI q) := by
    intro f
    induction f with
    | zero =>
      intro d q hq hd hf h0 h1
      refine wp_X2_depthOf_6_s ?_
      unfold wp_X2_depthOf_6b
      rw [show q = 0 by omega, h0 (by omega)]
      exact ⟨fun _ => h, fun c => absurd (by decide) c⟩
    | succ f ih =>
      intro d q hq hd hf h0 h1
      refine wp_X2_depthOf_6_s ?_
      unfold wp_X2_depthOf_6b
      rw [show (1 : Int32) = nI 1 from rfl, n_lt (by omega) (by omega), show (2 : Int32) = nI 2 from rfl, pk_div (by omega) (by omega) (by omega), nI_add]
      refine ⟨fun c => by rw [h0 (by omega)]; exact h, fun c => ?_⟩
      have e := h1 (by omega)
      have hkl : k.log2 ≤ 63 := by
        have := Nat.log2_lt (n := k) (k := 63) (by omega)
        have h9 : k < 2 ^ 63 := by omega
        have := this.mpr h9
        omega
      refine ih (d + 1) (q / 2) (by omega) (by omega) (by omega) (fun z => ?_) (fun z => ?_)
      · have : q = 1 := by omega
        subst this
        rw [show (1 : Nat).log2 = 0 by decide] at e
        omega
      · rw [Nat.log2_def, if_pos (by omega)] at e
        omega
  unfold wp_X2_depthOf
  rw [show (2 : Int32) = nI 2 from rfl, pk_div (by omega) (by omega) (by omega)]
  refine ⟨k + 1, key k 0 (k / 2) (by omega) (by omega) (by omega) (fun z => ?_) (fun z => ?_)⟩
  · rw [show k = 1 by omega]; decide
  · conv => rhs; rw [Nat.log2_def, if_pos (show 2 ≤ k by omega)]
    omega
theorem s_greatestDepth {qf qs : Nat → Int32} {n : Nat} (hn : n ≤ 32) (hT : PT qf qs n) {K : Int32 → Prop} (h1 : ∀ k, 1 ≤ k → k < 64 → 0 < psz n k → (∀ j, k < j → j < 64 → psz n j = 0) → K (nI k.log2)) (h0 : (∀ j, 1 ≤ j → j < 64 → psz n j = 0) → K (-6)) : wp_X2_greatestDepth qs K := by
  have key : ∀ (i : Nat), i < 64 → (∀ j, i < j → j < 64 → psz n j = 0) → wp_X2_greatestDepth_3 qs K (i + 1) (nI i) := by
    intro i
    induction i with
    | zero =>
      intro hi hj
      refine wp_X2_greatestDepth_3_s ?_
      unfold wp_X2_greatestDepth_3b
      exact ⟨fun _ => h0 (fun j a b => hj j (by omega) b), fun c => absurd (by decide) c⟩
    | succ i ih =>
      intro hi hj
      refine wp_X2_greatestDepth_3_s ?_
      unfold wp_X2_greatestDepth_3b
      rw [n_m1]
      refine ⟨fun c => ?_, fun _ => s_has hn hT _ (fun j a b e c => ⟨fun q => absurd q one_ne, fun _ => ?_⟩) (fun c => ⟨fun _ => ?_, fun q => absurd rfl q⟩)⟩
      · rw [show (1 : Int32) = nI 1 from rfl, n_lt (by omega) (by omega)] at c; omega
      · rw [n_eq (by omega) (by omega)] at e
        subst e
        exact s_depthOf (by omega) hi (h1 _ (by omega) hi c hj)
      · refine ih (by omega) (fun j a b => ?_)
        by_cases q : j = i + 1
        · rw [q]; exact c _ (by omega) hi rfl
        · exact hj j (by omega) b
  unfold wp_X2_greatestDepth
  exact ⟨64, key 63 (by omega) (fun j a b => by omega)⟩
