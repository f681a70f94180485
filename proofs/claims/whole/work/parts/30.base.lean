theorem I_le (a b : Int32) : a ≤ b ↔ a.toInt ≤ b.toInt := Int32.le_iff_toInt_le
theorem I_lt (a b : Int32) : a < b ↔ a.toInt < b.toInt := Int32.lt_iff_toInt_lt
theorem I_eq (a b : Int32) : a = b ↔ a.toInt = b.toInt := Int32.toInt_inj.symm
theorem J_le (a b : Int64) : a ≤ b ↔ a.toInt ≤ b.toInt := Int64.le_iff_toInt_le
theorem J_lt (a b : Int64) : a < b ↔ a.toInt < b.toInt := Int64.lt_iff_toInt_lt
theorem J_eq (a b : Int64) : a = b ↔ a.toInt = b.toInt := Int64.toInt_inj.symm
theorem n_le {a b : Nat} (ha : a < 10000) (hb : b < 10000) : nI a ≤ nI b ↔ a ≤ b := nI_leI (by omega) (by omega)
theorem n_lt {a b : Nat} (ha : a < 10000) (hb : b < 10000) : nI a < nI b ↔ a < b := nI_ltI (by omega) (by omega)
theorem n_eq {a b : Nat} (ha : a < 10000) (hb : b < 10000) : nI a = nI b ↔ a = b := nI_eq (by omega) (by omega)
theorem n_in {i N : Nat} (h : i < N) (hN : N < 10000) : vp_in (nI i) N := vp_in_nI h (by omega)
theorem n_cl {i : Nat} (h : i < 10000) : (nI i).toNatClampNeg = i := nI_clamp (by omega)
theorem n_ti {i : Nat} (h : i < 10000) : (nI i).toInt = (i : Int) := nI_toInt (by omega)
theorem n_ge0 {i : Nat} (h : i < 10000) : ¬ nI i < 0 := nI_pos (by omega)
theorem n_ne6 {i : Nat} (h : i < 10000) : ¬ nI i = -6 := by
  rw [I_eq, n_ti h, show (-6 : Int32).toInt = -6 from rfl]; omega
theorem n_of {x : Int32} (h : ¬ x < 0) : ∃ j : Nat, j < 2 ^ 31 ∧ x = nI j := nI_of h
theorem n_m1 (i : Nat) : nI (i + 1) + (-1) = nI i := pk_m1 i
theorem n_s1 (i : Nat) : nI (i + 1) - 1 = nI i := nI_pred i
theorem n_sub {a b : Nat} (h : b ≤ a) : nI a - nI b = nI (a - b) := pk_sub h
theorem b_ne {a : Int32} (h : ¬ ¬ a = 0) : a = 0 := Classical.not_not.mp h
theorem up_s {f : Nat → Int32} {k : Nat} {x : Int32} : upd f k x k = x := pk_us
theorem up_n {f : Nat → Int32} {k j : Nat} {x : Int32} (h : j ≠ k) : upd f k x j = f j := pk_un h
theorem one_ne : ¬ (1 : Int32) = 0 := by decide
/-- the class's points: methods that read -/
theorem s_idAt_in {pd : Nat → Int32} {n k : Nat} {K : Int32 → Prop} (hn : n ≤ 32) (hk : k < n) (h : K (pd k)) : wp_X3_idAt pd (nI n) (nI k) K := by
  unfold wp_X3_idAt
  refine ⟨fun c => absurd c (n_ge0 (by omega)), fun _ => ⟨fun c => ?_, fun _ => ⟨n_in (by omega) (by omega), ?_⟩⟩⟩
  · rw [n_le (by omega) (by omega)] at c; omega
  · rw [n_cl (by omega)]; exact h
theorem s_idAt_out {pd : Nat → Int32} {n : Nat} {v : Int32} {K : Int32 → Prop} (hv : v < 0 ∨ nI n ≤ v) (h : K (-6)) : wp_X3_idAt pd (nI n) v K := by
  unfold wp_X3_idAt
  refine ⟨fun _ => h, fun c => ⟨fun _ => h, fun d => ?_⟩⟩
  rcases hv with e | e
  · exact absurd e c
  · exact absurd e d
theorem s_rankOf {pd : Nat → Int32} {n : Nat} (hn : n ≤ 32) (id : Int32) {K : Int32 → Prop} (h1 : ∀ k, k < n → pd k = id → K (nI k)) (h2 : (∀ k, k < n → ¬ pd k = id) → K (-6)) : wp_X3_rankOf pd (nI n) id K := by
  have key : ∀ d i, i + d = n → (∀ j, j < i → ¬ pd j = id) → wp_X3_rankOf_2 pd (nI n) id K (d + 1) (nI i) := by
    intro d
    induction d with
    | zero =>
      intro i hi hj
      change wp_X3_rankOf_2b _ _ _ _ _ _
      unfold wp_X3_rankOf_2b
      refine ⟨fun _ => h2 (fun k hk => hj k (by omega)), fun c => absurd ((n_le (by omega) (by omega)).mpr (by omega)) c⟩
    | succ d ih =>
      intro i hi hj
      change wp_X3_rankOf_2b _ _ _ _ _ _
      unfold wp_X3_rankOf_2b
      rw [n_cl (by omega)]
      refine ⟨fun c => ?_, fun _ => ⟨n_in (by omega) (by omega), fun c => ?_, fun c => h1 i (by omega) c⟩⟩
      · rw [n_le (by omega) (by omega)] at c; omega
      · rw [nI_1]
        exact ih (i + 1) (by omega) (fun j hjj => by rcases Nat.lt_or_ge j i with q | q; exact hj j q; rw [show j = i by omega]; exact c)
  unfold wp_X3_rankOf
  exact ⟨n + 1, key n 0 (by omega) (fun j hj => by omega)⟩
theorem s_isAt {px py : Nat → Int32} {k : Nat} {x y : Int32} {K : Int32 → Prop} (hk : k < 32) (h1 : px k = x → py k = y → K 1) (h2 : ¬ (px k = x ∧ py k = y) → K 0) : wp_X3_isAt px py (nI k) x y K := by
  unfold wp_X3_isAt
  rw [n_cl (by omega)]
  exact ⟨n_in hk (by omega), fun c => h2 (fun z => c z.1), fun c => ⟨n_in hk (by omega), fun d => h2 (fun z => d z.2), fun d => h1 c d⟩⟩
theorem s_isTaken {px py : Nat → Int32} {n : Nat} (hn : n ≤ 32) (x y : Int32) {K : Int32 → Prop} (h1 : ∀ k, k < n → px k = x → py k = y → K 1) (h2 : (∀ k, k < n → ¬ (px k = x ∧ py k = y)) → K 0) : wp_X3_isTaken px py (nI n) x y K := by
  have key : ∀ d i, i + d = n → (∀ j, j < i → ¬ (px j = x ∧ py j = y)) → wp_X3_isTaken_2 px py (nI n) x y K (d + 1) (nI i) := by
    intro d
    induction d with
    | zero =>
      intro i hi hj
      change wp_X3_isTaken_2b _ _ _ _ _ _ _ _
      unfold wp_X3_isTaken_2b
      refine ⟨fun _ => h2 (fun k hk => hj k (by omega)), fun c => absurd ((n_le (by omega) (by omega)).mpr (by omega)) c⟩
    | succ d ih =>
      intro i hi hj
      change wp_X3_isTaken_2b _ _ _ _ _ _ _ _
      unfold wp_X3_isTaken_2b
      refine ⟨fun c => ?_, fun _ => ?_⟩
      · rw [n_le (by omega) (by omega)] at c; omega
      · refine s_isAt (by omega) (fun a b => ⟨fun c => absurd c one_ne, fun _ => h1 i (by omega) a b⟩) (fun c => ⟨fun _ => ?_, fun d => absurd rfl d⟩)
        rw [nI_1]
        exact ih (i + 1) (by omega) (fun j hjj => by rcases Nat.lt_or_ge j i with q | q; exact hj j q; rw [show j = i by omega]; exact c)
  unfold wp_X3_isTaken
  exact ⟨n + 1, key n 0 (by omega) (fun j hj => by omega)⟩
theorem s_leastFreeId {pd : Nat → Int32} {n : Nat} (hn : n ≤ 32) {K : Int32 → Prop} (h1 : ∀ a, a < 32 → (∀ k, k < n → ¬ pd k = nI a) → (∀ b, b < a → ∃ k, k < n ∧ pd k = nI b) → K (nI a)) (h2 : (∀ b, b < 32 → ∃ k, k < n ∧ pd k = nI b) → K (-6)) : wp_X3_leastFreeId pd (nI n) K := by
  have key : ∀ d i, i + d = 32 → (∀ b, b < i → ∃ k, k < n ∧ pd k = nI b) → wp_X3_leastFreeId_2 pd (nI n) K (d + 1) (nI i) := by
    intro d
    induction d with
    | zero =>
      intro i hi hj
      change wp_X3_leastFreeId_2b _ _ _ _ _
      unfold wp_X3_leastFreeId_2b
      refine ⟨fun _ => h2 (fun k hk => hj k (by omega)), fun c => absurd ?_ c⟩
      rw [show (32 : Int32) = nI 32 from rfl, n_le (by omega) (by omega)]; omega
    | succ d ih =>
      intro i hi hj
      change wp_X3_leastFreeId_2b _ _ _ _ _
      unfold wp_X3_leastFreeId_2b
      refine ⟨fun c => ?_, fun _ => ?_⟩
      · rw [show (32 : Int32) = nI 32 from rfl, n_le (by omega) (by omega)] at c; omega
      · refine s_rankOf hn _ (fun k hk e => ⟨fun _ => ?_, fun c => absurd c (n_ne6 (by omega))⟩) (fun c => ⟨fun d => absurd rfl d, fun _ => h1 i (by omega) c hj⟩)
        rw [nI_1]
        exact ih (i + 1) (by omega) (fun j hjj => by rcases Nat.lt_or_ge j i with q | q; exact hj j q; rw [show j = i by omega]; exact ⟨k, hk, e⟩)
  unfold wp_X3_leastFreeId
  exact ⟨33, key 32 0 (by omega) (fun j hj => by omega)⟩
