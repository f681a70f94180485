/-- a row of the one is a row of the other -/
def e3 (pd px py : Nat → Int32) (j : Nat) (qd qx qy : Nat → Int32) (k : Nat) : Prop := pd j = qd k ∧ px j = qx k ∧ py j = qy k
theorem e3_rf {pd px py : Nat → Int32} {j : Nat} : e3 pd px py j pd px py j := ⟨rfl, rfl, rfl⟩
theorem e3_up_n {pd px py qd qx qy : Nat → Int32} {i j k : Nat} {a x y : Int32} (h : e3 pd px py j qd qx qy k) (hj : j ≠ i) : e3 (upd pd i a) (upd px i x) (upd py i y) j qd qx qy k := by
  unfold e3 at *
  rw [up_n hj, up_n hj, up_n hj]; exact h
theorem e3_up_s {pd px py qd qx qy : Nat → Int32} {i k : Nat} {a x y : Int32} (h1 : a = qd k) (h2 : x = qx k) (h3 : y = qy k) : e3 (upd pd i a) (upd px i x) (upd py i y) i qd qx qy k := by
  unfold e3
  rw [up_s, up_s, up_s]; exact ⟨h1, h2, h3⟩
def bf (x y : Int32) (px py : Nat → Int32) (k : Nat) : Prop := x < px k ∨ (x = px k ∧ y < py k)
theorem s_isBefore {px py : Nat → Int32} {k : Nat} {x y : Int32} {K : Int32 → Prop} (hk : k < 32) (h1 : bf x y px py k → K 1) (h2 : ¬ bf x y px py k → K 0) : wp_X3_isBefore px py x y (nI k) K := by
  unfold wp_X3_isBefore
  rw [n_cl (by omega)]
  refine ⟨n_in hk (by omega), fun c => h1 (Or.inl c), fun c => ⟨n_in hk (by omega), fun d => h2 (fun z => ?_), fun d => ⟨n_in hk (by omega), fun e => h2 (fun z => ?_), fun e => h1 (Or.inr ⟨d, ?_⟩)⟩⟩⟩
  · rcases z with z | z
    · exact c z
    · exact d z.1
  · rcases z with z | z
    · exact c z
    · have := z.2; rw [I_lt] at this; rw [I_le] at e; omega
  · rw [I_le] at e; rw [I_lt]; omega
theorem s_setRow {pd px py : Nat → Int32} {k : Nat} {a x y : Int32} {K : (Nat → Int32) → (Nat → Int32) → (Nat → Int32) → Prop} (hk : k < 32) (h : K (upd pd k a) (upd px k x) (upd py k y)) : wp_X3_setRow pd px py (nI k) a x y K := by
  unfold wp_X3_setRow
  rw [n_cl (by omega)]
  exact ⟨n_in hk (by omega), n_in hk (by omega), n_in hk (by omega), h⟩
theorem s_insert {pd px py : Nat → Int32} {n : Nat} (hn : n < 32) (id x y : Int32) {K : (Nat → Int32) → (Nat → Int32) → (Nat → Int32) → Int32 → Prop}
    (hK : ∀ (p : Nat) (qd qx qy : Nat → Int32), p ≤ n → (∀ k, k + 1 = p → ¬ bf x y px py k) → (∀ k, p ≤ k → k < n → bf x y px py k) → (∀ k, k < p → e3 qd qx qy k pd px py k) → (qd p = id ∧ qx p = x ∧ qy p = y) → (∀ k, p ≤ k → k < n → e3 qd qx qy (k + 1) pd px py k) → K qd qx qy (nI (n + 1))) :
    wp_X3_insert pd px py (nI n) id x y K := by
  have fin : ∀ (i : Nat) (qd qx qy : Nat → Int32), i ≤ n → (∀ k, k < i → e3 qd qx qy k pd px py k) → (∀ k, i ≤ k → k < n → e3 qd qx qy (k + 1) pd px py k ∧ bf x y px py k) → (∀ k, k + 1 = i → ¬ bf x y px py k) → wp_X3_insert_73 id x y K qd qx qy (nI n) (nI i) := by
    intro i qd qx qy hi h1 h2 h3
    unfold wp_X3_insert_73
    refine s_setRow (by omega) ?_
    rw [nI_1]
    refine hK i _ _ _ hi h3 (fun k a b => (h2 k a b).2) (fun k a => e3_up_n (h1 k a) (by omega)) ⟨up_s, up_s, up_s⟩ (fun k a b => e3_up_n (h2 k a b).1 (by omega))
  have key : ∀ (i : Nat) (qd qx qy : Nat → Int32), i ≤ n → (∀ k, k < i → e3 qd qx qy k pd px py k) → (∀ k, i ≤ k → k < n → e3 qd qx qy (k + 1) pd px py k ∧ bf x y px py k) → wp_X3_insert_16 id x y K (nI n) (i + 1) qd qx qy (nI i) := by
    intro i
    induction i with
    | zero =>
      intro qd qx qy hi h1 h2
      refine wp_X3_insert_16_s ?_
      unfold wp_X3_insert_16b
      refine ⟨fun _ => fin 0 qd qx qy hi h1 h2 (fun k hk => by omega), fun c => absurd (by decide) c⟩
    | succ i ih =>
      intro qd qx qy hi h1 h2
      refine wp_X3_insert_16_s ?_
      unfold wp_X3_insert_16b
      rw [n_s1, n_m1, n_cl (i := i) (by omega)]
      refine ⟨fun c => ?_, fun _ => ?_⟩
      · rw [show (0 : Int32) = nI 0 from rfl, n_le (by omega) (by omega)] at c; omega
      · have e := h1 i (by omega)
        have hb : bf x y qx qy i ↔ bf x y px py i := by unfold bf; rw [e.2.1, e.2.2]
        refine s_isBefore (by omega) (fun a => ⟨fun c => absurd c one_ne, fun _ => ⟨n_in (by omega) (by omega), n_in (by omega) (by omega), n_in (by omega) (by omega), ?_⟩⟩) (fun a => ⟨fun _ => ?_, fun c => absurd rfl c⟩)
        · refine s_setRow (by omega) ?_
          refine ih _ _ _ (by omega) (fun k hk => e3_up_n (h1 k (by omega)) (by omega)) (fun k a1 a2 => ?_)
          by_cases hki : k = i
          · subst hki
            exact ⟨e3_up_s e.1 e.2.1 e.2.2, hb.mp a⟩
          · have := h2 k (by omega) a2
            exact ⟨e3_up_n this.1 (by omega), this.2⟩
        · exact fin (i + 1) qd qx qy hi h1 h2 (fun k hk => by rw [show k = i by omega]; exact fun z => a (hb.mpr z))
  unfold wp_X3_insert
  refine ⟨fun _ => ⟨n + 1, key n pd px py (Nat.le_refl n) (fun k _ => e3_rf) (fun k a b => by omega)⟩, fun c => absurd ?_ c⟩
  rw [show (32 : Int32) = nI 32 from rfl, n_lt (by omega) (by omega)]; exact hn
theorem s_delete {pd px py : Nat → Int32} {n r : Nat} (hn : n ≤ 32) (hr : r < n) {K : (Nat → Int32) → (Nat → Int32) → (Nat → Int32) → Int32 → Prop}
    (hK : ∀ (qd qx qy : Nat → Int32), (∀ k, k < r → e3 qd qx qy k pd px py k) → (∀ k, r ≤ k → k + 1 < n → e3 qd qx qy k pd px py (k + 1)) → K qd qx qy (nI (n - 1))) :
    wp_X3_delete pd px py (nI n) (nI r) K := by
  have key : ∀ (d i : Nat) (qd qx qy : Nat → Int32), i + d = n → r < i → (∀ k, k < r → e3 qd qx qy k pd px py k) → (∀ k, r ≤ k → k + 1 < i → e3 qd qx qy k pd px py (k + 1)) → (∀ k, i ≤ k → e3 qd qx qy k pd px py k) → wp_X3_delete_17 (nI r) K (nI n) (d + 1) qd qx qy (nI i) := by
    intro d
    induction d with
    | zero =>
      intro i qd qx qy hi hri h1 h2 h3
      refine wp_X3_delete_17_s ?_
      unfold wp_X3_delete_17b
      refine ⟨fun _ => ?_, fun c => absurd ((n_le (by omega) (by omega)).mpr (by omega)) c⟩
      rw [show n = (n - 1) + 1 by omega, n_s1]
      exact hK qd qx qy h1 (fun k a b => h2 k a (by omega))
    | succ d ih =>
      intro i qd qx qy hi hri h1 h2 h3
      refine wp_X3_delete_17_s ?_
      unfold wp_X3_delete_17b
      obtain ⟨j, rfl⟩ : ∃ j, i = j + 1 := ⟨i - 1, by omega⟩
      rw [n_s1, n_cl (by omega), nI_1]
      refine ⟨fun c => ?_, fun _ => ⟨n_in (by omega) (by omega), n_in (by omega) (by omega), n_in (by omega) (by omega), ?_⟩⟩
      · rw [n_le (by omega) (by omega)] at c; omega
      · refine s_setRow (by omega) ?_
        have e := h3 (j + 1) (Nat.le_refl _)
        refine ih (j + 2) _ _ _ (by omega) (by omega) (fun k hk => e3_up_n (h1 k hk) (by omega)) (fun k a b => ?_) (fun k a => e3_up_n (h3 k (by omega)) (by omega))
        by_cases hkj : k = j
        · subst hkj
          exact e3_up_s e.1 e.2.1 e.2.2
        · exact e3_up_n (h2 k a (by omega)) hkj
  unfold wp_X3_delete
  refine ⟨fun c => absurd c (n_ge0 (by omega)), fun _ => ⟨fun _ => ?_, fun c => absurd ((n_lt (by omega) (by omega)).mpr hr) c⟩⟩
  rw [nI_1]
  exact ⟨(n - (r + 1)) + 1, key (n - (r + 1)) (r + 1) pd px py (by omega) (by omega) (fun k _ => e3_rf) (fun k a b => by omega) (fun k _ => e3_rf)⟩
theorem s_copyFrom {pd px py zd zx zy : Nat → Int32} {pn : Int32} {n : Nat} (hn : n ≤ 32) {K : (Nat → Int32) → (Nat → Int32) → (Nat → Int32) → Int32 → Prop}
    (hK : ∀ (qd qx qy : Nat → Int32), (∀ k, k < n → e3 qd qx qy k zd zx zy k) → K qd qx qy (nI n)) :
    wp_X3_copyFrom pd px py pn zd zx zy (nI n) K := by
  have key : ∀ (d i : Nat) (qd qx qy : Nat → Int32), i + d = n → (∀ k, k < i → e3 qd qx qy k zd zx zy k) → wp_X3_copyFrom_2 zd zx zy (nI n) K pn (d + 1) qd qx qy (nI i) := by
    intro d
    induction d with
    | zero =>
      intro i qd qx qy hi h1
      refine wp_X3_copyFrom_2_s ?_
      unfold wp_X3_copyFrom_2b
      exact ⟨fun _ => hK qd qx qy (fun k hk => h1 k (by omega)), fun c => absurd ((n_le (by omega) (by omega)).mpr (by omega)) c⟩
    | succ d ih =>
      intro i qd qx qy hi h1
      refine wp_X3_copyFrom_2_s ?_
      unfold wp_X3_copyFrom_2b
      rw [n_cl (by omega), nI_1]
      refine ⟨fun c => ?_, fun _ => ⟨n_in (by omega) (by omega), n_in (by omega) (by omega), n_in (by omega) (by omega), ?_⟩⟩
      · rw [n_le (by omega) (by omega)] at c; omega
      · refine s_setRow (by omega) (ih (i + 1) _ _ _ (by omega) (fun k hk => ?_))
        by_cases hki : k = i
        · subst hki; exact e3_up_s rfl rfl rfl
        · exact e3_up_n (h1 k (by omega)) hki
  unfold wp_X3_copyFrom
  exact ⟨n + 1, key n 0 pd px py (by omega) (fun k hk => by omega)⟩
/-- numbers: products of what is at most 2 * 10^9 wide -/
theorem mul_bd {a b M N : Int} (ha : -M ≤ a) (ha2 : a ≤ M) (hb : -N ≤ b) (hb2 : b ≤ N) : -(M * N) ≤ a * b ∧ a * b ≤ M * N := by
  have hM : 0 ≤ M := by omega
  have hN : 0 ≤ N := by omega
  have h1 : 0 ≤ (M - a) * (N + b) := Int.mul_nonneg (by omega) (by omega)
  have h2 : 0 ≤ (M + a) * (N - b) := Int.mul_nonneg (by omega) (by omega)
  have h3 : 0 ≤ (M - a) * (N - b) := Int.mul_nonneg (by omega) (by omega)
  have h4 : 0 ≤ (M + a) * (N + b) := Int.mul_nonneg (by omega) (by omega)
  simp only [Int.sub_mul, Int.mul_sub, Int.add_mul, Int.mul_add] at h1 h2 h3 h4
  omega
def inR (v : Int32) : Prop := -1000000000 ≤ v.toInt ∧ v.toInt ≤ 1000000000
theorem w_sub {a b : Int64} {M N : Int} (ha : -M ≤ a.toInt) (ha2 : a.toInt ≤ M) (hb : -N ≤ b.toInt) (hb2 : b.toInt ≤ N) (h : M + N < 9223372036854775808) : (a - b).toInt = a.toInt - b.toInt := by
  rw [Int64.toInt_sub]
  exact Int.bmod_eq_of_le (by omega) (by omega)
theorem w_add {a b : Int64} {M N : Int} (ha : -M ≤ a.toInt) (ha2 : a.toInt ≤ M) (hb : -N ≤ b.toInt) (hb2 : b.toInt ≤ N) (h : M + N < 9223372036854775808) : (a + b).toInt = a.toInt + b.toInt := by
  rw [Int64.toInt_add]
  exact Int.bmod_eq_of_le (by omega) (by omega)
theorem w_mul {a b : Int64} {M N : Int} (ha : -M ≤ a.toInt) (ha2 : a.toInt ≤ M) (hb : -N ≤ b.toInt) (hb2 : b.toInt ≤ N) (h : M * N < 9223372036854775808) : (a * b).toInt = a.toInt * b.toInt := by
  have := mul_bd ha ha2 hb hb2
  rw [Int64.toInt_mul]
  exact Int.bmod_eq_of_le (by omega) (by omega)
theorem w_i {a : Int32} : a.toInt64.toInt = a.toInt := by simp
/-- the turn of three places -/
def crI (ax ay bx by_ cx cy : Int) : Int := (bx - ax) * (cy - ay) - (by_ - ay) * (cx - ax)
theorem w_cross {ax ay bx by_ cx cy : Int32} (h1 : inR ax) (h2 : inR ay) (h3 : inR bx) (h4 : inR by_) (h5 : inR cx) (h6 : inR cy) :
    (((bx.toInt64 - ax.toInt64) * (cy.toInt64 - ay.toInt64)) - ((by_.toInt64 - ay.toInt64) * (cx.toInt64 - ax.toInt64))).toInt = crI ax.toInt ay.toInt bx.toInt by_.toInt cx.toInt cy.toInt := by
  unfold inR at *
  have d : ∀ {a b : Int32}, (-1000000000 ≤ a.toInt ∧ a.toInt ≤ 1000000000) → (-1000000000 ≤ b.toInt ∧ b.toInt ≤ 1000000000) → (a.toInt64 - b.toInt64).toInt = a.toInt - b.toInt ∧ -2000000000 ≤ (a.toInt64 - b.toInt64).toInt ∧ (a.toInt64 - b.toInt64).toInt ≤ 2000000000 := by
    intro a b ha hb
    have : (a.toInt64 - b.toInt64).toInt = a.toInt - b.toInt := by
      rw [w_sub (M := 1000000000) (N := 1000000000) (by rw [w_i]; omega) (by rw [w_i]; omega) (by rw [w_i]; omega) (by rw [w_i]; omega) (by omega), w_i, w_i]
    omega
  obtain ⟨e1, l1, u1⟩ := d h3 h1
  obtain ⟨e2, l2, u2⟩ := d h6 h2
  obtain ⟨e3, l3, u3⟩ := d h4 h2
  obtain ⟨e4, l4, u4⟩ := d h5 h1
  have m1 := w_mul (M := 2000000000) (N := 2000000000) l1 u1 l2 u2 (by omega)
  have m2 := w_mul (M := 2000000000) (N := 2000000000) l3 u3 l4 u4 (by omega)
  have b1 := mul_bd (M := 2000000000) (N := 2000000000) l1 u1 l2 u2
  have b2 := mul_bd (M := 2000000000) (N := 2000000000) l3 u3 l4 u4
  rw [w_sub (M := 4000000000000000000) (N := 4000000000000000000) (by rw [m1]; omega) (by rw [m1]; omega) (by rw [m2]; omega) (by rw [m2]; omega) (by omega), m1, m2, e1, e2, e3, e4]
  rfl
