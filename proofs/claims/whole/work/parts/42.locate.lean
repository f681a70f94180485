def nxt (L i : Nat) : Nat := if i + 1 < L then i + 1 else 0
/-- the turn of the place at the i-th edge of the ring -/
def cE (px py : Nat → Int32) (R : List Nat) (x y : Int32) (i : Nat) : Int := crI (px (atl R i)).toInt (py (atl R i)).toInt (px (atl R (nxt R.length i))).toInt (py (atl R (nxt R.length i))).toInt x.toInt y.toInt
def btwI (v a b : Int) : Prop := (a ≤ v ∨ b ≤ v) ∧ (v ≤ a ∨ v ≤ b)
def bxP (px py : Nat → Int32) (x y : Int32) (u v : Nat) : Prop := btwI x.toInt (px u).toInt (px v).toInt ∧ btwI y.toInt (py u).toInt (py v).toInt
def bxE (px py : Nat → Int32) (R : List Nat) (x y : Int32) (i : Nat) : Prop := bxP px py x y (atl R i) (atl R (nxt R.length i))
noncomputable def locG (px py : Nat → Int32) (R : List Nat) (x y : Int32) : Nat → Nat → Int32
  | 0, _ => if R.length = 0 then 0 else 3
  | d + 1, i => if cE px py R x y i < 0 then 0 else if cE px py R x y i = 0 then (@ite _ (bxE px py R x y i) (Classical.propDecidable _) 2 0) else locG px py R x y d (i + 1)
def atC (px py : Nat → Int32) (R : List Nat) (x y : Int32) : Prop := ∃ i, i < R.length ∧ px (atl R i) = x ∧ py (atl R i) = y
noncomputable def locS (px py : Nat → Int32) (R : List Nat) (x y : Int32) : Int32 := @ite _ (atC px py R x y) (Classical.propDecidable _) 1 (locG px py R x y R.length 0)
theorem locS_c {px py : Nat → Int32} {R : List Nat} {x y : Int32} (h : atC px py R x y) : locS px py R x y = 1 := by unfold locS; exact @if_pos _ (Classical.propDecidable _) h _ _ _
theorem locS_n {px py : Nat → Int32} {R : List Nat} {x y : Int32} (h : ¬ atC px py R x y) : locS px py R x y = locG px py R x y R.length 0 := by unfold locS; exact @if_neg _ (Classical.propDecidable _) h _ _ _
theorem s_isAtCorner {px py rr : Nat → Int32} {x y : Int32} {n : Nat} {R : List Nat} (hn : n ≤ 32) (hR : NDn n R) (hrp : rp nI rr R) {K : Int32 → Prop} (k1 : atC px py R x y → K 1) (k0 : ¬ atC px py R x y → K 0) : wp_X4_isAtCorner rr (nI R.length) px py x y K := by
  have hle := nd_le hR
  have key : ∀ (d i : Nat), i + d = R.length → (∀ j, j < i → ¬ (px (atl R j) = x ∧ py (atl R j) = y)) → wp_X4_isAtCorner_3 rr (nI R.length) px py x y K (d + 1) (nI i) := by
    intro d
    induction d with
    | zero =>
      intro i hi hj
      refine wp_X4_isAtCorner_3_s ?_
      unfold wp_X4_isAtCorner_3b
      refine ⟨fun _ => k0 (fun z => ?_), fun c => absurd ((n_le (by omega) (by omega)).mpr (by omega)) c⟩
      obtain ⟨j, hjl, e⟩ := z
      exact hj j (by omega) e
    | succ d ih =>
      intro i hi hj
      refine wp_X4_isAtCorner_3_s ?_
      unfold wp_X4_isAtCorner_3b
      have g := hR.1 _ (atl_mem (l := R) (i := i) (by omega))
      rw [n_cl (by omega), rp_at hrp (by omega), nI_1]
      refine ⟨fun c => by rw [n_le (by omega) (by omega)] at c; omega, fun _ => ⟨n_in (by omega) (by omega), s_isAt (by omega) (fun a b => ⟨fun q => absurd q one_ne, fun _ => k1 ⟨i, by omega, a, b⟩⟩) (fun a => ⟨fun _ => ih (i + 1) (by omega) (fun j hjl => ?_), fun q => absurd rfl q⟩)⟩⟩
      by_cases e : j = i
      · rw [e]; exact a
      · exact hj j (by omega)
  unfold wp_X4_isAtCorner
  exact ⟨R.length + 1, key R.length 0 (by omega) (fun j hj => by omega)⟩
theorem s_isBoxed {px py : Nat → Int32} {a b : Nat} {x y : Int32} (ha : a < 32) (hb : b < 32) {K : Int32 → Prop} (k1 : bxP px py x y a b → K 1) (k0 : ¬ bxP px py x y a b → K 0) : wp_X3_isBoxed px py (nI a) (nI b) x y K := by
  unfold wp_X3_isBoxed
  rw [n_cl (i := a) (by omega), n_cl (i := b) (by omega)]
  have va := n_in ha (show 32 < 10000 by omega)
  have vb := n_in hb (show 32 < 10000 by omega)
  unfold bxP btwI at k1 k0
  have mn : ∀ (v p q : Int32), v < (if q < p then q else p) ↔ (v.toInt < p.toInt ∧ v.toInt < q.toInt) := by
    intro v p q
    split
    · rename_i h; rw [I_lt] at *; omega
    · rename_i h; rw [I_lt] at *; omega
  have mx : ∀ (v p q : Int32), (if p < q then q else p) < v ↔ (p.toInt < v.toInt ∧ q.toInt < v.toInt) := by
    intro v p q
    split
    · rename_i h; rw [I_lt] at *; omega
    · rename_i h; rw [I_lt] at *; omega
  rw [mn, mx, mn, mx]
  refine ⟨va, vb, fun c => k0 (by omega), fun c1 => ⟨va, vb, fun c => k0 (by omega), fun c2 => ⟨va, vb, fun c => k0 (by omega), fun c3 => ⟨va, vb, fun c => k0 (by omega), fun c4 => k1 (by omega)⟩⟩⟩⟩
theorem s_locate {pd px py rr : Nat → Int32} {x y : Int32} {n : Nat} {R : List Nat} (hW : WF pd px py n) (hR : NDn n R) (h1 : inR x) (h2 : inR y) (hrp : rp nI rr R) {K : Int32 → Prop} (h : K (locS px py R x y)) : wp_X4_locate rr (nI R.length) px py x y K := by
  have hn := hW.1
  have hle := nd_le hR
  have hin := hW.2.2.2.2
  unfold wp_X4_locate
  refine s_isAtCorner hn hR hrp (fun z => ⟨fun q => absurd q one_ne, fun _ => by rw [← locS_c z]; exact h⟩) (fun z => ⟨fun _ => ?_, fun q => absurd rfl q⟩)
  rw [locS_n z] at h
  have key : ∀ (d i : Nat), i + d = R.length → K (locG px py R x y d i) → wp_X4_locate_15 rr (nI R.length) px py x y K (d + 1) (nI i) := by
    intro d
    induction d with
    | zero =>
      intro i hi hk
      refine wp_X4_locate_15_s ?_
      unfold wp_X4_locate_15b
      unfold locG at hk
      refine ⟨fun _ => ⟨fun q => ?_, fun q => ?_⟩, fun c => absurd ((n_le (by omega) (by omega)).mpr (by omega)) c⟩
      · rw [if_neg (fun e => q (by rw [e]; rfl))] at hk; exact hk
      · rw [if_pos (by rw [show (0 : Int32) = nI 0 from rfl, n_eq (by omega) (by omega)] at q; exact q)] at hk; exact hk
    | succ d ih =>
      intro i hi hk
      refine wp_X4_locate_15_s ?_
      unfold wp_X4_locate_15b
      have nl : nxt R.length i < R.length := by unfold nxt; split <;> omega
      have g := hR.1 _ (atl_mem (l := R) (i := i) (by omega))
      have gn := hR.1 _ (atl_mem nl)
      have go : wp_X4_locate_62 rr (nI R.length) px py x y K (wp_X4_locate_15 rr (nI R.length) px py x y K (d + 1)) (nI i) (nI (atl R i)) (nI (atl R (nxt R.length i))) := by
        unfold wp_X4_locate_62
        rw [nI_1]
        refine s_turn (by omega) (by omega) (hin _ g).1 (hin _ g).2 (hin _ gn).1 (hin _ gn).2 h1 h2 (fun w hw => ?_)
        have hw2 : w.toInt = cE px py R x y i := hw
        unfold locG at hk
        rw [J_le, J_eq, hw2, show (0 : Int64).toInt = 0 from rfl]
        refine ⟨fun q => ⟨fun q2 => ?_, fun q2 => ?_⟩, fun q => ?_⟩
        · rw [if_neg (by omega), if_neg q2] at hk
          exact ih (i + 1) (by omega) hk
        · rw [if_neg (by omega), if_pos q2] at hk
          refine s_isBoxed (by omega) (by omega) (fun b => ⟨fun e => absurd e one_ne, fun _ => ?_⟩) (fun b => ⟨fun _ => ?_, fun e => absurd rfl e⟩)
          · rw [@if_pos _ (Classical.propDecidable _) (show bxE px py R x y i from b)] at hk; exact hk
          · rw [@if_neg _ (Classical.propDecidable _) (show ¬ bxE px py R x y i from b)] at hk; exact hk
        · rw [if_pos (by omega)] at hk
          exact hk
      rw [nI_1, n_cl (i := i) (by omega), rp_at hrp (i := i) (by omega), n_le (a := R.length) (b := i) (by omega) (by omega), n_le (a := R.length) (b := i + 1) (by omega) (by omega)]
      refine ⟨fun c => by omega, fun _ => ⟨n_in (by omega) (by omega), fun c => ⟨n_in (i := 0) (by omega) (by omega), ?_⟩, fun c => ⟨n_in (by omega) (by omega), ?_⟩⟩⟩
      · rw [show (0 : Int32).toNatClampNeg = 0 from rfl, rp_at hrp (i := 0) (by omega)]
        have : nxt R.length i = 0 := by unfold nxt; rw [if_neg (by omega)]
        rw [this] at go
        exact go
      · rw [n_cl (i := i + 1) (by omega), rp_at hrp (i := i + 1) (by omega)]
        have : nxt R.length i = i + 1 := by unfold nxt; rw [if_pos (by omega)]
        rw [this] at go
        exact go
  exact ⟨R.length + 1, key R.length 0 (by omega) h⟩
/-- the ring lies round: on an edge no turn is to the right, on an edge's line elsewhere one is -/
def GEO (px py : Nat → Int32) (R : List Nat) : Prop := 3 ≤ R.length → ∀ (x y : Int32) (k : Nat), k < R.length → cE px py R x y k = 0 → (bxE px py R x y k → ∀ j, j < R.length → 0 ≤ cE px py R x y j) ∧ (¬ bxE px py R x y k → ∃ j, j < R.length ∧ cE px py R x y j < 0)
