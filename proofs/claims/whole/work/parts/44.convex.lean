theorem pos_mul {a b : Int} (ha : 0 < a) (h : 0 < a * b) : 0 < b := by
  apply Int.lt_of_not_ge
  intro hb
  have := Int.mul_nonneg (show 0 ≤ a by omega) (show 0 ≤ -b by omega)
  rw [Int.mul_neg] at this
  omega
theorem nn_mul {a b : Int} (ha : 0 < a) (h : 0 ≤ a * b) : 0 ≤ b := by
  apply Int.le_of_not_gt
  intro hb
  have := Int.mul_pos ha (show 0 < -b by omega)
  rw [Int.mul_neg] at this
  omega
theorem neg_mul {a b : Int} (ha : 0 < a) (h : a * b < 0) : b < 0 := by
  apply Int.lt_of_not_ge
  intro hb
  have := Int.mul_nonneg (show 0 ≤ a by omega) hb
  omega
/-- four places from the left to the right, both turns to the left -/
theorem t1 {p1 p2 q1 q2 r1 r2 : Int} (hp : 0 < p1) (hq : 0 < q1) (hr : 0 < r1) (h1 : 0 < p1 * q2 - p2 * q1) (h2 : 0 < q1 * r2 - q2 * r1) : 0 < p1 * r2 - p2 * r1 := by
  apply pos_mul hq
  have e : q1 * (p1 * r2 - p2 * r1) = p1 * (q1 * r2 - q2 * r1) + r1 * (p1 * q2 - p2 * q1) := by grind
  rw [e]
  have := Int.mul_pos hp h2
  have := Int.mul_pos hr h1
  omega
theorem cr_4a {ax ay bx by_ cx cy dx dy : Int} (h1 : ax < bx) (h2 : bx < cx) (h3 : cx < dx) (e1 : 0 < crI ax ay bx by_ cx cy) (e2 : 0 < crI bx by_ cx cy dx dy) : 0 < crI ax ay bx by_ dx dy ∧ 0 < crI ax ay cx cy dx dy := by
  have k1 : crI ax ay bx by_ cx cy = (bx - ax) * (cy - by_) - (by_ - ay) * (cx - bx) := by unfold crI; grind
  have k2 : crI bx by_ cx cy dx dy = (cx - bx) * (dy - cy) - (cy - by_) * (dx - cx) := by unfold crI; grind
  rw [k1] at e1
  rw [k2] at e2
  have k3 := t1 (show 0 < bx - ax by omega) (show 0 < cx - bx by omega) (show 0 < dx - cx by omega) e1 e2
  have k4 : crI ax ay bx by_ dx dy = ((bx - ax) * (cy - by_) - (by_ - ay) * (cx - bx)) + ((bx - ax) * (dy - cy) - (by_ - ay) * (dx - cx)) := by unfold crI; grind
  have k5 : crI ax ay cx cy dx dy = ((bx - ax) * (dy - cy) - (by_ - ay) * (dx - cx)) + ((cx - bx) * (dy - cy) - (cy - by_) * (dx - cx)) := by unfold crI; grind
  rw [k4, k5]
  omega
/-- two chains with their ends one above the other -/
def CH (p : Nat) (ux uy : Nat → Int) (q : Nat) (wx wy : Nat → Int) : Prop :=
  2 ≤ p ∧ 2 ≤ q ∧ (∀ i j, i < j → j < p → ux i < ux j) ∧ (∀ i j k, i < j → j < k → k < p → 0 < crI (ux i) (uy i) (ux j) (uy j) (ux k) (uy k)) ∧
  (∀ i j, i < j → j < q → wx i < wx j) ∧ (∀ i j k, i < j → j < k → k < q → crI (wx i) (wy i) (wx j) (wy j) (wx k) (wy k) < 0) ∧
  ux 0 = wx 0 ∧ uy 0 ≤ wy 0 ∧ ux (p - 1) = wx (q - 1) ∧ uy (p - 1) ≤ wy (q - 1)
theorem cr_neg (ax ay bx by_ cx cy : Int) : crI ax (-ay) bx (-by_) cx (-cy) = - crI ax ay bx by_ cx cy := by unfold crI; grind
theorem CH.flip {p q : Nat} {ux uy wx wy : Nat → Int} (h : CH p ux uy q wx wy) : CH q wx (fun i => - wy i) p ux (fun i => - uy i) := by
  obtain ⟨h1, h2, h3, h4, h5, h6, h7, h8, h9, h10⟩ := h
  refine ⟨h2, h1, h5, fun i j k a b c => ?_, h3, fun i j k a b c => ?_, h7.symm, by show -wy 0 ≤ -uy 0; omega, h9.symm, by show -wy (q - 1) ≤ -uy (p - 1); omega⟩
  · rw [cr_neg]; have := h6 i j k a b c; omega
  · rw [cr_neg]; have := h4 i j k a b c; omega
theorem ch_a1 {p q : Nat} {ux uy wx wy : Nat → Int} (h : CH p ux uy q wx wy) {i k : Nat} (hi : i + 1 < p) (hk : k < p) : 0 ≤ crI (ux i) (uy i) (ux (i + 1)) (uy (i + 1)) (ux k) (uy k) ∧ (k ≠ i → k ≠ i + 1 → 0 < crI (ux i) (uy i) (ux (i + 1)) (uy (i + 1)) (ux k) (uy k)) := by
  obtain ⟨h1, h2, h3, h4, h5, h6, h7, h8, h9, h10⟩ := h
  by_cases e1 : k = i
  · subst e1
    have : crI (ux k) (uy k) (ux (k + 1)) (uy (k + 1)) (ux k) (uy k) = 0 := by unfold crI; grind
    exact ⟨by omega, fun a => absurd rfl a⟩
  · by_cases e2 : k = i + 1
    · subst e2
      have : crI (ux i) (uy i) (ux (i + 1)) (uy (i + 1)) (ux (i + 1)) (uy (i + 1)) = 0 := by unfold crI; grind
      exact ⟨by omega, fun _ a => absurd rfl a⟩
    · have : 0 < crI (ux i) (uy i) (ux (i + 1)) (uy (i + 1)) (ux k) (uy k) := by
        by_cases e3 : k < i
        · rw [cr_cyc]; exact h4 k i (i + 1) e3 (by omega) hi
        · exact h4 i (i + 1) k (by omega) (by omega) hk
      exact ⟨by omega, fun _ _ => this⟩
theorem ch_in {p q : Nat} {ux uy wx wy : Nat → Int} (h : CH p ux uy q wx wy) {k : Nat} (hk : k < q) : ux 0 ≤ wx k ∧ wx k ≤ ux (p - 1) := by
  obtain ⟨h1, h2, h3, h4, h5, h6, h7, h8, h9, h10⟩ := h
  constructor
  · by_cases e : k = 0
    · rw [e]; omega
    · have := h5 0 k (by omega) hk; omega
  · by_cases e : k = q - 1
    · rw [e]; omega
    · have := h5 k (q - 1) (by omega) (by omega); omega
theorem ch_a2 {p q : Nat} {ux uy wx wy : Nat → Int} (h : CH p ux uy q wx wy) {k : Nat} (hk : k < q) : 0 ≤ crI (ux 0) (uy 0) (ux (p - 1)) (uy (p - 1)) (wx k) (wy k) ∧ (0 < k → k < q - 1 → 0 < crI (ux 0) (uy 0) (ux (p - 1)) (uy (p - 1)) (wx k) (wy k)) := by
  have hin := ch_in h hk
  obtain ⟨h1, h2, h3, h4, h5, h6, h7, h8, h9, h10⟩ := h
  have e : crI (ux 0) (uy 0) (ux (p - 1)) (uy (p - 1)) (wx k) (wy k) = crI (wx 0) (wy 0) (wx (q - 1)) (wy (q - 1)) (wx k) (wy k) + ((wy 0 - uy 0) * (ux (p - 1) - wx k) + (wy (q - 1) - uy (p - 1)) * (wx k - ux 0)) := by
    rw [← h7, ← h9]; unfold crI; grind
  have m1 := Int.mul_nonneg (show 0 ≤ wy 0 - uy 0 by omega) (show 0 ≤ ux (p - 1) - wx k by omega)
  have m2 := Int.mul_nonneg (show 0 ≤ wy (q - 1) - uy (p - 1) by omega) (show 0 ≤ wx k - ux 0 by omega)
  have c : 0 ≤ crI (wx 0) (wy 0) (wx (q - 1)) (wy (q - 1)) (wx k) (wy k) ∧ (0 < k → k < q - 1 → 0 < crI (wx 0) (wy 0) (wx (q - 1)) (wy (q - 1)) (wx k) (wy k)) := by
    by_cases e1 : k = 0
    · subst e1
      have : crI (wx 0) (wy 0) (wx (q - 1)) (wy (q - 1)) (wx 0) (wy 0) = 0 := by unfold crI; grind
      exact ⟨by omega, fun a => by omega⟩
    · by_cases e2 : k = q - 1
      · subst e2
        have : crI (wx 0) (wy 0) (wx (q - 1)) (wy (q - 1)) (wx (q - 1)) (wy (q - 1)) = 0 := by unfold crI; grind
        exact ⟨by omega, fun _ a => by omega⟩
      · have t := h6 0 k (q - 1) (by omega) (by omega) (by omega)
        have : crI (wx 0) (wy 0) (wx (q - 1)) (wy (q - 1)) (wx k) (wy k) = - crI (wx 0) (wy 0) (wx k) (wy k) (wx (q - 1)) (wy (q - 1)) := by unfold crI; grind
        exact ⟨by omega, fun _ _ => by omega⟩
  rw [e]
  exact ⟨by omega, fun a b => by have := c.2 a b; omega⟩
/-- an edge of the one chain and a corner of the other -/
theorem ch_a3 {p q : Nat} {ux uy wx wy : Nat → Int} (h : CH p ux uy q wx wy) {i k : Nat} (hi : i + 1 < p) (hk : k < q) : 0 ≤ crI (ux i) (uy i) (ux (i + 1)) (uy (i + 1)) (wx k) (wy k) ∧ (0 < k → k < q - 1 → 0 < crI (ux i) (uy i) (ux (i + 1)) (uy (i + 1)) (wx k) (wy k)) := by
  have hin := ch_in h hk
  have a2 := ch_a2 h hk
  have l0 := ch_a1 h hi (k := 0) (by omega)
  have l1 := ch_a1 h hi (k := p - 1) (by omega)
  obtain ⟨h1, h2, h3, h4, h5, h6, h7, h8, h9, h10⟩ := h
  have hW : 0 < ux (p - 1) - ux 0 := by have := h3 0 (p - 1) (by omega) (by omega); omega
  have hd : 0 < ux (i + 1) - ux i := by have := h3 i (i + 1) (by omega) hi; omega
  have e : (ux (p - 1) - ux 0) * crI (ux i) (uy i) (ux (i + 1)) (uy (i + 1)) (wx k) (wy k) = (ux (p - 1) - wx k) * crI (ux i) (uy i) (ux (i + 1)) (uy (i + 1)) (ux 0) (uy 0) + (wx k - ux 0) * crI (ux i) (uy i) (ux (i + 1)) (uy (i + 1)) (ux (p - 1)) (uy (p - 1)) + (ux (i + 1) - ux i) * crI (ux 0) (uy 0) (ux (p - 1)) (uy (p - 1)) (wx k) (wy k) := by
    unfold crI; grind
  have m1 := Int.mul_nonneg (show 0 ≤ ux (p - 1) - wx k by omega) l0.1
  have m2 := Int.mul_nonneg (show 0 ≤ wx k - ux 0 by omega) l1.1
  have m3 := Int.mul_nonneg (show 0 ≤ ux (i + 1) - ux i by omega) a2.1
  refine ⟨nn_mul hW (by rw [e]; omega), fun a b => pos_mul hW ?_⟩
  have m4 := Int.mul_pos hd (a2.2 a b)
  rw [e]; omega
/-- where the chains share an end, the turn there is a true one -/
theorem ch_sr {p q : Nat} {ux uy wx wy : Nat → Int} (h : CH p ux uy q wx wy) (hs : uy (p - 1) = wy (q - 1)) (hnd : ¬ (p = 2 ∧ q = 2 ∧ uy 0 = wy 0)) : 0 < crI (ux (p - 2)) (uy (p - 2)) (ux (p - 1)) (uy (p - 1)) (wx (q - 2)) (wy (q - 2)) := by
  have hp := h.1
  have hq := h.2.1
  have e1 : p - 2 + 1 = p - 1 := by omega
  by_cases q3 : q = 2
  · subst q3
    have g := ch_a1 h (i := p - 2) (k := 0) (by omega) (by omega)
    rw [e1] at g
    obtain ⟨h1, h2, h3, h4, h5, h6, h7, h8, h9, h10⟩ := h
    have hd : 0 < ux (p - 1) - ux (p - 2) := by have := h3 (p - 2) (p - 1) (by omega) (by omega); omega
    have e : crI (ux (p - 2)) (uy (p - 2)) (ux (p - 1)) (uy (p - 1)) (wx 0) (wy 0) = crI (ux (p - 2)) (uy (p - 2)) (ux (p - 1)) (uy (p - 1)) (ux 0) (uy 0) + (ux (p - 1) - ux (p - 2)) * (wy 0 - uy 0) := by
      rw [← h7]; unfold crI; grind
    show 0 < crI (ux (p - 2)) (uy (p - 2)) (ux (p - 1)) (uy (p - 1)) (wx 0) (wy 0)
    rw [e]
    by_cases p3 : p = 2
    · have := Int.mul_pos hd (show 0 < wy 0 - uy 0 by omega)
      omega
    · have := g.2 (by omega) (by omega)
      have := Int.mul_nonneg (show 0 ≤ ux (p - 1) - ux (p - 2) by omega) (show 0 ≤ wy 0 - uy 0 by omega)
      omega
  · have := (ch_a3 h (i := p - 2) (k := q - 2) (by omega) (by omega)).2 (by omega) (by omega)
    rw [e1] at this
    exact this
theorem ch_sl {p q : Nat} {ux uy wx wy : Nat → Int} (h : CH p ux uy q wx wy) (hs : uy 0 = wy 0) (hnd : ¬ (p = 2 ∧ q = 2 ∧ uy (p - 1) = wy (q - 1))) : 0 < crI (ux 0) (uy 0) (ux 1) (uy 1) (wx 1) (wy 1) := by
  have hp := h.1
  have hq := h.2.1
  by_cases q3 : q = 2
  · subst q3
    have g := ch_a1 h (i := 0) (k := p - 1) (by omega) (by omega)
    obtain ⟨h1, h2, h3, h4, h5, h6, h7, h8, h9, h10⟩ := h
    have hd : 0 < ux 1 - ux 0 := by have := h3 0 1 (by omega) (by omega); omega
    have h9' : ux (p - 1) = wx 1 := h9
    have h10' : uy (p - 1) ≤ wy 1 := h10
    have e : crI (ux 0) (uy 0) (ux 1) (uy 1) (wx 1) (wy 1) = crI (ux 0) (uy 0) (ux 1) (uy 1) (ux (p - 1)) (uy (p - 1)) + (ux 1 - ux 0) * (wy 1 - uy (p - 1)) := by
      rw [← h9']; unfold crI; grind
    rw [e]
    by_cases p3 : p = 2
    · have n : ¬ uy (p - 1) = wy 1 := fun z => hnd ⟨p3, rfl, z⟩
      have := Int.mul_pos hd (show 0 < wy 1 - uy (p - 1) by omega)
      have := g.1
      rw [show 0 + 1 = 1 from rfl] at this
      omega
    · have := g.2 (by omega) (by omega)
      rw [show 0 + 1 = 1 from rfl] at this
      have := Int.mul_nonneg (show 0 ≤ ux 1 - ux 0 by omega) (show 0 ≤ wy 1 - uy (p - 1) by omega)
      omega
  · exact (ch_a3 h (i := 0) (k := 1) (by omega) (by omega)).2 (by omega) (by omega)
/-- on the line of an edge, beyond it -/
theorem cr_beyR {ux uy vx vy wx wy x y : Int} (hd : ux < vx) (hx : vx < x) (h0 : crI ux uy vx vy x y = 0) (hw : 0 < crI ux uy vx vy wx wy) : crI vx vy wx wy x y < 0 := by
  apply neg_mul (show 0 < vx - ux by omega)
  have e : (vx - ux) * crI vx vy wx wy x y = (wx - vx) * crI ux uy vx vy x y - (x - vx) * crI ux uy vx vy wx wy := by unfold crI; grind
  rw [e, h0]
  have := Int.mul_pos (show 0 < x - vx by omega) hw
  omega
theorem cr_beyL {ux uy vx vy tx ty x y : Int} (hd : ux < vx) (hx : x < ux) (h0 : crI ux uy vx vy x y = 0) (hw : 0 < crI tx ty ux uy vx vy) : crI tx ty ux uy x y < 0 := by
  apply neg_mul (show 0 < vx - ux by omega)
  have e : (vx - ux) * crI tx ty ux uy x y = (ux - tx) * crI ux uy vx vy x y - (ux - x) * crI tx ty ux uy vx vy := by unfold crI; grind
  rw [e, h0]
  have := Int.mul_pos (show 0 < ux - x by omega) hw
  omega
/-- on an edge's line and not at the edge: some edge has the place to its right -/
def VIO (p : Nat) (ux uy : Nat → Int) (q : Nat) (wx wy : Nat → Int) (x y : Int) : Prop :=
  (∃ j, j + 1 < p ∧ crI (ux j) (uy j) (ux (j + 1)) (uy (j + 1)) x y < 0) ∨ (uy (p - 1) < wy (q - 1) ∧ crI (ux (p - 1)) (uy (p - 1)) (wx (q - 1)) (wy (q - 1)) x y < 0) ∨ (∃ m, m + 1 < q ∧ crI (wx (m + 1)) (wy (m + 1)) (wx m) (wy m) x y < 0) ∨ (uy 0 < wy 0 ∧ crI (wx 0) (wy 0) (ux 0) (uy 0) x y < 0)
theorem VIO.flip {p q : Nat} {ux uy wx wy : Nat → Int} {x y : Int} (h : VIO q wx (fun i => - wy i) p ux (fun i => - uy i) x (-y)) : VIO p ux uy q wx wy x y := by
  rcases h with ⟨j, hj, c⟩ | ⟨a, c⟩ | ⟨m, hm, c⟩ | ⟨a, c⟩
  · right; right; left
    rw [cr_neg] at c
    exact ⟨j, hj, by rw [cr_sw]; exact c⟩
  · right; left
    rw [cr_neg] at c
    dsimp only at a
    exact ⟨by omega, by rw [cr_sw]; exact c⟩
  · left
    rw [cr_neg] at c
    exact ⟨m, hm, by rw [cr_sw]; exact c⟩
  · right; right; right
    rw [cr_neg] at c
    dsimp only at a
    exact ⟨by omega, by rw [cr_sw]; exact c⟩
theorem bx_of_x {ux uy vx vy x y : Int} (hd : ux < vx) (h0 : crI ux uy vx vy x y = 0) (h1 : ux ≤ x) (h2 : x ≤ vx) : btwI y uy vy := by
  have k1 : (vx - ux) * (y - uy) = (vy - uy) * (x - ux) := by unfold crI at h0; omega
  have k2 : (vx - ux) * (vy - y) = (vy - uy) * (vx - x) := by
    have e : (vx - ux) * (vy - y) = (vx - ux) * (vy - uy) - (vx - ux) * (y - uy) := by grind
    rw [e, k1]; grind
  unfold btwI
  by_cases c : uy ≤ vy
  · have a1 := nn_mul (show 0 < vx - ux by omega) (by rw [k1]; exact Int.mul_nonneg (by omega) (by omega))
    have a2 := nn_mul (show 0 < vx - ux by omega) (by rw [k2]; exact Int.mul_nonneg (by omega) (by omega))
    omega
  · have a1 : 0 ≤ uy - y := nn_mul (show 0 < vx - ux by omega) (by
      have e : (vx - ux) * (uy - y) = (uy - vy) * (x - ux) := by
        have : (vx - ux) * (uy - y) = - ((vx - ux) * (y - uy)) := by grind
        rw [this, k1]; grind
      rw [e]; exact Int.mul_nonneg (by omega) (by omega))
    have a2 : 0 ≤ y - vy := nn_mul (show 0 < vx - ux by omega) (by
      have e : (vx - ux) * (y - vy) = (uy - vy) * (vx - x) := by
        have : (vx - ux) * (y - vy) = - ((vx - ux) * (vy - y)) := by grind
        rw [this, k2]; grind
      rw [e]; exact Int.mul_nonneg (by omega) (by omega))
    omega
theorem ch_b {p q : Nat} {ux uy wx wy : Nat → Int} {x y : Int} (h : CH p ux uy q wx wy) (hnd : ¬ (p = 2 ∧ q = 2 ∧ uy 0 = wy 0 ∧ uy (p - 1) = wy (q - 1))) {i : Nat} (hi : i + 1 < p) (h0 : crI (ux i) (uy i) (ux (i + 1)) (uy (i + 1)) x y = 0) (hb : ¬ (btwI x (ux i) (ux (i + 1)) ∧ btwI y (uy i) (uy (i + 1)))) : VIO p ux uy q wx wy x y := by
  have hsr := ch_sr h
  have hsl := ch_sl h
  obtain ⟨h1, h2, h3, h4, h5, h6, h7, h8, h9, h10⟩ := h
  have hd : ux i < ux (i + 1) := h3 i (i + 1) (by omega) hi
  have hx : x < ux i ∨ ux (i + 1) < x := by
    apply Classical.byContradiction
    intro hne
    exact hb ⟨by unfold btwI; omega, bx_of_x hd h0 (by omega) (by omega)⟩
  rcases hx with hx | hx
  · by_cases i0 : i = 0
    · subst i0
      by_cases hs : uy 0 = wy 0
      · right; right; left
        refine ⟨0, by omega, ?_⟩
        have t := hsl hs (fun z => hnd ⟨z.1, z.2.1, hs, z.2.2⟩)
        rw [cr_cyc] at t
        rw [← h7, ← hs]
        exact cr_beyL hd hx h0 t
      · right; right; right
        refine ⟨by omega, ?_⟩
        rw [← h7]
        have e : crI (ux 0) (wy 0) (ux 0) (uy 0) x y = - ((wy 0 - uy 0) * (ux 0 - x)) := by unfold crI; grind
        have := Int.mul_pos (show 0 < wy 0 - uy 0 by omega) (show 0 < ux 0 - x by omega)
        rw [e]; omega
    · left
      obtain ⟨j, rfl⟩ : ∃ j, i = j + 1 := ⟨i - 1, by omega⟩
      exact ⟨j, by omega, cr_beyL hd hx h0 (h4 j (j + 1) (j + 1 + 1) (by omega) (by omega) hi)⟩
  · by_cases i0 : i + 1 = p - 1
    · have e2 : i = p - 2 := by omega
      subst e2
      rw [show p - 2 + 1 = p - 1 by omega] at hd hx h0
      by_cases hs : uy (p - 1) = wy (q - 1)
      · right; right; left
        refine ⟨q - 2, by omega, ?_⟩
        have t := hsr hs (fun z => hnd ⟨z.1, z.2.1, z.2.2, hs⟩)
        rw [show q - 2 + 1 = q - 1 by omega, ← h9, ← hs]
        exact cr_beyR hd hx h0 t
      · right; left
        refine ⟨by omega, ?_⟩
        rw [← h9]
        have e : crI (ux (p - 1)) (uy (p - 1)) (ux (p - 1)) (wy (q - 1)) x y = - ((wy (q - 1) - uy (p - 1)) * (x - ux (p - 1))) := by unfold crI; grind
        have := Int.mul_pos (show 0 < wy (q - 1) - uy (p - 1) by omega) (show 0 < x - ux (p - 1) by omega)
        rw [e]; omega
    · left
      exact ⟨i + 1, by omega, cr_beyR hd hx h0 (h4 i (i + 1) (i + 1 + 1) (by omega) (by omega) (by omega))⟩
/-- the upright edges -/
theorem ch_bR {p q : Nat} {ux uy wx wy : Nat → Int} {x y : Int} (h : CH p ux uy q wx wy) (hlt : uy (p - 1) < wy (q - 1)) (h0 : crI (ux (p - 1)) (uy (p - 1)) (wx (q - 1)) (wy (q - 1)) x y = 0) (hb : ¬ (btwI x (ux (p - 1)) (wx (q - 1)) ∧ btwI y (uy (p - 1)) (wy (q - 1)))) : VIO p ux uy q wx wy x y := by
  obtain ⟨h1, h2, h3, h4, h5, h6, h7, h8, h9, h10⟩ := h
  have hx : x = ux (p - 1) := by
    rw [← h9] at h0
    have e : crI (ux (p - 1)) (uy (p - 1)) (ux (p - 1)) (wy (q - 1)) x y = (wy (q - 1) - uy (p - 1)) * (ux (p - 1) - x) := by unfold crI; grind
    rw [e] at h0
    rcases Int.mul_eq_zero.mp h0 with z | z
    · omega
    · omega
  have hy : y < uy (p - 1) ∨ wy (q - 1) < y := by
    apply Classical.byContradiction
    intro hne
    exact hb ⟨by unfold btwI; omega, by unfold btwI; omega⟩
  rcases hy with hy | hy
  · left
    refine ⟨p - 2, by omega, ?_⟩
    rw [show p - 2 + 1 = p - 1 by omega, hx]
    have hd := h3 (p - 2) (p - 1) (by omega) (by omega)
    have e : crI (ux (p - 2)) (uy (p - 2)) (ux (p - 1)) (uy (p - 1)) (ux (p - 1)) y = - ((ux (p - 1) - ux (p - 2)) * (uy (p - 1) - y)) := by unfold crI; grind
    have := Int.mul_pos (show 0 < ux (p - 1) - ux (p - 2) by omega) (show 0 < uy (p - 1) - y by omega)
    rw [e]; omega
  · right; right; left
    refine ⟨q - 2, by omega, ?_⟩
    rw [show q - 2 + 1 = q - 1 by omega, hx, h9]
    have hd := h5 (q - 2) (q - 1) (by omega) (by omega)
    have e : crI (wx (q - 1)) (wy (q - 1)) (wx (q - 2)) (wy (q - 2)) (wx (q - 1)) y = - ((wx (q - 1) - wx (q - 2)) * (y - wy (q - 1))) := by unfold crI; grind
    have := Int.mul_pos (show 0 < wx (q - 1) - wx (q - 2) by omega) (show 0 < y - wy (q - 1) by omega)
    rw [e]; omega
theorem ch_bL {p q : Nat} {ux uy wx wy : Nat → Int} {x y : Int} (h : CH p ux uy q wx wy) (hlt : uy 0 < wy 0) (h0 : crI (wx 0) (wy 0) (ux 0) (uy 0) x y = 0) (hb : ¬ (btwI x (wx 0) (ux 0) ∧ btwI y (wy 0) (uy 0))) : VIO p ux uy q wx wy x y := by
  obtain ⟨h1, h2, h3, h4, h5, h6, h7, h8, h9, h10⟩ := h
  have hx : x = ux 0 := by
    rw [← h7] at h0
    have e : crI (ux 0) (wy 0) (ux 0) (uy 0) x y = (wy 0 - uy 0) * (x - ux 0) := by unfold crI; grind
    rw [e] at h0
    rcases Int.mul_eq_zero.mp h0 with z | z
    · omega
    · omega
  have hy : y < uy 0 ∨ wy 0 < y := by
    apply Classical.byContradiction
    intro hne
    exact hb ⟨by unfold btwI; omega, by unfold btwI; omega⟩
  rcases hy with hy | hy
  · left
    refine ⟨0, by omega, ?_⟩
    have hd := h3 0 1 (by omega) (by omega)
    have e : crI (ux 0) (uy 0) (ux (0 + 1)) (uy (0 + 1)) x y = - ((ux 1 - ux 0) * (uy 0 - y)) := by rw [hx]; unfold crI; grind
    have := Int.mul_pos (show 0 < ux 1 - ux 0 by omega) (show 0 < uy 0 - y by omega)
    rw [e]; omega
  · right; right; left
    refine ⟨0, by omega, ?_⟩
    have hd := h5 0 1 (by omega) (by omega)
    have e : crI (wx (0 + 1)) (wy (0 + 1)) (wx 0) (wy 0) x y = - ((wx 1 - wx 0) * (y - wy 0)) := by rw [hx, h7]; unfold crI; grind
    have := Int.mul_pos (show 0 < wx 1 - wx 0 by omega) (show 0 < y - wy 0 by omega)
    rw [e]; omega
/-- a place between two is where both are -/
theorem cr_conv {sx sy tx ty ux uy vx vy x y : Int} (h0 : crI ux uy vx vy x y = 0) (hx : btwI x ux vx) (hy : btwI y uy vy) (hu : 0 ≤ crI sx sy tx ty ux uy) (hv : 0 ≤ crI sx sy tx ty vx vy) : 0 ≤ crI sx sy tx ty x y := by
  unfold btwI at hx hy
  rcases Int.lt_trichotomy ux vx with c | c | c
  · apply nn_mul (show 0 < vx - ux by omega)
    have e : (vx - ux) * crI sx sy tx ty x y = (vx - x) * crI sx sy tx ty ux uy + (x - ux) * crI sx sy tx ty vx vy + (tx - sx) * crI ux uy vx vy x y := by unfold crI; grind
    rw [e, h0]
    have := Int.mul_nonneg (show 0 ≤ vx - x by omega) hu
    have := Int.mul_nonneg (show 0 ≤ x - ux by omega) hv
    omega
  · have hx2 : x = ux := by omega
    rcases Int.lt_trichotomy uy vy with d | d | d
    · apply nn_mul (show 0 < vy - uy by omega)
      have e : (vy - uy) * crI sx sy tx ty x y = (vy - y) * crI sx sy tx ty ux uy + (y - uy) * crI sx sy tx ty vx vy := by
        rw [hx2, ← c]; unfold crI; grind
      rw [e]
      have := Int.mul_nonneg (show 0 ≤ vy - y by omega) hu
      have := Int.mul_nonneg (show 0 ≤ y - uy by omega) hv
      omega
    · rw [hx2, show y = uy by omega]; exact hu
    · apply nn_mul (show 0 < uy - vy by omega)
      have e : (uy - vy) * crI sx sy tx ty x y = (y - vy) * crI sx sy tx ty ux uy + (uy - y) * crI sx sy tx ty vx vy := by
        rw [hx2, ← c]; unfold crI; grind
      rw [e]
      have := Int.mul_nonneg (show 0 ≤ y - vy by omega) hu
      have := Int.mul_nonneg (show 0 ≤ uy - y by omega) hv
      omega
  · apply nn_mul (show 0 < ux - vx by omega)
    have e : (ux - vx) * crI sx sy tx ty x y = (x - vx) * crI sx sy tx ty ux uy + (ux - x) * crI sx sy tx ty vx vy - (tx - sx) * crI ux uy vx vy x y := by unfold crI; grind
    rw [e, h0]
    have := Int.mul_nonneg (show 0 ≤ x - vx by omega) hu
    have := Int.mul_nonneg (show 0 ≤ ux - x by omega) hv
    omega
