theorem tk_push {r : Nat} {R : List Nat} (h : ¬ r ∈ R) : (tk r R).length = R.length + 1 ∧ (∀ j, j < R.length → atl (tk r R) j = atl R j) ∧ atl (tk r R) R.length = r := by
  rw [tk_f h]
  exact ⟨rfl, fun j hj => atl_cons hj, atl_last _ _⟩
theorem tk_len (r : Nat) (R : List Nat) : (tk r R).length ≤ R.length + 1 := by
  by_cases h : r ∈ R
  · rw [tk_t h]; omega
  · rw [tk_f h]; simp
theorem tkUp_len (b R : List Nat) : ∀ i, (tkUp b R i).length ≤ R.length + i
  | 0 => Nat.le_refl _
  | i + 1 => by
    have := tkUp_len b R i
    have := tk_len (atl b i) (tkUp b R i)
    show (tk (atl b i) (tkUp b R i)).length ≤ _
    omega
theorem tkDn_len (a R : List Nat) : ∀ i, (tkDn a R i).length ≤ R.length + i
  | 0 => Nat.le_refl _
  | i + 1 => by
    have := tkDn_len a R i
    have := tk_len (atl a (a.length - 1 - i)) (tkDn a R i)
    show (tk (atl a (a.length - 1 - i)) (tkDn a R i)).length ≤ _
    omega
theorem up_struct {B : List Nat} (hinj : ∀ i j, i < j → j < B.length → ¬ atl B i = atl B j) : ∀ i, i ≤ B.length → (tkUp B [] i).length = i ∧ (∀ j, j < i → atl (tkUp B [] i) j = atl B j)
  | 0, _ => ⟨rfl, fun j hj => by omega⟩
  | i + 1, hi => by
    obtain ⟨h1, h2⟩ := up_struct hinj i (by omega)
    have hno : ¬ atl B i ∈ tkUp B [] i := fun z => by
      obtain ⟨j, hj, e⟩ := mem_atl z
      rw [h2 j (by omega)] at e
      exact hinj j i (by omega) (by omega) e
    obtain ⟨k1, k2, k3⟩ := tk_push hno
    refine ⟨by show (tk _ _).length = _; omega, fun j hj => ?_⟩
    show atl (tk (atl B i) (tkUp B [] i)) j = _
    by_cases e : j = i
    · rw [e]
      rw [h1] at k3
      exact k3
    · rw [k2 j (by omega)]; exact h2 j (by omega)
/-- the ring in its order: the one chain, then the other backward, shared ends once -/
theorem dn_struct {A U : List Nat} {u : Nat → Nat} {p hr hl : Nat} (hp : 1 ≤ p) (hq : 2 ≤ A.length) (hU : U.length = p) (hu : ∀ j, j < p → atl U j = u j) (hinj : ∀ i j, i < j → j < A.length → ¬ atl A i = atl A j)
    (mid : ∀ k, 0 < k → k < A.length - 1 → ∀ j, j < p → ¬ u j = atl A k) (hr1 : hr ≤ 1) (hl1 : hl ≤ 1) (r1 : hr = 1 → atl A (A.length - 1) = u (p - 1)) (r0 : hr = 0 → ∀ j, j < p → ¬ u j = atl A (A.length - 1)) (l1 : hl = 1 → atl A 0 = u 0) (l0 : hl = 0 → ∀ j, j < p → ¬ u j = atl A 0) :
    (tkDn A U A.length).length = p + A.length - hr - hl ∧ (∀ j, j < p → atl (tkDn A U A.length) j = u j) ∧ (∀ j, j < A.length - hr - hl → atl (tkDn A U A.length) (p + j) = atl A (A.length - 1 - hr - j)) := by
  have key : ∀ d, 1 ≤ d → d ≤ A.length - 1 → (tkDn A U d).length = p + d - hr ∧ (∀ j, j < p → atl (tkDn A U d) j = u j) ∧ (∀ j, j < d - hr → atl (tkDn A U d) (p + j) = atl A (A.length - 1 - hr - j)) := by
    intro d
    induction d with
    | zero => intro h; omega
    | succ d ih =>
      intro _ hd
      by_cases d0 : d = 0
      · subst d0
        have e : tkDn A U (0 + 1) = tk (atl A (A.length - 1)) U := by
          show tk (atl A (A.length - 1 - 0)) U = _
          rfl
        rw [e]
        rcases (show hr = 1 ∨ hr = 0 by omega) with h | h
        · have hm : atl A (A.length - 1) ∈ U := by
            rw [r1 h, ← hu (p - 1) (by omega)]
            exact atl_mem (by omega)
          rw [tk_t hm]
          exact ⟨by omega, hu, fun j hj => by omega⟩
        · have hm : ¬ atl A (A.length - 1) ∈ U := fun z => by
            obtain ⟨j, hj, e⟩ := mem_atl z
            rw [hu j (by omega)] at e
            exact r0 h j (by omega) e
          obtain ⟨k1, k2, k3⟩ := tk_push hm
          refine ⟨by omega, fun j hj => by rw [k2 j (by omega)]; exact hu j hj, fun j hj => ?_⟩
          rw [show j = 0 by omega, Nat.add_zero, ← hU, k3, h]
          rfl
      · obtain ⟨i1, i2, i3⟩ := ih (by omega) (by omega)
        have e : tkDn A U (d + 1) = tk (atl A (A.length - 1 - d)) (tkDn A U d) := rfl
        have hm : ¬ atl A (A.length - 1 - d) ∈ tkDn A U d := fun z => by
          obtain ⟨j, hj, e⟩ := mem_atl z
          by_cases jp : j < p
          · rw [i2 j jp] at e
            exact mid _ (by omega) (by omega) j jp e
          · have := i3 (j - p) (by omega)
            rw [show p + (j - p) = j by omega, e] at this
            exact hinj _ _ (by omega) (by omega) this
        obtain ⟨k1, k2, k3⟩ := tk_push hm
        rw [e]
        refine ⟨by omega, fun j hj => by rw [k2 j (by omega)]; exact i2 j hj, fun j hj => ?_⟩
        by_cases je : p + j = (tkDn A U d).length
        · rw [je, k3]
          congr 1
          omega
        · rw [k2 _ (by omega)]
          exact i3 j (by omega)
  obtain ⟨i1, i2, i3⟩ := key (A.length - 1) (by omega) (Nat.le_refl _)
  have e : tkDn A U A.length = tk (atl A 0) (tkDn A U (A.length - 1)) := by
    have h1 : tkDn A U (A.length - 1 + 1) = tk (atl A (A.length - 1 - (A.length - 1))) (tkDn A U (A.length - 1)) := rfl
    rw [show A.length - 1 + 1 = A.length by omega, Nat.sub_self] at h1
    exact h1
  rw [e]
  rcases (show hl = 1 ∨ hl = 0 by omega) with h | h
  · have hm : atl A 0 ∈ tkDn A U (A.length - 1) := by
      rw [l1 h, ← i2 0 (by omega)]
      exact atl_mem (by omega)
    rw [tk_t hm]
    exact ⟨by omega, i2, fun j hj => i3 j (by omega)⟩
  · have hm : ¬ atl A 0 ∈ tkDn A U (A.length - 1) := fun z => by
      obtain ⟨j, hj, e⟩ := mem_atl z
      by_cases jp : j < p
      · rw [i2 j jp] at e
        exact l0 h j jp e
      · have := i3 (j - p) (by omega)
        rw [show p + (j - p) = j by omega, e] at this
        exact hinj _ _ (by omega) (by omega) this
    obtain ⟨k1, k2, k3⟩ := tk_push hm
    refine ⟨by omega, fun j hj => by rw [k2 j (by omega)]; exact i2 j hj, fun j hj => ?_⟩
    by_cases je : p + j = (tkDn A U (A.length - 1)).length
    · rw [je, k3]
      congr 1
      omega
    · rw [k2 _ (by omega)]
      exact i3 j (by omega)
/-- which edges a ring of this form has -/
theorem ed_class {R : List Nat} {u w : Nat → Nat} {p q hr hl : Nat} (hp : 2 ≤ p) (hq : 2 ≤ q) (hr1 : hr ≤ 1) (hl1 : hl ≤ 1) (r1 : hr = 1 → w (q - 1) = u (p - 1)) (l1 : hl = 1 → w 0 = u 0) (hL : R.length = p + q - hr - hl) (g1 : ∀ j, j < p → atl R j = u j) (g2 : ∀ j, j < q - hr - hl → atl R (p + j) = w (q - 1 - hr - j)) {j : Nat} (hj : j < R.length) :
    (∃ i, i + 1 < p ∧ atl R j = u i ∧ atl R (nxt R.length j) = u (i + 1)) ∨ (hr = 0 ∧ atl R j = u (p - 1) ∧ atl R (nxt R.length j) = w (q - 1)) ∨ (∃ m, m + 1 < q ∧ atl R j = w (m + 1) ∧ atl R (nxt R.length j) = w m) ∨ (hl = 0 ∧ atl R j = w 0 ∧ atl R (nxt R.length j) = u 0) := by
  unfold nxt
  by_cases c1 : j + 1 < p
  · left
    rw [if_pos (by omega)]
    exact ⟨j, c1, g1 j (by omega), g1 (j + 1) c1⟩
  · by_cases c2 : j = p - 1
    · rcases (show hr = 0 ∨ hr = 1 by omega) with h | h
      · right; left
        rw [if_pos (by omega)]
        refine ⟨h, by rw [g1 j (by omega), c2], ?_⟩
        have := g2 0 (by omega)
        rw [show j + 1 = p + 0 by omega, this]
        congr 1
        omega
      · right; right; left
        by_cases c3 : j + 1 < R.length
        · rw [if_pos c3]
          refine ⟨q - 2, by omega, ?_, ?_⟩
          · rw [g1 j (by omega), c2, show q - 2 + 1 = q - 1 by omega, r1 h]
          · have := g2 0 (by omega)
            rw [show j + 1 = p + 0 by omega, this]
            congr 1
            omega
        · rw [if_neg c3]
          refine ⟨0, by omega, ?_, ?_⟩
          · rw [g1 j (by omega), c2, show 0 + 1 = q - 1 by omega, r1 h]
          · rw [g1 0 (by omega), l1 (by omega)]
    · obtain ⟨i, rfl⟩ : ∃ i, j = p + i := ⟨j - p, by omega⟩
      by_cases c3 : p + i + 1 < R.length
      · right; right; left
        rw [if_pos c3]
        refine ⟨q - 1 - hr - i - 1, by omega, ?_, ?_⟩
        · rw [g2 i (by omega)]; congr 1; omega
        · have := g2 (i + 1) (by omega)
          rw [show p + i + 1 = p + (i + 1) by omega, this]
          congr 1
      · rw [if_neg c3]
        rcases (show hl = 0 ∨ hl = 1 by omega) with h | h
        · right; right; right
          refine ⟨h, ?_, g1 0 (by omega)⟩
          rw [g2 i (by omega)]; congr 1; omega
        · right; right; left
          refine ⟨0, by omega, ?_, ?_⟩
          · rw [g2 i (by omega)]; congr 1; omega
          · rw [g1 0 (by omega), l1 h]
theorem ed_all {R : List Nat} {u w : Nat → Nat} {p q hr hl : Nat} (hp : 2 ≤ p) (hq : 2 ≤ q) (hr1 : hr ≤ 1) (hl1 : hl ≤ 1) (r1 : hr = 1 → w (q - 1) = u (p - 1)) (l1 : hl = 1 → w 0 = u 0) (hL : R.length = p + q - hr - hl) (g1 : ∀ j, j < p → atl R j = u j) (g2 : ∀ j, j < q - hr - hl → atl R (p + j) = w (q - 1 - hr - j)) :
    (∀ i, i + 1 < p → ∃ j, j < R.length ∧ atl R j = u i ∧ atl R (nxt R.length j) = u (i + 1)) ∧ (hr = 0 → ∃ j, j < R.length ∧ atl R j = u (p - 1) ∧ atl R (nxt R.length j) = w (q - 1)) ∧ (∀ m, m + 1 < q → ∃ j, j < R.length ∧ atl R j = w (m + 1) ∧ atl R (nxt R.length j) = w m) ∧ (hl = 0 → ∃ j, j < R.length ∧ atl R j = w 0 ∧ atl R (nxt R.length j) = u 0) := by
  unfold nxt
  refine ⟨fun i hi => ⟨i, by omega, g1 i (by omega), ?_⟩, fun h => ⟨p - 1, by omega, g1 _ (by omega), ?_⟩, fun m hm => ⟨p + q - 2 - hr - m, by omega, ?_, ?_⟩, fun h => ⟨p + q - hr - 1, by omega, ?_, ?_⟩⟩
  · rw [if_pos (by omega)]; exact g1 _ hi
  · rw [if_pos (by omega)]
    have := g2 0 (by omega)
    rw [show p - 1 + 1 = p + 0 by omega, this]
    congr 1
    omega
  · by_cases c : p + q - 2 - hr - m < p
    · rw [g1 _ c]
      have h : hr = 1 := by omega
      rw [show p + q - 2 - hr - m = p - 1 by omega, ← r1 h]
      congr 1
      omega
    · have := g2 (p + q - 2 - hr - m - p) (by omega)
      rw [show p + (p + q - 2 - hr - m - p) = p + q - 2 - hr - m by omega] at this
      rw [this]
      congr 1
      omega
  · by_cases c : p + q - 2 - hr - m + 1 < R.length
    · rw [if_pos c]
      have := g2 (p + q - 2 - hr - m + 1 - p) (by omega)
      rw [show p + (p + q - 2 - hr - m + 1 - p) = p + q - 2 - hr - m + 1 by omega] at this
      rw [this]
      congr 1
      omega
    · rw [if_neg c, g1 0 (by omega), ← l1 (by omega)]
      congr 1
      omega
  · have := g2 (q - hr - 1) (by omega)
    rw [show p + (q - hr - 1) = p + q - hr - 1 by omega] at this
    rw [this]
    congr 1
    omega
  · rw [if_neg (by omega)]; exact g1 0 (by omega)
theorem wf_xy {pd px py : Nat → Int32} {n a b : Nat} (hW : WF pd px py n) (ha : a < n) (hb : b < n) (hx : (px a).toInt = (px b).toInt) (hy : (py a).toInt = (py b).toInt) : a = b := by
  rcases Nat.lt_trichotomy a b with q | q | q
  · rcases hW.2.2.2.1 a b q hb with z | z
    · rw [I_lt] at z; omega
    · have := z.2; rw [I_lt] at this; omega
  · exact q
  · rcases hW.2.2.2.1 b a q ha with z | z
    · rw [I_lt] at z; omega
    · have := z.2; rw [I_lt] at this; omega
set_option maxHeartbeats 2000000 in
theorem geo {pd px py : Nat → Int32} {n : Nat} (hW : WF pd px py n) : GEO px py (ringL n px py) := by
  intro hL3 x y k hk hc0
  have hn : 0 < n := by
    have := nd_le (ring_nd n px py)
    omega
  obtain ⟨pB, pA, hone, hch⟩ := hull_ch hW hn
  have bn : ∀ i, i < (chn 1 px py 0 n).length → atl (chn 1 px py 0 n) i < n := fun i hi => chn0_lt _ (atl_mem hi)
  have an : ∀ i, i < (chn 0 px py 0 n).length → atl (chn 0 px py 0 n) i < n := fun i hi => chn0_lt _ (atl_mem hi)
  unfold ringL at *
  generalize chn 1 px py 0 n = B at *
  generalize chn 0 px py 0 n = A at *
  have hlen := tkDn_len A (tkUp B [] B.length) A.length
  have hlen2 := tkUp_len B [] B.length
  simp only [List.length_nil] at hlen2
  have hB : B.length ≠ 1 := fun z => by have := hone.mp z; omega
  have C := hch hB
  have C' := C
  obtain ⟨hp, hq, incB, triB, incA, triA, x0, y0, x1, y1⟩ := C'
  dsimp only at incB triB incA triA x0 y0 x1 y1
  have injB : ∀ i j, i < j → j < B.length → ¬ atl B i = atl B j := fun i j a b z => by have := incB i j a b; rw [z] at this; omega
  have injA : ∀ i j, i < j → j < A.length → ¬ atl A i = atl A j := fun i j a b z => by have := incA i j a b; rw [z] at this; omega
  obtain ⟨up1, up2⟩ := up_struct injB B.length (Nat.le_refl _)
  have mid : ∀ k, 0 < k → k < A.length - 1 → ∀ j, j < B.length → ¬ atl B j = atl A k := by
    intro k k0 k1 j hj z
    have h1 := (ch_a2 C (k := k) (by omega)).2 k0 k1
    rw [← z] at h1
    by_cases e0 : j = 0
    · rw [e0] at h1
      have : crI (px (atl B 0)).toInt (py (atl B 0)).toInt (px (atl B (B.length - 1))).toInt (py (atl B (B.length - 1))).toInt (px (atl B 0)).toInt (py (atl B 0)).toInt = 0 := by unfold crI; grind
      omega
    · by_cases e1 : j = B.length - 1
      · rw [e1] at h1
        have : crI (px (atl B 0)).toInt (py (atl B 0)).toInt (px (atl B (B.length - 1))).toInt (py (atl B (B.length - 1))).toInt (px (atl B (B.length - 1))).toInt (py (atl B (B.length - 1))).toInt = 0 := by unfold crI; grind
        omega
      · have t := triB 0 j (B.length - 1) (by omega) (by omega) (by omega)
        have : crI (px (atl B 0)).toInt (py (atl B 0)).toInt (px (atl B (B.length - 1))).toInt (py (atl B (B.length - 1))).toInt (px (atl B j)).toInt (py (atl B j)).toInt = - crI (px (atl B 0)).toInt (py (atl B 0)).toInt (px (atl B j)).toInt (py (atl B j)).toInt (px (atl B (B.length - 1))).toInt (py (atl B (B.length - 1))).toInt := by unfold crI; grind
        omega
  obtain ⟨hr, hr1, r1, r0, ry⟩ : ∃ hr, hr ≤ 1 ∧ (hr = 1 → atl A (A.length - 1) = atl B (B.length - 1)) ∧ (hr = 0 → ∀ j, j < B.length → ¬ atl B j = atl A (A.length - 1)) ∧ (hr = 0 ↔ (py (atl B (B.length - 1))).toInt < (py (atl A (A.length - 1))).toInt) := by
    by_cases e : atl A (A.length - 1) = atl B (B.length - 1)
    · exact ⟨1, by omega, fun _ => e, fun z => by omega, fun z => by omega, fun z => by rw [e] at z; omega⟩
    · refine ⟨0, by omega, fun z => by omega, fun _ j hj z => ?_, fun _ => ?_, fun _ => rfl⟩
      · by_cases e2 : j = B.length - 1
        · rw [e2] at z; exact e z.symm
        · have := incB j (B.length - 1) (by omega) (by omega)
          rw [z] at this; omega
      · apply Classical.byContradiction
        intro z
        exact e (wf_xy hW (an _ (by omega)) (bn _ (by omega)) x1.symm (by omega))
  obtain ⟨hl, hl1, l1, l0, ly⟩ : ∃ hl, hl ≤ 1 ∧ (hl = 1 → atl A 0 = atl B 0) ∧ (hl = 0 → ∀ j, j < B.length → ¬ atl B j = atl A 0) ∧ (hl = 0 ↔ (py (atl B 0)).toInt < (py (atl A 0)).toInt) := by
    by_cases e : atl A 0 = atl B 0
    · exact ⟨1, by omega, fun _ => e, fun z => by omega, fun z => by omega, fun z => by rw [e] at z; omega⟩
    · refine ⟨0, by omega, fun z => by omega, fun _ j hj z => ?_, fun _ => ?_, fun _ => rfl⟩
      · by_cases e2 : j = 0
        · rw [e2] at z; exact e z.symm
        · have := incB 0 j (by omega) hj
          rw [z] at this; omega
      · apply Classical.byContradiction
        intro z
        exact e (wf_xy hW (an _ (by omega)) (bn _ (by omega)) x0.symm (by omega))
  obtain ⟨hL, g1, g2⟩ := dn_struct (u := atl B) (p := B.length) (hr := hr) (hl := hl) (by omega) hq up1 up2 injA mid hr1 hl1 r1 r0 l1 l0
  generalize tkDn A (tkUp B [] B.length) A.length = R at *
  have hnd : ¬ (B.length = 2 ∧ A.length = 2 ∧ (py (atl B 0)).toInt = (py (atl A 0)).toInt ∧ (py (atl B (B.length - 1))).toInt = (py (atl A (A.length - 1))).toInt) := by
    intro ⟨z1, z2, z3, z4⟩
    have a1 : ¬ hr = 0 := fun z => by have := ry.mp z; omega
    have a2 : ¬ hl = 0 := fun z => by have := ly.mp z; omega
    omega
  have corner : ∀ i, i < R.length → (∃ j, j < B.length ∧ atl R i = atl B j) ∨ (∃ j, j < A.length ∧ atl R i = atl A j) := by
    intro i hi
    by_cases c : i < B.length
    · left; exact ⟨i, c, g1 i c⟩
    · right
      have := g2 (i - B.length) (by omega)
      rw [show B.length + (i - B.length) = i by omega] at this
      exact ⟨_, by omega, this⟩
  have CF := C.flip
  have cls := fun j (hj : j < R.length) => ed_class (u := atl B) (w := atl A) hp hq hr1 hl1 r1 l1 hL g1 g2 hj
  have G1 : ∀ j, j < R.length → ∀ i, i < R.length → 0 ≤ crI (px (atl R j)).toInt (py (atl R j)).toInt (px (atl R (nxt R.length j))).toInt (py (atl R (nxt R.length j))).toInt (px (atl R i)).toInt (py (atl R i)).toInt := by
    intro j hj i hi
    rcases cls j hj with ⟨m, hm, e1, e2⟩ | ⟨h0, e1, e2⟩ | ⟨m, hm, e1, e2⟩ | ⟨h0, e1, e2⟩
    · rw [e1, e2]
      rcases corner i hi with ⟨t, ht, e⟩ | ⟨t, ht, e⟩
      · rw [e]; exact (ch_a1 C hm ht).1
      · rw [e]; exact (ch_a3 C hm ht).1
    · rw [e1, e2, ← x1]
      have hlt := ry.mp h0
      have e3 : crI (px (atl B (B.length - 1))).toInt (py (atl B (B.length - 1))).toInt (px (atl B (B.length - 1))).toInt (py (atl A (A.length - 1))).toInt (px (atl R i)).toInt (py (atl R i)).toInt = ((py (atl A (A.length - 1))).toInt - (py (atl B (B.length - 1))).toInt) * ((px (atl B (B.length - 1))).toInt - (px (atl R i)).toInt) := by unfold crI; grind
      rw [e3]
      apply Int.mul_nonneg (by omega)
      rcases corner i hi with ⟨t, ht, e⟩ | ⟨t, ht, e⟩
      · rw [e]
        by_cases q : t = B.length - 1
        · rw [q]; omega
        · have := incB t (B.length - 1) (by omega) (by omega); omega
      · rw [e]
        have := (ch_in C ht).2
        omega
    · rw [e1, e2, cr_sw, ← cr_neg]
      rcases corner i hi with ⟨t, ht, e⟩ | ⟨t, ht, e⟩
      · rw [e]; exact (ch_a3 CF hm ht).1
      · rw [e]; exact (ch_a1 CF hm ht).1
    · rw [e1, e2, ← x0]
      have hlt := ly.mp h0
      have e3 : crI (px (atl B 0)).toInt (py (atl A 0)).toInt (px (atl B 0)).toInt (py (atl B 0)).toInt (px (atl R i)).toInt (py (atl R i)).toInt = ((py (atl A 0)).toInt - (py (atl B 0)).toInt) * ((px (atl R i)).toInt - (px (atl B 0)).toInt) := by unfold crI; grind
      rw [e3]
      apply Int.mul_nonneg (by omega)
      rcases corner i hi with ⟨t, ht, e⟩ | ⟨t, ht, e⟩
      · rw [e]
        by_cases q : t = 0
        · rw [q]; omega
        · have := incB 0 t (by omega) (by omega); omega
      · rw [e]
        have := (ch_in C ht).1
        omega
  have nl : ∀ i, i < R.length → nxt R.length i < R.length := fun i hi => by unfold nxt; split <;> omega
  refine ⟨fun hb j hj => ?_, fun hb => ?_⟩
  · exact cr_conv hc0 hb.1 hb.2 (G1 j hj k hk) (G1 j hj _ (nl k hk))
  · have hV : VIO B.length (fun i => (px (atl B i)).toInt) (fun i => (py (atl B i)).toInt) A.length (fun i => (px (atl A i)).toInt) (fun i => (py (atl A i)).toInt) x.toInt y.toInt := by
      unfold cE at hc0
      unfold bxE bxP at hb
      rcases cls k hk with ⟨m, hm, e1, e2⟩ | ⟨h0, e1, e2⟩ | ⟨m, hm, e1, e2⟩ | ⟨h0, e1, e2⟩
      · rw [e1, e2] at hc0 hb
        exact ch_b C hnd hm hc0 hb
      · rw [e1, e2] at hc0 hb
        exact ch_bR C (ry.mp h0) hc0 hb
      · rw [e1, e2] at hc0 hb
        apply VIO.flip
        refine ch_b CF ?_ hm ?_ ?_
        · intro ⟨z1, z2, z3, z4⟩
          exact hnd ⟨z2, z1, by omega, by omega⟩
        · rw [cr_neg, ← cr_sw]; exact hc0
        · unfold btwI at *
          omega
      · rw [e1, e2] at hc0 hb
        exact ch_bL C (ly.mp h0) hc0 hb
    obtain ⟨d1, d2, d3, d4⟩ := ed_all (u := atl B) (w := atl A) hp hq hr1 hl1 r1 l1 hL g1 g2
    rcases hV with ⟨m, hm, c⟩ | ⟨h0, c⟩ | ⟨m, hm, c⟩ | ⟨h0, c⟩
    · obtain ⟨j, hj, e1, e2⟩ := d1 m hm
      refine ⟨j, hj, ?_⟩
      unfold cE
      rw [e1, e2]; exact c
    · obtain ⟨j, hj, e1, e2⟩ := d2 (ry.mpr h0)
      refine ⟨j, hj, ?_⟩
      unfold cE
      rw [e1, e2]; exact c
    · obtain ⟨j, hj, e1, e2⟩ := d3 m hm
      refine ⟨j, hj, ?_⟩
      unfold cE
      rw [e1, e2]; exact c
    · obtain ⟨j, hj, e1, e2⟩ := d4 (ly.mpr h0)
      refine ⟨j, hj, ?_⟩
      unfold cE
      rw [e1, e2]; exact c
