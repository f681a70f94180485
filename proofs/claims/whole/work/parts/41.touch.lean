def tT (px py : Nat → Int32) (R : List Nat) (x y : Int32) (c j : Nat) : Int := crI (px c).toInt (py c).toInt (px (atl R j)).toInt (py (atl R j)).toInt x.toInt y.toInt
def tOk (px py : Nat → Int32) (R : List Nat) (x y : Int32) (s c j : Nat) : Prop := (s = 0 → 0 ≤ tT px py R x y c j) ∧ (¬ s = 0 → tT px py R x y c j ≤ 0)
noncomputable def touB (px py : Nat → Int32) (R : List Nat) (x y : Int32) (s c : Nat) : Bool := @decide (∀ j, j < R.length → tOk px py R x y s c j) (Classical.propDecidable _)
theorem touB_t {px py : Nat → Int32} {R : List Nat} {x y : Int32} {s c : Nat} (h : ∀ j, j < R.length → tOk px py R x y s c j) : touB px py R x y s c = true := by
  unfold touB; exact @decide_eq_true _ (Classical.propDecidable _) h
theorem touB_f {px py : Nat → Int32} {R : List Nat} {x y : Int32} {s c j : Nat} (hj : j < R.length) (h : ¬ tOk px py R x y s c j) : touB px py R x y s c = false := by
  unfold touB; exact @decide_eq_false _ (Classical.propDecidable _) (fun z => h (z j hj))
def sqI (px py : Nat → Int32) (x y : Int32) (r : Nat) : Int := (x.toInt - (px r).toInt) * (x.toInt - (px r).toInt) + (y.toInt - (py r).toInt) * (y.toInt - (py r).toInt)
noncomputable def tB (px py : Nat → Int32) (R : List Nat) (x y : Int32) (s : Nat) : Nat → Option Nat
  | 0 => none
  | i + 1 => match tB px py R x y s i with
    | none => if touB px py R x y s (atl R i) then some (atl R i) else none
    | some b => if touB px py R x y s (atl R i) && decide (sqI px py x y (atl R i) < sqI px py x y b) then some (atl R i) else some b
theorem tB_in {px py : Nat → Int32} {R : List Nat} {x y : Int32} {s n : Nat} (hR : NDn n R) : ∀ i, i ≤ R.length → ∀ b, tB px py R x y s i = some b → b < n
  | 0, _, b, h => by simp [tB] at h
  | i + 1, hi, b, h => by
    have ih := tB_in (px := px) (py := py) (x := x) (y := y) (s := s) hR i (by omega)
    have g := hR.1 _ (atl_mem (l := R) (i := i) (by omega))
    unfold tB at h
    cases hb : tB px py R x y s i with
    | none =>
      rw [hb] at h
      dsimp only at h
      split at h
      · cases h; exact g
      · cases h
    | some q =>
      rw [hb] at h
      dsimp only at h
      split at h
      · cases h; exact g
      · cases h; exact ih _ hb
def eC (o : Option Nat) : Int32 := match o with
  | none => -6
  | some b => nI b
def eM (pd : Nat → Int32) (o : Option Nat) : Int32 := match o with
  | none => -6
  | some b => pd b
theorem w_sq {x y a b : Int32} (h1 : inR x) (h2 : inR y) (h3 : inR a) (h4 : inR b) : (((x.toInt64 - a.toInt64) * (x.toInt64 - a.toInt64)) + ((y.toInt64 - b.toInt64) * (y.toInt64 - b.toInt64))).toInt = (x.toInt - a.toInt) * (x.toInt - a.toInt) + (y.toInt - b.toInt) * (y.toInt - b.toInt) := by
  unfold inR at *
  have d1 := w_sub (a := x.toInt64) (b := a.toInt64) (M := 1000000000) (N := 1000000000) (by rw [w_i]; omega) (by rw [w_i]; omega) (by rw [w_i]; omega) (by rw [w_i]; omega) (by omega)
  have d2 := w_sub (a := y.toInt64) (b := b.toInt64) (M := 1000000000) (N := 1000000000) (by rw [w_i]; omega) (by rw [w_i]; omega) (by rw [w_i]; omega) (by rw [w_i]; omega) (by omega)
  rw [w_i, w_i] at d1 d2
  have m1 := w_mul (a := x.toInt64 - a.toInt64) (b := x.toInt64 - a.toInt64) (M := 2000000000) (N := 2000000000) (by rw [d1]; omega) (by rw [d1]; omega) (by rw [d1]; omega) (by rw [d1]; omega) (by omega)
  have m2 := w_mul (a := y.toInt64 - b.toInt64) (b := y.toInt64 - b.toInt64) (M := 2000000000) (N := 2000000000) (by rw [d2]; omega) (by rw [d2]; omega) (by rw [d2]; omega) (by rw [d2]; omega) (by omega)
  have b1 := mul_bd (a := x.toInt - a.toInt) (b := x.toInt - a.toInt) (M := 2000000000) (N := 2000000000) (by omega) (by omega) (by omega) (by omega)
  have b2 := mul_bd (a := y.toInt - b.toInt) (b := y.toInt - b.toInt) (M := 2000000000) (N := 2000000000) (by omega) (by omega) (by omega) (by omega)
  rw [d1] at m1
  rw [d2] at m2
  rw [w_add (M := 4000000000000000000) (N := 4000000000000000000) (by rw [m1]; omega) (by rw [m1]; omega) (by rw [m2]; omega) (by rw [m2]; omega) (by omega), m1, m2]
theorem sq_sw (x a : Int) : (a - x) * (a - x) = (x - a) * (x - a) := by
  rw [show a - x = -(x - a) by omega, Int.neg_mul_neg]
theorem cr_cyc (ax ay bx by_ cx cy : Int) : crI ax ay bx by_ cx cy = crI cx cy ax ay bx by_ := by
  unfold crI
  grind
theorem s_isNearer {px py : Nat → Int32} {c b : Nat} {x y : Int32} (hc : c < 32) (hb : b < 32) (h1 : inR x) (h2 : inR y) (hRc : inR (px c) ∧ inR (py c)) (hRb : inR (px b) ∧ inR (py b)) {K : Int32 → Prop} (k1 : sqI px py x y c < sqI px py x y b → K 1) (k0 : ¬ sqI px py x y c < sqI px py x y b → K 0) : wp_X4_isNearer px py (nI c) (nI b) x y K := by
  unfold wp_X4_isNearer wp_X3_squaredDistance
  have e1 := w_sq h1 h2 hRc.1 hRc.2
  have e2 := w_sq h1 h2 hRb.1 hRb.2
  rw [n_cl (i := c) (by omega), n_cl (i := b) (by omega)]
  refine ⟨n_in hc (by omega), n_in hc (by omega), n_in hb (by omega), n_in hb (by omega), ?_⟩
  dsimp only
  rw [J_le, e1, e2]
  unfold sqI at k1 k0
  exact ⟨fun d => k0 (by omega), fun d => k1 (by omega)⟩
theorem s_isTouching {pd px py rr : Nat → Int32} {x y : Int32} {n s c : Nat} {R : List Nat} (hW : WF pd px py n) (hR : NDn n R) (hs : s ≤ 1) (hc : c < n) (h1 : inR x) (h2 : inR y) (hrp : rp nI rr R) {K : Int32 → Prop} (k1 : touB px py R x y s c = true → K 1) (k0 : touB px py R x y s c = false → K 0) : wp_X4_isTouching rr (nI R.length) px py (nI c) x y (nI s) K := by
  have hn := hW.1
  have hle := nd_le hR
  have hin := hW.2.2.2.2
  have key : ∀ (d i : Nat), i + d = R.length → (∀ j, j < i → tOk px py R x y s c j) → wp_X4_isTouching_3 rr (nI R.length) px py (nI c) x y (nI s) K (d + 1) (nI i) := by
    intro d
    induction d with
    | zero =>
      intro i hi hj
      refine wp_X4_isTouching_3_s ?_
      unfold wp_X4_isTouching_3b
      exact ⟨fun _ => k1 (touB_t (fun j hjl => hj j (by omega))), fun c => absurd ((n_le (by omega) (by omega)).mpr (by omega)) c⟩
    | succ d ih =>
      intro i hi hj
      refine wp_X4_isTouching_3_s ?_
      unfold wp_X4_isTouching_3b
      have g := hR.1 _ (atl_mem (l := R) (i := i) (by omega))
      rw [n_cl (by omega), rp_at hrp (by omega), nI_1, show (0 : Int32) = nI 0 from rfl, n_eq (by omega) (by omega)]
      refine ⟨fun c => by rw [n_le (by omega) (by omega)] at c; omega, fun _ => ⟨n_in (by omega) (by omega), s_turn (by omega) (by omega) (hin c hc).1 (hin c hc).2 (hin _ g).1 (hin _ g).2 h1 h2 (fun w hw => ?_)⟩⟩
      have hw2 : w.toInt = tT px py R x y c i := hw
      rw [J_le, J_le, hw2, show (0 : Int64).toInt = 0 from rfl]
      have nx : tOk px py R x y s c i → wp_X4_isTouching_3 rr (nI R.length) px py (nI c) x y (nI s) K (d + 1) (nI (i + 1)) := fun z => ih (i + 1) (by omega) (fun j hjl => by
        by_cases e : j = i
        · rw [e]; exact z
        · exact hj j (by omega))
      refine ⟨fun q => ⟨fun z => nx ⟨fun e => absurd e q, fun _ => z⟩, fun z => k0 (touB_f (show i < R.length by omega) (fun y => z (y.2 q)))⟩, fun q => ⟨fun z => nx ⟨fun _ => z, fun e => absurd q e⟩, fun z => k0 (touB_f (show i < R.length by omega) (fun y => z (y.1 q)))⟩⟩
  unfold wp_X4_isTouching
  exact ⟨R.length + 1, key R.length 0 (by omega) (fun j hj => by omega)⟩
theorem s_nearest {pd px py rr : Nat → Int32} {x y : Int32} {n s : Nat} {R : List Nat} (hW : WF pd px py n) (hR : NDn n R) (hs : s ≤ 1) (h1 : inR x) (h2 : inR y) (hrp : rp nI rr R) {K : Int32 → Prop} (h : K (eC (tB px py R x y s R.length))) : wp_X4_nearestTouching rr (nI R.length) px py x y (nI s) K := by
  have hn := hW.1
  have hle := nd_le hR
  have hin := hW.2.2.2.2
  have key : ∀ (d i : Nat), i + d = R.length → wp_X4_nearestTouching_7 rr (nI R.length) px py x y (nI s) K (d + 1) (eC (tB px py R x y s i)) (nI i) := by
    intro d
    induction d with
    | zero =>
      intro i hi
      refine wp_X4_nearestTouching_7_s ?_
      unfold wp_X4_nearestTouching_7b
      rw [show i = R.length by omega]
      exact ⟨fun _ => h, fun c => absurd ((n_le (by omega) (by omega)).mpr (by omega)) c⟩
    | succ d ih =>
      intro i hi
      refine wp_X4_nearestTouching_7_s ?_
      unfold wp_X4_nearestTouching_7b
      have g := hR.1 _ (atl_mem (l := R) (i := i) (by omega))
      have bi := tB_in (px := px) (py := py) (x := x) (y := y) (s := s) hR i (by omega)
      have nx := ih (i + 1) (by omega)
      rw [n_cl (by omega), rp_at hrp (by omega), nI_1]
      refine ⟨fun c => by rw [n_le (by omega) (by omega)] at c; omega, fun _ => ⟨n_in (by omega) (by omega), s_isTouching hW hR hs g h1 h2 hrp (fun z => ⟨fun q => absurd q one_ne, fun _ => ?_⟩) (fun z => ⟨fun _ => ?_, fun q => absurd rfl q⟩)⟩⟩
      · unfold tB at nx
        cases hb : tB px py R x y s i with
        | none =>
          rw [hb] at nx
          dsimp only at nx
          rw [if_pos z] at nx
          exact ⟨fun _ => nx, fun q => absurd rfl q⟩
        | some b =>
          have hbn := bi b hb
          rw [hb] at nx
          dsimp only at nx
          rw [z, Bool.true_and] at nx
          refine ⟨fun q => absurd q (n_ne6 (by omega)), fun _ => s_isNearer (by omega) (by omega) h1 h2 (hin _ g) (hin _ hbn) (fun w => ⟨fun q => absurd q one_ne, fun _ => ?_⟩) (fun w => ⟨fun _ => ?_, fun q => absurd rfl q⟩)⟩
          · rw [if_pos (decide_eq_true w)] at nx
            exact nx
          · rw [if_neg (by rw [decide_eq_false w]; simp)] at nx
            exact nx
      · unfold tB at nx
        cases hb : tB px py R x y s i with
        | none =>
          rw [hb] at nx
          dsimp only at nx
          rw [if_neg (by rw [z]; simp)] at nx
          exact nx
        | some b =>
          rw [hb] at nx
          dsimp only at nx
          rw [z, Bool.false_and, if_neg (by simp)] at nx
          exact nx
  unfold wp_X4_nearestTouching
  exact ⟨R.length + 1, key R.length 0 (by omega)⟩
set_option maxHeartbeats 1000000 in
theorem s_touchLoop {pd px py mx my mi mr mo mg mc : Nat → Int32} {f t dd mk x y : Int32} {n s : Nat} {R : List Nat} (hW : WF pd px py n) (hV : MV pd px py n mx my mi) (hR : NDn n R) (hs : s ≤ 1) (h1 : inR x) (h2 : inR y) (hrp : rp pd mg R) {K : Int32 → (Nat → Int32) → (Nat → Int32) → Int32 → Int32 → Int32 → (Nat → Int32) → Int32 → (Nat → Int32) → Int32 → Prop}
    (h : K (eM pd (tB px py R x y s R.length)) mr mo f t dd mc mk mg (nI R.length)) : ∃ k, wp_X6_touch_49 mx my mi (nI n) x y (nI s) K mr mo f t dd mc mk mg (nI R.length) k (-6) 0 := by
  have hn := hW.1
  have hle := nd_le hR
  have hin := hW.2.2.2.2
  have s0 : (nI s = 0 ↔ s = 0) := by rw [show (0 : Int32) = nI 0 from rfl, n_eq (by omega) (by omega)]
  have key : ∀ (d i : Nat), i + d = R.length → wp_X6_touch_49 mx my mi (nI n) x y (nI s) K mr mo f t dd mc mk mg (nI R.length) (d + 1) (eM pd (tB px py R x y s i)) (nI i) := by
    intro d
    induction d with
    | zero =>
      intro i hi
      refine wp_X6_touch_49_s ?_
      unfold wp_X6_touch_49b
      rw [show i = R.length by omega]
      exact ⟨fun _ => h, fun c => absurd ((n_le (by omega) (by omega)).mpr (by omega)) c⟩
    | succ d ih =>
      intro i hi
      refine wp_X6_touch_49_s ?_
      unfold wp_X6_touch_49b
      have g := hR.1 _ (atl_mem (l := R) (i := i) (by omega))
      have bi := tB_in (px := px) (py := py) (x := x) (y := y) (s := s) hR i (by omega)
      have nx := ih (i + 1) (by omega)
      rw [n_cl (by omega), rp_at hrp (by omega)]
      refine ⟨fun c => by rw [n_le (by omega) (by omega)] at c; omega, fun _ => ⟨n_in (by omega) (by omega), R.length + 1, ?_⟩⟩
      have inner : ∀ (e j : Nat) (b : Bool), j + e = R.length → (b = true ↔ ∀ q, q < j → tOk px py R x y s (atl R i) q) → wp_X6_touch_73 mx my mi (nI n) x y (nI s) K (wp_X6_touch_49 mx my mi (nI n) x y (nI s) K mr mo f t dd mc mk mg (nI R.length) (d + 1)) mr mo f t dd mc mk mg (nI R.length) (eM pd (tB px py R x y s i)) (nI i) (pd (atl R i)) (e + 1) (if b then 1 else 0) (nI j) := by
        intro e
        induction e with
        | zero =>
          intro j b hj hb
          refine wp_X6_touch_73_s ?_
          unfold wp_X6_touch_73b
          rw [nI_1]
          refine ⟨fun _ => ?_, fun c => absurd ((n_le (by omega) (by omega)).mpr (by omega)) c⟩
          unfold tB at nx
          cases b with
          | true =>
            have z : touB px py R x y s (atl R i) = true := touB_t (fun q hq => hb.mp rfl q (by omega))
            refine ⟨fun q => absurd q one_ne, fun _ => ?_⟩
            cases hbb : tB px py R x y s i with
            | none =>
              rw [hbb] at nx
              dsimp only at nx
              rw [if_pos z] at nx
              exact ⟨fun _ => nx, fun q => absurd (show (-6 : Int32) < 0 by decide) q⟩
            | some bb =>
              have hbn := bi bb hbb
              rw [hbb] at nx
              dsimp only at nx
              rw [z, Bool.true_and] at nx
              refine ⟨fun q => absurd q (pd_ge hW hbn), fun _ => ?_⟩
              show wp_X6_square mx my (pd (atl R i)) x y _
              unfold wp_X6_square
              refine ⟨pd_in hW g, pd_in hW g, pd_in hW hbn, pd_in hW hbn, ?_⟩
              dsimp only
              rw [show eM pd (some bb) = pd bb from rfl, pd_mx hV g, pd_my hV g, pd_mx hV hbn, pd_my hV hbn]
              rw [J_le, w_sq (hin _ g).1 (hin _ g).2 h1 h2, w_sq (hin _ hbn).1 (hin _ hbn).2 h1 h2]
              rw [sq_sw x.toInt, sq_sw y.toInt, sq_sw x.toInt, sq_sw y.toInt]
              refine ⟨fun w => ?_, fun w => ?_⟩
              · rw [if_neg (by rw [decide_eq_false (show ¬ sqI px py x y (atl R i) < sqI px py x y bb by unfold sqI; omega)]; simp)] at nx
                exact nx
              · rw [if_pos (decide_eq_true (show sqI px py x y (atl R i) < sqI px py x y bb by unfold sqI; omega))] at nx
                exact nx
          | false =>
            have z : touB px py R x y s (atl R i) = false := by
              cases hc : touB px py R x y s (atl R i) with
              | false => rfl
              | true =>
                have : ∀ q, q < R.length → tOk px py R x y s (atl R i) q := by
                  unfold touB at hc
                  exact @of_decide_eq_true _ (Classical.propDecidable _) hc
                exact absurd (hb.mpr (fun q hq => this q (by omega))) (by decide)
            refine ⟨fun _ => ?_, fun q => absurd rfl q⟩
            cases hbb : tB px py R x y s i with
            | none =>
              rw [hbb] at nx
              dsimp only at nx
              rw [if_neg (by rw [z]; simp)] at nx
              exact nx
            | some bb =>
              rw [hbb] at nx
              dsimp only at nx
              rw [z, Bool.false_and, if_neg (by simp)] at nx
              exact nx
        | succ e ihe =>
          intro j b hj hb
          refine wp_X6_touch_73_s ?_
          unfold wp_X6_touch_73b
          have gj := hR.1 _ (atl_mem (l := R) (i := j) (by omega))
          rw [n_cl (i := j) (by omega), rp_at hrp (i := j) (by omega), pd_mx hV g, pd_my hV g, pd_mx hV gj, pd_my hV gj, nI_1 j]
          refine ⟨fun c => by rw [n_le (by omega) (by omega)] at c; omega, fun _ => ⟨pd_in hW g, pd_in hW g, n_in (by omega) (by omega), pd_in hW gj, n_in (by omega) (by omega), pd_in hW gj, ?_⟩⟩
          unfold wp_X6_cross
          have ew := w_cross h1 h2 (hin _ g).1 (hin _ g).2 (hin _ gj).1 (hin _ gj).2
          rw [← cr_cyc] at ew
          have ew2 : _ = tT px py R x y (atl R i) j := ew
          dsimp only
          rw [J_lt, J_lt, ew2, show (0 : Int64).toInt = 0 from rfl, s0]
          have yes : b = true → tOk px py R x y s (atl R i) j → wp_X6_touch_73 mx my mi (nI n) x y (nI s) K (wp_X6_touch_49 mx my mi (nI n) x y (nI s) K mr mo f t dd mc mk mg (nI R.length) (d + 1)) mr mo f t dd mc mk mg (nI R.length) (eM pd (tB px py R x y s i)) (nI i) (pd (atl R i)) (e + 1) 1 (nI (j + 1)) := fun hbt z => ihe (j + 1) true (by omega) ⟨fun _ q hq => by
            by_cases qe : q = j
            · rw [qe]; exact z
            · exact hb.mp hbt q (by omega), fun _ => rfl⟩
          have no : (b = false ∨ ¬ tOk px py R x y s (atl R i) j) → wp_X6_touch_73 mx my mi (nI n) x y (nI s) K (wp_X6_touch_49 mx my mi (nI n) x y (nI s) K mr mo f t dd mc mk mg (nI R.length) (d + 1)) mr mo f t dd mc mk mg (nI R.length) (eM pd (tB px py R x y s i)) (nI i) (pd (atl R i)) (e + 1) 0 (nI (j + 1)) := fun z => ihe (j + 1) false (by omega) ⟨fun q => absurd q (by decide), fun q => by
            rcases z with z | z
            · rw [z] at hb
              exact absurd (hb.mpr (fun a ha => q a (by omega))) (by decide)
            · exact absurd (q j (by omega)) z⟩
          cases b with
          | false => exact ⟨fun _ => no (Or.inl rfl), fun q => absurd rfl q⟩
          | true =>
            refine ⟨fun q => absurd q one_ne, fun _ => ⟨fun q => ⟨fun z => no (Or.inr (fun w => by have := w.2 q; omega)), fun z => yes rfl ⟨fun e => absurd e q, fun _ => by omega⟩⟩, fun q => ⟨fun z => no (Or.inr (fun w => by have := w.1 q; omega)), fun z => yes rfl ⟨fun _ => by omega, fun e => absurd q e⟩⟩⟩⟩
      exact inner R.length 0 true (by omega) ⟨fun _ q hq => by omega, fun _ => rfl⟩
  exact ⟨R.length + 1, key R.length 0 (by omega)⟩
