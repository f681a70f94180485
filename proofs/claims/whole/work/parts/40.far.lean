def c64 (ax ay bx by_ cx cy : Int32) : Int64 := ((bx.toInt64 - ax.toInt64) * (cy.toInt64 - ay.toInt64)) - ((by_.toInt64 - ay.toInt64) * (cx.toInt64 - ax.toInt64))
theorem s_turnE {px py : Nat → Int32} {a b : Nat} {x y : Int32} (ha : a < 32) (hb : b < 32) {K : Int64 → Prop} (h : K (c64 (px a) (py a) (px b) (py b) x y)) : wp_X3_turn px py (nI a) (nI b) x y K := by
  unfold wp_X3_turn
  rw [n_cl (by omega), n_cl (by omega)]
  exact ⟨n_in hb (by omega), n_in ha (by omega), n_in hb (by omega), n_in ha (by omega), n_in ha (by omega), n_in ha (by omega), h⟩
theorem pd_in {pd px py : Nat → Int32} {n k : Nat} (hW : WF pd px py n) (hk : k < n) : vp_in (pd k) 32 := by rw [(hW.2.1 k hk).2]; exact n_in (hW.2.1 k hk).1 (by omega)
theorem pd_mx {pd px py mx my mi : Nat → Int32} {n k : Nat} (hV : MV pd px py n mx my mi) (hk : k < n) : mx (pd k).toNatClampNeg = px k := (hV.1 k hk).2.1
theorem pd_my {pd px py mx my mi : Nat → Int32} {n k : Nat} (hV : MV pd px py n mx my mi) (hk : k < n) : my (pd k).toNatClampNeg = py k := (hV.1 k hk).2.2
theorem pd_mo {pd mr mo : Nat → Int32} {n k : Nat} (hr : RK pd n mr mo) (hk : k < n) : mo (pd k).toNatClampNeg = nI k := hr.2 k hk
theorem pd_ge {pd px py : Nat → Int32} {n k : Nat} (hW : WF pd px py n) (hk : k < n) : ¬ pd k < 0 := by rw [(hW.2.1 k hk).2]; exact n_ge0 (by have := (hW.2.1 k hk).1; omega)
theorem s_bendE {pd px py mx my mi : Nat → Int32} {n a b c : Nat} (hW : WF pd px py n) (hV : MV pd px py n mx my mi) (ha : a < n) (hb : b < n) (hc : c < n) {K : Int64 → Prop} (h : K (c64 (px a) (py a) (px b) (py b) (px c) (py c))) : wp_X6_bend mx my (pd a) (pd b) (pd c) K := by
  unfold wp_X6_bend
  refine ⟨pd_in hW ha, pd_in hW ha, pd_in hW hb, pd_in hW hb, pd_in hW hc, pd_in hW hc, ?_⟩
  unfold wp_X6_cross
  rw [pd_mx hV ha, pd_my hV ha, pd_mx hV hb, pd_my hV hb, pd_mx hV hc, pd_my hV hc]
  exact h
/-- twice the area, as a sum -/
def arS (px py : Nat → Int32) (R : List Nat) : Nat → Int64
  | 0 => 0
  | i + 1 => arS px py R i + c64 (px (atl R 0)) (py (atl R 0)) (px (atl R (i + 1))) (py (atl R (i + 1))) (px (atl R (i + 2))) (py (atl R (i + 2)))
theorem s_areaC {px py rr : Nat → Int32} {n : Nat} {R : List Nat} (hn : n ≤ 32) (hR : NDn n R) (hrp : rp nI rr R) {K : Int64 → Prop} (h : K (arS px py R (R.length - 2))) : wp_X4_doubleArea rr (nI R.length) px py K := by
  have hle := nd_le hR
  have key : ∀ (d i : Nat), i + d = R.length - 2 → wp_X4_doubleArea_5 rr (nI R.length) px py K (d + 1) (arS px py R i) (nI (i + 1)) := by
    intro d
    induction d with
    | zero =>
      intro i hi
      refine wp_X4_doubleArea_5_s ?_
      unfold wp_X4_doubleArea_5b
      rw [nI_1, n_le (by omega) (by omega), show i = R.length - 2 by omega]
      exact ⟨fun _ => h, fun c => by omega⟩
    | succ d ih =>
      intro i hi
      refine wp_X4_doubleArea_5_s ?_
      unfold wp_X4_doubleArea_5b
      have g0 := hR.1 _ (atl_mem (l := R) (i := 0) (by omega))
      have g1 := hR.1 _ (atl_mem (l := R) (i := i + 1) (by omega))
      have g2 := hR.1 _ (atl_mem (l := R) (i := i + 1 + 1) (by omega))
      rw [nI_1, n_cl (i := i + 1) (by omega), n_cl (i := i + 1 + 1) (by omega), show (0 : Int32).toNatClampNeg = 0 from rfl, rp_at hrp (i := i + 1) (by omega), rp_at hrp (i := i + 1 + 1) (by omega), rp_at hrp (i := 0) (by omega), n_cl (i := atl R (i + 1 + 1)) (by omega), n_le (by omega) (by omega)]
      refine ⟨fun c => by omega, fun _ => ⟨n_in (by omega) (by omega), n_in (i := 0) (by omega) (by omega), n_in (by omega) (by omega), n_in (by omega) (by omega), n_in (by omega) (by omega), s_turnE (by omega) (by omega) ?_⟩⟩
      exact ih (i + 1) (by omega)
  unfold wp_X4_doubleArea
  exact ⟨R.length - 2 + 1, key (R.length - 2) 0 (by omega)⟩
theorem s_areaM {pd px py mx my mi mr mo mc mg : Nat → Int32} {mf mt md mk mh : Int32} {n : Nat} (hW : WF pd px py n) (hV : MV pd px py n mx my mi) {K : Int64 → (Nat → Int32) → (Nat → Int32) → Int32 → Int32 → Int32 → (Nat → Int32) → Int32 → (Nat → Int32) → Int32 → Prop}
    (h : ∀ mr' mo' f t d mc' mk' mg' mh', K (arS px py (ringL n px py) ((ringL n px py).length - 2)) mr' mo' f t d mc' mk' mg' mh') : wp_X6_area mx my mi (nI n) mr mo mf mt md mc mk mg mh K := by
  have hn := hW.1
  unfold wp_X6_area
  refine s_layRound hW hV (fun mr' mo' f t dd mc' mk' mg' hr hrp => ?_)
  have hR := ring_nd n px py
  generalize ringL n px py = R at *
  have hle := nd_le hR
  have key : ∀ (d i : Nat), i + d = R.length - 2 → wp_X6_area_8 mx my mi (nI n) K mr' mo' f t dd mc' mk' mg' (nI R.length) (d + 1) (arS px py R i) (nI (i + 1)) := by
    intro d
    induction d with
    | zero =>
      intro i hi
      refine wp_X6_area_8_s ?_
      unfold wp_X6_area_8b
      rw [nI_1, n_le (by omega) (by omega), show i = R.length - 2 by omega]
      exact ⟨fun _ => h _ _ _ _ _ _ _ _ _, fun c => by omega⟩
    | succ d ih =>
      intro i hi
      refine wp_X6_area_8_s ?_
      unfold wp_X6_area_8b
      have g0 := hR.1 _ (atl_mem (l := R) (i := 0) (by omega))
      have g1 := hR.1 _ (atl_mem (l := R) (i := i + 1) (by omega))
      have g2 := hR.1 _ (atl_mem (l := R) (i := i + 1 + 1) (by omega))
      rw [nI_1, n_cl (i := i + 1) (by omega), n_cl (i := i + 1 + 1) (by omega), show (0 : Int32).toNatClampNeg = 0 from rfl, rp_at hrp (i := i + 1) (by omega), rp_at hrp (i := i + 1 + 1) (by omega), rp_at hrp (i := 0) (by omega), n_le (by omega) (by omega)]
      refine ⟨fun c => by omega, fun _ => ⟨n_in (i := 0) (by omega) (by omega), n_in (by omega) (by omega), n_in (by omega) (by omega), s_bendE hW hV (by omega) (by omega) (by omega) ?_⟩⟩
      exact ih (i + 1) (by omega)
  exact ⟨R.length - 2 + 1, key (R.length - 2) 0 (by omega)⟩
/-- farthest in a direction -/
def rch (px py : Nat → Int32) (dx dy : Int32) (r : Nat) : Int := dx.toInt * (px r).toInt + dy.toInt * (py r).toInt
def far (px py : Nat → Int32) (dx dy : Int32) (c b : Nat) : Bool := decide (rch px py dx dy b < rch px py dx dy c ∨ (rch px py dx dy c = rch px py dx dy b ∧ c < b))
def bF (px py : Nat → Int32) (dx dy : Int32) (R : List Nat) : Nat → Nat
  | 0 => atl R 0
  | i + 1 => if far px py dx dy (atl R (i + 1)) (bF px py dx dy R i) then atl R (i + 1) else bF px py dx dy R i
theorem bF_in {px py : Nat → Int32} {dx dy : Int32} {n : Nat} {R : List Nat} (hR : NDn n R) : ∀ i, i < R.length → bF px py dx dy R i < n
  | 0, h => hR.1 _ (atl_mem h)
  | i + 1, h => by
    unfold bF
    split
    · exact hR.1 _ (atl_mem h)
    · exact bF_in hR i (by omega)
theorem w_lin {dx dy x y : Int32} (h1 : inR dx) (h2 : inR dy) (h3 : inR x) (h4 : inR y) : ((dx.toInt64 * x.toInt64) + (dy.toInt64 * y.toInt64)).toInt = dx.toInt * x.toInt + dy.toInt * y.toInt := by
  unfold inR at *
  have m1 := w_mul (a := dx.toInt64) (b := x.toInt64) (M := 1000000000) (N := 1000000000) (by rw [w_i]; omega) (by rw [w_i]; omega) (by rw [w_i]; omega) (by rw [w_i]; omega) (by omega)
  have m2 := w_mul (a := dy.toInt64) (b := y.toInt64) (M := 1000000000) (N := 1000000000) (by rw [w_i]; omega) (by rw [w_i]; omega) (by rw [w_i]; omega) (by rw [w_i]; omega) (by omega)
  have b1 := mul_bd (a := dx.toInt) (b := x.toInt) (M := 1000000000) (N := 1000000000) (by omega) (by omega) (by omega) (by omega)
  have b2 := mul_bd (a := dy.toInt) (b := y.toInt) (M := 1000000000) (N := 1000000000) (by omega) (by omega) (by omega) (by omega)
  rw [w_i, w_i] at m1 m2
  rw [w_add (M := 1000000000000000000) (N := 1000000000000000000) (by rw [m1]; omega) (by rw [m1]; omega) (by rw [m2]; omega) (by rw [m2]; omega) (by omega), m1, m2]
theorem w_off {dx dy x y u v : Int32} (h1 : inR dx) (h2 : inR dy) (h3 : inR x) (h4 : inR y) (h5 : inR u) (h6 : inR v) : ((dx.toInt64 * (x.toInt64 - u.toInt64)) + (dy.toInt64 * (y.toInt64 - v.toInt64))).toInt = (dx.toInt * x.toInt + dy.toInt * y.toInt) - (dx.toInt * u.toInt + dy.toInt * v.toInt) := by
  unfold inR at *
  have d1 := w_sub (a := x.toInt64) (b := u.toInt64) (M := 1000000000) (N := 1000000000) (by rw [w_i]; omega) (by rw [w_i]; omega) (by rw [w_i]; omega) (by rw [w_i]; omega) (by omega)
  have d2 := w_sub (a := y.toInt64) (b := v.toInt64) (M := 1000000000) (N := 1000000000) (by rw [w_i]; omega) (by rw [w_i]; omega) (by rw [w_i]; omega) (by rw [w_i]; omega) (by omega)
  rw [w_i, w_i] at d1 d2
  have m1 := w_mul (a := dx.toInt64) (b := x.toInt64 - u.toInt64) (M := 1000000000) (N := 2000000000) (by rw [w_i]; omega) (by rw [w_i]; omega) (by rw [d1]; omega) (by rw [d1]; omega) (by omega)
  have m2 := w_mul (a := dy.toInt64) (b := y.toInt64 - v.toInt64) (M := 1000000000) (N := 2000000000) (by rw [w_i]; omega) (by rw [w_i]; omega) (by rw [d2]; omega) (by rw [d2]; omega) (by omega)
  have b1 := mul_bd (a := dx.toInt) (b := x.toInt - u.toInt) (M := 1000000000) (N := 2000000000) (by omega) (by omega) (by omega) (by omega)
  have b2 := mul_bd (a := dy.toInt) (b := y.toInt - v.toInt) (M := 1000000000) (N := 2000000000) (by omega) (by omega) (by omega) (by omega)
  rw [w_i, d1] at m1
  rw [w_i, d2] at m2
  rw [w_add (M := 2000000000000000000) (N := 2000000000000000000) (by rw [m1]; omega) (by rw [m1]; omega) (by rw [m2]; omega) (by rw [m2]; omega) (by omega), m1, m2, Int.mul_sub, Int.mul_sub]
  omega
theorem s_isFarther {px py : Nat → Int32} {c b : Nat} {dx dy : Int32} (hc : c < 32) (hb : b < 32) (h1 : inR dx) (h2 : inR dy) (hRc : inR (px c) ∧ inR (py c)) (hRb : inR (px b) ∧ inR (py b)) {K : Int32 → Prop} (k1 : far px py dx dy c b = true → K 1) (k0 : far px py dx dy c b = false → K 0) : wp_X4_isFarther px py (nI c) (nI b) dx dy K := by
  unfold wp_X4_isFarther wp_X3_reach
  have e1 := w_lin h1 h2 hRc.1 hRc.2
  have e2 := w_lin h1 h2 hRb.1 hRb.2
  rw [n_cl (i := c) (by omega), n_cl (i := b) (by omega)]
  refine ⟨n_in hc (by omega), n_in hc (by omega), n_in hb (by omega), n_in hb (by omega), ?_⟩
  dsimp only
  rw [J_lt, J_eq, e1, e2, n_le (by omega) (by omega)]
  unfold far rch at k1 k0
  refine ⟨fun d => k1 (decide_eq_true (Or.inl d)), fun d => ⟨fun e => k0 (decide_eq_false (fun z => ?_)), fun e => ⟨fun f => k0 (decide_eq_false (fun z => ?_)), fun f => k1 (decide_eq_true (Or.inr ⟨e, by omega⟩))⟩⟩⟩
  · rcases z with z | z
    · exact d z
    · exact e z.1
  · rcases z with z | z
    · exact d z
    · omega
theorem s_farthest {pd px py rr : Nat → Int32} {dx dy : Int32} {n : Nat} {R : List Nat} (hW : WF pd px py n) (hR : NDn n R) (hpos : 0 < R.length) (h1 : inR dx) (h2 : inR dy) (hrp : rp nI rr R) {K : Int32 → Prop} (h : K (nI (bF px py dx dy R (R.length - 1)))) : wp_X4_farthest rr (nI R.length) px py dx dy K := by
  have hn := hW.1
  have hle := nd_le hR
  have hin := hW.2.2.2.2
  have key : ∀ (d i : Nat), i + 1 + d = R.length → wp_X4_farthest_7 rr (nI R.length) px py dx dy K (d + 1) (nI (bF px py dx dy R i)) (nI (i + 1)) := by
    intro d
    induction d with
    | zero =>
      intro i hi
      refine wp_X4_farthest_7_s ?_
      unfold wp_X4_farthest_7b
      rw [show i = R.length - 1 by omega]
      exact ⟨fun _ => h, fun c => absurd ((n_le (by omega) (by omega)).mpr (by omega)) c⟩
    | succ d ih =>
      intro i hi
      refine wp_X4_farthest_7_s ?_
      unfold wp_X4_farthest_7b
      have gc := hR.1 _ (atl_mem (l := R) (i := i + 1) (by omega))
      have gb := bF_in (px := px) (py := py) (dx := dx) (dy := dy) hR i (by omega)
      have nx := ih (i + 1) (by omega)
      rw [nI_1, n_cl (i := i + 1) (by omega), rp_at hrp (i := i + 1) (by omega)]
      refine ⟨fun c => by rw [n_le (by omega) (by omega)] at c; omega, fun _ => ⟨fun c => absurd c (n_ne6 (by omega)), fun _ => ⟨n_in (by omega) (by omega), s_isFarther (by omega) (by omega) h1 h2 (hin _ gc) (hin _ gb) (fun z => ⟨fun q => absurd q one_ne, fun _ => ⟨n_in (by omega) (by omega), ?_⟩⟩) (fun z => ⟨fun _ => ?_, fun q => absurd rfl q⟩)⟩⟩⟩
      · unfold bF at nx
        rw [if_pos z] at nx
        exact nx
      · unfold bF at nx
        rw [if_neg (by rw [z]; simp)] at nx
        exact nx
  unfold wp_X4_farthest
  refine ⟨R.length + 1, wp_X4_farthest_7_s ?_⟩
  unfold wp_X4_farthest_7b
  rw [show (0 : Int32).toNatClampNeg = 0 from rfl, rp_at hrp hpos]
  refine ⟨fun c => ?_, fun _ => ⟨fun _ => ⟨n_in (i := 0) (by omega) (by omega), ?_⟩, fun c => absurd rfl c⟩⟩
  · rw [show (0 : Int32) = nI 0 from rfl, n_le (by omega) (by omega)] at c; omega
  · have := key (R.length - 1) 0 (by omega)
    rw [show R.length - 1 + 1 = R.length by omega] at this
    exact this
theorem s_extremeLoop {pd px py mx my mi mr mo mg mc : Nat → Int32} {f t dd mk dx dy : Int32} {n : Nat} {R : List Nat} (hW : WF pd px py n) (hV : MV pd px py n mx my mi) (hr : RK pd n mr mo) (hR : NDn n R) (hpos : 0 < R.length) (h1 : inR dx) (h2 : inR dy) (hrp : rp pd mg R) {K : Int32 → (Nat → Int32) → (Nat → Int32) → Int32 → Int32 → Int32 → (Nat → Int32) → Int32 → (Nat → Int32) → Int32 → Prop}
    (h : K (pd (bF px py dx dy R (R.length - 1))) mr mo f t dd mc mk mg (nI R.length)) : ∃ k, wp_X6_extreme_43 mx my mi (nI n) dx dy K mr mo f t dd mc mk mg (nI R.length) k (mg (0 : Int32).toNatClampNeg) 1 := by
  have hn := hW.1
  have hle := nd_le hR
  have hin := hW.2.2.2.2
  have key : ∀ (d i : Nat), i + 1 + d = R.length → wp_X6_extreme_43 mx my mi (nI n) dx dy K mr mo f t dd mc mk mg (nI R.length) (d + 1) (pd (bF px py dx dy R i)) (nI (i + 1)) := by
    intro d
    induction d with
    | zero =>
      intro i hi
      refine wp_X6_extreme_43_s ?_
      unfold wp_X6_extreme_43b
      rw [show i = R.length - 1 by omega]
      exact ⟨fun _ => h, fun c => absurd ((n_le (by omega) (by omega)).mpr (by omega)) c⟩
    | succ d ih =>
      intro i hi
      refine wp_X6_extreme_43_s ?_
      unfold wp_X6_extreme_43b
      have gc := hR.1 _ (atl_mem (l := R) (i := i + 1) (by omega))
      have gb := bF_in (px := px) (py := py) (dx := dx) (dy := dy) hR i (by omega)
      have nx := ih (i + 1) (by omega)
      have eo := w_off h1 h2 (hin _ gc).1 (hin _ gc).2 (hin _ gb).1 (hin _ gb).2
      rw [nI_1, n_cl (i := i + 1) (by omega), rp_at hrp (i := i + 1) (by omega), pd_mx hV gc, pd_my hV gc, pd_mx hV gb, pd_my hV gb, pd_mo hr gc, pd_mo hr gb]
      rw [J_lt, J_eq, eo, show (0 : Int64).toInt = 0 from rfl, n_le (a := bF px py dx dy R i) (b := atl R (i + 1)) (by omega) (by omega)]
      have vc := pd_in hW gc
      have vb := pd_in hW gb
      have yes : far px py dx dy (atl R (i + 1)) (bF px py dx dy R i) = true → wp_X6_extreme_43 mx my mi (nI n) dx dy K mr mo f t dd mc mk mg (nI R.length) (d + 1) (pd (atl R (i + 1))) (nI (i + 1 + 1)) := fun z => by
        unfold bF at nx
        rw [if_pos z] at nx
        exact nx
      have no : far px py dx dy (atl R (i + 1)) (bF px py dx dy R i) = false → wp_X6_extreme_43 mx my mi (nI n) dx dy K mr mo f t dd mc mk mg (nI R.length) (d + 1) (pd (bF px py dx dy R i)) (nI (i + 1 + 1)) := fun z => by
        unfold bF at nx
        rw [if_neg (by rw [z]; simp)] at nx
        exact nx
      unfold far rch at yes no
      refine ⟨fun c => by rw [n_le (by omega) (by omega)] at c; omega, fun _ => ⟨n_in (by omega) (by omega), vc, vb, vc, vb, fun c => yes (decide_eq_true (Or.inl (by omega))), fun c => ⟨fun c2 => no (decide_eq_false (by omega)), fun c2 => ⟨vc, vb, fun c3 => no (decide_eq_false (by omega)), fun c3 => yes (decide_eq_true (Or.inr ⟨by omega, by omega⟩))⟩⟩⟩⟩
  refine ⟨R.length, ?_⟩
  rw [show (0 : Int32).toNatClampNeg = 0 from rfl, rp_at hrp hpos]
  have := key (R.length - 1) 0 (by omega)
  rw [show R.length - 1 + 1 = R.length by omega] at this
  exact this
theorem tk_ne (r : Nat) (R : List Nat) : tk r R ≠ [] := by
  by_cases h : r ∈ R
  · rw [tk_t h]; intro z; rw [z] at h; simp at h
  · rw [tk_f h]; simp
theorem tk_pos {r : Nat} {R : List Nat} : 0 < (tk r R).length := List.length_pos_iff.mpr (tk_ne r R)
theorem tkDn_pos {a R : List Nat} (h : 0 < R.length) : ∀ i, 0 < (tkDn a R i).length
  | 0 => h
  | i + 1 => tk_pos
theorem ring_pos {pd px py : Nat → Int32} {n : Nat} (hW : WF pd px py n) (h : 0 < n) : 0 < (ringL n px py).length := by
  have hso : SO px py 0 (0 + n) := hW.so (by omega)
  obtain ⟨a, t, e, _⟩ := (cl_eq1 hso n (Nat.le_refl n)).2 (by omega)
  have e2 : chn 1 px py 0 n = a :: t := e
  unfold ringL
  apply tkDn_pos
  rw [e2]
  exact tk_pos
