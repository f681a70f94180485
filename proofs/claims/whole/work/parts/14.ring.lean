/-- X4_clear -/
def wp_X4_clear (rs : Int32) (K : Int32 → Prop) : Prop := (K 0)
/-- X4_takeOnce -/
def wp_X4_takeOnce (rr : Nat → Int32) (rs : Int32) (v1 : Int32) (K : (Nat → Int32) → Int32 → Prop) : Prop := (wp_X1_has rr rs v1 (fun r2 => ((¬ r2 = 0 → (K rr rs)) ∧ (r2 = 0 → (wp_X1_append rr rs v1 (fun rr_10 rs_10 => (K rr_10 rs_10)))))))
/-- X4_takeRightward -/
def wp_X4_takeRightward_2b (tr : Nat → Int32) (ts : Int32) (K : (Nat → Int32) → Int32 → Prop) (L2 : (Nat → Int32) → Int32 → Int32 → Prop)   (rr : Nat → Int32) (rs : Int32) (v2 : Int32) : Prop := ((ts ≤ v2 → (K rr rs)) ∧ (¬ ts ≤ v2 → (vp_in v2 32 ∧ (wp_X4_takeOnce rr rs (tr v2.toNatClampNeg) (fun rr_17 rs_17 => (L2 rr_17 rs_17 (v2 + 1)))))))
def wp_X4_takeRightward_2 (tr : Nat → Int32) (ts : Int32) (K : (Nat → Int32) → Int32 → Prop)   : Nat → (Nat → Int32) → Int32 → Int32 → Prop
  | 0 => fun _ _ _ => False
  | k + 1 => fun rr rs v2 => wp_X4_takeRightward_2b tr ts K (wp_X4_takeRightward_2 tr ts K   k)   rr rs v2
def wp_X4_takeRightward (rr : Nat → Int32) (rs : Int32) (tr : Nat → Int32) (ts : Int32) (K : (Nat → Int32) → Int32 → Prop) : Prop := (∃ k, wp_X4_takeRightward_2 tr ts K   k rr rs 0)
/-- X4_takeLeftward -/
def wp_X4_takeLeftward_7b (tr : Nat → Int32) (ts : Int32) (K : (Nat → Int32) → Int32 → Prop) (L7 : (Nat → Int32) → Int32 → Int32 → Prop)   (rr : Nat → Int32) (rs : Int32) (v2 : Int32) : Prop := ((v2 < 0 → (K rr rs)) ∧ (¬ v2 < 0 → (vp_in v2 32 ∧ (wp_X4_takeOnce rr rs (tr v2.toNatClampNeg) (fun rr_18 rs_18 => (L7 rr_18 rs_18 (v2 + (-1))))))))
def wp_X4_takeLeftward_7 (tr : Nat → Int32) (ts : Int32) (K : (Nat → Int32) → Int32 → Prop)   : Nat → (Nat → Int32) → Int32 → Int32 → Prop
  | 0 => fun _ _ _ => False
  | k + 1 => fun rr rs v2 => wp_X4_takeLeftward_7b tr ts K (wp_X4_takeLeftward_7 tr ts K   k)   rr rs v2
def wp_X4_takeLeftward (rr : Nat → Int32) (rs : Int32) (tr : Nat → Int32) (ts : Int32) (K : (Nat → Int32) → Int32 → Prop) : Prop := (∃ k, wp_X4_takeLeftward_7 tr ts K   k rr rs (ts - 1))
/-- X4_isFarther -/
def wp_X4_isFarther (px : Nat → Int32) (py : Nat → Int32) (v1 : Int32) (v2 : Int32) (v3 : Int32) (v4 : Int32) (K : Int32 → Prop) : Prop := (wp_X3_reach px py v1 v3 v4 (fun r5 => (wp_X3_reach px py v2 v3 v4 (fun r15 => ((r15 < r5 → (K 1)) ∧ (¬ r15 < r5 → ((¬ r5 = r15 → (K 0)) ∧ (r5 = r15 → ((v2 ≤ v1 → (K 0)) ∧ (¬ v2 ≤ v1 → (K 1)))))))))))
/-- X4_farthest -/
def wp_X4_farthest_7b (rr : Nat → Int32) (rs : Int32) (px : Nat → Int32) (py : Nat → Int32) (v2 : Int32) (v3 : Int32) (K : Int32 → Prop) (L7 : Int32 → Int32 → Prop)   (v4 : Int32) (v5 : Int32) : Prop := ((rs ≤ v5 → (K v4)) ∧ (¬ rs ≤ v5 → ((v4 = ((-6) : Int32) → (vp_in v5 32 ∧ (L7 (rr v5.toNatClampNeg) (v5 + 1)))) ∧ (¬ v4 = ((-6) : Int32) → (vp_in v5 32 ∧ (wp_X4_isFarther px py (rr v5.toNatClampNeg) v4 v2 v3 (fun r35 => ((r35 = 0 → (L7 v4 (v5 + 1))) ∧ (¬ r35 = 0 → (vp_in v5 32 ∧ (L7 (rr v5.toNatClampNeg) (v5 + 1))))))))))))
def wp_X4_farthest_7 (rr : Nat → Int32) (rs : Int32) (px : Nat → Int32) (py : Nat → Int32) (v2 : Int32) (v3 : Int32) (K : Int32 → Prop)   : Nat → Int32 → Int32 → Prop
  | 0 => fun _ _ => False
  | k + 1 => fun v4 v5 => wp_X4_farthest_7b rr rs px py v2 v3 K (wp_X4_farthest_7 rr rs px py v2 v3 K   k)   v4 v5
def wp_X4_farthest (rr : Nat → Int32) (rs : Int32) (px : Nat → Int32) (py : Nat → Int32) (v2 : Int32) (v3 : Int32) (K : Int32 → Prop) : Prop := (∃ k, wp_X4_farthest_7 rr rs px py v2 v3 K   k (-6) 0)
/-- X4_isAtCorner -/
def wp_X4_isAtCorner_3b (rr : Nat → Int32) (rs : Int32) (px : Nat → Int32) (py : Nat → Int32) (v2 : Int32) (v3 : Int32) (K : Int32 → Prop) (L3 : Int32 → Prop)   (v4 : Int32) : Prop := ((rs ≤ v4 → (K 0)) ∧ (¬ rs ≤ v4 → (vp_in v4 32 ∧ (wp_X3_isAt px py (rr v4.toNatClampNeg) v2 v3 (fun r22 => ((r22 = 0 → (L3 (v4 + 1))) ∧ (¬ r22 = 0 → (K 1))))))))
def wp_X4_isAtCorner_3 (rr : Nat → Int32) (rs : Int32) (px : Nat → Int32) (py : Nat → Int32) (v2 : Int32) (v3 : Int32) (K : Int32 → Prop)   : Nat → Int32 → Prop
  | 0 => fun _ => False
  | k + 1 => fun v4 => wp_X4_isAtCorner_3b rr rs px py v2 v3 K (wp_X4_isAtCorner_3 rr rs px py v2 v3 K   k)   v4
def wp_X4_isAtCorner (rr : Nat → Int32) (rs : Int32) (px : Nat → Int32) (py : Nat → Int32) (v2 : Int32) (v3 : Int32) (K : Int32 → Prop) : Prop := (∃ k, wp_X4_isAtCorner_3 rr rs px py v2 v3 K   k 0)
/-- X4_locate -/
def wp_X4_locate_62 (rr : Nat → Int32) (rs : Int32) (px : Nat → Int32) (py : Nat → Int32) (v2 : Int32) (v3 : Int32) (K : Int32 → Prop) (L15 : Int32 → Prop)  (v4 : Int32) (v5 : Int32) (s0 : Int32) : Prop := (wp_X3_turn px py v5 s0 v2 v3 (fun r71 => (((0 : Int64) ≤ r71 → ((¬ r71 = (0 : Int64) → (L15 (v4 + 1))) ∧ (r71 = (0 : Int64) → (wp_X3_isBoxed px py v5 s0 v2 v3 (fun r99 => ((r99 = 0 → (K 0)) ∧ (¬ r99 = 0 → (K 2)))))))) ∧ (¬ (0 : Int64) ≤ r71 → (K 0)))))
def wp_X4_locate_15b (rr : Nat → Int32) (rs : Int32) (px : Nat → Int32) (py : Nat → Int32) (v2 : Int32) (v3 : Int32) (K : Int32 → Prop) (L15 : Int32 → Prop)   (v4 : Int32) : Prop := ((rs ≤ v4 → ((¬ rs = 0 → (K 3)) ∧ (rs = 0 → (K 0)))) ∧ (¬ rs ≤ v4 → (vp_in v4 32 ∧ ((rs ≤ (v4 + 1) → (vp_in 0 32 ∧ (wp_X4_locate_62 rr rs px py v2 v3 K L15  v4 (rr v4.toNatClampNeg) (rr (0 : Int32).toNatClampNeg)))) ∧ (¬ rs ≤ (v4 + 1) → (vp_in (v4 + 1) 32 ∧ (wp_X4_locate_62 rr rs px py v2 v3 K L15  v4 (rr v4.toNatClampNeg) (rr (v4 + 1).toNatClampNeg))))))))
def wp_X4_locate_15 (rr : Nat → Int32) (rs : Int32) (px : Nat → Int32) (py : Nat → Int32) (v2 : Int32) (v3 : Int32) (K : Int32 → Prop)   : Nat → Int32 → Prop
  | 0 => fun _ => False
  | k + 1 => fun v4 => wp_X4_locate_15b rr rs px py v2 v3 K (wp_X4_locate_15 rr rs px py v2 v3 K   k)   v4
def wp_X4_locate (rr : Nat → Int32) (rs : Int32) (px : Nat → Int32) (py : Nat → Int32) (v2 : Int32) (v3 : Int32) (K : Int32 → Prop) : Prop := (wp_X4_isAtCorner rr rs px py v2 v3 (fun r4 => ((r4 = 0 → (∃ k, wp_X4_locate_15 rr rs px py v2 v3 K   k 0)) ∧ (¬ r4 = 0 → (K 1)))))
/-- X4_isTouching -/
def wp_X4_isTouching_3b (rr : Nat → Int32) (rs : Int32) (px : Nat → Int32) (py : Nat → Int32) (v2 : Int32) (v3 : Int32) (v4 : Int32) (v5 : Int32) (K : Int32 → Prop) (L3 : Int32 → Prop)   (v6 : Int32) : Prop := ((rs ≤ v6 → (K 1)) ∧ (¬ rs ≤ v6 → (vp_in v6 32 ∧ (wp_X3_turn px py v2 (rr v6.toNatClampNeg) v3 v4 (fun r24 => ((¬ v5 = 0 → ((r24 ≤ (0 : Int64) → (L3 (v6 + 1))) ∧ (¬ r24 ≤ (0 : Int64) → (K 0)))) ∧ (v5 = 0 → (((0 : Int64) ≤ r24 → (L3 (v6 + 1))) ∧ (¬ (0 : Int64) ≤ r24 → (K 0))))))))))
def wp_X4_isTouching_3 (rr : Nat → Int32) (rs : Int32) (px : Nat → Int32) (py : Nat → Int32) (v2 : Int32) (v3 : Int32) (v4 : Int32) (v5 : Int32) (K : Int32 → Prop)   : Nat → Int32 → Prop
  | 0 => fun _ => False
  | k + 1 => fun v6 => wp_X4_isTouching_3b rr rs px py v2 v3 v4 v5 K (wp_X4_isTouching_3 rr rs px py v2 v3 v4 v5 K   k)   v6
def wp_X4_isTouching (rr : Nat → Int32) (rs : Int32) (px : Nat → Int32) (py : Nat → Int32) (v2 : Int32) (v3 : Int32) (v4 : Int32) (v5 : Int32) (K : Int32 → Prop) : Prop := (∃ k, wp_X4_isTouching_3 rr rs px py v2 v3 v4 v5 K   k 0)
/-- X4_isNearer -/
def wp_X4_isNearer (px : Nat → Int32) (py : Nat → Int32) (v1 : Int32) (v2 : Int32) (v3 : Int32) (v4 : Int32) (K : Int32 → Prop) : Prop := (wp_X3_squaredDistance px py v1 v3 v4 (fun r5 => (wp_X3_squaredDistance px py v2 v3 v4 (fun r13 => ((r13 ≤ r5 → (K 0)) ∧ (¬ r13 ≤ r5 → (K 1)))))))
/-- X4_nearestTouching -/
def wp_X4_nearestTouching_7b (rr : Nat → Int32) (rs : Int32) (px : Nat → Int32) (py : Nat → Int32) (v2 : Int32) (v3 : Int32) (v4 : Int32) (K : Int32 → Prop) (L7 : Int32 → Int32 → Prop)   (v5 : Int32) (v6 : Int32) : Prop := ((rs ≤ v6 → (K v5)) ∧ (¬ rs ≤ v6 → (vp_in v6 32 ∧ (wp_X4_isTouching rr rs px py (rr v6.toNatClampNeg) v2 v3 v4 (fun r33 => ((r33 = 0 → (L7 v5 (v6 + 1))) ∧ (¬ r33 = 0 → ((v5 = ((-6) : Int32) → (L7 (rr v6.toNatClampNeg) (v6 + 1))) ∧ (¬ v5 = ((-6) : Int32) → (wp_X4_isNearer px py (rr v6.toNatClampNeg) v5 v2 v3 (fun r53 => ((r53 = 0 → (L7 v5 (v6 + 1))) ∧ (¬ r53 = 0 → (L7 (rr v6.toNatClampNeg) (v6 + 1)))))))))))))))
def wp_X4_nearestTouching_7 (rr : Nat → Int32) (rs : Int32) (px : Nat → Int32) (py : Nat → Int32) (v2 : Int32) (v3 : Int32) (v4 : Int32) (K : Int32 → Prop)   : Nat → Int32 → Int32 → Prop
  | 0 => fun _ _ => False
  | k + 1 => fun v5 v6 => wp_X4_nearestTouching_7b rr rs px py v2 v3 v4 K (wp_X4_nearestTouching_7 rr rs px py v2 v3 v4 K   k)   v5 v6
def wp_X4_nearestTouching (rr : Nat → Int32) (rs : Int32) (px : Nat → Int32) (py : Nat → Int32) (v2 : Int32) (v3 : Int32) (v4 : Int32) (K : Int32 → Prop) : Prop := (∃ k, wp_X4_nearestTouching_7 rr rs px py v2 v3 v4 K   k (-6) 0)
/-- X4_doubleArea -/
def wp_X4_doubleArea_5b (rr : Nat → Int32) (rs : Int32) (px : Nat → Int32) (py : Nat → Int32) (K : Int64 → Prop) (L5 : Int64 → Int32 → Prop)   (v2 : Int64) (v4 : Int32) : Prop := ((rs ≤ (v4 + 1) → (K v2)) ∧ (¬ rs ≤ (v4 + 1) → (vp_in (v4 + 1) 32 ∧ (vp_in 0 32 ∧ (vp_in v4 32 ∧ (vp_in (rr (v4 + 1).toNatClampNeg) 32 ∧ (vp_in (rr (v4 + 1).toNatClampNeg) 32 ∧ (wp_X3_turn px py (rr (0 : Int32).toNatClampNeg) (rr v4.toNatClampNeg) (px (rr (v4 + 1).toNatClampNeg).toNatClampNeg) (py (rr (v4 + 1).toNatClampNeg).toNatClampNeg) (fun r56 => (L5 (v2 + r56) (v4 + 1)))))))))))
def wp_X4_doubleArea_5 (rr : Nat → Int32) (rs : Int32) (px : Nat → Int32) (py : Nat → Int32) (K : Int64 → Prop)   : Nat → Int64 → Int32 → Prop
  | 0 => fun _ _ => False
  | k + 1 => fun v2 v4 => wp_X4_doubleArea_5b rr rs px py K (wp_X4_doubleArea_5 rr rs px py K   k)   v2 v4
def wp_X4_doubleArea (rr : Nat → Int32) (rs : Int32) (px : Nat → Int32) (py : Nat → Int32) (K : Int64 → Prop) : Prop := (∃ k, wp_X4_doubleArea_5 rr rs px py K   k 0 1)
theorem in_X4_clear_X4 : ∀ w ∈ wsX40, w ∈ wsX4_clear := fun _ h => List.mem_cons_of_mem _ (List.mem_append_right _ h)
theorem hd_X4_clear : yX4_clear.cls = RX4 ∧ yX4_clear.cls ≠ "java/lang/invoke/MethodHandle" ∧ yX4_clear.cls ≠ "java/lang/invoke/VarHandle" ∧ (parseMethodDescriptor yX4_clear.desc).map (fun d => d.parameters.length) = some 0 := by decide +kernel
set_option maxHeartbeats 8000000 in
set_option maxRecDepth 100000 in
theorem c_X4_clear (l : Launch) (D : va_G) (cI cJ cZ cO : ClassId) (rA rAr : Nat) (rr : Nat → Int32) (rs : Int32)  (K : Int32 → Prop) (hw : wp_X4_clear rs K) : Cv l D (tys4 cI cJ cZ cO) yX4_clear wsX4_clear { frames := 0, cells := 0, slots := 0, locals := 0 } [.ref rA] [(rA, .inr (3, [.ref rAr, .int rs])), (rAr, .inl (cI, 32, .inl rr))] (fun (u : Int32) => K u) (fun u => [(rA, .inr (3, [.ref rAr, .int u])), (rAr, .inl (cI, 32, .inl rr))]) := by
  refine mt_v (cc := cX4_clear) (maxL := 1) (by decide) rfl (Nat.le_of_ble_eq_true rfl) ?_
  intro p e s m args below meth c Q A R ls hRf hRl hx hb hml hown hts hK hA hP hD hS hl ret
  have hown : s.vm.findClass RX4 = some m.cls := hown
  have hl : lv_has ls 1 [(0, .ref rA)] := hl
  unfold wp_X4_clear at hw
  refine lv_aload_n hx hb dX4_clear_0 rfl (lv_at hl 0 rfl) ?_
  refine lv_iconst (v := 0) hx hb dX4_clear_1 (by decide) ?_
  refine va_put (D := D) (ci := 3) (v := .int 0) (ty := .int) (C := RX4) (T := TX4) (N := 2) hx hb hts in_X4_clear_X4 tyX4 tyX4_ok nmX4 hown hK hP hD hS 0 rfl rfl 1 (by decide) (hts (.fieldLink RX4 9 "LiveHull$Ring" "size" "I") (List.mem_of_getElem? (i := 1) rfl)) (fun x9 h9 => u_same (hts (.sameField "LiveHull$Ring" "LiveHull$Corners" "size" "I") (List.mem_of_getElem? (i := 2) rfl)) x9 h9) rfl (by decide +kernel) rfl rfl (Nat.le_of_ble_eq_true rfl) dX4_clear_2 (fun H locs hP hD hS => ?_)
  have hP : va_P D vwCl [(rA, .inr (3, [.ref rAr, .int 0])), (rAr, .inl (cI, 32, .inl rr))] H := hP
  have hD : va_D A [(rA, .inr (3, [.ref rAr, .int 0])), (rAr, .inl (cI, 32, .inl rr))] := hD
  exact ret _ _ _ _ (0) hw hP hD hS dX4_clear_5
theorem hd_X4_takeOnce : yX4_takeOnce.cls = RX4 ∧ yX4_takeOnce.cls ≠ "java/lang/invoke/MethodHandle" ∧ yX4_takeOnce.cls ≠ "java/lang/invoke/VarHandle" ∧ (parseMethodDescriptor yX4_takeOnce.desc).map (fun d => d.parameters.length) = some 1 := by decide +kernel
set_option maxHeartbeats 8000000 in
set_option maxRecDepth 100000 in
theorem c_X4_takeOnce (l : Launch) (D : va_G) (cI cJ cZ cO : ClassId) (rA rAr : Nat) (rr : Nat → Int32) (rs : Int32) (v1 : Int32) (K : (Nat → Int32) → Int32 → Prop) (hw : wp_X4_takeOnce rr rs v1 K) : Cv l D (tys4 cI cJ cZ cO) yX4_takeOnce wsX4_takeOnce { frames := 1, cells := 0, slots := 0, locals := 22 } [.ref rA, .int v1] [(rA, .inr (3, [.ref rAr, .int rs])), (rAr, .inl (cI, 32, .inl rr))] (fun (u : (Nat → Int32) × (Int32)) => K u.1 u.2) (fun u => [(rA, .inr (3, [.ref rAr, .int u.2])), (rAr, .inl (cI, 32, .inl u.1))]) := by
  refine mt_v (cc := cX4_takeOnce) (maxL := 2) (by decide) rfl (Nat.le_of_ble_eq_true rfl) ?_
  intro p e s m args below meth c Q A R ls hRf hRl hx hb hml hown hts hK hA hP hD hS hl ret
  have hown : s.vm.findClass RX4 = some m.cls := hown
  have hl : lv_has ls 2 [(0, .ref rA), (1, .int v1)] := hl
  unfold wp_X4_takeOnce at hw
  refine lv_aload_n hx hb dX4_takeOnce_0 rfl (lv_at hl 0 rfl) ?_
  refine lv_iload_n hx hb dX4_takeOnce_1 rfl (lv_at hl 1 rfl) ?_
  refine cl_Ui (As := [.int v1]) (rest := []) ⟨hx, hb, hml, hown, hts⟩ (c_X1_has_X4 l D cI cJ cZ cO rA rAr rr rs v1 _ hw) (va_cwU 1 hts gX4_takeOnce_X1_has_u26X4 rfl rfl rfl rfl (by decide +kernel) ⟨Nat.le_trans (Nat.le_of_ble_eq_true rfl) hRf, Nat.le_trans (Nat.le_of_ble_eq_true rfl) hRl⟩) hK hP hD hS hA [0, 1] [] rfl (by decide) rfl (by decide) (by decide) 0 3 rfl rfl rfl hl.1 rfl (Nat.le_of_ble_eq_true rfl) dX4_takeOnce_2 ⟨Nat.zero_le _, Nat.zero_le _⟩ (fun r2 _u H locs hw hP hD hS => ?_)
  try dsimp only at hw
  have hP : va_P D vwCl [(rA, .inr (3, [.ref rAr, .int rs])), (rAr, .inl (cI, 32, .inl rr))] H := hP.sub [0, 1] rfl
  have hD : va_D A [(rA, .inr (3, [.ref rAr, .int rs])), (rAr, .inl (cI, 32, .inl rr))] := hD.sub [0, 1] (by decide) rfl
  obtain ⟨hwA, hwB⟩ := hw
  refine lv_if_ne (tgt := 13) hx hb dX4_takeOnce_5 (by decide) (fun cb => ?_) (fun cb => ?_)
  · have hw := hwA cb
    exact ret _ _ _ _ (rr, rs) hw hP hD hS dX4_takeOnce_13
  · have hw := hwB cb
    refine lv_aload_n hx hb dX4_takeOnce_8 rfl (lv_at hl 0 rfl) ?_
    refine lv_iload_n hx hb dX4_takeOnce_9 rfl (lv_at hl 1 rfl) ?_
    refine cl_Uv (As := [.int v1]) (rest := []) ⟨hx, hb, hml, hown, hts⟩ (c_X1_append_X4 l D cI cJ cZ cO rA rAr rr rs v1 _ hw) (va_cwU 1 hts gX4_takeOnce_X1_append_u30X4 rfl rfl rfl rfl (by decide +kernel) ⟨Nat.le_trans (Nat.le_of_ble_eq_true rfl) hRf, Nat.le_trans (Nat.le_of_ble_eq_true rfl) hRl⟩) hK hP hD hS hA [0, 1] [] rfl (by decide) rfl (by decide) (by decide) 0 3 rfl rfl rfl hl.1 rfl (Nat.le_of_ble_eq_true rfl) dX4_takeOnce_10 ⟨Nat.zero_le _, Nat.zero_le _⟩ (fun u H locs hw hP hD hS => ?_)
    obtain ⟨rr_10, rs_10⟩ := u
    try dsimp only at hw
    have hP : va_P D vwCl [(rA, .inr (3, [.ref rAr, .int rs_10])), (rAr, .inl (cI, 32, .inl rr_10))] H := hP.sub [0, 1] rfl
    have hD : va_D A [(rA, .inr (3, [.ref rAr, .int rs_10])), (rAr, .inl (cI, 32, .inl rr_10))] := hD.sub [0, 1] (by decide) rfl
    exact ret _ _ _ _ (rr_10, rs_10) hw hP hD hS dX4_takeOnce_13
theorem in_X4_takeRightward_X0 : ∀ w ∈ wsX00, w ∈ wsX4_takeRightward := fun _ h => List.mem_cons_of_mem _ (List.mem_append_left _ (List.mem_append_right _ h))
theorem hd_X4_takeRightward : yX4_takeRightward.cls = RX4 ∧ yX4_takeRightward.cls ≠ "java/lang/invoke/MethodHandle" ∧ yX4_takeRightward.cls ≠ "java/lang/invoke/VarHandle" ∧ (parseMethodDescriptor yX4_takeRightward.desc).map (fun d => d.parameters.length) = some 1 := by decide +kernel
set_option maxHeartbeats 8000000 in
set_option maxRecDepth 100000 in
theorem c_X4_takeRightward (l : Launch) (D : va_G) (cI cJ cZ cO : ClassId) (rA rAr tA tAr : Nat) (rr : Nat → Int32) (rs : Int32) (tr : Nat → Int32) (ts : Int32)  (K : (Nat → Int32) → Int32 → Prop) (hw : wp_X4_takeRightward rr rs tr ts K) : Cv l D (tys4 cI cJ cZ cO) yX4_takeRightward wsX4_takeRightward { frames := 2, cells := 0, slots := 0, locals := 43 } [.ref rA, .ref tA] [(rA, .inr (3, [.ref rAr, .int rs])), (rAr, .inl (cI, 32, .inl rr)), (tA, .inr (0, [.ref tAr, .int ts])), (tAr, .inl (cI, 32, .inl tr))] (fun (u : (Nat → Int32) × (Int32)) => K u.1 u.2) (fun u => [(rA, .inr (3, [.ref rAr, .int u.2])), (rAr, .inl (cI, 32, .inl u.1)), (tA, .inr (0, [.ref tAr, .int ts])), (tAr, .inl (cI, 32, .inl tr))]) := by
  refine mt_v (cc := cX4_takeRightward) (maxL := 3) (by decide) rfl (Nat.le_of_ble_eq_true rfl) ?_
  intro p e s m args below meth c Q A R ls hRf hRl hx hb hml hown hts hK hA hP hD hS hl ret
  have hown : s.vm.findClass RX4 = some m.cls := hown
  have hl : lv_has ls 3 [(0, .ref rA), (1, .ref tA)] := hl
  have N2 : ∀  (k : Nat) (rr : Nat → Int32) (rs : Int32) (v2 : Int32), wp_X4_takeRightward_2 tr ts K   k rr rs v2 → ∀ (H : Heap) (locs : List Loc) (ls : Array Slot), va_P D vwCl [(rA, .inr (3, [.ref rAr, .int rs])), (rAr, .inl (cI, 32, .inl rr)), (tA, .inr (0, [.ref tAr, .int ts])), (tAr, .inl (cI, 32, .inl tr))] H → va_D A [(rA, .inr (3, [.ref rAr, .int rs])), (rAr, .inl (cI, 32, .inl rr)), (tA, .inr (0, [.ref tAr, .int ts])), (tAr, .inl (cI, 32, .inl tr))] → va_S A s.heap H locs → lv_has ls 3 [(0, .ref rA), (1, .ref tA), (2, .int v2)] → W p l e R s m args below meth c H locs 0 0 Q (F0 m 2 ls []) := by
    intro k
    induction k with
    | zero => intro rr rs v2 hw; exact False.elim hw
    | succ k ih2 =>
      intro rr rs v2 hw H locs ls hP hD hS hl
      have hw : wp_X4_takeRightward_2b tr ts K (wp_X4_takeRightward_2 tr ts K   k)   rr rs v2 := hw
      unfold wp_X4_takeRightward_2b at hw
      generalize wp_X4_takeRightward_2 tr ts K   k = L2 at hw ih2
      refine lv_iload_n hx hb dX4_takeRightward_2 rfl (lv_at hl 2 rfl) ?_
      refine lv_aload_n hx hb dX4_takeRightward_3 rfl (lv_at hl 1 rfl) ?_
      refine va_get (D := D) (ci := 0) (v := .int ts) (C := RX0) (T := TX0) (N := 2) hx hb hts in_X4_takeRightward_X0 hown hK hP 2 rfl rfl 1 (by decide) (hts (.fieldLink RX4 15 "LiveHull$Chain" "size" "I") (List.mem_of_getElem? (i := 1) rfl)) (fun x9 h9 => u_same (hts (.sameField "LiveHull$Chain" "LiveHull$Corners" "size" "I") (List.mem_of_getElem? (i := 2) rfl)) x9 h9) rfl dX4_takeRightward_4 ?_
      obtain ⟨hwA, hwB⟩ := hw
      refine lv_icmp_ge (tgt := 26) hx hb dX4_takeRightward_7 (by decide) (fun cb => ?_) (fun cb => ?_)
      · have hw := hwA cb
        exact ret _ _ _ _ (rr, rs) hw hP hD hS dX4_takeRightward_26
      · have hw := hwB cb
        refine lv_aload_n hx hb dX4_takeRightward_10 rfl (lv_at hl 0 rfl) ?_
        refine lv_aload_n hx hb dX4_takeRightward_11 rfl (lv_at hl 1 rfl) ?_
        refine va_get (D := D) (ci := 0) (v := .ref tAr) (C := RX0) (T := TX0) (N := 2) hx hb hts in_X4_takeRightward_X0 hown hK hP 2 rfl rfl 0 (by decide) (hts (.fieldLink RX4 18 "LiveHull$Chain" "ranks" "[I") (List.mem_of_getElem? (i := 3) rfl)) (fun x9 h9 => u_same (hts (.sameField "LiveHull$Chain" "LiveHull$Corners" "ranks" "[I") (List.mem_of_getElem? (i := 4) rfl)) x9 h9) rfl dX4_takeRightward_12 ?_
        refine lv_iload_n hx hb dX4_takeRightward_15 rfl (lv_at hl 2 rfl) ?_
        obtain ⟨hi, hw⟩ := hw
        refine va_iald hx hb hK hP 3 0 rfl rfl hi dX4_takeRightward_16 ?_
        refine cl_Vv (As := [.int (tr v2.toNatClampNeg)]) (rest := []) ⟨hx, hb, hml, hown, hts⟩ (c_X4_takeOnce l D cI cJ cZ cO rA rAr rr rs (tr v2.toNatClampNeg) _ hw) (cwV 1 hts gX4_takeRightward_X4_takeOnce rfl rfl rfl hd_X4_takeOnce ⟨Nat.le_trans (Nat.le_of_ble_eq_true rfl) hRf, Nat.le_trans (Nat.le_of_ble_eq_true rfl) hRl⟩) hK hP hD hS hA [0, 1] [2, 3] rfl (by decide) rfl (by decide) (by decide) 0 3 rfl rfl rfl hl.1 rfl (Nat.le_of_ble_eq_true rfl) dX4_takeRightward_17 ⟨Nat.zero_le _, Nat.zero_le _⟩ (fun u H locs hw hP hD hS => ?_)
        obtain ⟨rr_17, rs_17⟩ := u
        try dsimp only at hw
        have hP : va_P D vwCl [(rA, .inr (3, [.ref rAr, .int rs_17])), (rAr, .inl (cI, 32, .inl rr_17)), (tA, .inr (0, [.ref tAr, .int ts])), (tAr, .inl (cI, 32, .inl tr))] H := hP.sub [2, 3, 0, 1] rfl
        have hD : va_D A [(rA, .inr (3, [.ref rAr, .int rs_17])), (rAr, .inl (cI, 32, .inl rr_17)), (tA, .inr (0, [.ref tAr, .int ts])), (tAr, .inl (cI, 32, .inl tr))] := hD.sub [2, 3, 0, 1] (by decide) rfl
        refine lv_iinc (v := (v2 + 1)) (lv' := [(2, .int (v2 + 1)), (0, .ref rA), (1, .ref tA)]) hx hb dX4_takeRightward_20 hl (k := 2) rfl rfl (by decide) rfl (fun ls hl => ?_)
        refine lv_goto (tgt := 2) hx hb dX4_takeRightward_23 (by decide) ?_
        exact ih2 rr_17 rs_17 (v2 + 1) hw _ _ _ hP hD hS (lv_sub hl [1, 2, 0] rfl)
  unfold wp_X4_takeRightward at hw
  refine lv_iconst (v := 0) hx hb dX4_takeRightward_0 (by decide) ?_
  refine lv_istore_n (lv' := [(2, .int 0), (0, .ref rA), (1, .ref tA)]) hx hb dX4_takeRightward_1 rfl hl (by decide) rfl (fun ls hl => ?_)
  obtain ⟨k, hw⟩ := hw
  exact N2  k rr rs 0 hw _ _ _ hP hD hS (lv_sub hl [1, 2, 0] rfl)
theorem in_X4_takeLeftward_X0 : ∀ w ∈ wsX00, w ∈ wsX4_takeLeftward := fun _ h => List.mem_cons_of_mem _ (List.mem_append_left _ (List.mem_append_right _ h))
theorem hd_X4_takeLeftward : yX4_takeLeftward.cls = RX4 ∧ yX4_takeLeftward.cls ≠ "java/lang/invoke/MethodHandle" ∧ yX4_takeLeftward.cls ≠ "java/lang/invoke/VarHandle" ∧ (parseMethodDescriptor yX4_takeLeftward.desc).map (fun d => d.parameters.length) = some 1 := by decide +kernel
set_option maxHeartbeats 8000000 in
set_option maxRecDepth 100000 in
theorem c_X4_takeLeftward (l : Launch) (D : va_G) (cI cJ cZ cO : ClassId) (rA rAr tA tAr : Nat) (rr : Nat → Int32) (rs : Int32) (tr : Nat → Int32) (ts : Int32)  (K : (Nat → Int32) → Int32 → Prop) (hw : wp_X4_takeLeftward rr rs tr ts K) : Cv l D (tys4 cI cJ cZ cO) yX4_takeLeftward wsX4_takeLeftward { frames := 2, cells := 0, slots := 0, locals := 43 } [.ref rA, .ref tA] [(rA, .inr (3, [.ref rAr, .int rs])), (rAr, .inl (cI, 32, .inl rr)), (tA, .inr (0, [.ref tAr, .int ts])), (tAr, .inl (cI, 32, .inl tr))] (fun (u : (Nat → Int32) × (Int32)) => K u.1 u.2) (fun u => [(rA, .inr (3, [.ref rAr, .int u.2])), (rAr, .inl (cI, 32, .inl u.1)), (tA, .inr (0, [.ref tAr, .int ts])), (tAr, .inl (cI, 32, .inl tr))]) := by
  refine mt_v (cc := cX4_takeLeftward) (maxL := 3) (by decide) rfl (Nat.le_of_ble_eq_true rfl) ?_
  intro p e s m args below meth c Q A R ls hRf hRl hx hb hml hown hts hK hA hP hD hS hl ret
  have hown : s.vm.findClass RX4 = some m.cls := hown
  have hl : lv_has ls 3 [(0, .ref rA), (1, .ref tA)] := hl
  have N7 : ∀  (k : Nat) (rr : Nat → Int32) (rs : Int32) (v2 : Int32), wp_X4_takeLeftward_7 tr ts K   k rr rs v2 → ∀ (H : Heap) (locs : List Loc) (ls : Array Slot), va_P D vwCl [(rA, .inr (3, [.ref rAr, .int rs])), (rAr, .inl (cI, 32, .inl rr)), (tA, .inr (0, [.ref tAr, .int ts])), (tAr, .inl (cI, 32, .inl tr))] H → va_D A [(rA, .inr (3, [.ref rAr, .int rs])), (rAr, .inl (cI, 32, .inl rr)), (tA, .inr (0, [.ref tAr, .int ts])), (tAr, .inl (cI, 32, .inl tr))] → va_S A s.heap H locs → lv_has ls 3 [(0, .ref rA), (1, .ref tA), (2, .int v2)] → W p l e R s m args below meth c H locs 0 0 Q (F0 m 7 ls []) := by
    intro k
    induction k with
    | zero => intro rr rs v2 hw; exact False.elim hw
    | succ k ih7 =>
      intro rr rs v2 hw H locs ls hP hD hS hl
      have hw : wp_X4_takeLeftward_7b tr ts K (wp_X4_takeLeftward_7 tr ts K   k)   rr rs v2 := hw
      unfold wp_X4_takeLeftward_7b at hw
      generalize wp_X4_takeLeftward_7 tr ts K   k = L7 at hw ih7
      refine lv_iload_n hx hb dX4_takeLeftward_7 rfl (lv_at hl 2 rfl) ?_
      obtain ⟨hwA, hwB⟩ := hw
      refine lv_if_lt (tgt := 27) hx hb dX4_takeLeftward_8 (by decide) (fun cb => ?_) (fun cb => ?_)
      · have hw := hwA cb
        exact ret _ _ _ _ (rr, rs) hw hP hD hS dX4_takeLeftward_27
      · have hw := hwB cb
        refine lv_aload_n hx hb dX4_takeLeftward_11 rfl (lv_at hl 0 rfl) ?_
        refine lv_aload_n hx hb dX4_takeLeftward_12 rfl (lv_at hl 1 rfl) ?_
        refine va_get (D := D) (ci := 0) (v := .ref tAr) (C := RX0) (T := TX0) (N := 2) hx hb hts in_X4_takeLeftward_X0 hown hK hP 2 rfl rfl 0 (by decide) (hts (.fieldLink RX4 18 "LiveHull$Chain" "ranks" "[I") (List.mem_of_getElem? (i := 3) rfl)) (fun x9 h9 => u_same (hts (.sameField "LiveHull$Chain" "LiveHull$Corners" "ranks" "[I") (List.mem_of_getElem? (i := 4) rfl)) x9 h9) rfl dX4_takeLeftward_13 ?_
        refine lv_iload_n hx hb dX4_takeLeftward_16 rfl (lv_at hl 2 rfl) ?_
        obtain ⟨hi, hw⟩ := hw
        refine va_iald hx hb hK hP 3 0 rfl rfl hi dX4_takeLeftward_17 ?_
        refine cl_Vv (As := [.int (tr v2.toNatClampNeg)]) (rest := []) ⟨hx, hb, hml, hown, hts⟩ (c_X4_takeOnce l D cI cJ cZ cO rA rAr rr rs (tr v2.toNatClampNeg) _ hw) (cwV 1 hts gX4_takeLeftward_X4_takeOnce rfl rfl rfl hd_X4_takeOnce ⟨Nat.le_trans (Nat.le_of_ble_eq_true rfl) hRf, Nat.le_trans (Nat.le_of_ble_eq_true rfl) hRl⟩) hK hP hD hS hA [0, 1] [2, 3] rfl (by decide) rfl (by decide) (by decide) 0 3 rfl rfl rfl hl.1 rfl (Nat.le_of_ble_eq_true rfl) dX4_takeLeftward_18 ⟨Nat.zero_le _, Nat.zero_le _⟩ (fun u H locs hw hP hD hS => ?_)
        obtain ⟨rr_18, rs_18⟩ := u
        try dsimp only at hw
        have hP : va_P D vwCl [(rA, .inr (3, [.ref rAr, .int rs_18])), (rAr, .inl (cI, 32, .inl rr_18)), (tA, .inr (0, [.ref tAr, .int ts])), (tAr, .inl (cI, 32, .inl tr))] H := hP.sub [2, 3, 0, 1] rfl
        have hD : va_D A [(rA, .inr (3, [.ref rAr, .int rs_18])), (rAr, .inl (cI, 32, .inl rr_18)), (tA, .inr (0, [.ref tAr, .int ts])), (tAr, .inl (cI, 32, .inl tr))] := hD.sub [2, 3, 0, 1] (by decide) rfl
        refine lv_iinc (v := (v2 + (-1))) (lv' := [(2, .int (v2 + (-1))), (0, .ref rA), (1, .ref tA)]) hx hb dX4_takeLeftward_21 hl (k := 2) rfl rfl (by decide) rfl (fun ls hl => ?_)
        refine lv_goto (tgt := 7) hx hb dX4_takeLeftward_24 (by decide) ?_
        exact ih7 rr_18 rs_18 (v2 + (-1)) hw _ _ _ hP hD hS (lv_sub hl [1, 2, 0] rfl)
  unfold wp_X4_takeLeftward at hw
  refine lv_aload_n hx hb dX4_takeLeftward_0 rfl (lv_at hl 1 rfl) ?_
  refine va_get (D := D) (ci := 0) (v := .int ts) (C := RX0) (T := TX0) (N := 2) hx hb hts in_X4_takeLeftward_X0 hown hK hP 2 rfl rfl 1 (by decide) (hts (.fieldLink RX4 15 "LiveHull$Chain" "size" "I") (List.mem_of_getElem? (i := 1) rfl)) (fun x9 h9 => u_same (hts (.sameField "LiveHull$Chain" "LiveHull$Corners" "size" "I") (List.mem_of_getElem? (i := 2) rfl)) x9 h9) rfl dX4_takeLeftward_1 ?_
  refine lv_iconst (v := 1) hx hb dX4_takeLeftward_4 (by decide) ?_
  refine lv_isub hx hb dX4_takeLeftward_5 ?_
  refine lv_istore_n (lv' := [(2, .int (ts - 1)), (0, .ref rA), (1, .ref tA)]) hx hb dX4_takeLeftward_6 rfl hl (by decide) rfl (fun ls hl => ?_)
  obtain ⟨k, hw⟩ := hw
  exact N7  k rr rs (ts - 1) hw _ _ _ hP hD hS (lv_sub hl [1, 2, 0] rfl)
theorem hd_X4_isFarther : yX4_isFarther.cls = RX4 ∧ yX4_isFarther.cls ≠ "java/lang/invoke/MethodHandle" ∧ yX4_isFarther.cls ≠ "java/lang/invoke/VarHandle" ∧ (parseMethodDescriptor yX4_isFarther.desc).map (fun d => d.parameters.length) = some 5 := by decide +kernel
set_option maxHeartbeats 8000000 in
set_option maxRecDepth 100000 in
theorem c_X4_isFarther (l : Launch) (D : va_G) (cI cJ cZ cO : ClassId) (pA pAd pAx pAy : Nat) (pd : Nat → Int32) (px : Nat → Int32) (py : Nat → Int32) (pn : Int32) (v1 : Int32) (v2 : Int32) (v3 : Int32) (v4 : Int32) (K : Int32 → Prop) (hw : wp_X4_isFarther px py v1 v2 v3 v4 K) : Ci l D (tys4 cI cJ cZ cO) yX4_isFarther wsX4_isFarther { frames := 1, cells := 0, slots := 0, locals := 23 } [.ref pA, .int v1, .int v2, .int v3, .int v4] [(pA, .inr (2, [.ref pAd, .ref pAx, .ref pAy, .int pn])), (pAd, .inl (cI, 32, .inl pd)), (pAx, .inl (cI, 32, .inl px)), (pAy, .inl (cI, 32, .inl py))] (fun (r : Int32) (_ : Unit) => K r) (fun _ => [(pA, .inr (2, [.ref pAd, .ref pAx, .ref pAy, .int pn])), (pAd, .inl (cI, 32, .inl pd)), (pAx, .inl (cI, 32, .inl px)), (pAy, .inl (cI, 32, .inl py))]) := by
  refine mt_i (cc := cX4_isFarther) (maxL := 9) (rt := .boolean) (by decide) rfl (Nat.le_of_ble_eq_true rfl) ?_
  intro p e s m args below meth c Q A R ls hRf hRl hx hb hml hown hts hK hA hP hD hS hl ret
  have hown : s.vm.findClass RX4 = some m.cls := hown
  have hl : lv_has ls 9 [(0, .ref pA), (1, .int v1), (2, .int v2), (3, .int v3), (4, .int v4)] := hl
  unfold wp_X4_isFarther at hw
  refine lv_aload_n hx hb dX4_isFarther_0 rfl (lv_at hl 0 rfl) ?_
  refine lv_iload_n hx hb dX4_isFarther_1 rfl (lv_at hl 1 rfl) ?_
  refine lv_iload_n hx hb dX4_isFarther_2 rfl (lv_at hl 3 rfl) ?_
  refine lv_iload hx hb dX4_isFarther_3 (lv_at hl 4 rfl) ?_
  refine cl_Vl (As := [.int v1, .int v3, .int v4]) (rest := []) ⟨hx, hb, hml, hown, hts⟩ (c_X3_reach l D cI cJ cZ cO pA pAd pAx pAy pd px py pn v1 v3 v4 _ hw) (cwV 3 hts gX4_isFarther_X3_reach rfl rfl rfl hd_X3_reach ⟨Nat.le_trans (Nat.le_of_ble_eq_true rfl) hRf, Nat.le_trans (Nat.le_of_ble_eq_true rfl) hRl⟩) hK hP hD hS hA [0, 1, 2, 3] [] rfl (by decide) rfl (by decide) (by decide) 0 2 rfl rfl rfl hl.1 rfl (Nat.le_of_ble_eq_true rfl) dX4_isFarther_5 ⟨Nat.zero_le _, Nat.zero_le _⟩ (fun r5 _u H locs hw hP hD hS => ?_)
  try dsimp only at hw
  have hP : va_P D vwCl [(pA, .inr (2, [.ref pAd, .ref pAx, .ref pAy, .int pn])), (pAd, .inl (cI, 32, .inl pd)), (pAx, .inl (cI, 32, .inl px)), (pAy, .inl (cI, 32, .inl py))] H := hP.sub [0, 1, 2, 3] rfl
  have hD : va_D A [(pA, .inr (2, [.ref pAd, .ref pAx, .ref pAy, .int pn])), (pAd, .inl (cI, 32, .inl pd)), (pAx, .inl (cI, 32, .inl px)), (pAy, .inl (cI, 32, .inl py))] := hD.sub [0, 1, 2, 3] (by decide) rfl
  refine lv_lstore (lv' := [(5, .long r5), (0, .ref pA), (1, .int v1), (2, .int v2), (3, .int v3), (4, .int v4)]) hx hb dX4_isFarther_8 hl (by decide) rfl (fun ls hl => ?_)
  refine lv_aload_n hx hb dX4_isFarther_10 rfl (lv_at hl 1 rfl) ?_
  refine lv_iload_n hx hb dX4_isFarther_11 rfl (lv_at hl 3 rfl) ?_
  refine lv_iload_n hx hb dX4_isFarther_12 rfl (lv_at hl 4 rfl) ?_
  refine lv_iload hx hb dX4_isFarther_13 (lv_at hl 5 rfl) ?_
  refine cl_Vl (As := [.int v2, .int v3, .int v4]) (rest := []) ⟨hx, hb, hml, hown, hts⟩ (c_X3_reach l D cI cJ cZ cO pA pAd pAx pAy pd px py pn v2 v3 v4 _ hw) (cwV 3 hts gX4_isFarther_X3_reach rfl rfl rfl hd_X3_reach ⟨Nat.le_trans (Nat.le_of_ble_eq_true rfl) hRf, Nat.le_trans (Nat.le_of_ble_eq_true rfl) hRl⟩) hK hP hD hS hA [0, 1, 2, 3] [] rfl (by decide) rfl (by decide) (by decide) 0 2 rfl rfl rfl hl.1 rfl (Nat.le_of_ble_eq_true rfl) dX4_isFarther_15 ⟨Nat.zero_le _, Nat.zero_le _⟩ (fun r15 _u H locs hw hP hD hS => ?_)
  try dsimp only at hw
  have hP : va_P D vwCl [(pA, .inr (2, [.ref pAd, .ref pAx, .ref pAy, .int pn])), (pAd, .inl (cI, 32, .inl pd)), (pAx, .inl (cI, 32, .inl px)), (pAy, .inl (cI, 32, .inl py))] H := hP.sub [0, 1, 2, 3] rfl
  have hD : va_D A [(pA, .inr (2, [.ref pAd, .ref pAx, .ref pAy, .int pn])), (pAd, .inl (cI, 32, .inl pd)), (pAx, .inl (cI, 32, .inl px)), (pAy, .inl (cI, 32, .inl py))] := hD.sub [0, 1, 2, 3] (by decide) rfl
  refine lv_lstore (lv' := [(7, .long r15), (5, .long r5), (0, .ref pA), (1, .int v1), (2, .int v2), (3, .int v3), (4, .int v4)]) hx hb dX4_isFarther_18 hl (by decide) rfl (fun ls hl => ?_)
  refine lv_lload hx hb dX4_isFarther_20 (lv_at hl 1 rfl) ?_
  refine lv_lload hx hb dX4_isFarther_22 (lv_at hl 0 rfl) ?_
  refine W.lcmp hx hb dX4_isFarther_24 ?_
  obtain ⟨hwA, hwB⟩ := hw
  refine lv_if_gt (tgt := 41) hx hb dX4_isFarther_25 (by decide) (fun cb => ?_) (fun cb => ?_)
  · have hw := hwA ((cq_gt _ _).mp cb)
    refine lv_iconst (v := 1) hx hb dX4_isFarther_41 (by decide) ?_
    refine lv_goto (tgt := 46) hx hb dX4_isFarther_42 (by decide) ?_
    exact ret _ _ _ _ 1 () rfl hw hP hD hS dX4_isFarther_46
  · have hw := hwB (fun h => cb ((cq_gt _ _).mpr h))
    refine lv_lload hx hb dX4_isFarther_28 (lv_at hl 1 rfl) ?_
    refine lv_lload hx hb dX4_isFarther_30 (lv_at hl 0 rfl) ?_
    refine W.lcmp hx hb dX4_isFarther_32 ?_
    obtain ⟨hwA, hwB⟩ := hw
    refine lv_if_ne (tgt := 45) hx hb dX4_isFarther_33 (by decide) (fun cb => ?_) (fun cb => ?_)
    · have hw := hwA ((cq_ne _ _).mp cb)
      refine lv_iconst (v := 0) hx hb dX4_isFarther_45 (by decide) ?_
      exact ret _ _ _ _ 0 () rfl hw hP hD hS dX4_isFarther_46
    · have hw := hwB ((cq_eq _ _).mp cb)
      refine lv_iload_n hx hb dX4_isFarther_36 rfl (lv_at hl 3 rfl) ?_
      refine lv_iload_n hx hb dX4_isFarther_37 rfl (lv_at hl 4 rfl) ?_
      obtain ⟨hwA, hwB⟩ := hw
      refine lv_icmp_ge (tgt := 45) hx hb dX4_isFarther_38 (by decide) (fun cb => ?_) (fun cb => ?_)
      · have hw := hwA cb
        refine lv_iconst (v := 0) hx hb dX4_isFarther_45 (by decide) ?_
        exact ret _ _ _ _ 0 () rfl hw hP hD hS dX4_isFarther_46
      · have hw := hwB cb
        refine lv_iconst (v := 1) hx hb dX4_isFarther_41 (by decide) ?_
        refine lv_goto (tgt := 46) hx hb dX4_isFarther_42 (by decide) ?_
        exact ret _ _ _ _ 1 () rfl hw hP hD hS dX4_isFarther_46
theorem in_X4_farthest_X4 : ∀ w ∈ wsX40, w ∈ wsX4_farthest := fun _ h => List.mem_cons_of_mem _ (List.mem_append_left _ (List.mem_append_right _ h))
theorem hd_X4_farthest : yX4_farthest.cls = RX4 ∧ yX4_farthest.cls ≠ "java/lang/invoke/MethodHandle" ∧ yX4_farthest.cls ≠ "java/lang/invoke/VarHandle" ∧ (parseMethodDescriptor yX4_farthest.desc).map (fun d => d.parameters.length) = some 3 := by decide +kernel
set_option maxHeartbeats 8000000 in
set_option maxRecDepth 100000 in
theorem c_X4_farthest (l : Launch) (D : va_G) (cI cJ cZ cO : ClassId) (rA rAr pA pAd pAx pAy : Nat) (rr : Nat → Int32) (rs : Int32) (pd : Nat → Int32) (px : Nat → Int32) (py : Nat → Int32) (pn : Int32) (v2 : Int32) (v3 : Int32) (K : Int32 → Prop) (hw : wp_X4_farthest rr rs px py v2 v3 K) : Ci l D (tys4 cI cJ cZ cO) yX4_farthest wsX4_farthest { frames := 2, cells := 0, slots := 0, locals := 51 } [.ref rA, .ref pA, .int v2, .int v3] [(rA, .inr (3, [.ref rAr, .int rs])), (rAr, .inl (cI, 32, .inl rr)), (pA, .inr (2, [.ref pAd, .ref pAx, .ref pAy, .int pn])), (pAd, .inl (cI, 32, .inl pd)), (pAx, .inl (cI, 32, .inl px)), (pAy, .inl (cI, 32, .inl py))] (fun (r : Int32) (_ : Unit) => K r) (fun _ => [(rA, .inr (3, [.ref rAr, .int rs])), (rAr, .inl (cI, 32, .inl rr)), (pA, .inr (2, [.ref pAd, .ref pAx, .ref pAy, .int pn])), (pAd, .inl (cI, 32, .inl pd)), (pAx, .inl (cI, 32, .inl px)), (pAy, .inl (cI, 32, .inl py))]) := by
  refine mt_i (cc := cX4_farthest) (maxL := 6) (rt := .int) (by decide) rfl (Nat.le_of_ble_eq_true rfl) ?_
  intro p e s m args below meth c Q A R ls hRf hRl hx hb hml hown hts hK hA hP hD hS hl ret
  have hown : s.vm.findClass RX4 = some m.cls := hown
  have hl : lv_has ls 6 [(0, .ref rA), (1, .ref pA), (2, .int v2), (3, .int v3)] := hl
  have N7 : ∀  (k : Nat) (v4 : Int32) (v5 : Int32), wp_X4_farthest_7 rr rs px py v2 v3 K   k v4 v5 → ∀ (H : Heap) (locs : List Loc) (ls : Array Slot), va_P D vwCl [(rA, .inr (3, [.ref rAr, .int rs])), (rAr, .inl (cI, 32, .inl rr)), (pA, .inr (2, [.ref pAd, .ref pAx, .ref pAy, .int pn])), (pAd, .inl (cI, 32, .inl pd)), (pAx, .inl (cI, 32, .inl px)), (pAy, .inl (cI, 32, .inl py))] H → va_D A [(rA, .inr (3, [.ref rAr, .int rs])), (rAr, .inl (cI, 32, .inl rr)), (pA, .inr (2, [.ref pAd, .ref pAx, .ref pAy, .int pn])), (pAd, .inl (cI, 32, .inl pd)), (pAx, .inl (cI, 32, .inl px)), (pAy, .inl (cI, 32, .inl py))] → va_S A s.heap H locs → lv_has ls 6 [(0, .ref rA), (1, .ref pA), (2, .int v2), (3, .int v3), (4, .int v4), (5, .int v5)] → W p l e R s m args below meth c H locs 0 0 Q (F0 m 7 ls []) := by
    intro k
    induction k with
    | zero => intro v4 v5 hw; exact False.elim hw
    | succ k ih7 =>
      intro v4 v5 hw H locs ls hP hD hS hl
      have hw : wp_X4_farthest_7b rr rs px py v2 v3 K (wp_X4_farthest_7 rr rs px py v2 v3 K   k)   v4 v5 := hw
      unfold wp_X4_farthest_7b at hw
      generalize wp_X4_farthest_7 rr rs px py v2 v3 K   k = L7 at hw ih7
      refine lv_iload hx hb dX4_farthest_7 (lv_at hl 5 rfl) ?_
      refine lv_aload_n hx hb dX4_farthest_9 rfl (lv_at hl 0 rfl) ?_
      refine va_get (D := D) (ci := 3) (v := .int rs) (C := RX4) (T := TX4) (N := 2) hx hb hts in_X4_farthest_X4 hown hK hP 0 rfl rfl 1 (by decide) (hts (.fieldLink RX4 9 "LiveHull$Ring" "size" "I") (List.mem_of_getElem? (i := 1) rfl)) (fun x9 h9 => u_same (hts (.sameField "LiveHull$Ring" "LiveHull$Corners" "size" "I") (List.mem_of_getElem? (i := 2) rfl)) x9 h9) rfl dX4_farthest_10 ?_
      obtain ⟨hwA, hwB⟩ := hw
      refine lv_icmp_ge (tgt := 56) hx hb dX4_farthest_13 (by decide) (fun cb => ?_) (fun cb => ?_)
      · have hw := hwA cb
        refine lv_iload hx hb dX4_farthest_56 (lv_at hl 4 rfl) ?_
        exact ret _ _ _ _ v4 () (vp_nar_int _) hw hP hD hS dX4_farthest_58
      · have hw := hwB cb
        refine lv_iload hx hb dX4_farthest_16 (lv_at hl 4 rfl) ?_
        refine lv_bipush (v := (-6)) hx hb dX4_farthest_18 (by decide) ?_
        obtain ⟨hwA, hwB⟩ := hw
        refine lv_icmp_eq (tgt := 41) hx hb dX4_farthest_20 (by decide) (fun cb => ?_) (fun cb => ?_)
        · have hw := hwA cb
          refine lv_aload_n hx hb dX4_farthest_41 rfl (lv_at hl 0 rfl) ?_
          refine va_get (D := D) (ci := 3) (v := .ref rAr) (C := RX4) (T := TX4) (N := 2) hx hb hts in_X4_farthest_X4 hown hK hP 0 rfl rfl 0 (by decide) (hts (.fieldLink RX4 33 "LiveHull$Ring" "ranks" "[I") (List.mem_of_getElem? (i := 3) rfl)) (fun x9 h9 => u_same (hts (.sameField "LiveHull$Ring" "LiveHull$Corners" "ranks" "[I") (List.mem_of_getElem? (i := 4) rfl)) x9 h9) rfl dX4_farthest_42 ?_
          refine lv_iload hx hb dX4_farthest_45 (lv_at hl 5 rfl) ?_
          obtain ⟨hi, hw⟩ := hw
          refine va_iald hx hb hK hP 1 0 rfl rfl hi dX4_farthest_47 ?_
          refine lv_istore (lv' := [(4, .int (rr v5.toNatClampNeg)), (0, .ref rA), (1, .ref pA), (2, .int v2), (3, .int v3), (5, .int v5)]) hx hb dX4_farthest_48 hl (by decide) rfl (fun ls hl => ?_)
          refine lv_iinc (v := (v5 + 1)) (lv' := [(5, .int (v5 + 1)), (4, .int (rr v5.toNatClampNeg)), (0, .ref rA), (1, .ref pA), (2, .int v2), (3, .int v3)]) hx hb dX4_farthest_50 hl (k := 5) rfl rfl (by decide) rfl (fun ls hl => ?_)
          refine lv_goto (tgt := 7) hx hb dX4_farthest_53 (by decide) ?_
          exact ih7 (rr v5.toNatClampNeg) (v5 + 1) hw _ _ _ hP hD hS (lv_sub hl [2, 3, 4, 5, 1, 0] rfl)
        · have hw := hwB cb
          refine lv_aload_n hx hb dX4_farthest_23 rfl (lv_at hl 1 rfl) ?_
          refine lv_aload_n hx hb dX4_farthest_24 rfl (lv_at hl 0 rfl) ?_
          refine va_get (D := D) (ci := 3) (v := .ref rAr) (C := RX4) (T := TX4) (N := 2) hx hb hts in_X4_farthest_X4 hown hK hP 0 rfl rfl 0 (by decide) (hts (.fieldLink RX4 33 "LiveHull$Ring" "ranks" "[I") (List.mem_of_getElem? (i := 3) rfl)) (fun x9 h9 => u_same (hts (.sameField "LiveHull$Ring" "LiveHull$Corners" "ranks" "[I") (List.mem_of_getElem? (i := 4) rfl)) x9 h9) rfl dX4_farthest_25 ?_
          refine lv_iload hx hb dX4_farthest_28 (lv_at hl 5 rfl) ?_
          obtain ⟨hi, hw⟩ := hw
          refine va_iald hx hb hK hP 1 0 rfl rfl hi dX4_farthest_30 ?_
          refine lv_iload hx hb dX4_farthest_31 (lv_at hl 4 rfl) ?_
          refine lv_iload_n hx hb dX4_farthest_33 rfl (lv_at hl 2 rfl) ?_
          refine lv_iload_n hx hb dX4_farthest_34 rfl (lv_at hl 3 rfl) ?_
          refine cl_Si (As := [.ref pA, .int (rr v5.toNatClampNeg), .int v4, .int v2, .int v3]) (rest := []) ⟨hx, hb, hml, hown, hts⟩ (c_X4_isFarther l D cI cJ cZ cO pA pAd pAx pAy pd px py pn (rr v5.toNatClampNeg) v4 v2 v3 _ hw) (va_cwS 5 hts gX4_farthest_X4_isFarther rfl rfl rfl hd_X4_isFarther.2 ⟨Nat.le_trans (Nat.le_of_ble_eq_true rfl) hRf, Nat.le_trans (Nat.le_of_ble_eq_true rfl) hRl⟩) hK hP hD hS hA [2, 3, 4, 5] [0, 1] rfl (by decide) rfl (by decide) (by decide) rfl hl.1 rfl (Nat.le_of_ble_eq_true rfl) dX4_farthest_35 ⟨Nat.zero_le _, Nat.zero_le _⟩ (fun r35 _u H locs hw hP hD hS => ?_)
          try dsimp only at hw
          have hP : va_P D vwCl [(rA, .inr (3, [.ref rAr, .int rs])), (rAr, .inl (cI, 32, .inl rr)), (pA, .inr (2, [.ref pAd, .ref pAx, .ref pAy, .int pn])), (pAd, .inl (cI, 32, .inl pd)), (pAx, .inl (cI, 32, .inl px)), (pAy, .inl (cI, 32, .inl py))] H := hP.sub [0, 1, 2, 3, 4, 5] rfl
          have hD : va_D A [(rA, .inr (3, [.ref rAr, .int rs])), (rAr, .inl (cI, 32, .inl rr)), (pA, .inr (2, [.ref pAd, .ref pAx, .ref pAy, .int pn])), (pAd, .inl (cI, 32, .inl pd)), (pAx, .inl (cI, 32, .inl px)), (pAy, .inl (cI, 32, .inl py))] := hD.sub [0, 1, 2, 3, 4, 5] (by decide) rfl
          obtain ⟨hwA, hwB⟩ := hw
          refine lv_if_eq (tgt := 50) hx hb dX4_farthest_38 (by decide) (fun cb => ?_) (fun cb => ?_)
          · have hw := hwA cb
            refine lv_iinc (v := (v5 + 1)) (lv' := [(5, .int (v5 + 1)), (0, .ref rA), (1, .ref pA), (2, .int v2), (3, .int v3), (4, .int v4)]) hx hb dX4_farthest_50 hl (k := 5) rfl rfl (by decide) rfl (fun ls hl => ?_)
            refine lv_goto (tgt := 7) hx hb dX4_farthest_53 (by decide) ?_
            exact ih7 v4 (v5 + 1) hw _ _ _ hP hD hS (lv_sub hl [1, 2, 3, 4, 5, 0] rfl)
          · have hw := hwB cb
            refine lv_aload_n hx hb dX4_farthest_41 rfl (lv_at hl 0 rfl) ?_
            refine va_get (D := D) (ci := 3) (v := .ref rAr) (C := RX4) (T := TX4) (N := 2) hx hb hts in_X4_farthest_X4 hown hK hP 0 rfl rfl 0 (by decide) (hts (.fieldLink RX4 33 "LiveHull$Ring" "ranks" "[I") (List.mem_of_getElem? (i := 3) rfl)) (fun x9 h9 => u_same (hts (.sameField "LiveHull$Ring" "LiveHull$Corners" "ranks" "[I") (List.mem_of_getElem? (i := 4) rfl)) x9 h9) rfl dX4_farthest_42 ?_
            refine lv_iload hx hb dX4_farthest_45 (lv_at hl 5 rfl) ?_
            obtain ⟨hi, hw⟩ := hw
            refine va_iald hx hb hK hP 1 0 rfl rfl hi dX4_farthest_47 ?_
            refine lv_istore (lv' := [(4, .int (rr v5.toNatClampNeg)), (0, .ref rA), (1, .ref pA), (2, .int v2), (3, .int v3), (5, .int v5)]) hx hb dX4_farthest_48 hl (by decide) rfl (fun ls hl => ?_)
            refine lv_iinc (v := (v5 + 1)) (lv' := [(5, .int (v5 + 1)), (4, .int (rr v5.toNatClampNeg)), (0, .ref rA), (1, .ref pA), (2, .int v2), (3, .int v3)]) hx hb dX4_farthest_50 hl (k := 5) rfl rfl (by decide) rfl (fun ls hl => ?_)
            refine lv_goto (tgt := 7) hx hb dX4_farthest_53 (by decide) ?_
            exact ih7 (rr v5.toNatClampNeg) (v5 + 1) hw _ _ _ hP hD hS (lv_sub hl [2, 3, 4, 5, 1, 0] rfl)
  unfold wp_X4_farthest at hw
  refine lv_bipush (v := (-6)) hx hb dX4_farthest_0 (by decide) ?_
  refine lv_istore (lv' := [(4, .int (-6)), (0, .ref rA), (1, .ref pA), (2, .int v2), (3, .int v3)]) hx hb dX4_farthest_2 hl (by decide) rfl (fun ls hl => ?_)
  refine lv_iconst (v := 0) hx hb dX4_farthest_4 (by decide) ?_
  refine lv_istore (lv' := [(5, .int 0), (4, .int (-6)), (0, .ref rA), (1, .ref pA), (2, .int v2), (3, .int v3)]) hx hb dX4_farthest_5 hl (by decide) rfl (fun ls hl => ?_)
  obtain ⟨k, hw⟩ := hw
  exact N7  k (-6) 0 hw _ _ _ hP hD hS (lv_sub hl [2, 3, 4, 5, 1, 0] rfl)
theorem in_X4_isAtCorner_X4 : ∀ w ∈ wsX40, w ∈ wsX4_isAtCorner := fun _ h => List.mem_cons_of_mem _ (List.mem_append_left _ (List.mem_append_right _ h))
theorem hd_X4_isAtCorner : yX4_isAtCorner.cls = RX4 ∧ yX4_isAtCorner.cls ≠ "java/lang/invoke/MethodHandle" ∧ yX4_isAtCorner.cls ≠ "java/lang/invoke/VarHandle" ∧ (parseMethodDescriptor yX4_isAtCorner.desc).map (fun d => d.parameters.length) = some 3 := by decide +kernel
set_option maxHeartbeats 8000000 in
set_option maxRecDepth 100000 in
theorem c_X4_isAtCorner (l : Launch) (D : va_G) (cI cJ cZ cO : ClassId) (rA rAr pA pAd pAx pAy : Nat) (rr : Nat → Int32) (rs : Int32) (pd : Nat → Int32) (px : Nat → Int32) (py : Nat → Int32) (pn : Int32) (v2 : Int32) (v3 : Int32) (K : Int32 → Prop) (hw : wp_X4_isAtCorner rr rs px py v2 v3 K) : Ci l D (tys4 cI cJ cZ cO) yX4_isAtCorner wsX4_isAtCorner { frames := 1, cells := 0, slots := 0, locals := 23 } [.ref rA, .ref pA, .int v2, .int v3] [(rA, .inr (3, [.ref rAr, .int rs])), (rAr, .inl (cI, 32, .inl rr)), (pA, .inr (2, [.ref pAd, .ref pAx, .ref pAy, .int pn])), (pAd, .inl (cI, 32, .inl pd)), (pAx, .inl (cI, 32, .inl px)), (pAy, .inl (cI, 32, .inl py))] (fun (r : Int32) (_ : Unit) => K r) (fun _ => [(rA, .inr (3, [.ref rAr, .int rs])), (rAr, .inl (cI, 32, .inl rr)), (pA, .inr (2, [.ref pAd, .ref pAx, .ref pAy, .int pn])), (pAd, .inl (cI, 32, .inl pd)), (pAx, .inl (cI, 32, .inl px)), (pAy, .inl (cI, 32, .inl py))]) := by
  refine mt_i (cc := cX4_isAtCorner) (maxL := 5) (rt := .boolean) (by decide) rfl (Nat.le_of_ble_eq_true rfl) ?_
  intro p e s m args below meth c Q A R ls hRf hRl hx hb hml hown hts hK hA hP hD hS hl ret
  have hown : s.vm.findClass RX4 = some m.cls := hown
  have hl : lv_has ls 5 [(0, .ref rA), (1, .ref pA), (2, .int v2), (3, .int v3)] := hl
  have N3 : ∀  (k : Nat) (v4 : Int32), wp_X4_isAtCorner_3 rr rs px py v2 v3 K   k v4 → ∀ (H : Heap) (locs : List Loc) (ls : Array Slot), va_P D vwCl [(rA, .inr (3, [.ref rAr, .int rs])), (rAr, .inl (cI, 32, .inl rr)), (pA, .inr (2, [.ref pAd, .ref pAx, .ref pAy, .int pn])), (pAd, .inl (cI, 32, .inl pd)), (pAx, .inl (cI, 32, .inl px)), (pAy, .inl (cI, 32, .inl py))] H → va_D A [(rA, .inr (3, [.ref rAr, .int rs])), (rAr, .inl (cI, 32, .inl rr)), (pA, .inr (2, [.ref pAd, .ref pAx, .ref pAy, .int pn])), (pAd, .inl (cI, 32, .inl pd)), (pAx, .inl (cI, 32, .inl px)), (pAy, .inl (cI, 32, .inl py))] → va_S A s.heap H locs → lv_has ls 5 [(0, .ref rA), (1, .ref pA), (2, .int v2), (3, .int v3), (4, .int v4)] → W p l e R s m args below meth c H locs 0 0 Q (F0 m 3 ls []) := by
    intro k
    induction k with
    | zero => intro v4 hw; exact False.elim hw
    | succ k ih3 =>
      intro v4 hw H locs ls hP hD hS hl
      have hw : wp_X4_isAtCorner_3b rr rs px py v2 v3 K (wp_X4_isAtCorner_3 rr rs px py v2 v3 K   k)   v4 := hw
      unfold wp_X4_isAtCorner_3b at hw
      generalize wp_X4_isAtCorner_3 rr rs px py v2 v3 K   k = L3 at hw ih3
      refine lv_iload hx hb dX4_isAtCorner_3 (lv_at hl 4 rfl) ?_
      refine lv_aload_n hx hb dX4_isAtCorner_5 rfl (lv_at hl 0 rfl) ?_
      refine va_get (D := D) (ci := 3) (v := .int rs) (C := RX4) (T := TX4) (N := 2) hx hb hts in_X4_isAtCorner_X4 hown hK hP 0 rfl rfl 1 (by decide) (hts (.fieldLink RX4 9 "LiveHull$Ring" "size" "I") (List.mem_of_getElem? (i := 1) rfl)) (fun x9 h9 => u_same (hts (.sameField "LiveHull$Ring" "LiveHull$Corners" "size" "I") (List.mem_of_getElem? (i := 2) rfl)) x9 h9) rfl dX4_isAtCorner_6 ?_
      obtain ⟨hwA, hwB⟩ := hw
      refine lv_icmp_ge (tgt := 36) hx hb dX4_isAtCorner_9 (by decide) (fun cb => ?_) (fun cb => ?_)
      · have hw := hwA cb
        refine lv_iconst (v := 0) hx hb dX4_isAtCorner_36 (by decide) ?_
        exact ret _ _ _ _ 0 () rfl hw hP hD hS dX4_isAtCorner_37
      · have hw := hwB cb
        refine lv_aload_n hx hb dX4_isAtCorner_12 rfl (lv_at hl 1 rfl) ?_
        refine lv_aload_n hx hb dX4_isAtCorner_13 rfl (lv_at hl 0 rfl) ?_
        refine va_get (D := D) (ci := 3) (v := .ref rAr) (C := RX4) (T := TX4) (N := 2) hx hb hts in_X4_isAtCorner_X4 hown hK hP 0 rfl rfl 0 (by decide) (hts (.fieldLink RX4 33 "LiveHull$Ring" "ranks" "[I") (List.mem_of_getElem? (i := 3) rfl)) (fun x9 h9 => u_same (hts (.sameField "LiveHull$Ring" "LiveHull$Corners" "ranks" "[I") (List.mem_of_getElem? (i := 4) rfl)) x9 h9) rfl dX4_isAtCorner_14 ?_
        refine lv_iload hx hb dX4_isAtCorner_17 (lv_at hl 4 rfl) ?_
        obtain ⟨hi, hw⟩ := hw
        refine va_iald hx hb hK hP 1 0 rfl rfl hi dX4_isAtCorner_19 ?_
        refine lv_iload_n hx hb dX4_isAtCorner_20 rfl (lv_at hl 2 rfl) ?_
        refine lv_iload_n hx hb dX4_isAtCorner_21 rfl (lv_at hl 3 rfl) ?_
        refine cl_Vi (As := [.int (rr v4.toNatClampNeg), .int v2, .int v3]) (rest := []) ⟨hx, hb, hml, hown, hts⟩ (c_X3_isAt l D cI cJ cZ cO pA pAd pAx pAy pd px py pn (rr v4.toNatClampNeg) v2 v3 _ hw) (cwV 3 hts gX4_isAtCorner_X3_isAt rfl rfl rfl hd_X3_isAt ⟨Nat.le_trans (Nat.le_of_ble_eq_true rfl) hRf, Nat.le_trans (Nat.le_of_ble_eq_true rfl) hRl⟩) hK hP hD hS hA [2, 3, 4, 5] [0, 1] rfl (by decide) rfl (by decide) (by decide) 2 2 rfl rfl rfl hl.1 rfl (Nat.le_of_ble_eq_true rfl) dX4_isAtCorner_22 ⟨Nat.zero_le _, Nat.zero_le _⟩ (fun r22 _u H locs hw hP hD hS => ?_)
        try dsimp only at hw
        have hP : va_P D vwCl [(rA, .inr (3, [.ref rAr, .int rs])), (rAr, .inl (cI, 32, .inl rr)), (pA, .inr (2, [.ref pAd, .ref pAx, .ref pAy, .int pn])), (pAd, .inl (cI, 32, .inl pd)), (pAx, .inl (cI, 32, .inl px)), (pAy, .inl (cI, 32, .inl py))] H := hP.sub [0, 1, 2, 3, 4, 5] rfl
        have hD : va_D A [(rA, .inr (3, [.ref rAr, .int rs])), (rAr, .inl (cI, 32, .inl rr)), (pA, .inr (2, [.ref pAd, .ref pAx, .ref pAy, .int pn])), (pAd, .inl (cI, 32, .inl pd)), (pAx, .inl (cI, 32, .inl px)), (pAy, .inl (cI, 32, .inl py))] := hD.sub [0, 1, 2, 3, 4, 5] (by decide) rfl
        obtain ⟨hwA, hwB⟩ := hw
        refine lv_if_eq (tgt := 30) hx hb dX4_isAtCorner_25 (by decide) (fun cb => ?_) (fun cb => ?_)
        · have hw := hwA cb
          refine lv_iinc (v := (v4 + 1)) (lv' := [(4, .int (v4 + 1)), (0, .ref rA), (1, .ref pA), (2, .int v2), (3, .int v3)]) hx hb dX4_isAtCorner_30 hl (k := 4) rfl rfl (by decide) rfl (fun ls hl => ?_)
          refine lv_goto (tgt := 3) hx hb dX4_isAtCorner_33 (by decide) ?_
          exact ih3 (v4 + 1) hw _ _ _ hP hD hS (lv_sub hl [1, 2, 3, 4, 0] rfl)
        · have hw := hwB cb
          refine lv_iconst (v := 1) hx hb dX4_isAtCorner_28 (by decide) ?_
          exact ret _ _ _ _ 1 () rfl hw hP hD hS dX4_isAtCorner_29
  unfold wp_X4_isAtCorner at hw
  refine lv_iconst (v := 0) hx hb dX4_isAtCorner_0 (by decide) ?_
  refine lv_istore (lv' := [(4, .int 0), (0, .ref rA), (1, .ref pA), (2, .int v2), (3, .int v3)]) hx hb dX4_isAtCorner_1 hl (by decide) rfl (fun ls hl => ?_)
  obtain ⟨k, hw⟩ := hw
  exact N3  k 0 hw _ _ _ hP hD hS (lv_sub hl [1, 2, 3, 4, 0] rfl)
theorem in_X4_locate_X4 : ∀ w ∈ wsX40, w ∈ wsX4_locate := fun _ h => List.mem_cons_of_mem _ (List.mem_append_left _ (List.mem_append_right _ h))
theorem hd_X4_locate : yX4_locate.cls = RX4 ∧ yX4_locate.cls ≠ "java/lang/invoke/MethodHandle" ∧ yX4_locate.cls ≠ "java/lang/invoke/VarHandle" ∧ (parseMethodDescriptor yX4_locate.desc).map (fun d => d.parameters.length) = some 3 := by decide +kernel
set_option maxHeartbeats 8000000 in
set_option maxRecDepth 100000 in
theorem c_X4_locate (l : Launch) (D : va_G) (cI cJ cZ cO : ClassId) (rA rAr pA pAd pAx pAy : Nat) (rr : Nat → Int32) (rs : Int32) (pd : Nat → Int32) (px : Nat → Int32) (py : Nat → Int32) (pn : Int32) (v2 : Int32) (v3 : Int32) (K : Int32 → Prop) (hw : wp_X4_locate rr rs px py v2 v3 K) : Ci l D (tys4 cI cJ cZ cO) yX4_locate wsX4_locate { frames := 2, cells := 0, slots := 0, locals := 47 } [.ref rA, .ref pA, .int v2, .int v3] [(rA, .inr (3, [.ref rAr, .int rs])), (rAr, .inl (cI, 32, .inl rr)), (pA, .inr (2, [.ref pAd, .ref pAx, .ref pAy, .int pn])), (pAd, .inl (cI, 32, .inl pd)), (pAx, .inl (cI, 32, .inl px)), (pAy, .inl (cI, 32, .inl py))] (fun (r : Int32) (_ : Unit) => K r) (fun _ => [(rA, .inr (3, [.ref rAr, .int rs])), (rAr, .inl (cI, 32, .inl rr)), (pA, .inr (2, [.ref pAd, .ref pAx, .ref pAy, .int pn])), (pAd, .inl (cI, 32, .inl pd)), (pAx, .inl (cI, 32, .inl px)), (pAy, .inl (cI, 32, .inl py))]) := by
  refine mt_i (cc := cX4_locate) (maxL := 9) (rt := .int) (by decide) rfl (Nat.le_of_ble_eq_true rfl) ?_
  intro p e s m args below meth c Q A R ls hRf hRl hx hb hml hown hts hK hA hP hD hS hl ret
  have hown : s.vm.findClass RX4 = some m.cls := hown
  have hl : lv_has ls 9 [(0, .ref rA), (1, .ref pA), (2, .int v2), (3, .int v3)] := hl
  have N15 : ∀  (k : Nat) (v4 : Int32), wp_X4_locate_15 rr rs px py v2 v3 K   k v4 → ∀ (H : Heap) (locs : List Loc) (ls : Array Slot), va_P D vwCl [(rA, .inr (3, [.ref rAr, .int rs])), (rAr, .inl (cI, 32, .inl rr)), (pA, .inr (2, [.ref pAd, .ref pAx, .ref pAy, .int pn])), (pAd, .inl (cI, 32, .inl pd)), (pAx, .inl (cI, 32, .inl px)), (pAy, .inl (cI, 32, .inl py))] H → va_D A [(rA, .inr (3, [.ref rAr, .int rs])), (rAr, .inl (cI, 32, .inl rr)), (pA, .inr (2, [.ref pAd, .ref pAx, .ref pAy, .int pn])), (pAd, .inl (cI, 32, .inl pd)), (pAx, .inl (cI, 32, .inl px)), (pAy, .inl (cI, 32, .inl py))] → va_S A s.heap H locs → lv_has ls 9 [(0, .ref rA), (1, .ref pA), (2, .int v2), (3, .int v3), (4, .int v4)] → W p l e R s m args below meth c H locs 0 0 Q (F0 m 15 ls []) := by
    intro k
    induction k with
    | zero => intro v4 hw; exact False.elim hw
    | succ k ih15 =>
      intro v4 hw H locs ls hP hD hS hl
      have hw : wp_X4_locate_15b rr rs px py v2 v3 K (wp_X4_locate_15 rr rs px py v2 v3 K   k)   v4 := hw
      unfold wp_X4_locate_15b at hw
      generalize wp_X4_locate_15 rr rs px py v2 v3 K   k = L15 at hw ih15
      have N62 : ∀ (v4 : Int32) (v5 : Int32) (s0 : Int32), wp_X4_locate_62 rr rs px py v2 v3 K L15  v4 v5 s0 → ∀ (H : Heap) (locs : List Loc) (ls : Array Slot), va_P D vwCl [(rA, .inr (3, [.ref rAr, .int rs])), (rAr, .inl (cI, 32, .inl rr)), (pA, .inr (2, [.ref pAd, .ref pAx, .ref pAy, .int pn])), (pAd, .inl (cI, 32, .inl pd)), (pAx, .inl (cI, 32, .inl px)), (pAy, .inl (cI, 32, .inl py))] H → va_D A [(rA, .inr (3, [.ref rAr, .int rs])), (rAr, .inl (cI, 32, .inl rr)), (pA, .inr (2, [.ref pAd, .ref pAx, .ref pAy, .int pn])), (pAd, .inl (cI, 32, .inl pd)), (pAx, .inl (cI, 32, .inl px)), (pAy, .inl (cI, 32, .inl py))] → va_S A s.heap H locs → lv_has ls 9 [(0, .ref rA), (1, .ref pA), (2, .int v2), (3, .int v3), (4, .int v4), (5, .int v5)] → W p l e R s m args below meth c H locs 0 0 Q (F0 m 62 ls [.int s0]) := by
        intro v4 v5 s0 hw H locs ls hP hD hS hl
        unfold wp_X4_locate_62 at hw
        refine lv_istore (lv' := [(6, .int s0), (0, .ref rA), (1, .ref pA), (2, .int v2), (3, .int v3), (4, .int v4), (5, .int v5)]) hx hb dX4_locate_62 hl (by decide) rfl (fun ls hl => ?_)
        refine lv_aload_n hx hb dX4_locate_64 rfl (lv_at hl 2 rfl) ?_
        refine lv_iload hx hb dX4_locate_65 (lv_at hl 6 rfl) ?_
        refine lv_iload hx hb dX4_locate_67 (lv_at hl 0 rfl) ?_
        refine lv_iload_n hx hb dX4_locate_69 rfl (lv_at hl 3 rfl) ?_
        refine lv_iload_n hx hb dX4_locate_70 rfl (lv_at hl 4 rfl) ?_
        refine cl_Vl (As := [.int v5, .int s0, .int v2, .int v3]) (rest := []) ⟨hx, hb, hml, hown, hts⟩ (c_X3_turn l D cI cJ cZ cO pA pAd pAx pAy pd px py pn v5 s0 v2 v3 _ hw) (cwV 4 hts gX4_locate_X3_turn rfl rfl rfl hd_X3_turn ⟨Nat.le_trans (Nat.le_of_ble_eq_true rfl) hRf, Nat.le_trans (Nat.le_of_ble_eq_true rfl) hRl⟩) hK hP hD hS hA [2, 3, 4, 5] [0, 1] rfl (by decide) rfl (by decide) (by decide) 2 2 rfl rfl rfl hl.1 rfl (Nat.le_of_ble_eq_true rfl) dX4_locate_71 ⟨Nat.zero_le _, Nat.zero_le _⟩ (fun r71 _u H locs hw hP hD hS => ?_)
        try dsimp only at hw
        have hP : va_P D vwCl [(rA, .inr (3, [.ref rAr, .int rs])), (rAr, .inl (cI, 32, .inl rr)), (pA, .inr (2, [.ref pAd, .ref pAx, .ref pAy, .int pn])), (pAd, .inl (cI, 32, .inl pd)), (pAx, .inl (cI, 32, .inl px)), (pAy, .inl (cI, 32, .inl py))] H := hP.sub [0, 1, 2, 3, 4, 5] rfl
        have hD : va_D A [(rA, .inr (3, [.ref rAr, .int rs])), (rAr, .inl (cI, 32, .inl rr)), (pA, .inr (2, [.ref pAd, .ref pAx, .ref pAy, .int pn])), (pAd, .inl (cI, 32, .inl pd)), (pAx, .inl (cI, 32, .inl px)), (pAy, .inl (cI, 32, .inl py))] := hD.sub [0, 1, 2, 3, 4, 5] (by decide) rfl
        refine lv_lstore (lv' := [(7, .long r71), (6, .int s0), (0, .ref rA), (1, .ref pA), (2, .int v2), (3, .int v3), (4, .int v4), (5, .int v5)]) hx hb dX4_locate_74 hl (by decide) rfl (fun ls hl => ?_)
        refine lv_lload hx hb dX4_locate_76 (lv_at hl 0 rfl) ?_
        refine lv_lconst (v := 0) hx hb dX4_locate_78 (by decide) ?_
        refine W.lcmp hx hb dX4_locate_79 ?_
        obtain ⟨hwA, hwB⟩ := hw
        refine lv_if_ge (tgt := 85) hx hb dX4_locate_80 (by decide) (fun cb => ?_) (fun cb => ?_)
        · have hw := hwA ((cq_ge _ _).mp cb)
          refine lv_lload hx hb dX4_locate_85 (lv_at hl 0 rfl) ?_
          refine lv_lconst (v := 0) hx hb dX4_locate_87 (by decide) ?_
          refine W.lcmp hx hb dX4_locate_88 ?_
          obtain ⟨hwA, hwB⟩ := hw
          refine lv_if_ne (tgt := 111) hx hb dX4_locate_89 (by decide) (fun cb => ?_) (fun cb => ?_)
          · have hw := hwA ((cq_ne _ _).mp cb)
            refine lv_iinc (v := (v4 + 1)) (lv' := [(4, .int (v4 + 1)), (7, .long r71), (6, .int s0), (0, .ref rA), (1, .ref pA), (2, .int v2), (3, .int v3), (5, .int v5)]) hx hb dX4_locate_111 hl (k := 6) rfl rfl (by decide) rfl (fun ls hl => ?_)
            refine lv_goto (tgt := 15) hx hb dX4_locate_114 (by decide) ?_
            exact ih15 (v4 + 1) hw _ _ _ hP hD hS (lv_sub hl [3, 4, 5, 6, 0] rfl)
          · have hw := hwB ((cq_eq _ _).mp cb)
            refine lv_aload_n hx hb dX4_locate_92 rfl (lv_at hl 3 rfl) ?_
            refine lv_iload hx hb dX4_locate_93 (lv_at hl 7 rfl) ?_
            refine lv_iload hx hb dX4_locate_95 (lv_at hl 1 rfl) ?_
            refine lv_iload_n hx hb dX4_locate_97 rfl (lv_at hl 4 rfl) ?_
            refine lv_iload_n hx hb dX4_locate_98 rfl (lv_at hl 5 rfl) ?_
            refine cl_Vi (As := [.int v5, .int s0, .int v2, .int v3]) (rest := []) ⟨hx, hb, hml, hown, hts⟩ (c_X3_isBoxed l D cI cJ cZ cO pA pAd pAx pAy pd px py pn v5 s0 v2 v3 _ hw) (cwV 4 hts gX4_locate_X3_isBoxed rfl rfl rfl hd_X3_isBoxed ⟨Nat.le_trans (Nat.le_of_ble_eq_true rfl) hRf, Nat.le_trans (Nat.le_of_ble_eq_true rfl) hRl⟩) hK hP hD hS hA [2, 3, 4, 5] [0, 1] rfl (by decide) rfl (by decide) (by decide) 2 2 rfl rfl rfl hl.1 rfl (Nat.le_of_ble_eq_true rfl) dX4_locate_99 ⟨Nat.zero_le _, Nat.zero_le _⟩ (fun r99 _u H locs hw hP hD hS => ?_)
            try dsimp only at hw
            have hP : va_P D vwCl [(rA, .inr (3, [.ref rAr, .int rs])), (rAr, .inl (cI, 32, .inl rr)), (pA, .inr (2, [.ref pAd, .ref pAx, .ref pAy, .int pn])), (pAd, .inl (cI, 32, .inl pd)), (pAx, .inl (cI, 32, .inl px)), (pAy, .inl (cI, 32, .inl py))] H := hP.sub [0, 1, 2, 3, 4, 5] rfl
            have hD : va_D A [(rA, .inr (3, [.ref rAr, .int rs])), (rAr, .inl (cI, 32, .inl rr)), (pA, .inr (2, [.ref pAd, .ref pAx, .ref pAy, .int pn])), (pAd, .inl (cI, 32, .inl pd)), (pAx, .inl (cI, 32, .inl px)), (pAy, .inl (cI, 32, .inl py))] := hD.sub [0, 1, 2, 3, 4, 5] (by decide) rfl
            obtain ⟨hwA, hwB⟩ := hw
            refine lv_if_eq (tgt := 109) hx hb dX4_locate_102 (by decide) (fun cb => ?_) (fun cb => ?_)
            · have hw := hwA cb
              refine lv_iconst (v := 0) hx hb dX4_locate_109 (by decide) ?_
              exact ret _ _ _ _ 0 () (vp_nar_int _) hw hP hD hS dX4_locate_110
            · have hw := hwB cb
              refine lv_iconst (v := 2) hx hb dX4_locate_105 (by decide) ?_
              refine lv_goto (tgt := 110) hx hb dX4_locate_106 (by decide) ?_
              exact ret _ _ _ _ 2 () (vp_nar_int _) hw hP hD hS dX4_locate_110
        · have hw := hwB (fun h => cb ((cq_ge _ _).mpr h))
          refine lv_iconst (v := 0) hx hb dX4_locate_83 (by decide) ?_
          exact ret _ _ _ _ 0 () (vp_nar_int _) hw hP hD hS dX4_locate_84
      refine lv_iload hx hb dX4_locate_15 (lv_at hl 4 rfl) ?_
      refine lv_aload_n hx hb dX4_locate_17 rfl (lv_at hl 0 rfl) ?_
      refine va_get (D := D) (ci := 3) (v := .int rs) (C := RX4) (T := TX4) (N := 2) hx hb hts in_X4_locate_X4 hown hK hP 0 rfl rfl 1 (by decide) (hts (.fieldLink RX4 9 "LiveHull$Ring" "size" "I") (List.mem_of_getElem? (i := 1) rfl)) (fun x9 h9 => u_same (hts (.sameField "LiveHull$Ring" "LiveHull$Corners" "size" "I") (List.mem_of_getElem? (i := 2) rfl)) x9 h9) rfl dX4_locate_18 ?_
      obtain ⟨hwA, hwB⟩ := hw
      refine lv_icmp_ge (tgt := 117) hx hb dX4_locate_21 (by decide) (fun cb => ?_) (fun cb => ?_)
      · have hw := hwA cb
        refine lv_aload_n hx hb dX4_locate_117 rfl (lv_at hl 0 rfl) ?_
        refine va_get (D := D) (ci := 3) (v := .int rs) (C := RX4) (T := TX4) (N := 2) hx hb hts in_X4_locate_X4 hown hK hP 0 rfl rfl 1 (by decide) (hts (.fieldLink RX4 9 "LiveHull$Ring" "size" "I") (List.mem_of_getElem? (i := 1) rfl)) (fun x9 h9 => u_same (hts (.sameField "LiveHull$Ring" "LiveHull$Corners" "size" "I") (List.mem_of_getElem? (i := 2) rfl)) x9 h9) rfl dX4_locate_118 ?_
        obtain ⟨hwA, hwB⟩ := hw
        refine lv_if_ne (tgt := 128) hx hb dX4_locate_121 (by decide) (fun cb => ?_) (fun cb => ?_)
        · have hw := hwA cb
          refine lv_iconst (v := 3) hx hb dX4_locate_128 (by decide) ?_
          exact ret _ _ _ _ 3 () (vp_nar_int _) hw hP hD hS dX4_locate_129
        · have hw := hwB cb
          refine lv_iconst (v := 0) hx hb dX4_locate_124 (by decide) ?_
          refine lv_goto (tgt := 129) hx hb dX4_locate_125 (by decide) ?_
          exact ret _ _ _ _ 0 () (vp_nar_int _) hw hP hD hS dX4_locate_129
      · have hw := hwB cb
        refine lv_aload_n hx hb dX4_locate_24 rfl (lv_at hl 0 rfl) ?_
        refine va_get (D := D) (ci := 3) (v := .ref rAr) (C := RX4) (T := TX4) (N := 2) hx hb hts in_X4_locate_X4 hown hK hP 0 rfl rfl 0 (by decide) (hts (.fieldLink RX4 33 "LiveHull$Ring" "ranks" "[I") (List.mem_of_getElem? (i := 3) rfl)) (fun x9 h9 => u_same (hts (.sameField "LiveHull$Ring" "LiveHull$Corners" "ranks" "[I") (List.mem_of_getElem? (i := 4) rfl)) x9 h9) rfl dX4_locate_25 ?_
        refine lv_iload hx hb dX4_locate_28 (lv_at hl 4 rfl) ?_
        obtain ⟨hi, hw⟩ := hw
        refine va_iald hx hb hK hP 1 0 rfl rfl hi dX4_locate_30 ?_
        refine lv_istore (lv' := [(5, .int (rr v4.toNatClampNeg)), (0, .ref rA), (1, .ref pA), (2, .int v2), (3, .int v3), (4, .int v4)]) hx hb dX4_locate_31 hl (by decide) rfl (fun ls hl => ?_)
        refine lv_iload hx hb dX4_locate_33 (lv_at hl 5 rfl) ?_
        refine lv_iconst (v := 1) hx hb dX4_locate_35 (by decide) ?_
        refine lv_iadd hx hb dX4_locate_36 ?_
        refine lv_aload_n hx hb dX4_locate_37 rfl (lv_at hl 1 rfl) ?_
        refine va_get (D := D) (ci := 3) (v := .int rs) (C := RX4) (T := TX4) (N := 2) hx hb hts in_X4_locate_X4 hown hK hP 0 rfl rfl 1 (by decide) (hts (.fieldLink RX4 9 "LiveHull$Ring" "size" "I") (List.mem_of_getElem? (i := 1) rfl)) (fun x9 h9 => u_same (hts (.sameField "LiveHull$Ring" "LiveHull$Corners" "size" "I") (List.mem_of_getElem? (i := 2) rfl)) x9 h9) rfl dX4_locate_38 ?_
        obtain ⟨hwA, hwB⟩ := hw
        refine lv_icmp_ge (tgt := 56) hx hb dX4_locate_41 (by decide) (fun cb => ?_) (fun cb => ?_)
        · have hw := hwA cb
          refine lv_aload_n hx hb dX4_locate_56 rfl (lv_at hl 1 rfl) ?_
          refine va_get (D := D) (ci := 3) (v := .ref rAr) (C := RX4) (T := TX4) (N := 2) hx hb hts in_X4_locate_X4 hown hK hP 0 rfl rfl 0 (by decide) (hts (.fieldLink RX4 33 "LiveHull$Ring" "ranks" "[I") (List.mem_of_getElem? (i := 3) rfl)) (fun x9 h9 => u_same (hts (.sameField "LiveHull$Ring" "LiveHull$Corners" "ranks" "[I") (List.mem_of_getElem? (i := 4) rfl)) x9 h9) rfl dX4_locate_57 ?_
          refine lv_iconst (v := 0) hx hb dX4_locate_60 (by decide) ?_
          obtain ⟨hi, hw⟩ := hw
          refine va_iald hx hb hK hP 1 0 rfl rfl hi dX4_locate_61 ?_
          exact N62 v4 (rr v4.toNatClampNeg) (rr (0 : Int32).toNatClampNeg) hw _ _ _ hP hD hS (lv_sub hl [1, 2, 3, 4, 5, 0] rfl)
        · have hw := hwB cb
          refine lv_aload_n hx hb dX4_locate_44 rfl (lv_at hl 1 rfl) ?_
          refine va_get (D := D) (ci := 3) (v := .ref rAr) (C := RX4) (T := TX4) (N := 2) hx hb hts in_X4_locate_X4 hown hK hP 0 rfl rfl 0 (by decide) (hts (.fieldLink RX4 33 "LiveHull$Ring" "ranks" "[I") (List.mem_of_getElem? (i := 3) rfl)) (fun x9 h9 => u_same (hts (.sameField "LiveHull$Ring" "LiveHull$Corners" "ranks" "[I") (List.mem_of_getElem? (i := 4) rfl)) x9 h9) rfl dX4_locate_45 ?_
          refine lv_iload hx hb dX4_locate_48 (lv_at hl 5 rfl) ?_
          refine lv_iconst (v := 1) hx hb dX4_locate_50 (by decide) ?_
          refine lv_iadd hx hb dX4_locate_51 ?_
          obtain ⟨hi, hw⟩ := hw
          refine va_iald hx hb hK hP 1 0 rfl rfl hi dX4_locate_52 ?_
          refine lv_goto (tgt := 62) hx hb dX4_locate_53 (by decide) ?_
          exact N62 v4 (rr v4.toNatClampNeg) (rr (v4 + 1).toNatClampNeg) hw _ _ _ hP hD hS (lv_sub hl [1, 2, 3, 4, 5, 0] rfl)
  unfold wp_X4_locate at hw
  refine lv_aload_n hx hb dX4_locate_0 rfl (lv_at hl 0 rfl) ?_
  refine lv_aload_n hx hb dX4_locate_1 rfl (lv_at hl 1 rfl) ?_
  refine lv_iload_n hx hb dX4_locate_2 rfl (lv_at hl 2 rfl) ?_
  refine lv_iload_n hx hb dX4_locate_3 rfl (lv_at hl 3 rfl) ?_
  refine cl_Vi (As := [.ref pA, .int v2, .int v3]) (rest := []) ⟨hx, hb, hml, hown, hts⟩ (c_X4_isAtCorner l D cI cJ cZ cO rA rAr pA pAd pAx pAy rr rs pd px py pn v2 v3 _ hw) (cwV 3 hts gX4_locate_X4_isAtCorner rfl rfl rfl hd_X4_isAtCorner ⟨Nat.le_trans (Nat.le_of_ble_eq_true rfl) hRf, Nat.le_trans (Nat.le_of_ble_eq_true rfl) hRl⟩) hK hP hD hS hA [0, 1, 2, 3, 4, 5] [] rfl (by decide) rfl (by decide) (by decide) 0 3 rfl rfl rfl hl.1 rfl (Nat.le_of_ble_eq_true rfl) dX4_locate_4 ⟨Nat.zero_le _, Nat.zero_le _⟩ (fun r4 _u H locs hw hP hD hS => ?_)
  try dsimp only at hw
  have hP : va_P D vwCl [(rA, .inr (3, [.ref rAr, .int rs])), (rAr, .inl (cI, 32, .inl rr)), (pA, .inr (2, [.ref pAd, .ref pAx, .ref pAy, .int pn])), (pAd, .inl (cI, 32, .inl pd)), (pAx, .inl (cI, 32, .inl px)), (pAy, .inl (cI, 32, .inl py))] H := hP.sub [0, 1, 2, 3, 4, 5] rfl
  have hD : va_D A [(rA, .inr (3, [.ref rAr, .int rs])), (rAr, .inl (cI, 32, .inl rr)), (pA, .inr (2, [.ref pAd, .ref pAx, .ref pAy, .int pn])), (pAd, .inl (cI, 32, .inl pd)), (pAx, .inl (cI, 32, .inl px)), (pAy, .inl (cI, 32, .inl py))] := hD.sub [0, 1, 2, 3, 4, 5] (by decide) rfl
  obtain ⟨hwA, hwB⟩ := hw
  refine lv_if_eq (tgt := 12) hx hb dX4_locate_7 (by decide) (fun cb => ?_) (fun cb => ?_)
  · have hw := hwA cb
    refine lv_iconst (v := 0) hx hb dX4_locate_12 (by decide) ?_
    refine lv_istore (lv' := [(4, .int 0), (0, .ref rA), (1, .ref pA), (2, .int v2), (3, .int v3)]) hx hb dX4_locate_13 hl (by decide) rfl (fun ls hl => ?_)
    obtain ⟨k, hw⟩ := hw
    exact N15  k 0 hw _ _ _ hP hD hS (lv_sub hl [1, 2, 3, 4, 0] rfl)
  · have hw := hwB cb
    refine lv_iconst (v := 1) hx hb dX4_locate_10 (by decide) ?_
    exact ret _ _ _ _ 1 () (vp_nar_int _) hw hP hD hS dX4_locate_11
theorem in_X4_isTouching_X4 : ∀ w ∈ wsX40, w ∈ wsX4_isTouching := fun _ h => List.mem_cons_of_mem _ (List.mem_append_left _ (List.mem_append_right _ h))
theorem hd_X4_isTouching : yX4_isTouching.cls = RX4 ∧ yX4_isTouching.cls ≠ "java/lang/invoke/MethodHandle" ∧ yX4_isTouching.cls ≠ "java/lang/invoke/VarHandle" ∧ (parseMethodDescriptor yX4_isTouching.desc).map (fun d => d.parameters.length) = some 5 := by decide +kernel
set_option maxHeartbeats 8000000 in
set_option maxRecDepth 100000 in
theorem c_X4_isTouching (l : Launch) (D : va_G) (cI cJ cZ cO : ClassId) (rA rAr pA pAd pAx pAy : Nat) (rr : Nat → Int32) (rs : Int32) (pd : Nat → Int32) (px : Nat → Int32) (py : Nat → Int32) (pn : Int32) (v2 : Int32) (v3 : Int32) (v4 : Int32) (v5 : Int32) (K : Int32 → Prop) (hw : wp_X4_isTouching rr rs px py v2 v3 v4 v5 K) : Ci l D (tys4 cI cJ cZ cO) yX4_isTouching wsX4_isTouching { frames := 1, cells := 0, slots := 0, locals := 32 } [.ref rA, .ref pA, .int v2, .int v3, .int v4, .int v5] [(rA, .inr (3, [.ref rAr, .int rs])), (rAr, .inl (cI, 32, .inl rr)), (pA, .inr (2, [.ref pAd, .ref pAx, .ref pAy, .int pn])), (pAd, .inl (cI, 32, .inl pd)), (pAx, .inl (cI, 32, .inl px)), (pAy, .inl (cI, 32, .inl py))] (fun (r : Int32) (_ : Unit) => K r) (fun _ => [(rA, .inr (3, [.ref rAr, .int rs])), (rAr, .inl (cI, 32, .inl rr)), (pA, .inr (2, [.ref pAd, .ref pAx, .ref pAy, .int pn])), (pAd, .inl (cI, 32, .inl pd)), (pAx, .inl (cI, 32, .inl px)), (pAy, .inl (cI, 32, .inl py))]) := by
  refine mt_i (cc := cX4_isTouching) (maxL := 9) (rt := .boolean) (by decide) rfl (Nat.le_of_ble_eq_true rfl) ?_
  intro p e s m args below meth c Q A R ls hRf hRl hx hb hml hown hts hK hA hP hD hS hl ret
  have hown : s.vm.findClass RX4 = some m.cls := hown
  have hl : lv_has ls 9 [(0, .ref rA), (1, .ref pA), (2, .int v2), (3, .int v3), (4, .int v4), (5, .int v5)] := hl
  have N3 : ∀  (k : Nat) (v6 : Int32), wp_X4_isTouching_3 rr rs px py v2 v3 v4 v5 K   k v6 → ∀ (H : Heap) (locs : List Loc) (ls : Array Slot), va_P D vwCl [(rA, .inr (3, [.ref rAr, .int rs])), (rAr, .inl (cI, 32, .inl rr)), (pA, .inr (2, [.ref pAd, .ref pAx, .ref pAy, .int pn])), (pAd, .inl (cI, 32, .inl pd)), (pAx, .inl (cI, 32, .inl px)), (pAy, .inl (cI, 32, .inl py))] H → va_D A [(rA, .inr (3, [.ref rAr, .int rs])), (rAr, .inl (cI, 32, .inl rr)), (pA, .inr (2, [.ref pAd, .ref pAx, .ref pAy, .int pn])), (pAd, .inl (cI, 32, .inl pd)), (pAx, .inl (cI, 32, .inl px)), (pAy, .inl (cI, 32, .inl py))] → va_S A s.heap H locs → lv_has ls 9 [(0, .ref rA), (1, .ref pA), (2, .int v2), (3, .int v3), (4, .int v4), (5, .int v5), (6, .int v6)] → W p l e R s m args below meth c H locs 0 0 Q (F0 m 3 ls []) := by
    intro k
    induction k with
    | zero => intro v6 hw; exact False.elim hw
    | succ k ih3 =>
      intro v6 hw H locs ls hP hD hS hl
      have hw : wp_X4_isTouching_3b rr rs px py v2 v3 v4 v5 K (wp_X4_isTouching_3 rr rs px py v2 v3 v4 v5 K   k)   v6 := hw
      unfold wp_X4_isTouching_3b at hw
      generalize wp_X4_isTouching_3 rr rs px py v2 v3 v4 v5 K   k = L3 at hw ih3
      refine lv_iload hx hb dX4_isTouching_3 (lv_at hl 6 rfl) ?_
      refine lv_aload_n hx hb dX4_isTouching_5 rfl (lv_at hl 0 rfl) ?_
      refine va_get (D := D) (ci := 3) (v := .int rs) (C := RX4) (T := TX4) (N := 2) hx hb hts in_X4_isTouching_X4 hown hK hP 0 rfl rfl 1 (by decide) (hts (.fieldLink RX4 9 "LiveHull$Ring" "size" "I") (List.mem_of_getElem? (i := 1) rfl)) (fun x9 h9 => u_same (hts (.sameField "LiveHull$Ring" "LiveHull$Corners" "size" "I") (List.mem_of_getElem? (i := 2) rfl)) x9 h9) rfl dX4_isTouching_6 ?_
      obtain ⟨hwA, hwB⟩ := hw
      refine lv_icmp_ge (tgt := 59) hx hb dX4_isTouching_9 (by decide) (fun cb => ?_) (fun cb => ?_)
      · have hw := hwA cb
        refine lv_iconst (v := 1) hx hb dX4_isTouching_59 (by decide) ?_
        exact ret _ _ _ _ 1 () rfl hw hP hD hS dX4_isTouching_60
      · have hw := hwB cb
        refine lv_aload_n hx hb dX4_isTouching_12 rfl (lv_at hl 1 rfl) ?_
        refine lv_iload_n hx hb dX4_isTouching_13 rfl (lv_at hl 2 rfl) ?_
        refine lv_aload_n hx hb dX4_isTouching_14 rfl (lv_at hl 0 rfl) ?_
        refine va_get (D := D) (ci := 3) (v := .ref rAr) (C := RX4) (T := TX4) (N := 2) hx hb hts in_X4_isTouching_X4 hown hK hP 0 rfl rfl 0 (by decide) (hts (.fieldLink RX4 33 "LiveHull$Ring" "ranks" "[I") (List.mem_of_getElem? (i := 3) rfl)) (fun x9 h9 => u_same (hts (.sameField "LiveHull$Ring" "LiveHull$Corners" "ranks" "[I") (List.mem_of_getElem? (i := 4) rfl)) x9 h9) rfl dX4_isTouching_15 ?_
        refine lv_iload hx hb dX4_isTouching_18 (lv_at hl 6 rfl) ?_
        obtain ⟨hi, hw⟩ := hw
        refine va_iald hx hb hK hP 1 0 rfl rfl hi dX4_isTouching_20 ?_
        refine lv_iload_n hx hb dX4_isTouching_21 rfl (lv_at hl 3 rfl) ?_
        refine lv_iload hx hb dX4_isTouching_22 (lv_at hl 4 rfl) ?_
        refine cl_Vl (As := [.int v2, .int (rr v6.toNatClampNeg), .int v3, .int v4]) (rest := []) ⟨hx, hb, hml, hown, hts⟩ (c_X3_turn l D cI cJ cZ cO pA pAd pAx pAy pd px py pn v2 (rr v6.toNatClampNeg) v3 v4 _ hw) (cwV 4 hts gX4_isTouching_X3_turn rfl rfl rfl hd_X3_turn ⟨Nat.le_trans (Nat.le_of_ble_eq_true rfl) hRf, Nat.le_trans (Nat.le_of_ble_eq_true rfl) hRl⟩) hK hP hD hS hA [2, 3, 4, 5] [0, 1] rfl (by decide) rfl (by decide) (by decide) 2 2 rfl rfl rfl hl.1 rfl (Nat.le_of_ble_eq_true rfl) dX4_isTouching_24 ⟨Nat.zero_le _, Nat.zero_le _⟩ (fun r24 _u H locs hw hP hD hS => ?_)
        try dsimp only at hw
        have hP : va_P D vwCl [(rA, .inr (3, [.ref rAr, .int rs])), (rAr, .inl (cI, 32, .inl rr)), (pA, .inr (2, [.ref pAd, .ref pAx, .ref pAy, .int pn])), (pAd, .inl (cI, 32, .inl pd)), (pAx, .inl (cI, 32, .inl px)), (pAy, .inl (cI, 32, .inl py))] H := hP.sub [0, 1, 2, 3, 4, 5] rfl
        have hD : va_D A [(rA, .inr (3, [.ref rAr, .int rs])), (rAr, .inl (cI, 32, .inl rr)), (pA, .inr (2, [.ref pAd, .ref pAx, .ref pAy, .int pn])), (pAd, .inl (cI, 32, .inl pd)), (pAx, .inl (cI, 32, .inl px)), (pAy, .inl (cI, 32, .inl py))] := hD.sub [0, 1, 2, 3, 4, 5] (by decide) rfl
        refine lv_lstore (lv' := [(7, .long r24), (0, .ref rA), (1, .ref pA), (2, .int v2), (3, .int v3), (4, .int v4), (5, .int v5), (6, .int v6)]) hx hb dX4_isTouching_27 hl (by decide) rfl (fun ls hl => ?_)
        refine lv_iload hx hb dX4_isTouching_29 (lv_at hl 6 rfl) ?_
        obtain ⟨hwA, hwB⟩ := hw
        refine lv_if_ne (tgt := 44) hx hb dX4_isTouching_31 (by decide) (fun cb => ?_) (fun cb => ?_)
        · have hw := hwA cb
          refine lv_lload hx hb dX4_isTouching_44 (lv_at hl 0 rfl) ?_
          refine lv_lconst (v := 0) hx hb dX4_isTouching_46 (by decide) ?_
          refine W.lcmp hx hb dX4_isTouching_47 ?_
          obtain ⟨hwA, hwB⟩ := hw
          refine lv_if_le (tgt := 53) hx hb dX4_isTouching_48 (by decide) (fun cb => ?_) (fun cb => ?_)
          · have hw := hwA ((cq_le _ _).mp cb)
            refine lv_iinc (v := (v6 + 1)) (lv' := [(6, .int (v6 + 1)), (7, .long r24), (0, .ref rA), (1, .ref pA), (2, .int v2), (3, .int v3), (4, .int v4), (5, .int v5)]) hx hb dX4_isTouching_53 hl (k := 7) rfl rfl (by decide) rfl (fun ls hl => ?_)
            refine lv_goto (tgt := 3) hx hb dX4_isTouching_56 (by decide) ?_
            exact ih3 (v6 + 1) hw _ _ _ hP hD hS (lv_sub hl [2, 3, 4, 5, 6, 7, 0] rfl)
          · have hw := hwB (fun h => cb ((cq_le _ _).mpr h))
            refine lv_iconst (v := 0) hx hb dX4_isTouching_51 (by decide) ?_
            exact ret _ _ _ _ 0 () rfl hw hP hD hS dX4_isTouching_52
        · have hw := hwB cb
          refine lv_lload hx hb dX4_isTouching_34 (lv_at hl 0 rfl) ?_
          refine lv_lconst (v := 0) hx hb dX4_isTouching_36 (by decide) ?_
          refine W.lcmp hx hb dX4_isTouching_37 ?_
          obtain ⟨hwA, hwB⟩ := hw
          refine lv_if_ge (tgt := 53) hx hb dX4_isTouching_38 (by decide) (fun cb => ?_) (fun cb => ?_)
          · have hw := hwA ((cq_ge _ _).mp cb)
            refine lv_iinc (v := (v6 + 1)) (lv' := [(6, .int (v6 + 1)), (7, .long r24), (0, .ref rA), (1, .ref pA), (2, .int v2), (3, .int v3), (4, .int v4), (5, .int v5)]) hx hb dX4_isTouching_53 hl (k := 7) rfl rfl (by decide) rfl (fun ls hl => ?_)
            refine lv_goto (tgt := 3) hx hb dX4_isTouching_56 (by decide) ?_
            exact ih3 (v6 + 1) hw _ _ _ hP hD hS (lv_sub hl [2, 3, 4, 5, 6, 7, 0] rfl)
          · have hw := hwB (fun h => cb ((cq_ge _ _).mpr h))
            refine lv_goto (tgt := 51) hx hb dX4_isTouching_41 (by decide) ?_
            refine lv_iconst (v := 0) hx hb dX4_isTouching_51 (by decide) ?_
            exact ret _ _ _ _ 0 () rfl hw hP hD hS dX4_isTouching_52
  unfold wp_X4_isTouching at hw
  refine lv_iconst (v := 0) hx hb dX4_isTouching_0 (by decide) ?_
  refine lv_istore (lv' := [(6, .int 0), (0, .ref rA), (1, .ref pA), (2, .int v2), (3, .int v3), (4, .int v4), (5, .int v5)]) hx hb dX4_isTouching_1 hl (by decide) rfl (fun ls hl => ?_)
  obtain ⟨k, hw⟩ := hw
  exact N3  k 0 hw _ _ _ hP hD hS (lv_sub hl [1, 2, 3, 4, 5, 6, 0] rfl)
theorem hd_X4_isNearer : yX4_isNearer.cls = RX4 ∧ yX4_isNearer.cls ≠ "java/lang/invoke/MethodHandle" ∧ yX4_isNearer.cls ≠ "java/lang/invoke/VarHandle" ∧ (parseMethodDescriptor yX4_isNearer.desc).map (fun d => d.parameters.length) = some 5 := by decide +kernel
set_option maxHeartbeats 8000000 in
set_option maxRecDepth 100000 in
theorem c_X4_isNearer (l : Launch) (D : va_G) (cI cJ cZ cO : ClassId) (pA pAd pAx pAy : Nat) (pd : Nat → Int32) (px : Nat → Int32) (py : Nat → Int32) (pn : Int32) (v1 : Int32) (v2 : Int32) (v3 : Int32) (v4 : Int32) (K : Int32 → Prop) (hw : wp_X4_isNearer px py v1 v2 v3 v4 K) : Ci l D (tys4 cI cJ cZ cO) yX4_isNearer wsX4_isNearer { frames := 1, cells := 0, slots := 0, locals := 27 } [.ref pA, .int v1, .int v2, .int v3, .int v4] [(pA, .inr (2, [.ref pAd, .ref pAx, .ref pAy, .int pn])), (pAd, .inl (cI, 32, .inl pd)), (pAx, .inl (cI, 32, .inl px)), (pAy, .inl (cI, 32, .inl py))] (fun (r : Int32) (_ : Unit) => K r) (fun _ => [(pA, .inr (2, [.ref pAd, .ref pAx, .ref pAy, .int pn])), (pAd, .inl (cI, 32, .inl pd)), (pAx, .inl (cI, 32, .inl px)), (pAy, .inl (cI, 32, .inl py))]) := by
  refine mt_i (cc := cX4_isNearer) (maxL := 5) (rt := .boolean) (by decide) rfl (Nat.le_of_ble_eq_true rfl) ?_
  intro p e s m args below meth c Q A R ls hRf hRl hx hb hml hown hts hK hA hP hD hS hl ret
  have hown : s.vm.findClass RX4 = some m.cls := hown
  have hl : lv_has ls 5 [(0, .ref pA), (1, .int v1), (2, .int v2), (3, .int v3), (4, .int v4)] := hl
  unfold wp_X4_isNearer at hw
  refine lv_aload_n hx hb dX4_isNearer_0 rfl (lv_at hl 0 rfl) ?_
  refine lv_iload_n hx hb dX4_isNearer_1 rfl (lv_at hl 1 rfl) ?_
  refine lv_iload_n hx hb dX4_isNearer_2 rfl (lv_at hl 3 rfl) ?_
  refine lv_iload hx hb dX4_isNearer_3 (lv_at hl 4 rfl) ?_
  refine cl_Vl (As := [.int v1, .int v3, .int v4]) (rest := []) ⟨hx, hb, hml, hown, hts⟩ (c_X3_squaredDistance l D cI cJ cZ cO pA pAd pAx pAy pd px py pn v1 v3 v4 _ hw) (cwV 3 hts gX4_isNearer_X3_squaredDistance rfl rfl rfl hd_X3_squaredDistance ⟨Nat.le_trans (Nat.le_of_ble_eq_true rfl) hRf, Nat.le_trans (Nat.le_of_ble_eq_true rfl) hRl⟩) hK hP hD hS hA [0, 1, 2, 3] [] rfl (by decide) rfl (by decide) (by decide) 0 2 rfl rfl rfl hl.1 rfl (Nat.le_of_ble_eq_true rfl) dX4_isNearer_5 ⟨Nat.zero_le _, Nat.zero_le _⟩ (fun r5 _u H locs hw hP hD hS => ?_)
  try dsimp only at hw
  have hP : va_P D vwCl [(pA, .inr (2, [.ref pAd, .ref pAx, .ref pAy, .int pn])), (pAd, .inl (cI, 32, .inl pd)), (pAx, .inl (cI, 32, .inl px)), (pAy, .inl (cI, 32, .inl py))] H := hP.sub [0, 1, 2, 3] rfl
  have hD : va_D A [(pA, .inr (2, [.ref pAd, .ref pAx, .ref pAy, .int pn])), (pAd, .inl (cI, 32, .inl pd)), (pAx, .inl (cI, 32, .inl px)), (pAy, .inl (cI, 32, .inl py))] := hD.sub [0, 1, 2, 3] (by decide) rfl
  refine lv_aload_n hx hb dX4_isNearer_8 rfl (lv_at hl 0 rfl) ?_
  refine lv_iload_n hx hb dX4_isNearer_9 rfl (lv_at hl 2 rfl) ?_
  refine lv_iload_n hx hb dX4_isNearer_10 rfl (lv_at hl 3 rfl) ?_
  refine lv_iload hx hb dX4_isNearer_11 (lv_at hl 4 rfl) ?_
  refine cl_Vl (As := [.int v2, .int v3, .int v4]) (rest := [.long r5]) ⟨hx, hb, hml, hown, hts⟩ (c_X3_squaredDistance l D cI cJ cZ cO pA pAd pAx pAy pd px py pn v2 v3 v4 _ hw) (cwV 3 hts gX4_isNearer_X3_squaredDistance rfl rfl rfl hd_X3_squaredDistance ⟨Nat.le_trans (Nat.le_of_ble_eq_true rfl) hRf, Nat.le_trans (Nat.le_of_ble_eq_true rfl) hRl⟩) hK hP hD hS hA [0, 1, 2, 3] [] rfl (by decide) rfl (by decide) (by decide) 0 2 rfl rfl rfl hl.1 rfl (Nat.le_of_ble_eq_true rfl) dX4_isNearer_13 ⟨Nat.zero_le _, Nat.zero_le _⟩ (fun r13 _u H locs hw hP hD hS => ?_)
  try dsimp only at hw
  have hP : va_P D vwCl [(pA, .inr (2, [.ref pAd, .ref pAx, .ref pAy, .int pn])), (pAd, .inl (cI, 32, .inl pd)), (pAx, .inl (cI, 32, .inl px)), (pAy, .inl (cI, 32, .inl py))] H := hP.sub [0, 1, 2, 3] rfl
  have hD : va_D A [(pA, .inr (2, [.ref pAd, .ref pAx, .ref pAy, .int pn])), (pAd, .inl (cI, 32, .inl pd)), (pAx, .inl (cI, 32, .inl px)), (pAy, .inl (cI, 32, .inl py))] := hD.sub [0, 1, 2, 3] (by decide) rfl
  refine W.lcmp hx hb dX4_isNearer_16 ?_
  obtain ⟨hwA, hwB⟩ := hw
  refine lv_if_ge (tgt := 24) hx hb dX4_isNearer_17 (by decide) (fun cb => ?_) (fun cb => ?_)
  · have hw := hwA ((cq_ge _ _).mp cb)
    refine lv_iconst (v := 0) hx hb dX4_isNearer_24 (by decide) ?_
    exact ret _ _ _ _ 0 () rfl hw hP hD hS dX4_isNearer_25
  · have hw := hwB (fun h => cb ((cq_ge _ _).mpr h))
    refine lv_iconst (v := 1) hx hb dX4_isNearer_20 (by decide) ?_
    refine lv_goto (tgt := 25) hx hb dX4_isNearer_21 (by decide) ?_
    exact ret _ _ _ _ 1 () rfl hw hP hD hS dX4_isNearer_25
theorem in_X4_nearestTouching_X4 : ∀ w ∈ wsX40, w ∈ wsX4_nearestTouching := fun _ h => List.mem_cons_of_mem _ (List.mem_append_left _ (List.mem_append_right _ h))
theorem hd_X4_nearestTouching : yX4_nearestTouching.cls = RX4 ∧ yX4_nearestTouching.cls ≠ "java/lang/invoke/MethodHandle" ∧ yX4_nearestTouching.cls ≠ "java/lang/invoke/VarHandle" ∧ (parseMethodDescriptor yX4_nearestTouching.desc).map (fun d => d.parameters.length) = some 4 := by decide +kernel
set_option maxHeartbeats 8000000 in
set_option maxRecDepth 100000 in
theorem c_X4_nearestTouching (l : Launch) (D : va_G) (cI cJ cZ cO : ClassId) (rA rAr pA pAd pAx pAy : Nat) (rr : Nat → Int32) (rs : Int32) (pd : Nat → Int32) (px : Nat → Int32) (py : Nat → Int32) (pn : Int32) (v2 : Int32) (v3 : Int32) (v4 : Int32) (K : Int32 → Prop) (hw : wp_X4_nearestTouching rr rs px py v2 v3 v4 K) : Ci l D (tys4 cI cJ cZ cO) yX4_nearestTouching wsX4_nearestTouching { frames := 2, cells := 0, slots := 0, locals := 60 } [.ref rA, .ref pA, .int v2, .int v3, .int v4] [(rA, .inr (3, [.ref rAr, .int rs])), (rAr, .inl (cI, 32, .inl rr)), (pA, .inr (2, [.ref pAd, .ref pAx, .ref pAy, .int pn])), (pAd, .inl (cI, 32, .inl pd)), (pAx, .inl (cI, 32, .inl px)), (pAy, .inl (cI, 32, .inl py))] (fun (r : Int32) (_ : Unit) => K r) (fun _ => [(rA, .inr (3, [.ref rAr, .int rs])), (rAr, .inl (cI, 32, .inl rr)), (pA, .inr (2, [.ref pAd, .ref pAx, .ref pAy, .int pn])), (pAd, .inl (cI, 32, .inl pd)), (pAx, .inl (cI, 32, .inl px)), (pAy, .inl (cI, 32, .inl py))]) := by
  refine mt_i (cc := cX4_nearestTouching) (maxL := 8) (rt := .int) (by decide) rfl (Nat.le_of_ble_eq_true rfl) ?_
  intro p e s m args below meth c Q A R ls hRf hRl hx hb hml hown hts hK hA hP hD hS hl ret
  have hown : s.vm.findClass RX4 = some m.cls := hown
  have hl : lv_has ls 8 [(0, .ref rA), (1, .ref pA), (2, .int v2), (3, .int v3), (4, .int v4)] := hl
  have N7 : ∀  (k : Nat) (v5 : Int32) (v6 : Int32), wp_X4_nearestTouching_7 rr rs px py v2 v3 v4 K   k v5 v6 → ∀ (H : Heap) (locs : List Loc) (ls : Array Slot), va_P D vwCl [(rA, .inr (3, [.ref rAr, .int rs])), (rAr, .inl (cI, 32, .inl rr)), (pA, .inr (2, [.ref pAd, .ref pAx, .ref pAy, .int pn])), (pAd, .inl (cI, 32, .inl pd)), (pAx, .inl (cI, 32, .inl px)), (pAy, .inl (cI, 32, .inl py))] H → va_D A [(rA, .inr (3, [.ref rAr, .int rs])), (rAr, .inl (cI, 32, .inl rr)), (pA, .inr (2, [.ref pAd, .ref pAx, .ref pAy, .int pn])), (pAd, .inl (cI, 32, .inl pd)), (pAx, .inl (cI, 32, .inl px)), (pAy, .inl (cI, 32, .inl py))] → va_S A s.heap H locs → lv_has ls 8 [(0, .ref rA), (1, .ref pA), (2, .int v2), (3, .int v3), (4, .int v4), (5, .int v5), (6, .int v6)] → W p l e R s m args below meth c H locs 0 0 Q (F0 m 7 ls []) := by
    intro k
    induction k with
    | zero => intro v5 v6 hw; exact False.elim hw
    | succ k ih7 =>
      intro v5 v6 hw H locs ls hP hD hS hl
      have hw : wp_X4_nearestTouching_7b rr rs px py v2 v3 v4 K (wp_X4_nearestTouching_7 rr rs px py v2 v3 v4 K   k)   v5 v6 := hw
      unfold wp_X4_nearestTouching_7b at hw
      generalize wp_X4_nearestTouching_7 rr rs px py v2 v3 v4 K   k = L7 at hw ih7
      refine lv_iload hx hb dX4_nearestTouching_7 (lv_at hl 6 rfl) ?_
      refine lv_aload_n hx hb dX4_nearestTouching_9 rfl (lv_at hl 0 rfl) ?_
      refine va_get (D := D) (ci := 3) (v := .int rs) (C := RX4) (T := TX4) (N := 2) hx hb hts in_X4_nearestTouching_X4 hown hK hP 0 rfl rfl 1 (by decide) (hts (.fieldLink RX4 9 "LiveHull$Ring" "size" "I") (List.mem_of_getElem? (i := 1) rfl)) (fun x9 h9 => u_same (hts (.sameField "LiveHull$Ring" "LiveHull$Corners" "size" "I") (List.mem_of_getElem? (i := 2) rfl)) x9 h9) rfl dX4_nearestTouching_10 ?_
      obtain ⟨hwA, hwB⟩ := hw
      refine lv_icmp_ge (tgt := 69) hx hb dX4_nearestTouching_13 (by decide) (fun cb => ?_) (fun cb => ?_)
      · have hw := hwA cb
        refine lv_iload hx hb dX4_nearestTouching_69 (lv_at hl 5 rfl) ?_
        exact ret _ _ _ _ v5 () (vp_nar_int _) hw hP hD hS dX4_nearestTouching_71
      · have hw := hwB cb
        refine lv_aload_n hx hb dX4_nearestTouching_16 rfl (lv_at hl 0 rfl) ?_
        refine va_get (D := D) (ci := 3) (v := .ref rAr) (C := RX4) (T := TX4) (N := 2) hx hb hts in_X4_nearestTouching_X4 hown hK hP 0 rfl rfl 0 (by decide) (hts (.fieldLink RX4 33 "LiveHull$Ring" "ranks" "[I") (List.mem_of_getElem? (i := 3) rfl)) (fun x9 h9 => u_same (hts (.sameField "LiveHull$Ring" "LiveHull$Corners" "ranks" "[I") (List.mem_of_getElem? (i := 4) rfl)) x9 h9) rfl dX4_nearestTouching_17 ?_
        refine lv_iload hx hb dX4_nearestTouching_20 (lv_at hl 6 rfl) ?_
        obtain ⟨hi, hw⟩ := hw
        refine va_iald hx hb hK hP 1 0 rfl rfl hi dX4_nearestTouching_22 ?_
        refine lv_istore (lv' := [(7, .int (rr v6.toNatClampNeg)), (0, .ref rA), (1, .ref pA), (2, .int v2), (3, .int v3), (4, .int v4), (5, .int v5), (6, .int v6)]) hx hb dX4_nearestTouching_23 hl (by decide) rfl (fun ls hl => ?_)
        refine lv_aload_n hx hb dX4_nearestTouching_25 rfl (lv_at hl 1 rfl) ?_
        refine lv_aload_n hx hb dX4_nearestTouching_26 rfl (lv_at hl 2 rfl) ?_
        refine lv_iload hx hb dX4_nearestTouching_27 (lv_at hl 0 rfl) ?_
        refine lv_iload_n hx hb dX4_nearestTouching_29 rfl (lv_at hl 3 rfl) ?_
        refine lv_iload_n hx hb dX4_nearestTouching_30 rfl (lv_at hl 4 rfl) ?_
        refine lv_iload hx hb dX4_nearestTouching_31 (lv_at hl 5 rfl) ?_
        refine cl_Vi (As := [.ref pA, .int (rr v6.toNatClampNeg), .int v2, .int v3, .int v4]) (rest := []) ⟨hx, hb, hml, hown, hts⟩ (c_X4_isTouching l D cI cJ cZ cO rA rAr pA pAd pAx pAy rr rs pd px py pn (rr v6.toNatClampNeg) v2 v3 v4 _ hw) (cwV 5 hts gX4_nearestTouching_X4_isTouching rfl rfl rfl hd_X4_isTouching ⟨Nat.le_trans (Nat.le_of_ble_eq_true rfl) hRf, Nat.le_trans (Nat.le_of_ble_eq_true rfl) hRl⟩) hK hP hD hS hA [0, 1, 2, 3, 4, 5] [] rfl (by decide) rfl (by decide) (by decide) 0 3 rfl rfl rfl hl.1 rfl (Nat.le_of_ble_eq_true rfl) dX4_nearestTouching_33 ⟨Nat.zero_le _, Nat.zero_le _⟩ (fun r33 _u H locs hw hP hD hS => ?_)
        try dsimp only at hw
        have hP : va_P D vwCl [(rA, .inr (3, [.ref rAr, .int rs])), (rAr, .inl (cI, 32, .inl rr)), (pA, .inr (2, [.ref pAd, .ref pAx, .ref pAy, .int pn])), (pAd, .inl (cI, 32, .inl pd)), (pAx, .inl (cI, 32, .inl px)), (pAy, .inl (cI, 32, .inl py))] H := hP.sub [0, 1, 2, 3, 4, 5] rfl
        have hD : va_D A [(rA, .inr (3, [.ref rAr, .int rs])), (rAr, .inl (cI, 32, .inl rr)), (pA, .inr (2, [.ref pAd, .ref pAx, .ref pAy, .int pn])), (pAd, .inl (cI, 32, .inl pd)), (pAx, .inl (cI, 32, .inl px)), (pAy, .inl (cI, 32, .inl py))] := hD.sub [0, 1, 2, 3, 4, 5] (by decide) rfl
        obtain ⟨hwA, hwB⟩ := hw
        refine lv_if_eq (tgt := 63) hx hb dX4_nearestTouching_36 (by decide) (fun cb => ?_) (fun cb => ?_)
        · have hw := hwA cb
          refine lv_iinc (v := (v6 + 1)) (lv' := [(6, .int (v6 + 1)), (7, .int (rr v6.toNatClampNeg)), (0, .ref rA), (1, .ref pA), (2, .int v2), (3, .int v3), (4, .int v4), (5, .int v5)]) hx hb dX4_nearestTouching_63 hl (k := 7) rfl rfl (by decide) rfl (fun ls hl => ?_)
          refine lv_goto (tgt := 7) hx hb dX4_nearestTouching_66 (by decide) ?_
          exact ih7 v5 (v6 + 1) hw _ _ _ hP hD hS (lv_sub hl [2, 3, 4, 5, 6, 7, 0] rfl)
        · have hw := hwB cb
          refine lv_iload hx hb dX4_nearestTouching_39 (lv_at hl 6 rfl) ?_
          refine lv_bipush (v := (-6)) hx hb dX4_nearestTouching_41 (by decide) ?_
          obtain ⟨hwA, hwB⟩ := hw
          refine lv_icmp_eq (tgt := 59) hx hb dX4_nearestTouching_43 (by decide) (fun cb => ?_) (fun cb => ?_)
          · have hw := hwA cb
            refine lv_iload hx hb dX4_nearestTouching_59 (lv_at hl 0 rfl) ?_
            refine lv_istore (lv' := [(5, .int (rr v6.toNatClampNeg)), (7, .int (rr v6.toNatClampNeg)), (0, .ref rA), (1, .ref pA), (2, .int v2), (3, .int v3), (4, .int v4), (6, .int v6)]) hx hb dX4_nearestTouching_61 hl (by decide) rfl (fun ls hl => ?_)
            refine lv_iinc (v := (v6 + 1)) (lv' := [(6, .int (v6 + 1)), (5, .int (rr v6.toNatClampNeg)), (7, .int (rr v6.toNatClampNeg)), (0, .ref rA), (1, .ref pA), (2, .int v2), (3, .int v3), (4, .int v4)]) hx hb dX4_nearestTouching_63 hl (k := 7) rfl rfl (by decide) rfl (fun ls hl => ?_)
            refine lv_goto (tgt := 7) hx hb dX4_nearestTouching_66 (by decide) ?_
            exact ih7 (rr v6.toNatClampNeg) (v6 + 1) hw _ _ _ hP hD hS (lv_sub hl [3, 4, 5, 6, 7, 1, 0] rfl)
          · have hw := hwB cb
            refine lv_aload_n hx hb dX4_nearestTouching_46 rfl (lv_at hl 2 rfl) ?_
            refine lv_iload hx hb dX4_nearestTouching_47 (lv_at hl 0 rfl) ?_
            refine lv_iload hx hb dX4_nearestTouching_49 (lv_at hl 6 rfl) ?_
            refine lv_iload_n hx hb dX4_nearestTouching_51 rfl (lv_at hl 3 rfl) ?_
            refine lv_iload_n hx hb dX4_nearestTouching_52 rfl (lv_at hl 4 rfl) ?_
            refine cl_Si (As := [.ref pA, .int (rr v6.toNatClampNeg), .int v5, .int v2, .int v3]) (rest := []) ⟨hx, hb, hml, hown, hts⟩ (c_X4_isNearer l D cI cJ cZ cO pA pAd pAx pAy pd px py pn (rr v6.toNatClampNeg) v5 v2 v3 _ hw) (va_cwS 5 hts gX4_nearestTouching_X4_isNearer rfl rfl rfl hd_X4_isNearer.2 ⟨Nat.le_trans (Nat.le_of_ble_eq_true rfl) hRf, Nat.le_trans (Nat.le_of_ble_eq_true rfl) hRl⟩) hK hP hD hS hA [2, 3, 4, 5] [0, 1] rfl (by decide) rfl (by decide) (by decide) rfl hl.1 rfl (Nat.le_of_ble_eq_true rfl) dX4_nearestTouching_53 ⟨Nat.zero_le _, Nat.zero_le _⟩ (fun r53 _u H locs hw hP hD hS => ?_)
            try dsimp only at hw
            have hP : va_P D vwCl [(rA, .inr (3, [.ref rAr, .int rs])), (rAr, .inl (cI, 32, .inl rr)), (pA, .inr (2, [.ref pAd, .ref pAx, .ref pAy, .int pn])), (pAd, .inl (cI, 32, .inl pd)), (pAx, .inl (cI, 32, .inl px)), (pAy, .inl (cI, 32, .inl py))] H := hP.sub [0, 1, 2, 3, 4, 5] rfl
            have hD : va_D A [(rA, .inr (3, [.ref rAr, .int rs])), (rAr, .inl (cI, 32, .inl rr)), (pA, .inr (2, [.ref pAd, .ref pAx, .ref pAy, .int pn])), (pAd, .inl (cI, 32, .inl pd)), (pAx, .inl (cI, 32, .inl px)), (pAy, .inl (cI, 32, .inl py))] := hD.sub [0, 1, 2, 3, 4, 5] (by decide) rfl
            obtain ⟨hwA, hwB⟩ := hw
            refine lv_if_eq (tgt := 63) hx hb dX4_nearestTouching_56 (by decide) (fun cb => ?_) (fun cb => ?_)
            · have hw := hwA cb
              refine lv_iinc (v := (v6 + 1)) (lv' := [(6, .int (v6 + 1)), (7, .int (rr v6.toNatClampNeg)), (0, .ref rA), (1, .ref pA), (2, .int v2), (3, .int v3), (4, .int v4), (5, .int v5)]) hx hb dX4_nearestTouching_63 hl (k := 7) rfl rfl (by decide) rfl (fun ls hl => ?_)
              refine lv_goto (tgt := 7) hx hb dX4_nearestTouching_66 (by decide) ?_
              exact ih7 v5 (v6 + 1) hw _ _ _ hP hD hS (lv_sub hl [2, 3, 4, 5, 6, 7, 0] rfl)
            · have hw := hwB cb
              refine lv_iload hx hb dX4_nearestTouching_59 (lv_at hl 0 rfl) ?_
              refine lv_istore (lv' := [(5, .int (rr v6.toNatClampNeg)), (7, .int (rr v6.toNatClampNeg)), (0, .ref rA), (1, .ref pA), (2, .int v2), (3, .int v3), (4, .int v4), (6, .int v6)]) hx hb dX4_nearestTouching_61 hl (by decide) rfl (fun ls hl => ?_)
              refine lv_iinc (v := (v6 + 1)) (lv' := [(6, .int (v6 + 1)), (5, .int (rr v6.toNatClampNeg)), (7, .int (rr v6.toNatClampNeg)), (0, .ref rA), (1, .ref pA), (2, .int v2), (3, .int v3), (4, .int v4)]) hx hb dX4_nearestTouching_63 hl (k := 7) rfl rfl (by decide) rfl (fun ls hl => ?_)
              refine lv_goto (tgt := 7) hx hb dX4_nearestTouching_66 (by decide) ?_
              exact ih7 (rr v6.toNatClampNeg) (v6 + 1) hw _ _ _ hP hD hS (lv_sub hl [3, 4, 5, 6, 7, 1, 0] rfl)
  unfold wp_X4_nearestTouching at hw
  refine lv_bipush (v := (-6)) hx hb dX4_nearestTouching_0 (by decide) ?_
  refine lv_istore (lv' := [(5, .int (-6)), (0, .ref rA), (1, .ref pA), (2, .int v2), (3, .int v3), (4, .int v4)]) hx hb dX4_nearestTouching_2 hl (by decide) rfl (fun ls hl => ?_)
  refine lv_iconst (v := 0) hx hb dX4_nearestTouching_4 (by decide) ?_
  refine lv_istore (lv' := [(6, .int 0), (5, .int (-6)), (0, .ref rA), (1, .ref pA), (2, .int v2), (3, .int v3), (4, .int v4)]) hx hb dX4_nearestTouching_5 hl (by decide) rfl (fun ls hl => ?_)
  obtain ⟨k, hw⟩ := hw
  exact N7  k (-6) 0 hw _ _ _ hP hD hS (lv_sub hl [2, 3, 4, 5, 6, 1, 0] rfl)
theorem in_X4_doubleArea_X3 : ∀ w ∈ wsX30, w ∈ wsX4_doubleArea := fun _ h => List.mem_cons_of_mem _ (List.mem_append_right _ h)
theorem in_X4_doubleArea_X4 : ∀ w ∈ wsX40, w ∈ wsX4_doubleArea := fun _ h => List.mem_cons_of_mem _ (List.mem_append_left _ (List.mem_append_right _ h))
theorem hd_X4_doubleArea : yX4_doubleArea.cls = RX4 ∧ yX4_doubleArea.cls ≠ "java/lang/invoke/MethodHandle" ∧ yX4_doubleArea.cls ≠ "java/lang/invoke/VarHandle" ∧ (parseMethodDescriptor yX4_doubleArea.desc).map (fun d => d.parameters.length) = some 1 := by decide +kernel
set_option maxHeartbeats 8000000 in
set_option maxRecDepth 100000 in
theorem c_X4_doubleArea (l : Launch) (D : va_G) (cI cJ cZ cO : ClassId) (rA rAr pA pAd pAx pAy : Nat) (rr : Nat → Int32) (rs : Int32) (pd : Nat → Int32) (px : Nat → Int32) (py : Nat → Int32) (pn : Int32)  (K : Int64 → Prop) (hw : wp_X4_doubleArea rr rs px py K) : Cl l D (tys4 cI cJ cZ cO) yX4_doubleArea wsX4_doubleArea { frames := 1, cells := 0, slots := 0, locals := 32 } [.ref rA, .ref pA] [(rA, .inr (3, [.ref rAr, .int rs])), (rAr, .inl (cI, 32, .inl rr)), (pA, .inr (2, [.ref pAd, .ref pAx, .ref pAy, .int pn])), (pAd, .inl (cI, 32, .inl pd)), (pAx, .inl (cI, 32, .inl px)), (pAy, .inl (cI, 32, .inl py))] (fun (r : Int64) (_ : Unit) => K r) (fun _ => [(rA, .inr (3, [.ref rAr, .int rs])), (rAr, .inl (cI, 32, .inl rr)), (pA, .inr (2, [.ref pAd, .ref pAx, .ref pAy, .int pn])), (pAd, .inl (cI, 32, .inl pd)), (pAx, .inl (cI, 32, .inl px)), (pAy, .inl (cI, 32, .inl py))]) := by
  refine mt_l (cc := cX4_doubleArea) (maxL := 6) (by decide) rfl (Nat.le_of_ble_eq_true rfl) ?_
  intro p e s m args below meth c Q A R ls hRf hRl hx hb hml hown hts hK hA hP hD hS hl ret
  have hown : s.vm.findClass RX4 = some m.cls := hown
  have hl : lv_has ls 6 [(0, .ref rA), (1, .ref pA)] := hl
  have N5 : ∀  (k : Nat) (v2 : Int64) (v4 : Int32), wp_X4_doubleArea_5 rr rs px py K   k v2 v4 → ∀ (H : Heap) (locs : List Loc) (ls : Array Slot), va_P D vwCl [(rA, .inr (3, [.ref rAr, .int rs])), (rAr, .inl (cI, 32, .inl rr)), (pA, .inr (2, [.ref pAd, .ref pAx, .ref pAy, .int pn])), (pAd, .inl (cI, 32, .inl pd)), (pAx, .inl (cI, 32, .inl px)), (pAy, .inl (cI, 32, .inl py))] H → va_D A [(rA, .inr (3, [.ref rAr, .int rs])), (rAr, .inl (cI, 32, .inl rr)), (pA, .inr (2, [.ref pAd, .ref pAx, .ref pAy, .int pn])), (pAd, .inl (cI, 32, .inl pd)), (pAx, .inl (cI, 32, .inl px)), (pAy, .inl (cI, 32, .inl py))] → va_S A s.heap H locs → lv_has ls 6 [(0, .ref rA), (1, .ref pA), (2, .long v2), (4, .int v4)] → W p l e R s m args below meth c H locs 0 0 Q (F0 m 5 ls []) := by
    intro k
    induction k with
    | zero => intro v2 v4 hw; exact False.elim hw
    | succ k ih5 =>
      intro v2 v4 hw H locs ls hP hD hS hl
      have hw : wp_X4_doubleArea_5b rr rs px py K (wp_X4_doubleArea_5 rr rs px py K   k)   v2 v4 := hw
      unfold wp_X4_doubleArea_5b at hw
      generalize wp_X4_doubleArea_5 rr rs px py K   k = L5 at hw ih5
      refine lv_iload hx hb dX4_doubleArea_5 (lv_at hl 3 rfl) ?_
      refine lv_iconst (v := 1) hx hb dX4_doubleArea_7 (by decide) ?_
      refine lv_iadd hx hb dX4_doubleArea_8 ?_
      refine lv_aload_n hx hb dX4_doubleArea_9 rfl (lv_at hl 0 rfl) ?_
      refine va_get (D := D) (ci := 3) (v := .int rs) (C := RX4) (T := TX4) (N := 2) hx hb hts in_X4_doubleArea_X4 hown hK hP 0 rfl rfl 1 (by decide) (hts (.fieldLink RX4 9 "LiveHull$Ring" "size" "I") (List.mem_of_getElem? (i := 1) rfl)) (fun x9 h9 => u_same (hts (.sameField "LiveHull$Ring" "LiveHull$Corners" "size" "I") (List.mem_of_getElem? (i := 2) rfl)) x9 h9) rfl dX4_doubleArea_10 ?_
      obtain ⟨hwA, hwB⟩ := hw
      refine lv_icmp_ge (tgt := 67) hx hb dX4_doubleArea_13 (by decide) (fun cb => ?_) (fun cb => ?_)
      · have hw := hwA cb
        refine lv_lload_n hx hb dX4_doubleArea_67 rfl (lv_at hl 2 rfl) ?_
        exact ret _ _ _ _ v2 () hw hP hD hS dX4_doubleArea_68
      · have hw := hwB cb
        refine lv_aload_n hx hb dX4_doubleArea_16 rfl (lv_at hl 0 rfl) ?_
        refine va_get (D := D) (ci := 3) (v := .ref rAr) (C := RX4) (T := TX4) (N := 2) hx hb hts in_X4_doubleArea_X4 hown hK hP 0 rfl rfl 0 (by decide) (hts (.fieldLink RX4 33 "LiveHull$Ring" "ranks" "[I") (List.mem_of_getElem? (i := 3) rfl)) (fun x9 h9 => u_same (hts (.sameField "LiveHull$Ring" "LiveHull$Corners" "ranks" "[I") (List.mem_of_getElem? (i := 4) rfl)) x9 h9) rfl dX4_doubleArea_17 ?_
        refine lv_iload hx hb dX4_doubleArea_20 (lv_at hl 3 rfl) ?_
        refine lv_iconst (v := 1) hx hb dX4_doubleArea_22 (by decide) ?_
        refine lv_iadd hx hb dX4_doubleArea_23 ?_
        obtain ⟨hi, hw⟩ := hw
        refine va_iald hx hb hK hP 1 0 rfl rfl hi dX4_doubleArea_24 ?_
        refine lv_istore (lv' := [(5, .int (rr (v4 + 1).toNatClampNeg)), (0, .ref rA), (1, .ref pA), (2, .long v2), (4, .int v4)]) hx hb dX4_doubleArea_25 hl (by decide) rfl (fun ls hl => ?_)
        refine lv_lload_n hx hb dX4_doubleArea_27 rfl (lv_at hl 3 rfl) ?_
        refine lv_aload_n hx hb dX4_doubleArea_28 rfl (lv_at hl 2 rfl) ?_
        refine lv_aload_n hx hb dX4_doubleArea_29 rfl (lv_at hl 1 rfl) ?_
        refine va_get (D := D) (ci := 3) (v := .ref rAr) (C := RX4) (T := TX4) (N := 2) hx hb hts in_X4_doubleArea_X4 hown hK hP 0 rfl rfl 0 (by decide) (hts (.fieldLink RX4 33 "LiveHull$Ring" "ranks" "[I") (List.mem_of_getElem? (i := 3) rfl)) (fun x9 h9 => u_same (hts (.sameField "LiveHull$Ring" "LiveHull$Corners" "ranks" "[I") (List.mem_of_getElem? (i := 4) rfl)) x9 h9) rfl dX4_doubleArea_30 ?_
        refine lv_iconst (v := 0) hx hb dX4_doubleArea_33 (by decide) ?_
        obtain ⟨hi, hw⟩ := hw
        refine va_iald hx hb hK hP 1 0 rfl rfl hi dX4_doubleArea_34 ?_
        refine lv_aload_n hx hb dX4_doubleArea_35 rfl (lv_at hl 1 rfl) ?_
        refine va_get (D := D) (ci := 3) (v := .ref rAr) (C := RX4) (T := TX4) (N := 2) hx hb hts in_X4_doubleArea_X4 hown hK hP 0 rfl rfl 0 (by decide) (hts (.fieldLink RX4 33 "LiveHull$Ring" "ranks" "[I") (List.mem_of_getElem? (i := 3) rfl)) (fun x9 h9 => u_same (hts (.sameField "LiveHull$Ring" "LiveHull$Corners" "ranks" "[I") (List.mem_of_getElem? (i := 4) rfl)) x9 h9) rfl dX4_doubleArea_36 ?_
        refine lv_iload hx hb dX4_doubleArea_39 (lv_at hl 4 rfl) ?_
        obtain ⟨hi, hw⟩ := hw
        refine va_iald hx hb hK hP 1 0 rfl rfl hi dX4_doubleArea_41 ?_
        refine lv_aload_n hx hb dX4_doubleArea_42 rfl (lv_at hl 2 rfl) ?_
        refine va_get (D := D) (ci := 2) (v := .ref pAx) (C := RX3) (T := TX3) (N := 4) hx hb hts in_X4_doubleArea_X3 hown hK hP 2 rfl rfl 1 (by decide) (hts (.fieldLink RX4 69 "LiveHull$Points" "xs" "[I") (List.mem_of_getElem? (i := 5) rfl)) (fun _ h9 => h9) rfl dX4_doubleArea_43 ?_
        refine lv_iload hx hb dX4_doubleArea_46 (lv_at hl 0 rfl) ?_
        obtain ⟨hi, hw⟩ := hw
        refine va_iald hx hb hK hP 4 0 rfl rfl hi dX4_doubleArea_48 ?_
        refine lv_aload_n hx hb dX4_doubleArea_49 rfl (lv_at hl 2 rfl) ?_
        refine va_get (D := D) (ci := 2) (v := .ref pAy) (C := RX3) (T := TX3) (N := 4) hx hb hts in_X4_doubleArea_X3 hown hK hP 2 rfl rfl 2 (by decide) (hts (.fieldLink RX4 72 "LiveHull$Points" "ys" "[I") (List.mem_of_getElem? (i := 6) rfl)) (fun _ h9 => h9) rfl dX4_doubleArea_50 ?_
        refine lv_iload hx hb dX4_doubleArea_53 (lv_at hl 0 rfl) ?_
        obtain ⟨hi, hw⟩ := hw
        refine va_iald hx hb hK hP 5 0 rfl rfl hi dX4_doubleArea_55 ?_
        refine cl_Vl (As := [.int (rr (0 : Int32).toNatClampNeg), .int (rr v4.toNatClampNeg), .int (px (rr (v4 + 1).toNatClampNeg).toNatClampNeg), .int (py (rr (v4 + 1).toNatClampNeg).toNatClampNeg)]) (rest := [.long v2]) ⟨hx, hb, hml, hown, hts⟩ (c_X3_turn l D cI cJ cZ cO pA pAd pAx pAy pd px py pn (rr (0 : Int32).toNatClampNeg) (rr v4.toNatClampNeg) (px (rr (v4 + 1).toNatClampNeg).toNatClampNeg) (py (rr (v4 + 1).toNatClampNeg).toNatClampNeg) _ hw) (cwV 4 hts gX4_doubleArea_X3_turn rfl rfl rfl hd_X3_turn ⟨Nat.le_trans (Nat.le_of_ble_eq_true rfl) hRf, Nat.le_trans (Nat.le_of_ble_eq_true rfl) hRl⟩) hK hP hD hS hA [2, 3, 4, 5] [0, 1] rfl (by decide) rfl (by decide) (by decide) 2 2 rfl rfl rfl hl.1 rfl (Nat.le_of_ble_eq_true rfl) dX4_doubleArea_56 ⟨Nat.zero_le _, Nat.zero_le _⟩ (fun r56 _u H locs hw hP hD hS => ?_)
        try dsimp only at hw
        have hP : va_P D vwCl [(rA, .inr (3, [.ref rAr, .int rs])), (rAr, .inl (cI, 32, .inl rr)), (pA, .inr (2, [.ref pAd, .ref pAx, .ref pAy, .int pn])), (pAd, .inl (cI, 32, .inl pd)), (pAx, .inl (cI, 32, .inl px)), (pAy, .inl (cI, 32, .inl py))] H := hP.sub [0, 1, 2, 3, 4, 5] rfl
        have hD : va_D A [(rA, .inr (3, [.ref rAr, .int rs])), (rAr, .inl (cI, 32, .inl rr)), (pA, .inr (2, [.ref pAd, .ref pAx, .ref pAy, .int pn])), (pAd, .inl (cI, 32, .inl pd)), (pAx, .inl (cI, 32, .inl px)), (pAy, .inl (cI, 32, .inl py))] := hD.sub [0, 1, 2, 3, 4, 5] (by decide) rfl
        refine lv_ladd hx hb dX4_doubleArea_59 ?_
        refine lv_lstore_n (lv' := [(2, .long (v2 + r56)), (5, .int (rr (v4 + 1).toNatClampNeg)), (0, .ref rA), (1, .ref pA), (4, .int v4)]) hx hb dX4_doubleArea_60 rfl hl (by decide) rfl (fun ls hl => ?_)
        refine lv_iinc (v := (v4 + 1)) (lv' := [(4, .int (v4 + 1)), (2, .long (v2 + r56)), (5, .int (rr (v4 + 1).toNatClampNeg)), (0, .ref rA), (1, .ref pA)]) hx hb dX4_doubleArea_61 hl (k := 4) rfl rfl (by decide) rfl (fun ls hl => ?_)
        refine lv_goto (tgt := 5) hx hb dX4_doubleArea_64 (by decide) ?_
        exact ih5 (v2 + r56) (v4 + 1) hw _ _ _ hP hD hS (lv_sub hl [3, 4, 1, 0] rfl)
  unfold wp_X4_doubleArea at hw
  refine lv_lconst (v := 0) hx hb dX4_doubleArea_0 (by decide) ?_
  refine lv_lstore_n (lv' := [(2, .long 0), (0, .ref rA), (1, .ref pA)]) hx hb dX4_doubleArea_1 rfl hl (by decide) rfl (fun ls hl => ?_)
  refine lv_iconst (v := 1) hx hb dX4_doubleArea_2 (by decide) ?_
  refine lv_istore (lv' := [(4, .int 1), (2, .long 0), (0, .ref rA), (1, .ref pA)]) hx hb dX4_doubleArea_3 hl (by decide) rfl (fun ls hl => ?_)
  obtain ⟨k, hw⟩ := hw
  exact N5  k 0 1 hw _ _ _ hP hD hS (lv_sub hl [2, 3, 1, 0] rfl)
