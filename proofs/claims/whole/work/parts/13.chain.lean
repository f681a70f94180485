/-- X0_isOverLast -/
def wp_X0_isOverLast (tr : Nat → Int32) (ts : Int32) (px : Nat → Int32) (v2 : Int32) (K : Int32 → Prop) : Prop := ((ts ≤ 0 → (K 0)) ∧ (¬ ts ≤ 0 → (vp_in (ts - 1) 32 ∧ (vp_in (tr (ts - 1).toNatClampNeg) 32 ∧ (vp_in v2 32 ∧ ((¬ (px (tr (ts - 1).toNatClampNeg).toNatClampNeg) = (px v2.toNatClampNeg) → (K 0)) ∧ ((px (tr (ts - 1).toNatClampNeg).toNatClampNeg) = (px v2.toNatClampNeg) → (K 1))))))))
/-- X0_lastStays -/
def wp_X0_lastStays (tr : Nat → Int32) (ts : Int32) (px : Nat → Int32) (py : Nat → Int32) (v2 : Int32) (v3 : Int32) (K : Int32 → Prop) : Prop := (wp_X0_isOverLast tr ts px v2 (fun r3 => ((r3 = 0 → (((2 : Int32) ≤ ts → (vp_in v2 32 ∧ (vp_in v2 32 ∧ (vp_in (ts - 2) 32 ∧ (vp_in (ts - 1) 32 ∧ (wp_X3_turn px py (tr (ts - 2).toNatClampNeg) (tr (ts - 1).toNatClampNeg) (px v2.toNatClampNeg) (py v2.toNatClampNeg) (fun r64 => ((¬ v3 = 0 → ((r64 ≤ (0 : Int64) → (K 0)) ∧ (¬ r64 ≤ (0 : Int64) → (K 1)))) ∧ (v3 = 0 → (((0 : Int64) ≤ r64 → (K 0)) ∧ (¬ (0 : Int64) ≤ r64 → (K 1)))))))))))) ∧ (¬ (2 : Int32) ≤ ts → (K 1)))) ∧ (¬ r3 = 0 → (K 0)))))
/-- X0_trace -/
def wp_X0_trace_67 (px : Nat → Int32) (py : Nat → Int32) (v2 : Int32) (v3 : Int32) (v4 : Int32) (K : (Nat → Int32) → Int32 → Prop) (L8 : (Nat → Int32) → Int32 → Int32 → Prop)  (tr : Nat → Int32) (ts : Int32) (v5 : Int32) : Prop := (wp_X1_append tr ts v5 (fun tr_70 ts_70 => (L8 tr_70 ts_70 (v5 + 1))))
def wp_X0_trace_35b (px : Nat → Int32) (py : Nat → Int32) (v2 : Int32) (v3 : Int32) (v4 : Int32) (K : (Nat → Int32) → Int32 → Prop) (L8 : (Nat → Int32) → Int32 → Int32 → Prop) (L35 : Int32 → Prop)  (tr : Nat → Int32) (v5 : Int32) (ts : Int32) : Prop := ((ts ≤ 0 → (wp_X0_trace_67 px py v2 v3 v4 K L8  tr ts v5)) ∧ (¬ ts ≤ 0 → (wp_X0_lastStays tr ts px py v5 v4 (fun r48 => ((¬ r48 = 0 → (wp_X0_trace_67 px py v2 v3 v4 K L8  tr ts v5)) ∧ (r48 = 0 → (L35 (ts - 1))))))))
def wp_X0_trace_35 (px : Nat → Int32) (py : Nat → Int32) (v2 : Int32) (v3 : Int32) (v4 : Int32) (K : (Nat → Int32) → Int32 → Prop) (L8 : (Nat → Int32) → Int32 → Int32 → Prop)  (tr : Nat → Int32) (v5 : Int32) : Nat → Int32 → Prop
  | 0 => fun _ => False
  | k + 1 => fun ts => wp_X0_trace_35b px py v2 v3 v4 K L8 (wp_X0_trace_35 px py v2 v3 v4 K L8  tr v5 k)  tr v5 ts
def wp_X0_trace_8b (px : Nat → Int32) (py : Nat → Int32) (v2 : Int32) (v3 : Int32) (v4 : Int32) (K : (Nat → Int32) → Int32 → Prop) (L8 : (Nat → Int32) → Int32 → Int32 → Prop)   (tr : Nat → Int32) (ts : Int32) (v5 : Int32) : Prop := (((v2 + v3) ≤ v5 → (K tr ts)) ∧ (¬ (v2 + v3) ≤ v5 → ((¬ v4 = (1 : Int32) → (∃ k, wp_X0_trace_35 px py v2 v3 v4 K L8  tr v5 k ts)) ∧ (v4 = (1 : Int32) → (wp_X0_isOverLast tr ts px v5 (fun r26 => ((r26 = 0 → (∃ k, wp_X0_trace_35 px py v2 v3 v4 K L8  tr v5 k ts)) ∧ (¬ r26 = 0 → (L8 tr ts (v5 + 1))))))))))
def wp_X0_trace_8 (px : Nat → Int32) (py : Nat → Int32) (v2 : Int32) (v3 : Int32) (v4 : Int32) (K : (Nat → Int32) → Int32 → Prop)   : Nat → (Nat → Int32) → Int32 → Int32 → Prop
  | 0 => fun _ _ _ => False
  | k + 1 => fun tr ts v5 => wp_X0_trace_8b px py v2 v3 v4 K (wp_X0_trace_8 px py v2 v3 v4 K   k)   tr ts v5
def wp_X0_trace (tr : Nat → Int32) (ts : Int32) (px : Nat → Int32) (py : Nat → Int32) (v2 : Int32) (v3 : Int32) (v4 : Int32) (K : (Nat → Int32) → Int32 → Prop) : Prop := (∃ k, wp_X0_trace_8 px py v2 v3 v4 K   k tr 0 v2)
/-- X0_lastBefore -/
def wp_X0_lastBefore_7b (tr : Nat → Int32) (ts : Int32) (v1 : Int32) (K : Int32 → Prop) (L7 : Int32 → Prop)   (v2 : Int32) : Prop := ((v2 < 0 → (K (-6))) ∧ (¬ v2 < 0 → (vp_in v2 32 ∧ ((v1 ≤ (tr v2.toNatClampNeg) → (L7 (v2 + (-1)))) ∧ (¬ v1 ≤ (tr v2.toNatClampNeg) → (vp_in v2 32 ∧ (K (tr v2.toNatClampNeg))))))))
def wp_X0_lastBefore_7 (tr : Nat → Int32) (ts : Int32) (v1 : Int32) (K : Int32 → Prop)   : Nat → Int32 → Prop
  | 0 => fun _ => False
  | k + 1 => fun v2 => wp_X0_lastBefore_7b tr ts v1 K (wp_X0_lastBefore_7 tr ts v1 K   k)   v2
def wp_X0_lastBefore (tr : Nat → Int32) (ts : Int32) (v1 : Int32) (K : Int32 → Prop) : Prop := (∃ k, wp_X0_lastBefore_7 tr ts v1 K   k (ts - 1))
/-- X0_firstFrom -/
def wp_X0_firstFrom_2b (tr : Nat → Int32) (ts : Int32) (v1 : Int32) (K : Int32 → Prop) (L2 : Int32 → Prop)   (v2 : Int32) : Prop := ((ts ≤ v2 → (K (-6))) ∧ (¬ ts ≤ v2 → (vp_in v2 32 ∧ (((tr v2.toNatClampNeg) < v1 → (L2 (v2 + 1))) ∧ (¬ (tr v2.toNatClampNeg) < v1 → (vp_in v2 32 ∧ (K (tr v2.toNatClampNeg))))))))
def wp_X0_firstFrom_2 (tr : Nat → Int32) (ts : Int32) (v1 : Int32) (K : Int32 → Prop)   : Nat → Int32 → Prop
  | 0 => fun _ => False
  | k + 1 => fun v2 => wp_X0_firstFrom_2b tr ts v1 K (wp_X0_firstFrom_2 tr ts v1 K   k)   v2
def wp_X0_firstFrom (tr : Nat → Int32) (ts : Int32) (v1 : Int32) (K : Int32 → Prop) : Prop := (∃ k, wp_X0_firstFrom_2 tr ts v1 K   k 0)
theorem in_X0_isOverLast_X0 : ∀ w ∈ wsX00, w ∈ wsX0_isOverLast := fun _ h => List.mem_cons_of_mem _ (List.mem_append_left _ (List.mem_append_left _ (List.mem_append_right _ h)))
theorem in_X0_isOverLast_X3 : ∀ w ∈ wsX30, w ∈ wsX0_isOverLast := fun _ h => List.mem_cons_of_mem _ (List.mem_append_right _ h)
theorem hd_X0_isOverLast : yX0_isOverLast.cls = RX0 ∧ yX0_isOverLast.cls ≠ "java/lang/invoke/MethodHandle" ∧ yX0_isOverLast.cls ≠ "java/lang/invoke/VarHandle" ∧ (parseMethodDescriptor yX0_isOverLast.desc).map (fun d => d.parameters.length) = some 2 := by decide +kernel
set_option maxHeartbeats 8000000 in
set_option maxRecDepth 100000 in
theorem c_X0_isOverLast (l : Launch) (D : va_G) (cI cJ cZ cO : ClassId) (tA tAr pA pAd pAx pAy : Nat) (tr : Nat → Int32) (ts : Int32) (pd : Nat → Int32) (px : Nat → Int32) (py : Nat → Int32) (pn : Int32) (v2 : Int32) (K : Int32 → Prop) (hw : wp_X0_isOverLast tr ts px v2 K) : Ci l D (tys4 cI cJ cZ cO) yX0_isOverLast wsX0_isOverLast { frames := 0, cells := 0, slots := 0, locals := 0 } [.ref tA, .ref pA, .int v2] [(tA, .inr (0, [.ref tAr, .int ts])), (tAr, .inl (cI, 32, .inl tr)), (pA, .inr (2, [.ref pAd, .ref pAx, .ref pAy, .int pn])), (pAd, .inl (cI, 32, .inl pd)), (pAx, .inl (cI, 32, .inl px)), (pAy, .inl (cI, 32, .inl py))] (fun (r : Int32) (_ : Unit) => K r) (fun _ => [(tA, .inr (0, [.ref tAr, .int ts])), (tAr, .inl (cI, 32, .inl tr)), (pA, .inr (2, [.ref pAd, .ref pAx, .ref pAy, .int pn])), (pAd, .inl (cI, 32, .inl pd)), (pAx, .inl (cI, 32, .inl px)), (pAy, .inl (cI, 32, .inl py))]) := by
  refine mt_i (cc := cX0_isOverLast) (maxL := 3) (rt := .boolean) (by decide) rfl (Nat.le_of_ble_eq_true rfl) ?_
  intro p e s m args below meth c Q A R ls hRf hRl hx hb hml hown hts hK hA hP hD hS hl ret
  have hown : s.vm.findClass RX0 = some m.cls := hown
  have hl : lv_has ls 3 [(0, .ref tA), (1, .ref pA), (2, .int v2)] := hl
  unfold wp_X0_isOverLast at hw
  refine lv_aload_n hx hb dX0_isOverLast_0 rfl (lv_at hl 0 rfl) ?_
  refine va_get (D := D) (ci := 0) (v := .int ts) (C := RX0) (T := TX0) (N := 2) hx hb hts in_X0_isOverLast_X0 hown hK hP 0 rfl rfl 1 (by decide) (hts (.fieldLink RX0 9 "LiveHull$Chain" "size" "I") (List.mem_of_getElem? (i := 1) rfl)) (fun x9 h9 => u_same (hts (.sameField "LiveHull$Chain" "LiveHull$Corners" "size" "I") (List.mem_of_getElem? (i := 2) rfl)) x9 h9) rfl dX0_isOverLast_1 ?_
  obtain ⟨hwA, hwB⟩ := hw
  refine lv_if_le (tgt := 36) hx hb dX0_isOverLast_4 (by decide) (fun cb => ?_) (fun cb => ?_)
  · have hw := hwA cb
    refine lv_iconst (v := 0) hx hb dX0_isOverLast_36 (by decide) ?_
    exact ret _ _ _ _ 0 () rfl hw hP hD hS dX0_isOverLast_37
  · have hw := hwB cb
    refine lv_aload_n hx hb dX0_isOverLast_7 rfl (lv_at hl 1 rfl) ?_
    refine va_get (D := D) (ci := 2) (v := .ref pAx) (C := RX3) (T := TX3) (N := 4) hx hb hts in_X0_isOverLast_X3 hown hK hP 2 rfl rfl 1 (by decide) (hts (.fieldLink RX0 27 "LiveHull$Points" "xs" "[I") (List.mem_of_getElem? (i := 3) rfl)) (fun _ h9 => h9) rfl dX0_isOverLast_8 ?_
    refine lv_aload_n hx hb dX0_isOverLast_11 rfl (lv_at hl 0 rfl) ?_
    refine va_get (D := D) (ci := 0) (v := .ref tAr) (C := RX0) (T := TX0) (N := 2) hx hb hts in_X0_isOverLast_X0 hown hK hP 0 rfl rfl 0 (by decide) (hts (.fieldLink RX0 33 "LiveHull$Chain" "ranks" "[I") (List.mem_of_getElem? (i := 4) rfl)) (fun x9 h9 => u_same (hts (.sameField "LiveHull$Chain" "LiveHull$Corners" "ranks" "[I") (List.mem_of_getElem? (i := 5) rfl)) x9 h9) rfl dX0_isOverLast_12 ?_
    refine lv_aload_n hx hb dX0_isOverLast_15 rfl (lv_at hl 0 rfl) ?_
    refine va_get (D := D) (ci := 0) (v := .int ts) (C := RX0) (T := TX0) (N := 2) hx hb hts in_X0_isOverLast_X0 hown hK hP 0 rfl rfl 1 (by decide) (hts (.fieldLink RX0 9 "LiveHull$Chain" "size" "I") (List.mem_of_getElem? (i := 1) rfl)) (fun x9 h9 => u_same (hts (.sameField "LiveHull$Chain" "LiveHull$Corners" "size" "I") (List.mem_of_getElem? (i := 2) rfl)) x9 h9) rfl dX0_isOverLast_16 ?_
    refine lv_iconst (v := 1) hx hb dX0_isOverLast_19 (by decide) ?_
    refine lv_isub hx hb dX0_isOverLast_20 ?_
    obtain ⟨hi, hw⟩ := hw
    refine va_iald hx hb hK hP 1 0 rfl rfl hi dX0_isOverLast_21 ?_
    obtain ⟨hi, hw⟩ := hw
    refine va_iald hx hb hK hP 4 0 rfl rfl hi dX0_isOverLast_22 ?_
    refine lv_aload_n hx hb dX0_isOverLast_23 rfl (lv_at hl 1 rfl) ?_
    refine va_get (D := D) (ci := 2) (v := .ref pAx) (C := RX3) (T := TX3) (N := 4) hx hb hts in_X0_isOverLast_X3 hown hK hP 2 rfl rfl 1 (by decide) (hts (.fieldLink RX0 27 "LiveHull$Points" "xs" "[I") (List.mem_of_getElem? (i := 3) rfl)) (fun _ h9 => h9) rfl dX0_isOverLast_24 ?_
    refine lv_iload_n hx hb dX0_isOverLast_27 rfl (lv_at hl 2 rfl) ?_
    obtain ⟨hi, hw⟩ := hw
    refine va_iald hx hb hK hP 4 0 rfl rfl hi dX0_isOverLast_28 ?_
    obtain ⟨hwA, hwB⟩ := hw
    refine lv_icmp_ne (tgt := 36) hx hb dX0_isOverLast_29 (by decide) (fun cb => ?_) (fun cb => ?_)
    · have hw := hwA cb
      refine lv_iconst (v := 0) hx hb dX0_isOverLast_36 (by decide) ?_
      exact ret _ _ _ _ 0 () rfl hw hP hD hS dX0_isOverLast_37
    · have hw := hwB cb
      refine lv_iconst (v := 1) hx hb dX0_isOverLast_32 (by decide) ?_
      refine lv_goto (tgt := 37) hx hb dX0_isOverLast_33 (by decide) ?_
      exact ret _ _ _ _ 1 () rfl hw hP hD hS dX0_isOverLast_37
theorem in_X0_lastStays_X0 : ∀ w ∈ wsX00, w ∈ wsX0_lastStays := fun _ h => List.mem_cons_of_mem _ (List.mem_append_left _ (List.mem_append_left _ (List.mem_append_right _ h)))
theorem in_X0_lastStays_X3 : ∀ w ∈ wsX30, w ∈ wsX0_lastStays := fun _ h => List.mem_cons_of_mem _ (List.mem_append_right _ h)
theorem hd_X0_lastStays : yX0_lastStays.cls = RX0 ∧ yX0_lastStays.cls ≠ "java/lang/invoke/MethodHandle" ∧ yX0_lastStays.cls ≠ "java/lang/invoke/VarHandle" ∧ (parseMethodDescriptor yX0_lastStays.desc).map (fun d => d.parameters.length) = some 3 := by decide +kernel
set_option maxHeartbeats 8000000 in
set_option maxRecDepth 100000 in
theorem c_X0_lastStays (l : Launch) (D : va_G) (cI cJ cZ cO : ClassId) (tA tAr pA pAd pAx pAy : Nat) (tr : Nat → Int32) (ts : Int32) (pd : Nat → Int32) (px : Nat → Int32) (py : Nat → Int32) (pn : Int32) (v2 : Int32) (v3 : Int32) (K : Int32 → Prop) (hw : wp_X0_lastStays tr ts px py v2 v3 K) : Ci l D (tys4 cI cJ cZ cO) yX0_lastStays wsX0_lastStays { frames := 1, cells := 0, slots := 0, locals := 32 } [.ref tA, .ref pA, .int v2, .int v3] [(tA, .inr (0, [.ref tAr, .int ts])), (tAr, .inl (cI, 32, .inl tr)), (pA, .inr (2, [.ref pAd, .ref pAx, .ref pAy, .int pn])), (pAd, .inl (cI, 32, .inl pd)), (pAx, .inl (cI, 32, .inl px)), (pAy, .inl (cI, 32, .inl py))] (fun (r : Int32) (_ : Unit) => K r) (fun _ => [(tA, .inr (0, [.ref tAr, .int ts])), (tAr, .inl (cI, 32, .inl tr)), (pA, .inr (2, [.ref pAd, .ref pAx, .ref pAy, .int pn])), (pAd, .inl (cI, 32, .inl pd)), (pAx, .inl (cI, 32, .inl px)), (pAy, .inl (cI, 32, .inl py))]) := by
  refine mt_i (cc := cX0_lastStays) (maxL := 8) (rt := .boolean) (by decide) rfl (Nat.le_of_ble_eq_true rfl) ?_
  intro p e s m args below meth c Q A R ls hRf hRl hx hb hml hown hts hK hA hP hD hS hl ret
  have hown : s.vm.findClass RX0 = some m.cls := hown
  have hl : lv_has ls 8 [(0, .ref tA), (1, .ref pA), (2, .int v2), (3, .int v3)] := hl
  unfold wp_X0_lastStays at hw
  refine lv_aload_n hx hb dX0_lastStays_0 rfl (lv_at hl 0 rfl) ?_
  refine lv_aload_n hx hb dX0_lastStays_1 rfl (lv_at hl 1 rfl) ?_
  refine lv_iload_n hx hb dX0_lastStays_2 rfl (lv_at hl 2 rfl) ?_
  refine cl_Vi (As := [.ref pA, .int v2]) (rest := []) ⟨hx, hb, hml, hown, hts⟩ (c_X0_isOverLast l D cI cJ cZ cO tA tAr pA pAd pAx pAy tr ts pd px py pn v2 _ hw) (cwV 2 hts gX0_lastStays_X0_isOverLast rfl rfl rfl hd_X0_isOverLast ⟨Nat.le_trans (Nat.le_of_ble_eq_true rfl) hRf, Nat.le_trans (Nat.le_of_ble_eq_true rfl) hRl⟩) hK hP hD hS hA [0, 1, 2, 3, 4, 5] [] rfl (by decide) rfl (by decide) (by decide) 0 0 rfl rfl rfl hl.1 rfl (Nat.le_of_ble_eq_true rfl) dX0_lastStays_3 ⟨Nat.zero_le _, Nat.zero_le _⟩ (fun r3 _u H locs hw hP hD hS => ?_)
  try dsimp only at hw
  have hP : va_P D vwCl [(tA, .inr (0, [.ref tAr, .int ts])), (tAr, .inl (cI, 32, .inl tr)), (pA, .inr (2, [.ref pAd, .ref pAx, .ref pAy, .int pn])), (pAd, .inl (cI, 32, .inl pd)), (pAx, .inl (cI, 32, .inl px)), (pAy, .inl (cI, 32, .inl py))] H := hP.sub [0, 1, 2, 3, 4, 5] rfl
  have hD : va_D A [(tA, .inr (0, [.ref tAr, .int ts])), (tAr, .inl (cI, 32, .inl tr)), (pA, .inr (2, [.ref pAd, .ref pAx, .ref pAy, .int pn])), (pAd, .inl (cI, 32, .inl pd)), (pAx, .inl (cI, 32, .inl px)), (pAy, .inl (cI, 32, .inl py))] := hD.sub [0, 1, 2, 3, 4, 5] (by decide) rfl
  obtain ⟨hwA, hwB⟩ := hw
  refine lv_if_eq (tgt := 11) hx hb dX0_lastStays_6 (by decide) (fun cb => ?_) (fun cb => ?_)
  · have hw := hwA cb
    refine lv_aload_n hx hb dX0_lastStays_11 rfl (lv_at hl 0 rfl) ?_
    refine va_get (D := D) (ci := 0) (v := .int ts) (C := RX0) (T := TX0) (N := 2) hx hb hts in_X0_lastStays_X0 hown hK hP 0 rfl rfl 1 (by decide) (hts (.fieldLink RX0 9 "LiveHull$Chain" "size" "I") (List.mem_of_getElem? (i := 1) rfl)) (fun x9 h9 => u_same (hts (.sameField "LiveHull$Chain" "LiveHull$Corners" "size" "I") (List.mem_of_getElem? (i := 2) rfl)) x9 h9) rfl dX0_lastStays_12 ?_
    refine lv_iconst (v := 2) hx hb dX0_lastStays_15 (by decide) ?_
    obtain ⟨hwA, hwB⟩ := hw
    refine lv_icmp_ge (tgt := 21) hx hb dX0_lastStays_16 (by decide) (fun cb => ?_) (fun cb => ?_)
    · have hw := hwA cb
      refine lv_aload_n hx hb dX0_lastStays_21 rfl (lv_at hl 1 rfl) ?_
      refine va_get (D := D) (ci := 2) (v := .ref pAx) (C := RX3) (T := TX3) (N := 4) hx hb hts in_X0_lastStays_X3 hown hK hP 2 rfl rfl 1 (by decide) (hts (.fieldLink RX0 27 "LiveHull$Points" "xs" "[I") (List.mem_of_getElem? (i := 3) rfl)) (fun _ h9 => h9) rfl dX0_lastStays_22 ?_
      refine lv_iload_n hx hb dX0_lastStays_25 rfl (lv_at hl 2 rfl) ?_
      obtain ⟨hi, hw⟩ := hw
      refine va_iald hx hb hK hP 4 0 rfl rfl hi dX0_lastStays_26 ?_
      refine lv_istore (lv' := [(4, .int (px v2.toNatClampNeg)), (0, .ref tA), (1, .ref pA), (2, .int v2), (3, .int v3)]) hx hb dX0_lastStays_27 hl (by decide) rfl (fun ls hl => ?_)
      refine lv_aload_n hx hb dX0_lastStays_29 rfl (lv_at hl 2 rfl) ?_
      refine va_get (D := D) (ci := 2) (v := .ref pAy) (C := RX3) (T := TX3) (N := 4) hx hb hts in_X0_lastStays_X3 hown hK hP 2 rfl rfl 2 (by decide) (hts (.fieldLink RX0 36 "LiveHull$Points" "ys" "[I") (List.mem_of_getElem? (i := 4) rfl)) (fun _ h9 => h9) rfl dX0_lastStays_30 ?_
      refine lv_iload_n hx hb dX0_lastStays_33 rfl (lv_at hl 3 rfl) ?_
      obtain ⟨hi, hw⟩ := hw
      refine va_iald hx hb hK hP 5 0 rfl rfl hi dX0_lastStays_34 ?_
      refine lv_istore (lv' := [(5, .int (py v2.toNatClampNeg)), (4, .int (px v2.toNatClampNeg)), (0, .ref tA), (1, .ref pA), (2, .int v2), (3, .int v3)]) hx hb dX0_lastStays_35 hl (by decide) rfl (fun ls hl => ?_)
      refine lv_aload_n hx hb dX0_lastStays_37 rfl (lv_at hl 3 rfl) ?_
      refine lv_aload_n hx hb dX0_lastStays_38 rfl (lv_at hl 2 rfl) ?_
      refine va_get (D := D) (ci := 0) (v := .ref tAr) (C := RX0) (T := TX0) (N := 2) hx hb hts in_X0_lastStays_X0 hown hK hP 0 rfl rfl 0 (by decide) (hts (.fieldLink RX0 33 "LiveHull$Chain" "ranks" "[I") (List.mem_of_getElem? (i := 5) rfl)) (fun x9 h9 => u_same (hts (.sameField "LiveHull$Chain" "LiveHull$Corners" "ranks" "[I") (List.mem_of_getElem? (i := 6) rfl)) x9 h9) rfl dX0_lastStays_39 ?_
      refine lv_aload_n hx hb dX0_lastStays_42 rfl (lv_at hl 2 rfl) ?_
      refine va_get (D := D) (ci := 0) (v := .int ts) (C := RX0) (T := TX0) (N := 2) hx hb hts in_X0_lastStays_X0 hown hK hP 0 rfl rfl 1 (by decide) (hts (.fieldLink RX0 9 "LiveHull$Chain" "size" "I") (List.mem_of_getElem? (i := 1) rfl)) (fun x9 h9 => u_same (hts (.sameField "LiveHull$Chain" "LiveHull$Corners" "size" "I") (List.mem_of_getElem? (i := 2) rfl)) x9 h9) rfl dX0_lastStays_43 ?_
      refine lv_iconst (v := 2) hx hb dX0_lastStays_46 (by decide) ?_
      refine lv_isub hx hb dX0_lastStays_47 ?_
      obtain ⟨hi, hw⟩ := hw
      refine va_iald hx hb hK hP 1 0 rfl rfl hi dX0_lastStays_48 ?_
      refine lv_aload_n hx hb dX0_lastStays_49 rfl (lv_at hl 2 rfl) ?_
      refine va_get (D := D) (ci := 0) (v := .ref tAr) (C := RX0) (T := TX0) (N := 2) hx hb hts in_X0_lastStays_X0 hown hK hP 0 rfl rfl 0 (by decide) (hts (.fieldLink RX0 33 "LiveHull$Chain" "ranks" "[I") (List.mem_of_getElem? (i := 5) rfl)) (fun x9 h9 => u_same (hts (.sameField "LiveHull$Chain" "LiveHull$Corners" "ranks" "[I") (List.mem_of_getElem? (i := 6) rfl)) x9 h9) rfl dX0_lastStays_50 ?_
      refine lv_aload_n hx hb dX0_lastStays_53 rfl (lv_at hl 2 rfl) ?_
      refine va_get (D := D) (ci := 0) (v := .int ts) (C := RX0) (T := TX0) (N := 2) hx hb hts in_X0_lastStays_X0 hown hK hP 0 rfl rfl 1 (by decide) (hts (.fieldLink RX0 9 "LiveHull$Chain" "size" "I") (List.mem_of_getElem? (i := 1) rfl)) (fun x9 h9 => u_same (hts (.sameField "LiveHull$Chain" "LiveHull$Corners" "size" "I") (List.mem_of_getElem? (i := 2) rfl)) x9 h9) rfl dX0_lastStays_54 ?_
      refine lv_iconst (v := 1) hx hb dX0_lastStays_57 (by decide) ?_
      refine lv_isub hx hb dX0_lastStays_58 ?_
      obtain ⟨hi, hw⟩ := hw
      refine va_iald hx hb hK hP 1 0 rfl rfl hi dX0_lastStays_59 ?_
      refine lv_iload hx hb dX0_lastStays_60 (lv_at hl 1 rfl) ?_
      refine lv_iload hx hb dX0_lastStays_62 (lv_at hl 0 rfl) ?_
      refine cl_Vl (As := [.int (tr (ts - 2).toNatClampNeg), .int (tr (ts - 1).toNatClampNeg), .int (px v2.toNatClampNeg), .int (py v2.toNatClampNeg)]) (rest := []) ⟨hx, hb, hml, hown, hts⟩ (c_X3_turn l D cI cJ cZ cO pA pAd pAx pAy pd px py pn (tr (ts - 2).toNatClampNeg) (tr (ts - 1).toNatClampNeg) (px v2.toNatClampNeg) (py v2.toNatClampNeg) _ hw) (cwV 4 hts gX0_lastStays_X3_turn rfl rfl rfl hd_X3_turn ⟨Nat.le_trans (Nat.le_of_ble_eq_true rfl) hRf, Nat.le_trans (Nat.le_of_ble_eq_true rfl) hRl⟩) hK hP hD hS hA [2, 3, 4, 5] [0, 1] rfl (by decide) rfl (by decide) (by decide) 2 2 rfl rfl rfl hl.1 rfl (Nat.le_of_ble_eq_true rfl) dX0_lastStays_64 ⟨Nat.zero_le _, Nat.zero_le _⟩ (fun r64 _u H locs hw hP hD hS => ?_)
      try dsimp only at hw
      have hP : va_P D vwCl [(tA, .inr (0, [.ref tAr, .int ts])), (tAr, .inl (cI, 32, .inl tr)), (pA, .inr (2, [.ref pAd, .ref pAx, .ref pAy, .int pn])), (pAd, .inl (cI, 32, .inl pd)), (pAx, .inl (cI, 32, .inl px)), (pAy, .inl (cI, 32, .inl py))] H := hP.sub [0, 1, 2, 3, 4, 5] rfl
      have hD : va_D A [(tA, .inr (0, [.ref tAr, .int ts])), (tAr, .inl (cI, 32, .inl tr)), (pA, .inr (2, [.ref pAd, .ref pAx, .ref pAy, .int pn])), (pAd, .inl (cI, 32, .inl pd)), (pAx, .inl (cI, 32, .inl px)), (pAy, .inl (cI, 32, .inl py))] := hD.sub [0, 1, 2, 3, 4, 5] (by decide) rfl
      refine lv_lstore (lv' := [(6, .long r64), (5, .int (py v2.toNatClampNeg)), (4, .int (px v2.toNatClampNeg)), (0, .ref tA), (1, .ref pA), (2, .int v2), (3, .int v3)]) hx hb dX0_lastStays_67 hl (by decide) rfl (fun ls hl => ?_)
      refine lv_iload_n hx hb dX0_lastStays_69 rfl (lv_at hl 6 rfl) ?_
      obtain ⟨hwA, hwB⟩ := hw
      refine lv_if_ne (tgt := 88) hx hb dX0_lastStays_70 (by decide) (fun cb => ?_) (fun cb => ?_)
      · have hw := hwA cb
        refine lv_lload hx hb dX0_lastStays_88 (lv_at hl 0 rfl) ?_
        refine lv_lconst (v := 0) hx hb dX0_lastStays_90 (by decide) ?_
        refine W.lcmp hx hb dX0_lastStays_91 ?_
        obtain ⟨hwA, hwB⟩ := hw
        refine lv_if_le (tgt := 99) hx hb dX0_lastStays_92 (by decide) (fun cb => ?_) (fun cb => ?_)
        · have hw := hwA ((cq_le _ _).mp cb)
          refine lv_iconst (v := 0) hx hb dX0_lastStays_99 (by decide) ?_
          exact ret _ _ _ _ 0 () rfl hw hP hD hS dX0_lastStays_100
        · have hw := hwB (fun h => cb ((cq_le _ _).mpr h))
          refine lv_iconst (v := 1) hx hb dX0_lastStays_95 (by decide) ?_
          refine lv_goto (tgt := 100) hx hb dX0_lastStays_96 (by decide) ?_
          exact ret _ _ _ _ 1 () rfl hw hP hD hS dX0_lastStays_100
      · have hw := hwB cb
        refine lv_lload hx hb dX0_lastStays_73 (lv_at hl 0 rfl) ?_
        refine lv_lconst (v := 0) hx hb dX0_lastStays_75 (by decide) ?_
        refine W.lcmp hx hb dX0_lastStays_76 ?_
        obtain ⟨hwA, hwB⟩ := hw
        refine lv_if_ge (tgt := 84) hx hb dX0_lastStays_77 (by decide) (fun cb => ?_) (fun cb => ?_)
        · have hw := hwA ((cq_ge _ _).mp cb)
          refine lv_iconst (v := 0) hx hb dX0_lastStays_84 (by decide) ?_
          refine lv_goto (tgt := 100) hx hb dX0_lastStays_85 (by decide) ?_
          exact ret _ _ _ _ 0 () rfl hw hP hD hS dX0_lastStays_100
        · have hw := hwB (fun h => cb ((cq_ge _ _).mpr h))
          refine lv_iconst (v := 1) hx hb dX0_lastStays_80 (by decide) ?_
          refine lv_goto (tgt := 100) hx hb dX0_lastStays_81 (by decide) ?_
          exact ret _ _ _ _ 1 () rfl hw hP hD hS dX0_lastStays_100
    · have hw := hwB cb
      refine lv_iconst (v := 1) hx hb dX0_lastStays_19 (by decide) ?_
      exact ret _ _ _ _ 1 () rfl hw hP hD hS dX0_lastStays_20
  · have hw := hwB cb
    refine lv_iconst (v := 0) hx hb dX0_lastStays_9 (by decide) ?_
    exact ret _ _ _ _ 0 () rfl hw hP hD hS dX0_lastStays_10
theorem in_X0_trace_X0 : ∀ w ∈ wsX00, w ∈ wsX0_trace := fun _ h => List.mem_cons_of_mem _ (List.mem_append_left _ (List.mem_append_left _ (List.mem_append_right _ h)))
theorem hd_X0_trace : yX0_trace.cls = RX0 ∧ yX0_trace.cls ≠ "java/lang/invoke/MethodHandle" ∧ yX0_trace.cls ≠ "java/lang/invoke/VarHandle" ∧ (parseMethodDescriptor yX0_trace.desc).map (fun d => d.parameters.length) = some 4 := by decide +kernel
set_option maxHeartbeats 8000000 in
set_option maxRecDepth 100000 in
theorem c_X0_trace (l : Launch) (D : va_G) (cI cJ cZ cO : ClassId) (tA tAr pA pAd pAx pAy : Nat) (tr : Nat → Int32) (ts : Int32) (pd : Nat → Int32) (px : Nat → Int32) (py : Nat → Int32) (pn : Int32) (v2 : Int32) (v3 : Int32) (v4 : Int32) (K : (Nat → Int32) → Int32 → Prop) (hw : wp_X0_trace tr ts px py v2 v3 v4 K) : Cv l D (tys4 cI cJ cZ cO) yX0_trace wsX0_trace { frames := 2, cells := 0, slots := 0, locals := 59 } [.ref tA, .ref pA, .int v2, .int v3, .int v4] [(tA, .inr (0, [.ref tAr, .int ts])), (tAr, .inl (cI, 32, .inl tr)), (pA, .inr (2, [.ref pAd, .ref pAx, .ref pAy, .int pn])), (pAd, .inl (cI, 32, .inl pd)), (pAx, .inl (cI, 32, .inl px)), (pAy, .inl (cI, 32, .inl py))] (fun (u : (Nat → Int32) × (Int32)) => K u.1 u.2) (fun u => [(tA, .inr (0, [.ref tAr, .int u.2])), (tAr, .inl (cI, 32, .inl u.1)), (pA, .inr (2, [.ref pAd, .ref pAx, .ref pAy, .int pn])), (pAd, .inl (cI, 32, .inl pd)), (pAx, .inl (cI, 32, .inl px)), (pAy, .inl (cI, 32, .inl py))]) := by
  refine mt_v (cc := cX0_trace) (maxL := 6) (by decide) rfl (Nat.le_of_ble_eq_true rfl) ?_
  intro p e s m args below meth c Q A R ls hRf hRl hx hb hml hown hts hK hA hP hD hS hl ret
  have hown : s.vm.findClass RX0 = some m.cls := hown
  have hl : lv_has ls 6 [(0, .ref tA), (1, .ref pA), (2, .int v2), (3, .int v3), (4, .int v4)] := hl
  have N8 : ∀  (k : Nat) (tr : Nat → Int32) (ts : Int32) (v5 : Int32), wp_X0_trace_8 px py v2 v3 v4 K   k tr ts v5 → ∀ (H : Heap) (locs : List Loc) (ls : Array Slot), va_P D vwCl [(tA, .inr (0, [.ref tAr, .int ts])), (tAr, .inl (cI, 32, .inl tr)), (pA, .inr (2, [.ref pAd, .ref pAx, .ref pAy, .int pn])), (pAd, .inl (cI, 32, .inl pd)), (pAx, .inl (cI, 32, .inl px)), (pAy, .inl (cI, 32, .inl py))] H → va_D A [(tA, .inr (0, [.ref tAr, .int ts])), (tAr, .inl (cI, 32, .inl tr)), (pA, .inr (2, [.ref pAd, .ref pAx, .ref pAy, .int pn])), (pAd, .inl (cI, 32, .inl pd)), (pAx, .inl (cI, 32, .inl px)), (pAy, .inl (cI, 32, .inl py))] → va_S A s.heap H locs → lv_has ls 6 [(0, .ref tA), (1, .ref pA), (2, .int v2), (3, .int v3), (4, .int v4), (5, .int v5)] → W p l e R s m args below meth c H locs 0 0 Q (F0 m 8 ls []) := by
    intro k
    induction k with
    | zero => intro tr ts v5 hw; exact False.elim hw
    | succ k ih8 =>
      intro tr ts v5 hw H locs ls hP hD hS hl
      have hw : wp_X0_trace_8b px py v2 v3 v4 K (wp_X0_trace_8 px py v2 v3 v4 K   k)   tr ts v5 := hw
      unfold wp_X0_trace_8b at hw
      generalize wp_X0_trace_8 px py v2 v3 v4 K   k = L8 at hw ih8
      have N67 : ∀ (tr : Nat → Int32) (ts : Int32) (v5 : Int32), wp_X0_trace_67 px py v2 v3 v4 K L8  tr ts v5 → ∀ (H : Heap) (locs : List Loc) (ls : Array Slot), va_P D vwCl [(tA, .inr (0, [.ref tAr, .int ts])), (tAr, .inl (cI, 32, .inl tr)), (pA, .inr (2, [.ref pAd, .ref pAx, .ref pAy, .int pn])), (pAd, .inl (cI, 32, .inl pd)), (pAx, .inl (cI, 32, .inl px)), (pAy, .inl (cI, 32, .inl py))] H → va_D A [(tA, .inr (0, [.ref tAr, .int ts])), (tAr, .inl (cI, 32, .inl tr)), (pA, .inr (2, [.ref pAd, .ref pAx, .ref pAy, .int pn])), (pAd, .inl (cI, 32, .inl pd)), (pAx, .inl (cI, 32, .inl px)), (pAy, .inl (cI, 32, .inl py))] → va_S A s.heap H locs → lv_has ls 6 [(0, .ref tA), (1, .ref pA), (2, .int v2), (3, .int v3), (4, .int v4), (5, .int v5)] → W p l e R s m args below meth c H locs 0 0 Q (F0 m 67 ls []) := by
        intro tr ts v5 hw H locs ls hP hD hS hl
        unfold wp_X0_trace_67 at hw
        refine lv_aload_n hx hb dX0_trace_67 rfl (lv_at hl 0 rfl) ?_
        refine lv_iload hx hb dX0_trace_68 (lv_at hl 5 rfl) ?_
        refine cl_Uv (As := [.int v5]) (rest := []) ⟨hx, hb, hml, hown, hts⟩ (c_X1_append_X0 l D cI cJ cZ cO tA tAr tr ts v5 _ hw) (va_cwU 1 hts gX0_trace_X1_append_u23X0 rfl rfl rfl rfl (by decide +kernel) ⟨Nat.le_trans (Nat.le_of_ble_eq_true rfl) hRf, Nat.le_trans (Nat.le_of_ble_eq_true rfl) hRl⟩) hK hP hD hS hA [0, 1] [2, 3, 4, 5] rfl (by decide) rfl (by decide) (by decide) 0 0 rfl rfl rfl hl.1 rfl (Nat.le_of_ble_eq_true rfl) dX0_trace_70 ⟨Nat.zero_le _, Nat.zero_le _⟩ (fun u H locs hw hP hD hS => ?_)
        obtain ⟨tr_70, ts_70⟩ := u
        try dsimp only at hw
        have hP : va_P D vwCl [(tA, .inr (0, [.ref tAr, .int ts_70])), (tAr, .inl (cI, 32, .inl tr_70)), (pA, .inr (2, [.ref pAd, .ref pAx, .ref pAy, .int pn])), (pAd, .inl (cI, 32, .inl pd)), (pAx, .inl (cI, 32, .inl px)), (pAy, .inl (cI, 32, .inl py))] H := hP.sub [4, 5, 0, 1, 2, 3] rfl
        have hD : va_D A [(tA, .inr (0, [.ref tAr, .int ts_70])), (tAr, .inl (cI, 32, .inl tr_70)), (pA, .inr (2, [.ref pAd, .ref pAx, .ref pAy, .int pn])), (pAd, .inl (cI, 32, .inl pd)), (pAx, .inl (cI, 32, .inl px)), (pAy, .inl (cI, 32, .inl py))] := hD.sub [4, 5, 0, 1, 2, 3] (by decide) rfl
        refine lv_iinc (v := (v5 + 1)) (lv' := [(5, .int (v5 + 1)), (0, .ref tA), (1, .ref pA), (2, .int v2), (3, .int v3), (4, .int v4)]) hx hb dX0_trace_73 hl (k := 5) rfl rfl (by decide) rfl (fun ls hl => ?_)
        refine lv_goto (tgt := 8) hx hb dX0_trace_76 (by decide) ?_
        exact ih8 tr_70 ts_70 (v5 + 1) hw _ _ _ hP hD hS (lv_sub hl [1, 2, 3, 4, 5, 0] rfl)
      have N35 : ∀ (tr : Nat → Int32) (v5 : Int32) (k : Nat) (ts : Int32), wp_X0_trace_35 px py v2 v3 v4 K L8  tr v5 k ts → ∀ (H : Heap) (locs : List Loc) (ls : Array Slot), va_P D vwCl [(tA, .inr (0, [.ref tAr, .int ts])), (tAr, .inl (cI, 32, .inl tr)), (pA, .inr (2, [.ref pAd, .ref pAx, .ref pAy, .int pn])), (pAd, .inl (cI, 32, .inl pd)), (pAx, .inl (cI, 32, .inl px)), (pAy, .inl (cI, 32, .inl py))] H → va_D A [(tA, .inr (0, [.ref tAr, .int ts])), (tAr, .inl (cI, 32, .inl tr)), (pA, .inr (2, [.ref pAd, .ref pAx, .ref pAy, .int pn])), (pAd, .inl (cI, 32, .inl pd)), (pAx, .inl (cI, 32, .inl px)), (pAy, .inl (cI, 32, .inl py))] → va_S A s.heap H locs → lv_has ls 6 [(0, .ref tA), (1, .ref pA), (2, .int v2), (3, .int v3), (4, .int v4), (5, .int v5)] → W p l e R s m args below meth c H locs 0 0 Q (F0 m 35 ls []) := by
        intro tr v5
        intro k
        induction k with
        | zero => intro ts hw; exact False.elim hw
        | succ k ih35 =>
          intro ts hw H locs ls hP hD hS hl
          have hw : wp_X0_trace_35b px py v2 v3 v4 K L8 (wp_X0_trace_35 px py v2 v3 v4 K L8  tr v5 k)  tr v5 ts := hw
          unfold wp_X0_trace_35b at hw
          generalize wp_X0_trace_35 px py v2 v3 v4 K L8  tr v5 k = L35 at hw ih35
          refine lv_aload_n hx hb dX0_trace_35 rfl (lv_at hl 0 rfl) ?_
          refine va_get (D := D) (ci := 0) (v := .int ts) (C := RX0) (T := TX0) (N := 2) hx hb hts in_X0_trace_X0 hown hK hP 0 rfl rfl 1 (by decide) (hts (.fieldLink RX0 9 "LiveHull$Chain" "size" "I") (List.mem_of_getElem? (i := 1) rfl)) (fun x9 h9 => u_same (hts (.sameField "LiveHull$Chain" "LiveHull$Corners" "size" "I") (List.mem_of_getElem? (i := 2) rfl)) x9 h9) rfl dX0_trace_36 ?_
          obtain ⟨hwA, hwB⟩ := hw
          refine lv_if_le (tgt := 67) hx hb dX0_trace_39 (by decide) (fun cb => ?_) (fun cb => ?_)
          · have hw := hwA cb
            exact N67 tr ts v5 hw _ _ _ hP hD hS (lv_sub hl [0, 1, 2, 3, 4, 5] rfl)
          · have hw := hwB cb
            refine lv_aload_n hx hb dX0_trace_42 rfl (lv_at hl 0 rfl) ?_
            refine lv_aload_n hx hb dX0_trace_43 rfl (lv_at hl 1 rfl) ?_
            refine lv_iload hx hb dX0_trace_44 (lv_at hl 5 rfl) ?_
            refine lv_iload hx hb dX0_trace_46 (lv_at hl 4 rfl) ?_
            refine cl_Vi (As := [.ref pA, .int v5, .int v4]) (rest := []) ⟨hx, hb, hml, hown, hts⟩ (c_X0_lastStays l D cI cJ cZ cO tA tAr pA pAd pAx pAy tr ts pd px py pn v5 v4 _ hw) (cwV 3 hts gX0_trace_X0_lastStays rfl rfl rfl hd_X0_lastStays ⟨Nat.le_trans (Nat.le_of_ble_eq_true rfl) hRf, Nat.le_trans (Nat.le_of_ble_eq_true rfl) hRl⟩) hK hP hD hS hA [0, 1, 2, 3, 4, 5] [] rfl (by decide) rfl (by decide) (by decide) 0 0 rfl rfl rfl hl.1 rfl (Nat.le_of_ble_eq_true rfl) dX0_trace_48 ⟨Nat.zero_le _, Nat.zero_le _⟩ (fun r48 _u H locs hw hP hD hS => ?_)
            try dsimp only at hw
            have hP : va_P D vwCl [(tA, .inr (0, [.ref tAr, .int ts])), (tAr, .inl (cI, 32, .inl tr)), (pA, .inr (2, [.ref pAd, .ref pAx, .ref pAy, .int pn])), (pAd, .inl (cI, 32, .inl pd)), (pAx, .inl (cI, 32, .inl px)), (pAy, .inl (cI, 32, .inl py))] H := hP.sub [0, 1, 2, 3, 4, 5] rfl
            have hD : va_D A [(tA, .inr (0, [.ref tAr, .int ts])), (tAr, .inl (cI, 32, .inl tr)), (pA, .inr (2, [.ref pAd, .ref pAx, .ref pAy, .int pn])), (pAd, .inl (cI, 32, .inl pd)), (pAx, .inl (cI, 32, .inl px)), (pAy, .inl (cI, 32, .inl py))] := hD.sub [0, 1, 2, 3, 4, 5] (by decide) rfl
            obtain ⟨hwA, hwB⟩ := hw
            refine lv_if_ne (tgt := 67) hx hb dX0_trace_51 (by decide) (fun cb => ?_) (fun cb => ?_)
            · have hw := hwA cb
              exact N67 tr ts v5 hw _ _ _ hP hD hS (lv_sub hl [0, 1, 2, 3, 4, 5] rfl)
            · have hw := hwB cb
              refine lv_aload_n hx hb dX0_trace_54 rfl (lv_at hl 0 rfl) ?_
              refine lv_dup hx hb dX0_trace_55 rfl ?_
              refine va_get (D := D) (ci := 0) (v := .int ts) (C := RX0) (T := TX0) (N := 2) hx hb hts in_X0_trace_X0 hown hK hP 0 rfl rfl 1 (by decide) (hts (.fieldLink RX0 9 "LiveHull$Chain" "size" "I") (List.mem_of_getElem? (i := 1) rfl)) (fun x9 h9 => u_same (hts (.sameField "LiveHull$Chain" "LiveHull$Corners" "size" "I") (List.mem_of_getElem? (i := 2) rfl)) x9 h9) rfl dX0_trace_56 ?_
              refine lv_iconst (v := 1) hx hb dX0_trace_59 (by decide) ?_
              refine lv_isub hx hb dX0_trace_60 ?_
              refine va_put (D := D) (ci := 0) (v := .int (ts - 1)) (ty := .int) (C := RX0) (T := TX0) (N := 2) hx hb hts in_X0_trace_X0 tyX0 tyX0_ok nmX0 hown hK hP hD hS 0 rfl rfl 1 (by decide) (hts (.fieldLink RX0 9 "LiveHull$Chain" "size" "I") (List.mem_of_getElem? (i := 1) rfl)) (fun x9 h9 => u_same (hts (.sameField "LiveHull$Chain" "LiveHull$Corners" "size" "I") (List.mem_of_getElem? (i := 2) rfl)) x9 h9) rfl (by decide +kernel) rfl rfl (Nat.le_of_ble_eq_true rfl) dX0_trace_61 (fun H locs hP hD hS => ?_)
              have hP : va_P D vwCl [(tA, .inr (0, [.ref tAr, .int (ts - 1)])), (tAr, .inl (cI, 32, .inl tr)), (pA, .inr (2, [.ref pAd, .ref pAx, .ref pAy, .int pn])), (pAd, .inl (cI, 32, .inl pd)), (pAx, .inl (cI, 32, .inl px)), (pAy, .inl (cI, 32, .inl py))] H := hP
              have hD : va_D A [(tA, .inr (0, [.ref tAr, .int (ts - 1)])), (tAr, .inl (cI, 32, .inl tr)), (pA, .inr (2, [.ref pAd, .ref pAx, .ref pAy, .int pn])), (pAd, .inl (cI, 32, .inl pd)), (pAx, .inl (cI, 32, .inl px)), (pAy, .inl (cI, 32, .inl py))] := hD
              refine lv_goto (tgt := 35) hx hb dX0_trace_64 (by decide) ?_
              exact ih35 (ts - 1) hw _ _ _ hP hD hS (lv_sub hl [0, 1, 2, 3, 4, 5] rfl)
      refine lv_iload hx hb dX0_trace_8 (lv_at hl 5 rfl) ?_
      refine lv_iload_n hx hb dX0_trace_10 rfl (lv_at hl 2 rfl) ?_
      refine lv_iload_n hx hb dX0_trace_11 rfl (lv_at hl 3 rfl) ?_
      refine lv_iadd hx hb dX0_trace_12 ?_
      obtain ⟨hwA, hwB⟩ := hw
      refine lv_icmp_ge (tgt := 79) hx hb dX0_trace_13 (by decide) (fun cb => ?_) (fun cb => ?_)
      · have hw := hwA cb
        exact ret _ _ _ _ (tr, ts) hw hP hD hS dX0_trace_79
      · have hw := hwB cb
        refine lv_iload hx hb dX0_trace_16 (lv_at hl 4 rfl) ?_
        refine lv_iconst (v := 1) hx hb dX0_trace_18 (by decide) ?_
        obtain ⟨hwA, hwB⟩ := hw
        refine lv_icmp_ne (tgt := 35) hx hb dX0_trace_19 (by decide) (fun cb => ?_) (fun cb => ?_)
        · have hw := hwA cb
          obtain ⟨k, hw⟩ := hw
          exact N35 tr v5 k ts hw _ _ _ hP hD hS (lv_sub hl [0, 1, 2, 3, 4, 5] rfl)
        · have hw := hwB cb
          refine lv_aload_n hx hb dX0_trace_22 rfl (lv_at hl 0 rfl) ?_
          refine lv_aload_n hx hb dX0_trace_23 rfl (lv_at hl 1 rfl) ?_
          refine lv_iload hx hb dX0_trace_24 (lv_at hl 5 rfl) ?_
          refine cl_Vi (As := [.ref pA, .int v5]) (rest := []) ⟨hx, hb, hml, hown, hts⟩ (c_X0_isOverLast l D cI cJ cZ cO tA tAr pA pAd pAx pAy tr ts pd px py pn v5 _ hw) (cwV 2 hts gX0_trace_X0_isOverLast rfl rfl rfl hd_X0_isOverLast ⟨Nat.le_trans (Nat.le_of_ble_eq_true rfl) hRf, Nat.le_trans (Nat.le_of_ble_eq_true rfl) hRl⟩) hK hP hD hS hA [0, 1, 2, 3, 4, 5] [] rfl (by decide) rfl (by decide) (by decide) 0 0 rfl rfl rfl hl.1 rfl (Nat.le_of_ble_eq_true rfl) dX0_trace_26 ⟨Nat.zero_le _, Nat.zero_le _⟩ (fun r26 _u H locs hw hP hD hS => ?_)
          try dsimp only at hw
          have hP : va_P D vwCl [(tA, .inr (0, [.ref tAr, .int ts])), (tAr, .inl (cI, 32, .inl tr)), (pA, .inr (2, [.ref pAd, .ref pAx, .ref pAy, .int pn])), (pAd, .inl (cI, 32, .inl pd)), (pAx, .inl (cI, 32, .inl px)), (pAy, .inl (cI, 32, .inl py))] H := hP.sub [0, 1, 2, 3, 4, 5] rfl
          have hD : va_D A [(tA, .inr (0, [.ref tAr, .int ts])), (tAr, .inl (cI, 32, .inl tr)), (pA, .inr (2, [.ref pAd, .ref pAx, .ref pAy, .int pn])), (pAd, .inl (cI, 32, .inl pd)), (pAx, .inl (cI, 32, .inl px)), (pAy, .inl (cI, 32, .inl py))] := hD.sub [0, 1, 2, 3, 4, 5] (by decide) rfl
          obtain ⟨hwA, hwB⟩ := hw
          refine lv_if_eq (tgt := 35) hx hb dX0_trace_29 (by decide) (fun cb => ?_) (fun cb => ?_)
          · have hw := hwA cb
            obtain ⟨k, hw⟩ := hw
            exact N35 tr v5 k ts hw _ _ _ hP hD hS (lv_sub hl [0, 1, 2, 3, 4, 5] rfl)
          · have hw := hwB cb
            refine lv_goto (tgt := 73) hx hb dX0_trace_32 (by decide) ?_
            refine lv_iinc (v := (v5 + 1)) (lv' := [(5, .int (v5 + 1)), (0, .ref tA), (1, .ref pA), (2, .int v2), (3, .int v3), (4, .int v4)]) hx hb dX0_trace_73 hl (k := 5) rfl rfl (by decide) rfl (fun ls hl => ?_)
            refine lv_goto (tgt := 8) hx hb dX0_trace_76 (by decide) ?_
            exact ih8 tr ts (v5 + 1) hw _ _ _ hP hD hS (lv_sub hl [1, 2, 3, 4, 5, 0] rfl)
  unfold wp_X0_trace at hw
  refine lv_aload_n hx hb dX0_trace_0 rfl (lv_at hl 0 rfl) ?_
  refine lv_iconst (v := 0) hx hb dX0_trace_1 (by decide) ?_
  refine va_put (D := D) (ci := 0) (v := .int 0) (ty := .int) (C := RX0) (T := TX0) (N := 2) hx hb hts in_X0_trace_X0 tyX0 tyX0_ok nmX0 hown hK hP hD hS 0 rfl rfl 1 (by decide) (hts (.fieldLink RX0 9 "LiveHull$Chain" "size" "I") (List.mem_of_getElem? (i := 1) rfl)) (fun x9 h9 => u_same (hts (.sameField "LiveHull$Chain" "LiveHull$Corners" "size" "I") (List.mem_of_getElem? (i := 2) rfl)) x9 h9) rfl (by decide +kernel) rfl rfl (Nat.le_of_ble_eq_true rfl) dX0_trace_2 (fun H locs hP hD hS => ?_)
  have hP : va_P D vwCl [(tA, .inr (0, [.ref tAr, .int 0])), (tAr, .inl (cI, 32, .inl tr)), (pA, .inr (2, [.ref pAd, .ref pAx, .ref pAy, .int pn])), (pAd, .inl (cI, 32, .inl pd)), (pAx, .inl (cI, 32, .inl px)), (pAy, .inl (cI, 32, .inl py))] H := hP
  have hD : va_D A [(tA, .inr (0, [.ref tAr, .int 0])), (tAr, .inl (cI, 32, .inl tr)), (pA, .inr (2, [.ref pAd, .ref pAx, .ref pAy, .int pn])), (pAd, .inl (cI, 32, .inl pd)), (pAx, .inl (cI, 32, .inl px)), (pAy, .inl (cI, 32, .inl py))] := hD
  refine lv_iload_n hx hb dX0_trace_5 rfl (lv_at hl 2 rfl) ?_
  refine lv_istore (lv' := [(5, .int v2), (0, .ref tA), (1, .ref pA), (2, .int v2), (3, .int v3), (4, .int v4)]) hx hb dX0_trace_6 hl (by decide) rfl (fun ls hl => ?_)
  obtain ⟨k, hw⟩ := hw
  exact N8  k tr 0 v2 hw _ _ _ hP hD hS (lv_sub hl [1, 2, 3, 4, 5, 0] rfl)
theorem in_X0_lastBefore_X0 : ∀ w ∈ wsX00, w ∈ wsX0_lastBefore := fun _ h => List.mem_cons_of_mem _ (List.mem_append_left _ (List.mem_append_right _ h))
theorem hd_X0_lastBefore : yX0_lastBefore.cls = RX0 ∧ yX0_lastBefore.cls ≠ "java/lang/invoke/MethodHandle" ∧ yX0_lastBefore.cls ≠ "java/lang/invoke/VarHandle" ∧ (parseMethodDescriptor yX0_lastBefore.desc).map (fun d => d.parameters.length) = some 1 := by decide +kernel
set_option maxHeartbeats 8000000 in
set_option maxRecDepth 100000 in
theorem c_X0_lastBefore (l : Launch) (D : va_G) (cI cJ cZ cO : ClassId) (tA tAr : Nat) (tr : Nat → Int32) (ts : Int32) (v1 : Int32) (K : Int32 → Prop) (hw : wp_X0_lastBefore tr ts v1 K) : Ci l D (tys4 cI cJ cZ cO) yX0_lastBefore wsX0_lastBefore { frames := 0, cells := 0, slots := 0, locals := 0 } [.ref tA, .int v1] [(tA, .inr (0, [.ref tAr, .int ts])), (tAr, .inl (cI, 32, .inl tr))] (fun (r : Int32) (_ : Unit) => K r) (fun _ => [(tA, .inr (0, [.ref tAr, .int ts])), (tAr, .inl (cI, 32, .inl tr))]) := by
  refine mt_i (cc := cX0_lastBefore) (maxL := 3) (rt := .int) (by decide) rfl (Nat.le_of_ble_eq_true rfl) ?_
  intro p e s m args below meth c Q A R ls hRf hRl hx hb hml hown hts hK hA hP hD hS hl ret
  have hown : s.vm.findClass RX0 = some m.cls := hown
  have hl : lv_has ls 3 [(0, .ref tA), (1, .int v1)] := hl
  have N7 : ∀  (k : Nat) (v2 : Int32), wp_X0_lastBefore_7 tr ts v1 K   k v2 → ∀ (H : Heap) (locs : List Loc) (ls : Array Slot), va_P D vwCl [(tA, .inr (0, [.ref tAr, .int ts])), (tAr, .inl (cI, 32, .inl tr))] H → va_D A [(tA, .inr (0, [.ref tAr, .int ts])), (tAr, .inl (cI, 32, .inl tr))] → va_S A s.heap H locs → lv_has ls 3 [(0, .ref tA), (1, .int v1), (2, .int v2)] → W p l e R s m args below meth c H locs 0 0 Q (F0 m 7 ls []) := by
    intro k
    induction k with
    | zero => intro v2 hw; exact False.elim hw
    | succ k ih7 =>
      intro v2 hw H locs ls hP hD hS hl
      have hw : wp_X0_lastBefore_7b tr ts v1 K (wp_X0_lastBefore_7 tr ts v1 K   k)   v2 := hw
      unfold wp_X0_lastBefore_7b at hw
      generalize wp_X0_lastBefore_7 tr ts v1 K   k = L7 at hw ih7
      refine lv_iload_n hx hb dX0_lastBefore_7 rfl (lv_at hl 2 rfl) ?_
      obtain ⟨hwA, hwB⟩ := hw
      refine lv_if_lt (tgt := 34) hx hb dX0_lastBefore_8 (by decide) (fun cb => ?_) (fun cb => ?_)
      · have hw := hwA cb
        refine lv_bipush (v := (-6)) hx hb dX0_lastBefore_34 (by decide) ?_
        exact ret _ _ _ _ (-6) () (vp_nar_int _) hw hP hD hS dX0_lastBefore_36
      · have hw := hwB cb
        refine lv_aload_n hx hb dX0_lastBefore_11 rfl (lv_at hl 0 rfl) ?_
        refine va_get (D := D) (ci := 0) (v := .ref tAr) (C := RX0) (T := TX0) (N := 2) hx hb hts in_X0_lastBefore_X0 hown hK hP 0 rfl rfl 0 (by decide) (hts (.fieldLink RX0 33 "LiveHull$Chain" "ranks" "[I") (List.mem_of_getElem? (i := 3) rfl)) (fun x9 h9 => u_same (hts (.sameField "LiveHull$Chain" "LiveHull$Corners" "ranks" "[I") (List.mem_of_getElem? (i := 4) rfl)) x9 h9) rfl dX0_lastBefore_12 ?_
        refine lv_iload_n hx hb dX0_lastBefore_15 rfl (lv_at hl 2 rfl) ?_
        obtain ⟨hi, hw⟩ := hw
        refine va_iald hx hb hK hP 1 0 rfl rfl hi dX0_lastBefore_16 ?_
        refine lv_iload_n hx hb dX0_lastBefore_17 rfl (lv_at hl 1 rfl) ?_
        obtain ⟨hwA, hwB⟩ := hw
        refine lv_icmp_ge (tgt := 28) hx hb dX0_lastBefore_18 (by decide) (fun cb => ?_) (fun cb => ?_)
        · have hw := hwA cb
          refine lv_iinc (v := (v2 + (-1))) (lv' := [(2, .int (v2 + (-1))), (0, .ref tA), (1, .int v1)]) hx hb dX0_lastBefore_28 hl (k := 2) rfl rfl (by decide) rfl (fun ls hl => ?_)
          refine lv_goto (tgt := 7) hx hb dX0_lastBefore_31 (by decide) ?_
          exact ih7 (v2 + (-1)) hw _ _ _ hP hD hS (lv_sub hl [1, 2, 0] rfl)
        · have hw := hwB cb
          refine lv_aload_n hx hb dX0_lastBefore_21 rfl (lv_at hl 0 rfl) ?_
          refine va_get (D := D) (ci := 0) (v := .ref tAr) (C := RX0) (T := TX0) (N := 2) hx hb hts in_X0_lastBefore_X0 hown hK hP 0 rfl rfl 0 (by decide) (hts (.fieldLink RX0 33 "LiveHull$Chain" "ranks" "[I") (List.mem_of_getElem? (i := 3) rfl)) (fun x9 h9 => u_same (hts (.sameField "LiveHull$Chain" "LiveHull$Corners" "ranks" "[I") (List.mem_of_getElem? (i := 4) rfl)) x9 h9) rfl dX0_lastBefore_22 ?_
          refine lv_iload_n hx hb dX0_lastBefore_25 rfl (lv_at hl 2 rfl) ?_
          obtain ⟨hi, hw⟩ := hw
          refine va_iald hx hb hK hP 1 0 rfl rfl hi dX0_lastBefore_26 ?_
          exact ret _ _ _ _ (tr v2.toNatClampNeg) () (vp_nar_int _) hw hP hD hS dX0_lastBefore_27
  unfold wp_X0_lastBefore at hw
  refine lv_aload_n hx hb dX0_lastBefore_0 rfl (lv_at hl 0 rfl) ?_
  refine va_get (D := D) (ci := 0) (v := .int ts) (C := RX0) (T := TX0) (N := 2) hx hb hts in_X0_lastBefore_X0 hown hK hP 0 rfl rfl 1 (by decide) (hts (.fieldLink RX0 9 "LiveHull$Chain" "size" "I") (List.mem_of_getElem? (i := 1) rfl)) (fun x9 h9 => u_same (hts (.sameField "LiveHull$Chain" "LiveHull$Corners" "size" "I") (List.mem_of_getElem? (i := 2) rfl)) x9 h9) rfl dX0_lastBefore_1 ?_
  refine lv_iconst (v := 1) hx hb dX0_lastBefore_4 (by decide) ?_
  refine lv_isub hx hb dX0_lastBefore_5 ?_
  refine lv_istore_n (lv' := [(2, .int (ts - 1)), (0, .ref tA), (1, .int v1)]) hx hb dX0_lastBefore_6 rfl hl (by decide) rfl (fun ls hl => ?_)
  obtain ⟨k, hw⟩ := hw
  exact N7  k (ts - 1) hw _ _ _ hP hD hS (lv_sub hl [1, 2, 0] rfl)
theorem in_X0_firstFrom_X0 : ∀ w ∈ wsX00, w ∈ wsX0_firstFrom := fun _ h => List.mem_cons_of_mem _ (List.mem_append_left _ (List.mem_append_right _ h))
theorem hd_X0_firstFrom : yX0_firstFrom.cls = RX0 ∧ yX0_firstFrom.cls ≠ "java/lang/invoke/MethodHandle" ∧ yX0_firstFrom.cls ≠ "java/lang/invoke/VarHandle" ∧ (parseMethodDescriptor yX0_firstFrom.desc).map (fun d => d.parameters.length) = some 1 := by decide +kernel
set_option maxHeartbeats 8000000 in
set_option maxRecDepth 100000 in
theorem c_X0_firstFrom (l : Launch) (D : va_G) (cI cJ cZ cO : ClassId) (tA tAr : Nat) (tr : Nat → Int32) (ts : Int32) (v1 : Int32) (K : Int32 → Prop) (hw : wp_X0_firstFrom tr ts v1 K) : Ci l D (tys4 cI cJ cZ cO) yX0_firstFrom wsX0_firstFrom { frames := 0, cells := 0, slots := 0, locals := 0 } [.ref tA, .int v1] [(tA, .inr (0, [.ref tAr, .int ts])), (tAr, .inl (cI, 32, .inl tr))] (fun (r : Int32) (_ : Unit) => K r) (fun _ => [(tA, .inr (0, [.ref tAr, .int ts])), (tAr, .inl (cI, 32, .inl tr))]) := by
  refine mt_i (cc := cX0_firstFrom) (maxL := 3) (rt := .int) (by decide) rfl (Nat.le_of_ble_eq_true rfl) ?_
  intro p e s m args below meth c Q A R ls hRf hRl hx hb hml hown hts hK hA hP hD hS hl ret
  have hown : s.vm.findClass RX0 = some m.cls := hown
  have hl : lv_has ls 3 [(0, .ref tA), (1, .int v1)] := hl
  have N2 : ∀  (k : Nat) (v2 : Int32), wp_X0_firstFrom_2 tr ts v1 K   k v2 → ∀ (H : Heap) (locs : List Loc) (ls : Array Slot), va_P D vwCl [(tA, .inr (0, [.ref tAr, .int ts])), (tAr, .inl (cI, 32, .inl tr))] H → va_D A [(tA, .inr (0, [.ref tAr, .int ts])), (tAr, .inl (cI, 32, .inl tr))] → va_S A s.heap H locs → lv_has ls 3 [(0, .ref tA), (1, .int v1), (2, .int v2)] → W p l e R s m args below meth c H locs 0 0 Q (F0 m 2 ls []) := by
    intro k
    induction k with
    | zero => intro v2 hw; exact False.elim hw
    | succ k ih2 =>
      intro v2 hw H locs ls hP hD hS hl
      have hw : wp_X0_firstFrom_2b tr ts v1 K (wp_X0_firstFrom_2 tr ts v1 K   k)   v2 := hw
      unfold wp_X0_firstFrom_2b at hw
      generalize wp_X0_firstFrom_2 tr ts v1 K   k = L2 at hw ih2
      refine lv_iload_n hx hb dX0_firstFrom_2 rfl (lv_at hl 2 rfl) ?_
      refine lv_aload_n hx hb dX0_firstFrom_3 rfl (lv_at hl 0 rfl) ?_
      refine va_get (D := D) (ci := 0) (v := .int ts) (C := RX0) (T := TX0) (N := 2) hx hb hts in_X0_firstFrom_X0 hown hK hP 0 rfl rfl 1 (by decide) (hts (.fieldLink RX0 9 "LiveHull$Chain" "size" "I") (List.mem_of_getElem? (i := 1) rfl)) (fun x9 h9 => u_same (hts (.sameField "LiveHull$Chain" "LiveHull$Corners" "size" "I") (List.mem_of_getElem? (i := 2) rfl)) x9 h9) rfl dX0_firstFrom_4 ?_
      obtain ⟨hwA, hwB⟩ := hw
      refine lv_icmp_ge (tgt := 33) hx hb dX0_firstFrom_7 (by decide) (fun cb => ?_) (fun cb => ?_)
      · have hw := hwA cb
        refine lv_bipush (v := (-6)) hx hb dX0_firstFrom_33 (by decide) ?_
        exact ret _ _ _ _ (-6) () (vp_nar_int _) hw hP hD hS dX0_firstFrom_35
      · have hw := hwB cb
        refine lv_aload_n hx hb dX0_firstFrom_10 rfl (lv_at hl 0 rfl) ?_
        refine va_get (D := D) (ci := 0) (v := .ref tAr) (C := RX0) (T := TX0) (N := 2) hx hb hts in_X0_firstFrom_X0 hown hK hP 0 rfl rfl 0 (by decide) (hts (.fieldLink RX0 33 "LiveHull$Chain" "ranks" "[I") (List.mem_of_getElem? (i := 3) rfl)) (fun x9 h9 => u_same (hts (.sameField "LiveHull$Chain" "LiveHull$Corners" "ranks" "[I") (List.mem_of_getElem? (i := 4) rfl)) x9 h9) rfl dX0_firstFrom_11 ?_
        refine lv_iload_n hx hb dX0_firstFrom_14 rfl (lv_at hl 2 rfl) ?_
        obtain ⟨hi, hw⟩ := hw
        refine va_iald hx hb hK hP 1 0 rfl rfl hi dX0_firstFrom_15 ?_
        refine lv_iload_n hx hb dX0_firstFrom_16 rfl (lv_at hl 1 rfl) ?_
        obtain ⟨hwA, hwB⟩ := hw
        refine lv_icmp_lt (tgt := 27) hx hb dX0_firstFrom_17 (by decide) (fun cb => ?_) (fun cb => ?_)
        · have hw := hwA cb
          refine lv_iinc (v := (v2 + 1)) (lv' := [(2, .int (v2 + 1)), (0, .ref tA), (1, .int v1)]) hx hb dX0_firstFrom_27 hl (k := 2) rfl rfl (by decide) rfl (fun ls hl => ?_)
          refine lv_goto (tgt := 2) hx hb dX0_firstFrom_30 (by decide) ?_
          exact ih2 (v2 + 1) hw _ _ _ hP hD hS (lv_sub hl [1, 2, 0] rfl)
        · have hw := hwB cb
          refine lv_aload_n hx hb dX0_firstFrom_20 rfl (lv_at hl 0 rfl) ?_
          refine va_get (D := D) (ci := 0) (v := .ref tAr) (C := RX0) (T := TX0) (N := 2) hx hb hts in_X0_firstFrom_X0 hown hK hP 0 rfl rfl 0 (by decide) (hts (.fieldLink RX0 33 "LiveHull$Chain" "ranks" "[I") (List.mem_of_getElem? (i := 3) rfl)) (fun x9 h9 => u_same (hts (.sameField "LiveHull$Chain" "LiveHull$Corners" "ranks" "[I") (List.mem_of_getElem? (i := 4) rfl)) x9 h9) rfl dX0_firstFrom_21 ?_
          refine lv_iload_n hx hb dX0_firstFrom_24 rfl (lv_at hl 2 rfl) ?_
          obtain ⟨hi, hw⟩ := hw
          refine va_iald hx hb hK hP 1 0 rfl rfl hi dX0_firstFrom_25 ?_
          exact ret _ _ _ _ (tr v2.toNatClampNeg) () (vp_nar_int _) hw hP hD hS dX0_firstFrom_26
  unfold wp_X0_firstFrom at hw
  refine lv_iconst (v := 0) hx hb dX0_firstFrom_0 (by decide) ?_
  refine lv_istore_n (lv' := [(2, .int 0), (0, .ref tA), (1, .int v1)]) hx hb dX0_firstFrom_1 rfl hl (by decide) rfl (fun ls hl => ?_)
  obtain ⟨k, hw⟩ := hw
  exact N2  k 0 hw _ _ _ hP hD hS (lv_sub hl [1, 2, 0] rfl)
