/-- X3_idAt -/
def wp_X3_idAt (pd : Nat → Int32) (pn : Int32) (v1 : Int32) (K : Int32 → Prop) : Prop := ((v1 < 0 → (K (-6))) ∧ (¬ v1 < 0 → ((pn ≤ v1 → (K (-6))) ∧ (¬ pn ≤ v1 → (vp_in v1 32 ∧ (K (pd v1.toNatClampNeg)))))))
/-- X3_rankOf -/
def wp_X3_rankOf_2b (pd : Nat → Int32) (pn : Int32) (v1 : Int32) (K : Int32 → Prop) (L2 : Int32 → Prop)   (v2 : Int32) : Prop := ((pn ≤ v2 → (K (-6))) ∧ (¬ pn ≤ v2 → (vp_in v2 32 ∧ ((¬ (pd v2.toNatClampNeg) = v1 → (L2 (v2 + 1))) ∧ ((pd v2.toNatClampNeg) = v1 → (K v2))))))
def wp_X3_rankOf_2 (pd : Nat → Int32) (pn : Int32) (v1 : Int32) (K : Int32 → Prop)   : Nat → Int32 → Prop
  | 0 => fun _ => False
  | k + 1 => fun v2 => wp_X3_rankOf_2b pd pn v1 K (wp_X3_rankOf_2 pd pn v1 K   k)   v2
def wp_X3_rankOf (pd : Nat → Int32) (pn : Int32) (v1 : Int32) (K : Int32 → Prop) : Prop := (∃ k, wp_X3_rankOf_2 pd pn v1 K   k 0)
/-- X3_isAt -/
def wp_X3_isAt (px : Nat → Int32) (py : Nat → Int32) (v1 : Int32) (v2 : Int32) (v3 : Int32) (K : Int32 → Prop) : Prop := (vp_in v1 32 ∧ ((¬ (px v1.toNatClampNeg) = v2 → (K 0)) ∧ ((px v1.toNatClampNeg) = v2 → (vp_in v1 32 ∧ ((¬ (py v1.toNatClampNeg) = v3 → (K 0)) ∧ ((py v1.toNatClampNeg) = v3 → (K 1)))))))
/-- X3_isTaken -/
def wp_X3_isTaken_2b (px : Nat → Int32) (py : Nat → Int32) (pn : Int32) (v1 : Int32) (v2 : Int32) (K : Int32 → Prop) (L2 : Int32 → Prop)   (v3 : Int32) : Prop := ((pn ≤ v3 → (K 0)) ∧ (¬ pn ≤ v3 → (wp_X3_isAt px py v3 v1 v2 (fun r14 => ((r14 = 0 → (L2 (v3 + 1))) ∧ (¬ r14 = 0 → (K 1)))))))
def wp_X3_isTaken_2 (px : Nat → Int32) (py : Nat → Int32) (pn : Int32) (v1 : Int32) (v2 : Int32) (K : Int32 → Prop)   : Nat → Int32 → Prop
  | 0 => fun _ => False
  | k + 1 => fun v3 => wp_X3_isTaken_2b px py pn v1 v2 K (wp_X3_isTaken_2 px py pn v1 v2 K   k)   v3
def wp_X3_isTaken (px : Nat → Int32) (py : Nat → Int32) (pn : Int32) (v1 : Int32) (v2 : Int32) (K : Int32 → Prop) : Prop := (∃ k, wp_X3_isTaken_2 px py pn v1 v2 K   k 0)
/-- X3_leastFreeId -/
def wp_X3_leastFreeId_2b (pd : Nat → Int32) (pn : Int32) (K : Int32 → Prop) (L2 : Int32 → Prop)   (v1 : Int32) : Prop := (((32 : Int32) ≤ v1 → (K (-6))) ∧ (¬ (32 : Int32) ≤ v1 → (wp_X3_rankOf pd pn v1 (fun r10 => ((¬ r10 = ((-6) : Int32) → (L2 (v1 + 1))) ∧ (r10 = ((-6) : Int32) → (K v1)))))))
def wp_X3_leastFreeId_2 (pd : Nat → Int32) (pn : Int32) (K : Int32 → Prop)   : Nat → Int32 → Prop
  | 0 => fun _ => False
  | k + 1 => fun v1 => wp_X3_leastFreeId_2b pd pn K (wp_X3_leastFreeId_2 pd pn K   k)   v1
def wp_X3_leastFreeId (pd : Nat → Int32) (pn : Int32) (K : Int32 → Prop) : Prop := (∃ k, wp_X3_leastFreeId_2 pd pn K   k 0)
/-- X3_isBefore -/
def wp_X3_isBefore (px : Nat → Int32) (py : Nat → Int32) (v1 : Int32) (v2 : Int32) (v3 : Int32) (K : Int32 → Prop) : Prop := (vp_in v3 32 ∧ ((v1 < (px v3.toNatClampNeg) → (K 1)) ∧ (¬ v1 < (px v3.toNatClampNeg) → (vp_in v3 32 ∧ ((¬ v1 = (px v3.toNatClampNeg) → (K 0)) ∧ (v1 = (px v3.toNatClampNeg) → (vp_in v3 32 ∧ (((py v3.toNatClampNeg) ≤ v2 → (K 0)) ∧ (¬ (py v3.toNatClampNeg) ≤ v2 → (K 1))))))))))
/-- X3_setRow -/
def wp_X3_setRow (pd : Nat → Int32) (px : Nat → Int32) (py : Nat → Int32) (v1 : Int32) (v2 : Int32) (v3 : Int32) (v4 : Int32) (K : (Nat → Int32) → (Nat → Int32) → (Nat → Int32) → Prop) : Prop := (vp_in v1 32 ∧ (vp_in v1 32 ∧ (vp_in v1 32 ∧ (K (upd pd v1.toNatClampNeg v2) (upd px v1.toNatClampNeg v3) (upd py v1.toNatClampNeg v4)))))
/-- X3_insert -/
def wp_X3_insert_73 (v1 : Int32) (v2 : Int32) (v3 : Int32) (K : (Nat → Int32) → (Nat → Int32) → (Nat → Int32) → Int32 → Prop)  (pd : Nat → Int32) (px : Nat → Int32) (py : Nat → Int32) (pn : Int32) (v4 : Int32) : Prop := (wp_X3_setRow pd px py v4 v1 v2 v3 (fun pd_79 px_79 py_79 => (K pd_79 px_79 py_79 (pn + 1))))
def wp_X3_insert_16b (v1 : Int32) (v2 : Int32) (v3 : Int32) (K : (Nat → Int32) → (Nat → Int32) → (Nat → Int32) → Int32 → Prop) (L16 : (Nat → Int32) → (Nat → Int32) → (Nat → Int32) → Int32 → Prop)  (pn : Int32) (pd : Nat → Int32) (px : Nat → Int32) (py : Nat → Int32) (v4 : Int32) : Prop := ((v4 ≤ 0 → (wp_X3_insert_73 v1 v2 v3 K  pd px py pn v4)) ∧ (¬ v4 ≤ 0 → (wp_X3_isBefore px py v2 v3 (v4 - 1) (fun r28 => ((r28 = 0 → (wp_X3_insert_73 v1 v2 v3 K  pd px py pn v4)) ∧ (¬ r28 = 0 → (vp_in (v4 - 1) 32 ∧ (vp_in (v4 - 1) 32 ∧ (vp_in (v4 - 1) 32 ∧ (wp_X3_setRow pd px py v4 (pd (v4 - 1).toNatClampNeg) (px (v4 - 1).toNatClampNeg) (py (v4 - 1).toNatClampNeg) (fun pd_64 px_64 py_64 => (L16 pd_64 px_64 py_64 (v4 + (-1))))))))))))))
def wp_X3_insert_16 (v1 : Int32) (v2 : Int32) (v3 : Int32) (K : (Nat → Int32) → (Nat → Int32) → (Nat → Int32) → Int32 → Prop)  (pn : Int32) : Nat → (Nat → Int32) → (Nat → Int32) → (Nat → Int32) → Int32 → Prop
  | 0 => fun _ _ _ _ => False
  | k + 1 => fun pd px py v4 => wp_X3_insert_16b v1 v2 v3 K (wp_X3_insert_16 v1 v2 v3 K  pn k)  pn pd px py v4
def wp_X3_insert (pd : Nat → Int32) (px : Nat → Int32) (py : Nat → Int32) (pn : Int32) (v1 : Int32) (v2 : Int32) (v3 : Int32) (K : (Nat → Int32) → (Nat → Int32) → (Nat → Int32) → Int32 → Prop) : Prop := ((pn < (32 : Int32) → (∃ k, wp_X3_insert_16 v1 v2 v3 K  pn k pd px py pn)) ∧ (¬ pn < (32 : Int32) → (K pd px py pn)))
/-- X3_delete -/
def wp_X3_delete_17b (v1 : Int32) (K : (Nat → Int32) → (Nat → Int32) → (Nat → Int32) → Int32 → Prop) (L17 : (Nat → Int32) → (Nat → Int32) → (Nat → Int32) → Int32 → Prop)  (pn : Int32) (pd : Nat → Int32) (px : Nat → Int32) (py : Nat → Int32) (v2 : Int32) : Prop := ((pn ≤ v2 → (K pd px py (pn - 1))) ∧ (¬ pn ≤ v2 → (vp_in v2 32 ∧ (vp_in v2 32 ∧ (vp_in v2 32 ∧ (wp_X3_setRow pd px py (v2 - 1) (pd v2.toNatClampNeg) (px v2.toNatClampNeg) (py v2.toNatClampNeg) (fun pd_47 px_47 py_47 => (L17 pd_47 px_47 py_47 (v2 + 1)))))))))
def wp_X3_delete_17 (v1 : Int32) (K : (Nat → Int32) → (Nat → Int32) → (Nat → Int32) → Int32 → Prop)  (pn : Int32) : Nat → (Nat → Int32) → (Nat → Int32) → (Nat → Int32) → Int32 → Prop
  | 0 => fun _ _ _ _ => False
  | k + 1 => fun pd px py v2 => wp_X3_delete_17b v1 K (wp_X3_delete_17 v1 K  pn k)  pn pd px py v2
def wp_X3_delete (pd : Nat → Int32) (px : Nat → Int32) (py : Nat → Int32) (pn : Int32) (v1 : Int32) (K : (Nat → Int32) → (Nat → Int32) → (Nat → Int32) → Int32 → Prop) : Prop := ((v1 < 0 → (K pd px py pn)) ∧ (¬ v1 < 0 → ((v1 < pn → (∃ k, wp_X3_delete_17 v1 K  pn k pd px py (v1 + 1))) ∧ (¬ v1 < pn → (K pd px py pn)))))
/-- X3_copyFrom -/
def wp_X3_copyFrom_2b (zd : Nat → Int32) (zx : Nat → Int32) (zy : Nat → Int32) (zn : Int32) (K : (Nat → Int32) → (Nat → Int32) → (Nat → Int32) → Int32 → Prop) (L2 : (Nat → Int32) → (Nat → Int32) → (Nat → Int32) → Int32 → Prop)  (pn : Int32) (pd : Nat → Int32) (px : Nat → Int32) (py : Nat → Int32) (v2 : Int32) : Prop := ((zn ≤ v2 → (K pd px py zn)) ∧ (¬ zn ≤ v2 → (vp_in v2 32 ∧ (vp_in v2 32 ∧ (vp_in v2 32 ∧ (wp_X3_setRow pd px py v2 (zd v2.toNatClampNeg) (zx v2.toNatClampNeg) (zy v2.toNatClampNeg) (fun pd_30 px_30 py_30 => (L2 pd_30 px_30 py_30 (v2 + 1)))))))))
def wp_X3_copyFrom_2 (zd : Nat → Int32) (zx : Nat → Int32) (zy : Nat → Int32) (zn : Int32) (K : (Nat → Int32) → (Nat → Int32) → (Nat → Int32) → Int32 → Prop)  (pn : Int32) : Nat → (Nat → Int32) → (Nat → Int32) → (Nat → Int32) → Int32 → Prop
  | 0 => fun _ _ _ _ => False
  | k + 1 => fun pd px py v2 => wp_X3_copyFrom_2b zd zx zy zn K (wp_X3_copyFrom_2 zd zx zy zn K  pn k)  pn pd px py v2
def wp_X3_copyFrom (pd : Nat → Int32) (px : Nat → Int32) (py : Nat → Int32) (pn : Int32) (zd : Nat → Int32) (zx : Nat → Int32) (zy : Nat → Int32) (zn : Int32) (K : (Nat → Int32) → (Nat → Int32) → (Nat → Int32) → Int32 → Prop) : Prop := (∃ k, wp_X3_copyFrom_2 zd zx zy zn K  pn k pd px py 0)
/-- X3_turn -/
def wp_X3_turn (px : Nat → Int32) (py : Nat → Int32) (v1 : Int32) (v2 : Int32) (v3 : Int32) (v4 : Int32) (K : Int64 → Prop) : Prop := (vp_in v2 32 ∧ (vp_in v1 32 ∧ (vp_in v2 32 ∧ (vp_in v1 32 ∧ (vp_in v1 32 ∧ (vp_in v1 32 ∧ (K ((((px v2.toNatClampNeg).toInt64 - (px v1.toNatClampNeg).toInt64) * (v4.toInt64 - (py v1.toNatClampNeg).toInt64)) - (((py v2.toNatClampNeg).toInt64 - (py v1.toNatClampNeg).toInt64) * (v3.toInt64 - (px v1.toNatClampNeg).toInt64))))))))))
/-- X3_isBoxed -/
def wp_X3_isBoxed (px : Nat → Int32) (py : Nat → Int32) (v1 : Int32) (v2 : Int32) (v3 : Int32) (v4 : Int32) (K : Int32 → Prop) : Prop := (vp_in v1 32 ∧ (vp_in v2 32 ∧ ((v3 < (if (px v2.toNatClampNeg) < (px v1.toNatClampNeg) then (px v2.toNatClampNeg) else (px v1.toNatClampNeg)) → (K 0)) ∧ (¬ v3 < (if (px v2.toNatClampNeg) < (px v1.toNatClampNeg) then (px v2.toNatClampNeg) else (px v1.toNatClampNeg)) → (vp_in v1 32 ∧ (vp_in v2 32 ∧ (((if (px v1.toNatClampNeg) < (px v2.toNatClampNeg) then (px v2.toNatClampNeg) else (px v1.toNatClampNeg)) < v3 → (K 0)) ∧ (¬ (if (px v1.toNatClampNeg) < (px v2.toNatClampNeg) then (px v2.toNatClampNeg) else (px v1.toNatClampNeg)) < v3 → (vp_in v1 32 ∧ (vp_in v2 32 ∧ ((v4 < (if (py v2.toNatClampNeg) < (py v1.toNatClampNeg) then (py v2.toNatClampNeg) else (py v1.toNatClampNeg)) → (K 0)) ∧ (¬ v4 < (if (py v2.toNatClampNeg) < (py v1.toNatClampNeg) then (py v2.toNatClampNeg) else (py v1.toNatClampNeg)) → (vp_in v1 32 ∧ (vp_in v2 32 ∧ (((if (py v1.toNatClampNeg) < (py v2.toNatClampNeg) then (py v2.toNatClampNeg) else (py v1.toNatClampNeg)) < v4 → (K 0)) ∧ (¬ (if (py v1.toNatClampNeg) < (py v2.toNatClampNeg) then (py v2.toNatClampNeg) else (py v1.toNatClampNeg)) < v4 → (K 1)))))))))))))))))
/-- X3_reach -/
def wp_X3_reach (px : Nat → Int32) (py : Nat → Int32) (v1 : Int32) (v2 : Int32) (v3 : Int32) (K : Int64 → Prop) : Prop := (vp_in v1 32 ∧ (vp_in v1 32 ∧ (K ((v2.toInt64 * (px v1.toNatClampNeg).toInt64) + (v3.toInt64 * (py v1.toNatClampNeg).toInt64)))))
/-- X3_squaredDistance -/
def wp_X3_squaredDistance (px : Nat → Int32) (py : Nat → Int32) (v1 : Int32) (v2 : Int32) (v3 : Int32) (K : Int64 → Prop) : Prop := (vp_in v1 32 ∧ (vp_in v1 32 ∧ (K (((v2.toInt64 - (px v1.toNatClampNeg).toInt64) * (v2.toInt64 - (px v1.toNatClampNeg).toInt64)) + ((v3.toInt64 - (py v1.toNatClampNeg).toInt64) * (v3.toInt64 - (py v1.toNatClampNeg).toInt64))))))
theorem in_X3_idAt_X3 : ∀ w ∈ wsX30, w ∈ wsX3_idAt := fun _ h => List.mem_cons_of_mem _ (List.mem_append_right _ h)
theorem hd_X3_idAt : yX3_idAt.cls = RX3 ∧ yX3_idAt.cls ≠ "java/lang/invoke/MethodHandle" ∧ yX3_idAt.cls ≠ "java/lang/invoke/VarHandle" ∧ (parseMethodDescriptor yX3_idAt.desc).map (fun d => d.parameters.length) = some 1 := by decide +kernel
set_option maxHeartbeats 8000000 in
set_option maxRecDepth 100000 in
theorem c_X3_idAt (l : Launch) (D : va_G) (cI cJ cZ cO : ClassId) (pA pAd pAx pAy : Nat) (pd : Nat → Int32) (px : Nat → Int32) (py : Nat → Int32) (pn : Int32) (v1 : Int32) (K : Int32 → Prop) (hw : wp_X3_idAt pd pn v1 K) : Ci l D (tys4 cI cJ cZ cO) yX3_idAt wsX3_idAt { frames := 0, cells := 0, slots := 0, locals := 0 } [.ref pA, .int v1] [(pA, .inr (2, [.ref pAd, .ref pAx, .ref pAy, .int pn])), (pAd, .inl (cI, 32, .inl pd)), (pAx, .inl (cI, 32, .inl px)), (pAy, .inl (cI, 32, .inl py))] (fun (r : Int32) (_ : Unit) => K r) (fun _ => [(pA, .inr (2, [.ref pAd, .ref pAx, .ref pAy, .int pn])), (pAd, .inl (cI, 32, .inl pd)), (pAx, .inl (cI, 32, .inl px)), (pAy, .inl (cI, 32, .inl py))]) := by
  refine mt_i (cc := cX3_idAt) (maxL := 2) (rt := .int) (by decide) rfl (Nat.le_of_ble_eq_true rfl) ?_
  intro p e s m args below meth c Q A R ls hRf hRl hx hb hml hown hts hK hA hP hD hS hl ret
  have hown : s.vm.findClass RX3 = some m.cls := hown
  have hl : lv_has ls 2 [(0, .ref pA), (1, .int v1)] := hl
  unfold wp_X3_idAt at hw
  refine lv_iload_n hx hb dX3_idAt_0 rfl (lv_at hl 1 rfl) ?_
  obtain ⟨hwA, hwB⟩ := hw
  refine lv_if_lt (tgt := 21) hx hb dX3_idAt_1 (by decide) (fun cb => ?_) (fun cb => ?_)
  · have hw := hwA cb
    refine lv_bipush (v := (-6)) hx hb dX3_idAt_21 (by decide) ?_
    exact ret _ _ _ _ (-6) () (vp_nar_int _) hw hP hD hS dX3_idAt_23
  · have hw := hwB cb
    refine lv_iload_n hx hb dX3_idAt_4 rfl (lv_at hl 1 rfl) ?_
    refine lv_aload_n hx hb dX3_idAt_5 rfl (lv_at hl 0 rfl) ?_
    refine va_get (D := D) (ci := 2) (v := .int pn) (C := RX3) (T := TX3) (N := 4) hx hb hts in_X3_idAt_X3 hown hK hP 0 rfl rfl 3 (by decide) (hts (.fieldLink RX3 21 "LiveHull$Points" "count" "I") (List.mem_of_getElem? (i := 1) rfl)) (fun _ h9 => h9) rfl dX3_idAt_6 ?_
    obtain ⟨hwA, hwB⟩ := hw
    refine lv_icmp_ge (tgt := 21) hx hb dX3_idAt_9 (by decide) (fun cb => ?_) (fun cb => ?_)
    · have hw := hwA cb
      refine lv_bipush (v := (-6)) hx hb dX3_idAt_21 (by decide) ?_
      exact ret _ _ _ _ (-6) () (vp_nar_int _) hw hP hD hS dX3_idAt_23
    · have hw := hwB cb
      refine lv_aload_n hx hb dX3_idAt_12 rfl (lv_at hl 0 rfl) ?_
      refine va_get (D := D) (ci := 2) (v := .ref pAd) (C := RX3) (T := TX3) (N := 4) hx hb hts in_X3_idAt_X3 hown hK hP 0 rfl rfl 0 (by decide) (hts (.fieldLink RX3 9 "LiveHull$Points" "ids" "[I") (List.mem_of_getElem? (i := 2) rfl)) (fun _ h9 => h9) rfl dX3_idAt_13 ?_
      refine lv_iload_n hx hb dX3_idAt_16 rfl (lv_at hl 1 rfl) ?_
      obtain ⟨hi, hw⟩ := hw
      refine va_iald hx hb hK hP 1 0 rfl rfl hi dX3_idAt_17 ?_
      refine lv_goto (tgt := 23) hx hb dX3_idAt_18 (by decide) ?_
      exact ret _ _ _ _ (pd v1.toNatClampNeg) () (vp_nar_int _) hw hP hD hS dX3_idAt_23
theorem in_X3_rankOf_X3 : ∀ w ∈ wsX30, w ∈ wsX3_rankOf := fun _ h => List.mem_cons_of_mem _ (List.mem_append_right _ h)
theorem hd_X3_rankOf : yX3_rankOf.cls = RX3 ∧ yX3_rankOf.cls ≠ "java/lang/invoke/MethodHandle" ∧ yX3_rankOf.cls ≠ "java/lang/invoke/VarHandle" ∧ (parseMethodDescriptor yX3_rankOf.desc).map (fun d => d.parameters.length) = some 1 := by decide +kernel
set_option maxHeartbeats 8000000 in
set_option maxRecDepth 100000 in
theorem c_X3_rankOf (l : Launch) (D : va_G) (cI cJ cZ cO : ClassId) (pA pAd pAx pAy : Nat) (pd : Nat → Int32) (px : Nat → Int32) (py : Nat → Int32) (pn : Int32) (v1 : Int32) (K : Int32 → Prop) (hw : wp_X3_rankOf pd pn v1 K) : Ci l D (tys4 cI cJ cZ cO) yX3_rankOf wsX3_rankOf { frames := 0, cells := 0, slots := 0, locals := 0 } [.ref pA, .int v1] [(pA, .inr (2, [.ref pAd, .ref pAx, .ref pAy, .int pn])), (pAd, .inl (cI, 32, .inl pd)), (pAx, .inl (cI, 32, .inl px)), (pAy, .inl (cI, 32, .inl py))] (fun (r : Int32) (_ : Unit) => K r) (fun _ => [(pA, .inr (2, [.ref pAd, .ref pAx, .ref pAy, .int pn])), (pAd, .inl (cI, 32, .inl pd)), (pAx, .inl (cI, 32, .inl px)), (pAy, .inl (cI, 32, .inl py))]) := by
  refine mt_i (cc := cX3_rankOf) (maxL := 3) (rt := .int) (by decide) rfl (Nat.le_of_ble_eq_true rfl) ?_
  intro p e s m args below meth c Q A R ls hRf hRl hx hb hml hown hts hK hA hP hD hS hl ret
  have hown : s.vm.findClass RX3 = some m.cls := hown
  have hl : lv_has ls 3 [(0, .ref pA), (1, .int v1)] := hl
  have N2 : ∀  (k : Nat) (v2 : Int32), wp_X3_rankOf_2 pd pn v1 K   k v2 → ∀ (H : Heap) (locs : List Loc) (ls : Array Slot), va_P D vwCl [(pA, .inr (2, [.ref pAd, .ref pAx, .ref pAy, .int pn])), (pAd, .inl (cI, 32, .inl pd)), (pAx, .inl (cI, 32, .inl px)), (pAy, .inl (cI, 32, .inl py))] H → va_D A [(pA, .inr (2, [.ref pAd, .ref pAx, .ref pAy, .int pn])), (pAd, .inl (cI, 32, .inl pd)), (pAx, .inl (cI, 32, .inl px)), (pAy, .inl (cI, 32, .inl py))] → va_S A s.heap H locs → lv_has ls 3 [(0, .ref pA), (1, .int v1), (2, .int v2)] → W p l e R s m args below meth c H locs 0 0 Q (F0 m 2 ls []) := by
    intro k
    induction k with
    | zero => intro v2 hw; exact False.elim hw
    | succ k ih2 =>
      intro v2 hw H locs ls hP hD hS hl
      have hw : wp_X3_rankOf_2b pd pn v1 K (wp_X3_rankOf_2 pd pn v1 K   k)   v2 := hw
      unfold wp_X3_rankOf_2b at hw
      generalize wp_X3_rankOf_2 pd pn v1 K   k = L2 at hw ih2
      refine lv_iload_n hx hb dX3_rankOf_2 rfl (lv_at hl 2 rfl) ?_
      refine lv_aload_n hx hb dX3_rankOf_3 rfl (lv_at hl 0 rfl) ?_
      refine va_get (D := D) (ci := 2) (v := .int pn) (C := RX3) (T := TX3) (N := 4) hx hb hts in_X3_rankOf_X3 hown hK hP 0 rfl rfl 3 (by decide) (hts (.fieldLink RX3 21 "LiveHull$Points" "count" "I") (List.mem_of_getElem? (i := 1) rfl)) (fun _ h9 => h9) rfl dX3_rankOf_4 ?_
      obtain ⟨hwA, hwB⟩ := hw
      refine lv_icmp_ge (tgt := 28) hx hb dX3_rankOf_7 (by decide) (fun cb => ?_) (fun cb => ?_)
      · have hw := hwA cb
        refine lv_bipush (v := (-6)) hx hb dX3_rankOf_28 (by decide) ?_
        exact ret _ _ _ _ (-6) () (vp_nar_int _) hw hP hD hS dX3_rankOf_30
      · have hw := hwB cb
        refine lv_aload_n hx hb dX3_rankOf_10 rfl (lv_at hl 0 rfl) ?_
        refine va_get (D := D) (ci := 2) (v := .ref pAd) (C := RX3) (T := TX3) (N := 4) hx hb hts in_X3_rankOf_X3 hown hK hP 0 rfl rfl 0 (by decide) (hts (.fieldLink RX3 9 "LiveHull$Points" "ids" "[I") (List.mem_of_getElem? (i := 2) rfl)) (fun _ h9 => h9) rfl dX3_rankOf_11 ?_
        refine lv_iload_n hx hb dX3_rankOf_14 rfl (lv_at hl 2 rfl) ?_
        obtain ⟨hi, hw⟩ := hw
        refine va_iald hx hb hK hP 1 0 rfl rfl hi dX3_rankOf_15 ?_
        refine lv_iload_n hx hb dX3_rankOf_16 rfl (lv_at hl 1 rfl) ?_
        obtain ⟨hwA, hwB⟩ := hw
        refine lv_icmp_ne (tgt := 22) hx hb dX3_rankOf_17 (by decide) (fun cb => ?_) (fun cb => ?_)
        · have hw := hwA cb
          refine lv_iinc (v := (v2 + 1)) (lv' := [(2, .int (v2 + 1)), (0, .ref pA), (1, .int v1)]) hx hb dX3_rankOf_22 hl (k := 2) rfl rfl (by decide) rfl (fun ls hl => ?_)
          refine lv_goto (tgt := 2) hx hb dX3_rankOf_25 (by decide) ?_
          exact ih2 (v2 + 1) hw _ _ _ hP hD hS (lv_sub hl [1, 2, 0] rfl)
        · have hw := hwB cb
          refine lv_iload_n hx hb dX3_rankOf_20 rfl (lv_at hl 2 rfl) ?_
          exact ret _ _ _ _ v2 () (vp_nar_int _) hw hP hD hS dX3_rankOf_21
  unfold wp_X3_rankOf at hw
  refine lv_iconst (v := 0) hx hb dX3_rankOf_0 (by decide) ?_
  refine lv_istore_n (lv' := [(2, .int 0), (0, .ref pA), (1, .int v1)]) hx hb dX3_rankOf_1 rfl hl (by decide) rfl (fun ls hl => ?_)
  obtain ⟨k, hw⟩ := hw
  exact N2  k 0 hw _ _ _ hP hD hS (lv_sub hl [1, 2, 0] rfl)
theorem in_X3_isAt_X3 : ∀ w ∈ wsX30, w ∈ wsX3_isAt := fun _ h => List.mem_cons_of_mem _ (List.mem_append_right _ h)
theorem hd_X3_isAt : yX3_isAt.cls = RX3 ∧ yX3_isAt.cls ≠ "java/lang/invoke/MethodHandle" ∧ yX3_isAt.cls ≠ "java/lang/invoke/VarHandle" ∧ (parseMethodDescriptor yX3_isAt.desc).map (fun d => d.parameters.length) = some 3 := by decide +kernel
set_option maxHeartbeats 8000000 in
set_option maxRecDepth 100000 in
theorem c_X3_isAt (l : Launch) (D : va_G) (cI cJ cZ cO : ClassId) (pA pAd pAx pAy : Nat) (pd : Nat → Int32) (px : Nat → Int32) (py : Nat → Int32) (pn : Int32) (v1 : Int32) (v2 : Int32) (v3 : Int32) (K : Int32 → Prop) (hw : wp_X3_isAt px py v1 v2 v3 K) : Ci l D (tys4 cI cJ cZ cO) yX3_isAt wsX3_isAt { frames := 0, cells := 0, slots := 0, locals := 0 } [.ref pA, .int v1, .int v2, .int v3] [(pA, .inr (2, [.ref pAd, .ref pAx, .ref pAy, .int pn])), (pAd, .inl (cI, 32, .inl pd)), (pAx, .inl (cI, 32, .inl px)), (pAy, .inl (cI, 32, .inl py))] (fun (r : Int32) (_ : Unit) => K r) (fun _ => [(pA, .inr (2, [.ref pAd, .ref pAx, .ref pAy, .int pn])), (pAd, .inl (cI, 32, .inl pd)), (pAx, .inl (cI, 32, .inl px)), (pAy, .inl (cI, 32, .inl py))]) := by
  refine mt_i (cc := cX3_isAt) (maxL := 4) (rt := .boolean) (by decide) rfl (Nat.le_of_ble_eq_true rfl) ?_
  intro p e s m args below meth c Q A R ls hRf hRl hx hb hml hown hts hK hA hP hD hS hl ret
  have hown : s.vm.findClass RX3 = some m.cls := hown
  have hl : lv_has ls 4 [(0, .ref pA), (1, .int v1), (2, .int v2), (3, .int v3)] := hl
  unfold wp_X3_isAt at hw
  refine lv_aload_n hx hb dX3_isAt_0 rfl (lv_at hl 0 rfl) ?_
  refine va_get (D := D) (ci := 2) (v := .ref pAx) (C := RX3) (T := TX3) (N := 4) hx hb hts in_X3_isAt_X3 hown hK hP 0 rfl rfl 1 (by decide) (hts (.fieldLink RX3 15 "LiveHull$Points" "xs" "[I") (List.mem_of_getElem? (i := 1) rfl)) (fun _ h9 => h9) rfl dX3_isAt_1 ?_
  refine lv_iload_n hx hb dX3_isAt_4 rfl (lv_at hl 1 rfl) ?_
  obtain ⟨hi, hw⟩ := hw
  refine va_iald hx hb hK hP 2 0 rfl rfl hi dX3_isAt_5 ?_
  refine lv_iload_n hx hb dX3_isAt_6 rfl (lv_at hl 2 rfl) ?_
  obtain ⟨hwA, hwB⟩ := hw
  refine lv_icmp_ne (tgt := 24) hx hb dX3_isAt_7 (by decide) (fun cb => ?_) (fun cb => ?_)
  · have hw := hwA cb
    refine lv_iconst (v := 0) hx hb dX3_isAt_24 (by decide) ?_
    exact ret _ _ _ _ 0 () rfl hw hP hD hS dX3_isAt_25
  · have hw := hwB cb
    refine lv_aload_n hx hb dX3_isAt_10 rfl (lv_at hl 0 rfl) ?_
    refine va_get (D := D) (ci := 2) (v := .ref pAy) (C := RX3) (T := TX3) (N := 4) hx hb hts in_X3_isAt_X3 hown hK hP 0 rfl rfl 2 (by decide) (hts (.fieldLink RX3 18 "LiveHull$Points" "ys" "[I") (List.mem_of_getElem? (i := 2) rfl)) (fun _ h9 => h9) rfl dX3_isAt_11 ?_
    refine lv_iload_n hx hb dX3_isAt_14 rfl (lv_at hl 1 rfl) ?_
    obtain ⟨hi, hw⟩ := hw
    refine va_iald hx hb hK hP 3 0 rfl rfl hi dX3_isAt_15 ?_
    refine lv_iload_n hx hb dX3_isAt_16 rfl (lv_at hl 3 rfl) ?_
    obtain ⟨hwA, hwB⟩ := hw
    refine lv_icmp_ne (tgt := 24) hx hb dX3_isAt_17 (by decide) (fun cb => ?_) (fun cb => ?_)
    · have hw := hwA cb
      refine lv_iconst (v := 0) hx hb dX3_isAt_24 (by decide) ?_
      exact ret _ _ _ _ 0 () rfl hw hP hD hS dX3_isAt_25
    · have hw := hwB cb
      refine lv_iconst (v := 1) hx hb dX3_isAt_20 (by decide) ?_
      refine lv_goto (tgt := 25) hx hb dX3_isAt_21 (by decide) ?_
      exact ret _ _ _ _ 1 () rfl hw hP hD hS dX3_isAt_25
theorem in_X3_isTaken_X3 : ∀ w ∈ wsX30, w ∈ wsX3_isTaken := fun _ h => List.mem_cons_of_mem _ (List.mem_append_right _ h)
theorem hd_X3_isTaken : yX3_isTaken.cls = RX3 ∧ yX3_isTaken.cls ≠ "java/lang/invoke/MethodHandle" ∧ yX3_isTaken.cls ≠ "java/lang/invoke/VarHandle" ∧ (parseMethodDescriptor yX3_isTaken.desc).map (fun d => d.parameters.length) = some 2 := by decide +kernel
set_option maxHeartbeats 8000000 in
set_option maxRecDepth 100000 in
theorem c_X3_isTaken (l : Launch) (D : va_G) (cI cJ cZ cO : ClassId) (pA pAd pAx pAy : Nat) (pd : Nat → Int32) (px : Nat → Int32) (py : Nat → Int32) (pn : Int32) (v1 : Int32) (v2 : Int32) (K : Int32 → Prop) (hw : wp_X3_isTaken px py pn v1 v2 K) : Ci l D (tys4 cI cJ cZ cO) yX3_isTaken wsX3_isTaken { frames := 1, cells := 0, slots := 0, locals := 23 } [.ref pA, .int v1, .int v2] [(pA, .inr (2, [.ref pAd, .ref pAx, .ref pAy, .int pn])), (pAd, .inl (cI, 32, .inl pd)), (pAx, .inl (cI, 32, .inl px)), (pAy, .inl (cI, 32, .inl py))] (fun (r : Int32) (_ : Unit) => K r) (fun _ => [(pA, .inr (2, [.ref pAd, .ref pAx, .ref pAy, .int pn])), (pAd, .inl (cI, 32, .inl pd)), (pAx, .inl (cI, 32, .inl px)), (pAy, .inl (cI, 32, .inl py))]) := by
  refine mt_i (cc := cX3_isTaken) (maxL := 4) (rt := .boolean) (by decide) rfl (Nat.le_of_ble_eq_true rfl) ?_
  intro p e s m args below meth c Q A R ls hRf hRl hx hb hml hown hts hK hA hP hD hS hl ret
  have hown : s.vm.findClass RX3 = some m.cls := hown
  have hl : lv_has ls 4 [(0, .ref pA), (1, .int v1), (2, .int v2)] := hl
  have N2 : ∀  (k : Nat) (v3 : Int32), wp_X3_isTaken_2 px py pn v1 v2 K   k v3 → ∀ (H : Heap) (locs : List Loc) (ls : Array Slot), va_P D vwCl [(pA, .inr (2, [.ref pAd, .ref pAx, .ref pAy, .int pn])), (pAd, .inl (cI, 32, .inl pd)), (pAx, .inl (cI, 32, .inl px)), (pAy, .inl (cI, 32, .inl py))] H → va_D A [(pA, .inr (2, [.ref pAd, .ref pAx, .ref pAy, .int pn])), (pAd, .inl (cI, 32, .inl pd)), (pAx, .inl (cI, 32, .inl px)), (pAy, .inl (cI, 32, .inl py))] → va_S A s.heap H locs → lv_has ls 4 [(0, .ref pA), (1, .int v1), (2, .int v2), (3, .int v3)] → W p l e R s m args below meth c H locs 0 0 Q (F0 m 2 ls []) := by
    intro k
    induction k with
    | zero => intro v3 hw; exact False.elim hw
    | succ k ih2 =>
      intro v3 hw H locs ls hP hD hS hl
      have hw : wp_X3_isTaken_2b px py pn v1 v2 K (wp_X3_isTaken_2 px py pn v1 v2 K   k)   v3 := hw
      unfold wp_X3_isTaken_2b at hw
      generalize wp_X3_isTaken_2 px py pn v1 v2 K   k = L2 at hw ih2
      refine lv_iload_n hx hb dX3_isTaken_2 rfl (lv_at hl 3 rfl) ?_
      refine lv_aload_n hx hb dX3_isTaken_3 rfl (lv_at hl 0 rfl) ?_
      refine va_get (D := D) (ci := 2) (v := .int pn) (C := RX3) (T := TX3) (N := 4) hx hb hts in_X3_isTaken_X3 hown hK hP 0 rfl rfl 3 (by decide) (hts (.fieldLink RX3 21 "LiveHull$Points" "count" "I") (List.mem_of_getElem? (i := 1) rfl)) (fun _ h9 => h9) rfl dX3_isTaken_4 ?_
      obtain ⟨hwA, hwB⟩ := hw
      refine lv_icmp_ge (tgt := 28) hx hb dX3_isTaken_7 (by decide) (fun cb => ?_) (fun cb => ?_)
      · have hw := hwA cb
        refine lv_iconst (v := 0) hx hb dX3_isTaken_28 (by decide) ?_
        exact ret _ _ _ _ 0 () rfl hw hP hD hS dX3_isTaken_29
      · have hw := hwB cb
        refine lv_aload_n hx hb dX3_isTaken_10 rfl (lv_at hl 0 rfl) ?_
        refine lv_iload_n hx hb dX3_isTaken_11 rfl (lv_at hl 3 rfl) ?_
        refine lv_iload_n hx hb dX3_isTaken_12 rfl (lv_at hl 1 rfl) ?_
        refine lv_iload_n hx hb dX3_isTaken_13 rfl (lv_at hl 2 rfl) ?_
        refine cl_Vi (As := [.int v3, .int v1, .int v2]) (rest := []) ⟨hx, hb, hml, hown, hts⟩ (c_X3_isAt l D cI cJ cZ cO pA pAd pAx pAy pd px py pn v3 v1 v2 _ hw) (cwV 3 hts gX3_isTaken_X3_isAt rfl rfl rfl hd_X3_isAt ⟨Nat.le_trans (Nat.le_of_ble_eq_true rfl) hRf, Nat.le_trans (Nat.le_of_ble_eq_true rfl) hRl⟩) hK hP hD hS hA [0, 1, 2, 3] [] rfl (by decide) rfl (by decide) (by decide) 0 2 rfl rfl rfl hl.1 rfl (Nat.le_of_ble_eq_true rfl) dX3_isTaken_14 ⟨Nat.zero_le _, Nat.zero_le _⟩ (fun r14 _u H locs hw hP hD hS => ?_)
        try dsimp only at hw
        have hP : va_P D vwCl [(pA, .inr (2, [.ref pAd, .ref pAx, .ref pAy, .int pn])), (pAd, .inl (cI, 32, .inl pd)), (pAx, .inl (cI, 32, .inl px)), (pAy, .inl (cI, 32, .inl py))] H := hP.sub [0, 1, 2, 3] rfl
        have hD : va_D A [(pA, .inr (2, [.ref pAd, .ref pAx, .ref pAy, .int pn])), (pAd, .inl (cI, 32, .inl pd)), (pAx, .inl (cI, 32, .inl px)), (pAy, .inl (cI, 32, .inl py))] := hD.sub [0, 1, 2, 3] (by decide) rfl
        obtain ⟨hwA, hwB⟩ := hw
        refine lv_if_eq (tgt := 22) hx hb dX3_isTaken_17 (by decide) (fun cb => ?_) (fun cb => ?_)
        · have hw := hwA cb
          refine lv_iinc (v := (v3 + 1)) (lv' := [(3, .int (v3 + 1)), (0, .ref pA), (1, .int v1), (2, .int v2)]) hx hb dX3_isTaken_22 hl (k := 3) rfl rfl (by decide) rfl (fun ls hl => ?_)
          refine lv_goto (tgt := 2) hx hb dX3_isTaken_25 (by decide) ?_
          exact ih2 (v3 + 1) hw _ _ _ hP hD hS (lv_sub hl [1, 2, 3, 0] rfl)
        · have hw := hwB cb
          refine lv_iconst (v := 1) hx hb dX3_isTaken_20 (by decide) ?_
          exact ret _ _ _ _ 1 () rfl hw hP hD hS dX3_isTaken_21
  unfold wp_X3_isTaken at hw
  refine lv_iconst (v := 0) hx hb dX3_isTaken_0 (by decide) ?_
  refine lv_istore_n (lv' := [(3, .int 0), (0, .ref pA), (1, .int v1), (2, .int v2)]) hx hb dX3_isTaken_1 rfl hl (by decide) rfl (fun ls hl => ?_)
  obtain ⟨k, hw⟩ := hw
  exact N2  k 0 hw _ _ _ hP hD hS (lv_sub hl [1, 2, 3, 0] rfl)
theorem hd_X3_leastFreeId : yX3_leastFreeId.cls = RX3 ∧ yX3_leastFreeId.cls ≠ "java/lang/invoke/MethodHandle" ∧ yX3_leastFreeId.cls ≠ "java/lang/invoke/VarHandle" ∧ (parseMethodDescriptor yX3_leastFreeId.desc).map (fun d => d.parameters.length) = some 0 := by decide +kernel
set_option maxHeartbeats 8000000 in
set_option maxRecDepth 100000 in
theorem c_X3_leastFreeId (l : Launch) (D : va_G) (cI cJ cZ cO : ClassId) (pA pAd pAx pAy : Nat) (pd : Nat → Int32) (px : Nat → Int32) (py : Nat → Int32) (pn : Int32)  (K : Int32 → Prop) (hw : wp_X3_leastFreeId pd pn K) : Ci l D (tys4 cI cJ cZ cO) yX3_leastFreeId wsX3_leastFreeId { frames := 1, cells := 0, slots := 0, locals := 22 } [.ref pA] [(pA, .inr (2, [.ref pAd, .ref pAx, .ref pAy, .int pn])), (pAd, .inl (cI, 32, .inl pd)), (pAx, .inl (cI, 32, .inl px)), (pAy, .inl (cI, 32, .inl py))] (fun (r : Int32) (_ : Unit) => K r) (fun _ => [(pA, .inr (2, [.ref pAd, .ref pAx, .ref pAy, .int pn])), (pAd, .inl (cI, 32, .inl pd)), (pAx, .inl (cI, 32, .inl px)), (pAy, .inl (cI, 32, .inl py))]) := by
  refine mt_i (cc := cX3_leastFreeId) (maxL := 2) (rt := .int) (by decide) rfl (Nat.le_of_ble_eq_true rfl) ?_
  intro p e s m args below meth c Q A R ls hRf hRl hx hb hml hown hts hK hA hP hD hS hl ret
  have hown : s.vm.findClass RX3 = some m.cls := hown
  have hl : lv_has ls 2 [(0, .ref pA)] := hl
  have N2 : ∀  (k : Nat) (v1 : Int32), wp_X3_leastFreeId_2 pd pn K   k v1 → ∀ (H : Heap) (locs : List Loc) (ls : Array Slot), va_P D vwCl [(pA, .inr (2, [.ref pAd, .ref pAx, .ref pAy, .int pn])), (pAd, .inl (cI, 32, .inl pd)), (pAx, .inl (cI, 32, .inl px)), (pAy, .inl (cI, 32, .inl py))] H → va_D A [(pA, .inr (2, [.ref pAd, .ref pAx, .ref pAy, .int pn])), (pAd, .inl (cI, 32, .inl pd)), (pAx, .inl (cI, 32, .inl px)), (pAy, .inl (cI, 32, .inl py))] → va_S A s.heap H locs → lv_has ls 2 [(0, .ref pA), (1, .int v1)] → W p l e R s m args below meth c H locs 0 0 Q (F0 m 2 ls []) := by
    intro k
    induction k with
    | zero => intro v1 hw; exact False.elim hw
    | succ k ih2 =>
      intro v1 hw H locs ls hP hD hS hl
      have hw : wp_X3_leastFreeId_2b pd pn K (wp_X3_leastFreeId_2 pd pn K   k)   v1 := hw
      unfold wp_X3_leastFreeId_2b at hw
      generalize wp_X3_leastFreeId_2 pd pn K   k = L2 at hw ih2
      refine lv_iload_n hx hb dX3_leastFreeId_2 rfl (lv_at hl 1 rfl) ?_
      refine lv_bipush (v := 32) hx hb dX3_leastFreeId_3 (by decide) ?_
      obtain ⟨hwA, hwB⟩ := hw
      refine lv_icmp_ge (tgt := 26) hx hb dX3_leastFreeId_5 (by decide) (fun cb => ?_) (fun cb => ?_)
      · have hw := hwA cb
        refine lv_bipush (v := (-6)) hx hb dX3_leastFreeId_26 (by decide) ?_
        exact ret _ _ _ _ (-6) () (vp_nar_int _) hw hP hD hS dX3_leastFreeId_28
      · have hw := hwB cb
        refine lv_aload_n hx hb dX3_leastFreeId_8 rfl (lv_at hl 0 rfl) ?_
        refine lv_iload_n hx hb dX3_leastFreeId_9 rfl (lv_at hl 1 rfl) ?_
        refine cl_Vi (As := [.int v1]) (rest := []) ⟨hx, hb, hml, hown, hts⟩ (c_X3_rankOf l D cI cJ cZ cO pA pAd pAx pAy pd px py pn v1 _ hw) (cwV 1 hts gX3_leastFreeId_X3_rankOf rfl rfl rfl hd_X3_rankOf ⟨Nat.le_trans (Nat.le_of_ble_eq_true rfl) hRf, Nat.le_trans (Nat.le_of_ble_eq_true rfl) hRl⟩) hK hP hD hS hA [0, 1, 2, 3] [] rfl (by decide) rfl (by decide) (by decide) 0 2 rfl rfl rfl hl.1 rfl (Nat.le_of_ble_eq_true rfl) dX3_leastFreeId_10 ⟨Nat.zero_le _, Nat.zero_le _⟩ (fun r10 _u H locs hw hP hD hS => ?_)
        try dsimp only at hw
        have hP : va_P D vwCl [(pA, .inr (2, [.ref pAd, .ref pAx, .ref pAy, .int pn])), (pAd, .inl (cI, 32, .inl pd)), (pAx, .inl (cI, 32, .inl px)), (pAy, .inl (cI, 32, .inl py))] H := hP.sub [0, 1, 2, 3] rfl
        have hD : va_D A [(pA, .inr (2, [.ref pAd, .ref pAx, .ref pAy, .int pn])), (pAd, .inl (cI, 32, .inl pd)), (pAx, .inl (cI, 32, .inl px)), (pAy, .inl (cI, 32, .inl py))] := hD.sub [0, 1, 2, 3] (by decide) rfl
        refine lv_bipush (v := (-6)) hx hb dX3_leastFreeId_13 (by decide) ?_
        obtain ⟨hwA, hwB⟩ := hw
        refine lv_icmp_ne (tgt := 20) hx hb dX3_leastFreeId_15 (by decide) (fun cb => ?_) (fun cb => ?_)
        · have hw := hwA cb
          refine lv_iinc (v := (v1 + 1)) (lv' := [(1, .int (v1 + 1)), (0, .ref pA)]) hx hb dX3_leastFreeId_20 hl (k := 1) rfl rfl (by decide) rfl (fun ls hl => ?_)
          refine lv_goto (tgt := 2) hx hb dX3_leastFreeId_23 (by decide) ?_
          exact ih2 (v1 + 1) hw _ _ _ hP hD hS (lv_sub hl [1, 0] rfl)
        · have hw := hwB cb
          refine lv_iload_n hx hb dX3_leastFreeId_18 rfl (lv_at hl 1 rfl) ?_
          exact ret _ _ _ _ v1 () (vp_nar_int _) hw hP hD hS dX3_leastFreeId_19
  unfold wp_X3_leastFreeId at hw
  refine lv_iconst (v := 0) hx hb dX3_leastFreeId_0 (by decide) ?_
  refine lv_istore_n (lv' := [(1, .int 0), (0, .ref pA)]) hx hb dX3_leastFreeId_1 rfl hl (by decide) rfl (fun ls hl => ?_)
  obtain ⟨k, hw⟩ := hw
  exact N2  k 0 hw _ _ _ hP hD hS (lv_sub hl [1, 0] rfl)
theorem in_X3_isBefore_X3 : ∀ w ∈ wsX30, w ∈ wsX3_isBefore := fun _ h => List.mem_cons_of_mem _ (List.mem_append_right _ h)
theorem hd_X3_isBefore : yX3_isBefore.cls = RX3 ∧ yX3_isBefore.cls ≠ "java/lang/invoke/MethodHandle" ∧ yX3_isBefore.cls ≠ "java/lang/invoke/VarHandle" ∧ (parseMethodDescriptor yX3_isBefore.desc).map (fun d => d.parameters.length) = some 3 := by decide +kernel
set_option maxHeartbeats 8000000 in
set_option maxRecDepth 100000 in
theorem c_X3_isBefore (l : Launch) (D : va_G) (cI cJ cZ cO : ClassId) (pA pAd pAx pAy : Nat) (pd : Nat → Int32) (px : Nat → Int32) (py : Nat → Int32) (pn : Int32) (v1 : Int32) (v2 : Int32) (v3 : Int32) (K : Int32 → Prop) (hw : wp_X3_isBefore px py v1 v2 v3 K) : Ci l D (tys4 cI cJ cZ cO) yX3_isBefore wsX3_isBefore { frames := 0, cells := 0, slots := 0, locals := 0 } [.ref pA, .int v1, .int v2, .int v3] [(pA, .inr (2, [.ref pAd, .ref pAx, .ref pAy, .int pn])), (pAd, .inl (cI, 32, .inl pd)), (pAx, .inl (cI, 32, .inl px)), (pAy, .inl (cI, 32, .inl py))] (fun (r : Int32) (_ : Unit) => K r) (fun _ => [(pA, .inr (2, [.ref pAd, .ref pAx, .ref pAy, .int pn])), (pAd, .inl (cI, 32, .inl pd)), (pAx, .inl (cI, 32, .inl px)), (pAy, .inl (cI, 32, .inl py))]) := by
  refine mt_i (cc := cX3_isBefore) (maxL := 4) (rt := .boolean) (by decide) rfl (Nat.le_of_ble_eq_true rfl) ?_
  intro p e s m args below meth c Q A R ls hRf hRl hx hb hml hown hts hK hA hP hD hS hl ret
  have hown : s.vm.findClass RX3 = some m.cls := hown
  have hl : lv_has ls 4 [(0, .ref pA), (1, .int v1), (2, .int v2), (3, .int v3)] := hl
  unfold wp_X3_isBefore at hw
  refine lv_iload_n hx hb dX3_isBefore_0 rfl (lv_at hl 1 rfl) ?_
  refine lv_aload_n hx hb dX3_isBefore_1 rfl (lv_at hl 0 rfl) ?_
  refine va_get (D := D) (ci := 2) (v := .ref pAx) (C := RX3) (T := TX3) (N := 4) hx hb hts in_X3_isBefore_X3 hown hK hP 0 rfl rfl 1 (by decide) (hts (.fieldLink RX3 15 "LiveHull$Points" "xs" "[I") (List.mem_of_getElem? (i := 1) rfl)) (fun _ h9 => h9) rfl dX3_isBefore_2 ?_
  refine lv_iload_n hx hb dX3_isBefore_5 rfl (lv_at hl 3 rfl) ?_
  obtain ⟨hi, hw⟩ := hw
  refine va_iald hx hb hK hP 2 0 rfl rfl hi dX3_isBefore_6 ?_
  obtain ⟨hwA, hwB⟩ := hw
  refine lv_icmp_lt (tgt := 30) hx hb dX3_isBefore_7 (by decide) (fun cb => ?_) (fun cb => ?_)
  · have hw := hwA cb
    refine lv_iconst (v := 1) hx hb dX3_isBefore_30 (by decide) ?_
    refine lv_goto (tgt := 35) hx hb dX3_isBefore_31 (by decide) ?_
    exact ret _ _ _ _ 1 () rfl hw hP hD hS dX3_isBefore_35
  · have hw := hwB cb
    refine lv_iload_n hx hb dX3_isBefore_10 rfl (lv_at hl 1 rfl) ?_
    refine lv_aload_n hx hb dX3_isBefore_11 rfl (lv_at hl 0 rfl) ?_
    refine va_get (D := D) (ci := 2) (v := .ref pAx) (C := RX3) (T := TX3) (N := 4) hx hb hts in_X3_isBefore_X3 hown hK hP 0 rfl rfl 1 (by decide) (hts (.fieldLink RX3 15 "LiveHull$Points" "xs" "[I") (List.mem_of_getElem? (i := 1) rfl)) (fun _ h9 => h9) rfl dX3_isBefore_12 ?_
    refine lv_iload_n hx hb dX3_isBefore_15 rfl (lv_at hl 3 rfl) ?_
    obtain ⟨hi, hw⟩ := hw
    refine va_iald hx hb hK hP 2 0 rfl rfl hi dX3_isBefore_16 ?_
    obtain ⟨hwA, hwB⟩ := hw
    refine lv_icmp_ne (tgt := 34) hx hb dX3_isBefore_17 (by decide) (fun cb => ?_) (fun cb => ?_)
    · have hw := hwA cb
      refine lv_iconst (v := 0) hx hb dX3_isBefore_34 (by decide) ?_
      exact ret _ _ _ _ 0 () rfl hw hP hD hS dX3_isBefore_35
    · have hw := hwB cb
      refine lv_iload_n hx hb dX3_isBefore_20 rfl (lv_at hl 2 rfl) ?_
      refine lv_aload_n hx hb dX3_isBefore_21 rfl (lv_at hl 0 rfl) ?_
      refine va_get (D := D) (ci := 2) (v := .ref pAy) (C := RX3) (T := TX3) (N := 4) hx hb hts in_X3_isBefore_X3 hown hK hP 0 rfl rfl 2 (by decide) (hts (.fieldLink RX3 18 "LiveHull$Points" "ys" "[I") (List.mem_of_getElem? (i := 2) rfl)) (fun _ h9 => h9) rfl dX3_isBefore_22 ?_
      refine lv_iload_n hx hb dX3_isBefore_25 rfl (lv_at hl 3 rfl) ?_
      obtain ⟨hi, hw⟩ := hw
      refine va_iald hx hb hK hP 3 0 rfl rfl hi dX3_isBefore_26 ?_
      obtain ⟨hwA, hwB⟩ := hw
      refine lv_icmp_ge (tgt := 34) hx hb dX3_isBefore_27 (by decide) (fun cb => ?_) (fun cb => ?_)
      · have hw := hwA cb
        refine lv_iconst (v := 0) hx hb dX3_isBefore_34 (by decide) ?_
        exact ret _ _ _ _ 0 () rfl hw hP hD hS dX3_isBefore_35
      · have hw := hwB cb
        refine lv_iconst (v := 1) hx hb dX3_isBefore_30 (by decide) ?_
        refine lv_goto (tgt := 35) hx hb dX3_isBefore_31 (by decide) ?_
        exact ret _ _ _ _ 1 () rfl hw hP hD hS dX3_isBefore_35
theorem in_X3_setRow_X3 : ∀ w ∈ wsX30, w ∈ wsX3_setRow := fun _ h => List.mem_cons_of_mem _ (List.mem_append_right _ h)
theorem hd_X3_setRow : yX3_setRow.cls = RX3 ∧ yX3_setRow.cls ≠ "java/lang/invoke/MethodHandle" ∧ yX3_setRow.cls ≠ "java/lang/invoke/VarHandle" ∧ (parseMethodDescriptor yX3_setRow.desc).map (fun d => d.parameters.length) = some 4 := by decide +kernel
set_option maxHeartbeats 8000000 in
set_option maxRecDepth 100000 in
theorem c_X3_setRow (l : Launch) (D : va_G) (cI cJ cZ cO : ClassId) (pA pAd pAx pAy : Nat) (pd : Nat → Int32) (px : Nat → Int32) (py : Nat → Int32) (pn : Int32) (v1 : Int32) (v2 : Int32) (v3 : Int32) (v4 : Int32) (K : (Nat → Int32) → (Nat → Int32) → (Nat → Int32) → Prop) (hw : wp_X3_setRow pd px py v1 v2 v3 v4 K) : Cv l D (tys4 cI cJ cZ cO) yX3_setRow wsX3_setRow { frames := 0, cells := 0, slots := 0, locals := 0 } [.ref pA, .int v1, .int v2, .int v3, .int v4] [(pA, .inr (2, [.ref pAd, .ref pAx, .ref pAy, .int pn])), (pAd, .inl (cI, 32, .inl pd)), (pAx, .inl (cI, 32, .inl px)), (pAy, .inl (cI, 32, .inl py))] (fun (u : (Nat → Int32) × (Nat → Int32) × (Nat → Int32)) => K u.1 u.2.1 u.2.2) (fun u => [(pA, .inr (2, [.ref pAd, .ref pAx, .ref pAy, .int pn])), (pAd, .inl (cI, 32, .inl u.1)), (pAx, .inl (cI, 32, .inl u.2.1)), (pAy, .inl (cI, 32, .inl u.2.2))]) := by
  refine mt_v (cc := cX3_setRow) (maxL := 5) (by decide) rfl (Nat.le_of_ble_eq_true rfl) ?_
  intro p e s m args below meth c Q A R ls hRf hRl hx hb hml hown hts hK hA hP hD hS hl ret
  have hown : s.vm.findClass RX3 = some m.cls := hown
  have hl : lv_has ls 5 [(0, .ref pA), (1, .int v1), (2, .int v2), (3, .int v3), (4, .int v4)] := hl
  unfold wp_X3_setRow at hw
  refine lv_aload_n hx hb dX3_setRow_0 rfl (lv_at hl 0 rfl) ?_
  refine va_get (D := D) (ci := 2) (v := .ref pAd) (C := RX3) (T := TX3) (N := 4) hx hb hts in_X3_setRow_X3 hown hK hP 0 rfl rfl 0 (by decide) (hts (.fieldLink RX3 9 "LiveHull$Points" "ids" "[I") (List.mem_of_getElem? (i := 1) rfl)) (fun _ h9 => h9) rfl dX3_setRow_1 ?_
  refine lv_iload_n hx hb dX3_setRow_4 rfl (lv_at hl 1 rfl) ?_
  refine lv_iload_n hx hb dX3_setRow_5 rfl (lv_at hl 2 rfl) ?_
  obtain ⟨hi, hw⟩ := hw
  refine va_iast hx hb hK hP hD hS 1 0 rfl rfl hi dX3_setRow_6 (fun H locs hP hD hS => ?_)
  have hP : va_P D vwCl [(pA, .inr (2, [.ref pAd, .ref pAx, .ref pAy, .int pn])), (pAd, .inl (cI, 32, .inl (upd pd v1.toNatClampNeg v2))), (pAx, .inl (cI, 32, .inl px)), (pAy, .inl (cI, 32, .inl py))] H := hP
  have hD : va_D A [(pA, .inr (2, [.ref pAd, .ref pAx, .ref pAy, .int pn])), (pAd, .inl (cI, 32, .inl (upd pd v1.toNatClampNeg v2))), (pAx, .inl (cI, 32, .inl px)), (pAy, .inl (cI, 32, .inl py))] := hD
  refine lv_aload_n hx hb dX3_setRow_7 rfl (lv_at hl 0 rfl) ?_
  refine va_get (D := D) (ci := 2) (v := .ref pAx) (C := RX3) (T := TX3) (N := 4) hx hb hts in_X3_setRow_X3 hown hK hP 0 rfl rfl 1 (by decide) (hts (.fieldLink RX3 15 "LiveHull$Points" "xs" "[I") (List.mem_of_getElem? (i := 2) rfl)) (fun _ h9 => h9) rfl dX3_setRow_8 ?_
  refine lv_iload_n hx hb dX3_setRow_11 rfl (lv_at hl 1 rfl) ?_
  refine lv_iload_n hx hb dX3_setRow_12 rfl (lv_at hl 3 rfl) ?_
  obtain ⟨hi, hw⟩ := hw
  refine va_iast hx hb hK hP hD hS 2 0 rfl rfl hi dX3_setRow_13 (fun H locs hP hD hS => ?_)
  have hP : va_P D vwCl [(pA, .inr (2, [.ref pAd, .ref pAx, .ref pAy, .int pn])), (pAd, .inl (cI, 32, .inl (upd pd v1.toNatClampNeg v2))), (pAx, .inl (cI, 32, .inl (upd px v1.toNatClampNeg v3))), (pAy, .inl (cI, 32, .inl py))] H := hP
  have hD : va_D A [(pA, .inr (2, [.ref pAd, .ref pAx, .ref pAy, .int pn])), (pAd, .inl (cI, 32, .inl (upd pd v1.toNatClampNeg v2))), (pAx, .inl (cI, 32, .inl (upd px v1.toNatClampNeg v3))), (pAy, .inl (cI, 32, .inl py))] := hD
  refine lv_aload_n hx hb dX3_setRow_14 rfl (lv_at hl 0 rfl) ?_
  refine va_get (D := D) (ci := 2) (v := .ref pAy) (C := RX3) (T := TX3) (N := 4) hx hb hts in_X3_setRow_X3 hown hK hP 0 rfl rfl 2 (by decide) (hts (.fieldLink RX3 18 "LiveHull$Points" "ys" "[I") (List.mem_of_getElem? (i := 3) rfl)) (fun _ h9 => h9) rfl dX3_setRow_15 ?_
  refine lv_iload_n hx hb dX3_setRow_18 rfl (lv_at hl 1 rfl) ?_
  refine lv_iload hx hb dX3_setRow_19 (lv_at hl 4 rfl) ?_
  obtain ⟨hi, hw⟩ := hw
  refine va_iast hx hb hK hP hD hS 3 0 rfl rfl hi dX3_setRow_21 (fun H locs hP hD hS => ?_)
  have hP : va_P D vwCl [(pA, .inr (2, [.ref pAd, .ref pAx, .ref pAy, .int pn])), (pAd, .inl (cI, 32, .inl (upd pd v1.toNatClampNeg v2))), (pAx, .inl (cI, 32, .inl (upd px v1.toNatClampNeg v3))), (pAy, .inl (cI, 32, .inl (upd py v1.toNatClampNeg v4)))] H := hP
  have hD : va_D A [(pA, .inr (2, [.ref pAd, .ref pAx, .ref pAy, .int pn])), (pAd, .inl (cI, 32, .inl (upd pd v1.toNatClampNeg v2))), (pAx, .inl (cI, 32, .inl (upd px v1.toNatClampNeg v3))), (pAy, .inl (cI, 32, .inl (upd py v1.toNatClampNeg v4)))] := hD
  exact ret _ _ _ _ ((upd pd v1.toNatClampNeg v2), (upd px v1.toNatClampNeg v3), (upd py v1.toNatClampNeg v4)) hw hP hD hS dX3_setRow_22
theorem in_X3_insert_X3 : ∀ w ∈ wsX30, w ∈ wsX3_insert := fun _ h => List.mem_cons_of_mem _ (List.mem_append_right _ h)
theorem hd_X3_insert : yX3_insert.cls = RX3 ∧ yX3_insert.cls ≠ "java/lang/invoke/MethodHandle" ∧ yX3_insert.cls ≠ "java/lang/invoke/VarHandle" ∧ (parseMethodDescriptor yX3_insert.desc).map (fun d => d.parameters.length) = some 3 := by decide +kernel
set_option maxHeartbeats 8000000 in
set_option maxRecDepth 100000 in
theorem c_X3_insert (l : Launch) (D : va_G) (cI cJ cZ cO : ClassId) (pA pAd pAx pAy : Nat) (pd : Nat → Int32) (px : Nat → Int32) (py : Nat → Int32) (pn : Int32) (v1 : Int32) (v2 : Int32) (v3 : Int32) (K : (Nat → Int32) → (Nat → Int32) → (Nat → Int32) → Int32 → Prop) (hw : wp_X3_insert pd px py pn v1 v2 v3 K) : Cv l D (tys4 cI cJ cZ cO) yX3_insert wsX3_insert { frames := 1, cells := 0, slots := 0, locals := 24 } [.ref pA, .int v1, .int v2, .int v3] [(pA, .inr (2, [.ref pAd, .ref pAx, .ref pAy, .int pn])), (pAd, .inl (cI, 32, .inl pd)), (pAx, .inl (cI, 32, .inl px)), (pAy, .inl (cI, 32, .inl py))] (fun (u : (Nat → Int32) × (Nat → Int32) × (Nat → Int32) × (Int32)) => K u.1 u.2.1 u.2.2.1 u.2.2.2) (fun u => [(pA, .inr (2, [.ref pAd, .ref pAx, .ref pAy, .int u.2.2.2])), (pAd, .inl (cI, 32, .inl u.1)), (pAx, .inl (cI, 32, .inl u.2.1)), (pAy, .inl (cI, 32, .inl u.2.2.1))]) := by
  refine mt_v (cc := cX3_insert) (maxL := 5) (by decide) rfl (Nat.le_of_ble_eq_true rfl) ?_
  intro p e s m args below meth c Q A R ls hRf hRl hx hb hml hown hts hK hA hP hD hS hl ret
  have hown : s.vm.findClass RX3 = some m.cls := hown
  have hl : lv_has ls 5 [(0, .ref pA), (1, .int v1), (2, .int v2), (3, .int v3)] := hl
  have N73 : ∀ (pd : Nat → Int32) (px : Nat → Int32) (py : Nat → Int32) (pn : Int32) (v4 : Int32), wp_X3_insert_73 v1 v2 v3 K  pd px py pn v4 → ∀ (H : Heap) (locs : List Loc) (ls : Array Slot), va_P D vwCl [(pA, .inr (2, [.ref pAd, .ref pAx, .ref pAy, .int pn])), (pAd, .inl (cI, 32, .inl pd)), (pAx, .inl (cI, 32, .inl px)), (pAy, .inl (cI, 32, .inl py))] H → va_D A [(pA, .inr (2, [.ref pAd, .ref pAx, .ref pAy, .int pn])), (pAd, .inl (cI, 32, .inl pd)), (pAx, .inl (cI, 32, .inl px)), (pAy, .inl (cI, 32, .inl py))] → va_S A s.heap H locs → lv_has ls 5 [(0, .ref pA), (1, .int v1), (2, .int v2), (3, .int v3), (4, .int v4)] → W p l e R s m args below meth c H locs 0 0 Q (F0 m 73 ls []) := by
    intro pd px py pn v4 hw H locs ls hP hD hS hl
    unfold wp_X3_insert_73 at hw
    refine lv_aload_n hx hb dX3_insert_73 rfl (lv_at hl 0 rfl) ?_
    refine lv_iload hx hb dX3_insert_74 (lv_at hl 4 rfl) ?_
    refine lv_iload_n hx hb dX3_insert_76 rfl (lv_at hl 1 rfl) ?_
    refine lv_iload_n hx hb dX3_insert_77 rfl (lv_at hl 2 rfl) ?_
    refine lv_iload_n hx hb dX3_insert_78 rfl (lv_at hl 3 rfl) ?_
    refine cl_Vv (As := [.int v4, .int v1, .int v2, .int v3]) (rest := []) ⟨hx, hb, hml, hown, hts⟩ (c_X3_setRow l D cI cJ cZ cO pA pAd pAx pAy pd px py pn v4 v1 v2 v3 _ hw) (cwV 4 hts gX3_insert_X3_setRow rfl rfl rfl hd_X3_setRow ⟨Nat.le_trans (Nat.le_of_ble_eq_true rfl) hRf, Nat.le_trans (Nat.le_of_ble_eq_true rfl) hRl⟩) hK hP hD hS hA [0, 1, 2, 3] [] rfl (by decide) rfl (by decide) (by decide) 0 2 rfl rfl rfl hl.1 rfl (Nat.le_of_ble_eq_true rfl) dX3_insert_79 ⟨Nat.zero_le _, Nat.zero_le _⟩ (fun u H locs hw hP hD hS => ?_)
    obtain ⟨pd_79, px_79, py_79⟩ := u
    try dsimp only at hw
    have hP : va_P D vwCl [(pA, .inr (2, [.ref pAd, .ref pAx, .ref pAy, .int pn])), (pAd, .inl (cI, 32, .inl pd_79)), (pAx, .inl (cI, 32, .inl px_79)), (pAy, .inl (cI, 32, .inl py_79))] H := hP.sub [0, 1, 2, 3] rfl
    have hD : va_D A [(pA, .inr (2, [.ref pAd, .ref pAx, .ref pAy, .int pn])), (pAd, .inl (cI, 32, .inl pd_79)), (pAx, .inl (cI, 32, .inl px_79)), (pAy, .inl (cI, 32, .inl py_79))] := hD.sub [0, 1, 2, 3] (by decide) rfl
    refine lv_aload_n hx hb dX3_insert_82 rfl (lv_at hl 0 rfl) ?_
    refine lv_dup hx hb dX3_insert_83 rfl ?_
    refine va_get (D := D) (ci := 2) (v := .int pn) (C := RX3) (T := TX3) (N := 4) hx hb hts in_X3_insert_X3 hown hK hP 0 rfl rfl 3 (by decide) (hts (.fieldLink RX3 21 "LiveHull$Points" "count" "I") (List.mem_of_getElem? (i := 1) rfl)) (fun _ h9 => h9) rfl dX3_insert_84 ?_
    refine lv_iconst (v := 1) hx hb dX3_insert_87 (by decide) ?_
    refine lv_iadd hx hb dX3_insert_88 ?_
    refine va_put (D := D) (ci := 2) (v := .int (pn + 1)) (ty := .int) (C := RX3) (T := TX3) (N := 4) hx hb hts in_X3_insert_X3 tyX3 tyX3_ok nmX3 hown hK hP hD hS 0 rfl rfl 3 (by decide) (hts (.fieldLink RX3 21 "LiveHull$Points" "count" "I") (List.mem_of_getElem? (i := 1) rfl)) (fun _ h9 => h9) rfl (by decide +kernel) rfl rfl (Nat.le_of_ble_eq_true rfl) dX3_insert_89 (fun H locs hP hD hS => ?_)
    have hP : va_P D vwCl [(pA, .inr (2, [.ref pAd, .ref pAx, .ref pAy, .int (pn + 1)])), (pAd, .inl (cI, 32, .inl pd_79)), (pAx, .inl (cI, 32, .inl px_79)), (pAy, .inl (cI, 32, .inl py_79))] H := hP
    have hD : va_D A [(pA, .inr (2, [.ref pAd, .ref pAx, .ref pAy, .int (pn + 1)])), (pAd, .inl (cI, 32, .inl pd_79)), (pAx, .inl (cI, 32, .inl px_79)), (pAy, .inl (cI, 32, .inl py_79))] := hD
    exact ret _ _ _ _ (pd_79, px_79, py_79, (pn + 1)) hw hP hD hS dX3_insert_92
  have N16 : ∀ (pn : Int32) (k : Nat) (pd : Nat → Int32) (px : Nat → Int32) (py : Nat → Int32) (v4 : Int32), wp_X3_insert_16 v1 v2 v3 K  pn k pd px py v4 → ∀ (H : Heap) (locs : List Loc) (ls : Array Slot), va_P D vwCl [(pA, .inr (2, [.ref pAd, .ref pAx, .ref pAy, .int pn])), (pAd, .inl (cI, 32, .inl pd)), (pAx, .inl (cI, 32, .inl px)), (pAy, .inl (cI, 32, .inl py))] H → va_D A [(pA, .inr (2, [.ref pAd, .ref pAx, .ref pAy, .int pn])), (pAd, .inl (cI, 32, .inl pd)), (pAx, .inl (cI, 32, .inl px)), (pAy, .inl (cI, 32, .inl py))] → va_S A s.heap H locs → lv_has ls 5 [(0, .ref pA), (1, .int v1), (2, .int v2), (3, .int v3), (4, .int v4)] → W p l e R s m args below meth c H locs 0 0 Q (F0 m 16 ls []) := by
    intro pn
    intro k
    induction k with
    | zero => intro pd px py v4 hw; exact False.elim hw
    | succ k ih16 =>
      intro pd px py v4 hw H locs ls hP hD hS hl
      have hw : wp_X3_insert_16b v1 v2 v3 K (wp_X3_insert_16 v1 v2 v3 K  pn k)  pn pd px py v4 := hw
      unfold wp_X3_insert_16b at hw
      generalize wp_X3_insert_16 v1 v2 v3 K  pn k = L16 at hw ih16
      refine lv_iload hx hb dX3_insert_16 (lv_at hl 4 rfl) ?_
      obtain ⟨hwA, hwB⟩ := hw
      refine lv_if_le (tgt := 73) hx hb dX3_insert_18 (by decide) (fun cb => ?_) (fun cb => ?_)
      · have hw := hwA cb
        exact N73 pd px py pn v4 hw _ _ _ hP hD hS (lv_sub hl [0, 1, 2, 3, 4] rfl)
      · have hw := hwB cb
        refine lv_aload_n hx hb dX3_insert_21 rfl (lv_at hl 0 rfl) ?_
        refine lv_iload_n hx hb dX3_insert_22 rfl (lv_at hl 2 rfl) ?_
        refine lv_iload_n hx hb dX3_insert_23 rfl (lv_at hl 3 rfl) ?_
        refine lv_iload hx hb dX3_insert_24 (lv_at hl 4 rfl) ?_
        refine lv_iconst (v := 1) hx hb dX3_insert_26 (by decide) ?_
        refine lv_isub hx hb dX3_insert_27 ?_
        refine cl_Vi (As := [.int v2, .int v3, .int (v4 - 1)]) (rest := []) ⟨hx, hb, hml, hown, hts⟩ (c_X3_isBefore l D cI cJ cZ cO pA pAd pAx pAy pd px py pn v2 v3 (v4 - 1) _ hw) (cwV 3 hts gX3_insert_X3_isBefore rfl rfl rfl hd_X3_isBefore ⟨Nat.le_trans (Nat.le_of_ble_eq_true rfl) hRf, Nat.le_trans (Nat.le_of_ble_eq_true rfl) hRl⟩) hK hP hD hS hA [0, 1, 2, 3] [] rfl (by decide) rfl (by decide) (by decide) 0 2 rfl rfl rfl hl.1 rfl (Nat.le_of_ble_eq_true rfl) dX3_insert_28 ⟨Nat.zero_le _, Nat.zero_le _⟩ (fun r28 _u H locs hw hP hD hS => ?_)
        try dsimp only at hw
        have hP : va_P D vwCl [(pA, .inr (2, [.ref pAd, .ref pAx, .ref pAy, .int pn])), (pAd, .inl (cI, 32, .inl pd)), (pAx, .inl (cI, 32, .inl px)), (pAy, .inl (cI, 32, .inl py))] H := hP.sub [0, 1, 2, 3] rfl
        have hD : va_D A [(pA, .inr (2, [.ref pAd, .ref pAx, .ref pAy, .int pn])), (pAd, .inl (cI, 32, .inl pd)), (pAx, .inl (cI, 32, .inl px)), (pAy, .inl (cI, 32, .inl py))] := hD.sub [0, 1, 2, 3] (by decide) rfl
        obtain ⟨hwA, hwB⟩ := hw
        refine lv_if_eq (tgt := 73) hx hb dX3_insert_31 (by decide) (fun cb => ?_) (fun cb => ?_)
        · have hw := hwA cb
          exact N73 pd px py pn v4 hw _ _ _ hP hD hS (lv_sub hl [0, 1, 2, 3, 4] rfl)
        · have hw := hwB cb
          refine lv_aload_n hx hb dX3_insert_34 rfl (lv_at hl 0 rfl) ?_
          refine lv_iload hx hb dX3_insert_35 (lv_at hl 4 rfl) ?_
          refine lv_aload_n hx hb dX3_insert_37 rfl (lv_at hl 0 rfl) ?_
          refine va_get (D := D) (ci := 2) (v := .ref pAd) (C := RX3) (T := TX3) (N := 4) hx hb hts in_X3_insert_X3 hown hK hP 0 rfl rfl 0 (by decide) (hts (.fieldLink RX3 9 "LiveHull$Points" "ids" "[I") (List.mem_of_getElem? (i := 2) rfl)) (fun _ h9 => h9) rfl dX3_insert_38 ?_
          refine lv_iload hx hb dX3_insert_41 (lv_at hl 4 rfl) ?_
          refine lv_iconst (v := 1) hx hb dX3_insert_43 (by decide) ?_
          refine lv_isub hx hb dX3_insert_44 ?_
          obtain ⟨hi, hw⟩ := hw
          refine va_iald hx hb hK hP 1 0 rfl rfl hi dX3_insert_45 ?_
          refine lv_aload_n hx hb dX3_insert_46 rfl (lv_at hl 0 rfl) ?_
          refine va_get (D := D) (ci := 2) (v := .ref pAx) (C := RX3) (T := TX3) (N := 4) hx hb hts in_X3_insert_X3 hown hK hP 0 rfl rfl 1 (by decide) (hts (.fieldLink RX3 15 "LiveHull$Points" "xs" "[I") (List.mem_of_getElem? (i := 3) rfl)) (fun _ h9 => h9) rfl dX3_insert_47 ?_
          refine lv_iload hx hb dX3_insert_50 (lv_at hl 4 rfl) ?_
          refine lv_iconst (v := 1) hx hb dX3_insert_52 (by decide) ?_
          refine lv_isub hx hb dX3_insert_53 ?_
          obtain ⟨hi, hw⟩ := hw
          refine va_iald hx hb hK hP 2 0 rfl rfl hi dX3_insert_54 ?_
          refine lv_aload_n hx hb dX3_insert_55 rfl (lv_at hl 0 rfl) ?_
          refine va_get (D := D) (ci := 2) (v := .ref pAy) (C := RX3) (T := TX3) (N := 4) hx hb hts in_X3_insert_X3 hown hK hP 0 rfl rfl 2 (by decide) (hts (.fieldLink RX3 18 "LiveHull$Points" "ys" "[I") (List.mem_of_getElem? (i := 4) rfl)) (fun _ h9 => h9) rfl dX3_insert_56 ?_
          refine lv_iload hx hb dX3_insert_59 (lv_at hl 4 rfl) ?_
          refine lv_iconst (v := 1) hx hb dX3_insert_61 (by decide) ?_
          refine lv_isub hx hb dX3_insert_62 ?_
          obtain ⟨hi, hw⟩ := hw
          refine va_iald hx hb hK hP 3 0 rfl rfl hi dX3_insert_63 ?_
          refine cl_Vv (As := [.int v4, .int (pd (v4 - 1).toNatClampNeg), .int (px (v4 - 1).toNatClampNeg), .int (py (v4 - 1).toNatClampNeg)]) (rest := []) ⟨hx, hb, hml, hown, hts⟩ (c_X3_setRow l D cI cJ cZ cO pA pAd pAx pAy pd px py pn v4 (pd (v4 - 1).toNatClampNeg) (px (v4 - 1).toNatClampNeg) (py (v4 - 1).toNatClampNeg) _ hw) (cwV 4 hts gX3_insert_X3_setRow rfl rfl rfl hd_X3_setRow ⟨Nat.le_trans (Nat.le_of_ble_eq_true rfl) hRf, Nat.le_trans (Nat.le_of_ble_eq_true rfl) hRl⟩) hK hP hD hS hA [0, 1, 2, 3] [] rfl (by decide) rfl (by decide) (by decide) 0 2 rfl rfl rfl hl.1 rfl (Nat.le_of_ble_eq_true rfl) dX3_insert_64 ⟨Nat.zero_le _, Nat.zero_le _⟩ (fun u H locs hw hP hD hS => ?_)
          obtain ⟨pd_64, px_64, py_64⟩ := u
          try dsimp only at hw
          have hP : va_P D vwCl [(pA, .inr (2, [.ref pAd, .ref pAx, .ref pAy, .int pn])), (pAd, .inl (cI, 32, .inl pd_64)), (pAx, .inl (cI, 32, .inl px_64)), (pAy, .inl (cI, 32, .inl py_64))] H := hP.sub [0, 1, 2, 3] rfl
          have hD : va_D A [(pA, .inr (2, [.ref pAd, .ref pAx, .ref pAy, .int pn])), (pAd, .inl (cI, 32, .inl pd_64)), (pAx, .inl (cI, 32, .inl px_64)), (pAy, .inl (cI, 32, .inl py_64))] := hD.sub [0, 1, 2, 3] (by decide) rfl
          refine lv_iinc (v := (v4 + (-1))) (lv' := [(4, .int (v4 + (-1))), (0, .ref pA), (1, .int v1), (2, .int v2), (3, .int v3)]) hx hb dX3_insert_67 hl (k := 4) rfl rfl (by decide) rfl (fun ls hl => ?_)
          refine lv_goto (tgt := 16) hx hb dX3_insert_70 (by decide) ?_
          exact ih16 pd_64 px_64 py_64 (v4 + (-1)) hw _ _ _ hP hD hS (lv_sub hl [1, 2, 3, 4, 0] rfl)
  unfold wp_X3_insert at hw
  refine lv_aload_n hx hb dX3_insert_0 rfl (lv_at hl 0 rfl) ?_
  refine va_get (D := D) (ci := 2) (v := .int pn) (C := RX3) (T := TX3) (N := 4) hx hb hts in_X3_insert_X3 hown hK hP 0 rfl rfl 3 (by decide) (hts (.fieldLink RX3 21 "LiveHull$Points" "count" "I") (List.mem_of_getElem? (i := 1) rfl)) (fun _ h9 => h9) rfl dX3_insert_1 ?_
  refine lv_bipush (v := 32) hx hb dX3_insert_4 (by decide) ?_
  obtain ⟨hwA, hwB⟩ := hw
  refine lv_icmp_lt (tgt := 10) hx hb dX3_insert_6 (by decide) (fun cb => ?_) (fun cb => ?_)
  · have hw := hwA cb
    refine lv_aload_n hx hb dX3_insert_10 rfl (lv_at hl 0 rfl) ?_
    refine va_get (D := D) (ci := 2) (v := .int pn) (C := RX3) (T := TX3) (N := 4) hx hb hts in_X3_insert_X3 hown hK hP 0 rfl rfl 3 (by decide) (hts (.fieldLink RX3 21 "LiveHull$Points" "count" "I") (List.mem_of_getElem? (i := 1) rfl)) (fun _ h9 => h9) rfl dX3_insert_11 ?_
    refine lv_istore (lv' := [(4, .int pn), (0, .ref pA), (1, .int v1), (2, .int v2), (3, .int v3)]) hx hb dX3_insert_14 hl (by decide) rfl (fun ls hl => ?_)
    obtain ⟨k, hw⟩ := hw
    exact N16 pn k pd px py pn hw _ _ _ hP hD hS (lv_sub hl [1, 2, 3, 4, 0] rfl)
  · have hw := hwB cb
    exact ret _ _ _ _ (pd, px, py, pn) hw hP hD hS dX3_insert_9
theorem in_X3_delete_X3 : ∀ w ∈ wsX30, w ∈ wsX3_delete := fun _ h => List.mem_cons_of_mem _ (List.mem_append_right _ h)
theorem hd_X3_delete : yX3_delete.cls = RX3 ∧ yX3_delete.cls ≠ "java/lang/invoke/MethodHandle" ∧ yX3_delete.cls ≠ "java/lang/invoke/VarHandle" ∧ (parseMethodDescriptor yX3_delete.desc).map (fun d => d.parameters.length) = some 1 := by decide +kernel
set_option maxHeartbeats 8000000 in
set_option maxRecDepth 100000 in
theorem c_X3_delete (l : Launch) (D : va_G) (cI cJ cZ cO : ClassId) (pA pAd pAx pAy : Nat) (pd : Nat → Int32) (px : Nat → Int32) (py : Nat → Int32) (pn : Int32) (v1 : Int32) (K : (Nat → Int32) → (Nat → Int32) → (Nat → Int32) → Int32 → Prop) (hw : wp_X3_delete pd px py pn v1 K) : Cv l D (tys4 cI cJ cZ cO) yX3_delete wsX3_delete { frames := 1, cells := 0, slots := 0, locals := 24 } [.ref pA, .int v1] [(pA, .inr (2, [.ref pAd, .ref pAx, .ref pAy, .int pn])), (pAd, .inl (cI, 32, .inl pd)), (pAx, .inl (cI, 32, .inl px)), (pAy, .inl (cI, 32, .inl py))] (fun (u : (Nat → Int32) × (Nat → Int32) × (Nat → Int32) × (Int32)) => K u.1 u.2.1 u.2.2.1 u.2.2.2) (fun u => [(pA, .inr (2, [.ref pAd, .ref pAx, .ref pAy, .int u.2.2.2])), (pAd, .inl (cI, 32, .inl u.1)), (pAx, .inl (cI, 32, .inl u.2.1)), (pAy, .inl (cI, 32, .inl u.2.2.1))]) := by
  refine mt_v (cc := cX3_delete) (maxL := 3) (by decide) rfl (Nat.le_of_ble_eq_true rfl) ?_
  intro p e s m args below meth c Q A R ls hRf hRl hx hb hml hown hts hK hA hP hD hS hl ret
  have hown : s.vm.findClass RX3 = some m.cls := hown
  have hl : lv_has ls 3 [(0, .ref pA), (1, .int v1)] := hl
  have N17 : ∀ (pn : Int32) (k : Nat) (pd : Nat → Int32) (px : Nat → Int32) (py : Nat → Int32) (v2 : Int32), wp_X3_delete_17 v1 K  pn k pd px py v2 → ∀ (H : Heap) (locs : List Loc) (ls : Array Slot), va_P D vwCl [(pA, .inr (2, [.ref pAd, .ref pAx, .ref pAy, .int pn])), (pAd, .inl (cI, 32, .inl pd)), (pAx, .inl (cI, 32, .inl px)), (pAy, .inl (cI, 32, .inl py))] H → va_D A [(pA, .inr (2, [.ref pAd, .ref pAx, .ref pAy, .int pn])), (pAd, .inl (cI, 32, .inl pd)), (pAx, .inl (cI, 32, .inl px)), (pAy, .inl (cI, 32, .inl py))] → va_S A s.heap H locs → lv_has ls 3 [(0, .ref pA), (2, .int v2)] → W p l e R s m args below meth c H locs 0 0 Q (F0 m 17 ls []) := by
    intro pn
    intro k
    induction k with
    | zero => intro pd px py v2 hw; exact False.elim hw
    | succ k ih17 =>
      intro pd px py v2 hw H locs ls hP hD hS hl
      have hw : wp_X3_delete_17b v1 K (wp_X3_delete_17 v1 K  pn k)  pn pd px py v2 := hw
      unfold wp_X3_delete_17b at hw
      generalize wp_X3_delete_17 v1 K  pn k = L17 at hw ih17
      refine lv_iload_n hx hb dX3_delete_17 rfl (lv_at hl 1 rfl) ?_
      refine lv_aload_n hx hb dX3_delete_18 rfl (lv_at hl 0 rfl) ?_
      refine va_get (D := D) (ci := 2) (v := .int pn) (C := RX3) (T := TX3) (N := 4) hx hb hts in_X3_delete_X3 hown hK hP 0 rfl rfl 3 (by decide) (hts (.fieldLink RX3 21 "LiveHull$Points" "count" "I") (List.mem_of_getElem? (i := 1) rfl)) (fun _ h9 => h9) rfl dX3_delete_19 ?_
      obtain ⟨hwA, hwB⟩ := hw
      refine lv_icmp_ge (tgt := 56) hx hb dX3_delete_22 (by decide) (fun cb => ?_) (fun cb => ?_)
      · have hw := hwA cb
        refine lv_aload_n hx hb dX3_delete_56 rfl (lv_at hl 0 rfl) ?_
        refine lv_dup hx hb dX3_delete_57 rfl ?_
        refine va_get (D := D) (ci := 2) (v := .int pn) (C := RX3) (T := TX3) (N := 4) hx hb hts in_X3_delete_X3 hown hK hP 0 rfl rfl 3 (by decide) (hts (.fieldLink RX3 21 "LiveHull$Points" "count" "I") (List.mem_of_getElem? (i := 1) rfl)) (fun _ h9 => h9) rfl dX3_delete_58 ?_
        refine lv_iconst (v := 1) hx hb dX3_delete_61 (by decide) ?_
        refine lv_isub hx hb dX3_delete_62 ?_
        refine va_put (D := D) (ci := 2) (v := .int (pn - 1)) (ty := .int) (C := RX3) (T := TX3) (N := 4) hx hb hts in_X3_delete_X3 tyX3 tyX3_ok nmX3 hown hK hP hD hS 0 rfl rfl 3 (by decide) (hts (.fieldLink RX3 21 "LiveHull$Points" "count" "I") (List.mem_of_getElem? (i := 1) rfl)) (fun _ h9 => h9) rfl (by decide +kernel) rfl rfl (Nat.le_of_ble_eq_true rfl) dX3_delete_63 (fun H locs hP hD hS => ?_)
        have hP : va_P D vwCl [(pA, .inr (2, [.ref pAd, .ref pAx, .ref pAy, .int (pn - 1)])), (pAd, .inl (cI, 32, .inl pd)), (pAx, .inl (cI, 32, .inl px)), (pAy, .inl (cI, 32, .inl py))] H := hP
        have hD : va_D A [(pA, .inr (2, [.ref pAd, .ref pAx, .ref pAy, .int (pn - 1)])), (pAd, .inl (cI, 32, .inl pd)), (pAx, .inl (cI, 32, .inl px)), (pAy, .inl (cI, 32, .inl py))] := hD
        exact ret _ _ _ _ (pd, px, py, (pn - 1)) hw hP hD hS dX3_delete_66
      · have hw := hwB cb
        refine lv_aload_n hx hb dX3_delete_25 rfl (lv_at hl 0 rfl) ?_
        refine lv_iload_n hx hb dX3_delete_26 rfl (lv_at hl 1 rfl) ?_
        refine lv_iconst (v := 1) hx hb dX3_delete_27 (by decide) ?_
        refine lv_isub hx hb dX3_delete_28 ?_
        refine lv_aload_n hx hb dX3_delete_29 rfl (lv_at hl 0 rfl) ?_
        refine va_get (D := D) (ci := 2) (v := .ref pAd) (C := RX3) (T := TX3) (N := 4) hx hb hts in_X3_delete_X3 hown hK hP 0 rfl rfl 0 (by decide) (hts (.fieldLink RX3 9 "LiveHull$Points" "ids" "[I") (List.mem_of_getElem? (i := 2) rfl)) (fun _ h9 => h9) rfl dX3_delete_30 ?_
        refine lv_iload_n hx hb dX3_delete_33 rfl (lv_at hl 1 rfl) ?_
        obtain ⟨hi, hw⟩ := hw
        refine va_iald hx hb hK hP 1 0 rfl rfl hi dX3_delete_34 ?_
        refine lv_aload_n hx hb dX3_delete_35 rfl (lv_at hl 0 rfl) ?_
        refine va_get (D := D) (ci := 2) (v := .ref pAx) (C := RX3) (T := TX3) (N := 4) hx hb hts in_X3_delete_X3 hown hK hP 0 rfl rfl 1 (by decide) (hts (.fieldLink RX3 15 "LiveHull$Points" "xs" "[I") (List.mem_of_getElem? (i := 3) rfl)) (fun _ h9 => h9) rfl dX3_delete_36 ?_
        refine lv_iload_n hx hb dX3_delete_39 rfl (lv_at hl 1 rfl) ?_
        obtain ⟨hi, hw⟩ := hw
        refine va_iald hx hb hK hP 2 0 rfl rfl hi dX3_delete_40 ?_
        refine lv_aload_n hx hb dX3_delete_41 rfl (lv_at hl 0 rfl) ?_
        refine va_get (D := D) (ci := 2) (v := .ref pAy) (C := RX3) (T := TX3) (N := 4) hx hb hts in_X3_delete_X3 hown hK hP 0 rfl rfl 2 (by decide) (hts (.fieldLink RX3 18 "LiveHull$Points" "ys" "[I") (List.mem_of_getElem? (i := 4) rfl)) (fun _ h9 => h9) rfl dX3_delete_42 ?_
        refine lv_iload_n hx hb dX3_delete_45 rfl (lv_at hl 1 rfl) ?_
        obtain ⟨hi, hw⟩ := hw
        refine va_iald hx hb hK hP 3 0 rfl rfl hi dX3_delete_46 ?_
        refine cl_Vv (As := [.int (v2 - 1), .int (pd v2.toNatClampNeg), .int (px v2.toNatClampNeg), .int (py v2.toNatClampNeg)]) (rest := []) ⟨hx, hb, hml, hown, hts⟩ (c_X3_setRow l D cI cJ cZ cO pA pAd pAx pAy pd px py pn (v2 - 1) (pd v2.toNatClampNeg) (px v2.toNatClampNeg) (py v2.toNatClampNeg) _ hw) (cwV 4 hts gX3_delete_X3_setRow rfl rfl rfl hd_X3_setRow ⟨Nat.le_trans (Nat.le_of_ble_eq_true rfl) hRf, Nat.le_trans (Nat.le_of_ble_eq_true rfl) hRl⟩) hK hP hD hS hA [0, 1, 2, 3] [] rfl (by decide) rfl (by decide) (by decide) 0 2 rfl rfl rfl hl.1 rfl (Nat.le_of_ble_eq_true rfl) dX3_delete_47 ⟨Nat.zero_le _, Nat.zero_le _⟩ (fun u H locs hw hP hD hS => ?_)
        obtain ⟨pd_47, px_47, py_47⟩ := u
        try dsimp only at hw
        have hP : va_P D vwCl [(pA, .inr (2, [.ref pAd, .ref pAx, .ref pAy, .int pn])), (pAd, .inl (cI, 32, .inl pd_47)), (pAx, .inl (cI, 32, .inl px_47)), (pAy, .inl (cI, 32, .inl py_47))] H := hP.sub [0, 1, 2, 3] rfl
        have hD : va_D A [(pA, .inr (2, [.ref pAd, .ref pAx, .ref pAy, .int pn])), (pAd, .inl (cI, 32, .inl pd_47)), (pAx, .inl (cI, 32, .inl px_47)), (pAy, .inl (cI, 32, .inl py_47))] := hD.sub [0, 1, 2, 3] (by decide) rfl
        refine lv_iinc (v := (v2 + 1)) (lv' := [(2, .int (v2 + 1)), (0, .ref pA)]) hx hb dX3_delete_50 hl (k := 1) rfl rfl (by decide) rfl (fun ls hl => ?_)
        refine lv_goto (tgt := 17) hx hb dX3_delete_53 (by decide) ?_
        exact ih17 pd_47 px_47 py_47 (v2 + 1) hw _ _ _ hP hD hS (lv_sub hl [1, 0] rfl)
  unfold wp_X3_delete at hw
  refine lv_iload_n hx hb dX3_delete_0 rfl (lv_at hl 1 rfl) ?_
  obtain ⟨hwA, hwB⟩ := hw
  refine lv_if_lt (tgt := 12) hx hb dX3_delete_1 (by decide) (fun cb => ?_) (fun cb => ?_)
  · have hw := hwA cb
    exact ret _ _ _ _ (pd, px, py, pn) hw hP hD hS dX3_delete_12
  · have hw := hwB cb
    refine lv_iload_n hx hb dX3_delete_4 rfl (lv_at hl 1 rfl) ?_
    refine lv_aload_n hx hb dX3_delete_5 rfl (lv_at hl 0 rfl) ?_
    refine va_get (D := D) (ci := 2) (v := .int pn) (C := RX3) (T := TX3) (N := 4) hx hb hts in_X3_delete_X3 hown hK hP 0 rfl rfl 3 (by decide) (hts (.fieldLink RX3 21 "LiveHull$Points" "count" "I") (List.mem_of_getElem? (i := 1) rfl)) (fun _ h9 => h9) rfl dX3_delete_6 ?_
    obtain ⟨hwA, hwB⟩ := hw
    refine lv_icmp_lt (tgt := 13) hx hb dX3_delete_9 (by decide) (fun cb => ?_) (fun cb => ?_)
    · have hw := hwA cb
      refine lv_iload_n hx hb dX3_delete_13 rfl (lv_at hl 1 rfl) ?_
      refine lv_iconst (v := 1) hx hb dX3_delete_14 (by decide) ?_
      refine lv_iadd hx hb dX3_delete_15 ?_
      refine lv_istore_n (lv' := [(2, .int (v1 + 1)), (0, .ref pA), (1, .int v1)]) hx hb dX3_delete_16 rfl hl (by decide) rfl (fun ls hl => ?_)
      obtain ⟨k, hw⟩ := hw
      exact N17 pn k pd px py (v1 + 1) hw _ _ _ hP hD hS (lv_sub hl [1, 0] rfl)
    · have hw := hwB cb
      exact ret _ _ _ _ (pd, px, py, pn) hw hP hD hS dX3_delete_12
theorem in_X3_copyFrom_X3 : ∀ w ∈ wsX30, w ∈ wsX3_copyFrom := fun _ h => List.mem_cons_of_mem _ (List.mem_append_right _ h)
theorem hd_X3_copyFrom : yX3_copyFrom.cls = RX3 ∧ yX3_copyFrom.cls ≠ "java/lang/invoke/MethodHandle" ∧ yX3_copyFrom.cls ≠ "java/lang/invoke/VarHandle" ∧ (parseMethodDescriptor yX3_copyFrom.desc).map (fun d => d.parameters.length) = some 1 := by decide +kernel
set_option maxHeartbeats 8000000 in
set_option maxRecDepth 100000 in
theorem c_X3_copyFrom (l : Launch) (D : va_G) (cI cJ cZ cO : ClassId) (pA pAd pAx pAy zA zAd zAx zAy : Nat) (pd : Nat → Int32) (px : Nat → Int32) (py : Nat → Int32) (pn : Int32) (zd : Nat → Int32) (zx : Nat → Int32) (zy : Nat → Int32) (zn : Int32)  (K : (Nat → Int32) → (Nat → Int32) → (Nat → Int32) → Int32 → Prop) (hw : wp_X3_copyFrom pd px py pn zd zx zy zn K) : Cv l D (tys4 cI cJ cZ cO) yX3_copyFrom wsX3_copyFrom { frames := 1, cells := 0, slots := 0, locals := 24 } [.ref pA, .ref zA] [(pA, .inr (2, [.ref pAd, .ref pAx, .ref pAy, .int pn])), (pAd, .inl (cI, 32, .inl pd)), (pAx, .inl (cI, 32, .inl px)), (pAy, .inl (cI, 32, .inl py)), (zA, .inr (2, [.ref zAd, .ref zAx, .ref zAy, .int zn])), (zAd, .inl (cI, 32, .inl zd)), (zAx, .inl (cI, 32, .inl zx)), (zAy, .inl (cI, 32, .inl zy))] (fun (u : (Nat → Int32) × (Nat → Int32) × (Nat → Int32) × (Int32)) => K u.1 u.2.1 u.2.2.1 u.2.2.2) (fun u => [(pA, .inr (2, [.ref pAd, .ref pAx, .ref pAy, .int u.2.2.2])), (pAd, .inl (cI, 32, .inl u.1)), (pAx, .inl (cI, 32, .inl u.2.1)), (pAy, .inl (cI, 32, .inl u.2.2.1)), (zA, .inr (2, [.ref zAd, .ref zAx, .ref zAy, .int zn])), (zAd, .inl (cI, 32, .inl zd)), (zAx, .inl (cI, 32, .inl zx)), (zAy, .inl (cI, 32, .inl zy))]) := by
  refine mt_v (cc := cX3_copyFrom) (maxL := 3) (by decide) rfl (Nat.le_of_ble_eq_true rfl) ?_
  intro p e s m args below meth c Q A R ls hRf hRl hx hb hml hown hts hK hA hP hD hS hl ret
  have hown : s.vm.findClass RX3 = some m.cls := hown
  have hl : lv_has ls 3 [(0, .ref pA), (1, .ref zA)] := hl
  have N2 : ∀ (pn : Int32) (k : Nat) (pd : Nat → Int32) (px : Nat → Int32) (py : Nat → Int32) (v2 : Int32), wp_X3_copyFrom_2 zd zx zy zn K  pn k pd px py v2 → ∀ (H : Heap) (locs : List Loc) (ls : Array Slot), va_P D vwCl [(pA, .inr (2, [.ref pAd, .ref pAx, .ref pAy, .int pn])), (pAd, .inl (cI, 32, .inl pd)), (pAx, .inl (cI, 32, .inl px)), (pAy, .inl (cI, 32, .inl py)), (zA, .inr (2, [.ref zAd, .ref zAx, .ref zAy, .int zn])), (zAd, .inl (cI, 32, .inl zd)), (zAx, .inl (cI, 32, .inl zx)), (zAy, .inl (cI, 32, .inl zy))] H → va_D A [(pA, .inr (2, [.ref pAd, .ref pAx, .ref pAy, .int pn])), (pAd, .inl (cI, 32, .inl pd)), (pAx, .inl (cI, 32, .inl px)), (pAy, .inl (cI, 32, .inl py)), (zA, .inr (2, [.ref zAd, .ref zAx, .ref zAy, .int zn])), (zAd, .inl (cI, 32, .inl zd)), (zAx, .inl (cI, 32, .inl zx)), (zAy, .inl (cI, 32, .inl zy))] → va_S A s.heap H locs → lv_has ls 3 [(0, .ref pA), (1, .ref zA), (2, .int v2)] → W p l e R s m args below meth c H locs 0 0 Q (F0 m 2 ls []) := by
    intro pn
    intro k
    induction k with
    | zero => intro pd px py v2 hw; exact False.elim hw
    | succ k ih2 =>
      intro pd px py v2 hw H locs ls hP hD hS hl
      have hw : wp_X3_copyFrom_2b zd zx zy zn K (wp_X3_copyFrom_2 zd zx zy zn K  pn k)  pn pd px py v2 := hw
      unfold wp_X3_copyFrom_2b at hw
      generalize wp_X3_copyFrom_2 zd zx zy zn K  pn k = L2 at hw ih2
      refine lv_iload_n hx hb dX3_copyFrom_2 rfl (lv_at hl 2 rfl) ?_
      refine lv_aload_n hx hb dX3_copyFrom_3 rfl (lv_at hl 1 rfl) ?_
      refine va_get (D := D) (ci := 2) (v := .int zn) (C := RX3) (T := TX3) (N := 4) hx hb hts in_X3_copyFrom_X3 hown hK hP 4 rfl rfl 3 (by decide) (hts (.fieldLink RX3 21 "LiveHull$Points" "count" "I") (List.mem_of_getElem? (i := 1) rfl)) (fun _ h9 => h9) rfl dX3_copyFrom_4 ?_
      obtain ⟨hwA, hwB⟩ := hw
      refine lv_icmp_ge (tgt := 39) hx hb dX3_copyFrom_7 (by decide) (fun cb => ?_) (fun cb => ?_)
      · have hw := hwA cb
        refine lv_aload_n hx hb dX3_copyFrom_39 rfl (lv_at hl 0 rfl) ?_
        refine lv_aload_n hx hb dX3_copyFrom_40 rfl (lv_at hl 1 rfl) ?_
        refine va_get (D := D) (ci := 2) (v := .int zn) (C := RX3) (T := TX3) (N := 4) hx hb hts in_X3_copyFrom_X3 hown hK hP 4 rfl rfl 3 (by decide) (hts (.fieldLink RX3 21 "LiveHull$Points" "count" "I") (List.mem_of_getElem? (i := 1) rfl)) (fun _ h9 => h9) rfl dX3_copyFrom_41 ?_
        refine va_put (D := D) (ci := 2) (v := .int zn) (ty := .int) (C := RX3) (T := TX3) (N := 4) hx hb hts in_X3_copyFrom_X3 tyX3 tyX3_ok nmX3 hown hK hP hD hS 0 rfl rfl 3 (by decide) (hts (.fieldLink RX3 21 "LiveHull$Points" "count" "I") (List.mem_of_getElem? (i := 1) rfl)) (fun _ h9 => h9) rfl (by decide +kernel) rfl rfl (Nat.le_of_ble_eq_true rfl) dX3_copyFrom_44 (fun H locs hP hD hS => ?_)
        have hP : va_P D vwCl [(pA, .inr (2, [.ref pAd, .ref pAx, .ref pAy, .int zn])), (pAd, .inl (cI, 32, .inl pd)), (pAx, .inl (cI, 32, .inl px)), (pAy, .inl (cI, 32, .inl py)), (zA, .inr (2, [.ref zAd, .ref zAx, .ref zAy, .int zn])), (zAd, .inl (cI, 32, .inl zd)), (zAx, .inl (cI, 32, .inl zx)), (zAy, .inl (cI, 32, .inl zy))] H := hP
        have hD : va_D A [(pA, .inr (2, [.ref pAd, .ref pAx, .ref pAy, .int zn])), (pAd, .inl (cI, 32, .inl pd)), (pAx, .inl (cI, 32, .inl px)), (pAy, .inl (cI, 32, .inl py)), (zA, .inr (2, [.ref zAd, .ref zAx, .ref zAy, .int zn])), (zAd, .inl (cI, 32, .inl zd)), (zAx, .inl (cI, 32, .inl zx)), (zAy, .inl (cI, 32, .inl zy))] := hD
        exact ret _ _ _ _ (pd, px, py, zn) hw hP hD hS dX3_copyFrom_47
      · have hw := hwB cb
        refine lv_aload_n hx hb dX3_copyFrom_10 rfl (lv_at hl 0 rfl) ?_
        refine lv_iload_n hx hb dX3_copyFrom_11 rfl (lv_at hl 2 rfl) ?_
        refine lv_aload_n hx hb dX3_copyFrom_12 rfl (lv_at hl 1 rfl) ?_
        refine va_get (D := D) (ci := 2) (v := .ref zAd) (C := RX3) (T := TX3) (N := 4) hx hb hts in_X3_copyFrom_X3 hown hK hP 4 rfl rfl 0 (by decide) (hts (.fieldLink RX3 9 "LiveHull$Points" "ids" "[I") (List.mem_of_getElem? (i := 2) rfl)) (fun _ h9 => h9) rfl dX3_copyFrom_13 ?_
        refine lv_iload_n hx hb dX3_copyFrom_16 rfl (lv_at hl 2 rfl) ?_
        obtain ⟨hi, hw⟩ := hw
        refine va_iald hx hb hK hP 5 0 rfl rfl hi dX3_copyFrom_17 ?_
        refine lv_aload_n hx hb dX3_copyFrom_18 rfl (lv_at hl 1 rfl) ?_
        refine va_get (D := D) (ci := 2) (v := .ref zAx) (C := RX3) (T := TX3) (N := 4) hx hb hts in_X3_copyFrom_X3 hown hK hP 4 rfl rfl 1 (by decide) (hts (.fieldLink RX3 15 "LiveHull$Points" "xs" "[I") (List.mem_of_getElem? (i := 3) rfl)) (fun _ h9 => h9) rfl dX3_copyFrom_19 ?_
        refine lv_iload_n hx hb dX3_copyFrom_22 rfl (lv_at hl 2 rfl) ?_
        obtain ⟨hi, hw⟩ := hw
        refine va_iald hx hb hK hP 6 0 rfl rfl hi dX3_copyFrom_23 ?_
        refine lv_aload_n hx hb dX3_copyFrom_24 rfl (lv_at hl 1 rfl) ?_
        refine va_get (D := D) (ci := 2) (v := .ref zAy) (C := RX3) (T := TX3) (N := 4) hx hb hts in_X3_copyFrom_X3 hown hK hP 4 rfl rfl 2 (by decide) (hts (.fieldLink RX3 18 "LiveHull$Points" "ys" "[I") (List.mem_of_getElem? (i := 4) rfl)) (fun _ h9 => h9) rfl dX3_copyFrom_25 ?_
        refine lv_iload_n hx hb dX3_copyFrom_28 rfl (lv_at hl 2 rfl) ?_
        obtain ⟨hi, hw⟩ := hw
        refine va_iald hx hb hK hP 7 0 rfl rfl hi dX3_copyFrom_29 ?_
        refine cl_Vv (As := [.int v2, .int (zd v2.toNatClampNeg), .int (zx v2.toNatClampNeg), .int (zy v2.toNatClampNeg)]) (rest := []) ⟨hx, hb, hml, hown, hts⟩ (c_X3_setRow l D cI cJ cZ cO pA pAd pAx pAy pd px py pn v2 (zd v2.toNatClampNeg) (zx v2.toNatClampNeg) (zy v2.toNatClampNeg) _ hw) (cwV 4 hts gX3_copyFrom_X3_setRow rfl rfl rfl hd_X3_setRow ⟨Nat.le_trans (Nat.le_of_ble_eq_true rfl) hRf, Nat.le_trans (Nat.le_of_ble_eq_true rfl) hRl⟩) hK hP hD hS hA [0, 1, 2, 3] [4, 5, 6, 7] rfl (by decide) rfl (by decide) (by decide) 0 2 rfl rfl rfl hl.1 rfl (Nat.le_of_ble_eq_true rfl) dX3_copyFrom_30 ⟨Nat.zero_le _, Nat.zero_le _⟩ (fun u H locs hw hP hD hS => ?_)
        obtain ⟨pd_30, px_30, py_30⟩ := u
        try dsimp only at hw
        have hP : va_P D vwCl [(pA, .inr (2, [.ref pAd, .ref pAx, .ref pAy, .int pn])), (pAd, .inl (cI, 32, .inl pd_30)), (pAx, .inl (cI, 32, .inl px_30)), (pAy, .inl (cI, 32, .inl py_30)), (zA, .inr (2, [.ref zAd, .ref zAx, .ref zAy, .int zn])), (zAd, .inl (cI, 32, .inl zd)), (zAx, .inl (cI, 32, .inl zx)), (zAy, .inl (cI, 32, .inl zy))] H := hP.sub [4, 5, 6, 7, 0, 1, 2, 3] rfl
        have hD : va_D A [(pA, .inr (2, [.ref pAd, .ref pAx, .ref pAy, .int pn])), (pAd, .inl (cI, 32, .inl pd_30)), (pAx, .inl (cI, 32, .inl px_30)), (pAy, .inl (cI, 32, .inl py_30)), (zA, .inr (2, [.ref zAd, .ref zAx, .ref zAy, .int zn])), (zAd, .inl (cI, 32, .inl zd)), (zAx, .inl (cI, 32, .inl zx)), (zAy, .inl (cI, 32, .inl zy))] := hD.sub [4, 5, 6, 7, 0, 1, 2, 3] (by decide) rfl
        refine lv_iinc (v := (v2 + 1)) (lv' := [(2, .int (v2 + 1)), (0, .ref pA), (1, .ref zA)]) hx hb dX3_copyFrom_33 hl (k := 2) rfl rfl (by decide) rfl (fun ls hl => ?_)
        refine lv_goto (tgt := 2) hx hb dX3_copyFrom_36 (by decide) ?_
        exact ih2 pd_30 px_30 py_30 (v2 + 1) hw _ _ _ hP hD hS (lv_sub hl [1, 2, 0] rfl)
  unfold wp_X3_copyFrom at hw
  refine lv_iconst (v := 0) hx hb dX3_copyFrom_0 (by decide) ?_
  refine lv_istore_n (lv' := [(2, .int 0), (0, .ref pA), (1, .ref zA)]) hx hb dX3_copyFrom_1 rfl hl (by decide) rfl (fun ls hl => ?_)
  obtain ⟨k, hw⟩ := hw
  exact N2 pn k pd px py 0 hw _ _ _ hP hD hS (lv_sub hl [1, 2, 0] rfl)
theorem in_X3_turn_X3 : ∀ w ∈ wsX30, w ∈ wsX3_turn := fun _ h => List.mem_cons_of_mem _ (List.mem_append_right _ h)
theorem hd_X3_turn : yX3_turn.cls = RX3 ∧ yX3_turn.cls ≠ "java/lang/invoke/MethodHandle" ∧ yX3_turn.cls ≠ "java/lang/invoke/VarHandle" ∧ (parseMethodDescriptor yX3_turn.desc).map (fun d => d.parameters.length) = some 4 := by decide +kernel
set_option maxHeartbeats 8000000 in
set_option maxRecDepth 100000 in
theorem c_X3_turn (l : Launch) (D : va_G) (cI cJ cZ cO : ClassId) (pA pAd pAx pAy : Nat) (pd : Nat → Int32) (px : Nat → Int32) (py : Nat → Int32) (pn : Int32) (v1 : Int32) (v2 : Int32) (v3 : Int32) (v4 : Int32) (K : Int64 → Prop) (hw : wp_X3_turn px py v1 v2 v3 v4 K) : Cl l D (tys4 cI cJ cZ cO) yX3_turn wsX3_turn { frames := 0, cells := 0, slots := 0, locals := 0 } [.ref pA, .int v1, .int v2, .int v3, .int v4] [(pA, .inr (2, [.ref pAd, .ref pAx, .ref pAy, .int pn])), (pAd, .inl (cI, 32, .inl pd)), (pAx, .inl (cI, 32, .inl px)), (pAy, .inl (cI, 32, .inl py))] (fun (r : Int64) (_ : Unit) => K r) (fun _ => [(pA, .inr (2, [.ref pAd, .ref pAx, .ref pAy, .int pn])), (pAd, .inl (cI, 32, .inl pd)), (pAx, .inl (cI, 32, .inl px)), (pAy, .inl (cI, 32, .inl py))]) := by
  refine mt_l (cc := cX3_turn) (maxL := 13) (by decide) rfl (Nat.le_of_ble_eq_true rfl) ?_
  intro p e s m args below meth c Q A R ls hRf hRl hx hb hml hown hts hK hA hP hD hS hl ret
  have hown : s.vm.findClass RX3 = some m.cls := hown
  have hl : lv_has ls 13 [(0, .ref pA), (1, .int v1), (2, .int v2), (3, .int v3), (4, .int v4)] := hl
  unfold wp_X3_turn at hw
  refine lv_aload_n hx hb dX3_turn_0 rfl (lv_at hl 0 rfl) ?_
  refine va_get (D := D) (ci := 2) (v := .ref pAx) (C := RX3) (T := TX3) (N := 4) hx hb hts in_X3_turn_X3 hown hK hP 0 rfl rfl 1 (by decide) (hts (.fieldLink RX3 15 "LiveHull$Points" "xs" "[I") (List.mem_of_getElem? (i := 1) rfl)) (fun _ h9 => h9) rfl dX3_turn_1 ?_
  refine lv_iload_n hx hb dX3_turn_4 rfl (lv_at hl 2 rfl) ?_
  obtain ⟨hi, hw⟩ := hw
  refine va_iald hx hb hK hP 2 0 rfl rfl hi dX3_turn_5 ?_
  refine lv_i2l hx hb dX3_turn_6 rfl ?_
  refine lv_aload_n hx hb dX3_turn_7 rfl (lv_at hl 0 rfl) ?_
  refine va_get (D := D) (ci := 2) (v := .ref pAx) (C := RX3) (T := TX3) (N := 4) hx hb hts in_X3_turn_X3 hown hK hP 0 rfl rfl 1 (by decide) (hts (.fieldLink RX3 15 "LiveHull$Points" "xs" "[I") (List.mem_of_getElem? (i := 1) rfl)) (fun _ h9 => h9) rfl dX3_turn_8 ?_
  refine lv_iload_n hx hb dX3_turn_11 rfl (lv_at hl 1 rfl) ?_
  obtain ⟨hi, hw⟩ := hw
  refine va_iald hx hb hK hP 2 0 rfl rfl hi dX3_turn_12 ?_
  refine lv_i2l hx hb dX3_turn_13 rfl ?_
  refine lv_lsub hx hb dX3_turn_14 ?_
  refine lv_lstore (lv' := [(5, .long ((px v2.toNatClampNeg).toInt64 - (px v1.toNatClampNeg).toInt64)), (0, .ref pA), (1, .int v1), (2, .int v2), (3, .int v3), (4, .int v4)]) hx hb dX3_turn_15 hl (by decide) rfl (fun ls hl => ?_)
  refine lv_aload_n hx hb dX3_turn_17 rfl (lv_at hl 1 rfl) ?_
  refine va_get (D := D) (ci := 2) (v := .ref pAy) (C := RX3) (T := TX3) (N := 4) hx hb hts in_X3_turn_X3 hown hK hP 0 rfl rfl 2 (by decide) (hts (.fieldLink RX3 18 "LiveHull$Points" "ys" "[I") (List.mem_of_getElem? (i := 2) rfl)) (fun _ h9 => h9) rfl dX3_turn_18 ?_
  refine lv_iload_n hx hb dX3_turn_21 rfl (lv_at hl 3 rfl) ?_
  obtain ⟨hi, hw⟩ := hw
  refine va_iald hx hb hK hP 3 0 rfl rfl hi dX3_turn_22 ?_
  refine lv_i2l hx hb dX3_turn_23 rfl ?_
  refine lv_aload_n hx hb dX3_turn_24 rfl (lv_at hl 1 rfl) ?_
  refine va_get (D := D) (ci := 2) (v := .ref pAy) (C := RX3) (T := TX3) (N := 4) hx hb hts in_X3_turn_X3 hown hK hP 0 rfl rfl 2 (by decide) (hts (.fieldLink RX3 18 "LiveHull$Points" "ys" "[I") (List.mem_of_getElem? (i := 2) rfl)) (fun _ h9 => h9) rfl dX3_turn_25 ?_
  refine lv_iload_n hx hb dX3_turn_28 rfl (lv_at hl 2 rfl) ?_
  obtain ⟨hi, hw⟩ := hw
  refine va_iald hx hb hK hP 3 0 rfl rfl hi dX3_turn_29 ?_
  refine lv_i2l hx hb dX3_turn_30 rfl ?_
  refine lv_lsub hx hb dX3_turn_31 ?_
  refine lv_lstore (lv' := [(7, .long ((py v2.toNatClampNeg).toInt64 - (py v1.toNatClampNeg).toInt64)), (5, .long ((px v2.toNatClampNeg).toInt64 - (px v1.toNatClampNeg).toInt64)), (0, .ref pA), (1, .int v1), (2, .int v2), (3, .int v3), (4, .int v4)]) hx hb dX3_turn_32 hl (by decide) rfl (fun ls hl => ?_)
  refine lv_iload_n hx hb dX3_turn_34 rfl (lv_at hl 5 rfl) ?_
  refine lv_i2l hx hb dX3_turn_35 rfl ?_
  refine lv_aload_n hx hb dX3_turn_36 rfl (lv_at hl 2 rfl) ?_
  refine va_get (D := D) (ci := 2) (v := .ref pAx) (C := RX3) (T := TX3) (N := 4) hx hb hts in_X3_turn_X3 hown hK hP 0 rfl rfl 1 (by decide) (hts (.fieldLink RX3 15 "LiveHull$Points" "xs" "[I") (List.mem_of_getElem? (i := 1) rfl)) (fun _ h9 => h9) rfl dX3_turn_37 ?_
  refine lv_iload_n hx hb dX3_turn_40 rfl (lv_at hl 3 rfl) ?_
  obtain ⟨hi, hw⟩ := hw
  refine va_iald hx hb hK hP 2 0 rfl rfl hi dX3_turn_41 ?_
  refine lv_i2l hx hb dX3_turn_42 rfl ?_
  refine lv_lsub hx hb dX3_turn_43 ?_
  refine lv_lstore (lv' := [(9, .long (v3.toInt64 - (px v1.toNatClampNeg).toInt64)), (7, .long ((py v2.toNatClampNeg).toInt64 - (py v1.toNatClampNeg).toInt64)), (5, .long ((px v2.toNatClampNeg).toInt64 - (px v1.toNatClampNeg).toInt64)), (0, .ref pA), (1, .int v1), (2, .int v2), (3, .int v3), (4, .int v4)]) hx hb dX3_turn_44 hl (by decide) rfl (fun ls hl => ?_)
  refine lv_iload hx hb dX3_turn_46 (lv_at hl 7 rfl) ?_
  refine lv_i2l hx hb dX3_turn_48 rfl ?_
  refine lv_aload_n hx hb dX3_turn_49 rfl (lv_at hl 3 rfl) ?_
  refine va_get (D := D) (ci := 2) (v := .ref pAy) (C := RX3) (T := TX3) (N := 4) hx hb hts in_X3_turn_X3 hown hK hP 0 rfl rfl 2 (by decide) (hts (.fieldLink RX3 18 "LiveHull$Points" "ys" "[I") (List.mem_of_getElem? (i := 2) rfl)) (fun _ h9 => h9) rfl dX3_turn_50 ?_
  refine lv_iload_n hx hb dX3_turn_53 rfl (lv_at hl 4 rfl) ?_
  obtain ⟨hi, hw⟩ := hw
  refine va_iald hx hb hK hP 3 0 rfl rfl hi dX3_turn_54 ?_
  refine lv_i2l hx hb dX3_turn_55 rfl ?_
  refine lv_lsub hx hb dX3_turn_56 ?_
  refine lv_lstore (lv' := [(11, .long (v4.toInt64 - (py v1.toNatClampNeg).toInt64)), (9, .long (v3.toInt64 - (px v1.toNatClampNeg).toInt64)), (7, .long ((py v2.toNatClampNeg).toInt64 - (py v1.toNatClampNeg).toInt64)), (5, .long ((px v2.toNatClampNeg).toInt64 - (px v1.toNatClampNeg).toInt64)), (0, .ref pA), (1, .int v1), (2, .int v2), (3, .int v3), (4, .int v4)]) hx hb dX3_turn_57 hl (by decide) rfl (fun ls hl => ?_)
  refine lv_lload hx hb dX3_turn_59 (lv_at hl 3 rfl) ?_
  refine lv_lload hx hb dX3_turn_61 (lv_at hl 0 rfl) ?_
  refine lv_lmul hx hb dX3_turn_63 ?_
  refine lv_lload hx hb dX3_turn_64 (lv_at hl 2 rfl) ?_
  refine lv_lload hx hb dX3_turn_66 (lv_at hl 1 rfl) ?_
  refine lv_lmul hx hb dX3_turn_68 ?_
  refine lv_lsub hx hb dX3_turn_69 ?_
  exact ret _ _ _ _ ((((px v2.toNatClampNeg).toInt64 - (px v1.toNatClampNeg).toInt64) * (v4.toInt64 - (py v1.toNatClampNeg).toInt64)) - (((py v2.toNatClampNeg).toInt64 - (py v1.toNatClampNeg).toInt64) * (v3.toInt64 - (px v1.toNatClampNeg).toInt64))) () hw hP hD hS dX3_turn_70
theorem in_X3_isBoxed_X3 : ∀ w ∈ wsX30, w ∈ wsX3_isBoxed := fun _ h => List.mem_cons_of_mem _ (List.mem_append_right _ h)
theorem hd_X3_isBoxed : yX3_isBoxed.cls = RX3 ∧ yX3_isBoxed.cls ≠ "java/lang/invoke/MethodHandle" ∧ yX3_isBoxed.cls ≠ "java/lang/invoke/VarHandle" ∧ (parseMethodDescriptor yX3_isBoxed.desc).map (fun d => d.parameters.length) = some 4 := by decide +kernel
set_option maxHeartbeats 8000000 in
set_option maxRecDepth 100000 in
theorem c_X3_isBoxed (l : Launch) (D : va_G) (cI cJ cZ cO : ClassId) (pA pAd pAx pAy : Nat) (pd : Nat → Int32) (px : Nat → Int32) (py : Nat → Int32) (pn : Int32) (v1 : Int32) (v2 : Int32) (v3 : Int32) (v4 : Int32) (K : Int32 → Prop) (hw : wp_X3_isBoxed px py v1 v2 v3 v4 K) : Ci l D (tys4 cI cJ cZ cO) yX3_isBoxed wsX3_isBoxed { frames := 1, cells := 0, slots := 0, locals := 14 } [.ref pA, .int v1, .int v2, .int v3, .int v4] [(pA, .inr (2, [.ref pAd, .ref pAx, .ref pAy, .int pn])), (pAd, .inl (cI, 32, .inl pd)), (pAx, .inl (cI, 32, .inl px)), (pAy, .inl (cI, 32, .inl py))] (fun (r : Int32) (_ : Unit) => K r) (fun _ => [(pA, .inr (2, [.ref pAd, .ref pAx, .ref pAy, .int pn])), (pAd, .inl (cI, 32, .inl pd)), (pAx, .inl (cI, 32, .inl px)), (pAy, .inl (cI, 32, .inl py))]) := by
  refine mt_i (cc := cX3_isBoxed) (maxL := 5) (rt := .boolean) (by decide) rfl (Nat.le_of_ble_eq_true rfl) ?_
  intro p e s m args below meth c Q A R ls hRf hRl hx hb hml hown hts hK hA hP hD hS hl ret
  have hown : s.vm.findClass RX3 = some m.cls := hown
  have hl : lv_has ls 5 [(0, .ref pA), (1, .int v1), (2, .int v2), (3, .int v3), (4, .int v4)] := hl
  unfold wp_X3_isBoxed at hw
  refine lv_iload_n hx hb dX3_isBoxed_0 rfl (lv_at hl 3 rfl) ?_
  refine lv_aload_n hx hb dX3_isBoxed_1 rfl (lv_at hl 0 rfl) ?_
  refine va_get (D := D) (ci := 2) (v := .ref pAx) (C := RX3) (T := TX3) (N := 4) hx hb hts in_X3_isBoxed_X3 hown hK hP 0 rfl rfl 1 (by decide) (hts (.fieldLink RX3 15 "LiveHull$Points" "xs" "[I") (List.mem_of_getElem? (i := 1) rfl)) (fun _ h9 => h9) rfl dX3_isBoxed_2 ?_
  refine lv_iload_n hx hb dX3_isBoxed_5 rfl (lv_at hl 1 rfl) ?_
  obtain ⟨hi, hw⟩ := hw
  refine va_iald hx hb hK hP 2 0 rfl rfl hi dX3_isBoxed_6 ?_
  refine lv_aload_n hx hb dX3_isBoxed_7 rfl (lv_at hl 0 rfl) ?_
  refine va_get (D := D) (ci := 2) (v := .ref pAx) (C := RX3) (T := TX3) (N := 4) hx hb hts in_X3_isBoxed_X3 hown hK hP 0 rfl rfl 1 (by decide) (hts (.fieldLink RX3 15 "LiveHull$Points" "xs" "[I") (List.mem_of_getElem? (i := 1) rfl)) (fun _ h9 => h9) rfl dX3_isBoxed_8 ?_
  refine lv_iload_n hx hb dX3_isBoxed_11 rfl (lv_at hl 2 rfl) ?_
  obtain ⟨hi, hw⟩ := hw
  refine va_iald hx hb hK hP 2 0 rfl rfl hi dX3_isBoxed_12 ?_
  refine va_mmin hx hb (hml.trans hl.1.symm) hown (hts (.methodLink RX3 40 Lib.Math.min.name) (List.mem_of_getElem? (i := 2) rfl)) (hts (.static Lib.Math.min.name) (List.mem_of_getElem? (i := 3) rfl)) (hts (.initialized "java/lang/Math") (List.mem_of_getElem? (i := 4) rfl)) (hts (.code Lib.Math.min.name Lib.Math.min.code 2 (some .int)) (List.mem_of_getElem? (i := 5) rfl)) (Nat.le_trans (Nat.le_of_ble_eq_true rfl) hRf) (Nat.le_trans (Nat.le_of_ble_eq_true rfl) hRl) (Nat.zero_le _) (Nat.zero_le _) dX3_isBoxed_13 ?_
  obtain ⟨hwA, hwB⟩ := hw
  refine lv_icmp_lt (tgt := 82) hx hb dX3_isBoxed_16 (by decide) (fun cb => ?_) (fun cb => ?_)
  · have hw := hwA cb
    refine lv_iconst (v := 0) hx hb dX3_isBoxed_82 (by decide) ?_
    exact ret _ _ _ _ 0 () rfl hw hP hD hS dX3_isBoxed_83
  · have hw := hwB cb
    refine lv_iload_n hx hb dX3_isBoxed_19 rfl (lv_at hl 3 rfl) ?_
    refine lv_aload_n hx hb dX3_isBoxed_20 rfl (lv_at hl 0 rfl) ?_
    refine va_get (D := D) (ci := 2) (v := .ref pAx) (C := RX3) (T := TX3) (N := 4) hx hb hts in_X3_isBoxed_X3 hown hK hP 0 rfl rfl 1 (by decide) (hts (.fieldLink RX3 15 "LiveHull$Points" "xs" "[I") (List.mem_of_getElem? (i := 1) rfl)) (fun _ h9 => h9) rfl dX3_isBoxed_21 ?_
    refine lv_iload_n hx hb dX3_isBoxed_24 rfl (lv_at hl 1 rfl) ?_
    obtain ⟨hi, hw⟩ := hw
    refine va_iald hx hb hK hP 2 0 rfl rfl hi dX3_isBoxed_25 ?_
    refine lv_aload_n hx hb dX3_isBoxed_26 rfl (lv_at hl 0 rfl) ?_
    refine va_get (D := D) (ci := 2) (v := .ref pAx) (C := RX3) (T := TX3) (N := 4) hx hb hts in_X3_isBoxed_X3 hown hK hP 0 rfl rfl 1 (by decide) (hts (.fieldLink RX3 15 "LiveHull$Points" "xs" "[I") (List.mem_of_getElem? (i := 1) rfl)) (fun _ h9 => h9) rfl dX3_isBoxed_27 ?_
    refine lv_iload_n hx hb dX3_isBoxed_30 rfl (lv_at hl 2 rfl) ?_
    obtain ⟨hi, hw⟩ := hw
    refine va_iald hx hb hK hP 2 0 rfl rfl hi dX3_isBoxed_31 ?_
    refine va_mmax hx hb (hml.trans hl.1.symm) hown (hts (.methodLink RX3 46 Lib.Math.max.name) (List.mem_of_getElem? (i := 6) rfl)) (hts (.static Lib.Math.max.name) (List.mem_of_getElem? (i := 7) rfl)) (hts (.initialized "java/lang/Math") (List.mem_of_getElem? (i := 4) rfl)) (hts (.code Lib.Math.max.name Lib.Math.max.code 2 (some .int)) (List.mem_of_getElem? (i := 8) rfl)) (Nat.le_trans (Nat.le_of_ble_eq_true rfl) hRf) (Nat.le_trans (Nat.le_of_ble_eq_true rfl) hRl) (Nat.zero_le _) (Nat.zero_le _) dX3_isBoxed_32 ?_
    obtain ⟨hwA, hwB⟩ := hw
    refine lv_icmp_gt (tgt := 82) hx hb dX3_isBoxed_35 (by decide) (fun cb => ?_) (fun cb => ?_)
    · have hw := hwA cb
      refine lv_iconst (v := 0) hx hb dX3_isBoxed_82 (by decide) ?_
      exact ret _ _ _ _ 0 () rfl hw hP hD hS dX3_isBoxed_83
    · have hw := hwB cb
      refine lv_iload hx hb dX3_isBoxed_38 (lv_at hl 4 rfl) ?_
      refine lv_aload_n hx hb dX3_isBoxed_40 rfl (lv_at hl 0 rfl) ?_
      refine va_get (D := D) (ci := 2) (v := .ref pAy) (C := RX3) (T := TX3) (N := 4) hx hb hts in_X3_isBoxed_X3 hown hK hP 0 rfl rfl 2 (by decide) (hts (.fieldLink RX3 18 "LiveHull$Points" "ys" "[I") (List.mem_of_getElem? (i := 9) rfl)) (fun _ h9 => h9) rfl dX3_isBoxed_41 ?_
      refine lv_iload_n hx hb dX3_isBoxed_44 rfl (lv_at hl 1 rfl) ?_
      obtain ⟨hi, hw⟩ := hw
      refine va_iald hx hb hK hP 3 0 rfl rfl hi dX3_isBoxed_45 ?_
      refine lv_aload_n hx hb dX3_isBoxed_46 rfl (lv_at hl 0 rfl) ?_
      refine va_get (D := D) (ci := 2) (v := .ref pAy) (C := RX3) (T := TX3) (N := 4) hx hb hts in_X3_isBoxed_X3 hown hK hP 0 rfl rfl 2 (by decide) (hts (.fieldLink RX3 18 "LiveHull$Points" "ys" "[I") (List.mem_of_getElem? (i := 9) rfl)) (fun _ h9 => h9) rfl dX3_isBoxed_47 ?_
      refine lv_iload_n hx hb dX3_isBoxed_50 rfl (lv_at hl 2 rfl) ?_
      obtain ⟨hi, hw⟩ := hw
      refine va_iald hx hb hK hP 3 0 rfl rfl hi dX3_isBoxed_51 ?_
      refine va_mmin hx hb (hml.trans hl.1.symm) hown (hts (.methodLink RX3 40 Lib.Math.min.name) (List.mem_of_getElem? (i := 2) rfl)) (hts (.static Lib.Math.min.name) (List.mem_of_getElem? (i := 3) rfl)) (hts (.initialized "java/lang/Math") (List.mem_of_getElem? (i := 4) rfl)) (hts (.code Lib.Math.min.name Lib.Math.min.code 2 (some .int)) (List.mem_of_getElem? (i := 5) rfl)) (Nat.le_trans (Nat.le_of_ble_eq_true rfl) hRf) (Nat.le_trans (Nat.le_of_ble_eq_true rfl) hRl) (Nat.zero_le _) (Nat.zero_le _) dX3_isBoxed_52 ?_
      obtain ⟨hwA, hwB⟩ := hw
      refine lv_icmp_lt (tgt := 82) hx hb dX3_isBoxed_55 (by decide) (fun cb => ?_) (fun cb => ?_)
      · have hw := hwA cb
        refine lv_iconst (v := 0) hx hb dX3_isBoxed_82 (by decide) ?_
        exact ret _ _ _ _ 0 () rfl hw hP hD hS dX3_isBoxed_83
      · have hw := hwB cb
        refine lv_iload hx hb dX3_isBoxed_58 (lv_at hl 4 rfl) ?_
        refine lv_aload_n hx hb dX3_isBoxed_60 rfl (lv_at hl 0 rfl) ?_
        refine va_get (D := D) (ci := 2) (v := .ref pAy) (C := RX3) (T := TX3) (N := 4) hx hb hts in_X3_isBoxed_X3 hown hK hP 0 rfl rfl 2 (by decide) (hts (.fieldLink RX3 18 "LiveHull$Points" "ys" "[I") (List.mem_of_getElem? (i := 9) rfl)) (fun _ h9 => h9) rfl dX3_isBoxed_61 ?_
        refine lv_iload_n hx hb dX3_isBoxed_64 rfl (lv_at hl 1 rfl) ?_
        obtain ⟨hi, hw⟩ := hw
        refine va_iald hx hb hK hP 3 0 rfl rfl hi dX3_isBoxed_65 ?_
        refine lv_aload_n hx hb dX3_isBoxed_66 rfl (lv_at hl 0 rfl) ?_
        refine va_get (D := D) (ci := 2) (v := .ref pAy) (C := RX3) (T := TX3) (N := 4) hx hb hts in_X3_isBoxed_X3 hown hK hP 0 rfl rfl 2 (by decide) (hts (.fieldLink RX3 18 "LiveHull$Points" "ys" "[I") (List.mem_of_getElem? (i := 9) rfl)) (fun _ h9 => h9) rfl dX3_isBoxed_67 ?_
        refine lv_iload_n hx hb dX3_isBoxed_70 rfl (lv_at hl 2 rfl) ?_
        obtain ⟨hi, hw⟩ := hw
        refine va_iald hx hb hK hP 3 0 rfl rfl hi dX3_isBoxed_71 ?_
        refine va_mmax hx hb (hml.trans hl.1.symm) hown (hts (.methodLink RX3 46 Lib.Math.max.name) (List.mem_of_getElem? (i := 6) rfl)) (hts (.static Lib.Math.max.name) (List.mem_of_getElem? (i := 7) rfl)) (hts (.initialized "java/lang/Math") (List.mem_of_getElem? (i := 4) rfl)) (hts (.code Lib.Math.max.name Lib.Math.max.code 2 (some .int)) (List.mem_of_getElem? (i := 8) rfl)) (Nat.le_trans (Nat.le_of_ble_eq_true rfl) hRf) (Nat.le_trans (Nat.le_of_ble_eq_true rfl) hRl) (Nat.zero_le _) (Nat.zero_le _) dX3_isBoxed_72 ?_
        obtain ⟨hwA, hwB⟩ := hw
        refine lv_icmp_gt (tgt := 82) hx hb dX3_isBoxed_75 (by decide) (fun cb => ?_) (fun cb => ?_)
        · have hw := hwA cb
          refine lv_iconst (v := 0) hx hb dX3_isBoxed_82 (by decide) ?_
          exact ret _ _ _ _ 0 () rfl hw hP hD hS dX3_isBoxed_83
        · have hw := hwB cb
          refine lv_iconst (v := 1) hx hb dX3_isBoxed_78 (by decide) ?_
          refine lv_goto (tgt := 83) hx hb dX3_isBoxed_79 (by decide) ?_
          exact ret _ _ _ _ 1 () rfl hw hP hD hS dX3_isBoxed_83
theorem in_X3_reach_X3 : ∀ w ∈ wsX30, w ∈ wsX3_reach := fun _ h => List.mem_cons_of_mem _ (List.mem_append_right _ h)
theorem hd_X3_reach : yX3_reach.cls = RX3 ∧ yX3_reach.cls ≠ "java/lang/invoke/MethodHandle" ∧ yX3_reach.cls ≠ "java/lang/invoke/VarHandle" ∧ (parseMethodDescriptor yX3_reach.desc).map (fun d => d.parameters.length) = some 3 := by decide +kernel
set_option maxHeartbeats 8000000 in
set_option maxRecDepth 100000 in
theorem c_X3_reach (l : Launch) (D : va_G) (cI cJ cZ cO : ClassId) (pA pAd pAx pAy : Nat) (pd : Nat → Int32) (px : Nat → Int32) (py : Nat → Int32) (pn : Int32) (v1 : Int32) (v2 : Int32) (v3 : Int32) (K : Int64 → Prop) (hw : wp_X3_reach px py v1 v2 v3 K) : Cl l D (tys4 cI cJ cZ cO) yX3_reach wsX3_reach { frames := 0, cells := 0, slots := 0, locals := 0 } [.ref pA, .int v1, .int v2, .int v3] [(pA, .inr (2, [.ref pAd, .ref pAx, .ref pAy, .int pn])), (pAd, .inl (cI, 32, .inl pd)), (pAx, .inl (cI, 32, .inl px)), (pAy, .inl (cI, 32, .inl py))] (fun (r : Int64) (_ : Unit) => K r) (fun _ => [(pA, .inr (2, [.ref pAd, .ref pAx, .ref pAy, .int pn])), (pAd, .inl (cI, 32, .inl pd)), (pAx, .inl (cI, 32, .inl px)), (pAy, .inl (cI, 32, .inl py))]) := by
  refine mt_l (cc := cX3_reach) (maxL := 4) (by decide) rfl (Nat.le_of_ble_eq_true rfl) ?_
  intro p e s m args below meth c Q A R ls hRf hRl hx hb hml hown hts hK hA hP hD hS hl ret
  have hown : s.vm.findClass RX3 = some m.cls := hown
  have hl : lv_has ls 4 [(0, .ref pA), (1, .int v1), (2, .int v2), (3, .int v3)] := hl
  unfold wp_X3_reach at hw
  refine lv_iload_n hx hb dX3_reach_0 rfl (lv_at hl 2 rfl) ?_
  refine lv_i2l hx hb dX3_reach_1 rfl ?_
  refine lv_aload_n hx hb dX3_reach_2 rfl (lv_at hl 0 rfl) ?_
  refine va_get (D := D) (ci := 2) (v := .ref pAx) (C := RX3) (T := TX3) (N := 4) hx hb hts in_X3_reach_X3 hown hK hP 0 rfl rfl 1 (by decide) (hts (.fieldLink RX3 15 "LiveHull$Points" "xs" "[I") (List.mem_of_getElem? (i := 1) rfl)) (fun _ h9 => h9) rfl dX3_reach_3 ?_
  refine lv_iload_n hx hb dX3_reach_6 rfl (lv_at hl 1 rfl) ?_
  obtain ⟨hi, hw⟩ := hw
  refine va_iald hx hb hK hP 2 0 rfl rfl hi dX3_reach_7 ?_
  refine lv_i2l hx hb dX3_reach_8 rfl ?_
  refine lv_lmul hx hb dX3_reach_9 ?_
  refine lv_iload_n hx hb dX3_reach_10 rfl (lv_at hl 3 rfl) ?_
  refine lv_i2l hx hb dX3_reach_11 rfl ?_
  refine lv_aload_n hx hb dX3_reach_12 rfl (lv_at hl 0 rfl) ?_
  refine va_get (D := D) (ci := 2) (v := .ref pAy) (C := RX3) (T := TX3) (N := 4) hx hb hts in_X3_reach_X3 hown hK hP 0 rfl rfl 2 (by decide) (hts (.fieldLink RX3 18 "LiveHull$Points" "ys" "[I") (List.mem_of_getElem? (i := 2) rfl)) (fun _ h9 => h9) rfl dX3_reach_13 ?_
  refine lv_iload_n hx hb dX3_reach_16 rfl (lv_at hl 1 rfl) ?_
  obtain ⟨hi, hw⟩ := hw
  refine va_iald hx hb hK hP 3 0 rfl rfl hi dX3_reach_17 ?_
  refine lv_i2l hx hb dX3_reach_18 rfl ?_
  refine lv_lmul hx hb dX3_reach_19 ?_
  refine lv_ladd hx hb dX3_reach_20 ?_
  exact ret _ _ _ _ ((v2.toInt64 * (px v1.toNatClampNeg).toInt64) + (v3.toInt64 * (py v1.toNatClampNeg).toInt64)) () hw hP hD hS dX3_reach_21
theorem in_X3_squaredDistance_X3 : ∀ w ∈ wsX30, w ∈ wsX3_squaredDistance := fun _ h => List.mem_cons_of_mem _ (List.mem_append_right _ h)
theorem hd_X3_squaredDistance : yX3_squaredDistance.cls = RX3 ∧ yX3_squaredDistance.cls ≠ "java/lang/invoke/MethodHandle" ∧ yX3_squaredDistance.cls ≠ "java/lang/invoke/VarHandle" ∧ (parseMethodDescriptor yX3_squaredDistance.desc).map (fun d => d.parameters.length) = some 3 := by decide +kernel
set_option maxHeartbeats 8000000 in
set_option maxRecDepth 100000 in
theorem c_X3_squaredDistance (l : Launch) (D : va_G) (cI cJ cZ cO : ClassId) (pA pAd pAx pAy : Nat) (pd : Nat → Int32) (px : Nat → Int32) (py : Nat → Int32) (pn : Int32) (v1 : Int32) (v2 : Int32) (v3 : Int32) (K : Int64 → Prop) (hw : wp_X3_squaredDistance px py v1 v2 v3 K) : Cl l D (tys4 cI cJ cZ cO) yX3_squaredDistance wsX3_squaredDistance { frames := 0, cells := 0, slots := 0, locals := 0 } [.ref pA, .int v1, .int v2, .int v3] [(pA, .inr (2, [.ref pAd, .ref pAx, .ref pAy, .int pn])), (pAd, .inl (cI, 32, .inl pd)), (pAx, .inl (cI, 32, .inl px)), (pAy, .inl (cI, 32, .inl py))] (fun (r : Int64) (_ : Unit) => K r) (fun _ => [(pA, .inr (2, [.ref pAd, .ref pAx, .ref pAy, .int pn])), (pAd, .inl (cI, 32, .inl pd)), (pAx, .inl (cI, 32, .inl px)), (pAy, .inl (cI, 32, .inl py))]) := by
  refine mt_l (cc := cX3_squaredDistance) (maxL := 8) (by decide) rfl (Nat.le_of_ble_eq_true rfl) ?_
  intro p e s m args below meth c Q A R ls hRf hRl hx hb hml hown hts hK hA hP hD hS hl ret
  have hown : s.vm.findClass RX3 = some m.cls := hown
  have hl : lv_has ls 8 [(0, .ref pA), (1, .int v1), (2, .int v2), (3, .int v3)] := hl
  unfold wp_X3_squaredDistance at hw
  refine lv_iload_n hx hb dX3_squaredDistance_0 rfl (lv_at hl 2 rfl) ?_
  refine lv_i2l hx hb dX3_squaredDistance_1 rfl ?_
  refine lv_aload_n hx hb dX3_squaredDistance_2 rfl (lv_at hl 0 rfl) ?_
  refine va_get (D := D) (ci := 2) (v := .ref pAx) (C := RX3) (T := TX3) (N := 4) hx hb hts in_X3_squaredDistance_X3 hown hK hP 0 rfl rfl 1 (by decide) (hts (.fieldLink RX3 15 "LiveHull$Points" "xs" "[I") (List.mem_of_getElem? (i := 1) rfl)) (fun _ h9 => h9) rfl dX3_squaredDistance_3 ?_
  refine lv_iload_n hx hb dX3_squaredDistance_6 rfl (lv_at hl 1 rfl) ?_
  obtain ⟨hi, hw⟩ := hw
  refine va_iald hx hb hK hP 2 0 rfl rfl hi dX3_squaredDistance_7 ?_
  refine lv_i2l hx hb dX3_squaredDistance_8 rfl ?_
  refine lv_lsub hx hb dX3_squaredDistance_9 ?_
  refine lv_lstore (lv' := [(4, .long (v2.toInt64 - (px v1.toNatClampNeg).toInt64)), (0, .ref pA), (1, .int v1), (2, .int v2), (3, .int v3)]) hx hb dX3_squaredDistance_10 hl (by decide) rfl (fun ls hl => ?_)
  refine lv_iload_n hx hb dX3_squaredDistance_12 rfl (lv_at hl 4 rfl) ?_
  refine lv_i2l hx hb dX3_squaredDistance_13 rfl ?_
  refine lv_aload_n hx hb dX3_squaredDistance_14 rfl (lv_at hl 1 rfl) ?_
  refine va_get (D := D) (ci := 2) (v := .ref pAy) (C := RX3) (T := TX3) (N := 4) hx hb hts in_X3_squaredDistance_X3 hown hK hP 0 rfl rfl 2 (by decide) (hts (.fieldLink RX3 18 "LiveHull$Points" "ys" "[I") (List.mem_of_getElem? (i := 2) rfl)) (fun _ h9 => h9) rfl dX3_squaredDistance_15 ?_
  refine lv_iload_n hx hb dX3_squaredDistance_18 rfl (lv_at hl 2 rfl) ?_
  obtain ⟨hi, hw⟩ := hw
  refine va_iald hx hb hK hP 3 0 rfl rfl hi dX3_squaredDistance_19 ?_
  refine lv_i2l hx hb dX3_squaredDistance_20 rfl ?_
  refine lv_lsub hx hb dX3_squaredDistance_21 ?_
  refine lv_lstore (lv' := [(6, .long (v3.toInt64 - (py v1.toNatClampNeg).toInt64)), (4, .long (v2.toInt64 - (px v1.toNatClampNeg).toInt64)), (0, .ref pA), (1, .int v1), (2, .int v2), (3, .int v3)]) hx hb dX3_squaredDistance_22 hl (by decide) rfl (fun ls hl => ?_)
  refine lv_lload hx hb dX3_squaredDistance_24 (lv_at hl 1 rfl) ?_
  refine lv_lload hx hb dX3_squaredDistance_26 (lv_at hl 1 rfl) ?_
  refine lv_lmul hx hb dX3_squaredDistance_28 ?_
  refine lv_lload hx hb dX3_squaredDistance_29 (lv_at hl 0 rfl) ?_
  refine lv_lload hx hb dX3_squaredDistance_31 (lv_at hl 0 rfl) ?_
  refine lv_lmul hx hb dX3_squaredDistance_33 ?_
  refine lv_ladd hx hb dX3_squaredDistance_34 ?_
  exact ret _ _ _ _ (((v2.toInt64 - (px v1.toNatClampNeg).toInt64) * (v2.toInt64 - (px v1.toNatClampNeg).toInt64)) + ((v3.toInt64 - (py v1.toNatClampNeg).toInt64) * (v3.toInt64 - (py v1.toNatClampNeg).toInt64))) () hw hP hD hS dX3_squaredDistance_35
