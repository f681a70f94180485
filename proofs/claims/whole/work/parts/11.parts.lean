/-- X2_splitPart -/
def wp_X2_splitPart_56 (v1 : Int32) (K : (Nat → Int32) → (Nat → Int32) → Prop)  (qf : Nat → Int32) (qs : Nat → Int32) (v2 : Int32) (v3 : Int32) (v4 : Int32) (s1 : Int32) (s2 : Int32) : Prop := (vp_in s1 64 ∧ (vp_in v1 64 ∧ (vp_in (((2 : Int32) * v1) + 1) 64 ∧ ((v3 = 0 → (vp_in (((2 : Int32) * v1) + 1) 64 ∧ (K (upd qf (((2 : Int32) * v1) + 1).toNatClampNeg ((qf v1.toNatClampNeg) + v4)) (upd (upd qs s1.toNatClampNeg s2) (((2 : Int32) * v1) + 1).toNatClampNeg 0)))) ∧ (¬ v3 = 0 → (vp_in (((2 : Int32) * v1) + 1) 64 ∧ (K (upd qf (((2 : Int32) * v1) + 1).toNatClampNeg ((qf v1.toNatClampNeg) + v4)) (upd (upd qs s1.toNatClampNeg s2) (((2 : Int32) * v1) + 1).toNatClampNeg (v2 - v4)))))))))
def wp_X2_splitPart_17 (v1 : Int32) (K : (Nat → Int32) → (Nat → Int32) → Prop)  (qf : Nat → Int32) (qs : Nat → Int32) (v2 : Int32) (s0 : Int32) : Prop := (vp_in v1 64 ∧ (vp_in ((2 : Int32) * v1) 64 ∧ ((s0 = 0 → (wp_X2_splitPart_56 v1 K  (upd qf ((2 : Int32) * v1).toNatClampNeg (qf v1.toNatClampNeg)) qs v2 s0 ((v2 + 1) / 2) ((2 : Int32) * v1) 0)) ∧ (¬ s0 = 0 → (wp_X2_splitPart_56 v1 K  (upd qf ((2 : Int32) * v1).toNatClampNeg (qf v1.toNatClampNeg)) qs v2 s0 ((v2 + 1) / 2) ((2 : Int32) * v1) ((v2 + 1) / 2))))))
def wp_X2_splitPart (qf : Nat → Int32) (qs : Nat → Int32) (v1 : Int32) (K : (Nat → Int32) → (Nat → Int32) → Prop) : Prop := (vp_in v1 64 ∧ (((qs v1.toNatClampNeg) ≤ (1 : Int32) → (wp_X2_splitPart_17 v1 K  qf qs (qs v1.toNatClampNeg) 0)) ∧ (¬ (qs v1.toNatClampNeg) ≤ (1 : Int32) → (wp_X2_splitPart_17 v1 K  qf qs (qs v1.toNatClampNeg) 1))))
/-- X2_split -/
def wp_X2_split_16b (v1 : Int32) (K : (Nat → Int32) → (Nat → Int32) → Prop) (L16 : (Nat → Int32) → (Nat → Int32) → Int32 → Prop)   (qf : Nat → Int32) (qs : Nat → Int32) (v2 : Int32) : Prop := (((63 : Int32) < (((2 : Int32) * v2) + 1) → (K qf qs)) ∧ (¬ (63 : Int32) < (((2 : Int32) * v2) + 1) → (wp_X2_splitPart qf qs v2 (fun qf_28 qs_28 => (L16 qf_28 qs_28 (v2 + 1))))))
def wp_X2_split_16 (v1 : Int32) (K : (Nat → Int32) → (Nat → Int32) → Prop)   : Nat → (Nat → Int32) → (Nat → Int32) → Int32 → Prop
  | 0 => fun _ _ _ => False
  | k + 1 => fun qf qs v2 => wp_X2_split_16b v1 K (wp_X2_split_16 v1 K   k)   qf qs v2
def wp_X2_split (qf : Nat → Int32) (qs : Nat → Int32) (v1 : Int32) (K : (Nat → Int32) → (Nat → Int32) → Prop) : Prop := (vp_in 1 64 ∧ (vp_in 1 64 ∧ (∃ k, wp_X2_split_16 v1 K   k (upd qf (1 : Int32).toNatClampNeg 0) (upd qs (1 : Int32).toNatClampNeg v1) 1)))
/-- X2_has -/
def wp_X2_has (qs : Nat → Int32) (v1 : Int32) (K : Int32 → Prop) : Prop := ((v1 < (1 : Int32) → (K 0)) ∧ (¬ v1 < (1 : Int32) → (((63 : Int32) < v1 → (K 0)) ∧ (¬ (63 : Int32) < v1 → (vp_in v1 64 ∧ (((qs v1.toNatClampNeg) ≤ 0 → (K 0)) ∧ (¬ (qs v1.toNatClampNeg) ≤ 0 → (K 1))))))))
/-- X2_hasHalves -/
def wp_X2_hasHalves (qs : Nat → Int32) (v1 : Int32) (K : Int32 → Prop) : Prop := (wp_X2_has qs v1 (fun r2 => ((r2 = 0 → (K 0)) ∧ (¬ r2 = 0 → (((31 : Int32) < v1 → (K 0)) ∧ (¬ (31 : Int32) < v1 → (vp_in v1 64 ∧ (((qs v1.toNatClampNeg) ≤ (1 : Int32) → (K 0)) ∧ (¬ (qs v1.toNatClampNeg) ≤ (1 : Int32) → (K 1))))))))))
/-- X2_holds -/
def wp_X2_holds (qf : Nat → Int32) (qs : Nat → Int32) (v1 : Int32) (v2 : Int32) (K : Int32 → Prop) : Prop := (wp_X2_has qs v1 (fun r2 => ((r2 = 0 → (K 0)) ∧ (¬ r2 = 0 → (vp_in v1 64 ∧ ((v2 < (qf v1.toNatClampNeg) → (K 0)) ∧ (¬ v2 < (qf v1.toNatClampNeg) → (vp_in v1 64 ∧ (vp_in v1 64 ∧ ((((qf v1.toNatClampNeg) + (qs v1.toNatClampNeg)) ≤ v2 → (K 0)) ∧ (¬ ((qf v1.toNatClampNeg) + (qs v1.toNatClampNeg)) ≤ v2 → (K 1))))))))))))
/-- X2_howMany -/
def wp_X2_howMany_4b (qs : Nat → Int32) (K : Int32 → Prop) (L4 : Int32 → Int32 → Prop)   (v1 : Int32) (v2 : Int32) : Prop := (((63 : Int32) < v2 → (K v1)) ∧ (¬ (63 : Int32) < v2 → (wp_X2_has qs v2 (fun r12 => ((r12 = 0 → (L4 v1 (v2 + 1))) ∧ (¬ r12 = 0 → (L4 (v1 + 1) (v2 + 1))))))))
def wp_X2_howMany_4 (qs : Nat → Int32) (K : Int32 → Prop)   : Nat → Int32 → Int32 → Prop
  | 0 => fun _ _ => False
  | k + 1 => fun v1 v2 => wp_X2_howMany_4b qs K (wp_X2_howMany_4 qs K   k)   v1 v2
def wp_X2_howMany (qs : Nat → Int32) (K : Int32 → Prop) : Prop := (∃ k, wp_X2_howMany_4 qs K   k 0 1)
/-- X2_depthOf -/
def wp_X2_depthOf_6b (v0 : Int32) (K : Int32 → Prop) (L6 : Int32 → Int32 → Prop)   (v1 : Int32) (v2 : Int32) : Prop := ((v2 < (1 : Int32) → (K v1)) ∧ (¬ v2 < (1 : Int32) → (L6 (v1 + 1) (v2 / 2))))
def wp_X2_depthOf_6 (v0 : Int32) (K : Int32 → Prop)   : Nat → Int32 → Int32 → Prop
  | 0 => fun _ _ => False
  | k + 1 => fun v1 v2 => wp_X2_depthOf_6b v0 K (wp_X2_depthOf_6 v0 K   k)   v1 v2
def wp_X2_depthOf (v0 : Int32) (K : Int32 → Prop) : Prop := (∃ k, wp_X2_depthOf_6 v0 K   k 0 (v0 / 2))
/-- X2_greatestDepth -/
def wp_X2_greatestDepth_3b (qs : Nat → Int32) (K : Int32 → Prop) (L3 : Int32 → Prop)   (v1 : Int32) : Prop := ((v1 < (1 : Int32) → (K (-6))) ∧ (¬ v1 < (1 : Int32) → (wp_X2_has qs v1 (fun r10 => ((r10 = 0 → (L3 (v1 + (-1)))) ∧ (¬ r10 = 0 → (wp_X2_depthOf v1 (fun r17 => (K r17)))))))))
def wp_X2_greatestDepth_3 (qs : Nat → Int32) (K : Int32 → Prop)   : Nat → Int32 → Prop
  | 0 => fun _ => False
  | k + 1 => fun v1 => wp_X2_greatestDepth_3b qs K (wp_X2_greatestDepth_3 qs K   k)   v1
def wp_X2_greatestDepth (qs : Nat → Int32) (K : Int32 → Prop) : Prop := (∃ k, wp_X2_greatestDepth_3 qs K   k 63)
theorem in_X2_splitPart_X2 : ∀ w ∈ wsX20, w ∈ wsX2_splitPart := fun _ h => List.mem_cons_of_mem _ (List.mem_append_right _ h)
theorem hd_X2_splitPart : yX2_splitPart.cls = RX2 ∧ yX2_splitPart.cls ≠ "java/lang/invoke/MethodHandle" ∧ yX2_splitPart.cls ≠ "java/lang/invoke/VarHandle" ∧ (parseMethodDescriptor yX2_splitPart.desc).map (fun d => d.parameters.length) = some 1 := by decide +kernel
set_option maxHeartbeats 8000000 in
set_option maxRecDepth 100000 in
theorem c_X2_splitPart (l : Launch) (D : va_G) (cI cJ cZ cO : ClassId) (qA qAf qAs : Nat) (qf : Nat → Int32) (qs : Nat → Int32) (v1 : Int32) (K : (Nat → Int32) → (Nat → Int32) → Prop) (hw : wp_X2_splitPart qf qs v1 K) : Cv l D (tys4 cI cJ cZ cO) yX2_splitPart wsX2_splitPart { frames := 0, cells := 0, slots := 0, locals := 0 } [.ref qA, .int v1] [(qA, .inr (1, [.ref qAf, .ref qAs])), (qAf, .inl (cI, 64, .inl qf)), (qAs, .inl (cI, 64, .inl qs))] (fun (u : (Nat → Int32) × (Nat → Int32)) => K u.1 u.2) (fun u => [(qA, .inr (1, [.ref qAf, .ref qAs])), (qAf, .inl (cI, 64, .inl u.1)), (qAs, .inl (cI, 64, .inl u.2))]) := by
  refine mt_v (cc := cX2_splitPart) (maxL := 5) (by decide) rfl (Nat.le_of_ble_eq_true rfl) ?_
  intro p e s m args below meth c Q A R ls hRf hRl hx hb hml hown hts hK hA hP hD hS hl ret
  have hown : s.vm.findClass RX2 = some m.cls := hown
  have hl : lv_has ls 5 [(0, .ref qA), (1, .int v1)] := hl
  have N56 : ∀ (qf : Nat → Int32) (qs : Nat → Int32) (v2 : Int32) (v3 : Int32) (v4 : Int32) (s1 : Int32) (s2 : Int32), wp_X2_splitPart_56 v1 K  qf qs v2 v3 v4 s1 s2 → ∀ (H : Heap) (locs : List Loc) (ls : Array Slot), va_P D vwCl [(qA, .inr (1, [.ref qAf, .ref qAs])), (qAf, .inl (cI, 64, .inl qf)), (qAs, .inl (cI, 64, .inl qs))] H → va_D A [(qA, .inr (1, [.ref qAf, .ref qAs])), (qAf, .inl (cI, 64, .inl qf)), (qAs, .inl (cI, 64, .inl qs))] → va_S A s.heap H locs → lv_has ls 5 [(0, .ref qA), (1, .int v1), (2, .int v2), (3, .int v3), (4, .int v4)] → W p l e R s m args below meth c H locs 0 0 Q (F0 m 56 ls [.int s2, .int s1, .ref qAs]) := by
    intro qf qs v2 v3 v4 s1 s2 hw H locs ls hP hD hS hl
    unfold wp_X2_splitPart_56 at hw
    obtain ⟨hi, hw⟩ := hw
    refine va_iast hx hb hK hP hD hS 2 0 rfl rfl hi dX2_splitPart_56 (fun H locs hP hD hS => ?_)
    have hP : va_P D vwCl [(qA, .inr (1, [.ref qAf, .ref qAs])), (qAf, .inl (cI, 64, .inl qf)), (qAs, .inl (cI, 64, .inl (upd qs s1.toNatClampNeg s2)))] H := hP
    have hD : va_D A [(qA, .inr (1, [.ref qAf, .ref qAs])), (qAf, .inl (cI, 64, .inl qf)), (qAs, .inl (cI, 64, .inl (upd qs s1.toNatClampNeg s2)))] := hD
    refine lv_aload_n hx hb dX2_splitPart_57 rfl (lv_at hl 0 rfl) ?_
    refine va_get (D := D) (ci := 1) (v := .ref qAf) (C := RX2) (T := TX2) (N := 2) hx hb hts in_X2_splitPart_X2 hown hK hP 0 rfl rfl 0 (by decide) (hts (.fieldLink RX2 9 "LiveHull$Parts" "firsts" "[I") (List.mem_of_getElem? (i := 2) rfl)) (fun _ h9 => h9) rfl dX2_splitPart_58 ?_
    refine lv_iconst (v := 2) hx hb dX2_splitPart_61 (by decide) ?_
    refine lv_iload_n hx hb dX2_splitPart_62 rfl (lv_at hl 1 rfl) ?_
    refine lv_imul hx hb dX2_splitPart_63 ?_
    refine lv_iconst (v := 1) hx hb dX2_splitPart_64 (by decide) ?_
    refine lv_iadd hx hb dX2_splitPart_65 ?_
    refine lv_aload_n hx hb dX2_splitPart_66 rfl (lv_at hl 0 rfl) ?_
    refine va_get (D := D) (ci := 1) (v := .ref qAf) (C := RX2) (T := TX2) (N := 2) hx hb hts in_X2_splitPart_X2 hown hK hP 0 rfl rfl 0 (by decide) (hts (.fieldLink RX2 9 "LiveHull$Parts" "firsts" "[I") (List.mem_of_getElem? (i := 2) rfl)) (fun _ h9 => h9) rfl dX2_splitPart_67 ?_
    refine lv_iload_n hx hb dX2_splitPart_70 rfl (lv_at hl 1 rfl) ?_
    obtain ⟨hi, hw⟩ := hw
    refine va_iald hx hb hK hP 1 0 rfl rfl hi dX2_splitPart_71 ?_
    refine lv_iload hx hb dX2_splitPart_72 (lv_at hl 4 rfl) ?_
    refine lv_iadd hx hb dX2_splitPart_74 ?_
    obtain ⟨hi, hw⟩ := hw
    refine va_iast hx hb hK hP hD hS 1 0 rfl rfl hi dX2_splitPart_75 (fun H locs hP hD hS => ?_)
    have hP : va_P D vwCl [(qA, .inr (1, [.ref qAf, .ref qAs])), (qAf, .inl (cI, 64, .inl (upd qf (((2 : Int32) * v1) + 1).toNatClampNeg ((qf v1.toNatClampNeg) + v4)))), (qAs, .inl (cI, 64, .inl (upd qs s1.toNatClampNeg s2)))] H := hP
    have hD : va_D A [(qA, .inr (1, [.ref qAf, .ref qAs])), (qAf, .inl (cI, 64, .inl (upd qf (((2 : Int32) * v1) + 1).toNatClampNeg ((qf v1.toNatClampNeg) + v4)))), (qAs, .inl (cI, 64, .inl (upd qs s1.toNatClampNeg s2)))] := hD
    refine lv_aload_n hx hb dX2_splitPart_76 rfl (lv_at hl 0 rfl) ?_
    refine va_get (D := D) (ci := 1) (v := .ref qAs) (C := RX2) (T := TX2) (N := 2) hx hb hts in_X2_splitPart_X2 hown hK hP 0 rfl rfl 1 (by decide) (hts (.fieldLink RX2 15 "LiveHull$Parts" "sizes" "[I") (List.mem_of_getElem? (i := 1) rfl)) (fun _ h9 => h9) rfl dX2_splitPart_77 ?_
    refine lv_iconst (v := 2) hx hb dX2_splitPart_80 (by decide) ?_
    refine lv_iload_n hx hb dX2_splitPart_81 rfl (lv_at hl 1 rfl) ?_
    refine lv_imul hx hb dX2_splitPart_82 ?_
    refine lv_iconst (v := 1) hx hb dX2_splitPart_83 (by decide) ?_
    refine lv_iadd hx hb dX2_splitPart_84 ?_
    refine lv_iload_n hx hb dX2_splitPart_85 rfl (lv_at hl 3 rfl) ?_
    obtain ⟨hwA, hwB⟩ := hw
    refine lv_if_eq (tgt := 96) hx hb dX2_splitPart_86 (by decide) (fun cb => ?_) (fun cb => ?_)
    · have hw := hwA cb
      refine lv_iconst (v := 0) hx hb dX2_splitPart_96 (by decide) ?_
      obtain ⟨hi, hw⟩ := hw
      refine va_iast hx hb hK hP hD hS 2 0 rfl rfl hi dX2_splitPart_97 (fun H locs hP hD hS => ?_)
      have hP : va_P D vwCl [(qA, .inr (1, [.ref qAf, .ref qAs])), (qAf, .inl (cI, 64, .inl (upd qf (((2 : Int32) * v1) + 1).toNatClampNeg ((qf v1.toNatClampNeg) + v4)))), (qAs, .inl (cI, 64, .inl (upd (upd qs s1.toNatClampNeg s2) (((2 : Int32) * v1) + 1).toNatClampNeg 0)))] H := hP
      have hD : va_D A [(qA, .inr (1, [.ref qAf, .ref qAs])), (qAf, .inl (cI, 64, .inl (upd qf (((2 : Int32) * v1) + 1).toNatClampNeg ((qf v1.toNatClampNeg) + v4)))), (qAs, .inl (cI, 64, .inl (upd (upd qs s1.toNatClampNeg s2) (((2 : Int32) * v1) + 1).toNatClampNeg 0)))] := hD
      exact ret _ _ _ _ ((upd qf (((2 : Int32) * v1) + 1).toNatClampNeg ((qf v1.toNatClampNeg) + v4)), (upd (upd qs s1.toNatClampNeg s2) (((2 : Int32) * v1) + 1).toNatClampNeg 0)) hw hP hD hS dX2_splitPart_98
    · have hw := hwB cb
      refine lv_iload_n hx hb dX2_splitPart_89 rfl (lv_at hl 2 rfl) ?_
      refine lv_iload hx hb dX2_splitPart_90 (lv_at hl 4 rfl) ?_
      refine lv_isub hx hb dX2_splitPart_92 ?_
      refine lv_goto (tgt := 97) hx hb dX2_splitPart_93 (by decide) ?_
      obtain ⟨hi, hw⟩ := hw
      refine va_iast hx hb hK hP hD hS 2 0 rfl rfl hi dX2_splitPart_97 (fun H locs hP hD hS => ?_)
      have hP : va_P D vwCl [(qA, .inr (1, [.ref qAf, .ref qAs])), (qAf, .inl (cI, 64, .inl (upd qf (((2 : Int32) * v1) + 1).toNatClampNeg ((qf v1.toNatClampNeg) + v4)))), (qAs, .inl (cI, 64, .inl (upd (upd qs s1.toNatClampNeg s2) (((2 : Int32) * v1) + 1).toNatClampNeg (v2 - v4))))] H := hP
      have hD : va_D A [(qA, .inr (1, [.ref qAf, .ref qAs])), (qAf, .inl (cI, 64, .inl (upd qf (((2 : Int32) * v1) + 1).toNatClampNeg ((qf v1.toNatClampNeg) + v4)))), (qAs, .inl (cI, 64, .inl (upd (upd qs s1.toNatClampNeg s2) (((2 : Int32) * v1) + 1).toNatClampNeg (v2 - v4))))] := hD
      exact ret _ _ _ _ ((upd qf (((2 : Int32) * v1) + 1).toNatClampNeg ((qf v1.toNatClampNeg) + v4)), (upd (upd qs s1.toNatClampNeg s2) (((2 : Int32) * v1) + 1).toNatClampNeg (v2 - v4))) hw hP hD hS dX2_splitPart_98
  have N17 : ∀ (qf : Nat → Int32) (qs : Nat → Int32) (v2 : Int32) (s0 : Int32), wp_X2_splitPart_17 v1 K  qf qs v2 s0 → ∀ (H : Heap) (locs : List Loc) (ls : Array Slot), va_P D vwCl [(qA, .inr (1, [.ref qAf, .ref qAs])), (qAf, .inl (cI, 64, .inl qf)), (qAs, .inl (cI, 64, .inl qs))] H → va_D A [(qA, .inr (1, [.ref qAf, .ref qAs])), (qAf, .inl (cI, 64, .inl qf)), (qAs, .inl (cI, 64, .inl qs))] → va_S A s.heap H locs → lv_has ls 5 [(0, .ref qA), (1, .int v1), (2, .int v2)] → W p l e R s m args below meth c H locs 0 0 Q (F0 m 17 ls [.int s0]) := by
    intro qf qs v2 s0 hw H locs ls hP hD hS hl
    unfold wp_X2_splitPart_17 at hw
    refine lv_istore_n (lv' := [(3, .int s0), (0, .ref qA), (1, .int v1), (2, .int v2)]) hx hb dX2_splitPart_17 rfl hl (by decide) rfl (fun ls hl => ?_)
    refine lv_iload_n hx hb dX2_splitPart_18 rfl (lv_at hl 3 rfl) ?_
    refine lv_iconst (v := 1) hx hb dX2_splitPart_19 (by decide) ?_
    refine lv_iadd hx hb dX2_splitPart_20 ?_
    refine lv_iconst (v := 2) hx hb dX2_splitPart_21 (by decide) ?_
    refine lv_idiv hx hb dX2_splitPart_22 (by decide) ?_
    refine lv_istore (lv' := [(4, .int ((v2 + 1) / 2)), (3, .int s0), (0, .ref qA), (1, .int v1), (2, .int v2)]) hx hb dX2_splitPart_23 hl (by decide) rfl (fun ls hl => ?_)
    refine lv_aload_n hx hb dX2_splitPart_25 rfl (lv_at hl 2 rfl) ?_
    refine va_get (D := D) (ci := 1) (v := .ref qAf) (C := RX2) (T := TX2) (N := 2) hx hb hts in_X2_splitPart_X2 hown hK hP 0 rfl rfl 0 (by decide) (hts (.fieldLink RX2 9 "LiveHull$Parts" "firsts" "[I") (List.mem_of_getElem? (i := 2) rfl)) (fun _ h9 => h9) rfl dX2_splitPart_26 ?_
    refine lv_iconst (v := 2) hx hb dX2_splitPart_29 (by decide) ?_
    refine lv_iload_n hx hb dX2_splitPart_30 rfl (lv_at hl 3 rfl) ?_
    refine lv_imul hx hb dX2_splitPart_31 ?_
    refine lv_aload_n hx hb dX2_splitPart_32 rfl (lv_at hl 2 rfl) ?_
    refine va_get (D := D) (ci := 1) (v := .ref qAf) (C := RX2) (T := TX2) (N := 2) hx hb hts in_X2_splitPart_X2 hown hK hP 0 rfl rfl 0 (by decide) (hts (.fieldLink RX2 9 "LiveHull$Parts" "firsts" "[I") (List.mem_of_getElem? (i := 2) rfl)) (fun _ h9 => h9) rfl dX2_splitPart_33 ?_
    refine lv_iload_n hx hb dX2_splitPart_36 rfl (lv_at hl 3 rfl) ?_
    obtain ⟨hi, hw⟩ := hw
    refine va_iald hx hb hK hP 1 0 rfl rfl hi dX2_splitPart_37 ?_
    obtain ⟨hi, hw⟩ := hw
    refine va_iast hx hb hK hP hD hS 1 0 rfl rfl hi dX2_splitPart_38 (fun H locs hP hD hS => ?_)
    have hP : va_P D vwCl [(qA, .inr (1, [.ref qAf, .ref qAs])), (qAf, .inl (cI, 64, .inl (upd qf ((2 : Int32) * v1).toNatClampNeg (qf v1.toNatClampNeg)))), (qAs, .inl (cI, 64, .inl qs))] H := hP
    have hD : va_D A [(qA, .inr (1, [.ref qAf, .ref qAs])), (qAf, .inl (cI, 64, .inl (upd qf ((2 : Int32) * v1).toNatClampNeg (qf v1.toNatClampNeg)))), (qAs, .inl (cI, 64, .inl qs))] := hD
    refine lv_aload_n hx hb dX2_splitPart_39 rfl (lv_at hl 2 rfl) ?_
    refine va_get (D := D) (ci := 1) (v := .ref qAs) (C := RX2) (T := TX2) (N := 2) hx hb hts in_X2_splitPart_X2 hown hK hP 0 rfl rfl 1 (by decide) (hts (.fieldLink RX2 15 "LiveHull$Parts" "sizes" "[I") (List.mem_of_getElem? (i := 1) rfl)) (fun _ h9 => h9) rfl dX2_splitPart_40 ?_
    refine lv_iconst (v := 2) hx hb dX2_splitPart_43 (by decide) ?_
    refine lv_iload_n hx hb dX2_splitPart_44 rfl (lv_at hl 3 rfl) ?_
    refine lv_imul hx hb dX2_splitPart_45 ?_
    refine lv_iload_n hx hb dX2_splitPart_46 rfl (lv_at hl 1 rfl) ?_
    obtain ⟨hwA, hwB⟩ := hw
    refine lv_if_eq (tgt := 55) hx hb dX2_splitPart_47 (by decide) (fun cb => ?_) (fun cb => ?_)
    · have hw := hwA cb
      refine lv_iconst (v := 0) hx hb dX2_splitPart_55 (by decide) ?_
      exact N56 (upd qf ((2 : Int32) * v1).toNatClampNeg (qf v1.toNatClampNeg)) qs v2 s0 ((v2 + 1) / 2) ((2 : Int32) * v1) 0 hw _ _ _ hP hD hS (lv_sub hl [2, 3, 4, 1, 0] rfl)
    · have hw := hwB cb
      refine lv_iload hx hb dX2_splitPart_50 (lv_at hl 0 rfl) ?_
      refine lv_goto (tgt := 56) hx hb dX2_splitPart_52 (by decide) ?_
      exact N56 (upd qf ((2 : Int32) * v1).toNatClampNeg (qf v1.toNatClampNeg)) qs v2 s0 ((v2 + 1) / 2) ((2 : Int32) * v1) ((v2 + 1) / 2) hw _ _ _ hP hD hS (lv_sub hl [2, 3, 4, 1, 0] rfl)
  unfold wp_X2_splitPart at hw
  refine lv_aload_n hx hb dX2_splitPart_0 rfl (lv_at hl 0 rfl) ?_
  refine va_get (D := D) (ci := 1) (v := .ref qAs) (C := RX2) (T := TX2) (N := 2) hx hb hts in_X2_splitPart_X2 hown hK hP 0 rfl rfl 1 (by decide) (hts (.fieldLink RX2 15 "LiveHull$Parts" "sizes" "[I") (List.mem_of_getElem? (i := 1) rfl)) (fun _ h9 => h9) rfl dX2_splitPart_1 ?_
  refine lv_iload_n hx hb dX2_splitPart_4 rfl (lv_at hl 1 rfl) ?_
  obtain ⟨hi, hw⟩ := hw
  refine va_iald hx hb hK hP 2 0 rfl rfl hi dX2_splitPart_5 ?_
  refine lv_istore_n (lv' := [(2, .int (qs v1.toNatClampNeg)), (0, .ref qA), (1, .int v1)]) hx hb dX2_splitPart_6 rfl hl (by decide) rfl (fun ls hl => ?_)
  refine lv_iload_n hx hb dX2_splitPart_7 rfl (lv_at hl 0 rfl) ?_
  refine lv_iconst (v := 1) hx hb dX2_splitPart_8 (by decide) ?_
  obtain ⟨hwA, hwB⟩ := hw
  refine lv_icmp_le (tgt := 16) hx hb dX2_splitPart_9 (by decide) (fun cb => ?_) (fun cb => ?_)
  · have hw := hwA cb
    refine lv_iconst (v := 0) hx hb dX2_splitPart_16 (by decide) ?_
    exact N17 qf qs (qs v1.toNatClampNeg) 0 hw _ _ _ hP hD hS (lv_sub hl [1, 2, 0] rfl)
  · have hw := hwB cb
    refine lv_iconst (v := 1) hx hb dX2_splitPart_12 (by decide) ?_
    refine lv_goto (tgt := 17) hx hb dX2_splitPart_13 (by decide) ?_
    exact N17 qf qs (qs v1.toNatClampNeg) 1 hw _ _ _ hP hD hS (lv_sub hl [1, 2, 0] rfl)
theorem in_X2_split_X2 : ∀ w ∈ wsX20, w ∈ wsX2_split := fun _ h => List.mem_cons_of_mem _ (List.mem_append_right _ h)
theorem hd_X2_split : yX2_split.cls = RX2 ∧ yX2_split.cls ≠ "java/lang/invoke/MethodHandle" ∧ yX2_split.cls ≠ "java/lang/invoke/VarHandle" ∧ (parseMethodDescriptor yX2_split.desc).map (fun d => d.parameters.length) = some 1 := by decide +kernel
set_option maxHeartbeats 8000000 in
set_option maxRecDepth 100000 in
theorem c_X2_split (l : Launch) (D : va_G) (cI cJ cZ cO : ClassId) (qA qAf qAs : Nat) (qf : Nat → Int32) (qs : Nat → Int32) (v1 : Int32) (K : (Nat → Int32) → (Nat → Int32) → Prop) (hw : wp_X2_split qf qs v1 K) : Cv l D (tys4 cI cJ cZ cO) yX2_split wsX2_split { frames := 1, cells := 0, slots := 0, locals := 24 } [.ref qA, .int v1] [(qA, .inr (1, [.ref qAf, .ref qAs])), (qAf, .inl (cI, 64, .inl qf)), (qAs, .inl (cI, 64, .inl qs))] (fun (u : (Nat → Int32) × (Nat → Int32)) => K u.1 u.2) (fun u => [(qA, .inr (1, [.ref qAf, .ref qAs])), (qAf, .inl (cI, 64, .inl u.1)), (qAs, .inl (cI, 64, .inl u.2))]) := by
  refine mt_v (cc := cX2_split) (maxL := 3) (by decide) rfl (Nat.le_of_ble_eq_true rfl) ?_
  intro p e s m args below meth c Q A R ls hRf hRl hx hb hml hown hts hK hA hP hD hS hl ret
  have hown : s.vm.findClass RX2 = some m.cls := hown
  have hl : lv_has ls 3 [(0, .ref qA), (1, .int v1)] := hl
  have N16 : ∀  (k : Nat) (qf : Nat → Int32) (qs : Nat → Int32) (v2 : Int32), wp_X2_split_16 v1 K   k qf qs v2 → ∀ (H : Heap) (locs : List Loc) (ls : Array Slot), va_P D vwCl [(qA, .inr (1, [.ref qAf, .ref qAs])), (qAf, .inl (cI, 64, .inl qf)), (qAs, .inl (cI, 64, .inl qs))] H → va_D A [(qA, .inr (1, [.ref qAf, .ref qAs])), (qAf, .inl (cI, 64, .inl qf)), (qAs, .inl (cI, 64, .inl qs))] → va_S A s.heap H locs → lv_has ls 3 [(0, .ref qA), (2, .int v2)] → W p l e R s m args below meth c H locs 0 0 Q (F0 m 16 ls []) := by
    intro k
    induction k with
    | zero => intro qf qs v2 hw; exact False.elim hw
    | succ k ih16 =>
      intro qf qs v2 hw H locs ls hP hD hS hl
      have hw : wp_X2_split_16b v1 K (wp_X2_split_16 v1 K   k)   qf qs v2 := hw
      unfold wp_X2_split_16b at hw
      generalize wp_X2_split_16 v1 K   k = L16 at hw ih16
      refine lv_iconst (v := 2) hx hb dX2_split_16 (by decide) ?_
      refine lv_iload_n hx hb dX2_split_17 rfl (lv_at hl 1 rfl) ?_
      refine lv_imul hx hb dX2_split_18 ?_
      refine lv_iconst (v := 1) hx hb dX2_split_19 (by decide) ?_
      refine lv_iadd hx hb dX2_split_20 ?_
      refine lv_bipush (v := 63) hx hb dX2_split_21 (by decide) ?_
      obtain ⟨hwA, hwB⟩ := hw
      refine lv_icmp_gt (tgt := 37) hx hb dX2_split_23 (by decide) (fun cb => ?_) (fun cb => ?_)
      · have hw := hwA cb
        exact ret _ _ _ _ (qf, qs) hw hP hD hS dX2_split_37
      · have hw := hwB cb
        refine lv_aload_n hx hb dX2_split_26 rfl (lv_at hl 0 rfl) ?_
        refine lv_iload_n hx hb dX2_split_27 rfl (lv_at hl 1 rfl) ?_
        refine cl_Vv (As := [.int v2]) (rest := []) ⟨hx, hb, hml, hown, hts⟩ (c_X2_splitPart l D cI cJ cZ cO qA qAf qAs qf qs v2 _ hw) (cwV 1 hts gX2_split_X2_splitPart rfl rfl rfl hd_X2_splitPart ⟨Nat.le_trans (Nat.le_of_ble_eq_true rfl) hRf, Nat.le_trans (Nat.le_of_ble_eq_true rfl) hRl⟩) hK hP hD hS hA [0, 1, 2] [] rfl (by decide) rfl (by decide) (by decide) 0 1 rfl rfl rfl hl.1 rfl (Nat.le_of_ble_eq_true rfl) dX2_split_28 ⟨Nat.zero_le _, Nat.zero_le _⟩ (fun u H locs hw hP hD hS => ?_)
        obtain ⟨qf_28, qs_28⟩ := u
        try dsimp only at hw
        have hP : va_P D vwCl [(qA, .inr (1, [.ref qAf, .ref qAs])), (qAf, .inl (cI, 64, .inl qf_28)), (qAs, .inl (cI, 64, .inl qs_28))] H := hP.sub [0, 1, 2] rfl
        have hD : va_D A [(qA, .inr (1, [.ref qAf, .ref qAs])), (qAf, .inl (cI, 64, .inl qf_28)), (qAs, .inl (cI, 64, .inl qs_28))] := hD.sub [0, 1, 2] (by decide) rfl
        refine lv_iinc (v := (v2 + 1)) (lv' := [(2, .int (v2 + 1)), (0, .ref qA)]) hx hb dX2_split_31 hl (k := 1) rfl rfl (by decide) rfl (fun ls hl => ?_)
        refine lv_goto (tgt := 16) hx hb dX2_split_34 (by decide) ?_
        exact ih16 qf_28 qs_28 (v2 + 1) hw _ _ _ hP hD hS (lv_sub hl [1, 0] rfl)
  unfold wp_X2_split at hw
  refine lv_aload_n hx hb dX2_split_0 rfl (lv_at hl 0 rfl) ?_
  refine va_get (D := D) (ci := 1) (v := .ref qAf) (C := RX2) (T := TX2) (N := 2) hx hb hts in_X2_split_X2 hown hK hP 0 rfl rfl 0 (by decide) (hts (.fieldLink RX2 9 "LiveHull$Parts" "firsts" "[I") (List.mem_of_getElem? (i := 1) rfl)) (fun _ h9 => h9) rfl dX2_split_1 ?_
  refine lv_iconst (v := 1) hx hb dX2_split_4 (by decide) ?_
  refine lv_iconst (v := 0) hx hb dX2_split_5 (by decide) ?_
  obtain ⟨hi, hw⟩ := hw
  refine va_iast hx hb hK hP hD hS 1 0 rfl rfl hi dX2_split_6 (fun H locs hP hD hS => ?_)
  have hP : va_P D vwCl [(qA, .inr (1, [.ref qAf, .ref qAs])), (qAf, .inl (cI, 64, .inl (upd qf (1 : Int32).toNatClampNeg 0))), (qAs, .inl (cI, 64, .inl qs))] H := hP
  have hD : va_D A [(qA, .inr (1, [.ref qAf, .ref qAs])), (qAf, .inl (cI, 64, .inl (upd qf (1 : Int32).toNatClampNeg 0))), (qAs, .inl (cI, 64, .inl qs))] := hD
  refine lv_aload_n hx hb dX2_split_7 rfl (lv_at hl 0 rfl) ?_
  refine va_get (D := D) (ci := 1) (v := .ref qAs) (C := RX2) (T := TX2) (N := 2) hx hb hts in_X2_split_X2 hown hK hP 0 rfl rfl 1 (by decide) (hts (.fieldLink RX2 15 "LiveHull$Parts" "sizes" "[I") (List.mem_of_getElem? (i := 2) rfl)) (fun _ h9 => h9) rfl dX2_split_8 ?_
  refine lv_iconst (v := 1) hx hb dX2_split_11 (by decide) ?_
  refine lv_iload_n hx hb dX2_split_12 rfl (lv_at hl 1 rfl) ?_
  obtain ⟨hi, hw⟩ := hw
  refine va_iast hx hb hK hP hD hS 2 0 rfl rfl hi dX2_split_13 (fun H locs hP hD hS => ?_)
  have hP : va_P D vwCl [(qA, .inr (1, [.ref qAf, .ref qAs])), (qAf, .inl (cI, 64, .inl (upd qf (1 : Int32).toNatClampNeg 0))), (qAs, .inl (cI, 64, .inl (upd qs (1 : Int32).toNatClampNeg v1)))] H := hP
  have hD : va_D A [(qA, .inr (1, [.ref qAf, .ref qAs])), (qAf, .inl (cI, 64, .inl (upd qf (1 : Int32).toNatClampNeg 0))), (qAs, .inl (cI, 64, .inl (upd qs (1 : Int32).toNatClampNeg v1)))] := hD
  refine lv_iconst (v := 1) hx hb dX2_split_14 (by decide) ?_
  refine lv_istore_n (lv' := [(2, .int 1), (0, .ref qA), (1, .int v1)]) hx hb dX2_split_15 rfl hl (by decide) rfl (fun ls hl => ?_)
  obtain ⟨k, hw⟩ := hw
  exact N16  k (upd qf (1 : Int32).toNatClampNeg 0) (upd qs (1 : Int32).toNatClampNeg v1) 1 hw _ _ _ hP hD hS (lv_sub hl [1, 0] rfl)
theorem in_X2_has_X2 : ∀ w ∈ wsX20, w ∈ wsX2_has := fun _ h => List.mem_cons_of_mem _ (List.mem_append_right _ h)
theorem hd_X2_has : yX2_has.cls = RX2 ∧ yX2_has.cls ≠ "java/lang/invoke/MethodHandle" ∧ yX2_has.cls ≠ "java/lang/invoke/VarHandle" ∧ (parseMethodDescriptor yX2_has.desc).map (fun d => d.parameters.length) = some 1 := by decide +kernel
set_option maxHeartbeats 8000000 in
set_option maxRecDepth 100000 in
theorem c_X2_has (l : Launch) (D : va_G) (cI cJ cZ cO : ClassId) (qA qAf qAs : Nat) (qf : Nat → Int32) (qs : Nat → Int32) (v1 : Int32) (K : Int32 → Prop) (hw : wp_X2_has qs v1 K) : Ci l D (tys4 cI cJ cZ cO) yX2_has wsX2_has { frames := 0, cells := 0, slots := 0, locals := 0 } [.ref qA, .int v1] [(qA, .inr (1, [.ref qAf, .ref qAs])), (qAf, .inl (cI, 64, .inl qf)), (qAs, .inl (cI, 64, .inl qs))] (fun (r : Int32) (_ : Unit) => K r) (fun _ => [(qA, .inr (1, [.ref qAf, .ref qAs])), (qAf, .inl (cI, 64, .inl qf)), (qAs, .inl (cI, 64, .inl qs))]) := by
  refine mt_i (cc := cX2_has) (maxL := 2) (rt := .boolean) (by decide) rfl (Nat.le_of_ble_eq_true rfl) ?_
  intro p e s m args below meth c Q A R ls hRf hRl hx hb hml hown hts hK hA hP hD hS hl ret
  have hown : s.vm.findClass RX2 = some m.cls := hown
  have hl : lv_has ls 2 [(0, .ref qA), (1, .int v1)] := hl
  unfold wp_X2_has at hw
  refine lv_iload_n hx hb dX2_has_0 rfl (lv_at hl 1 rfl) ?_
  refine lv_iconst (v := 1) hx hb dX2_has_1 (by decide) ?_
  obtain ⟨hwA, hwB⟩ := hw
  refine lv_icmp_lt (tgt := 24) hx hb dX2_has_2 (by decide) (fun cb => ?_) (fun cb => ?_)
  · have hw := hwA cb
    refine lv_iconst (v := 0) hx hb dX2_has_24 (by decide) ?_
    exact ret _ _ _ _ 0 () rfl hw hP hD hS dX2_has_25
  · have hw := hwB cb
    refine lv_iload_n hx hb dX2_has_5 rfl (lv_at hl 1 rfl) ?_
    refine lv_bipush (v := 63) hx hb dX2_has_6 (by decide) ?_
    obtain ⟨hwA, hwB⟩ := hw
    refine lv_icmp_gt (tgt := 24) hx hb dX2_has_8 (by decide) (fun cb => ?_) (fun cb => ?_)
    · have hw := hwA cb
      refine lv_iconst (v := 0) hx hb dX2_has_24 (by decide) ?_
      exact ret _ _ _ _ 0 () rfl hw hP hD hS dX2_has_25
    · have hw := hwB cb
      refine lv_aload_n hx hb dX2_has_11 rfl (lv_at hl 0 rfl) ?_
      refine va_get (D := D) (ci := 1) (v := .ref qAs) (C := RX2) (T := TX2) (N := 2) hx hb hts in_X2_has_X2 hown hK hP 0 rfl rfl 1 (by decide) (hts (.fieldLink RX2 15 "LiveHull$Parts" "sizes" "[I") (List.mem_of_getElem? (i := 1) rfl)) (fun _ h9 => h9) rfl dX2_has_12 ?_
      refine lv_iload_n hx hb dX2_has_15 rfl (lv_at hl 1 rfl) ?_
      obtain ⟨hi, hw⟩ := hw
      refine va_iald hx hb hK hP 2 0 rfl rfl hi dX2_has_16 ?_
      obtain ⟨hwA, hwB⟩ := hw
      refine lv_if_le (tgt := 24) hx hb dX2_has_17 (by decide) (fun cb => ?_) (fun cb => ?_)
      · have hw := hwA cb
        refine lv_iconst (v := 0) hx hb dX2_has_24 (by decide) ?_
        exact ret _ _ _ _ 0 () rfl hw hP hD hS dX2_has_25
      · have hw := hwB cb
        refine lv_iconst (v := 1) hx hb dX2_has_20 (by decide) ?_
        refine lv_goto (tgt := 25) hx hb dX2_has_21 (by decide) ?_
        exact ret _ _ _ _ 1 () rfl hw hP hD hS dX2_has_25
theorem in_X2_hasHalves_X2 : ∀ w ∈ wsX20, w ∈ wsX2_hasHalves := fun _ h => List.mem_cons_of_mem _ (List.mem_append_right _ h)
theorem hd_X2_hasHalves : yX2_hasHalves.cls = RX2 ∧ yX2_hasHalves.cls ≠ "java/lang/invoke/MethodHandle" ∧ yX2_hasHalves.cls ≠ "java/lang/invoke/VarHandle" ∧ (parseMethodDescriptor yX2_hasHalves.desc).map (fun d => d.parameters.length) = some 1 := by decide +kernel
set_option maxHeartbeats 8000000 in
set_option maxRecDepth 100000 in
theorem c_X2_hasHalves (l : Launch) (D : va_G) (cI cJ cZ cO : ClassId) (qA qAf qAs : Nat) (qf : Nat → Int32) (qs : Nat → Int32) (v1 : Int32) (K : Int32 → Prop) (hw : wp_X2_hasHalves qs v1 K) : Ci l D (tys4 cI cJ cZ cO) yX2_hasHalves wsX2_hasHalves { frames := 1, cells := 0, slots := 0, locals := 21 } [.ref qA, .int v1] [(qA, .inr (1, [.ref qAf, .ref qAs])), (qAf, .inl (cI, 64, .inl qf)), (qAs, .inl (cI, 64, .inl qs))] (fun (r : Int32) (_ : Unit) => K r) (fun _ => [(qA, .inr (1, [.ref qAf, .ref qAs])), (qAf, .inl (cI, 64, .inl qf)), (qAs, .inl (cI, 64, .inl qs))]) := by
  refine mt_i (cc := cX2_hasHalves) (maxL := 2) (rt := .boolean) (by decide) rfl (Nat.le_of_ble_eq_true rfl) ?_
  intro p e s m args below meth c Q A R ls hRf hRl hx hb hml hown hts hK hA hP hD hS hl ret
  have hown : s.vm.findClass RX2 = some m.cls := hown
  have hl : lv_has ls 2 [(0, .ref qA), (1, .int v1)] := hl
  unfold wp_X2_hasHalves at hw
  refine lv_aload_n hx hb dX2_hasHalves_0 rfl (lv_at hl 0 rfl) ?_
  refine lv_iload_n hx hb dX2_hasHalves_1 rfl (lv_at hl 1 rfl) ?_
  refine cl_Vi (As := [.int v1]) (rest := []) ⟨hx, hb, hml, hown, hts⟩ (c_X2_has l D cI cJ cZ cO qA qAf qAs qf qs v1 _ hw) (cwV 1 hts gX2_hasHalves_X2_has rfl rfl rfl hd_X2_has ⟨Nat.le_trans (Nat.le_of_ble_eq_true rfl) hRf, Nat.le_trans (Nat.le_of_ble_eq_true rfl) hRl⟩) hK hP hD hS hA [0, 1, 2] [] rfl (by decide) rfl (by decide) (by decide) 0 1 rfl rfl rfl hl.1 rfl (Nat.le_of_ble_eq_true rfl) dX2_hasHalves_2 ⟨Nat.zero_le _, Nat.zero_le _⟩ (fun r2 _u H locs hw hP hD hS => ?_)
  try dsimp only at hw
  have hP : va_P D vwCl [(qA, .inr (1, [.ref qAf, .ref qAs])), (qAf, .inl (cI, 64, .inl qf)), (qAs, .inl (cI, 64, .inl qs))] H := hP.sub [0, 1, 2] rfl
  have hD : va_D A [(qA, .inr (1, [.ref qAf, .ref qAs])), (qAf, .inl (cI, 64, .inl qf)), (qAs, .inl (cI, 64, .inl qs))] := hD.sub [0, 1, 2] (by decide) rfl
  obtain ⟨hwA, hwB⟩ := hw
  refine lv_if_eq (tgt := 28) hx hb dX2_hasHalves_5 (by decide) (fun cb => ?_) (fun cb => ?_)
  · have hw := hwA cb
    refine lv_iconst (v := 0) hx hb dX2_hasHalves_28 (by decide) ?_
    exact ret _ _ _ _ 0 () rfl hw hP hD hS dX2_hasHalves_29
  · have hw := hwB cb
    refine lv_iload_n hx hb dX2_hasHalves_8 rfl (lv_at hl 1 rfl) ?_
    refine lv_bipush (v := 31) hx hb dX2_hasHalves_9 (by decide) ?_
    obtain ⟨hwA, hwB⟩ := hw
    refine lv_icmp_gt (tgt := 28) hx hb dX2_hasHalves_11 (by decide) (fun cb => ?_) (fun cb => ?_)
    · have hw := hwA cb
      refine lv_iconst (v := 0) hx hb dX2_hasHalves_28 (by decide) ?_
      exact ret _ _ _ _ 0 () rfl hw hP hD hS dX2_hasHalves_29
    · have hw := hwB cb
      refine lv_aload_n hx hb dX2_hasHalves_14 rfl (lv_at hl 0 rfl) ?_
      refine va_get (D := D) (ci := 1) (v := .ref qAs) (C := RX2) (T := TX2) (N := 2) hx hb hts in_X2_hasHalves_X2 hown hK hP 0 rfl rfl 1 (by decide) (hts (.fieldLink RX2 15 "LiveHull$Parts" "sizes" "[I") (List.mem_of_getElem? (i := 1) rfl)) (fun _ h9 => h9) rfl dX2_hasHalves_15 ?_
      refine lv_iload_n hx hb dX2_hasHalves_18 rfl (lv_at hl 1 rfl) ?_
      obtain ⟨hi, hw⟩ := hw
      refine va_iald hx hb hK hP 2 0 rfl rfl hi dX2_hasHalves_19 ?_
      refine lv_iconst (v := 1) hx hb dX2_hasHalves_20 (by decide) ?_
      obtain ⟨hwA, hwB⟩ := hw
      refine lv_icmp_le (tgt := 28) hx hb dX2_hasHalves_21 (by decide) (fun cb => ?_) (fun cb => ?_)
      · have hw := hwA cb
        refine lv_iconst (v := 0) hx hb dX2_hasHalves_28 (by decide) ?_
        exact ret _ _ _ _ 0 () rfl hw hP hD hS dX2_hasHalves_29
      · have hw := hwB cb
        refine lv_iconst (v := 1) hx hb dX2_hasHalves_24 (by decide) ?_
        refine lv_goto (tgt := 29) hx hb dX2_hasHalves_25 (by decide) ?_
        exact ret _ _ _ _ 1 () rfl hw hP hD hS dX2_hasHalves_29
theorem in_X2_holds_X2 : ∀ w ∈ wsX20, w ∈ wsX2_holds := fun _ h => List.mem_cons_of_mem _ (List.mem_append_right _ h)
theorem hd_X2_holds : yX2_holds.cls = RX2 ∧ yX2_holds.cls ≠ "java/lang/invoke/MethodHandle" ∧ yX2_holds.cls ≠ "java/lang/invoke/VarHandle" ∧ (parseMethodDescriptor yX2_holds.desc).map (fun d => d.parameters.length) = some 2 := by decide +kernel
set_option maxHeartbeats 8000000 in
set_option maxRecDepth 100000 in
theorem c_X2_holds (l : Launch) (D : va_G) (cI cJ cZ cO : ClassId) (qA qAf qAs : Nat) (qf : Nat → Int32) (qs : Nat → Int32) (v1 : Int32) (v2 : Int32) (K : Int32 → Prop) (hw : wp_X2_holds qf qs v1 v2 K) : Ci l D (tys4 cI cJ cZ cO) yX2_holds wsX2_holds { frames := 1, cells := 0, slots := 0, locals := 21 } [.ref qA, .int v1, .int v2] [(qA, .inr (1, [.ref qAf, .ref qAs])), (qAf, .inl (cI, 64, .inl qf)), (qAs, .inl (cI, 64, .inl qs))] (fun (r : Int32) (_ : Unit) => K r) (fun _ => [(qA, .inr (1, [.ref qAf, .ref qAs])), (qAf, .inl (cI, 64, .inl qf)), (qAs, .inl (cI, 64, .inl qs))]) := by
  refine mt_i (cc := cX2_holds) (maxL := 3) (rt := .boolean) (by decide) rfl (Nat.le_of_ble_eq_true rfl) ?_
  intro p e s m args below meth c Q A R ls hRf hRl hx hb hml hown hts hK hA hP hD hS hl ret
  have hown : s.vm.findClass RX2 = some m.cls := hown
  have hl : lv_has ls 3 [(0, .ref qA), (1, .int v1), (2, .int v2)] := hl
  unfold wp_X2_holds at hw
  refine lv_aload_n hx hb dX2_holds_0 rfl (lv_at hl 0 rfl) ?_
  refine lv_iload_n hx hb dX2_holds_1 rfl (lv_at hl 1 rfl) ?_
  refine cl_Vi (As := [.int v1]) (rest := []) ⟨hx, hb, hml, hown, hts⟩ (c_X2_has l D cI cJ cZ cO qA qAf qAs qf qs v1 _ hw) (cwV 1 hts gX2_holds_X2_has rfl rfl rfl hd_X2_has ⟨Nat.le_trans (Nat.le_of_ble_eq_true rfl) hRf, Nat.le_trans (Nat.le_of_ble_eq_true rfl) hRl⟩) hK hP hD hS hA [0, 1, 2] [] rfl (by decide) rfl (by decide) (by decide) 0 1 rfl rfl rfl hl.1 rfl (Nat.le_of_ble_eq_true rfl) dX2_holds_2 ⟨Nat.zero_le _, Nat.zero_le _⟩ (fun r2 _u H locs hw hP hD hS => ?_)
  try dsimp only at hw
  have hP : va_P D vwCl [(qA, .inr (1, [.ref qAf, .ref qAs])), (qAf, .inl (cI, 64, .inl qf)), (qAs, .inl (cI, 64, .inl qs))] H := hP.sub [0, 1, 2] rfl
  have hD : va_D A [(qA, .inr (1, [.ref qAf, .ref qAs])), (qAf, .inl (cI, 64, .inl qf)), (qAs, .inl (cI, 64, .inl qs))] := hD.sub [0, 1, 2] (by decide) rfl
  obtain ⟨hwA, hwB⟩ := hw
  refine lv_if_eq (tgt := 39) hx hb dX2_holds_5 (by decide) (fun cb => ?_) (fun cb => ?_)
  · have hw := hwA cb
    refine lv_iconst (v := 0) hx hb dX2_holds_39 (by decide) ?_
    exact ret _ _ _ _ 0 () rfl hw hP hD hS dX2_holds_40
  · have hw := hwB cb
    refine lv_iload_n hx hb dX2_holds_8 rfl (lv_at hl 2 rfl) ?_
    refine lv_aload_n hx hb dX2_holds_9 rfl (lv_at hl 0 rfl) ?_
    refine va_get (D := D) (ci := 1) (v := .ref qAf) (C := RX2) (T := TX2) (N := 2) hx hb hts in_X2_holds_X2 hown hK hP 0 rfl rfl 0 (by decide) (hts (.fieldLink RX2 9 "LiveHull$Parts" "firsts" "[I") (List.mem_of_getElem? (i := 1) rfl)) (fun _ h9 => h9) rfl dX2_holds_10 ?_
    refine lv_iload_n hx hb dX2_holds_13 rfl (lv_at hl 1 rfl) ?_
    obtain ⟨hi, hw⟩ := hw
    refine va_iald hx hb hK hP 1 0 rfl rfl hi dX2_holds_14 ?_
    obtain ⟨hwA, hwB⟩ := hw
    refine lv_icmp_lt (tgt := 39) hx hb dX2_holds_15 (by decide) (fun cb => ?_) (fun cb => ?_)
    · have hw := hwA cb
      refine lv_iconst (v := 0) hx hb dX2_holds_39 (by decide) ?_
      exact ret _ _ _ _ 0 () rfl hw hP hD hS dX2_holds_40
    · have hw := hwB cb
      refine lv_iload_n hx hb dX2_holds_18 rfl (lv_at hl 2 rfl) ?_
      refine lv_aload_n hx hb dX2_holds_19 rfl (lv_at hl 0 rfl) ?_
      refine va_get (D := D) (ci := 1) (v := .ref qAf) (C := RX2) (T := TX2) (N := 2) hx hb hts in_X2_holds_X2 hown hK hP 0 rfl rfl 0 (by decide) (hts (.fieldLink RX2 9 "LiveHull$Parts" "firsts" "[I") (List.mem_of_getElem? (i := 1) rfl)) (fun _ h9 => h9) rfl dX2_holds_20 ?_
      refine lv_iload_n hx hb dX2_holds_23 rfl (lv_at hl 1 rfl) ?_
      obtain ⟨hi, hw⟩ := hw
      refine va_iald hx hb hK hP 1 0 rfl rfl hi dX2_holds_24 ?_
      refine lv_aload_n hx hb dX2_holds_25 rfl (lv_at hl 0 rfl) ?_
      refine va_get (D := D) (ci := 1) (v := .ref qAs) (C := RX2) (T := TX2) (N := 2) hx hb hts in_X2_holds_X2 hown hK hP 0 rfl rfl 1 (by decide) (hts (.fieldLink RX2 15 "LiveHull$Parts" "sizes" "[I") (List.mem_of_getElem? (i := 2) rfl)) (fun _ h9 => h9) rfl dX2_holds_26 ?_
      refine lv_iload_n hx hb dX2_holds_29 rfl (lv_at hl 1 rfl) ?_
      obtain ⟨hi, hw⟩ := hw
      refine va_iald hx hb hK hP 2 0 rfl rfl hi dX2_holds_30 ?_
      refine lv_iadd hx hb dX2_holds_31 ?_
      obtain ⟨hwA, hwB⟩ := hw
      refine lv_icmp_ge (tgt := 39) hx hb dX2_holds_32 (by decide) (fun cb => ?_) (fun cb => ?_)
      · have hw := hwA cb
        refine lv_iconst (v := 0) hx hb dX2_holds_39 (by decide) ?_
        exact ret _ _ _ _ 0 () rfl hw hP hD hS dX2_holds_40
      · have hw := hwB cb
        refine lv_iconst (v := 1) hx hb dX2_holds_35 (by decide) ?_
        refine lv_goto (tgt := 40) hx hb dX2_holds_36 (by decide) ?_
        exact ret _ _ _ _ 1 () rfl hw hP hD hS dX2_holds_40
theorem hd_X2_howMany : yX2_howMany.cls = RX2 ∧ yX2_howMany.cls ≠ "java/lang/invoke/MethodHandle" ∧ yX2_howMany.cls ≠ "java/lang/invoke/VarHandle" ∧ (parseMethodDescriptor yX2_howMany.desc).map (fun d => d.parameters.length) = some 0 := by decide +kernel
set_option maxHeartbeats 8000000 in
set_option maxRecDepth 100000 in
theorem c_X2_howMany (l : Launch) (D : va_G) (cI cJ cZ cO : ClassId) (qA qAf qAs : Nat) (qf : Nat → Int32) (qs : Nat → Int32)  (K : Int32 → Prop) (hw : wp_X2_howMany qs K) : Ci l D (tys4 cI cJ cZ cO) yX2_howMany wsX2_howMany { frames := 1, cells := 0, slots := 0, locals := 21 } [.ref qA] [(qA, .inr (1, [.ref qAf, .ref qAs])), (qAf, .inl (cI, 64, .inl qf)), (qAs, .inl (cI, 64, .inl qs))] (fun (r : Int32) (_ : Unit) => K r) (fun _ => [(qA, .inr (1, [.ref qAf, .ref qAs])), (qAf, .inl (cI, 64, .inl qf)), (qAs, .inl (cI, 64, .inl qs))]) := by
  refine mt_i (cc := cX2_howMany) (maxL := 3) (rt := .int) (by decide) rfl (Nat.le_of_ble_eq_true rfl) ?_
  intro p e s m args below meth c Q A R ls hRf hRl hx hb hml hown hts hK hA hP hD hS hl ret
  have hown : s.vm.findClass RX2 = some m.cls := hown
  have hl : lv_has ls 3 [(0, .ref qA)] := hl
  have N4 : ∀  (k : Nat) (v1 : Int32) (v2 : Int32), wp_X2_howMany_4 qs K   k v1 v2 → ∀ (H : Heap) (locs : List Loc) (ls : Array Slot), va_P D vwCl [(qA, .inr (1, [.ref qAf, .ref qAs])), (qAf, .inl (cI, 64, .inl qf)), (qAs, .inl (cI, 64, .inl qs))] H → va_D A [(qA, .inr (1, [.ref qAf, .ref qAs])), (qAf, .inl (cI, 64, .inl qf)), (qAs, .inl (cI, 64, .inl qs))] → va_S A s.heap H locs → lv_has ls 3 [(0, .ref qA), (1, .int v1), (2, .int v2)] → W p l e R s m args below meth c H locs 0 0 Q (F0 m 4 ls []) := by
    intro k
    induction k with
    | zero => intro v1 v2 hw; exact False.elim hw
    | succ k ih4 =>
      intro v1 v2 hw H locs ls hP hD hS hl
      have hw : wp_X2_howMany_4b qs K (wp_X2_howMany_4 qs K   k)   v1 v2 := hw
      unfold wp_X2_howMany_4b at hw
      generalize wp_X2_howMany_4 qs K   k = L4 at hw ih4
      refine lv_iload_n hx hb dX2_howMany_4 rfl (lv_at hl 2 rfl) ?_
      refine lv_bipush (v := 63) hx hb dX2_howMany_5 (by decide) ?_
      obtain ⟨hwA, hwB⟩ := hw
      refine lv_icmp_gt (tgt := 27) hx hb dX2_howMany_7 (by decide) (fun cb => ?_) (fun cb => ?_)
      · have hw := hwA cb
        refine lv_iload_n hx hb dX2_howMany_27 rfl (lv_at hl 1 rfl) ?_
        exact ret _ _ _ _ v1 () (vp_nar_int _) hw hP hD hS dX2_howMany_28
      · have hw := hwB cb
        refine lv_aload_n hx hb dX2_howMany_10 rfl (lv_at hl 0 rfl) ?_
        refine lv_iload_n hx hb dX2_howMany_11 rfl (lv_at hl 2 rfl) ?_
        refine cl_Vi (As := [.int v2]) (rest := []) ⟨hx, hb, hml, hown, hts⟩ (c_X2_has l D cI cJ cZ cO qA qAf qAs qf qs v2 _ hw) (cwV 1 hts gX2_howMany_X2_has rfl rfl rfl hd_X2_has ⟨Nat.le_trans (Nat.le_of_ble_eq_true rfl) hRf, Nat.le_trans (Nat.le_of_ble_eq_true rfl) hRl⟩) hK hP hD hS hA [0, 1, 2] [] rfl (by decide) rfl (by decide) (by decide) 0 1 rfl rfl rfl hl.1 rfl (Nat.le_of_ble_eq_true rfl) dX2_howMany_12 ⟨Nat.zero_le _, Nat.zero_le _⟩ (fun r12 _u H locs hw hP hD hS => ?_)
        try dsimp only at hw
        have hP : va_P D vwCl [(qA, .inr (1, [.ref qAf, .ref qAs])), (qAf, .inl (cI, 64, .inl qf)), (qAs, .inl (cI, 64, .inl qs))] H := hP.sub [0, 1, 2] rfl
        have hD : va_D A [(qA, .inr (1, [.ref qAf, .ref qAs])), (qAf, .inl (cI, 64, .inl qf)), (qAs, .inl (cI, 64, .inl qs))] := hD.sub [0, 1, 2] (by decide) rfl
        obtain ⟨hwA, hwB⟩ := hw
        refine lv_if_eq (tgt := 21) hx hb dX2_howMany_15 (by decide) (fun cb => ?_) (fun cb => ?_)
        · have hw := hwA cb
          refine lv_iinc (v := (v2 + 1)) (lv' := [(2, .int (v2 + 1)), (0, .ref qA), (1, .int v1)]) hx hb dX2_howMany_21 hl (k := 2) rfl rfl (by decide) rfl (fun ls hl => ?_)
          refine lv_goto (tgt := 4) hx hb dX2_howMany_24 (by decide) ?_
          exact ih4 v1 (v2 + 1) hw _ _ _ hP hD hS (lv_sub hl [1, 2, 0] rfl)
        · have hw := hwB cb
          refine lv_iinc (v := (v1 + 1)) (lv' := [(1, .int (v1 + 1)), (0, .ref qA), (2, .int v2)]) hx hb dX2_howMany_18 hl (k := 1) rfl rfl (by decide) rfl (fun ls hl => ?_)
          refine lv_iinc (v := (v2 + 1)) (lv' := [(2, .int (v2 + 1)), (1, .int (v1 + 1)), (0, .ref qA)]) hx hb dX2_howMany_21 hl (k := 2) rfl rfl (by decide) rfl (fun ls hl => ?_)
          refine lv_goto (tgt := 4) hx hb dX2_howMany_24 (by decide) ?_
          exact ih4 (v1 + 1) (v2 + 1) hw _ _ _ hP hD hS (lv_sub hl [2, 1, 0] rfl)
  unfold wp_X2_howMany at hw
  refine lv_iconst (v := 0) hx hb dX2_howMany_0 (by decide) ?_
  refine lv_istore_n (lv' := [(1, .int 0), (0, .ref qA)]) hx hb dX2_howMany_1 rfl hl (by decide) rfl (fun ls hl => ?_)
  refine lv_iconst (v := 1) hx hb dX2_howMany_2 (by decide) ?_
  refine lv_istore_n (lv' := [(2, .int 1), (1, .int 0), (0, .ref qA)]) hx hb dX2_howMany_3 rfl hl (by decide) rfl (fun ls hl => ?_)
  obtain ⟨k, hw⟩ := hw
  exact N4  k 0 1 hw _ _ _ hP hD hS (lv_sub hl [2, 1, 0] rfl)
theorem hd_X2_depthOf : yX2_depthOf.cls = RX2 ∧ yX2_depthOf.cls ≠ "java/lang/invoke/MethodHandle" ∧ yX2_depthOf.cls ≠ "java/lang/invoke/VarHandle" ∧ (parseMethodDescriptor yX2_depthOf.desc).map (fun d => d.parameters.length) = some 1 := by decide +kernel
set_option maxHeartbeats 8000000 in
set_option maxRecDepth 100000 in
theorem c_X2_depthOf (l : Launch) (D : va_G) (cI cJ cZ cO : ClassId)   (v0 : Int32) (K : Int32 → Prop) (hw : wp_X2_depthOf v0 K) : Ci l D (tys4 cI cJ cZ cO) yX2_depthOf wsX2_depthOf { frames := 0, cells := 0, slots := 0, locals := 0 } [.int v0] [] (fun (r : Int32) (_ : Unit) => K r) (fun _ => []) := by
  refine mt_i (cc := cX2_depthOf) (maxL := 3) (rt := .int) (by decide) rfl (Nat.le_of_ble_eq_true rfl) ?_
  intro p e s m args below meth c Q A R ls hRf hRl hx hb hml hown hts hK hA hP hD hS hl ret
  have hown : s.vm.findClass RX2 = some m.cls := hown
  have hl : lv_has ls 3 [(0, .int v0)] := hl
  have N6 : ∀  (k : Nat) (v1 : Int32) (v2 : Int32), wp_X2_depthOf_6 v0 K   k v1 v2 → ∀ (H : Heap) (locs : List Loc) (ls : Array Slot), va_P D vwCl [] H → va_D A [] → va_S A s.heap H locs → lv_has ls 3 [(1, .int v1), (2, .int v2)] → W p l e R s m args below meth c H locs 0 0 Q (F0 m 6 ls []) := by
    intro k
    induction k with
    | zero => intro v1 v2 hw; exact False.elim hw
    | succ k ih6 =>
      intro v1 v2 hw H locs ls hP hD hS hl
      have hw : wp_X2_depthOf_6b v0 K (wp_X2_depthOf_6 v0 K   k)   v1 v2 := hw
      unfold wp_X2_depthOf_6b at hw
      generalize wp_X2_depthOf_6 v0 K   k = L6 at hw ih6
      refine lv_iload_n hx hb dX2_depthOf_6 rfl (lv_at hl 1 rfl) ?_
      refine lv_iconst (v := 1) hx hb dX2_depthOf_7 (by decide) ?_
      obtain ⟨hwA, hwB⟩ := hw
      refine lv_icmp_lt (tgt := 21) hx hb dX2_depthOf_8 (by decide) (fun cb => ?_) (fun cb => ?_)
      · have hw := hwA cb
        refine lv_iload_n hx hb dX2_depthOf_21 rfl (lv_at hl 0 rfl) ?_
        exact ret _ _ _ _ v1 () (vp_nar_int _) hw hP hD hS dX2_depthOf_22
      · have hw := hwB cb
        refine lv_iinc (v := (v1 + 1)) (lv' := [(1, .int (v1 + 1)), (2, .int v2)]) hx hb dX2_depthOf_11 hl (k := 0) rfl rfl (by decide) rfl (fun ls hl => ?_)
        refine lv_iload_n hx hb dX2_depthOf_14 rfl (lv_at hl 1 rfl) ?_
        refine lv_iconst (v := 2) hx hb dX2_depthOf_15 (by decide) ?_
        refine lv_idiv hx hb dX2_depthOf_16 (by decide) ?_
        refine lv_istore_n (lv' := [(2, .int (v2 / 2)), (1, .int (v1 + 1))]) hx hb dX2_depthOf_17 rfl hl (by decide) rfl (fun ls hl => ?_)
        refine lv_goto (tgt := 6) hx hb dX2_depthOf_18 (by decide) ?_
        exact ih6 (v1 + 1) (v2 / 2) hw _ _ _ hP hD hS (lv_sub hl [1, 0] rfl)
  unfold wp_X2_depthOf at hw
  refine lv_iconst (v := 0) hx hb dX2_depthOf_0 (by decide) ?_
  refine lv_istore_n (lv' := [(1, .int 0), (0, .int v0)]) hx hb dX2_depthOf_1 rfl hl (by decide) rfl (fun ls hl => ?_)
  refine lv_iload_n hx hb dX2_depthOf_2 rfl (lv_at hl 1 rfl) ?_
  refine lv_iconst (v := 2) hx hb dX2_depthOf_3 (by decide) ?_
  refine lv_idiv hx hb dX2_depthOf_4 (by decide) ?_
  refine lv_istore_n (lv' := [(2, .int (v0 / 2)), (1, .int 0), (0, .int v0)]) hx hb dX2_depthOf_5 rfl hl (by decide) rfl (fun ls hl => ?_)
  obtain ⟨k, hw⟩ := hw
  exact N6  k 0 (v0 / 2) hw _ _ _ hP hD hS (lv_sub hl [1, 0] rfl)
theorem hd_X2_greatestDepth : yX2_greatestDepth.cls = RX2 ∧ yX2_greatestDepth.cls ≠ "java/lang/invoke/MethodHandle" ∧ yX2_greatestDepth.cls ≠ "java/lang/invoke/VarHandle" ∧ (parseMethodDescriptor yX2_greatestDepth.desc).map (fun d => d.parameters.length) = some 0 := by decide +kernel
set_option maxHeartbeats 8000000 in
set_option maxRecDepth 100000 in
theorem c_X2_greatestDepth (l : Launch) (D : va_G) (cI cJ cZ cO : ClassId) (qA qAf qAs : Nat) (qf : Nat → Int32) (qs : Nat → Int32)  (K : Int32 → Prop) (hw : wp_X2_greatestDepth qs K) : Ci l D (tys4 cI cJ cZ cO) yX2_greatestDepth wsX2_greatestDepth { frames := 1, cells := 0, slots := 0, locals := 22 } [.ref qA] [(qA, .inr (1, [.ref qAf, .ref qAs])), (qAf, .inl (cI, 64, .inl qf)), (qAs, .inl (cI, 64, .inl qs))] (fun (r : Int32) (_ : Unit) => K r) (fun _ => [(qA, .inr (1, [.ref qAf, .ref qAs])), (qAf, .inl (cI, 64, .inl qf)), (qAs, .inl (cI, 64, .inl qs))]) := by
  refine mt_i (cc := cX2_greatestDepth) (maxL := 2) (rt := .int) (by decide) rfl (Nat.le_of_ble_eq_true rfl) ?_
  intro p e s m args below meth c Q A R ls hRf hRl hx hb hml hown hts hK hA hP hD hS hl ret
  have hown : s.vm.findClass RX2 = some m.cls := hown
  have hl : lv_has ls 2 [(0, .ref qA)] := hl
  have N3 : ∀  (k : Nat) (v1 : Int32), wp_X2_greatestDepth_3 qs K   k v1 → ∀ (H : Heap) (locs : List Loc) (ls : Array Slot), va_P D vwCl [(qA, .inr (1, [.ref qAf, .ref qAs])), (qAf, .inl (cI, 64, .inl qf)), (qAs, .inl (cI, 64, .inl qs))] H → va_D A [(qA, .inr (1, [.ref qAf, .ref qAs])), (qAf, .inl (cI, 64, .inl qf)), (qAs, .inl (cI, 64, .inl qs))] → va_S A s.heap H locs → lv_has ls 2 [(0, .ref qA), (1, .int v1)] → W p l e R s m args below meth c H locs 0 0 Q (F0 m 3 ls []) := by
    intro k
    induction k with
    | zero => intro v1 hw; exact False.elim hw
    | succ k ih3 =>
      intro v1 hw H locs ls hP hD hS hl
      have hw : wp_X2_greatestDepth_3b qs K (wp_X2_greatestDepth_3 qs K   k)   v1 := hw
      unfold wp_X2_greatestDepth_3b at hw
      generalize wp_X2_greatestDepth_3 qs K   k = L3 at hw ih3
      refine lv_iload_n hx hb dX2_greatestDepth_3 rfl (lv_at hl 1 rfl) ?_
      refine lv_iconst (v := 1) hx hb dX2_greatestDepth_4 (by decide) ?_
      obtain ⟨hwA, hwB⟩ := hw
      refine lv_icmp_lt (tgt := 27) hx hb dX2_greatestDepth_5 (by decide) (fun cb => ?_) (fun cb => ?_)
      · have hw := hwA cb
        refine lv_bipush (v := (-6)) hx hb dX2_greatestDepth_27 (by decide) ?_
        exact ret _ _ _ _ (-6) () (vp_nar_int _) hw hP hD hS dX2_greatestDepth_29
      · have hw := hwB cb
        refine lv_aload_n hx hb dX2_greatestDepth_8 rfl (lv_at hl 0 rfl) ?_
        refine lv_iload_n hx hb dX2_greatestDepth_9 rfl (lv_at hl 1 rfl) ?_
        refine cl_Vi (As := [.int v1]) (rest := []) ⟨hx, hb, hml, hown, hts⟩ (c_X2_has l D cI cJ cZ cO qA qAf qAs qf qs v1 _ hw) (cwV 1 hts gX2_greatestDepth_X2_has rfl rfl rfl hd_X2_has ⟨Nat.le_trans (Nat.le_of_ble_eq_true rfl) hRf, Nat.le_trans (Nat.le_of_ble_eq_true rfl) hRl⟩) hK hP hD hS hA [0, 1, 2] [] rfl (by decide) rfl (by decide) (by decide) 0 1 rfl rfl rfl hl.1 rfl (Nat.le_of_ble_eq_true rfl) dX2_greatestDepth_10 ⟨Nat.zero_le _, Nat.zero_le _⟩ (fun r10 _u H locs hw hP hD hS => ?_)
        try dsimp only at hw
        have hP : va_P D vwCl [(qA, .inr (1, [.ref qAf, .ref qAs])), (qAf, .inl (cI, 64, .inl qf)), (qAs, .inl (cI, 64, .inl qs))] H := hP.sub [0, 1, 2] rfl
        have hD : va_D A [(qA, .inr (1, [.ref qAf, .ref qAs])), (qAf, .inl (cI, 64, .inl qf)), (qAs, .inl (cI, 64, .inl qs))] := hD.sub [0, 1, 2] (by decide) rfl
        obtain ⟨hwA, hwB⟩ := hw
        refine lv_if_eq (tgt := 21) hx hb dX2_greatestDepth_13 (by decide) (fun cb => ?_) (fun cb => ?_)
        · have hw := hwA cb
          refine lv_iinc (v := (v1 + (-1))) (lv' := [(1, .int (v1 + (-1))), (0, .ref qA)]) hx hb dX2_greatestDepth_21 hl (k := 1) rfl rfl (by decide) rfl (fun ls hl => ?_)
          refine lv_goto (tgt := 3) hx hb dX2_greatestDepth_24 (by decide) ?_
          exact ih3 (v1 + (-1)) hw _ _ _ hP hD hS (lv_sub hl [1, 0] rfl)
        · have hw := hwB cb
          refine lv_iload_n hx hb dX2_greatestDepth_16 rfl (lv_at hl 1 rfl) ?_
          refine cl_Si (As := [.int v1]) (rest := []) ⟨hx, hb, hml, hown, hts⟩ (c_X2_depthOf l D cI cJ cZ cO   v1 _ hw) (va_cwS 1 hts gX2_greatestDepth_X2_depthOf rfl rfl rfl hd_X2_depthOf.2 ⟨Nat.le_trans (Nat.le_of_ble_eq_true rfl) hRf, Nat.le_trans (Nat.le_of_ble_eq_true rfl) hRl⟩) hK hP hD hS hA [] [0, 1, 2] rfl (by decide) rfl (by decide) (by decide) rfl hl.1 rfl (Nat.le_of_ble_eq_true rfl) dX2_greatestDepth_17 ⟨Nat.zero_le _, Nat.zero_le _⟩ (fun r17 _u H locs hw hP hD hS => ?_)
          try dsimp only at hw
          have hP : va_P D vwCl [(qA, .inr (1, [.ref qAf, .ref qAs])), (qAf, .inl (cI, 64, .inl qf)), (qAs, .inl (cI, 64, .inl qs))] H := hP.sub [0, 1, 2] rfl
          have hD : va_D A [(qA, .inr (1, [.ref qAf, .ref qAs])), (qAf, .inl (cI, 64, .inl qf)), (qAs, .inl (cI, 64, .inl qs))] := hD.sub [0, 1, 2] (by decide) rfl
          exact ret _ _ _ _ r17 () (vp_nar_int _) hw hP hD hS dX2_greatestDepth_20
  unfold wp_X2_greatestDepth at hw
  refine lv_bipush (v := 63) hx hb dX2_greatestDepth_0 (by decide) ?_
  refine lv_istore_n (lv' := [(1, .int 63), (0, .ref qA)]) hx hb dX2_greatestDepth_2 rfl hl (by decide) rfl (fun ls hl => ?_)
  obtain ⟨k, hw⟩ := hw
  exact N3  k 63 hw _ _ _ hP hD hS (lv_sub hl [1, 0] rfl)
