/-- X1_rankAt -/
def wp_X1_rankAt (tr : Nat → Int32) (ts : Int32) (v1 : Int32) (K : Int32 → Prop) : Prop := ((v1 < 0 → (K (-6))) ∧ (¬ v1 < 0 → ((ts ≤ v1 → (K (-6))) ∧ (¬ ts ≤ v1 → (vp_in v1 32 ∧ (K (tr v1.toNatClampNeg)))))))
/-- X1_has -/
def wp_X1_has_2b (tr : Nat → Int32) (ts : Int32) (v1 : Int32) (K : Int32 → Prop) (L2 : Int32 → Prop)   (v2 : Int32) : Prop := ((ts ≤ v2 → (K 0)) ∧ (¬ ts ≤ v2 → (vp_in v2 32 ∧ ((¬ (tr v2.toNatClampNeg) = v1 → (L2 (v2 + 1))) ∧ ((tr v2.toNatClampNeg) = v1 → (K 1))))))
def wp_X1_has_2 (tr : Nat → Int32) (ts : Int32) (v1 : Int32) (K : Int32 → Prop)   : Nat → Int32 → Prop
  | 0 => fun _ => False
  | k + 1 => fun v2 => wp_X1_has_2b tr ts v1 K (wp_X1_has_2 tr ts v1 K   k)   v2
def wp_X1_has (tr : Nat → Int32) (ts : Int32) (v1 : Int32) (K : Int32 → Prop) : Prop := (∃ k, wp_X1_has_2 tr ts v1 K   k 0)
/-- X1_append -/
def wp_X1_append (tr : Nat → Int32) (ts : Int32) (v1 : Int32) (K : (Nat → Int32) → Int32 → Prop) : Prop := (((32 : Int32) ≤ ts → (K tr ts)) ∧ (¬ (32 : Int32) ≤ ts → (vp_in ts 32 ∧ (K (upd tr ts.toNatClampNeg v1) (ts + 1)))))
theorem in_X1_rankAt_X0 : ∀ w ∈ wsX00, w ∈ wsX1_rankAt := fun _ h => List.mem_cons_of_mem _ (List.mem_append_left _ (List.mem_append_right _ h))
theorem hd_X1_rankAt : yX1_rankAt.cls = RX1 ∧ yX1_rankAt.cls ≠ "java/lang/invoke/MethodHandle" ∧ yX1_rankAt.cls ≠ "java/lang/invoke/VarHandle" ∧ (parseMethodDescriptor yX1_rankAt.desc).map (fun d => d.parameters.length) = some 1 := by decide +kernel
set_option maxHeartbeats 8000000 in
set_option maxRecDepth 100000 in
theorem c_X1_rankAt_X0 (l : Launch) (D : va_G) (cI cJ cZ cO : ClassId) (tA tAr : Nat) (tr : Nat → Int32) (ts : Int32) (v1 : Int32) (K : Int32 → Prop) (hw : wp_X1_rankAt tr ts v1 K) : Ci l D (tys4 cI cJ cZ cO) yX1_rankAt wsX1_rankAt { frames := 0, cells := 0, slots := 0, locals := 0 } [.ref tA, .int v1] [(tA, .inr (0, [.ref tAr, .int ts])), (tAr, .inl (cI, 32, .inl tr))] (fun (r : Int32) (_ : Unit) => K r) (fun _ => [(tA, .inr (0, [.ref tAr, .int ts])), (tAr, .inl (cI, 32, .inl tr))]) := by
  refine mt_i (cc := cX1_rankAt) (maxL := 2) (rt := .int) (by decide) rfl (Nat.le_of_ble_eq_true rfl) ?_
  intro p e s m args below meth c Q A R ls hRf hRl hx hb hml hown hts hK hA hP hD hS hl ret
  have hown : s.vm.findClass RX1 = some m.cls := hown
  have hl : lv_has ls 2 [(0, .ref tA), (1, .int v1)] := hl
  unfold wp_X1_rankAt at hw
  refine lv_iload_n hx hb dX1_rankAt_0 rfl (lv_at hl 1 rfl) ?_
  obtain ⟨hwA, hwB⟩ := hw
  refine lv_if_lt (tgt := 21) hx hb dX1_rankAt_1 (by decide) (fun cb => ?_) (fun cb => ?_)
  · have hw := hwA cb
    refine lv_bipush (v := (-6)) hx hb dX1_rankAt_21 (by decide) ?_
    exact ret _ _ _ _ (-6) () (vp_nar_int _) hw hP hD hS dX1_rankAt_23
  · have hw := hwB cb
    refine lv_iload_n hx hb dX1_rankAt_4 rfl (lv_at hl 1 rfl) ?_
    refine lv_aload_n hx hb dX1_rankAt_5 rfl (lv_at hl 0 rfl) ?_
    refine va_get (D := D) (ci := 0) (v := .int ts) (C := RX0) (T := TX0) (N := 2) hx hb hts in_X1_rankAt_X0 hown hK hP 0 rfl rfl 1 (by decide) (hts (.fieldLink RX1 15 "LiveHull$Corners" "size" "I") (List.mem_of_getElem? (i := 1) rfl)) (fun _ h9 => h9) rfl dX1_rankAt_6 ?_
    obtain ⟨hwA, hwB⟩ := hw
    refine lv_icmp_ge (tgt := 21) hx hb dX1_rankAt_9 (by decide) (fun cb => ?_) (fun cb => ?_)
    · have hw := hwA cb
      refine lv_bipush (v := (-6)) hx hb dX1_rankAt_21 (by decide) ?_
      exact ret _ _ _ _ (-6) () (vp_nar_int _) hw hP hD hS dX1_rankAt_23
    · have hw := hwB cb
      refine lv_aload_n hx hb dX1_rankAt_12 rfl (lv_at hl 0 rfl) ?_
      refine va_get (D := D) (ci := 0) (v := .ref tAr) (C := RX0) (T := TX0) (N := 2) hx hb hts in_X1_rankAt_X0 hown hK hP 0 rfl rfl 0 (by decide) (hts (.fieldLink RX1 9 "LiveHull$Corners" "ranks" "[I") (List.mem_of_getElem? (i := 2) rfl)) (fun _ h9 => h9) rfl dX1_rankAt_13 ?_
      refine lv_iload_n hx hb dX1_rankAt_16 rfl (lv_at hl 1 rfl) ?_
      obtain ⟨hi, hw⟩ := hw
      refine va_iald hx hb hK hP 1 0 rfl rfl hi dX1_rankAt_17 ?_
      refine lv_goto (tgt := 23) hx hb dX1_rankAt_18 (by decide) ?_
      exact ret _ _ _ _ (tr v1.toNatClampNeg) () (vp_nar_int _) hw hP hD hS dX1_rankAt_23
theorem in_X1_rankAt_X4 : ∀ w ∈ wsX40, w ∈ wsX1_rankAt := fun _ h => List.mem_cons_of_mem _ (List.mem_append_right _ h)
set_option maxHeartbeats 8000000 in
set_option maxRecDepth 100000 in
theorem c_X1_rankAt_X4 (l : Launch) (D : va_G) (cI cJ cZ cO : ClassId) (tA tAr : Nat) (tr : Nat → Int32) (ts : Int32) (v1 : Int32) (K : Int32 → Prop) (hw : wp_X1_rankAt tr ts v1 K) : Ci l D (tys4 cI cJ cZ cO) yX1_rankAt wsX1_rankAt { frames := 0, cells := 0, slots := 0, locals := 0 } [.ref tA, .int v1] [(tA, .inr (3, [.ref tAr, .int ts])), (tAr, .inl (cI, 32, .inl tr))] (fun (r : Int32) (_ : Unit) => K r) (fun _ => [(tA, .inr (3, [.ref tAr, .int ts])), (tAr, .inl (cI, 32, .inl tr))]) := by
  refine mt_i (cc := cX1_rankAt) (maxL := 2) (rt := .int) (by decide) rfl (Nat.le_of_ble_eq_true rfl) ?_
  intro p e s m args below meth c Q A R ls hRf hRl hx hb hml hown hts hK hA hP hD hS hl ret
  have hown : s.vm.findClass RX1 = some m.cls := hown
  have hl : lv_has ls 2 [(0, .ref tA), (1, .int v1)] := hl
  unfold wp_X1_rankAt at hw
  refine lv_iload_n hx hb dX1_rankAt_0 rfl (lv_at hl 1 rfl) ?_
  obtain ⟨hwA, hwB⟩ := hw
  refine lv_if_lt (tgt := 21) hx hb dX1_rankAt_1 (by decide) (fun cb => ?_) (fun cb => ?_)
  · have hw := hwA cb
    refine lv_bipush (v := (-6)) hx hb dX1_rankAt_21 (by decide) ?_
    exact ret _ _ _ _ (-6) () (vp_nar_int _) hw hP hD hS dX1_rankAt_23
  · have hw := hwB cb
    refine lv_iload_n hx hb dX1_rankAt_4 rfl (lv_at hl 1 rfl) ?_
    refine lv_aload_n hx hb dX1_rankAt_5 rfl (lv_at hl 0 rfl) ?_
    refine va_get (D := D) (ci := 3) (v := .int ts) (C := RX4) (T := TX4) (N := 2) hx hb hts in_X1_rankAt_X4 hown hK hP 0 rfl rfl 1 (by decide) (hts (.fieldLink RX1 15 "LiveHull$Corners" "size" "I") (List.mem_of_getElem? (i := 1) rfl)) (fun _ h9 => h9) rfl dX1_rankAt_6 ?_
    obtain ⟨hwA, hwB⟩ := hw
    refine lv_icmp_ge (tgt := 21) hx hb dX1_rankAt_9 (by decide) (fun cb => ?_) (fun cb => ?_)
    · have hw := hwA cb
      refine lv_bipush (v := (-6)) hx hb dX1_rankAt_21 (by decide) ?_
      exact ret _ _ _ _ (-6) () (vp_nar_int _) hw hP hD hS dX1_rankAt_23
    · have hw := hwB cb
      refine lv_aload_n hx hb dX1_rankAt_12 rfl (lv_at hl 0 rfl) ?_
      refine va_get (D := D) (ci := 3) (v := .ref tAr) (C := RX4) (T := TX4) (N := 2) hx hb hts in_X1_rankAt_X4 hown hK hP 0 rfl rfl 0 (by decide) (hts (.fieldLink RX1 9 "LiveHull$Corners" "ranks" "[I") (List.mem_of_getElem? (i := 2) rfl)) (fun _ h9 => h9) rfl dX1_rankAt_13 ?_
      refine lv_iload_n hx hb dX1_rankAt_16 rfl (lv_at hl 1 rfl) ?_
      obtain ⟨hi, hw⟩ := hw
      refine va_iald hx hb hK hP 1 0 rfl rfl hi dX1_rankAt_17 ?_
      refine lv_goto (tgt := 23) hx hb dX1_rankAt_18 (by decide) ?_
      exact ret _ _ _ _ (tr v1.toNatClampNeg) () (vp_nar_int _) hw hP hD hS dX1_rankAt_23
theorem in_X1_has_X0 : ∀ w ∈ wsX00, w ∈ wsX1_has := fun _ h => List.mem_cons_of_mem _ (List.mem_append_left _ (List.mem_append_right _ h))
theorem hd_X1_has : yX1_has.cls = RX1 ∧ yX1_has.cls ≠ "java/lang/invoke/MethodHandle" ∧ yX1_has.cls ≠ "java/lang/invoke/VarHandle" ∧ (parseMethodDescriptor yX1_has.desc).map (fun d => d.parameters.length) = some 1 := by decide +kernel
set_option maxHeartbeats 8000000 in
set_option maxRecDepth 100000 in
theorem c_X1_has_X0 (l : Launch) (D : va_G) (cI cJ cZ cO : ClassId) (tA tAr : Nat) (tr : Nat → Int32) (ts : Int32) (v1 : Int32) (K : Int32 → Prop) (hw : wp_X1_has tr ts v1 K) : Ci l D (tys4 cI cJ cZ cO) yX1_has wsX1_has { frames := 0, cells := 0, slots := 0, locals := 0 } [.ref tA, .int v1] [(tA, .inr (0, [.ref tAr, .int ts])), (tAr, .inl (cI, 32, .inl tr))] (fun (r : Int32) (_ : Unit) => K r) (fun _ => [(tA, .inr (0, [.ref tAr, .int ts])), (tAr, .inl (cI, 32, .inl tr))]) := by
  refine mt_i (cc := cX1_has) (maxL := 3) (rt := .boolean) (by decide) rfl (Nat.le_of_ble_eq_true rfl) ?_
  intro p e s m args below meth c Q A R ls hRf hRl hx hb hml hown hts hK hA hP hD hS hl ret
  have hown : s.vm.findClass RX1 = some m.cls := hown
  have hl : lv_has ls 3 [(0, .ref tA), (1, .int v1)] := hl
  have N2 : ∀  (k : Nat) (v2 : Int32), wp_X1_has_2 tr ts v1 K   k v2 → ∀ (H : Heap) (locs : List Loc) (ls : Array Slot), va_P D vwCl [(tA, .inr (0, [.ref tAr, .int ts])), (tAr, .inl (cI, 32, .inl tr))] H → va_D A [(tA, .inr (0, [.ref tAr, .int ts])), (tAr, .inl (cI, 32, .inl tr))] → va_S A s.heap H locs → lv_has ls 3 [(0, .ref tA), (1, .int v1), (2, .int v2)] → W p l e R s m args below meth c H locs 0 0 Q (F0 m 2 ls []) := by
    intro k
    induction k with
    | zero => intro v2 hw; exact False.elim hw
    | succ k ih2 =>
      intro v2 hw H locs ls hP hD hS hl
      have hw : wp_X1_has_2b tr ts v1 K (wp_X1_has_2 tr ts v1 K   k)   v2 := hw
      unfold wp_X1_has_2b at hw
      generalize wp_X1_has_2 tr ts v1 K   k = L2 at hw ih2
      refine lv_iload_n hx hb dX1_has_2 rfl (lv_at hl 2 rfl) ?_
      refine lv_aload_n hx hb dX1_has_3 rfl (lv_at hl 0 rfl) ?_
      refine va_get (D := D) (ci := 0) (v := .int ts) (C := RX0) (T := TX0) (N := 2) hx hb hts in_X1_has_X0 hown hK hP 0 rfl rfl 1 (by decide) (hts (.fieldLink RX1 15 "LiveHull$Corners" "size" "I") (List.mem_of_getElem? (i := 1) rfl)) (fun _ h9 => h9) rfl dX1_has_4 ?_
      obtain ⟨hwA, hwB⟩ := hw
      refine lv_icmp_ge (tgt := 28) hx hb dX1_has_7 (by decide) (fun cb => ?_) (fun cb => ?_)
      · have hw := hwA cb
        refine lv_iconst (v := 0) hx hb dX1_has_28 (by decide) ?_
        exact ret _ _ _ _ 0 () rfl hw hP hD hS dX1_has_29
      · have hw := hwB cb
        refine lv_aload_n hx hb dX1_has_10 rfl (lv_at hl 0 rfl) ?_
        refine va_get (D := D) (ci := 0) (v := .ref tAr) (C := RX0) (T := TX0) (N := 2) hx hb hts in_X1_has_X0 hown hK hP 0 rfl rfl 0 (by decide) (hts (.fieldLink RX1 9 "LiveHull$Corners" "ranks" "[I") (List.mem_of_getElem? (i := 2) rfl)) (fun _ h9 => h9) rfl dX1_has_11 ?_
        refine lv_iload_n hx hb dX1_has_14 rfl (lv_at hl 2 rfl) ?_
        obtain ⟨hi, hw⟩ := hw
        refine va_iald hx hb hK hP 1 0 rfl rfl hi dX1_has_15 ?_
        refine lv_iload_n hx hb dX1_has_16 rfl (lv_at hl 1 rfl) ?_
        obtain ⟨hwA, hwB⟩ := hw
        refine lv_icmp_ne (tgt := 22) hx hb dX1_has_17 (by decide) (fun cb => ?_) (fun cb => ?_)
        · have hw := hwA cb
          refine lv_iinc (v := (v2 + 1)) (lv' := [(2, .int (v2 + 1)), (0, .ref tA), (1, .int v1)]) hx hb dX1_has_22 hl (k := 2) rfl rfl (by decide) rfl (fun ls hl => ?_)
          refine lv_goto (tgt := 2) hx hb dX1_has_25 (by decide) ?_
          exact ih2 (v2 + 1) hw _ _ _ hP hD hS (lv_sub hl [1, 2, 0] rfl)
        · have hw := hwB cb
          refine lv_iconst (v := 1) hx hb dX1_has_20 (by decide) ?_
          exact ret _ _ _ _ 1 () rfl hw hP hD hS dX1_has_21
  unfold wp_X1_has at hw
  refine lv_iconst (v := 0) hx hb dX1_has_0 (by decide) ?_
  refine lv_istore_n (lv' := [(2, .int 0), (0, .ref tA), (1, .int v1)]) hx hb dX1_has_1 rfl hl (by decide) rfl (fun ls hl => ?_)
  obtain ⟨k, hw⟩ := hw
  exact N2  k 0 hw _ _ _ hP hD hS (lv_sub hl [1, 2, 0] rfl)
theorem in_X1_has_X4 : ∀ w ∈ wsX40, w ∈ wsX1_has := fun _ h => List.mem_cons_of_mem _ (List.mem_append_right _ h)
set_option maxHeartbeats 8000000 in
set_option maxRecDepth 100000 in
theorem c_X1_has_X4 (l : Launch) (D : va_G) (cI cJ cZ cO : ClassId) (tA tAr : Nat) (tr : Nat → Int32) (ts : Int32) (v1 : Int32) (K : Int32 → Prop) (hw : wp_X1_has tr ts v1 K) : Ci l D (tys4 cI cJ cZ cO) yX1_has wsX1_has { frames := 0, cells := 0, slots := 0, locals := 0 } [.ref tA, .int v1] [(tA, .inr (3, [.ref tAr, .int ts])), (tAr, .inl (cI, 32, .inl tr))] (fun (r : Int32) (_ : Unit) => K r) (fun _ => [(tA, .inr (3, [.ref tAr, .int ts])), (tAr, .inl (cI, 32, .inl tr))]) := by
  refine mt_i (cc := cX1_has) (maxL := 3) (rt := .boolean) (by decide) rfl (Nat.le_of_ble_eq_true rfl) ?_
  intro p e s m args below meth c Q A R ls hRf hRl hx hb hml hown hts hK hA hP hD hS hl ret
  have hown : s.vm.findClass RX1 = some m.cls := hown
  have hl : lv_has ls 3 [(0, .ref tA), (1, .int v1)] := hl
  have N2 : ∀  (k : Nat) (v2 : Int32), wp_X1_has_2 tr ts v1 K   k v2 → ∀ (H : Heap) (locs : List Loc) (ls : Array Slot), va_P D vwCl [(tA, .inr (3, [.ref tAr, .int ts])), (tAr, .inl (cI, 32, .inl tr))] H → va_D A [(tA, .inr (3, [.ref tAr, .int ts])), (tAr, .inl (cI, 32, .inl tr))] → va_S A s.heap H locs → lv_has ls 3 [(0, .ref tA), (1, .int v1), (2, .int v2)] → W p l e R s m args below meth c H locs 0 0 Q (F0 m 2 ls []) := by
    intro k
    induction k with
    | zero => intro v2 hw; exact False.elim hw
    | succ k ih2 =>
      intro v2 hw H locs ls hP hD hS hl
      have hw : wp_X1_has_2b tr ts v1 K (wp_X1_has_2 tr ts v1 K   k)   v2 := hw
      unfold wp_X1_has_2b at hw
      generalize wp_X1_has_2 tr ts v1 K   k = L2 at hw ih2
      refine lv_iload_n hx hb dX1_has_2 rfl (lv_at hl 2 rfl) ?_
      refine lv_aload_n hx hb dX1_has_3 rfl (lv_at hl 0 rfl) ?_
      refine va_get (D := D) (ci := 3) (v := .int ts) (C := RX4) (T := TX4) (N := 2) hx hb hts in_X1_has_X4 hown hK hP 0 rfl rfl 1 (by decide) (hts (.fieldLink RX1 15 "LiveHull$Corners" "size" "I") (List.mem_of_getElem? (i := 1) rfl)) (fun _ h9 => h9) rfl dX1_has_4 ?_
      obtain ⟨hwA, hwB⟩ := hw
      refine lv_icmp_ge (tgt := 28) hx hb dX1_has_7 (by decide) (fun cb => ?_) (fun cb => ?_)
      · have hw := hwA cb
        refine lv_iconst (v := 0) hx hb dX1_has_28 (by decide) ?_
        exact ret _ _ _ _ 0 () rfl hw hP hD hS dX1_has_29
      · have hw := hwB cb
        refine lv_aload_n hx hb dX1_has_10 rfl (lv_at hl 0 rfl) ?_
        refine va_get (D := D) (ci := 3) (v := .ref tAr) (C := RX4) (T := TX4) (N := 2) hx hb hts in_X1_has_X4 hown hK hP 0 rfl rfl 0 (by decide) (hts (.fieldLink RX1 9 "LiveHull$Corners" "ranks" "[I") (List.mem_of_getElem? (i := 2) rfl)) (fun _ h9 => h9) rfl dX1_has_11 ?_
        refine lv_iload_n hx hb dX1_has_14 rfl (lv_at hl 2 rfl) ?_
        obtain ⟨hi, hw⟩ := hw
        refine va_iald hx hb hK hP 1 0 rfl rfl hi dX1_has_15 ?_
        refine lv_iload_n hx hb dX1_has_16 rfl (lv_at hl 1 rfl) ?_
        obtain ⟨hwA, hwB⟩ := hw
        refine lv_icmp_ne (tgt := 22) hx hb dX1_has_17 (by decide) (fun cb => ?_) (fun cb => ?_)
        · have hw := hwA cb
          refine lv_iinc (v := (v2 + 1)) (lv' := [(2, .int (v2 + 1)), (0, .ref tA), (1, .int v1)]) hx hb dX1_has_22 hl (k := 2) rfl rfl (by decide) rfl (fun ls hl => ?_)
          refine lv_goto (tgt := 2) hx hb dX1_has_25 (by decide) ?_
          exact ih2 (v2 + 1) hw _ _ _ hP hD hS (lv_sub hl [1, 2, 0] rfl)
        · have hw := hwB cb
          refine lv_iconst (v := 1) hx hb dX1_has_20 (by decide) ?_
          exact ret _ _ _ _ 1 () rfl hw hP hD hS dX1_has_21
  unfold wp_X1_has at hw
  refine lv_iconst (v := 0) hx hb dX1_has_0 (by decide) ?_
  refine lv_istore_n (lv' := [(2, .int 0), (0, .ref tA), (1, .int v1)]) hx hb dX1_has_1 rfl hl (by decide) rfl (fun ls hl => ?_)
  obtain ⟨k, hw⟩ := hw
  exact N2  k 0 hw _ _ _ hP hD hS (lv_sub hl [1, 2, 0] rfl)
theorem in_X1_append_X0 : ∀ w ∈ wsX00, w ∈ wsX1_append := fun _ h => List.mem_cons_of_mem _ (List.mem_append_left _ (List.mem_append_right _ h))
theorem hd_X1_append : yX1_append.cls = RX1 ∧ yX1_append.cls ≠ "java/lang/invoke/MethodHandle" ∧ yX1_append.cls ≠ "java/lang/invoke/VarHandle" ∧ (parseMethodDescriptor yX1_append.desc).map (fun d => d.parameters.length) = some 1 := by decide +kernel
set_option maxHeartbeats 8000000 in
set_option maxRecDepth 100000 in
theorem c_X1_append_X0 (l : Launch) (D : va_G) (cI cJ cZ cO : ClassId) (tA tAr : Nat) (tr : Nat → Int32) (ts : Int32) (v1 : Int32) (K : (Nat → Int32) → Int32 → Prop) (hw : wp_X1_append tr ts v1 K) : Cv l D (tys4 cI cJ cZ cO) yX1_append wsX1_append { frames := 0, cells := 0, slots := 0, locals := 0 } [.ref tA, .int v1] [(tA, .inr (0, [.ref tAr, .int ts])), (tAr, .inl (cI, 32, .inl tr))] (fun (u : (Nat → Int32) × (Int32)) => K u.1 u.2) (fun u => [(tA, .inr (0, [.ref tAr, .int u.2])), (tAr, .inl (cI, 32, .inl u.1))]) := by
  refine mt_v (cc := cX1_append) (maxL := 2) (by decide) rfl (Nat.le_of_ble_eq_true rfl) ?_
  intro p e s m args below meth c Q A R ls hRf hRl hx hb hml hown hts hK hA hP hD hS hl ret
  have hown : s.vm.findClass RX1 = some m.cls := hown
  have hl : lv_has ls 2 [(0, .ref tA), (1, .int v1)] := hl
  unfold wp_X1_append at hw
  refine lv_aload_n hx hb dX1_append_0 rfl (lv_at hl 0 rfl) ?_
  refine va_get (D := D) (ci := 0) (v := .int ts) (C := RX0) (T := TX0) (N := 2) hx hb hts in_X1_append_X0 hown hK hP 0 rfl rfl 1 (by decide) (hts (.fieldLink RX1 15 "LiveHull$Corners" "size" "I") (List.mem_of_getElem? (i := 1) rfl)) (fun _ h9 => h9) rfl dX1_append_1 ?_
  refine lv_bipush (v := 32) hx hb dX1_append_4 (by decide) ?_
  obtain ⟨hwA, hwB⟩ := hw
  refine lv_icmp_ge (tgt := 29) hx hb dX1_append_6 (by decide) (fun cb => ?_) (fun cb => ?_)
  · have hw := hwA cb
    exact ret _ _ _ _ (tr, ts) hw hP hD hS dX1_append_29
  · have hw := hwB cb
    refine lv_aload_n hx hb dX1_append_9 rfl (lv_at hl 0 rfl) ?_
    refine va_get (D := D) (ci := 0) (v := .ref tAr) (C := RX0) (T := TX0) (N := 2) hx hb hts in_X1_append_X0 hown hK hP 0 rfl rfl 0 (by decide) (hts (.fieldLink RX1 9 "LiveHull$Corners" "ranks" "[I") (List.mem_of_getElem? (i := 2) rfl)) (fun _ h9 => h9) rfl dX1_append_10 ?_
    refine lv_aload_n hx hb dX1_append_13 rfl (lv_at hl 0 rfl) ?_
    refine va_get (D := D) (ci := 0) (v := .int ts) (C := RX0) (T := TX0) (N := 2) hx hb hts in_X1_append_X0 hown hK hP 0 rfl rfl 1 (by decide) (hts (.fieldLink RX1 15 "LiveHull$Corners" "size" "I") (List.mem_of_getElem? (i := 1) rfl)) (fun _ h9 => h9) rfl dX1_append_14 ?_
    refine lv_iload_n hx hb dX1_append_17 rfl (lv_at hl 1 rfl) ?_
    obtain ⟨hi, hw⟩ := hw
    refine va_iast hx hb hK hP hD hS 1 0 rfl rfl hi dX1_append_18 (fun H locs hP hD hS => ?_)
    have hP : va_P D vwCl [(tA, .inr (0, [.ref tAr, .int ts])), (tAr, .inl (cI, 32, .inl (upd tr ts.toNatClampNeg v1)))] H := hP
    have hD : va_D A [(tA, .inr (0, [.ref tAr, .int ts])), (tAr, .inl (cI, 32, .inl (upd tr ts.toNatClampNeg v1)))] := hD
    refine lv_aload_n hx hb dX1_append_19 rfl (lv_at hl 0 rfl) ?_
    refine lv_dup hx hb dX1_append_20 rfl ?_
    refine va_get (D := D) (ci := 0) (v := .int ts) (C := RX0) (T := TX0) (N := 2) hx hb hts in_X1_append_X0 hown hK hP 0 rfl rfl 1 (by decide) (hts (.fieldLink RX1 15 "LiveHull$Corners" "size" "I") (List.mem_of_getElem? (i := 1) rfl)) (fun _ h9 => h9) rfl dX1_append_21 ?_
    refine lv_iconst (v := 1) hx hb dX1_append_24 (by decide) ?_
    refine lv_iadd hx hb dX1_append_25 ?_
    refine va_put (D := D) (ci := 0) (v := .int (ts + 1)) (ty := .int) (C := RX0) (T := TX0) (N := 2) hx hb hts in_X1_append_X0 tyX0 tyX0_ok nmX0 hown hK hP hD hS 0 rfl rfl 1 (by decide) (hts (.fieldLink RX1 15 "LiveHull$Corners" "size" "I") (List.mem_of_getElem? (i := 1) rfl)) (fun _ h9 => h9) rfl (by decide +kernel) rfl rfl (Nat.le_of_ble_eq_true rfl) dX1_append_26 (fun H locs hP hD hS => ?_)
    have hP : va_P D vwCl [(tA, .inr (0, [.ref tAr, .int (ts + 1)])), (tAr, .inl (cI, 32, .inl (upd tr ts.toNatClampNeg v1)))] H := hP
    have hD : va_D A [(tA, .inr (0, [.ref tAr, .int (ts + 1)])), (tAr, .inl (cI, 32, .inl (upd tr ts.toNatClampNeg v1)))] := hD
    exact ret _ _ _ _ ((upd tr ts.toNatClampNeg v1), (ts + 1)) hw hP hD hS dX1_append_29
theorem in_X1_append_X4 : ∀ w ∈ wsX40, w ∈ wsX1_append := fun _ h => List.mem_cons_of_mem _ (List.mem_append_right _ h)
set_option maxHeartbeats 8000000 in
set_option maxRecDepth 100000 in
theorem c_X1_append_X4 (l : Launch) (D : va_G) (cI cJ cZ cO : ClassId) (tA tAr : Nat) (tr : Nat → Int32) (ts : Int32) (v1 : Int32) (K : (Nat → Int32) → Int32 → Prop) (hw : wp_X1_append tr ts v1 K) : Cv l D (tys4 cI cJ cZ cO) yX1_append wsX1_append { frames := 0, cells := 0, slots := 0, locals := 0 } [.ref tA, .int v1] [(tA, .inr (3, [.ref tAr, .int ts])), (tAr, .inl (cI, 32, .inl tr))] (fun (u : (Nat → Int32) × (Int32)) => K u.1 u.2) (fun u => [(tA, .inr (3, [.ref tAr, .int u.2])), (tAr, .inl (cI, 32, .inl u.1))]) := by
  refine mt_v (cc := cX1_append) (maxL := 2) (by decide) rfl (Nat.le_of_ble_eq_true rfl) ?_
  intro p e s m args below meth c Q A R ls hRf hRl hx hb hml hown hts hK hA hP hD hS hl ret
  have hown : s.vm.findClass RX1 = some m.cls := hown
  have hl : lv_has ls 2 [(0, .ref tA), (1, .int v1)] := hl
  unfold wp_X1_append at hw
  refine lv_aload_n hx hb dX1_append_0 rfl (lv_at hl 0 rfl) ?_
  refine va_get (D := D) (ci := 3) (v := .int ts) (C := RX4) (T := TX4) (N := 2) hx hb hts in_X1_append_X4 hown hK hP 0 rfl rfl 1 (by decide) (hts (.fieldLink RX1 15 "LiveHull$Corners" "size" "I") (List.mem_of_getElem? (i := 1) rfl)) (fun _ h9 => h9) rfl dX1_append_1 ?_
  refine lv_bipush (v := 32) hx hb dX1_append_4 (by decide) ?_
  obtain ⟨hwA, hwB⟩ := hw
  refine lv_icmp_ge (tgt := 29) hx hb dX1_append_6 (by decide) (fun cb => ?_) (fun cb => ?_)
  · have hw := hwA cb
    exact ret _ _ _ _ (tr, ts) hw hP hD hS dX1_append_29
  · have hw := hwB cb
    refine lv_aload_n hx hb dX1_append_9 rfl (lv_at hl 0 rfl) ?_
    refine va_get (D := D) (ci := 3) (v := .ref tAr) (C := RX4) (T := TX4) (N := 2) hx hb hts in_X1_append_X4 hown hK hP 0 rfl rfl 0 (by decide) (hts (.fieldLink RX1 9 "LiveHull$Corners" "ranks" "[I") (List.mem_of_getElem? (i := 2) rfl)) (fun _ h9 => h9) rfl dX1_append_10 ?_
    refine lv_aload_n hx hb dX1_append_13 rfl (lv_at hl 0 rfl) ?_
    refine va_get (D := D) (ci := 3) (v := .int ts) (C := RX4) (T := TX4) (N := 2) hx hb hts in_X1_append_X4 hown hK hP 0 rfl rfl 1 (by decide) (hts (.fieldLink RX1 15 "LiveHull$Corners" "size" "I") (List.mem_of_getElem? (i := 1) rfl)) (fun _ h9 => h9) rfl dX1_append_14 ?_
    refine lv_iload_n hx hb dX1_append_17 rfl (lv_at hl 1 rfl) ?_
    obtain ⟨hi, hw⟩ := hw
    refine va_iast hx hb hK hP hD hS 1 0 rfl rfl hi dX1_append_18 (fun H locs hP hD hS => ?_)
    have hP : va_P D vwCl [(tA, .inr (3, [.ref tAr, .int ts])), (tAr, .inl (cI, 32, .inl (upd tr ts.toNatClampNeg v1)))] H := hP
    have hD : va_D A [(tA, .inr (3, [.ref tAr, .int ts])), (tAr, .inl (cI, 32, .inl (upd tr ts.toNatClampNeg v1)))] := hD
    refine lv_aload_n hx hb dX1_append_19 rfl (lv_at hl 0 rfl) ?_
    refine lv_dup hx hb dX1_append_20 rfl ?_
    refine va_get (D := D) (ci := 3) (v := .int ts) (C := RX4) (T := TX4) (N := 2) hx hb hts in_X1_append_X4 hown hK hP 0 rfl rfl 1 (by decide) (hts (.fieldLink RX1 15 "LiveHull$Corners" "size" "I") (List.mem_of_getElem? (i := 1) rfl)) (fun _ h9 => h9) rfl dX1_append_21 ?_
    refine lv_iconst (v := 1) hx hb dX1_append_24 (by decide) ?_
    refine lv_iadd hx hb dX1_append_25 ?_
    refine va_put (D := D) (ci := 3) (v := .int (ts + 1)) (ty := .int) (C := RX4) (T := TX4) (N := 2) hx hb hts in_X1_append_X4 tyX4 tyX4_ok nmX4 hown hK hP hD hS 0 rfl rfl 1 (by decide) (hts (.fieldLink RX1 15 "LiveHull$Corners" "size" "I") (List.mem_of_getElem? (i := 1) rfl)) (fun _ h9 => h9) rfl (by decide +kernel) rfl rfl (Nat.le_of_ble_eq_true rfl) dX1_append_26 (fun H locs hP hD hS => ?_)
    have hP : va_P D vwCl [(tA, .inr (3, [.ref tAr, .int (ts + 1)])), (tAr, .inl (cI, 32, .inl (upd tr ts.toNatClampNeg v1)))] H := hP
    have hD : va_D A [(tA, .inr (3, [.ref tAr, .int (ts + 1)])), (tAr, .inl (cI, 32, .inl (upd tr ts.toNatClampNeg v1)))] := hD
    exact ret _ _ _ _ ((upd tr ts.toNatClampNeg v1), (ts + 1)) hw hP hD hS dX1_append_29
