/-- X6_in -/
def wp_X6_in (v0 : Int32) (v1 : Int32) (v2 : Int32) (K : Int32 → Prop) : Prop := ((v0 < v1 → (K 0)) ∧ (¬ v0 < v1 → ((v2 < v0 → (K 0)) ∧ (¬ v2 < v0 → (K 1)))))
/-- X6_isPlace -/
def wp_X6_isPlace (v0 : Int32) (v1 : Int32) (K : Int32 → Prop) : Prop := (wp_X6_in v0 (-1000000000) 1000000000 (fun r5 => ((r5 = 0 → (K 0)) ∧ (¬ r5 = 0 → (wp_X6_in v1 (-1000000000) 1000000000 (fun r16 => ((r16 = 0 → (K 0)) ∧ (¬ r16 = 0 → (K 1)))))))))
/-- X6_isPoint -/
def wp_X6_isPoint (mi : Nat → Int32) (v1 : Int32) (K : Int32 → Prop) : Prop := (wp_X6_in v1 0 31 (fun r4 => ((r4 = 0 → (K 0)) ∧ (¬ r4 = 0 → (vp_in v1 32 ∧ (((mi v1.toNatClampNeg) = 0 → (K 0)) ∧ (¬ (mi v1.toNatClampNeg) = 0 → (K 1))))))))
/-- X6_isTaken -/
def wp_X6_isTaken_5b (mx : Nat → Int32) (my : Nat → Int32) (mi : Nat → Int32) (v1 : Int32) (v2 : Int32) (K : Int32 → Prop) (L5 : Int32 → Int32 → Prop)   (v3 : Int32) (v4 : Int32) : Prop := (((32 : Int32) ≤ v4 → (narrow .boolean (.int v3) = .int v3 ∧ K v3)) ∧ (¬ (32 : Int32) ≤ v4 → ((¬ v3 = 0 → (L5 1 (v4 + 1))) ∧ (v3 = 0 → (vp_in v4 32 ∧ (((mi v4.toNatClampNeg) = 0 → (L5 0 (v4 + 1))) ∧ (¬ (mi v4.toNatClampNeg) = 0 → (vp_in v4 32 ∧ ((¬ (mx v4.toNatClampNeg) = v1 → (L5 0 (v4 + 1))) ∧ ((mx v4.toNatClampNeg) = v1 → (vp_in v4 32 ∧ ((¬ (my v4.toNatClampNeg) = v2 → (L5 0 (v4 + 1))) ∧ ((my v4.toNatClampNeg) = v2 → (L5 1 (v4 + 1)))))))))))))))
def wp_X6_isTaken_5 (mx : Nat → Int32) (my : Nat → Int32) (mi : Nat → Int32) (v1 : Int32) (v2 : Int32) (K : Int32 → Prop)   : Nat → Int32 → Int32 → Prop
  | 0 => fun _ _ => False
  | k + 1 => fun v3 v4 => wp_X6_isTaken_5b mx my mi v1 v2 K (wp_X6_isTaken_5 mx my mi v1 v2 K   k)   v3 v4
def wp_X6_isTaken (mx : Nat → Int32) (my : Nat → Int32) (mi : Nat → Int32) (v1 : Int32) (v2 : Int32) (K : Int32 → Prop) : Prop := (∃ k, wp_X6_isTaken_5 mx my mi v1 v2 K   k 0 0)
/-- X6_add -/
def wp_X6_add_37b (v1 : Int32) (v2 : Int32) (K : Int32 → (Nat → Int32) → (Nat → Int32) → (Nat → Int32) → Int32 → Prop) (L37 : Int32 → Prop)  (mx : Nat → Int32) (my : Nat → Int32) (mi : Nat → Int32) (mn : Int32) (v3 : Int32) : Prop := (vp_in v3 32 ∧ (((mi v3.toNatClampNeg) = 0 → (vp_in v3 32 ∧ (vp_in v3 32 ∧ (vp_in v3 32 ∧ (K v3 (upd mx v3.toNatClampNeg v1) (upd my v3.toNatClampNeg v2) (upd mi v3.toNatClampNeg (vp_nar .boolean 1)) (mn + 1)))))) ∧ (¬ (mi v3.toNatClampNeg) = 0 → (L37 (v3 + 1)))))
def wp_X6_add_37 (v1 : Int32) (v2 : Int32) (K : Int32 → (Nat → Int32) → (Nat → Int32) → (Nat → Int32) → Int32 → Prop)  (mx : Nat → Int32) (my : Nat → Int32) (mi : Nat → Int32) (mn : Int32) : Nat → Int32 → Prop
  | 0 => fun _ => False
  | k + 1 => fun v3 => wp_X6_add_37b v1 v2 K (wp_X6_add_37 v1 v2 K  mx my mi mn k)  mx my mi mn v3
def wp_X6_add (mx : Nat → Int32) (my : Nat → Int32) (mi : Nat → Int32) (mn : Int32) (v1 : Int32) (v2 : Int32) (K : Int32 → (Nat → Int32) → (Nat → Int32) → (Nat → Int32) → Int32 → Prop) : Prop := (wp_X6_isPlace v1 v2 (fun r2 => ((¬ r2 = 0 → (wp_X6_isTaken mx my mi v1 v2 (fun r14 => ((r14 = 0 → ((¬ mn = (32 : Int32) → (∃ k, wp_X6_add_37 v1 v2 K  mx my mi mn k 0)) ∧ (mn = (32 : Int32) → (K (-4) mx my mi mn)))) ∧ (¬ r14 = 0 → (K (-5) mx my mi mn)))))) ∧ (r2 = 0 → (K (-2) mx my mi mn)))))
/-- X6_remove -/
def wp_X6_remove (mi : Nat → Int32) (mn : Int32) (v1 : Int32) (K : Int32 → (Nat → Int32) → Int32 → Prop) : Prop := (wp_X6_isPoint mi v1 (fun r2 => ((¬ r2 = 0 → (vp_in v1 32 ∧ (K (mn - 1) (upd mi v1.toNatClampNeg (vp_nar .boolean 0)) (mn - 1)))) ∧ (r2 = 0 → (K (-1) mi mn)))))
/-- X6_move -/
def wp_X6_move (mx : Nat → Int32) (my : Nat → Int32) (mi : Nat → Int32) (v1 : Int32) (v2 : Int32) (v3 : Int32) (K : Int32 → (Nat → Int32) → (Nat → Int32) → Prop) : Prop := (wp_X6_isPoint mi v1 (fun r2 => ((¬ r2 = 0 → (wp_X6_isPlace v2 v3 (fun r12 => ((¬ r12 = 0 → (wp_X6_isTaken mx my mi v2 v3 (fun r24 => ((r24 = 0 → (vp_in v1 32 ∧ (vp_in v1 32 ∧ (K 1 (upd mx v1.toNatClampNeg v2) (upd my v1.toNatClampNeg v3))))) ∧ (¬ r24 = 0 → (K (-5) mx my)))))) ∧ (r12 = 0 → (K (-2) mx my)))))) ∧ (r2 = 0 → (K (-1) mx my)))))
/-- X6_layRanks -/
def wp_X6_layRanks_129b (mx : Nat → Int32) (my : Nat → Int32) (mi : Nat → Int32) (K : (Nat → Int32) → (Nat → Int32) → Prop) (L129 : (Nat → Int32) → Int32 → Prop)  (mr : Nat → Int32) (v1 : Int32) (mo : Nat → Int32) (v2 : Int32) : Prop := ((v1 ≤ v2 → (K mr mo)) ∧ (¬ v1 ≤ v2 → (vp_in v2 32 ∧ (vp_in (mr v2.toNatClampNeg) 32 ∧ (L129 (upd mo (mr v2.toNatClampNeg).toNatClampNeg v2) (v2 + 1))))))
def wp_X6_layRanks_129 (mx : Nat → Int32) (my : Nat → Int32) (mi : Nat → Int32) (K : (Nat → Int32) → (Nat → Int32) → Prop)  (mr : Nat → Int32) (v1 : Int32) : Nat → (Nat → Int32) → Int32 → Prop
  | 0 => fun _ _ => False
  | k + 1 => fun mo v2 => wp_X6_layRanks_129b mx my mi K (wp_X6_layRanks_129 mx my mi K  mr v1 k)  mr v1 mo v2
def wp_X6_layRanks_91 (mx : Nat → Int32) (my : Nat → Int32) (mi : Nat → Int32) (K : (Nat → Int32) → (Nat → Int32) → Prop) (L4 : (Nat → Int32) → Int32 → Int32 → Prop) (L21 : (Nat → Int32) → Int32 → Prop) (mo : Nat → Int32) (v1 : Int32) (v2 : Int32) (mr : Nat → Int32) (v3 : Int32) : Prop := (vp_in (v3 - 1) 32 ∧ (vp_in v3 32 ∧ (L21 (upd mr v3.toNatClampNeg (mr (v3 - 1).toNatClampNeg)) (v3 + (-1)))))
def wp_X6_layRanks_21b (mx : Nat → Int32) (my : Nat → Int32) (mi : Nat → Int32) (K : (Nat → Int32) → (Nat → Int32) → Prop) (L4 : (Nat → Int32) → Int32 → Int32 → Prop) (L21 : (Nat → Int32) → Int32 → Prop) (mo : Nat → Int32) (v1 : Int32) (v2 : Int32) (mr : Nat → Int32) (v3 : Int32) : Prop := ((v3 ≤ 0 → (vp_in v3 32 ∧ (L4 (upd mr v3.toNatClampNeg v2) (v1 + 1) (v2 + 1)))) ∧ (¬ v3 ≤ 0 → (vp_in (v3 - 1) 32 ∧ (vp_in (mr (v3 - 1).toNatClampNeg) 32 ∧ (vp_in v2 32 ∧ (((mx v2.toNatClampNeg) < (mx (mr (v3 - 1).toNatClampNeg).toNatClampNeg) → (wp_X6_layRanks_91 mx my mi K L4 L21 mo v1 v2 mr v3)) ∧ (¬ (mx v2.toNatClampNeg) < (mx (mr (v3 - 1).toNatClampNeg).toNatClampNeg) → (vp_in (v3 - 1) 32 ∧ (vp_in (mr (v3 - 1).toNatClampNeg) 32 ∧ (vp_in v2 32 ∧ ((¬ (mx (mr (v3 - 1).toNatClampNeg).toNatClampNeg) = (mx v2.toNatClampNeg) → (vp_in v3 32 ∧ (L4 (upd mr v3.toNatClampNeg v2) (v1 + 1) (v2 + 1)))) ∧ ((mx (mr (v3 - 1).toNatClampNeg).toNatClampNeg) = (mx v2.toNatClampNeg) → (vp_in (v3 - 1) 32 ∧ (vp_in (mr (v3 - 1).toNatClampNeg) 32 ∧ (vp_in v2 32 ∧ (((my (mr (v3 - 1).toNatClampNeg).toNatClampNeg) ≤ (my v2.toNatClampNeg) → (vp_in v3 32 ∧ (L4 (upd mr v3.toNatClampNeg v2) (v1 + 1) (v2 + 1)))) ∧ (¬ (my (mr (v3 - 1).toNatClampNeg).toNatClampNeg) ≤ (my v2.toNatClampNeg) → (wp_X6_layRanks_91 mx my mi K L4 L21 mo v1 v2 mr v3))))))))))))))))))
def wp_X6_layRanks_21 (mx : Nat → Int32) (my : Nat → Int32) (mi : Nat → Int32) (K : (Nat → Int32) → (Nat → Int32) → Prop) (L4 : (Nat → Int32) → Int32 → Int32 → Prop) (mo : Nat → Int32) (v1 : Int32) (v2 : Int32) : Nat → (Nat → Int32) → Int32 → Prop
  | 0 => fun _ _ => False
  | k + 1 => fun mr v3 => wp_X6_layRanks_21b mx my mi K L4 (wp_X6_layRanks_21 mx my mi K L4 mo v1 v2 k) mo v1 v2 mr v3
def wp_X6_layRanks_4b (mx : Nat → Int32) (my : Nat → Int32) (mi : Nat → Int32) (K : (Nat → Int32) → (Nat → Int32) → Prop) (L4 : (Nat → Int32) → Int32 → Int32 → Prop)  (mo : Nat → Int32) (mr : Nat → Int32) (v1 : Int32) (v2 : Int32) : Prop := (((32 : Int32) ≤ v2 → (∃ k, wp_X6_layRanks_129 mx my mi K  mr v1 k mo 0)) ∧ (¬ (32 : Int32) ≤ v2 → (vp_in v2 32 ∧ (((mi v2.toNatClampNeg) = 0 → (L4 mr v1 (v2 + 1))) ∧ (¬ (mi v2.toNatClampNeg) = 0 → (∃ k, wp_X6_layRanks_21 mx my mi K L4 mo v1 v2 k mr v1))))))
def wp_X6_layRanks_4 (mx : Nat → Int32) (my : Nat → Int32) (mi : Nat → Int32) (K : (Nat → Int32) → (Nat → Int32) → Prop)  (mo : Nat → Int32) : Nat → (Nat → Int32) → Int32 → Int32 → Prop
  | 0 => fun _ _ _ => False
  | k + 1 => fun mr v1 v2 => wp_X6_layRanks_4b mx my mi K (wp_X6_layRanks_4 mx my mi K  mo k)  mo mr v1 v2
def wp_X6_layRanks (mx : Nat → Int32) (my : Nat → Int32) (mi : Nat → Int32) (mr : Nat → Int32) (mo : Nat → Int32) (K : (Nat → Int32) → (Nat → Int32) → Prop) : Prop := (∃ k, wp_X6_layRanks_4 mx my mi K  mo k mr 0 0)
/-- X6_layPart -/
def wp_X6_layPart_121 (mx : Nat → Int32) (my : Nat → Int32) (mi : Nat → Int32) (mn : Int32) (v1 : Int32) (K : Int32 → (Nat → Int32) → (Nat → Int32) → Int32 → Int32 → Int32 → Prop) (L61 : Int32 → Int32 → Int32 → Int32 → Prop) (mr : Nat → Int32) (mo : Nat → Int32) (mf : Int32) (mt : Int32) (md : Int32) (v3 : Int32) : Prop := (L61 mf mt (md + 1) (v3 >>> (1 &&& 31)))
def wp_X6_layPart_61b (mx : Nat → Int32) (my : Nat → Int32) (mi : Nat → Int32) (mn : Int32) (v1 : Int32) (K : Int32 → (Nat → Int32) → (Nat → Int32) → Int32 → Int32 → Int32 → Prop) (L61 : Int32 → Int32 → Int32 → Int32 → Prop)  (mr : Nat → Int32) (mo : Nat → Int32) (mf : Int32) (mt : Int32) (md : Int32) (v3 : Int32) : Prop := ((v3 ≤ 0 → (K 1 mr mo mf mt md)) ∧ (¬ v3 ≤ 0 → (((2 : Int32) ≤ (mt - mf) → ((¬ (v1 &&& v3) = 0 → (wp_X6_layPart_121 mx my mi mn v1 K L61 mr mo (mf + (((mt - mf) + 1) / 2)) mt md v3)) ∧ ((v1 &&& v3) = 0 → (wp_X6_layPart_121 mx my mi mn v1 K L61 mr mo mf (mf + (((mt - mf) + 1) / 2)) md v3)))) ∧ (¬ (2 : Int32) ≤ (mt - mf) → (K 0 mr mo mf mt md)))))
def wp_X6_layPart_61 (mx : Nat → Int32) (my : Nat → Int32) (mi : Nat → Int32) (mn : Int32) (v1 : Int32) (K : Int32 → (Nat → Int32) → (Nat → Int32) → Int32 → Int32 → Int32 → Prop)  (mr : Nat → Int32) (mo : Nat → Int32) : Nat → Int32 → Int32 → Int32 → Int32 → Prop
  | 0 => fun _ _ _ _ => False
  | k + 1 => fun mf mt md v3 => wp_X6_layPart_61b mx my mi mn v1 K (wp_X6_layPart_61 mx my mi mn v1 K  mr mo k)  mr mo mf mt md v3
def wp_X6_layPart_26b (mx : Nat → Int32) (my : Nat → Int32) (mi : Nat → Int32) (mn : Int32) (v1 : Int32) (K : Int32 → (Nat → Int32) → (Nat → Int32) → Int32 → Int32 → Int32 → Prop) (L26 : Int32 → Prop)  (mr : Nat → Int32) (mo : Nat → Int32) (mf : Int32) (mt : Int32) (md : Int32) (v2 : Int32) : Prop := ((¬ (v1 &&& v2) = 0 → (∃ k, wp_X6_layPart_61 mx my mi mn v1 K  mr mo k 0 mn 0 (v2 >>> (1 &&& 31)))) ∧ ((v1 &&& v2) = 0 → (L26 (v2 >>> (1 &&& 31)))))
def wp_X6_layPart_26 (mx : Nat → Int32) (my : Nat → Int32) (mi : Nat → Int32) (mn : Int32) (v1 : Int32) (K : Int32 → (Nat → Int32) → (Nat → Int32) → Int32 → Int32 → Int32 → Prop)  (mr : Nat → Int32) (mo : Nat → Int32) (mf : Int32) (mt : Int32) (md : Int32) : Nat → Int32 → Prop
  | 0 => fun _ => False
  | k + 1 => fun v2 => wp_X6_layPart_26b mx my mi mn v1 K (wp_X6_layPart_26 mx my mi mn v1 K  mr mo mf mt md k)  mr mo mf mt md v2
def wp_X6_layPart (mx : Nat → Int32) (my : Nat → Int32) (mi : Nat → Int32) (mn : Int32) (mr : Nat → Int32) (mo : Nat → Int32) (mf : Int32) (mt : Int32) (md : Int32) (v1 : Int32) (K : Int32 → (Nat → Int32) → (Nat → Int32) → Int32 → Int32 → Int32 → Prop) : Prop := (wp_X6_layRanks mx my mi mr mo (fun mr_1 mo_1 => (wp_X6_in v1 1 63 (fun r8 => ((r8 = 0 → (K 0 mr_1 mo_1 mf mt md)) ∧ (¬ r8 = 0 → ((¬ mn = 0 → (∃ k, wp_X6_layPart_26 mx my mi mn v1 K  mr_1 mo_1 mf mt md k 32)) ∧ (mn = 0 → (K 0 mr_1 mo_1 mf mt md)))))))))
/-- X6_cross -/
def wp_X6_cross (v0 : Int64) (v2 : Int64) (v4 : Int64) (v6 : Int64) (v8 : Int64) (v10 : Int64) (K : Int64 → Prop) : Prop := (K (((v4 - v0) * (v10 - v2)) - ((v6 - v2) * (v8 - v0))))
/-- X6_bend -/
def wp_X6_bend (mx : Nat → Int32) (my : Nat → Int32) (v1 : Int32) (v2 : Int32) (v3 : Int32) (K : Int64 → Prop) : Prop := (vp_in v1 32 ∧ (vp_in v1 32 ∧ (vp_in v2 32 ∧ (vp_in v2 32 ∧ (vp_in v3 32 ∧ (vp_in v3 32 ∧ (wp_X6_cross ((mx v1.toNatClampNeg).toInt64) ((my v1.toNatClampNeg).toInt64) ((mx v2.toNatClampNeg).toInt64) ((my v2.toNatClampNeg).toInt64) ((mx v3.toNatClampNeg).toInt64) ((my v3.toNatClampNeg).toInt64) (fun r42 => (K r42)))))))))
/-- X6_layChain -/
def wp_X6_layChain_203 (mx : Nat → Int32) (my : Nat → Int32) (mr : Nat → Int32) (mf : Int32) (mt : Int32) (v1 : Int32) (K : (Nat → Int32) → Int32 → Prop) (L10 : (Nat → Int32) → Int32 → Int32 → Prop)  (mc : Nat → Int32) (mk : Int32) (v2 : Int32) (v3 : Int32) : Prop := (vp_in mk 34 ∧ (L10 (upd mc mk.toNatClampNeg v3) (mk + 1) (v2 + 1)))
def wp_X6_layChain_111b (mx : Nat → Int32) (my : Nat → Int32) (mr : Nat → Int32) (mf : Int32) (mt : Int32) (v1 : Int32) (K : (Nat → Int32) → Int32 → Prop) (L10 : (Nat → Int32) → Int32 → Int32 → Prop) (L111 : Int32 → Prop)  (mc : Nat → Int32) (v2 : Int32) (v3 : Int32) (mk : Int32) : Prop := ((mk ≤ (1 : Int32) → (wp_X6_layChain_203 mx my mr mf mt v1 K L10  mc mk v2 v3)) ∧ (¬ mk ≤ (1 : Int32) → ((¬ v1 = 0 → (vp_in (mk - 2) 34 ∧ (vp_in (mk - 1) 34 ∧ (wp_X6_bend mx my (mc (mk - 2).toNatClampNeg) (mc (mk - 1).toNatClampNeg) v3 (fun r182 => (((0 : Int64) < r182 → (wp_X6_layChain_203 mx my mr mf mt v1 K L10  mc mk v2 v3)) ∧ (¬ (0 : Int64) < r182 → (L111 (mk - 1))))))))) ∧ (v1 = 0 → (vp_in (mk - 2) 34 ∧ (vp_in (mk - 1) 34 ∧ (wp_X6_bend mx my (mc (mk - 2).toNatClampNeg) (mc (mk - 1).toNatClampNeg) v3 (fun r147 => ((r147 < (0 : Int64) → (wp_X6_layChain_203 mx my mr mf mt v1 K L10  mc mk v2 v3)) ∧ (¬ r147 < (0 : Int64) → (L111 (mk - 1))))))))))))
def wp_X6_layChain_111 (mx : Nat → Int32) (my : Nat → Int32) (mr : Nat → Int32) (mf : Int32) (mt : Int32) (v1 : Int32) (K : (Nat → Int32) → Int32 → Prop) (L10 : (Nat → Int32) → Int32 → Int32 → Prop)  (mc : Nat → Int32) (v2 : Int32) (v3 : Int32) : Nat → Int32 → Prop
  | 0 => fun _ => False
  | k + 1 => fun mk => wp_X6_layChain_111b mx my mr mf mt v1 K L10 (wp_X6_layChain_111 mx my mr mf mt v1 K L10  mc v2 v3 k)  mc v2 v3 mk
def wp_X6_layChain_104 (mx : Nat → Int32) (my : Nat → Int32) (mr : Nat → Int32) (mf : Int32) (mt : Int32) (v1 : Int32) (K : (Nat → Int32) → Int32 → Prop) (L10 : (Nat → Int32) → Int32 → Int32 → Prop)  (mc : Nat → Int32) (mk : Int32) (v2 : Int32) (v3 : Int32) (s0 : Int32) : Prop := ((¬ s0 = 0 → (L10 mc mk (v2 + 1))) ∧ (s0 = 0 → (∃ k, wp_X6_layChain_111 mx my mr mf mt v1 K L10  mc v2 v3 k mk)))
def wp_X6_layChain_10b (mx : Nat → Int32) (my : Nat → Int32) (mr : Nat → Int32) (mf : Int32) (mt : Int32) (v1 : Int32) (K : (Nat → Int32) → Int32 → Prop) (L10 : (Nat → Int32) → Int32 → Int32 → Prop)   (mc : Nat → Int32) (mk : Int32) (v2 : Int32) : Prop := ((mt ≤ v2 → (K mc mk)) ∧ (¬ mt ≤ v2 → (vp_in v2 32 ∧ ((¬ v1 = 0 → ((v2 ≤ mf → (wp_X6_layChain_104 mx my mr mf mt v1 K L10  mc mk v2 (mr v2.toNatClampNeg) 0)) ∧ (¬ v2 ≤ mf → (vp_in (v2 - 1) 32 ∧ (vp_in (mr (v2 - 1).toNatClampNeg) 32 ∧ (vp_in (mr v2.toNatClampNeg) 32 ∧ ((¬ (mx (mr (v2 - 1).toNatClampNeg).toNatClampNeg) = (mx (mr v2.toNatClampNeg).toNatClampNeg) → (wp_X6_layChain_104 mx my mr mf mt v1 K L10  mc mk v2 (mr v2.toNatClampNeg) 0)) ∧ ((mx (mr (v2 - 1).toNatClampNeg).toNatClampNeg) = (mx (mr v2.toNatClampNeg).toNatClampNeg) → (wp_X6_layChain_104 mx my mr mf mt v1 K L10  mc mk v2 (mr v2.toNatClampNeg) 1))))))))) ∧ (v1 = 0 → ((mt ≤ (v2 + 1) → (wp_X6_layChain_104 mx my mr mf mt v1 K L10  mc mk v2 (mr v2.toNatClampNeg) 0)) ∧ (¬ mt ≤ (v2 + 1) → (vp_in (v2 + 1) 32 ∧ (vp_in (mr (v2 + 1).toNatClampNeg) 32 ∧ (vp_in (mr v2.toNatClampNeg) 32 ∧ ((¬ (mx (mr (v2 + 1).toNatClampNeg).toNatClampNeg) = (mx (mr v2.toNatClampNeg).toNatClampNeg) → (wp_X6_layChain_104 mx my mr mf mt v1 K L10  mc mk v2 (mr v2.toNatClampNeg) 0)) ∧ ((mx (mr (v2 + 1).toNatClampNeg).toNatClampNeg) = (mx (mr v2.toNatClampNeg).toNatClampNeg) → (wp_X6_layChain_104 mx my mr mf mt v1 K L10  mc mk v2 (mr v2.toNatClampNeg) 1)))))))))))))
def wp_X6_layChain_10 (mx : Nat → Int32) (my : Nat → Int32) (mr : Nat → Int32) (mf : Int32) (mt : Int32) (v1 : Int32) (K : (Nat → Int32) → Int32 → Prop)   : Nat → (Nat → Int32) → Int32 → Int32 → Prop
  | 0 => fun _ _ _ => False
  | k + 1 => fun mc mk v2 => wp_X6_layChain_10b mx my mr mf mt v1 K (wp_X6_layChain_10 mx my mr mf mt v1 K   k)   mc mk v2
def wp_X6_layChain (mx : Nat → Int32) (my : Nat → Int32) (mr : Nat → Int32) (mf : Int32) (mt : Int32) (mc : Nat → Int32) (mk : Int32) (v1 : Int32) (K : (Nat → Int32) → Int32 → Prop) : Prop := (∃ k, wp_X6_layChain_10 mx my mr mf mt v1 K   k mc 0 mf)
/-- X6_cornerSet -/
def wp_X6_cornerSet_4b (mc : Nat → Int32) (mk : Int32) (K : Int64 → Prop) (L4 : Int64 → Int32 → Prop)   (v1 : Int64) (v3 : Int32) : Prop := ((mk ≤ v3 → (K v1)) ∧ (¬ mk ≤ v3 → (vp_in v3 34 ∧ (L4 (v1 ||| ((1 : Int64) <<< ((mc v3.toNatClampNeg).toInt64 &&& 63))) (v3 + 1)))))
def wp_X6_cornerSet_4 (mc : Nat → Int32) (mk : Int32) (K : Int64 → Prop)   : Nat → Int64 → Int32 → Prop
  | 0 => fun _ _ => False
  | k + 1 => fun v1 v3 => wp_X6_cornerSet_4b mc mk K (wp_X6_cornerSet_4 mc mk K   k)   v1 v3
def wp_X6_cornerSet (mc : Nat → Int32) (mk : Int32) (K : Int64 → Prop) : Prop := (∃ k, wp_X6_cornerSet_4 mc mk K   k 0 0)
/-- X6_chainSet -/
def wp_X6_chainSet (mx : Nat → Int32) (my : Nat → Int32) (mi : Nat → Int32) (mn : Int32) (mr : Nat → Int32) (mo : Nat → Int32) (mf : Int32) (mt : Int32) (md : Int32) (mc : Nat → Int32) (mk : Int32) (v1 : Int32) (v2 : Int32) (K : Int64 → (Nat → Int32) → (Nat → Int32) → Int32 → Int32 → Int32 → (Nat → Int32) → Int32 → Prop) : Prop := (wp_X6_layPart mx my mi mn mr mo mf mt md v1 (fun r2 mr_2 mo_2 mf_2 mt_2 md_2 => ((¬ r2 = 0 → (wp_X6_layChain mx my mr_2 mf_2 mt_2 mc mk v2 (fun mc_12 mk_12 => (wp_X6_cornerSet mc_12 mk_12 (fun r16 => (K r16 mr_2 mo_2 mf_2 mt_2 md_2 mc_12 mk_12)))))) ∧ (r2 = 0 → (K 0 mr_2 mo_2 mf_2 mt_2 md_2 mc mk)))))
/-- X6_bits -/
def wp_X6_bits_4b (v0 : Int64) (K : Int32 → Prop) (L4 : Int32 → Int32 → Prop)   (v2 : Int32) (v3 : Int32) : Prop := (((32 : Int32) ≤ v3 → (K v2)) ∧ (¬ (32 : Int32) ≤ v3 → (L4 (v2 + ((v0 >>> (v3.toInt64 &&& 63)) &&& 1).toInt32) (v3 + 1))))
def wp_X6_bits_4 (v0 : Int64) (K : Int32 → Prop)   : Nat → Int32 → Int32 → Prop
  | 0 => fun _ _ => False
  | k + 1 => fun v2 v3 => wp_X6_bits_4b v0 K (wp_X6_bits_4 v0 K   k)   v2 v3
def wp_X6_bits (v0 : Int64) (K : Int32 → Prop) : Prop := (∃ k, wp_X6_bits_4 v0 K   k 0 0)
/-- X6_restOf -/
def wp_X6_restOf (mx : Nat → Int32) (my : Nat → Int32) (mi : Nat → Int32) (mn : Int32) (mr : Nat → Int32) (mo : Nat → Int32) (mf : Int32) (mt : Int32) (md : Int32) (mc : Nat → Int32) (mk : Int32) (v1 : Int32) (v2 : Int32) (K : Int32 → (Nat → Int32) → (Nat → Int32) → Int32 → Int32 → Int32 → (Nat → Int32) → Int32 → Prop) : Prop := ((¬ v1 = (1 : Int32) → (wp_X6_chainSet mx my mi mn mr mo mf mt md mc mk v1 v2 (fun r13 mr_13 mo_13 mf_13 mt_13 md_13 mc_13 mk_13 => (wp_X6_chainSet mx my mi mn mr_13 mo_13 mf_13 mt_13 md_13 mc_13 mk_13 (v1 / 2) v2 (fun r21 mr_21 mo_21 mf_21 mt_21 md_21 mc_21 mk_21 => (wp_X6_bits (r13 &&& (r21 ^^^ (-1))) (fun r29 => (K r29 mr_21 mo_21 mf_21 mt_21 md_21 mc_21 mk_21)))))))) ∧ (v1 = (1 : Int32) → (K (-6) mr mo mf mt md mc mk)))
/-- X6_topOf -/
def wp_X6_topOf_7b (mx : Nat → Int32) (my : Nat → Int32) (mi : Nat → Int32) (mn : Int32) (v1 : Int32) (v2 : Int32) (K : Int32 → (Nat → Int32) → (Nat → Int32) → Int32 → Int32 → Int32 → (Nat → Int32) → Int32 → Prop) (L7 : (Nat → Int32) → (Nat → Int32) → Int32 → Int32 → Int32 → (Nat → Int32) → Int32 → Int32 → Int32 → Prop)   (mr : Nat → Int32) (mo : Nat → Int32) (mf : Int32) (mt : Int32) (md : Int32) (mc : Nat → Int32) (mk : Int32) (v3 : Int32) (v4 : Int32) : Prop := ((v4 ≤ 0 → (K v3 mr mo mf mt md mc mk)) ∧ (¬ v4 ≤ 0 → (wp_X6_chainSet mx my mi mn mr mo mf mt md mc mk v4 v2 (fun r16 mr_16 mo_16 mf_16 mt_16 md_16 mc_16 mk_16 => ((¬ ((r16 >>> (v1.toInt64 &&& 63)) &&& 1) = (1 : Int64) → (L7 mr_16 mo_16 mf_16 mt_16 md_16 mc_16 mk_16 v3 (v4 + (-1)))) ∧ (((r16 >>> (v1.toInt64 &&& 63)) &&& 1) = (1 : Int64) → ((v3 < 0 → (L7 mr_16 mo_16 mf_16 mt_16 md_16 mc_16 mk_16 md_16 (v4 + (-1)))) ∧ (¬ v3 < 0 → ((v3 ≤ md_16 → (L7 mr_16 mo_16 mf_16 mt_16 md_16 mc_16 mk_16 v3 (v4 + (-1)))) ∧ (¬ v3 ≤ md_16 → (L7 mr_16 mo_16 mf_16 mt_16 md_16 mc_16 mk_16 md_16 (v4 + (-1)))))))))))))
def wp_X6_topOf_7 (mx : Nat → Int32) (my : Nat → Int32) (mi : Nat → Int32) (mn : Int32) (v1 : Int32) (v2 : Int32) (K : Int32 → (Nat → Int32) → (Nat → Int32) → Int32 → Int32 → Int32 → (Nat → Int32) → Int32 → Prop)   : Nat → (Nat → Int32) → (Nat → Int32) → Int32 → Int32 → Int32 → (Nat → Int32) → Int32 → Int32 → Int32 → Prop
  | 0 => fun _ _ _ _ _ _ _ _ _ => False
  | k + 1 => fun mr mo mf mt md mc mk v3 v4 => wp_X6_topOf_7b mx my mi mn v1 v2 K (wp_X6_topOf_7 mx my mi mn v1 v2 K   k)   mr mo mf mt md mc mk v3 v4
def wp_X6_topOf (mx : Nat → Int32) (my : Nat → Int32) (mi : Nat → Int32) (mn : Int32) (mr : Nat → Int32) (mo : Nat → Int32) (mf : Int32) (mt : Int32) (md : Int32) (mc : Nat → Int32) (mk : Int32) (v1 : Int32) (v2 : Int32) (K : Int32 → (Nat → Int32) → (Nat → Int32) → Int32 → Int32 → Int32 → (Nat → Int32) → Int32 → Prop) : Prop := (∃ k, wp_X6_topOf_7 mx my mi mn v1 v2 K   k mr mo mf mt md mc mk (-6) 63)
/-- X6_point -/
def wp_X6_point (mx : Nat → Int32) (my : Nat → Int32) (mi : Nat → Int32) (mn : Int32) (mr : Nat → Int32) (mo : Nat → Int32) (mf : Int32) (mt : Int32) (md : Int32) (mc : Nat → Int32) (mk : Int32) (v1 : Int32) (v2 : Int32) (K : Int32 → (Nat → Int32) → (Nat → Int32) → Int32 → Int32 → Int32 → (Nat → Int32) → Int32 → Prop) : Prop := (wp_X6_isPoint mi v1 (fun r2 => ((¬ r2 = 0 → (wp_X6_layRanks mx my mi mr mo (fun mr_11 mo_11 => ((v2 = 0 → (vp_in v1 32 ∧ (K (mx v1.toNatClampNeg) mr_11 mo_11 mf mt md mc mk))) ∧ (¬ v2 = 0 → ((v2 = 1 → (vp_in v1 32 ∧ (K (my v1.toNatClampNeg) mr_11 mo_11 mf mt md mc mk))) ∧ (¬ v2 = 1 → ((v2 = 2 → (vp_in v1 32 ∧ (K (mo_11 v1.toNatClampNeg) mr_11 mo_11 mf mt md mc mk))) ∧ (¬ v2 = 2 → ((v2 = 3 → (wp_X6_topOf mx my mi mn mr_11 mo_11 mf mt md mc mk v1 0 (fun r72 mr_72 mo_72 mf_72 mt_72 md_72 mc_72 mk_72 => (K r72 mr_72 mo_72 mf_72 mt_72 md_72 mc_72 mk_72)))) ∧ (¬ v2 = 3 → ((v2 = 4 → (wp_X6_topOf mx my mi mn mr_11 mo_11 mf mt md mc mk v1 1 (fun r79 mr_79 mo_79 mf_79 mt_79 md_79 mc_79 mk_79 => (K r79 mr_79 mo_79 mf_79 mt_79 md_79 mc_79 mk_79)))) ∧ (¬ v2 = 4 → (K (-2) mr_11 mo_11 mf mt md mc mk)))))))))))))) ∧ (r2 = 0 → (K (-1) mr mo mf mt md mc mk)))))
/-- X6_ranked -/
def wp_X6_ranked (mx : Nat → Int32) (my : Nat → Int32) (mi : Nat → Int32) (mn : Int32) (mr : Nat → Int32) (mo : Nat → Int32) (v1 : Int32) (K : Int32 → (Nat → Int32) → (Nat → Int32) → Prop) : Prop := (wp_X6_layRanks mx my mi mr mo (fun mr_1 mo_1 => (wp_X6_in v1 0 (mn - 1) (fun r12 => ((r12 = 0 → (K (-6) mr_1 mo_1)) ∧ (¬ r12 = 0 → (vp_in v1 32 ∧ (K (mr_1 v1.toNatClampNeg) mr_1 mo_1))))))))
/-- X6_part -/
def wp_X6_part (mx : Nat → Int32) (my : Nat → Int32) (mi : Nat → Int32) (mn : Int32) (mr : Nat → Int32) (mo : Nat → Int32) (mf : Int32) (mt : Int32) (md : Int32) (mc : Nat → Int32) (mk : Int32) (v1 : Int32) (v2 : Int32) (K : Int32 → (Nat → Int32) → (Nat → Int32) → Int32 → Int32 → Int32 → (Nat → Int32) → Int32 → Prop) : Prop := (wp_X6_layPart mx my mi mn mr mo mf mt md v1 (fun r2 mr_2 mo_2 mf_2 mt_2 md_2 => ((¬ r2 = 0 → ((v2 = 0 → (K (mt_2 - mf_2) mr_2 mo_2 mf_2 mt_2 md_2 mc mk)) ∧ (¬ v2 = 0 → ((v2 = 1 → (K mf_2 mr_2 mo_2 mf_2 mt_2 md_2 mc mk)) ∧ (¬ v2 = 1 → ((v2 = 2 → (wp_X6_chainSet mx my mi mn mr_2 mo_2 mf_2 mt_2 md_2 mc mk v1 0 (fun r66 mr_66 mo_66 mf_66 mt_66 md_66 mc_66 mk_66 => (wp_X6_bits r66 (fun r69 => (K r69 mr_66 mo_66 mf_66 mt_66 md_66 mc_66 mk_66)))))) ∧ (¬ v2 = 2 → ((v2 = 3 → (wp_X6_chainSet mx my mi mn mr_2 mo_2 mf_2 mt_2 md_2 mc mk v1 1 (fun r76 mr_76 mo_76 mf_76 mt_76 md_76 mc_76 mk_76 => (wp_X6_bits r76 (fun r79 => (K r79 mr_76 mo_76 mf_76 mt_76 md_76 mc_76 mk_76)))))) ∧ (¬ v2 = 3 → ((v2 = 4 → (wp_X6_restOf mx my mi mn mr_2 mo_2 mf_2 mt_2 md_2 mc mk v1 0 (fun r86 mr_86 mo_86 mf_86 mt_86 md_86 mc_86 mk_86 => (K r86 mr_86 mo_86 mf_86 mt_86 md_86 mc_86 mk_86)))) ∧ (¬ v2 = 4 → ((v2 = 5 → (wp_X6_restOf mx my mi mn mr_2 mo_2 mf_2 mt_2 md_2 mc mk v1 1 (fun r93 mr_93 mo_93 mf_93 mt_93 md_93 mc_93 mk_93 => (K r93 mr_93 mo_93 mf_93 mt_93 md_93 mc_93 mk_93)))) ∧ (¬ v2 = 5 → (K (-2) mr_2 mo_2 mf_2 mt_2 md_2 mc mk)))))))))))))) ∧ (r2 = 0 → (K (-1) mr_2 mo_2 mf_2 mt_2 md_2 mc mk)))))
/-- X6_chain -/
def wp_X6_chain (mx : Nat → Int32) (my : Nat → Int32) (mi : Nat → Int32) (mn : Int32) (mr : Nat → Int32) (mo : Nat → Int32) (mf : Int32) (mt : Int32) (md : Int32) (mc : Nat → Int32) (mk : Int32) (v1 : Int32) (v2 : Int32) (v3 : Int32) (K : Int32 → (Nat → Int32) → (Nat → Int32) → Int32 → Int32 → Int32 → (Nat → Int32) → Int32 → Prop) : Prop := (wp_X6_layPart mx my mi mn mr mo mf mt md v1 (fun r2 mr_2 mo_2 mf_2 mt_2 md_2 => ((¬ r2 = 0 → (wp_X6_in v2 0 1 (fun r13 => ((¬ r13 = 0 → (wp_X6_layChain mx my mr_2 mf_2 mt_2 mc mk v2 (fun mc_24 mk_24 => (wp_X6_in v3 0 (mk_24 - 1) (fun r35 => ((r35 = 0 → (K (-6) mr_2 mo_2 mf_2 mt_2 md_2 mc_24 mk_24)) ∧ (¬ r35 = 0 → (vp_in v3 34 ∧ (K (mc_24 v3.toNatClampNeg) mr_2 mo_2 mf_2 mt_2 md_2 mc_24 mk_24))))))))) ∧ (r13 = 0 → (K (-2) mr_2 mo_2 mf_2 mt_2 md_2 mc mk)))))) ∧ (r2 = 0 → (K (-1) mr_2 mo_2 mf_2 mt_2 md_2 mc mk)))))
/-- X6_bridge -/
def wp_X6_bridge_110 (mx : Nat → Int32) (my : Nat → Int32) (mi : Nat → Int32) (mn : Int32) (v1 : Int32) (v2 : Int32) (v3 : Int32) (K : Int32 → (Nat → Int32) → (Nat → Int32) → Int32 → Int32 → Int32 → (Nat → Int32) → Int32 → Prop) (L79 : Int32 → Int32 → Prop) (mr : Nat → Int32) (mo : Nat → Int32) (mf : Int32) (mt : Int32) (md : Int32) (mc : Nat → Int32) (mk : Int32) (v4 : Int32) (v5 : Int32) (v6 : Int32) (s0 : Int32) : Prop := ((¬ v3 = 0 → ((¬ s0 = 0 → (L79 v5 (v6 + 1))) ∧ (s0 = 0 → ((0 ≤ v5 → (L79 v5 (v6 + 1))) ∧ (¬ 0 ≤ v5 → (vp_in v6 34 ∧ (L79 (mc v6.toNatClampNeg) (v6 + 1)))))))) ∧ (v3 = 0 → ((s0 = 0 → (L79 v5 (v6 + 1))) ∧ (¬ s0 = 0 → (vp_in v6 34 ∧ (L79 (mc v6.toNatClampNeg) (v6 + 1)))))))
def wp_X6_bridge_79b (mx : Nat → Int32) (my : Nat → Int32) (mi : Nat → Int32) (mn : Int32) (v1 : Int32) (v2 : Int32) (v3 : Int32) (K : Int32 → (Nat → Int32) → (Nat → Int32) → Int32 → Int32 → Int32 → (Nat → Int32) → Int32 → Prop) (L79 : Int32 → Int32 → Prop)  (mr : Nat → Int32) (mo : Nat → Int32) (mf : Int32) (mt : Int32) (md : Int32) (mc : Nat → Int32) (mk : Int32) (v4 : Int32) (v5 : Int32) (v6 : Int32) : Prop := ((mk ≤ v6 → (K v5 mr mo mf mt md mc mk)) ∧ (¬ mk ≤ v6 → (vp_in v6 34 ∧ (vp_in (mc v6.toNatClampNeg) 32 ∧ ((v4 ≤ (mo (mc v6.toNatClampNeg).toNatClampNeg) → (wp_X6_bridge_110 mx my mi mn v1 v2 v3 K L79 mr mo mf mt md mc mk v4 v5 v6 0)) ∧ (¬ v4 ≤ (mo (mc v6.toNatClampNeg).toNatClampNeg) → (wp_X6_bridge_110 mx my mi mn v1 v2 v3 K L79 mr mo mf mt md mc mk v4 v5 v6 1)))))))
def wp_X6_bridge_79 (mx : Nat → Int32) (my : Nat → Int32) (mi : Nat → Int32) (mn : Int32) (v1 : Int32) (v2 : Int32) (v3 : Int32) (K : Int32 → (Nat → Int32) → (Nat → Int32) → Int32 → Int32 → Int32 → (Nat → Int32) → Int32 → Prop)  (mr : Nat → Int32) (mo : Nat → Int32) (mf : Int32) (mt : Int32) (md : Int32) (mc : Nat → Int32) (mk : Int32) (v4 : Int32) : Nat → Int32 → Int32 → Prop
  | 0 => fun _ _ => False
  | k + 1 => fun v5 v6 => wp_X6_bridge_79b mx my mi mn v1 v2 v3 K (wp_X6_bridge_79 mx my mi mn v1 v2 v3 K  mr mo mf mt md mc mk v4 k)  mr mo mf mt md mc mk v4 v5 v6
def wp_X6_bridge (mx : Nat → Int32) (my : Nat → Int32) (mi : Nat → Int32) (mn : Int32) (mr : Nat → Int32) (mo : Nat → Int32) (mf : Int32) (mt : Int32) (md : Int32) (mc : Nat → Int32) (mk : Int32) (v1 : Int32) (v2 : Int32) (v3 : Int32) (K : Int32 → (Nat → Int32) → (Nat → Int32) → Int32 → Int32 → Int32 → (Nat → Int32) → Int32 → Prop) : Prop := (wp_X6_layPart mx my mi mn mr mo mf mt md v1 (fun r2 mr_2 mo_2 mf_2 mt_2 md_2 => ((¬ r2 = 0 → (((2 : Int32) ≤ (mt_2 - mf_2) → (wp_X6_in v2 0 1 (fun r29 => ((r29 = 0 → (K (-2) mr_2 mo_2 mf_2 mt_2 md_2 mc mk)) ∧ (¬ r29 = 0 → (wp_X6_in v3 0 1 (fun r38 => ((¬ r38 = 0 → (wp_X6_layChain mx my mr_2 mf_2 mt_2 mc mk v2 (fun mc_49 mk_49 => (∃ k, wp_X6_bridge_79 mx my mi mn v1 v2 v3 K  mr_2 mo_2 mf_2 mt_2 md_2 mc_49 mk_49 (mf_2 + (((mt_2 - mf_2) + 1) / 2)) k (-6) 0)))) ∧ (r38 = 0 → (K (-2) mr_2 mo_2 mf_2 mt_2 md_2 mc mk)))))))))) ∧ (¬ (2 : Int32) ≤ (mt_2 - mf_2) → (K (-5) mr_2 mo_2 mf_2 mt_2 md_2 mc mk)))) ∧ (r2 = 0 → (K (-1) mr_2 mo_2 mf_2 mt_2 md_2 mc mk)))))
/-- X6_ringUp -/
def wp_X6_ringUp_4b (v1 : Int32) (K : (Nat → Int32) → Int32 → Prop) (L4 : Int32 → Int32 → Prop)  (mg : Nat → Int32) (mh : Int32) (v2 : Int32) (v3 : Int32) : Prop := ((mh ≤ v3 → ((v2 = 0 → (K mg mh)) ∧ (¬ v2 = 0 → (vp_in mh 34 ∧ (K (upd mg mh.toNatClampNeg v1) (mh + 1)))))) ∧ (¬ mh ≤ v3 → ((v2 = 0 → (L4 0 (v3 + 1))) ∧ (¬ v2 = 0 → (vp_in v3 34 ∧ (((mg v3.toNatClampNeg) = v1 → (L4 0 (v3 + 1))) ∧ (¬ (mg v3.toNatClampNeg) = v1 → (L4 1 (v3 + 1)))))))))
def wp_X6_ringUp_4 (v1 : Int32) (K : (Nat → Int32) → Int32 → Prop)  (mg : Nat → Int32) (mh : Int32) : Nat → Int32 → Int32 → Prop
  | 0 => fun _ _ => False
  | k + 1 => fun v2 v3 => wp_X6_ringUp_4b v1 K (wp_X6_ringUp_4 v1 K  mg mh k)  mg mh v2 v3
def wp_X6_ringUp (mg : Nat → Int32) (mh : Int32) (v1 : Int32) (K : (Nat → Int32) → Int32 → Prop) : Prop := (∃ k, wp_X6_ringUp_4 v1 K  mg mh k 1 0)
/-- X6_layRound -/
def wp_X6_layRound_56b (mx : Nat → Int32) (my : Nat → Int32) (mi : Nat → Int32) (mn : Int32) (K : (Nat → Int32) → (Nat → Int32) → Int32 → Int32 → Int32 → (Nat → Int32) → Int32 → (Nat → Int32) → Int32 → Prop) (L56 : (Nat → Int32) → Int32 → Int32 → Prop)  (mr : Nat → Int32) (mo : Nat → Int32) (mf : Int32) (mt : Int32) (md : Int32) (mc : Nat → Int32) (mk : Int32) (mg : Nat → Int32) (mh : Int32) (v1 : Int32) : Prop := ((v1 < 0 → (K mr mo mf mt md mc mk mg mh)) ∧ (¬ v1 < 0 → (vp_in v1 34 ∧ (wp_X6_ringUp mg mh (mc v1.toNatClampNeg) (fun mg_67 mh_67 => (L56 mg_67 mh_67 (v1 + (-1))))))))
def wp_X6_layRound_56 (mx : Nat → Int32) (my : Nat → Int32) (mi : Nat → Int32) (mn : Int32) (K : (Nat → Int32) → (Nat → Int32) → Int32 → Int32 → Int32 → (Nat → Int32) → Int32 → (Nat → Int32) → Int32 → Prop)  (mr : Nat → Int32) (mo : Nat → Int32) (mf : Int32) (mt : Int32) (md : Int32) (mc : Nat → Int32) (mk : Int32) : Nat → (Nat → Int32) → Int32 → Int32 → Prop
  | 0 => fun _ _ _ => False
  | k + 1 => fun mg mh v1 => wp_X6_layRound_56b mx my mi mn K (wp_X6_layRound_56 mx my mi mn K  mr mo mf mt md mc mk k)  mr mo mf mt md mc mk mg mh v1
def wp_X6_layRound_20b (mx : Nat → Int32) (my : Nat → Int32) (mi : Nat → Int32) (mn : Int32) (K : (Nat → Int32) → (Nat → Int32) → Int32 → Int32 → Int32 → (Nat → Int32) → Int32 → (Nat → Int32) → Int32 → Prop) (L20 : (Nat → Int32) → Int32 → Int32 → Prop)  (mr : Nat → Int32) (mo : Nat → Int32) (mf : Int32) (mt : Int32) (md : Int32) (mc : Nat → Int32) (mk : Int32) (mg : Nat → Int32) (mh : Int32) (v1 : Int32) : Prop := ((mk ≤ v1 → (wp_X6_layChain mx my mr mf mt mc mk 0 (fun mc_46 mk_46 => (∃ k, wp_X6_layRound_56 mx my mi mn K  mr mo mf mt md mc_46 mk_46 k mg mh (mk_46 - 1))))) ∧ (¬ mk ≤ v1 → (vp_in v1 34 ∧ (wp_X6_ringUp mg mh (mc v1.toNatClampNeg) (fun mg_35 mh_35 => (L20 mg_35 mh_35 (v1 + 1)))))))
def wp_X6_layRound_20 (mx : Nat → Int32) (my : Nat → Int32) (mi : Nat → Int32) (mn : Int32) (K : (Nat → Int32) → (Nat → Int32) → Int32 → Int32 → Int32 → (Nat → Int32) → Int32 → (Nat → Int32) → Int32 → Prop)  (mr : Nat → Int32) (mo : Nat → Int32) (mf : Int32) (mt : Int32) (md : Int32) (mc : Nat → Int32) (mk : Int32) : Nat → (Nat → Int32) → Int32 → Int32 → Prop
  | 0 => fun _ _ _ => False
  | k + 1 => fun mg mh v1 => wp_X6_layRound_20b mx my mi mn K (wp_X6_layRound_20 mx my mi mn K  mr mo mf mt md mc mk k)  mr mo mf mt md mc mk mg mh v1
def wp_X6_layRound (mx : Nat → Int32) (my : Nat → Int32) (mi : Nat → Int32) (mn : Int32) (mr : Nat → Int32) (mo : Nat → Int32) (mf : Int32) (mt : Int32) (md : Int32) (mc : Nat → Int32) (mk : Int32) (mg : Nat → Int32) (mh : Int32) (K : (Nat → Int32) → (Nat → Int32) → Int32 → Int32 → Int32 → (Nat → Int32) → Int32 → (Nat → Int32) → Int32 → Prop) : Prop := (wp_X6_layPart mx my mi mn mr mo mf mt md 1 (fun r7 mr_7 mo_7 mf_7 mt_7 md_7 => ((r7 = 0 → (K mr_7 mo_7 mf_7 mt_7 md_7 mc mk mg 0)) ∧ (¬ r7 = 0 → (wp_X6_layChain mx my mr_7 mf_7 mt_7 mc mk 1 (fun mc_15 mk_15 => (∃ k, wp_X6_layRound_20 mx my mi mn K  mr_7 mo_7 mf_7 mt_7 md_7 mc_15 mk_15 k mg 0 0)))))))
/-- X6_round -/
def wp_X6_round (mx : Nat → Int32) (my : Nat → Int32) (mi : Nat → Int32) (mn : Int32) (mr : Nat → Int32) (mo : Nat → Int32) (mf : Int32) (mt : Int32) (md : Int32) (mc : Nat → Int32) (mk : Int32) (mg : Nat → Int32) (mh : Int32) (v1 : Int32) (K : Int32 → (Nat → Int32) → (Nat → Int32) → Int32 → Int32 → Int32 → (Nat → Int32) → Int32 → (Nat → Int32) → Int32 → Prop) : Prop := (wp_X6_layRound mx my mi mn mr mo mf mt md mc mk mg mh (fun mr_1 mo_1 mf_1 mt_1 md_1 mc_1 mk_1 mg_1 mh_1 => ((¬ v1 = ((-1) : Int32) → (wp_X6_in v1 0 (mh_1 - 1) (fun r24 => ((r24 = 0 → (K (-6) mr_1 mo_1 mf_1 mt_1 md_1 mc_1 mk_1 mg_1 mh_1)) ∧ (¬ r24 = 0 → (vp_in v1 34 ∧ (K (mg_1 v1.toNatClampNeg) mr_1 mo_1 mf_1 mt_1 md_1 mc_1 mk_1 mg_1 mh_1))))))) ∧ (v1 = ((-1) : Int32) → (K mh_1 mr_1 mo_1 mf_1 mt_1 md_1 mc_1 mk_1 mg_1 mh_1)))))
/-- X6_extreme -/
def wp_X6_extreme_43b (mx : Nat → Int32) (my : Nat → Int32) (mi : Nat → Int32) (mn : Int32) (v1 : Int32) (v2 : Int32) (K : Int32 → (Nat → Int32) → (Nat → Int32) → Int32 → Int32 → Int32 → (Nat → Int32) → Int32 → (Nat → Int32) → Int32 → Prop) (L43 : Int32 → Int32 → Prop)  (mr : Nat → Int32) (mo : Nat → Int32) (mf : Int32) (mt : Int32) (md : Int32) (mc : Nat → Int32) (mk : Int32) (mg : Nat → Int32) (mh : Int32) (v3 : Int32) (v4 : Int32) : Prop := ((mh ≤ v4 → (K v3 mr mo mf mt md mc mk mg mh)) ∧ (¬ mh ≤ v4 → (vp_in v4 34 ∧ (vp_in (mg v4.toNatClampNeg) 32 ∧ (vp_in v3 32 ∧ (vp_in (mg v4.toNatClampNeg) 32 ∧ (vp_in v3 32 ∧ (((0 : Int64) < ((v1.toInt64 * ((mx (mg v4.toNatClampNeg).toNatClampNeg).toInt64 - (mx v3.toNatClampNeg).toInt64)) + (v2.toInt64 * ((my (mg v4.toNatClampNeg).toNatClampNeg).toInt64 - (my v3.toNatClampNeg).toInt64))) → (L43 (mg v4.toNatClampNeg) (v4 + 1))) ∧ (¬ (0 : Int64) < ((v1.toInt64 * ((mx (mg v4.toNatClampNeg).toNatClampNeg).toInt64 - (mx v3.toNatClampNeg).toInt64)) + (v2.toInt64 * ((my (mg v4.toNatClampNeg).toNatClampNeg).toInt64 - (my v3.toNatClampNeg).toInt64))) → ((¬ ((v1.toInt64 * ((mx (mg v4.toNatClampNeg).toNatClampNeg).toInt64 - (mx v3.toNatClampNeg).toInt64)) + (v2.toInt64 * ((my (mg v4.toNatClampNeg).toNatClampNeg).toInt64 - (my v3.toNatClampNeg).toInt64))) = (0 : Int64) → (L43 v3 (v4 + 1))) ∧ (((v1.toInt64 * ((mx (mg v4.toNatClampNeg).toNatClampNeg).toInt64 - (mx v3.toNatClampNeg).toInt64)) + (v2.toInt64 * ((my (mg v4.toNatClampNeg).toNatClampNeg).toInt64 - (my v3.toNatClampNeg).toInt64))) = (0 : Int64) → (vp_in (mg v4.toNatClampNeg) 32 ∧ (vp_in v3 32 ∧ (((mo v3.toNatClampNeg) ≤ (mo (mg v4.toNatClampNeg).toNatClampNeg) → (L43 v3 (v4 + 1))) ∧ (¬ (mo v3.toNatClampNeg) ≤ (mo (mg v4.toNatClampNeg).toNatClampNeg) → (L43 (mg v4.toNatClampNeg) (v4 + 1)))))))))))))))))
def wp_X6_extreme_43 (mx : Nat → Int32) (my : Nat → Int32) (mi : Nat → Int32) (mn : Int32) (v1 : Int32) (v2 : Int32) (K : Int32 → (Nat → Int32) → (Nat → Int32) → Int32 → Int32 → Int32 → (Nat → Int32) → Int32 → (Nat → Int32) → Int32 → Prop)  (mr : Nat → Int32) (mo : Nat → Int32) (mf : Int32) (mt : Int32) (md : Int32) (mc : Nat → Int32) (mk : Int32) (mg : Nat → Int32) (mh : Int32) : Nat → Int32 → Int32 → Prop
  | 0 => fun _ _ => False
  | k + 1 => fun v3 v4 => wp_X6_extreme_43b mx my mi mn v1 v2 K (wp_X6_extreme_43 mx my mi mn v1 v2 K  mr mo mf mt md mc mk mg mh k)  mr mo mf mt md mc mk mg mh v3 v4
def wp_X6_extreme_29 (mx : Nat → Int32) (my : Nat → Int32) (mi : Nat → Int32) (mn : Int32) (v1 : Int32) (v2 : Int32) (K : Int32 → (Nat → Int32) → (Nat → Int32) → Int32 → Int32 → Int32 → (Nat → Int32) → Int32 → (Nat → Int32) → Int32 → Prop)  (mr : Nat → Int32) (mo : Nat → Int32) (mf : Int32) (mt : Int32) (md : Int32) (mc : Nat → Int32) (mk : Int32) (mg : Nat → Int32) (mh : Int32) : Prop := (wp_X6_layRound mx my mi mn mr mo mf mt md mc mk mg mh (fun mr_30 mo_30 mf_30 mt_30 md_30 mc_30 mk_30 mg_30 mh_30 => (vp_in 0 34 ∧ (∃ k, wp_X6_extreme_43 mx my mi mn v1 v2 K  mr_30 mo_30 mf_30 mt_30 md_30 mc_30 mk_30 mg_30 mh_30 k (mg_30 (0 : Int32).toNatClampNeg) 1))))
def wp_X6_extreme (mx : Nat → Int32) (my : Nat → Int32) (mi : Nat → Int32) (mn : Int32) (mr : Nat → Int32) (mo : Nat → Int32) (mf : Int32) (mt : Int32) (md : Int32) (mc : Nat → Int32) (mk : Int32) (mg : Nat → Int32) (mh : Int32) (v1 : Int32) (v2 : Int32) (K : Int32 → (Nat → Int32) → (Nat → Int32) → Int32 → Int32 → Int32 → (Nat → Int32) → Int32 → (Nat → Int32) → Int32 → Prop) : Prop := (wp_X6_isPlace v1 v2 (fun r2 => ((¬ r2 = 0 → ((mn = 0 → (K (-5) mr mo mf mt md mc mk mg mh)) ∧ (¬ mn = 0 → ((¬ v1 = 0 → (wp_X6_extreme_29 mx my mi mn v1 v2 K  mr mo mf mt md mc mk mg mh)) ∧ (v1 = 0 → ((¬ v2 = 0 → (wp_X6_extreme_29 mx my mi mn v1 v2 K  mr mo mf mt md mc mk mg mh)) ∧ (v2 = 0 → (K (-5) mr mo mf mt md mc mk mg mh)))))))) ∧ (r2 = 0 → (K (-2) mr mo mf mt md mc mk mg mh)))))
/-- X6_isBetween -/
def wp_X6_isBetween (v0 : Int32) (v1 : Int32) (v2 : Int32) (K : Int32 → Prop) : Prop := ((v2 ≤ v1 → (wp_X6_in v0 v2 v1 (fun r17 => (narrow .boolean (.int r17) = .int r17 ∧ K r17)))) ∧ (¬ v2 ≤ v1 → (wp_X6_in v0 v1 v2 (fun r8 => (narrow .boolean (.int r8) = .int r8 ∧ K r8)))))
/-- X6_whereOf -/
def wp_X6_whereOf_139 (mx : Nat → Int32) (my : Nat → Int32) (mi : Nat → Int32) (mn : Int32) (v1 : Int32) (v2 : Int32) (K : Int32 → (Nat → Int32) → (Nat → Int32) → Int32 → Int32 → Int32 → (Nat → Int32) → Int32 → (Nat → Int32) → Int32 → Prop) (L24 : Int32 → Int32 → Int32 → Prop) (mr : Nat → Int32) (mo : Nat → Int32) (mf : Int32) (mt : Int32) (md : Int32) (mc : Nat → Int32) (mk : Int32) (mg : Nat → Int32) (mh : Int32) (v4 : Int32) (v5 : Int32) (v6 : Int32) (v7 : Int32) (v8 : Int64) (s0 : Int32) : Prop := ((¬ v4 = 0 → (L24 s0 1 (v5 + 1))) ∧ (v4 = 0 → ((mh ≤ (1 : Int32) → (L24 s0 0 (v5 + 1))) ∧ (¬ mh ≤ (1 : Int32) → ((¬ v8 = (0 : Int64) → (L24 s0 0 (v5 + 1))) ∧ (v8 = (0 : Int64) → (vp_in v6 32 ∧ (vp_in v7 32 ∧ (wp_X6_isBetween v1 (mx v6.toNatClampNeg) (mx v7.toNatClampNeg) (fun r175 => ((r175 = 0 → (L24 s0 0 (v5 + 1))) ∧ (¬ r175 = 0 → (vp_in v6 32 ∧ (vp_in v7 32 ∧ (wp_X6_isBetween v2 (my v6.toNatClampNeg) (my v7.toNatClampNeg) (fun r196 => ((r196 = 0 → (L24 s0 0 (v5 + 1))) ∧ (¬ r196 = 0 → (L24 s0 1 (v5 + 1))))))))))))))))))))
def wp_X6_whereOf_82 (mx : Nat → Int32) (my : Nat → Int32) (mi : Nat → Int32) (mn : Int32) (v1 : Int32) (v2 : Int32) (K : Int32 → (Nat → Int32) → (Nat → Int32) → Int32 → Int32 → Int32 → (Nat → Int32) → Int32 → (Nat → Int32) → Int32 → Prop) (L24 : Int32 → Int32 → Int32 → Prop) (mr : Nat → Int32) (mo : Nat → Int32) (mf : Int32) (mt : Int32) (md : Int32) (mc : Nat → Int32) (mk : Int32) (mg : Nat → Int32) (mh : Int32) (v3 : Int32) (v4 : Int32) (v5 : Int32) (v6 : Int32) (v7 : Int32) : Prop := (vp_in v6 32 ∧ (vp_in v6 32 ∧ (vp_in v7 32 ∧ (vp_in v7 32 ∧ (wp_X6_cross ((mx v6.toNatClampNeg).toInt64) ((my v6.toNatClampNeg).toInt64) ((mx v7.toNatClampNeg).toInt64) ((my v7.toNatClampNeg).toInt64) v1.toInt64 v2.toInt64 (fun r118 => ((¬ v3 = 0 → (wp_X6_whereOf_139 mx my mi mn v1 v2 K L24 mr mo mf mt md mc mk mg mh v4 v5 v6 v7 r118 1)) ∧ (v3 = 0 → (((0 : Int64) ≤ r118 → (wp_X6_whereOf_139 mx my mi mn v1 v2 K L24 mr mo mf mt md mc mk mg mh v4 v5 v6 v7 r118 0)) ∧ (¬ (0 : Int64) ≤ r118 → (wp_X6_whereOf_139 mx my mi mn v1 v2 K L24 mr mo mf mt md mc mk mg mh v4 v5 v6 v7 r118 1)))))))))))
def wp_X6_whereOf_24b (mx : Nat → Int32) (my : Nat → Int32) (mi : Nat → Int32) (mn : Int32) (v1 : Int32) (v2 : Int32) (K : Int32 → (Nat → Int32) → (Nat → Int32) → Int32 → Int32 → Int32 → (Nat → Int32) → Int32 → (Nat → Int32) → Int32 → Prop) (L24 : Int32 → Int32 → Int32 → Prop)  (mr : Nat → Int32) (mo : Nat → Int32) (mf : Int32) (mt : Int32) (md : Int32) (mc : Nat → Int32) (mk : Int32) (mg : Nat → Int32) (mh : Int32) (v3 : Int32) (v4 : Int32) (v5 : Int32) : Prop := ((mh ≤ v5 → ((¬ mh = (2 : Int32) → ((v3 = 0 → ((v4 = 0 → (K 3 mr mo mf mt md mc mk mg mh)) ∧ (¬ v4 = 0 → (K 2 mr mo mf mt md mc mk mg mh)))) ∧ (¬ v3 = 0 → (K 0 mr mo mf mt md mc mk mg mh)))) ∧ (mh = (2 : Int32) → ((v4 = 0 → (K 0 mr mo mf mt md mc mk mg mh)) ∧ (¬ v4 = 0 → (K 2 mr mo mf mt md mc mk mg mh)))))) ∧ (¬ mh ≤ v5 → (vp_in v5 34 ∧ (¬ mh = 0 ∧ (vp_in ((v5 + 1) - ((v5 + 1) / mh) * mh) 34 ∧ (vp_in (mg v5.toNatClampNeg) 32 ∧ ((¬ (mx (mg v5.toNatClampNeg).toNatClampNeg) = v1 → (wp_X6_whereOf_82 mx my mi mn v1 v2 K L24 mr mo mf mt md mc mk mg mh v3 v4 v5 (mg v5.toNatClampNeg) (mg ((v5 + 1) - ((v5 + 1) / mh) * mh).toNatClampNeg))) ∧ ((mx (mg v5.toNatClampNeg).toNatClampNeg) = v1 → (vp_in (mg v5.toNatClampNeg) 32 ∧ ((¬ (my (mg v5.toNatClampNeg).toNatClampNeg) = v2 → (wp_X6_whereOf_82 mx my mi mn v1 v2 K L24 mr mo mf mt md mc mk mg mh v3 v4 v5 (mg v5.toNatClampNeg) (mg ((v5 + 1) - ((v5 + 1) / mh) * mh).toNatClampNeg))) ∧ ((my (mg v5.toNatClampNeg).toNatClampNeg) = v2 → (K 1 mr mo mf mt md mc mk mg mh))))))))))))
def wp_X6_whereOf_24 (mx : Nat → Int32) (my : Nat → Int32) (mi : Nat → Int32) (mn : Int32) (v1 : Int32) (v2 : Int32) (K : Int32 → (Nat → Int32) → (Nat → Int32) → Int32 → Int32 → Int32 → (Nat → Int32) → Int32 → (Nat → Int32) → Int32 → Prop)  (mr : Nat → Int32) (mo : Nat → Int32) (mf : Int32) (mt : Int32) (md : Int32) (mc : Nat → Int32) (mk : Int32) (mg : Nat → Int32) (mh : Int32) : Nat → Int32 → Int32 → Int32 → Prop
  | 0 => fun _ _ _ => False
  | k + 1 => fun v3 v4 v5 => wp_X6_whereOf_24b mx my mi mn v1 v2 K (wp_X6_whereOf_24 mx my mi mn v1 v2 K  mr mo mf mt md mc mk mg mh k)  mr mo mf mt md mc mk mg mh v3 v4 v5
def wp_X6_whereOf (mx : Nat → Int32) (my : Nat → Int32) (mi : Nat → Int32) (mn : Int32) (mr : Nat → Int32) (mo : Nat → Int32) (mf : Int32) (mt : Int32) (md : Int32) (mc : Nat → Int32) (mk : Int32) (mg : Nat → Int32) (mh : Int32) (v1 : Int32) (v2 : Int32) (K : Int32 → (Nat → Int32) → (Nat → Int32) → Int32 → Int32 → Int32 → (Nat → Int32) → Int32 → (Nat → Int32) → Int32 → Prop) : Prop := (wp_X6_layRound mx my mi mn mr mo mf mt md mc mk mg mh (fun mr_1 mo_1 mf_1 mt_1 md_1 mc_1 mk_1 mg_1 mh_1 => (((2 : Int32) ≤ mh_1 → (∃ k, wp_X6_whereOf_24 mx my mi mn v1 v2 K  mr_1 mo_1 mf_1 mt_1 md_1 mc_1 mk_1 mg_1 mh_1 k 0 0 0)) ∧ (¬ (2 : Int32) ≤ mh_1 → (∃ k, wp_X6_whereOf_24 mx my mi mn v1 v2 K  mr_1 mo_1 mf_1 mt_1 md_1 mc_1 mk_1 mg_1 mh_1 k 1 0 0)))))
/-- X6_where -/
def wp_X6_where (mx : Nat → Int32) (my : Nat → Int32) (mi : Nat → Int32) (mn : Int32) (mr : Nat → Int32) (mo : Nat → Int32) (mf : Int32) (mt : Int32) (md : Int32) (mc : Nat → Int32) (mk : Int32) (mg : Nat → Int32) (mh : Int32) (v1 : Int32) (v2 : Int32) (K : Int32 → (Nat → Int32) → (Nat → Int32) → Int32 → Int32 → Int32 → (Nat → Int32) → Int32 → (Nat → Int32) → Int32 → Prop) : Prop := (wp_X6_isPlace v1 v2 (fun r2 => ((r2 = 0 → (K (-2) mr mo mf mt md mc mk mg mh)) ∧ (¬ r2 = 0 → (wp_X6_whereOf mx my mi mn mr mo mf mt md mc mk mg mh v1 v2 (fun r11 mr_11 mo_11 mf_11 mt_11 md_11 mc_11 mk_11 mg_11 mh_11 => (K r11 mr_11 mo_11 mf_11 mt_11 md_11 mc_11 mk_11 mg_11 mh_11)))))))
/-- X6_square -/
def wp_X6_square (mx : Nat → Int32) (my : Nat → Int32) (v1 : Int32) (v2 : Int32) (v3 : Int32) (K : Int64 → Prop) : Prop := (vp_in v1 32 ∧ (vp_in v1 32 ∧ (K ((((mx v1.toNatClampNeg).toInt64 - v2.toInt64) * ((mx v1.toNatClampNeg).toInt64 - v2.toInt64)) + (((my v1.toNatClampNeg).toInt64 - v3.toInt64) * ((my v1.toNatClampNeg).toInt64 - v3.toInt64))))))
/-- X6_touch -/
def wp_X6_touch_73b (mx : Nat → Int32) (my : Nat → Int32) (mi : Nat → Int32) (mn : Int32) (v1 : Int32) (v2 : Int32) (v3 : Int32) (K : Int32 → (Nat → Int32) → (Nat → Int32) → Int32 → Int32 → Int32 → (Nat → Int32) → Int32 → (Nat → Int32) → Int32 → Prop) (L49 : Int32 → Int32 → Prop) (L73 : Int32 → Int32 → Prop) (mr : Nat → Int32) (mo : Nat → Int32) (mf : Int32) (mt : Int32) (md : Int32) (mc : Nat → Int32) (mk : Int32) (mg : Nat → Int32) (mh : Int32) (v4 : Int32) (v5 : Int32) (v6 : Int32) (v7 : Int32) (v8 : Int32) : Prop := ((mh ≤ v8 → ((v7 = 0 → (L49 v4 (v5 + 1))) ∧ (¬ v7 = 0 → ((v4 < 0 → (L49 v6 (v5 + 1))) ∧ (¬ v4 < 0 → (wp_X6_square mx my v6 v1 v2 (fun r187 => (wp_X6_square mx my v4 v1 v2 (fun r195 => ((r195 ≤ r187 → (L49 v4 (v5 + 1))) ∧ (¬ r195 ≤ r187 → (L49 v6 (v5 + 1))))))))))))) ∧ (¬ mh ≤ v8 → (vp_in v6 32 ∧ (vp_in v6 32 ∧ (vp_in v8 34 ∧ (vp_in (mg v8.toNatClampNeg) 32 ∧ (vp_in v8 34 ∧ (vp_in (mg v8.toNatClampNeg) 32 ∧ (wp_X6_cross v1.toInt64 v2.toInt64 ((mx v6.toNatClampNeg).toInt64) ((my v6.toNatClampNeg).toInt64) ((mx (mg v8.toNatClampNeg).toNatClampNeg).toInt64) ((my (mg v8.toNatClampNeg).toNatClampNeg).toInt64) (fun r128 => ((v7 = 0 → (L73 0 (v8 + 1))) ∧ (¬ v7 = 0 → ((¬ v3 = 0 → (((0 : Int64) < r128 → (L73 0 (v8 + 1))) ∧ (¬ (0 : Int64) < r128 → (L73 1 (v8 + 1))))) ∧ (v3 = 0 → ((r128 < (0 : Int64) → (L73 0 (v8 + 1))) ∧ (¬ r128 < (0 : Int64) → (L73 1 (v8 + 1))))))))))))))))))
def wp_X6_touch_73 (mx : Nat → Int32) (my : Nat → Int32) (mi : Nat → Int32) (mn : Int32) (v1 : Int32) (v2 : Int32) (v3 : Int32) (K : Int32 → (Nat → Int32) → (Nat → Int32) → Int32 → Int32 → Int32 → (Nat → Int32) → Int32 → (Nat → Int32) → Int32 → Prop) (L49 : Int32 → Int32 → Prop) (mr : Nat → Int32) (mo : Nat → Int32) (mf : Int32) (mt : Int32) (md : Int32) (mc : Nat → Int32) (mk : Int32) (mg : Nat → Int32) (mh : Int32) (v4 : Int32) (v5 : Int32) (v6 : Int32) : Nat → Int32 → Int32 → Prop
  | 0 => fun _ _ => False
  | k + 1 => fun v7 v8 => wp_X6_touch_73b mx my mi mn v1 v2 v3 K L49 (wp_X6_touch_73 mx my mi mn v1 v2 v3 K L49 mr mo mf mt md mc mk mg mh v4 v5 v6 k) mr mo mf mt md mc mk mg mh v4 v5 v6 v7 v8
def wp_X6_touch_49b (mx : Nat → Int32) (my : Nat → Int32) (mi : Nat → Int32) (mn : Int32) (v1 : Int32) (v2 : Int32) (v3 : Int32) (K : Int32 → (Nat → Int32) → (Nat → Int32) → Int32 → Int32 → Int32 → (Nat → Int32) → Int32 → (Nat → Int32) → Int32 → Prop) (L49 : Int32 → Int32 → Prop)  (mr : Nat → Int32) (mo : Nat → Int32) (mf : Int32) (mt : Int32) (md : Int32) (mc : Nat → Int32) (mk : Int32) (mg : Nat → Int32) (mh : Int32) (v4 : Int32) (v5 : Int32) : Prop := ((mh ≤ v5 → (K v4 mr mo mf mt md mc mk mg mh)) ∧ (¬ mh ≤ v5 → (vp_in v5 34 ∧ (∃ k, wp_X6_touch_73 mx my mi mn v1 v2 v3 K L49 mr mo mf mt md mc mk mg mh v4 v5 (mg v5.toNatClampNeg) k 1 0))))
def wp_X6_touch_49 (mx : Nat → Int32) (my : Nat → Int32) (mi : Nat → Int32) (mn : Int32) (v1 : Int32) (v2 : Int32) (v3 : Int32) (K : Int32 → (Nat → Int32) → (Nat → Int32) → Int32 → Int32 → Int32 → (Nat → Int32) → Int32 → (Nat → Int32) → Int32 → Prop)  (mr : Nat → Int32) (mo : Nat → Int32) (mf : Int32) (mt : Int32) (md : Int32) (mc : Nat → Int32) (mk : Int32) (mg : Nat → Int32) (mh : Int32) : Nat → Int32 → Int32 → Prop
  | 0 => fun _ _ => False
  | k + 1 => fun v4 v5 => wp_X6_touch_49b mx my mi mn v1 v2 v3 K (wp_X6_touch_49 mx my mi mn v1 v2 v3 K  mr mo mf mt md mc mk mg mh k)  mr mo mf mt md mc mk mg mh v4 v5
def wp_X6_touch (mx : Nat → Int32) (my : Nat → Int32) (mi : Nat → Int32) (mn : Int32) (mr : Nat → Int32) (mo : Nat → Int32) (mf : Int32) (mt : Int32) (md : Int32) (mc : Nat → Int32) (mk : Int32) (mg : Nat → Int32) (mh : Int32) (v1 : Int32) (v2 : Int32) (v3 : Int32) (K : Int32 → (Nat → Int32) → (Nat → Int32) → Int32 → Int32 → Int32 → (Nat → Int32) → Int32 → (Nat → Int32) → Int32 → Prop) : Prop := (wp_X6_isPlace v1 v2 (fun r2 => ((r2 = 0 → (K (-2) mr mo mf mt md mc mk mg mh)) ∧ (¬ r2 = 0 → (wp_X6_in v3 0 1 (fun r11 => ((¬ r11 = 0 → ((¬ mn = 0 → (wp_X6_whereOf mx my mi mn mr mo mf mt md mc mk mg mh v1 v2 (fun r33 mr_33 mo_33 mf_33 mt_33 md_33 mc_33 mk_33 mg_33 mh_33 => ((r33 = 0 → (∃ k, wp_X6_touch_49 mx my mi mn v1 v2 v3 K  mr_33 mo_33 mf_33 mt_33 md_33 mc_33 mk_33 mg_33 mh_33 k (-6) 0)) ∧ (¬ r33 = 0 → (K (-3) mr_33 mo_33 mf_33 mt_33 md_33 mc_33 mk_33 mg_33 mh_33)))))) ∧ (mn = 0 → (K (-5) mr mo mf mt md mc mk mg mh)))) ∧ (r11 = 0 → (K (-2) mr mo mf mt md mc mk mg mh)))))))))
/-- X6_area -/
def wp_X6_area_8b (mx : Nat → Int32) (my : Nat → Int32) (mi : Nat → Int32) (mn : Int32) (K : Int64 → (Nat → Int32) → (Nat → Int32) → Int32 → Int32 → Int32 → (Nat → Int32) → Int32 → (Nat → Int32) → Int32 → Prop) (L8 : Int64 → Int32 → Prop)  (mr : Nat → Int32) (mo : Nat → Int32) (mf : Int32) (mt : Int32) (md : Int32) (mc : Nat → Int32) (mk : Int32) (mg : Nat → Int32) (mh : Int32) (v1 : Int64) (v3 : Int32) : Prop := ((mh ≤ (v3 + 1) → (K v1 mr mo mf mt md mc mk mg mh)) ∧ (¬ mh ≤ (v3 + 1) → (vp_in 0 34 ∧ (vp_in v3 34 ∧ (vp_in (v3 + 1) 34 ∧ (wp_X6_bend mx my (mg (0 : Int32).toNatClampNeg) (mg v3.toNatClampNeg) (mg (v3 + 1).toNatClampNeg) (fun r40 => (L8 (v1 + r40) (v3 + 1)))))))))
def wp_X6_area_8 (mx : Nat → Int32) (my : Nat → Int32) (mi : Nat → Int32) (mn : Int32) (K : Int64 → (Nat → Int32) → (Nat → Int32) → Int32 → Int32 → Int32 → (Nat → Int32) → Int32 → (Nat → Int32) → Int32 → Prop)  (mr : Nat → Int32) (mo : Nat → Int32) (mf : Int32) (mt : Int32) (md : Int32) (mc : Nat → Int32) (mk : Int32) (mg : Nat → Int32) (mh : Int32) : Nat → Int64 → Int32 → Prop
  | 0 => fun _ _ => False
  | k + 1 => fun v1 v3 => wp_X6_area_8b mx my mi mn K (wp_X6_area_8 mx my mi mn K  mr mo mf mt md mc mk mg mh k)  mr mo mf mt md mc mk mg mh v1 v3
def wp_X6_area (mx : Nat → Int32) (my : Nat → Int32) (mi : Nat → Int32) (mn : Int32) (mr : Nat → Int32) (mo : Nat → Int32) (mf : Int32) (mt : Int32) (md : Int32) (mc : Nat → Int32) (mk : Int32) (mg : Nat → Int32) (mh : Int32) (K : Int64 → (Nat → Int32) → (Nat → Int32) → Int32 → Int32 → Int32 → (Nat → Int32) → Int32 → (Nat → Int32) → Int32 → Prop) : Prop := (wp_X6_layRound mx my mi mn mr mo mf mt md mc mk mg mh (fun mr_1 mo_1 mf_1 mt_1 md_1 mc_1 mk_1 mg_1 mh_1 => (∃ k, wp_X6_area_8 mx my mi mn K  mr_1 mo_1 mf_1 mt_1 md_1 mc_1 mk_1 mg_1 mh_1 k 0 1)))
/-- X6_image -/
def wp_X6_image_21b (mx : Nat → Int32) (my : Nat → Int32) (mi : Nat → Int32) (v1 : Int32) (K : Int32 → (Nat → Int32) → (Nat → Int64) → (Nat → Int32) → Prop) (L21 : (Nat → Int32) → (Nat → Int64) → Int32 → Prop)  (mp : Nat → Int32) (me : Nat → Int32) (mS : Nat → Int64) (v2 : Int32) : Prop := (((32 : Int32) ≤ v2 → (vp_in v1 2 ∧ (K 1 me mS (upd mp v1.toNatClampNeg (vp_nar .boolean 1))))) ∧ (¬ (32 : Int32) ≤ v2 → (vp_in v2 32 ∧ (vp_in (((64 : Int32) * v1) + v2) 128 ∧ (vp_in v2 32 ∧ (vp_in ((((64 : Int32) * v1) + 32) + v2) 128 ∧ (vp_in v1 2 ∧ (vp_in v2 32 ∧ (((mi v2.toNatClampNeg) = 0 → (vp_in v1 2 ∧ (L21 (upd (upd me (((64 : Int32) * v1) + v2).toNatClampNeg (mx v2.toNatClampNeg)) ((((64 : Int32) * v1) + 32) + v2).toNatClampNeg (my v2.toNatClampNeg)) (vp_updL mS v1.toNatClampNeg ((mS v1.toNatClampNeg) ||| 0)) (v2 + 1)))) ∧ (¬ (mi v2.toNatClampNeg) = 0 → (vp_in v1 2 ∧ (L21 (upd (upd me (((64 : Int32) * v1) + v2).toNatClampNeg (mx v2.toNatClampNeg)) ((((64 : Int32) * v1) + 32) + v2).toNatClampNeg (my v2.toNatClampNeg)) (vp_updL mS v1.toNatClampNeg ((mS v1.toNatClampNeg) ||| ((1 : Int64) <<< (v2.toInt64 &&& 63)))) (v2 + 1)))))))))))))
def wp_X6_image_21 (mx : Nat → Int32) (my : Nat → Int32) (mi : Nat → Int32) (v1 : Int32) (K : Int32 → (Nat → Int32) → (Nat → Int64) → (Nat → Int32) → Prop)  (mp : Nat → Int32) : Nat → (Nat → Int32) → (Nat → Int64) → Int32 → Prop
  | 0 => fun _ _ _ => False
  | k + 1 => fun me mS v2 => wp_X6_image_21b mx my mi v1 K (wp_X6_image_21 mx my mi v1 K  mp k)  mp me mS v2
def wp_X6_image (mx : Nat → Int32) (my : Nat → Int32) (mi : Nat → Int32) (me : Nat → Int32) (mS : Nat → Int64) (mp : Nat → Int32) (v1 : Int32) (K : Int32 → (Nat → Int32) → (Nat → Int64) → (Nat → Int32) → Prop) : Prop := (wp_X6_in v1 0 1 (fun r3 => ((¬ r3 = 0 → (vp_in v1 2 ∧ (∃ k, wp_X6_image_21 mx my mi v1 K  mp k me (vp_updL mS v1.toNatClampNeg 0) 0))) ∧ (r3 = 0 → (K (-2) me mS mp)))))
/-- X6_restore -/
def wp_X6_restore_99 (me : Nat → Int32) (mS : Nat → Int64) (mp : Nat → Int32) (v1 : Int32) (K : Int32 → (Nat → Int32) → (Nat → Int32) → (Nat → Int32) → Int32 → Prop) (L31 : (Nat → Int32) → (Nat → Int32) → (Nat → Int32) → Int32 → Int32 → Prop)  (mx : Nat → Int32) (my : Nat → Int32) (mi : Nat → Int32) (mn : Int32) (v2 : Int32) (s1 : Int32) (s2 : Int32) : Prop := (vp_in s1 32 ∧ (vp_in v2 32 ∧ ((((upd mi s1.toNatClampNeg (vp_nar .boolean s2)) v2.toNatClampNeg) = 0 → (L31 mx my (upd mi s1.toNatClampNeg (vp_nar .boolean s2)) (mn + 0) (v2 + 1))) ∧ (¬ ((upd mi s1.toNatClampNeg (vp_nar .boolean s2)) v2.toNatClampNeg) = 0 → (L31 mx my (upd mi s1.toNatClampNeg (vp_nar .boolean s2)) (mn + 1) (v2 + 1))))))
def wp_X6_restore_31b (me : Nat → Int32) (mS : Nat → Int64) (mp : Nat → Int32) (v1 : Int32) (K : Int32 → (Nat → Int32) → (Nat → Int32) → (Nat → Int32) → Int32 → Prop) (L31 : (Nat → Int32) → (Nat → Int32) → (Nat → Int32) → Int32 → Int32 → Prop)   (mx : Nat → Int32) (my : Nat → Int32) (mi : Nat → Int32) (mn : Int32) (v2 : Int32) : Prop := (((32 : Int32) ≤ v2 → (K 1 mx my mi mn)) ∧ (¬ (32 : Int32) ≤ v2 → (vp_in (((64 : Int32) * v1) + v2) 128 ∧ (vp_in v2 32 ∧ (vp_in ((((64 : Int32) * v1) + 32) + v2) 128 ∧ (vp_in v2 32 ∧ (vp_in v1 2 ∧ ((¬ (((mS v1.toNatClampNeg) >>> (v2.toInt64 &&& 63)) &&& 1) = (1 : Int64) → (wp_X6_restore_99 me mS mp v1 K L31  (upd mx v2.toNatClampNeg (me (((64 : Int32) * v1) + v2).toNatClampNeg)) (upd my v2.toNatClampNeg (me ((((64 : Int32) * v1) + 32) + v2).toNatClampNeg)) mi mn v2 v2 0)) ∧ ((((mS v1.toNatClampNeg) >>> (v2.toInt64 &&& 63)) &&& 1) = (1 : Int64) → (wp_X6_restore_99 me mS mp v1 K L31  (upd mx v2.toNatClampNeg (me (((64 : Int32) * v1) + v2).toNatClampNeg)) (upd my v2.toNatClampNeg (me ((((64 : Int32) * v1) + 32) + v2).toNatClampNeg)) mi mn v2 v2 1))))))))))
def wp_X6_restore_31 (me : Nat → Int32) (mS : Nat → Int64) (mp : Nat → Int32) (v1 : Int32) (K : Int32 → (Nat → Int32) → (Nat → Int32) → (Nat → Int32) → Int32 → Prop)   : Nat → (Nat → Int32) → (Nat → Int32) → (Nat → Int32) → Int32 → Int32 → Prop
  | 0 => fun _ _ _ _ _ => False
  | k + 1 => fun mx my mi mn v2 => wp_X6_restore_31b me mS mp v1 K (wp_X6_restore_31 me mS mp v1 K   k)   mx my mi mn v2
def wp_X6_restore (mx : Nat → Int32) (my : Nat → Int32) (mi : Nat → Int32) (mn : Int32) (me : Nat → Int32) (mS : Nat → Int64) (mp : Nat → Int32) (v1 : Int32) (K : Int32 → (Nat → Int32) → (Nat → Int32) → (Nat → Int32) → Int32 → Prop) : Prop := (wp_X6_in v1 0 1 (fun r3 => ((¬ r3 = 0 → (vp_in v1 2 ∧ ((¬ (mp v1.toNatClampNeg) = 0 → (∃ k, wp_X6_restore_31 me mS mp v1 K   k mx my mi 0 0)) ∧ ((mp v1.toNatClampNeg) = 0 → (K (-3) mx my mi mn))))) ∧ (r3 = 0 → (K (-2) mx my mi mn)))))
/-- X6_told -/
def wp_X6_told_84 (mx : Nat → Int32) (my : Nat → Int32) (mi : Nat → Int32) (mn : Int32) (v1 : Int32) (K : Int32 → (Nat → Int32) → (Nat → Int32) → Int32 → Int32 → Int32 → (Nat → Int32) → Int32 → Prop) (L26 : (Nat → Int32) → (Nat → Int32) → Int32 → Int32 → Int32 → (Nat → Int32) → Int32 → Int32 → Int32 → Int32 → Int32 → Int32 → Prop) (L68 : (Nat → Int32) → (Nat → Int32) → Int32 → Int32 → Int32 → (Nat → Int32) → Int32 → Int32 → Int32 → Int32 → Prop) (v2 : Int32) (v5 : Int32) (v6 : Int32) (mr : Nat → Int32) (mo : Nat → Int32) (mf : Int32) (mt : Int32) (md : Int32) (mc : Nat → Int32) (mk : Int32) (v3 : Int32) (v4 : Int32) (v7 : Int32) : Prop := (wp_X6_chainSet mx my mi mn mr mo mf mt md mc mk v6 v7 (fun r90 mr_90 mo_90 mf_90 mt_90 md_90 mc_90 mk_90 => (wp_X6_bits r90 (fun r93 => ((v6 ≤ (1 : Int32) → (L68 mr_90 mo_90 mf_90 mt_90 md_90 mc_90 mk_90 (v3 + r93) (v4 + 0) (v7 + 1))) ∧ (¬ v6 ≤ (1 : Int32) → (wp_X6_restOf mx my mi mn mr_90 mo_90 mf_90 mt_90 md_90 mc_90 mk_90 v6 v7 (fun r111 mr_111 mo_111 mf_111 mt_111 md_111 mc_111 mk_111 => (L68 mr_111 mo_111 mf_111 mt_111 md_111 mc_111 mk_111 (v3 + r93) (v4 + r111) (v7 + 1))))))))))
def wp_X6_told_68b (mx : Nat → Int32) (my : Nat → Int32) (mi : Nat → Int32) (mn : Int32) (v1 : Int32) (K : Int32 → (Nat → Int32) → (Nat → Int32) → Int32 → Int32 → Int32 → (Nat → Int32) → Int32 → Prop) (L26 : (Nat → Int32) → (Nat → Int32) → Int32 → Int32 → Int32 → (Nat → Int32) → Int32 → Int32 → Int32 → Int32 → Int32 → Int32 → Prop) (L68 : (Nat → Int32) → (Nat → Int32) → Int32 → Int32 → Int32 → (Nat → Int32) → Int32 → Int32 → Int32 → Int32 → Prop)  (v2 : Int32) (v5 : Int32) (v6 : Int32) (mr : Nat → Int32) (mo : Nat → Int32) (mf : Int32) (mt : Int32) (md : Int32) (mc : Nat → Int32) (mk : Int32) (v3 : Int32) (v4 : Int32) (v7 : Int32) : Prop := (((2 : Int32) ≤ v7 → (L26 mr mo mf mt md mc mk v2 v3 v4 v5 (v6 + 1))) ∧ (¬ (2 : Int32) ≤ v7 → ((v1 = (2 : Int32) → (wp_X6_told_84 mx my mi mn v1 K L26 L68 v2 v5 v6 mr mo mf mt md mc mk v3 v4 v7)) ∧ (¬ v1 = (2 : Int32) → ((¬ v1 = (3 : Int32) → (L26 mr mo mf mt md mc mk v2 v3 v4 v5 (v6 + 1))) ∧ (v1 = (3 : Int32) → (wp_X6_told_84 mx my mi mn v1 K L26 L68 v2 v5 v6 mr mo mf mt md mc mk v3 v4 v7)))))))
def wp_X6_told_68 (mx : Nat → Int32) (my : Nat → Int32) (mi : Nat → Int32) (mn : Int32) (v1 : Int32) (K : Int32 → (Nat → Int32) → (Nat → Int32) → Int32 → Int32 → Int32 → (Nat → Int32) → Int32 → Prop) (L26 : (Nat → Int32) → (Nat → Int32) → Int32 → Int32 → Int32 → (Nat → Int32) → Int32 → Int32 → Int32 → Int32 → Int32 → Int32 → Prop)  (v2 : Int32) (v5 : Int32) (v6 : Int32) : Nat → (Nat → Int32) → (Nat → Int32) → Int32 → Int32 → Int32 → (Nat → Int32) → Int32 → Int32 → Int32 → Int32 → Prop
  | 0 => fun _ _ _ _ _ _ _ _ _ _ => False
  | k + 1 => fun mr mo mf mt md mc mk v3 v4 v7 => wp_X6_told_68b mx my mi mn v1 K L26 (wp_X6_told_68 mx my mi mn v1 K L26  v2 v5 v6 k)  v2 v5 v6 mr mo mf mt md mc mk v3 v4 v7
def wp_X6_told_26b (mx : Nat → Int32) (my : Nat → Int32) (mi : Nat → Int32) (mn : Int32) (v1 : Int32) (K : Int32 → (Nat → Int32) → (Nat → Int32) → Int32 → Int32 → Int32 → (Nat → Int32) → Int32 → Prop) (L26 : (Nat → Int32) → (Nat → Int32) → Int32 → Int32 → Int32 → (Nat → Int32) → Int32 → Int32 → Int32 → Int32 → Int32 → Int32 → Prop)   (mr : Nat → Int32) (mo : Nat → Int32) (mf : Int32) (mt : Int32) (md : Int32) (mc : Nat → Int32) (mk : Int32) (v2 : Int32) (v3 : Int32) (v4 : Int32) (v5 : Int32) (v6 : Int32) : Prop := (((64 : Int32) ≤ v6 → ((¬ v1 = 0 → ((¬ v1 = (1 : Int32) → ((¬ v1 = (2 : Int32) → ((¬ v1 = (3 : Int32) → (K v5 mr mo mf mt md mc mk)) ∧ (v1 = (3 : Int32) → (K v4 mr mo mf mt md mc mk)))) ∧ (v1 = (2 : Int32) → (K v3 mr mo mf mt md mc mk)))) ∧ (v1 = (1 : Int32) → (K v2 mr mo mf mt md mc mk)))) ∧ (v1 = 0 → (K mn mr mo mf mt md mc mk)))) ∧ (¬ (64 : Int32) ≤ v6 → (wp_X6_layPart mx my mi mn mr mo mf mt md v6 (fun r36 mr_36 mo_36 mf_36 mt_36 md_36 => ((r36 = 0 → (L26 mr_36 mo_36 mf_36 mt_36 md_36 mc mk v2 v3 v4 v5 (v6 + 1))) ∧ (¬ r36 = 0 → ((md_36 ≤ v5 → (∃ k, wp_X6_told_68 mx my mi mn v1 K L26  (v2 + 1) v5 v6 k mr_36 mo_36 mf_36 mt_36 md_36 mc mk v3 v4 0)) ∧ (¬ md_36 ≤ v5 → (∃ k, wp_X6_told_68 mx my mi mn v1 K L26  (v2 + 1) md_36 v6 k mr_36 mo_36 mf_36 mt_36 md_36 mc mk v3 v4 0)))))))))
def wp_X6_told_26 (mx : Nat → Int32) (my : Nat → Int32) (mi : Nat → Int32) (mn : Int32) (v1 : Int32) (K : Int32 → (Nat → Int32) → (Nat → Int32) → Int32 → Int32 → Int32 → (Nat → Int32) → Int32 → Prop)   : Nat → (Nat → Int32) → (Nat → Int32) → Int32 → Int32 → Int32 → (Nat → Int32) → Int32 → Int32 → Int32 → Int32 → Int32 → Int32 → Prop
  | 0 => fun _ _ _ _ _ _ _ _ _ _ _ _ => False
  | k + 1 => fun mr mo mf mt md mc mk v2 v3 v4 v5 v6 => wp_X6_told_26b mx my mi mn v1 K (wp_X6_told_26 mx my mi mn v1 K   k)   mr mo mf mt md mc mk v2 v3 v4 v5 v6
def wp_X6_told (mx : Nat → Int32) (my : Nat → Int32) (mi : Nat → Int32) (mn : Int32) (mr : Nat → Int32) (mo : Nat → Int32) (mf : Int32) (mt : Int32) (md : Int32) (mc : Nat → Int32) (mk : Int32) (v1 : Int32) (K : Int32 → (Nat → Int32) → (Nat → Int32) → Int32 → Int32 → Int32 → (Nat → Int32) → Int32 → Prop) : Prop := (wp_X6_in v1 0 4 (fun r3 => ((¬ r3 = 0 → (∃ k, wp_X6_told_26 mx my mi mn v1 K   k mr mo mf mt md mc mk 0 0 0 (-6) 1)) ∧ (r3 = 0 → (K (-2) mr mo mf mt md mc mk)))))
theorem hd_X6_in : yX6_in.cls = RX6 ∧ yX6_in.cls ≠ "java/lang/invoke/MethodHandle" ∧ yX6_in.cls ≠ "java/lang/invoke/VarHandle" ∧ (parseMethodDescriptor yX6_in.desc).map (fun d => d.parameters.length) = some 3 := by decide +kernel
set_option maxHeartbeats 8000000 in
set_option maxRecDepth 100000 in
theorem c_X6_in (l : Launch) (D : va_G) (cI cJ cZ cO : ClassId)   (v0 : Int32) (v1 : Int32) (v2 : Int32) (K : Int32 → Prop) (hw : wp_X6_in v0 v1 v2 K) : Ci l D (tys4 cI cJ cZ cO) yX6_in wsX6_in { frames := 0, cells := 0, slots := 0, locals := 0 } [.int v0, .int v1, .int v2] [] (fun (r : Int32) (_ : Unit) => K r) (fun _ => []) := by
  refine mt_i (cc := cX6_in) (maxL := 3) (rt := .boolean) (by decide) rfl (Nat.le_of_ble_eq_true rfl) ?_
  intro p e s m args below meth c Q A R ls hRf hRl hx hb hml hown hts hK hA hP hD hS hl ret
  have hown : s.vm.findClass RX6 = some m.cls := hown
  have hl : lv_has ls 3 [(0, .int v0), (1, .int v1), (2, .int v2)] := hl
  unfold wp_X6_in at hw
  refine lv_iload_n hx hb dX6_in_0 rfl (lv_at hl 0 rfl) ?_
  refine lv_iload_n hx hb dX6_in_1 rfl (lv_at hl 1 rfl) ?_
  obtain ⟨hwA, hwB⟩ := hw
  refine lv_icmp_lt (tgt := 14) hx hb dX6_in_2 (by decide) (fun cb => ?_) (fun cb => ?_)
  · have hw := hwA cb
    refine lv_iconst (v := 0) hx hb dX6_in_14 (by decide) ?_
    exact ret _ _ _ _ 0 () rfl hw hP hD hS dX6_in_15
  · have hw := hwB cb
    refine lv_iload_n hx hb dX6_in_5 rfl (lv_at hl 0 rfl) ?_
    refine lv_iload_n hx hb dX6_in_6 rfl (lv_at hl 2 rfl) ?_
    obtain ⟨hwA, hwB⟩ := hw
    refine lv_icmp_gt (tgt := 14) hx hb dX6_in_7 (by decide) (fun cb => ?_) (fun cb => ?_)
    · have hw := hwA cb
      refine lv_iconst (v := 0) hx hb dX6_in_14 (by decide) ?_
      exact ret _ _ _ _ 0 () rfl hw hP hD hS dX6_in_15
    · have hw := hwB cb
      refine lv_iconst (v := 1) hx hb dX6_in_10 (by decide) ?_
      refine lv_goto (tgt := 15) hx hb dX6_in_11 (by decide) ?_
      exact ret _ _ _ _ 1 () rfl hw hP hD hS dX6_in_15
theorem hd_X6_isPlace : yX6_isPlace.cls = RX6 ∧ yX6_isPlace.cls ≠ "java/lang/invoke/MethodHandle" ∧ yX6_isPlace.cls ≠ "java/lang/invoke/VarHandle" ∧ (parseMethodDescriptor yX6_isPlace.desc).map (fun d => d.parameters.length) = some 2 := by decide +kernel
set_option maxHeartbeats 8000000 in
set_option maxRecDepth 100000 in
theorem c_X6_isPlace (l : Launch) (D : va_G) (cI cJ cZ cO : ClassId)   (v0 : Int32) (v1 : Int32) (K : Int32 → Prop) (hw : wp_X6_isPlace v0 v1 K) : Ci l D (tys4 cI cJ cZ cO) yX6_isPlace wsX6_isPlace { frames := 1, cells := 0, slots := 0, locals := 22 } [.int v0, .int v1] [] (fun (r : Int32) (_ : Unit) => K r) (fun _ => []) := by
  refine mt_i (cc := cX6_isPlace) (maxL := 2) (rt := .boolean) (by decide) rfl (Nat.le_of_ble_eq_true rfl) ?_
  intro p e s m args below meth c Q A R ls hRf hRl hx hb hml hown hts hK hA hP hD hS hl ret
  have hown : s.vm.findClass RX6 = some m.cls := hown
  have hl : lv_has ls 2 [(0, .int v0), (1, .int v1)] := hl
  unfold wp_X6_isPlace at hw
  refine lv_iload_n hx hb dX6_isPlace_0 rfl (lv_at hl 0 rfl) ?_
  refine lv_ldc (own := RX6) (v := (-1000000000)) hx hb hown (hts (.constant RX6 42 (-1000000000)) (List.mem_of_getElem? (i := 1) rfl)) dX6_isPlace_1 ?_
  refine lv_ldc (own := RX6) (v := 1000000000) hx hb hown (hts (.constant RX6 43 (1000000000)) (List.mem_of_getElem? (i := 2) rfl)) dX6_isPlace_3 ?_
  refine cl_Si (As := [.int v0, .int (-1000000000), .int 1000000000]) (rest := []) ⟨hx, hb, hml, hown, hts⟩ (c_X6_in l D cI cJ cZ cO   v0 (-1000000000) 1000000000 _ hw) (va_cwS 3 hts gX6_isPlace_X6_in rfl rfl rfl hd_X6_in.2 ⟨Nat.le_trans (Nat.le_of_ble_eq_true rfl) hRf, Nat.le_trans (Nat.le_of_ble_eq_true rfl) hRl⟩) hK hP hD hS hA [] [] rfl (by decide) rfl (by decide) (by decide) rfl hl.1 rfl (Nat.le_of_ble_eq_true rfl) dX6_isPlace_5 ⟨Nat.zero_le _, Nat.zero_le _⟩ (fun r5 _u H locs hw hP hD hS => ?_)
  try dsimp only at hw
  have hP : va_P D vwCl [] H := hP.sub [] rfl
  have hD : va_D A [] := hD.sub [] (by decide) rfl
  obtain ⟨hwA, hwB⟩ := hw
  refine lv_if_eq (tgt := 26) hx hb dX6_isPlace_8 (by decide) (fun cb => ?_) (fun cb => ?_)
  · have hw := hwA cb
    refine lv_iconst (v := 0) hx hb dX6_isPlace_26 (by decide) ?_
    exact ret _ _ _ _ 0 () rfl hw hP hD hS dX6_isPlace_27
  · have hw := hwB cb
    refine lv_iload_n hx hb dX6_isPlace_11 rfl (lv_at hl 1 rfl) ?_
    refine lv_ldc (own := RX6) (v := (-1000000000)) hx hb hown (hts (.constant RX6 42 (-1000000000)) (List.mem_of_getElem? (i := 1) rfl)) dX6_isPlace_12 ?_
    refine lv_ldc (own := RX6) (v := 1000000000) hx hb hown (hts (.constant RX6 43 (1000000000)) (List.mem_of_getElem? (i := 2) rfl)) dX6_isPlace_14 ?_
    refine cl_Si (As := [.int v1, .int (-1000000000), .int 1000000000]) (rest := []) ⟨hx, hb, hml, hown, hts⟩ (c_X6_in l D cI cJ cZ cO   v1 (-1000000000) 1000000000 _ hw) (va_cwS 3 hts gX6_isPlace_X6_in rfl rfl rfl hd_X6_in.2 ⟨Nat.le_trans (Nat.le_of_ble_eq_true rfl) hRf, Nat.le_trans (Nat.le_of_ble_eq_true rfl) hRl⟩) hK hP hD hS hA [] [] rfl (by decide) rfl (by decide) (by decide) rfl hl.1 rfl (Nat.le_of_ble_eq_true rfl) dX6_isPlace_16 ⟨Nat.zero_le _, Nat.zero_le _⟩ (fun r16 _u H locs hw hP hD hS => ?_)
    try dsimp only at hw
    have hP : va_P D vwCl [] H := hP.sub [] rfl
    have hD : va_D A [] := hD.sub [] (by decide) rfl
    obtain ⟨hwA, hwB⟩ := hw
    refine lv_if_eq (tgt := 26) hx hb dX6_isPlace_19 (by decide) (fun cb => ?_) (fun cb => ?_)
    · have hw := hwA cb
      refine lv_iconst (v := 0) hx hb dX6_isPlace_26 (by decide) ?_
      exact ret _ _ _ _ 0 () rfl hw hP hD hS dX6_isPlace_27
    · have hw := hwB cb
      refine lv_iconst (v := 1) hx hb dX6_isPlace_22 (by decide) ?_
      refine lv_goto (tgt := 27) hx hb dX6_isPlace_23 (by decide) ?_
      exact ret _ _ _ _ 1 () rfl hw hP hD hS dX6_isPlace_27
theorem in_X6_isPoint_X6 : ∀ w ∈ wsX60, w ∈ wsX6_isPoint := fun _ h => List.mem_cons_of_mem _ (List.mem_append_right _ h)
theorem hd_X6_isPoint : yX6_isPoint.cls = RX6 ∧ yX6_isPoint.cls ≠ "java/lang/invoke/MethodHandle" ∧ yX6_isPoint.cls ≠ "java/lang/invoke/VarHandle" ∧ (parseMethodDescriptor yX6_isPoint.desc).map (fun d => d.parameters.length) = some 1 := by decide +kernel
set_option maxHeartbeats 8000000 in
set_option maxRecDepth 100000 in
theorem c_X6_isPoint (l : Launch) (D : va_G) (cI cJ cZ cO : ClassId) (mA mAx mAy mAi mAr mAo mAc mAg mAe mAS mAp : Nat) (mx : Nat → Int32) (my : Nat → Int32) (mi : Nat → Int32) (mn : Int32) (mr : Nat → Int32) (mo : Nat → Int32) (mf : Int32) (mt : Int32) (md : Int32) (mc : Nat → Int32) (mk : Int32) (mg : Nat → Int32) (mh : Int32) (me : Nat → Int32) (mS : Nat → Int64) (mp : Nat → Int32) (v1 : Int32) (K : Int32 → Prop) (hw : wp_X6_isPoint mi v1 K) : Ci l D (tys4 cI cJ cZ cO) yX6_isPoint wsX6_isPoint { frames := 1, cells := 0, slots := 0, locals := 22 } [.ref mA, .int v1] [(mA, .inr (5, [.ref mAx, .ref mAy, .ref mAi, .int mn, .ref mAr, .ref mAo, .int mf, .int mt, .int md, .ref mAc, .int mk, .ref mAg, .int mh, .ref mAe, .ref mAS, .ref mAp])), (mAx, .inl (cI, 32, .inl mx)), (mAy, .inl (cI, 32, .inl my)), (mAi, .inl (cZ, 32, .inl mi)), (mAr, .inl (cI, 32, .inl mr)), (mAo, .inl (cI, 32, .inl mo)), (mAc, .inl (cI, 34, .inl mc)), (mAg, .inl (cI, 34, .inl mg)), (mAe, .inl (cI, 128, .inl me)), (mAS, .inl (cJ, 2, .inr (.inl mS))), (mAp, .inl (cZ, 2, .inl mp))] (fun (r : Int32) (_ : Unit) => K r) (fun _ => [(mA, .inr (5, [.ref mAx, .ref mAy, .ref mAi, .int mn, .ref mAr, .ref mAo, .int mf, .int mt, .int md, .ref mAc, .int mk, .ref mAg, .int mh, .ref mAe, .ref mAS, .ref mAp])), (mAx, .inl (cI, 32, .inl mx)), (mAy, .inl (cI, 32, .inl my)), (mAi, .inl (cZ, 32, .inl mi)), (mAr, .inl (cI, 32, .inl mr)), (mAo, .inl (cI, 32, .inl mo)), (mAc, .inl (cI, 34, .inl mc)), (mAg, .inl (cI, 34, .inl mg)), (mAe, .inl (cI, 128, .inl me)), (mAS, .inl (cJ, 2, .inr (.inl mS))), (mAp, .inl (cZ, 2, .inl mp))]) := by
  refine mt_i (cc := cX6_isPoint) (maxL := 2) (rt := .boolean) (by decide) rfl (Nat.le_of_ble_eq_true rfl) ?_
  intro p e s m args below meth c Q A R ls hRf hRl hx hb hml hown hts hK hA hP hD hS hl ret
  have hown : s.vm.findClass RX6 = some m.cls := hown
  have hl : lv_has ls 2 [(0, .ref mA), (1, .int v1)] := hl
  unfold wp_X6_isPoint at hw
  refine lv_iload_n hx hb dX6_isPoint_0 rfl (lv_at hl 1 rfl) ?_
  refine lv_iconst (v := 0) hx hb dX6_isPoint_1 (by decide) ?_
  refine lv_bipush (v := 31) hx hb dX6_isPoint_2 (by decide) ?_
  refine cl_Si (As := [.int v1, .int 0, .int 31]) (rest := []) ⟨hx, hb, hml, hown, hts⟩ (c_X6_in l D cI cJ cZ cO   v1 0 31 _ hw) (va_cwS 3 hts gX6_isPoint_X6_in rfl rfl rfl hd_X6_in.2 ⟨Nat.le_trans (Nat.le_of_ble_eq_true rfl) hRf, Nat.le_trans (Nat.le_of_ble_eq_true rfl) hRl⟩) hK hP hD hS hA [] [0, 1, 2, 3, 4, 5, 6, 7, 8, 9, 10] rfl (by decide) rfl (by decide) (by decide) rfl hl.1 rfl (Nat.le_of_ble_eq_true rfl) dX6_isPoint_4 ⟨Nat.zero_le _, Nat.zero_le _⟩ (fun r4 _u H locs hw hP hD hS => ?_)
  try dsimp only at hw
  have hP : va_P D vwCl [(mA, .inr (5, [.ref mAx, .ref mAy, .ref mAi, .int mn, .ref mAr, .ref mAo, .int mf, .int mt, .int md, .ref mAc, .int mk, .ref mAg, .int mh, .ref mAe, .ref mAS, .ref mAp])), (mAx, .inl (cI, 32, .inl mx)), (mAy, .inl (cI, 32, .inl my)), (mAi, .inl (cZ, 32, .inl mi)), (mAr, .inl (cI, 32, .inl mr)), (mAo, .inl (cI, 32, .inl mo)), (mAc, .inl (cI, 34, .inl mc)), (mAg, .inl (cI, 34, .inl mg)), (mAe, .inl (cI, 128, .inl me)), (mAS, .inl (cJ, 2, .inr (.inl mS))), (mAp, .inl (cZ, 2, .inl mp))] H := hP.sub [0, 1, 2, 3, 4, 5, 6, 7, 8, 9, 10] rfl
  have hD : va_D A [(mA, .inr (5, [.ref mAx, .ref mAy, .ref mAi, .int mn, .ref mAr, .ref mAo, .int mf, .int mt, .int md, .ref mAc, .int mk, .ref mAg, .int mh, .ref mAe, .ref mAS, .ref mAp])), (mAx, .inl (cI, 32, .inl mx)), (mAy, .inl (cI, 32, .inl my)), (mAi, .inl (cZ, 32, .inl mi)), (mAr, .inl (cI, 32, .inl mr)), (mAo, .inl (cI, 32, .inl mo)), (mAc, .inl (cI, 34, .inl mc)), (mAg, .inl (cI, 34, .inl mg)), (mAe, .inl (cI, 128, .inl me)), (mAS, .inl (cJ, 2, .inr (.inl mS))), (mAp, .inl (cZ, 2, .inl mp))] := hD.sub [0, 1, 2, 3, 4, 5, 6, 7, 8, 9, 10] (by decide) rfl
  obtain ⟨hwA, hwB⟩ := hw
  refine lv_if_eq (tgt := 23) hx hb dX6_isPoint_7 (by decide) (fun cb => ?_) (fun cb => ?_)
  · have hw := hwA cb
    refine lv_iconst (v := 0) hx hb dX6_isPoint_23 (by decide) ?_
    exact ret _ _ _ _ 0 () rfl hw hP hD hS dX6_isPoint_24
  · have hw := hwB cb
    refine lv_aload_n hx hb dX6_isPoint_10 rfl (lv_at hl 0 rfl) ?_
    refine va_get (D := D) (ci := 5) (v := .ref mAi) (C := RX6) (T := TX6) (N := 16) hx hb hts in_X6_isPoint_X6 hown hK hP 0 rfl rfl 2 (by decide) (hts (.fieldLink RX6 16 "LiveHullModel" "is" "[Z") (List.mem_of_getElem? (i := 1) rfl)) (fun _ h9 => h9) rfl dX6_isPoint_11 ?_
    refine lv_iload_n hx hb dX6_isPoint_14 rfl (lv_at hl 1 rfl) ?_
    obtain ⟨hi, hw⟩ := hw
    refine va_zald hx hb hK hP 3 2 rfl rfl hi dX6_isPoint_15 ?_
    obtain ⟨hwA, hwB⟩ := hw
    refine lv_if_eq (tgt := 23) hx hb dX6_isPoint_16 (by decide) (fun cb => ?_) (fun cb => ?_)
    · have hw := hwA cb
      refine lv_iconst (v := 0) hx hb dX6_isPoint_23 (by decide) ?_
      exact ret _ _ _ _ 0 () rfl hw hP hD hS dX6_isPoint_24
    · have hw := hwB cb
      refine lv_iconst (v := 1) hx hb dX6_isPoint_19 (by decide) ?_
      refine lv_goto (tgt := 24) hx hb dX6_isPoint_20 (by decide) ?_
      exact ret _ _ _ _ 1 () rfl hw hP hD hS dX6_isPoint_24
theorem in_X6_isTaken_X6 : ∀ w ∈ wsX60, w ∈ wsX6_isTaken := fun _ h => List.mem_cons_of_mem _ (List.mem_append_right _ h)
theorem hd_X6_isTaken : yX6_isTaken.cls = RX6 ∧ yX6_isTaken.cls ≠ "java/lang/invoke/MethodHandle" ∧ yX6_isTaken.cls ≠ "java/lang/invoke/VarHandle" ∧ (parseMethodDescriptor yX6_isTaken.desc).map (fun d => d.parameters.length) = some 2 := by decide +kernel
set_option maxHeartbeats 8000000 in
set_option maxRecDepth 100000 in
theorem c_X6_isTaken (l : Launch) (D : va_G) (cI cJ cZ cO : ClassId) (mA mAx mAy mAi mAr mAo mAc mAg mAe mAS mAp : Nat) (mx : Nat → Int32) (my : Nat → Int32) (mi : Nat → Int32) (mn : Int32) (mr : Nat → Int32) (mo : Nat → Int32) (mf : Int32) (mt : Int32) (md : Int32) (mc : Nat → Int32) (mk : Int32) (mg : Nat → Int32) (mh : Int32) (me : Nat → Int32) (mS : Nat → Int64) (mp : Nat → Int32) (v1 : Int32) (v2 : Int32) (K : Int32 → Prop) (hw : wp_X6_isTaken mx my mi v1 v2 K) : Ci l D (tys4 cI cJ cZ cO) yX6_isTaken wsX6_isTaken { frames := 0, cells := 0, slots := 0, locals := 0 } [.ref mA, .int v1, .int v2] [(mA, .inr (5, [.ref mAx, .ref mAy, .ref mAi, .int mn, .ref mAr, .ref mAo, .int mf, .int mt, .int md, .ref mAc, .int mk, .ref mAg, .int mh, .ref mAe, .ref mAS, .ref mAp])), (mAx, .inl (cI, 32, .inl mx)), (mAy, .inl (cI, 32, .inl my)), (mAi, .inl (cZ, 32, .inl mi)), (mAr, .inl (cI, 32, .inl mr)), (mAo, .inl (cI, 32, .inl mo)), (mAc, .inl (cI, 34, .inl mc)), (mAg, .inl (cI, 34, .inl mg)), (mAe, .inl (cI, 128, .inl me)), (mAS, .inl (cJ, 2, .inr (.inl mS))), (mAp, .inl (cZ, 2, .inl mp))] (fun (r : Int32) (_ : Unit) => K r) (fun _ => [(mA, .inr (5, [.ref mAx, .ref mAy, .ref mAi, .int mn, .ref mAr, .ref mAo, .int mf, .int mt, .int md, .ref mAc, .int mk, .ref mAg, .int mh, .ref mAe, .ref mAS, .ref mAp])), (mAx, .inl (cI, 32, .inl mx)), (mAy, .inl (cI, 32, .inl my)), (mAi, .inl (cZ, 32, .inl mi)), (mAr, .inl (cI, 32, .inl mr)), (mAo, .inl (cI, 32, .inl mo)), (mAc, .inl (cI, 34, .inl mc)), (mAg, .inl (cI, 34, .inl mg)), (mAe, .inl (cI, 128, .inl me)), (mAS, .inl (cJ, 2, .inr (.inl mS))), (mAp, .inl (cZ, 2, .inl mp))]) := by
  refine mt_i (cc := cX6_isTaken) (maxL := 5) (rt := .boolean) (by decide) rfl (Nat.le_of_ble_eq_true rfl) ?_
  intro p e s m args below meth c Q A R ls hRf hRl hx hb hml hown hts hK hA hP hD hS hl ret
  have hown : s.vm.findClass RX6 = some m.cls := hown
  have hl : lv_has ls 5 [(0, .ref mA), (1, .int v1), (2, .int v2)] := hl
  have N5 : ∀  (k : Nat) (v3 : Int32) (v4 : Int32), wp_X6_isTaken_5 mx my mi v1 v2 K   k v3 v4 → ∀ (H : Heap) (locs : List Loc) (ls : Array Slot), va_P D vwCl [(mA, .inr (5, [.ref mAx, .ref mAy, .ref mAi, .int mn, .ref mAr, .ref mAo, .int mf, .int mt, .int md, .ref mAc, .int mk, .ref mAg, .int mh, .ref mAe, .ref mAS, .ref mAp])), (mAx, .inl (cI, 32, .inl mx)), (mAy, .inl (cI, 32, .inl my)), (mAi, .inl (cZ, 32, .inl mi)), (mAr, .inl (cI, 32, .inl mr)), (mAo, .inl (cI, 32, .inl mo)), (mAc, .inl (cI, 34, .inl mc)), (mAg, .inl (cI, 34, .inl mg)), (mAe, .inl (cI, 128, .inl me)), (mAS, .inl (cJ, 2, .inr (.inl mS))), (mAp, .inl (cZ, 2, .inl mp))] H → va_D A [(mA, .inr (5, [.ref mAx, .ref mAy, .ref mAi, .int mn, .ref mAr, .ref mAo, .int mf, .int mt, .int md, .ref mAc, .int mk, .ref mAg, .int mh, .ref mAe, .ref mAS, .ref mAp])), (mAx, .inl (cI, 32, .inl mx)), (mAy, .inl (cI, 32, .inl my)), (mAi, .inl (cZ, 32, .inl mi)), (mAr, .inl (cI, 32, .inl mr)), (mAo, .inl (cI, 32, .inl mo)), (mAc, .inl (cI, 34, .inl mc)), (mAg, .inl (cI, 34, .inl mg)), (mAe, .inl (cI, 128, .inl me)), (mAS, .inl (cJ, 2, .inr (.inl mS))), (mAp, .inl (cZ, 2, .inl mp))] → va_S A s.heap H locs → lv_has ls 5 [(0, .ref mA), (1, .int v1), (2, .int v2), (3, .int v3), (4, .int v4)] → W p l e R s m args below meth c H locs 0 0 Q (F0 m 5 ls []) := by
    intro k
    induction k with
    | zero => intro v3 v4 hw; exact False.elim hw
    | succ k ih5 =>
      intro v3 v4 hw H locs ls hP hD hS hl
      have hw : wp_X6_isTaken_5b mx my mi v1 v2 K (wp_X6_isTaken_5 mx my mi v1 v2 K   k)   v3 v4 := hw
      unfold wp_X6_isTaken_5b at hw
      generalize wp_X6_isTaken_5 mx my mi v1 v2 K   k = L5 at hw ih5
      refine lv_iload hx hb dX6_isTaken_5 (lv_at hl 4 rfl) ?_
      refine lv_bipush (v := 32) hx hb dX6_isTaken_7 (by decide) ?_
      obtain ⟨hwA, hwB⟩ := hw
      refine lv_icmp_ge (tgt := 60) hx hb dX6_isTaken_9 (by decide) (fun cb => ?_) (fun cb => ?_)
      · have hw := hwA cb
        refine lv_iload_n hx hb dX6_isTaken_60 rfl (lv_at hl 3 rfl) ?_
        obtain ⟨hn, hw⟩ := hw
        exact ret _ _ _ _ v3 () hn hw hP hD hS dX6_isTaken_61
      · have hw := hwB cb
        refine lv_iload_n hx hb dX6_isTaken_12 rfl (lv_at hl 3 rfl) ?_
        obtain ⟨hwA, hwB⟩ := hw
        refine lv_if_ne (tgt := 48) hx hb dX6_isTaken_13 (by decide) (fun cb => ?_) (fun cb => ?_)
        · have hw := hwA cb
          refine lv_iconst (v := 1) hx hb dX6_isTaken_48 (by decide) ?_
          refine lv_goto (tgt := 53) hx hb dX6_isTaken_49 (by decide) ?_
          refine lv_istore_n (lv' := [(3, .int 1), (0, .ref mA), (1, .int v1), (2, .int v2), (4, .int v4)]) hx hb dX6_isTaken_53 rfl hl (by decide) rfl (fun ls hl => ?_)
          refine lv_iinc (v := (v4 + 1)) (lv' := [(4, .int (v4 + 1)), (3, .int 1), (0, .ref mA), (1, .int v1), (2, .int v2)]) hx hb dX6_isTaken_54 hl (k := 4) rfl rfl (by decide) rfl (fun ls hl => ?_)
          refine lv_goto (tgt := 5) hx hb dX6_isTaken_57 (by decide) ?_
          exact ih5 1 (v4 + 1) hw _ _ _ hP hD hS (lv_sub hl [2, 3, 4, 1, 0] rfl)
        · have hw := hwB cb
          refine lv_aload_n hx hb dX6_isTaken_16 rfl (lv_at hl 0 rfl) ?_
          refine va_get (D := D) (ci := 5) (v := .ref mAi) (C := RX6) (T := TX6) (N := 16) hx hb hts in_X6_isTaken_X6 hown hK hP 0 rfl rfl 2 (by decide) (hts (.fieldLink RX6 16 "LiveHullModel" "is" "[Z") (List.mem_of_getElem? (i := 1) rfl)) (fun _ h9 => h9) rfl dX6_isTaken_17 ?_
          refine lv_iload hx hb dX6_isTaken_20 (lv_at hl 4 rfl) ?_
          obtain ⟨hi, hw⟩ := hw
          refine va_zald hx hb hK hP 3 2 rfl rfl hi dX6_isTaken_22 ?_
          obtain ⟨hwA, hwB⟩ := hw
          refine lv_if_eq (tgt := 52) hx hb dX6_isTaken_23 (by decide) (fun cb => ?_) (fun cb => ?_)
          · have hw := hwA cb
            refine lv_iconst (v := 0) hx hb dX6_isTaken_52 (by decide) ?_
            refine lv_istore_n (lv' := [(3, .int 0), (0, .ref mA), (1, .int v1), (2, .int v2), (4, .int v4)]) hx hb dX6_isTaken_53 rfl hl (by decide) rfl (fun ls hl => ?_)
            refine lv_iinc (v := (v4 + 1)) (lv' := [(4, .int (v4 + 1)), (3, .int 0), (0, .ref mA), (1, .int v1), (2, .int v2)]) hx hb dX6_isTaken_54 hl (k := 4) rfl rfl (by decide) rfl (fun ls hl => ?_)
            refine lv_goto (tgt := 5) hx hb dX6_isTaken_57 (by decide) ?_
            exact ih5 0 (v4 + 1) hw _ _ _ hP hD hS (lv_sub hl [2, 3, 4, 1, 0] rfl)
          · have hw := hwB cb
            refine lv_aload_n hx hb dX6_isTaken_26 rfl (lv_at hl 0 rfl) ?_
            refine va_get (D := D) (ci := 5) (v := .ref mAx) (C := RX6) (T := TX6) (N := 16) hx hb hts in_X6_isTaken_X6 hown hK hP 0 rfl rfl 0 (by decide) (hts (.fieldLink RX6 7 "LiveHullModel" "xs" "[I") (List.mem_of_getElem? (i := 2) rfl)) (fun _ h9 => h9) rfl dX6_isTaken_27 ?_
            refine lv_iload hx hb dX6_isTaken_30 (lv_at hl 4 rfl) ?_
            obtain ⟨hi, hw⟩ := hw
            refine va_iald hx hb hK hP 1 0 rfl rfl hi dX6_isTaken_32 ?_
            refine lv_iload_n hx hb dX6_isTaken_33 rfl (lv_at hl 1 rfl) ?_
            obtain ⟨hwA, hwB⟩ := hw
            refine lv_icmp_ne (tgt := 52) hx hb dX6_isTaken_34 (by decide) (fun cb => ?_) (fun cb => ?_)
            · have hw := hwA cb
              refine lv_iconst (v := 0) hx hb dX6_isTaken_52 (by decide) ?_
              refine lv_istore_n (lv' := [(3, .int 0), (0, .ref mA), (1, .int v1), (2, .int v2), (4, .int v4)]) hx hb dX6_isTaken_53 rfl hl (by decide) rfl (fun ls hl => ?_)
              refine lv_iinc (v := (v4 + 1)) (lv' := [(4, .int (v4 + 1)), (3, .int 0), (0, .ref mA), (1, .int v1), (2, .int v2)]) hx hb dX6_isTaken_54 hl (k := 4) rfl rfl (by decide) rfl (fun ls hl => ?_)
              refine lv_goto (tgt := 5) hx hb dX6_isTaken_57 (by decide) ?_
              exact ih5 0 (v4 + 1) hw _ _ _ hP hD hS (lv_sub hl [2, 3, 4, 1, 0] rfl)
            · have hw := hwB cb
              refine lv_aload_n hx hb dX6_isTaken_37 rfl (lv_at hl 0 rfl) ?_
              refine va_get (D := D) (ci := 5) (v := .ref mAy) (C := RX6) (T := TX6) (N := 16) hx hb hts in_X6_isTaken_X6 hown hK hP 0 rfl rfl 1 (by decide) (hts (.fieldLink RX6 13 "LiveHullModel" "ys" "[I") (List.mem_of_getElem? (i := 3) rfl)) (fun _ h9 => h9) rfl dX6_isTaken_38 ?_
              refine lv_iload hx hb dX6_isTaken_41 (lv_at hl 4 rfl) ?_
              obtain ⟨hi, hw⟩ := hw
              refine va_iald hx hb hK hP 2 0 rfl rfl hi dX6_isTaken_43 ?_
              refine lv_iload_n hx hb dX6_isTaken_44 rfl (lv_at hl 2 rfl) ?_
              obtain ⟨hwA, hwB⟩ := hw
              refine lv_icmp_ne (tgt := 52) hx hb dX6_isTaken_45 (by decide) (fun cb => ?_) (fun cb => ?_)
              · have hw := hwA cb
                refine lv_iconst (v := 0) hx hb dX6_isTaken_52 (by decide) ?_
                refine lv_istore_n (lv' := [(3, .int 0), (0, .ref mA), (1, .int v1), (2, .int v2), (4, .int v4)]) hx hb dX6_isTaken_53 rfl hl (by decide) rfl (fun ls hl => ?_)
                refine lv_iinc (v := (v4 + 1)) (lv' := [(4, .int (v4 + 1)), (3, .int 0), (0, .ref mA), (1, .int v1), (2, .int v2)]) hx hb dX6_isTaken_54 hl (k := 4) rfl rfl (by decide) rfl (fun ls hl => ?_)
                refine lv_goto (tgt := 5) hx hb dX6_isTaken_57 (by decide) ?_
                exact ih5 0 (v4 + 1) hw _ _ _ hP hD hS (lv_sub hl [2, 3, 4, 1, 0] rfl)
              · have hw := hwB cb
                refine lv_iconst (v := 1) hx hb dX6_isTaken_48 (by decide) ?_
                refine lv_goto (tgt := 53) hx hb dX6_isTaken_49 (by decide) ?_
                refine lv_istore_n (lv' := [(3, .int 1), (0, .ref mA), (1, .int v1), (2, .int v2), (4, .int v4)]) hx hb dX6_isTaken_53 rfl hl (by decide) rfl (fun ls hl => ?_)
                refine lv_iinc (v := (v4 + 1)) (lv' := [(4, .int (v4 + 1)), (3, .int 1), (0, .ref mA), (1, .int v1), (2, .int v2)]) hx hb dX6_isTaken_54 hl (k := 4) rfl rfl (by decide) rfl (fun ls hl => ?_)
                refine lv_goto (tgt := 5) hx hb dX6_isTaken_57 (by decide) ?_
                exact ih5 1 (v4 + 1) hw _ _ _ hP hD hS (lv_sub hl [2, 3, 4, 1, 0] rfl)
  unfold wp_X6_isTaken at hw
  refine lv_iconst (v := 0) hx hb dX6_isTaken_0 (by decide) ?_
  refine lv_istore_n (lv' := [(3, .int 0), (0, .ref mA), (1, .int v1), (2, .int v2)]) hx hb dX6_isTaken_1 rfl hl (by decide) rfl (fun ls hl => ?_)
  refine lv_iconst (v := 0) hx hb dX6_isTaken_2 (by decide) ?_
  refine lv_istore (lv' := [(4, .int 0), (3, .int 0), (0, .ref mA), (1, .int v1), (2, .int v2)]) hx hb dX6_isTaken_3 hl (by decide) rfl (fun ls hl => ?_)
  obtain ⟨k, hw⟩ := hw
  exact N5  k 0 0 hw _ _ _ hP hD hS (lv_sub hl [2, 3, 4, 1, 0] rfl)
theorem in_X6_add_X6 : ∀ w ∈ wsX60, w ∈ wsX6_add := fun _ h => List.mem_cons_of_mem _ (List.mem_append_right _ h)
theorem hd_X6_add : yX6_add.cls = RX6 ∧ yX6_add.cls ≠ "java/lang/invoke/MethodHandle" ∧ yX6_add.cls ≠ "java/lang/invoke/VarHandle" ∧ (parseMethodDescriptor yX6_add.desc).map (fun d => d.parameters.length) = some 2 := by decide +kernel
set_option maxHeartbeats 8000000 in
set_option maxRecDepth 100000 in
theorem c_X6_add (l : Launch) (D : va_G) (cI cJ cZ cO : ClassId) (mA mAx mAy mAi mAr mAo mAc mAg mAe mAS mAp : Nat) (mx : Nat → Int32) (my : Nat → Int32) (mi : Nat → Int32) (mn : Int32) (mr : Nat → Int32) (mo : Nat → Int32) (mf : Int32) (mt : Int32) (md : Int32) (mc : Nat → Int32) (mk : Int32) (mg : Nat → Int32) (mh : Int32) (me : Nat → Int32) (mS : Nat → Int64) (mp : Nat → Int32) (v1 : Int32) (v2 : Int32) (K : Int32 → (Nat → Int32) → (Nat → Int32) → (Nat → Int32) → Int32 → Prop) (hw : wp_X6_add mx my mi mn v1 v2 K) : Ci l D (tys4 cI cJ cZ cO) yX6_add wsX6_add { frames := 2, cells := 0, slots := 0, locals := 43 } [.ref mA, .int v1, .int v2] [(mA, .inr (5, [.ref mAx, .ref mAy, .ref mAi, .int mn, .ref mAr, .ref mAo, .int mf, .int mt, .int md, .ref mAc, .int mk, .ref mAg, .int mh, .ref mAe, .ref mAS, .ref mAp])), (mAx, .inl (cI, 32, .inl mx)), (mAy, .inl (cI, 32, .inl my)), (mAi, .inl (cZ, 32, .inl mi)), (mAr, .inl (cI, 32, .inl mr)), (mAo, .inl (cI, 32, .inl mo)), (mAc, .inl (cI, 34, .inl mc)), (mAg, .inl (cI, 34, .inl mg)), (mAe, .inl (cI, 128, .inl me)), (mAS, .inl (cJ, 2, .inr (.inl mS))), (mAp, .inl (cZ, 2, .inl mp))] (fun (r : Int32) (u : (Nat → Int32) × (Nat → Int32) × (Nat → Int32) × (Int32)) => K r u.1 u.2.1 u.2.2.1 u.2.2.2) (fun u => [(mA, .inr (5, [.ref mAx, .ref mAy, .ref mAi, .int u.2.2.2, .ref mAr, .ref mAo, .int mf, .int mt, .int md, .ref mAc, .int mk, .ref mAg, .int mh, .ref mAe, .ref mAS, .ref mAp])), (mAx, .inl (cI, 32, .inl u.1)), (mAy, .inl (cI, 32, .inl u.2.1)), (mAi, .inl (cZ, 32, .inl u.2.2.1)), (mAr, .inl (cI, 32, .inl mr)), (mAo, .inl (cI, 32, .inl mo)), (mAc, .inl (cI, 34, .inl mc)), (mAg, .inl (cI, 34, .inl mg)), (mAe, .inl (cI, 128, .inl me)), (mAS, .inl (cJ, 2, .inr (.inl mS))), (mAp, .inl (cZ, 2, .inl mp))]) := by
  refine mt_i (cc := cX6_add) (maxL := 4) (rt := .int) (by decide) rfl (Nat.le_of_ble_eq_true rfl) ?_
  intro p e s m args below meth c Q A R ls hRf hRl hx hb hml hown hts hK hA hP hD hS hl ret
  have hown : s.vm.findClass RX6 = some m.cls := hown
  have hl : lv_has ls 4 [(0, .ref mA), (1, .int v1), (2, .int v2)] := hl
  have N37 : ∀ (mx : Nat → Int32) (my : Nat → Int32) (mi : Nat → Int32) (mn : Int32) (k : Nat) (v3 : Int32), wp_X6_add_37 v1 v2 K  mx my mi mn k v3 → ∀ (H : Heap) (locs : List Loc) (ls : Array Slot), va_P D vwCl [(mA, .inr (5, [.ref mAx, .ref mAy, .ref mAi, .int mn, .ref mAr, .ref mAo, .int mf, .int mt, .int md, .ref mAc, .int mk, .ref mAg, .int mh, .ref mAe, .ref mAS, .ref mAp])), (mAx, .inl (cI, 32, .inl mx)), (mAy, .inl (cI, 32, .inl my)), (mAi, .inl (cZ, 32, .inl mi)), (mAr, .inl (cI, 32, .inl mr)), (mAo, .inl (cI, 32, .inl mo)), (mAc, .inl (cI, 34, .inl mc)), (mAg, .inl (cI, 34, .inl mg)), (mAe, .inl (cI, 128, .inl me)), (mAS, .inl (cJ, 2, .inr (.inl mS))), (mAp, .inl (cZ, 2, .inl mp))] H → va_D A [(mA, .inr (5, [.ref mAx, .ref mAy, .ref mAi, .int mn, .ref mAr, .ref mAo, .int mf, .int mt, .int md, .ref mAc, .int mk, .ref mAg, .int mh, .ref mAe, .ref mAS, .ref mAp])), (mAx, .inl (cI, 32, .inl mx)), (mAy, .inl (cI, 32, .inl my)), (mAi, .inl (cZ, 32, .inl mi)), (mAr, .inl (cI, 32, .inl mr)), (mAo, .inl (cI, 32, .inl mo)), (mAc, .inl (cI, 34, .inl mc)), (mAg, .inl (cI, 34, .inl mg)), (mAe, .inl (cI, 128, .inl me)), (mAS, .inl (cJ, 2, .inr (.inl mS))), (mAp, .inl (cZ, 2, .inl mp))] → va_S A s.heap H locs → lv_has ls 4 [(0, .ref mA), (1, .int v1), (2, .int v2), (3, .int v3)] → W p l e R s m args below meth c H locs 0 0 Q (F0 m 37 ls []) := by
    intro mx my mi mn
    intro k
    induction k with
    | zero => intro v3 hw; exact False.elim hw
    | succ k ih37 =>
      intro v3 hw H locs ls hP hD hS hl
      have hw : wp_X6_add_37b v1 v2 K (wp_X6_add_37 v1 v2 K  mx my mi mn k)  mx my mi mn v3 := hw
      unfold wp_X6_add_37b at hw
      generalize wp_X6_add_37 v1 v2 K  mx my mi mn k = L37 at hw ih37
      refine lv_aload_n hx hb dX6_add_37 rfl (lv_at hl 0 rfl) ?_
      refine va_get (D := D) (ci := 5) (v := .ref mAi) (C := RX6) (T := TX6) (N := 16) hx hb hts in_X6_add_X6 hown hK hP 0 rfl rfl 2 (by decide) (hts (.fieldLink RX6 16 "LiveHullModel" "is" "[Z") (List.mem_of_getElem? (i := 2) rfl)) (fun _ h9 => h9) rfl dX6_add_38 ?_
      refine lv_iload_n hx hb dX6_add_41 rfl (lv_at hl 3 rfl) ?_
      obtain ⟨hi, hw⟩ := hw
      refine va_zald hx hb hK hP 3 2 rfl rfl hi dX6_add_42 ?_
      obtain ⟨hwA, hwB⟩ := hw
      refine lv_if_eq (tgt := 52) hx hb dX6_add_43 (by decide) (fun cb => ?_) (fun cb => ?_)
      · have hw := hwA cb
        refine lv_aload_n hx hb dX6_add_52 rfl (lv_at hl 0 rfl) ?_
        refine va_get (D := D) (ci := 5) (v := .ref mAi) (C := RX6) (T := TX6) (N := 16) hx hb hts in_X6_add_X6 hown hK hP 0 rfl rfl 2 (by decide) (hts (.fieldLink RX6 16 "LiveHullModel" "is" "[Z") (List.mem_of_getElem? (i := 2) rfl)) (fun _ h9 => h9) rfl dX6_add_53 ?_
        refine lv_iload_n hx hb dX6_add_56 rfl (lv_at hl 3 rfl) ?_
        refine lv_iconst (v := 1) hx hb dX6_add_57 (by decide) ?_
        obtain ⟨hi, hw⟩ := hw
        refine va_zast hx hb hK hP hD hS 3 2 rfl rfl hi dX6_add_58 (fun H locs hP hD hS => ?_)
        have hP : va_P D vwCl [(mA, .inr (5, [.ref mAx, .ref mAy, .ref mAi, .int mn, .ref mAr, .ref mAo, .int mf, .int mt, .int md, .ref mAc, .int mk, .ref mAg, .int mh, .ref mAe, .ref mAS, .ref mAp])), (mAx, .inl (cI, 32, .inl mx)), (mAy, .inl (cI, 32, .inl my)), (mAi, .inl (cZ, 32, .inl (upd mi v3.toNatClampNeg (vp_nar .boolean 1)))), (mAr, .inl (cI, 32, .inl mr)), (mAo, .inl (cI, 32, .inl mo)), (mAc, .inl (cI, 34, .inl mc)), (mAg, .inl (cI, 34, .inl mg)), (mAe, .inl (cI, 128, .inl me)), (mAS, .inl (cJ, 2, .inr (.inl mS))), (mAp, .inl (cZ, 2, .inl mp))] H := hP
        have hD : va_D A [(mA, .inr (5, [.ref mAx, .ref mAy, .ref mAi, .int mn, .ref mAr, .ref mAo, .int mf, .int mt, .int md, .ref mAc, .int mk, .ref mAg, .int mh, .ref mAe, .ref mAS, .ref mAp])), (mAx, .inl (cI, 32, .inl mx)), (mAy, .inl (cI, 32, .inl my)), (mAi, .inl (cZ, 32, .inl (upd mi v3.toNatClampNeg (vp_nar .boolean 1)))), (mAr, .inl (cI, 32, .inl mr)), (mAo, .inl (cI, 32, .inl mo)), (mAc, .inl (cI, 34, .inl mc)), (mAg, .inl (cI, 34, .inl mg)), (mAe, .inl (cI, 128, .inl me)), (mAS, .inl (cJ, 2, .inr (.inl mS))), (mAp, .inl (cZ, 2, .inl mp))] := hD
        refine lv_aload_n hx hb dX6_add_59 rfl (lv_at hl 0 rfl) ?_
        refine va_get (D := D) (ci := 5) (v := .ref mAx) (C := RX6) (T := TX6) (N := 16) hx hb hts in_X6_add_X6 hown hK hP 0 rfl rfl 0 (by decide) (hts (.fieldLink RX6 7 "LiveHullModel" "xs" "[I") (List.mem_of_getElem? (i := 3) rfl)) (fun _ h9 => h9) rfl dX6_add_60 ?_
        refine lv_iload_n hx hb dX6_add_63 rfl (lv_at hl 3 rfl) ?_
        refine lv_iload_n hx hb dX6_add_64 rfl (lv_at hl 1 rfl) ?_
        obtain ⟨hi, hw⟩ := hw
        refine va_iast hx hb hK hP hD hS 1 0 rfl rfl hi dX6_add_65 (fun H locs hP hD hS => ?_)
        have hP : va_P D vwCl [(mA, .inr (5, [.ref mAx, .ref mAy, .ref mAi, .int mn, .ref mAr, .ref mAo, .int mf, .int mt, .int md, .ref mAc, .int mk, .ref mAg, .int mh, .ref mAe, .ref mAS, .ref mAp])), (mAx, .inl (cI, 32, .inl (upd mx v3.toNatClampNeg v1))), (mAy, .inl (cI, 32, .inl my)), (mAi, .inl (cZ, 32, .inl (upd mi v3.toNatClampNeg (vp_nar .boolean 1)))), (mAr, .inl (cI, 32, .inl mr)), (mAo, .inl (cI, 32, .inl mo)), (mAc, .inl (cI, 34, .inl mc)), (mAg, .inl (cI, 34, .inl mg)), (mAe, .inl (cI, 128, .inl me)), (mAS, .inl (cJ, 2, .inr (.inl mS))), (mAp, .inl (cZ, 2, .inl mp))] H := hP
        have hD : va_D A [(mA, .inr (5, [.ref mAx, .ref mAy, .ref mAi, .int mn, .ref mAr, .ref mAo, .int mf, .int mt, .int md, .ref mAc, .int mk, .ref mAg, .int mh, .ref mAe, .ref mAS, .ref mAp])), (mAx, .inl (cI, 32, .inl (upd mx v3.toNatClampNeg v1))), (mAy, .inl (cI, 32, .inl my)), (mAi, .inl (cZ, 32, .inl (upd mi v3.toNatClampNeg (vp_nar .boolean 1)))), (mAr, .inl (cI, 32, .inl mr)), (mAo, .inl (cI, 32, .inl mo)), (mAc, .inl (cI, 34, .inl mc)), (mAg, .inl (cI, 34, .inl mg)), (mAe, .inl (cI, 128, .inl me)), (mAS, .inl (cJ, 2, .inr (.inl mS))), (mAp, .inl (cZ, 2, .inl mp))] := hD
        refine lv_aload_n hx hb dX6_add_66 rfl (lv_at hl 0 rfl) ?_
        refine va_get (D := D) (ci := 5) (v := .ref mAy) (C := RX6) (T := TX6) (N := 16) hx hb hts in_X6_add_X6 hown hK hP 0 rfl rfl 1 (by decide) (hts (.fieldLink RX6 13 "LiveHullModel" "ys" "[I") (List.mem_of_getElem? (i := 4) rfl)) (fun _ h9 => h9) rfl dX6_add_67 ?_
        refine lv_iload_n hx hb dX6_add_70 rfl (lv_at hl 3 rfl) ?_
        refine lv_iload_n hx hb dX6_add_71 rfl (lv_at hl 2 rfl) ?_
        obtain ⟨hi, hw⟩ := hw
        refine va_iast hx hb hK hP hD hS 2 0 rfl rfl hi dX6_add_72 (fun H locs hP hD hS => ?_)
        have hP : va_P D vwCl [(mA, .inr (5, [.ref mAx, .ref mAy, .ref mAi, .int mn, .ref mAr, .ref mAo, .int mf, .int mt, .int md, .ref mAc, .int mk, .ref mAg, .int mh, .ref mAe, .ref mAS, .ref mAp])), (mAx, .inl (cI, 32, .inl (upd mx v3.toNatClampNeg v1))), (mAy, .inl (cI, 32, .inl (upd my v3.toNatClampNeg v2))), (mAi, .inl (cZ, 32, .inl (upd mi v3.toNatClampNeg (vp_nar .boolean 1)))), (mAr, .inl (cI, 32, .inl mr)), (mAo, .inl (cI, 32, .inl mo)), (mAc, .inl (cI, 34, .inl mc)), (mAg, .inl (cI, 34, .inl mg)), (mAe, .inl (cI, 128, .inl me)), (mAS, .inl (cJ, 2, .inr (.inl mS))), (mAp, .inl (cZ, 2, .inl mp))] H := hP
        have hD : va_D A [(mA, .inr (5, [.ref mAx, .ref mAy, .ref mAi, .int mn, .ref mAr, .ref mAo, .int mf, .int mt, .int md, .ref mAc, .int mk, .ref mAg, .int mh, .ref mAe, .ref mAS, .ref mAp])), (mAx, .inl (cI, 32, .inl (upd mx v3.toNatClampNeg v1))), (mAy, .inl (cI, 32, .inl (upd my v3.toNatClampNeg v2))), (mAi, .inl (cZ, 32, .inl (upd mi v3.toNatClampNeg (vp_nar .boolean 1)))), (mAr, .inl (cI, 32, .inl mr)), (mAo, .inl (cI, 32, .inl mo)), (mAc, .inl (cI, 34, .inl mc)), (mAg, .inl (cI, 34, .inl mg)), (mAe, .inl (cI, 128, .inl me)), (mAS, .inl (cJ, 2, .inr (.inl mS))), (mAp, .inl (cZ, 2, .inl mp))] := hD
        refine lv_aload_n hx hb dX6_add_73 rfl (lv_at hl 0 rfl) ?_
        refine lv_dup hx hb dX6_add_74 rfl ?_
        refine va_get (D := D) (ci := 5) (v := .int mn) (C := RX6) (T := TX6) (N := 16) hx hb hts in_X6_add_X6 hown hK hP 0 rfl rfl 3 (by decide) (hts (.fieldLink RX6 55 "LiveHullModel" "many" "I") (List.mem_of_getElem? (i := 1) rfl)) (fun _ h9 => h9) rfl dX6_add_75 ?_
        refine lv_iconst (v := 1) hx hb dX6_add_78 (by decide) ?_
        refine lv_iadd hx hb dX6_add_79 ?_
        refine va_put (D := D) (ci := 5) (v := .int (mn + 1)) (ty := .int) (C := RX6) (T := TX6) (N := 16) hx hb hts in_X6_add_X6 tyX6 tyX6_ok nmX6 hown hK hP hD hS 0 rfl rfl 3 (by decide) (hts (.fieldLink RX6 55 "LiveHullModel" "many" "I") (List.mem_of_getElem? (i := 1) rfl)) (fun _ h9 => h9) rfl (by decide +kernel) rfl rfl (Nat.le_of_ble_eq_true rfl) dX6_add_80 (fun H locs hP hD hS => ?_)
        have hP : va_P D vwCl [(mA, .inr (5, [.ref mAx, .ref mAy, .ref mAi, .int (mn + 1), .ref mAr, .ref mAo, .int mf, .int mt, .int md, .ref mAc, .int mk, .ref mAg, .int mh, .ref mAe, .ref mAS, .ref mAp])), (mAx, .inl (cI, 32, .inl (upd mx v3.toNatClampNeg v1))), (mAy, .inl (cI, 32, .inl (upd my v3.toNatClampNeg v2))), (mAi, .inl (cZ, 32, .inl (upd mi v3.toNatClampNeg (vp_nar .boolean 1)))), (mAr, .inl (cI, 32, .inl mr)), (mAo, .inl (cI, 32, .inl mo)), (mAc, .inl (cI, 34, .inl mc)), (mAg, .inl (cI, 34, .inl mg)), (mAe, .inl (cI, 128, .inl me)), (mAS, .inl (cJ, 2, .inr (.inl mS))), (mAp, .inl (cZ, 2, .inl mp))] H := hP
        have hD : va_D A [(mA, .inr (5, [.ref mAx, .ref mAy, .ref mAi, .int (mn + 1), .ref mAr, .ref mAo, .int mf, .int mt, .int md, .ref mAc, .int mk, .ref mAg, .int mh, .ref mAe, .ref mAS, .ref mAp])), (mAx, .inl (cI, 32, .inl (upd mx v3.toNatClampNeg v1))), (mAy, .inl (cI, 32, .inl (upd my v3.toNatClampNeg v2))), (mAi, .inl (cZ, 32, .inl (upd mi v3.toNatClampNeg (vp_nar .boolean 1)))), (mAr, .inl (cI, 32, .inl mr)), (mAo, .inl (cI, 32, .inl mo)), (mAc, .inl (cI, 34, .inl mc)), (mAg, .inl (cI, 34, .inl mg)), (mAe, .inl (cI, 128, .inl me)), (mAS, .inl (cJ, 2, .inr (.inl mS))), (mAp, .inl (cZ, 2, .inl mp))] := hD
        refine lv_iload_n hx hb dX6_add_83 rfl (lv_at hl 3 rfl) ?_
        exact ret _ _ _ _ v3 ((upd mx v3.toNatClampNeg v1), (upd my v3.toNatClampNeg v2), (upd mi v3.toNatClampNeg (vp_nar .boolean 1)), (mn + 1)) (vp_nar_int _) hw hP hD hS dX6_add_84
      · have hw := hwB cb
        refine lv_iinc (v := (v3 + 1)) (lv' := [(3, .int (v3 + 1)), (0, .ref mA), (1, .int v1), (2, .int v2)]) hx hb dX6_add_46 hl (k := 3) rfl rfl (by decide) rfl (fun ls hl => ?_)
        refine lv_goto (tgt := 37) hx hb dX6_add_49 (by decide) ?_
        exact ih37 (v3 + 1) hw _ _ _ hP hD hS (lv_sub hl [1, 2, 3, 0] rfl)
  unfold wp_X6_add at hw
  refine lv_iload_n hx hb dX6_add_0 rfl (lv_at hl 1 rfl) ?_
  refine lv_iload_n hx hb dX6_add_1 rfl (lv_at hl 2 rfl) ?_
  refine cl_Si (As := [.int v1, .int v2]) (rest := []) ⟨hx, hb, hml, hown, hts⟩ (c_X6_isPlace l D cI cJ cZ cO   v1 v2 _ hw) (va_cwS 2 hts gX6_add_X6_isPlace rfl rfl rfl hd_X6_isPlace.2 ⟨Nat.le_trans (Nat.le_of_ble_eq_true rfl) hRf, Nat.le_trans (Nat.le_of_ble_eq_true rfl) hRl⟩) hK hP hD hS hA [] [0, 1, 2, 3, 4, 5, 6, 7, 8, 9, 10] rfl (by decide) rfl (by decide) (by decide) rfl hl.1 rfl (Nat.le_of_ble_eq_true rfl) dX6_add_2 ⟨Nat.zero_le _, Nat.zero_le _⟩ (fun r2 _u H locs hw hP hD hS => ?_)
  try dsimp only at hw
  have hP : va_P D vwCl [(mA, .inr (5, [.ref mAx, .ref mAy, .ref mAi, .int mn, .ref mAr, .ref mAo, .int mf, .int mt, .int md, .ref mAc, .int mk, .ref mAg, .int mh, .ref mAe, .ref mAS, .ref mAp])), (mAx, .inl (cI, 32, .inl mx)), (mAy, .inl (cI, 32, .inl my)), (mAi, .inl (cZ, 32, .inl mi)), (mAr, .inl (cI, 32, .inl mr)), (mAo, .inl (cI, 32, .inl mo)), (mAc, .inl (cI, 34, .inl mc)), (mAg, .inl (cI, 34, .inl mg)), (mAe, .inl (cI, 128, .inl me)), (mAS, .inl (cJ, 2, .inr (.inl mS))), (mAp, .inl (cZ, 2, .inl mp))] H := hP.sub [0, 1, 2, 3, 4, 5, 6, 7, 8, 9, 10] rfl
  have hD : va_D A [(mA, .inr (5, [.ref mAx, .ref mAy, .ref mAi, .int mn, .ref mAr, .ref mAo, .int mf, .int mt, .int md, .ref mAc, .int mk, .ref mAg, .int mh, .ref mAe, .ref mAS, .ref mAp])), (mAx, .inl (cI, 32, .inl mx)), (mAy, .inl (cI, 32, .inl my)), (mAi, .inl (cZ, 32, .inl mi)), (mAr, .inl (cI, 32, .inl mr)), (mAo, .inl (cI, 32, .inl mo)), (mAc, .inl (cI, 34, .inl mc)), (mAg, .inl (cI, 34, .inl mg)), (mAe, .inl (cI, 128, .inl me)), (mAS, .inl (cJ, 2, .inr (.inl mS))), (mAp, .inl (cZ, 2, .inl mp))] := hD.sub [0, 1, 2, 3, 4, 5, 6, 7, 8, 9, 10] (by decide) rfl
  obtain ⟨hwA, hwB⟩ := hw
  refine lv_if_ne (tgt := 11) hx hb dX6_add_5 (by decide) (fun cb => ?_) (fun cb => ?_)
  · have hw := hwA cb
    refine lv_aload_n hx hb dX6_add_11 rfl (lv_at hl 0 rfl) ?_
    refine lv_iload_n hx hb dX6_add_12 rfl (lv_at hl 1 rfl) ?_
    refine lv_iload_n hx hb dX6_add_13 rfl (lv_at hl 2 rfl) ?_
    refine cl_Vi (As := [.int v1, .int v2]) (rest := []) ⟨hx, hb, hml, hown, hts⟩ (c_X6_isTaken l D cI cJ cZ cO mA mAx mAy mAi mAr mAo mAc mAg mAe mAS mAp mx my mi mn mr mo mf mt md mc mk mg mh me mS mp v1 v2 _ hw) (cwV 2 hts gX6_add_X6_isTaken rfl rfl rfl hd_X6_isTaken ⟨Nat.le_trans (Nat.le_of_ble_eq_true rfl) hRf, Nat.le_trans (Nat.le_of_ble_eq_true rfl) hRl⟩) hK hP hD hS hA [0, 1, 2, 3, 4, 5, 6, 7, 8, 9, 10] [] rfl (by decide) rfl (by decide) (by decide) 0 5 rfl rfl rfl hl.1 rfl (Nat.le_of_ble_eq_true rfl) dX6_add_14 ⟨Nat.zero_le _, Nat.zero_le _⟩ (fun r14 _u H locs hw hP hD hS => ?_)
    try dsimp only at hw
    have hP : va_P D vwCl [(mA, .inr (5, [.ref mAx, .ref mAy, .ref mAi, .int mn, .ref mAr, .ref mAo, .int mf, .int mt, .int md, .ref mAc, .int mk, .ref mAg, .int mh, .ref mAe, .ref mAS, .ref mAp])), (mAx, .inl (cI, 32, .inl mx)), (mAy, .inl (cI, 32, .inl my)), (mAi, .inl (cZ, 32, .inl mi)), (mAr, .inl (cI, 32, .inl mr)), (mAo, .inl (cI, 32, .inl mo)), (mAc, .inl (cI, 34, .inl mc)), (mAg, .inl (cI, 34, .inl mg)), (mAe, .inl (cI, 128, .inl me)), (mAS, .inl (cJ, 2, .inr (.inl mS))), (mAp, .inl (cZ, 2, .inl mp))] H := hP.sub [0, 1, 2, 3, 4, 5, 6, 7, 8, 9, 10] rfl
    have hD : va_D A [(mA, .inr (5, [.ref mAx, .ref mAy, .ref mAi, .int mn, .ref mAr, .ref mAo, .int mf, .int mt, .int md, .ref mAc, .int mk, .ref mAg, .int mh, .ref mAe, .ref mAS, .ref mAp])), (mAx, .inl (cI, 32, .inl mx)), (mAy, .inl (cI, 32, .inl my)), (mAi, .inl (cZ, 32, .inl mi)), (mAr, .inl (cI, 32, .inl mr)), (mAo, .inl (cI, 32, .inl mo)), (mAc, .inl (cI, 34, .inl mc)), (mAg, .inl (cI, 34, .inl mg)), (mAe, .inl (cI, 128, .inl me)), (mAS, .inl (cJ, 2, .inr (.inl mS))), (mAp, .inl (cZ, 2, .inl mp))] := hD.sub [0, 1, 2, 3, 4, 5, 6, 7, 8, 9, 10] (by decide) rfl
    obtain ⟨hwA, hwB⟩ := hw
    refine lv_if_eq (tgt := 23) hx hb dX6_add_17 (by decide) (fun cb => ?_) (fun cb => ?_)
    · have hw := hwA cb
      refine lv_aload_n hx hb dX6_add_23 rfl (lv_at hl 0 rfl) ?_
      refine va_get (D := D) (ci := 5) (v := .int mn) (C := RX6) (T := TX6) (N := 16) hx hb hts in_X6_add_X6 hown hK hP 0 rfl rfl 3 (by decide) (hts (.fieldLink RX6 55 "LiveHullModel" "many" "I") (List.mem_of_getElem? (i := 1) rfl)) (fun _ h9 => h9) rfl dX6_add_24 ?_
      refine lv_bipush (v := 32) hx hb dX6_add_27 (by decide) ?_
      obtain ⟨hwA, hwB⟩ := hw
      refine lv_icmp_ne (tgt := 35) hx hb dX6_add_29 (by decide) (fun cb => ?_) (fun cb => ?_)
      · have hw := hwA cb
        refine lv_iconst (v := 0) hx hb dX6_add_35 (by decide) ?_
        refine lv_istore_n (lv' := [(3, .int 0), (0, .ref mA), (1, .int v1), (2, .int v2)]) hx hb dX6_add_36 rfl hl (by decide) rfl (fun ls hl => ?_)
        obtain ⟨k, hw⟩ := hw
        exact N37 mx my mi mn k 0 hw _ _ _ hP hD hS (lv_sub hl [1, 2, 3, 0] rfl)
      · have hw := hwB cb
        refine lv_bipush (v := (-4)) hx hb dX6_add_32 (by decide) ?_
        exact ret _ _ _ _ (-4) (mx, my, mi, mn) (vp_nar_int _) hw hP hD hS dX6_add_34
    · have hw := hwB cb
      refine lv_bipush (v := (-5)) hx hb dX6_add_20 (by decide) ?_
      exact ret _ _ _ _ (-5) (mx, my, mi, mn) (vp_nar_int _) hw hP hD hS dX6_add_22
  · have hw := hwB cb
    refine lv_bipush (v := (-2)) hx hb dX6_add_8 (by decide) ?_
    exact ret _ _ _ _ (-2) (mx, my, mi, mn) (vp_nar_int _) hw hP hD hS dX6_add_10
theorem in_X6_remove_X6 : ∀ w ∈ wsX60, w ∈ wsX6_remove := fun _ h => List.mem_cons_of_mem _ (List.mem_append_right _ h)
theorem hd_X6_remove : yX6_remove.cls = RX6 ∧ yX6_remove.cls ≠ "java/lang/invoke/MethodHandle" ∧ yX6_remove.cls ≠ "java/lang/invoke/VarHandle" ∧ (parseMethodDescriptor yX6_remove.desc).map (fun d => d.parameters.length) = some 1 := by decide +kernel
set_option maxHeartbeats 8000000 in
set_option maxRecDepth 100000 in
theorem c_X6_remove (l : Launch) (D : va_G) (cI cJ cZ cO : ClassId) (mA mAx mAy mAi mAr mAo mAc mAg mAe mAS mAp : Nat) (mx : Nat → Int32) (my : Nat → Int32) (mi : Nat → Int32) (mn : Int32) (mr : Nat → Int32) (mo : Nat → Int32) (mf : Int32) (mt : Int32) (md : Int32) (mc : Nat → Int32) (mk : Int32) (mg : Nat → Int32) (mh : Int32) (me : Nat → Int32) (mS : Nat → Int64) (mp : Nat → Int32) (v1 : Int32) (K : Int32 → (Nat → Int32) → Int32 → Prop) (hw : wp_X6_remove mi mn v1 K) : Ci l D (tys4 cI cJ cZ cO) yX6_remove wsX6_remove { frames := 2, cells := 0, slots := 0, locals := 43 } [.ref mA, .int v1] [(mA, .inr (5, [.ref mAx, .ref mAy, .ref mAi, .int mn, .ref mAr, .ref mAo, .int mf, .int mt, .int md, .ref mAc, .int mk, .ref mAg, .int mh, .ref mAe, .ref mAS, .ref mAp])), (mAx, .inl (cI, 32, .inl mx)), (mAy, .inl (cI, 32, .inl my)), (mAi, .inl (cZ, 32, .inl mi)), (mAr, .inl (cI, 32, .inl mr)), (mAo, .inl (cI, 32, .inl mo)), (mAc, .inl (cI, 34, .inl mc)), (mAg, .inl (cI, 34, .inl mg)), (mAe, .inl (cI, 128, .inl me)), (mAS, .inl (cJ, 2, .inr (.inl mS))), (mAp, .inl (cZ, 2, .inl mp))] (fun (r : Int32) (u : (Nat → Int32) × (Int32)) => K r u.1 u.2) (fun u => [(mA, .inr (5, [.ref mAx, .ref mAy, .ref mAi, .int u.2, .ref mAr, .ref mAo, .int mf, .int mt, .int md, .ref mAc, .int mk, .ref mAg, .int mh, .ref mAe, .ref mAS, .ref mAp])), (mAx, .inl (cI, 32, .inl mx)), (mAy, .inl (cI, 32, .inl my)), (mAi, .inl (cZ, 32, .inl u.1)), (mAr, .inl (cI, 32, .inl mr)), (mAo, .inl (cI, 32, .inl mo)), (mAc, .inl (cI, 34, .inl mc)), (mAg, .inl (cI, 34, .inl mg)), (mAe, .inl (cI, 128, .inl me)), (mAS, .inl (cJ, 2, .inr (.inl mS))), (mAp, .inl (cZ, 2, .inl mp))]) := by
  refine mt_i (cc := cX6_remove) (maxL := 2) (rt := .int) (by decide) rfl (Nat.le_of_ble_eq_true rfl) ?_
  intro p e s m args below meth c Q A R ls hRf hRl hx hb hml hown hts hK hA hP hD hS hl ret
  have hown : s.vm.findClass RX6 = some m.cls := hown
  have hl : lv_has ls 2 [(0, .ref mA), (1, .int v1)] := hl
  unfold wp_X6_remove at hw
  refine lv_aload_n hx hb dX6_remove_0 rfl (lv_at hl 0 rfl) ?_
  refine lv_iload_n hx hb dX6_remove_1 rfl (lv_at hl 1 rfl) ?_
  refine cl_Vi (As := [.int v1]) (rest := []) ⟨hx, hb, hml, hown, hts⟩ (c_X6_isPoint l D cI cJ cZ cO mA mAx mAy mAi mAr mAo mAc mAg mAe mAS mAp mx my mi mn mr mo mf mt md mc mk mg mh me mS mp v1 _ hw) (cwV 1 hts gX6_remove_X6_isPoint rfl rfl rfl hd_X6_isPoint ⟨Nat.le_trans (Nat.le_of_ble_eq_true rfl) hRf, Nat.le_trans (Nat.le_of_ble_eq_true rfl) hRl⟩) hK hP hD hS hA [0, 1, 2, 3, 4, 5, 6, 7, 8, 9, 10] [] rfl (by decide) rfl (by decide) (by decide) 0 5 rfl rfl rfl hl.1 rfl (Nat.le_of_ble_eq_true rfl) dX6_remove_2 ⟨Nat.zero_le _, Nat.zero_le _⟩ (fun r2 _u H locs hw hP hD hS => ?_)
  try dsimp only at hw
  have hP : va_P D vwCl [(mA, .inr (5, [.ref mAx, .ref mAy, .ref mAi, .int mn, .ref mAr, .ref mAo, .int mf, .int mt, .int md, .ref mAc, .int mk, .ref mAg, .int mh, .ref mAe, .ref mAS, .ref mAp])), (mAx, .inl (cI, 32, .inl mx)), (mAy, .inl (cI, 32, .inl my)), (mAi, .inl (cZ, 32, .inl mi)), (mAr, .inl (cI, 32, .inl mr)), (mAo, .inl (cI, 32, .inl mo)), (mAc, .inl (cI, 34, .inl mc)), (mAg, .inl (cI, 34, .inl mg)), (mAe, .inl (cI, 128, .inl me)), (mAS, .inl (cJ, 2, .inr (.inl mS))), (mAp, .inl (cZ, 2, .inl mp))] H := hP.sub [0, 1, 2, 3, 4, 5, 6, 7, 8, 9, 10] rfl
  have hD : va_D A [(mA, .inr (5, [.ref mAx, .ref mAy, .ref mAi, .int mn, .ref mAr, .ref mAo, .int mf, .int mt, .int md, .ref mAc, .int mk, .ref mAg, .int mh, .ref mAe, .ref mAS, .ref mAp])), (mAx, .inl (cI, 32, .inl mx)), (mAy, .inl (cI, 32, .inl my)), (mAi, .inl (cZ, 32, .inl mi)), (mAr, .inl (cI, 32, .inl mr)), (mAo, .inl (cI, 32, .inl mo)), (mAc, .inl (cI, 34, .inl mc)), (mAg, .inl (cI, 34, .inl mg)), (mAe, .inl (cI, 128, .inl me)), (mAS, .inl (cJ, 2, .inr (.inl mS))), (mAp, .inl (cZ, 2, .inl mp))] := hD.sub [0, 1, 2, 3, 4, 5, 6, 7, 8, 9, 10] (by decide) rfl
  obtain ⟨hwA, hwB⟩ := hw
  refine lv_if_ne (tgt := 10) hx hb dX6_remove_5 (by decide) (fun cb => ?_) (fun cb => ?_)
  · have hw := hwA cb
    refine lv_aload_n hx hb dX6_remove_10 rfl (lv_at hl 0 rfl) ?_
    refine va_get (D := D) (ci := 5) (v := .ref mAi) (C := RX6) (T := TX6) (N := 16) hx hb hts in_X6_remove_X6 hown hK hP 0 rfl rfl 2 (by decide) (hts (.fieldLink RX6 16 "LiveHullModel" "is" "[Z") (List.mem_of_getElem? (i := 1) rfl)) (fun _ h9 => h9) rfl dX6_remove_11 ?_
    refine lv_iload_n hx hb dX6_remove_14 rfl (lv_at hl 1 rfl) ?_
    refine lv_iconst (v := 0) hx hb dX6_remove_15 (by decide) ?_
    obtain ⟨hi, hw⟩ := hw
    refine va_zast hx hb hK hP hD hS 3 2 rfl rfl hi dX6_remove_16 (fun H locs hP hD hS => ?_)
    have hP : va_P D vwCl [(mA, .inr (5, [.ref mAx, .ref mAy, .ref mAi, .int mn, .ref mAr, .ref mAo, .int mf, .int mt, .int md, .ref mAc, .int mk, .ref mAg, .int mh, .ref mAe, .ref mAS, .ref mAp])), (mAx, .inl (cI, 32, .inl mx)), (mAy, .inl (cI, 32, .inl my)), (mAi, .inl (cZ, 32, .inl (upd mi v1.toNatClampNeg (vp_nar .boolean 0)))), (mAr, .inl (cI, 32, .inl mr)), (mAo, .inl (cI, 32, .inl mo)), (mAc, .inl (cI, 34, .inl mc)), (mAg, .inl (cI, 34, .inl mg)), (mAe, .inl (cI, 128, .inl me)), (mAS, .inl (cJ, 2, .inr (.inl mS))), (mAp, .inl (cZ, 2, .inl mp))] H := hP
    have hD : va_D A [(mA, .inr (5, [.ref mAx, .ref mAy, .ref mAi, .int mn, .ref mAr, .ref mAo, .int mf, .int mt, .int md, .ref mAc, .int mk, .ref mAg, .int mh, .ref mAe, .ref mAS, .ref mAp])), (mAx, .inl (cI, 32, .inl mx)), (mAy, .inl (cI, 32, .inl my)), (mAi, .inl (cZ, 32, .inl (upd mi v1.toNatClampNeg (vp_nar .boolean 0)))), (mAr, .inl (cI, 32, .inl mr)), (mAo, .inl (cI, 32, .inl mo)), (mAc, .inl (cI, 34, .inl mc)), (mAg, .inl (cI, 34, .inl mg)), (mAe, .inl (cI, 128, .inl me)), (mAS, .inl (cJ, 2, .inr (.inl mS))), (mAp, .inl (cZ, 2, .inl mp))] := hD
    refine lv_aload_n hx hb dX6_remove_17 rfl (lv_at hl 0 rfl) ?_
    refine lv_dup hx hb dX6_remove_18 rfl ?_
    refine va_get (D := D) (ci := 5) (v := .int mn) (C := RX6) (T := TX6) (N := 16) hx hb hts in_X6_remove_X6 hown hK hP 0 rfl rfl 3 (by decide) (hts (.fieldLink RX6 55 "LiveHullModel" "many" "I") (List.mem_of_getElem? (i := 2) rfl)) (fun _ h9 => h9) rfl dX6_remove_19 ?_
    refine lv_iconst (v := 1) hx hb dX6_remove_22 (by decide) ?_
    refine lv_isub hx hb dX6_remove_23 ?_
    refine va_put (D := D) (ci := 5) (v := .int (mn - 1)) (ty := .int) (C := RX6) (T := TX6) (N := 16) hx hb hts in_X6_remove_X6 tyX6 tyX6_ok nmX6 hown hK hP hD hS 0 rfl rfl 3 (by decide) (hts (.fieldLink RX6 55 "LiveHullModel" "many" "I") (List.mem_of_getElem? (i := 2) rfl)) (fun _ h9 => h9) rfl (by decide +kernel) rfl rfl (Nat.le_of_ble_eq_true rfl) dX6_remove_24 (fun H locs hP hD hS => ?_)
    have hP : va_P D vwCl [(mA, .inr (5, [.ref mAx, .ref mAy, .ref mAi, .int (mn - 1), .ref mAr, .ref mAo, .int mf, .int mt, .int md, .ref mAc, .int mk, .ref mAg, .int mh, .ref mAe, .ref mAS, .ref mAp])), (mAx, .inl (cI, 32, .inl mx)), (mAy, .inl (cI, 32, .inl my)), (mAi, .inl (cZ, 32, .inl (upd mi v1.toNatClampNeg (vp_nar .boolean 0)))), (mAr, .inl (cI, 32, .inl mr)), (mAo, .inl (cI, 32, .inl mo)), (mAc, .inl (cI, 34, .inl mc)), (mAg, .inl (cI, 34, .inl mg)), (mAe, .inl (cI, 128, .inl me)), (mAS, .inl (cJ, 2, .inr (.inl mS))), (mAp, .inl (cZ, 2, .inl mp))] H := hP
    have hD : va_D A [(mA, .inr (5, [.ref mAx, .ref mAy, .ref mAi, .int (mn - 1), .ref mAr, .ref mAo, .int mf, .int mt, .int md, .ref mAc, .int mk, .ref mAg, .int mh, .ref mAe, .ref mAS, .ref mAp])), (mAx, .inl (cI, 32, .inl mx)), (mAy, .inl (cI, 32, .inl my)), (mAi, .inl (cZ, 32, .inl (upd mi v1.toNatClampNeg (vp_nar .boolean 0)))), (mAr, .inl (cI, 32, .inl mr)), (mAo, .inl (cI, 32, .inl mo)), (mAc, .inl (cI, 34, .inl mc)), (mAg, .inl (cI, 34, .inl mg)), (mAe, .inl (cI, 128, .inl me)), (mAS, .inl (cJ, 2, .inr (.inl mS))), (mAp, .inl (cZ, 2, .inl mp))] := hD
    refine lv_aload_n hx hb dX6_remove_27 rfl (lv_at hl 0 rfl) ?_
    refine va_get (D := D) (ci := 5) (v := .int (mn - 1)) (C := RX6) (T := TX6) (N := 16) hx hb hts in_X6_remove_X6 hown hK hP 0 rfl rfl 3 (by decide) (hts (.fieldLink RX6 55 "LiveHullModel" "many" "I") (List.mem_of_getElem? (i := 2) rfl)) (fun _ h9 => h9) rfl dX6_remove_28 ?_
    exact ret _ _ _ _ (mn - 1) ((upd mi v1.toNatClampNeg (vp_nar .boolean 0)), (mn - 1)) (vp_nar_int _) hw hP hD hS dX6_remove_31
  · have hw := hwB cb
    refine lv_iconst (v := (-1)) hx hb dX6_remove_8 (by decide) ?_
    exact ret _ _ _ _ (-1) (mi, mn) (vp_nar_int _) hw hP hD hS dX6_remove_9
theorem in_X6_move_X6 : ∀ w ∈ wsX60, w ∈ wsX6_move := fun _ h => List.mem_cons_of_mem _ (List.mem_append_right _ h)
theorem hd_X6_move : yX6_move.cls = RX6 ∧ yX6_move.cls ≠ "java/lang/invoke/MethodHandle" ∧ yX6_move.cls ≠ "java/lang/invoke/VarHandle" ∧ (parseMethodDescriptor yX6_move.desc).map (fun d => d.parameters.length) = some 3 := by decide +kernel
set_option maxHeartbeats 8000000 in
set_option maxRecDepth 100000 in
theorem c_X6_move (l : Launch) (D : va_G) (cI cJ cZ cO : ClassId) (mA mAx mAy mAi mAr mAo mAc mAg mAe mAS mAp : Nat) (mx : Nat → Int32) (my : Nat → Int32) (mi : Nat → Int32) (mn : Int32) (mr : Nat → Int32) (mo : Nat → Int32) (mf : Int32) (mt : Int32) (md : Int32) (mc : Nat → Int32) (mk : Int32) (mg : Nat → Int32) (mh : Int32) (me : Nat → Int32) (mS : Nat → Int64) (mp : Nat → Int32) (v1 : Int32) (v2 : Int32) (v3 : Int32) (K : Int32 → (Nat → Int32) → (Nat → Int32) → Prop) (hw : wp_X6_move mx my mi v1 v2 v3 K) : Ci l D (tys4 cI cJ cZ cO) yX6_move wsX6_move { frames := 2, cells := 0, slots := 0, locals := 43 } [.ref mA, .int v1, .int v2, .int v3] [(mA, .inr (5, [.ref mAx, .ref mAy, .ref mAi, .int mn, .ref mAr, .ref mAo, .int mf, .int mt, .int md, .ref mAc, .int mk, .ref mAg, .int mh, .ref mAe, .ref mAS, .ref mAp])), (mAx, .inl (cI, 32, .inl mx)), (mAy, .inl (cI, 32, .inl my)), (mAi, .inl (cZ, 32, .inl mi)), (mAr, .inl (cI, 32, .inl mr)), (mAo, .inl (cI, 32, .inl mo)), (mAc, .inl (cI, 34, .inl mc)), (mAg, .inl (cI, 34, .inl mg)), (mAe, .inl (cI, 128, .inl me)), (mAS, .inl (cJ, 2, .inr (.inl mS))), (mAp, .inl (cZ, 2, .inl mp))] (fun (r : Int32) (u : (Nat → Int32) × (Nat → Int32)) => K r u.1 u.2) (fun u => [(mA, .inr (5, [.ref mAx, .ref mAy, .ref mAi, .int mn, .ref mAr, .ref mAo, .int mf, .int mt, .int md, .ref mAc, .int mk, .ref mAg, .int mh, .ref mAe, .ref mAS, .ref mAp])), (mAx, .inl (cI, 32, .inl u.1)), (mAy, .inl (cI, 32, .inl u.2)), (mAi, .inl (cZ, 32, .inl mi)), (mAr, .inl (cI, 32, .inl mr)), (mAo, .inl (cI, 32, .inl mo)), (mAc, .inl (cI, 34, .inl mc)), (mAg, .inl (cI, 34, .inl mg)), (mAe, .inl (cI, 128, .inl me)), (mAS, .inl (cJ, 2, .inr (.inl mS))), (mAp, .inl (cZ, 2, .inl mp))]) := by
  refine mt_i (cc := cX6_move) (maxL := 4) (rt := .int) (by decide) rfl (Nat.le_of_ble_eq_true rfl) ?_
  intro p e s m args below meth c Q A R ls hRf hRl hx hb hml hown hts hK hA hP hD hS hl ret
  have hown : s.vm.findClass RX6 = some m.cls := hown
  have hl : lv_has ls 4 [(0, .ref mA), (1, .int v1), (2, .int v2), (3, .int v3)] := hl
  unfold wp_X6_move at hw
  refine lv_aload_n hx hb dX6_move_0 rfl (lv_at hl 0 rfl) ?_
  refine lv_iload_n hx hb dX6_move_1 rfl (lv_at hl 1 rfl) ?_
  refine cl_Vi (As := [.int v1]) (rest := []) ⟨hx, hb, hml, hown, hts⟩ (c_X6_isPoint l D cI cJ cZ cO mA mAx mAy mAi mAr mAo mAc mAg mAe mAS mAp mx my mi mn mr mo mf mt md mc mk mg mh me mS mp v1 _ hw) (cwV 1 hts gX6_move_X6_isPoint rfl rfl rfl hd_X6_isPoint ⟨Nat.le_trans (Nat.le_of_ble_eq_true rfl) hRf, Nat.le_trans (Nat.le_of_ble_eq_true rfl) hRl⟩) hK hP hD hS hA [0, 1, 2, 3, 4, 5, 6, 7, 8, 9, 10] [] rfl (by decide) rfl (by decide) (by decide) 0 5 rfl rfl rfl hl.1 rfl (Nat.le_of_ble_eq_true rfl) dX6_move_2 ⟨Nat.zero_le _, Nat.zero_le _⟩ (fun r2 _u H locs hw hP hD hS => ?_)
  try dsimp only at hw
  have hP : va_P D vwCl [(mA, .inr (5, [.ref mAx, .ref mAy, .ref mAi, .int mn, .ref mAr, .ref mAo, .int mf, .int mt, .int md, .ref mAc, .int mk, .ref mAg, .int mh, .ref mAe, .ref mAS, .ref mAp])), (mAx, .inl (cI, 32, .inl mx)), (mAy, .inl (cI, 32, .inl my)), (mAi, .inl (cZ, 32, .inl mi)), (mAr, .inl (cI, 32, .inl mr)), (mAo, .inl (cI, 32, .inl mo)), (mAc, .inl (cI, 34, .inl mc)), (mAg, .inl (cI, 34, .inl mg)), (mAe, .inl (cI, 128, .inl me)), (mAS, .inl (cJ, 2, .inr (.inl mS))), (mAp, .inl (cZ, 2, .inl mp))] H := hP.sub [0, 1, 2, 3, 4, 5, 6, 7, 8, 9, 10] rfl
  have hD : va_D A [(mA, .inr (5, [.ref mAx, .ref mAy, .ref mAi, .int mn, .ref mAr, .ref mAo, .int mf, .int mt, .int md, .ref mAc, .int mk, .ref mAg, .int mh, .ref mAe, .ref mAS, .ref mAp])), (mAx, .inl (cI, 32, .inl mx)), (mAy, .inl (cI, 32, .inl my)), (mAi, .inl (cZ, 32, .inl mi)), (mAr, .inl (cI, 32, .inl mr)), (mAo, .inl (cI, 32, .inl mo)), (mAc, .inl (cI, 34, .inl mc)), (mAg, .inl (cI, 34, .inl mg)), (mAe, .inl (cI, 128, .inl me)), (mAS, .inl (cJ, 2, .inr (.inl mS))), (mAp, .inl (cZ, 2, .inl mp))] := hD.sub [0, 1, 2, 3, 4, 5, 6, 7, 8, 9, 10] (by decide) rfl
  obtain ⟨hwA, hwB⟩ := hw
  refine lv_if_ne (tgt := 10) hx hb dX6_move_5 (by decide) (fun cb => ?_) (fun cb => ?_)
  · have hw := hwA cb
    refine lv_iload_n hx hb dX6_move_10 rfl (lv_at hl 2 rfl) ?_
    refine lv_iload_n hx hb dX6_move_11 rfl (lv_at hl 3 rfl) ?_
    refine cl_Si (As := [.int v2, .int v3]) (rest := []) ⟨hx, hb, hml, hown, hts⟩ (c_X6_isPlace l D cI cJ cZ cO   v2 v3 _ hw) (va_cwS 2 hts gX6_move_X6_isPlace rfl rfl rfl hd_X6_isPlace.2 ⟨Nat.le_trans (Nat.le_of_ble_eq_true rfl) hRf, Nat.le_trans (Nat.le_of_ble_eq_true rfl) hRl⟩) hK hP hD hS hA [] [0, 1, 2, 3, 4, 5, 6, 7, 8, 9, 10] rfl (by decide) rfl (by decide) (by decide) rfl hl.1 rfl (Nat.le_of_ble_eq_true rfl) dX6_move_12 ⟨Nat.zero_le _, Nat.zero_le _⟩ (fun r12 _u H locs hw hP hD hS => ?_)
    try dsimp only at hw
    have hP : va_P D vwCl [(mA, .inr (5, [.ref mAx, .ref mAy, .ref mAi, .int mn, .ref mAr, .ref mAo, .int mf, .int mt, .int md, .ref mAc, .int mk, .ref mAg, .int mh, .ref mAe, .ref mAS, .ref mAp])), (mAx, .inl (cI, 32, .inl mx)), (mAy, .inl (cI, 32, .inl my)), (mAi, .inl (cZ, 32, .inl mi)), (mAr, .inl (cI, 32, .inl mr)), (mAo, .inl (cI, 32, .inl mo)), (mAc, .inl (cI, 34, .inl mc)), (mAg, .inl (cI, 34, .inl mg)), (mAe, .inl (cI, 128, .inl me)), (mAS, .inl (cJ, 2, .inr (.inl mS))), (mAp, .inl (cZ, 2, .inl mp))] H := hP.sub [0, 1, 2, 3, 4, 5, 6, 7, 8, 9, 10] rfl
    have hD : va_D A [(mA, .inr (5, [.ref mAx, .ref mAy, .ref mAi, .int mn, .ref mAr, .ref mAo, .int mf, .int mt, .int md, .ref mAc, .int mk, .ref mAg, .int mh, .ref mAe, .ref mAS, .ref mAp])), (mAx, .inl (cI, 32, .inl mx)), (mAy, .inl (cI, 32, .inl my)), (mAi, .inl (cZ, 32, .inl mi)), (mAr, .inl (cI, 32, .inl mr)), (mAo, .inl (cI, 32, .inl mo)), (mAc, .inl (cI, 34, .inl mc)), (mAg, .inl (cI, 34, .inl mg)), (mAe, .inl (cI, 128, .inl me)), (mAS, .inl (cJ, 2, .inr (.inl mS))), (mAp, .inl (cZ, 2, .inl mp))] := hD.sub [0, 1, 2, 3, 4, 5, 6, 7, 8, 9, 10] (by decide) rfl
    obtain ⟨hwA, hwB⟩ := hw
    refine lv_if_ne (tgt := 21) hx hb dX6_move_15 (by decide) (fun cb => ?_) (fun cb => ?_)
    · have hw := hwA cb
      refine lv_aload_n hx hb dX6_move_21 rfl (lv_at hl 0 rfl) ?_
      refine lv_iload_n hx hb dX6_move_22 rfl (lv_at hl 2 rfl) ?_
      refine lv_iload_n hx hb dX6_move_23 rfl (lv_at hl 3 rfl) ?_
      refine cl_Vi (As := [.int v2, .int v3]) (rest := []) ⟨hx, hb, hml, hown, hts⟩ (c_X6_isTaken l D cI cJ cZ cO mA mAx mAy mAi mAr mAo mAc mAg mAe mAS mAp mx my mi mn mr mo mf mt md mc mk mg mh me mS mp v2 v3 _ hw) (cwV 2 hts gX6_move_X6_isTaken rfl rfl rfl hd_X6_isTaken ⟨Nat.le_trans (Nat.le_of_ble_eq_true rfl) hRf, Nat.le_trans (Nat.le_of_ble_eq_true rfl) hRl⟩) hK hP hD hS hA [0, 1, 2, 3, 4, 5, 6, 7, 8, 9, 10] [] rfl (by decide) rfl (by decide) (by decide) 0 5 rfl rfl rfl hl.1 rfl (Nat.le_of_ble_eq_true rfl) dX6_move_24 ⟨Nat.zero_le _, Nat.zero_le _⟩ (fun r24 _u H locs hw hP hD hS => ?_)
      try dsimp only at hw
      have hP : va_P D vwCl [(mA, .inr (5, [.ref mAx, .ref mAy, .ref mAi, .int mn, .ref mAr, .ref mAo, .int mf, .int mt, .int md, .ref mAc, .int mk, .ref mAg, .int mh, .ref mAe, .ref mAS, .ref mAp])), (mAx, .inl (cI, 32, .inl mx)), (mAy, .inl (cI, 32, .inl my)), (mAi, .inl (cZ, 32, .inl mi)), (mAr, .inl (cI, 32, .inl mr)), (mAo, .inl (cI, 32, .inl mo)), (mAc, .inl (cI, 34, .inl mc)), (mAg, .inl (cI, 34, .inl mg)), (mAe, .inl (cI, 128, .inl me)), (mAS, .inl (cJ, 2, .inr (.inl mS))), (mAp, .inl (cZ, 2, .inl mp))] H := hP.sub [0, 1, 2, 3, 4, 5, 6, 7, 8, 9, 10] rfl
      have hD : va_D A [(mA, .inr (5, [.ref mAx, .ref mAy, .ref mAi, .int mn, .ref mAr, .ref mAo, .int mf, .int mt, .int md, .ref mAc, .int mk, .ref mAg, .int mh, .ref mAe, .ref mAS, .ref mAp])), (mAx, .inl (cI, 32, .inl mx)), (mAy, .inl (cI, 32, .inl my)), (mAi, .inl (cZ, 32, .inl mi)), (mAr, .inl (cI, 32, .inl mr)), (mAo, .inl (cI, 32, .inl mo)), (mAc, .inl (cI, 34, .inl mc)), (mAg, .inl (cI, 34, .inl mg)), (mAe, .inl (cI, 128, .inl me)), (mAS, .inl (cJ, 2, .inr (.inl mS))), (mAp, .inl (cZ, 2, .inl mp))] := hD.sub [0, 1, 2, 3, 4, 5, 6, 7, 8, 9, 10] (by decide) rfl
      obtain ⟨hwA, hwB⟩ := hw
      refine lv_if_eq (tgt := 33) hx hb dX6_move_27 (by decide) (fun cb => ?_) (fun cb => ?_)
      · have hw := hwA cb
        refine lv_aload_n hx hb dX6_move_33 rfl (lv_at hl 0 rfl) ?_
        refine va_get (D := D) (ci := 5) (v := .ref mAx) (C := RX6) (T := TX6) (N := 16) hx hb hts in_X6_move_X6 hown hK hP 0 rfl rfl 0 (by decide) (hts (.fieldLink RX6 7 "LiveHullModel" "xs" "[I") (List.mem_of_getElem? (i := 1) rfl)) (fun _ h9 => h9) rfl dX6_move_34 ?_
        refine lv_iload_n hx hb dX6_move_37 rfl (lv_at hl 1 rfl) ?_
        refine lv_iload_n hx hb dX6_move_38 rfl (lv_at hl 2 rfl) ?_
        obtain ⟨hi, hw⟩ := hw
        refine va_iast hx hb hK hP hD hS 1 0 rfl rfl hi dX6_move_39 (fun H locs hP hD hS => ?_)
        have hP : va_P D vwCl [(mA, .inr (5, [.ref mAx, .ref mAy, .ref mAi, .int mn, .ref mAr, .ref mAo, .int mf, .int mt, .int md, .ref mAc, .int mk, .ref mAg, .int mh, .ref mAe, .ref mAS, .ref mAp])), (mAx, .inl (cI, 32, .inl (upd mx v1.toNatClampNeg v2))), (mAy, .inl (cI, 32, .inl my)), (mAi, .inl (cZ, 32, .inl mi)), (mAr, .inl (cI, 32, .inl mr)), (mAo, .inl (cI, 32, .inl mo)), (mAc, .inl (cI, 34, .inl mc)), (mAg, .inl (cI, 34, .inl mg)), (mAe, .inl (cI, 128, .inl me)), (mAS, .inl (cJ, 2, .inr (.inl mS))), (mAp, .inl (cZ, 2, .inl mp))] H := hP
        have hD : va_D A [(mA, .inr (5, [.ref mAx, .ref mAy, .ref mAi, .int mn, .ref mAr, .ref mAo, .int mf, .int mt, .int md, .ref mAc, .int mk, .ref mAg, .int mh, .ref mAe, .ref mAS, .ref mAp])), (mAx, .inl (cI, 32, .inl (upd mx v1.toNatClampNeg v2))), (mAy, .inl (cI, 32, .inl my)), (mAi, .inl (cZ, 32, .inl mi)), (mAr, .inl (cI, 32, .inl mr)), (mAo, .inl (cI, 32, .inl mo)), (mAc, .inl (cI, 34, .inl mc)), (mAg, .inl (cI, 34, .inl mg)), (mAe, .inl (cI, 128, .inl me)), (mAS, .inl (cJ, 2, .inr (.inl mS))), (mAp, .inl (cZ, 2, .inl mp))] := hD
        refine lv_aload_n hx hb dX6_move_40 rfl (lv_at hl 0 rfl) ?_
        refine va_get (D := D) (ci := 5) (v := .ref mAy) (C := RX6) (T := TX6) (N := 16) hx hb hts in_X6_move_X6 hown hK hP 0 rfl rfl 1 (by decide) (hts (.fieldLink RX6 13 "LiveHullModel" "ys" "[I") (List.mem_of_getElem? (i := 2) rfl)) (fun _ h9 => h9) rfl dX6_move_41 ?_
        refine lv_iload_n hx hb dX6_move_44 rfl (lv_at hl 1 rfl) ?_
        refine lv_iload_n hx hb dX6_move_45 rfl (lv_at hl 3 rfl) ?_
        obtain ⟨hi, hw⟩ := hw
        refine va_iast hx hb hK hP hD hS 2 0 rfl rfl hi dX6_move_46 (fun H locs hP hD hS => ?_)
        have hP : va_P D vwCl [(mA, .inr (5, [.ref mAx, .ref mAy, .ref mAi, .int mn, .ref mAr, .ref mAo, .int mf, .int mt, .int md, .ref mAc, .int mk, .ref mAg, .int mh, .ref mAe, .ref mAS, .ref mAp])), (mAx, .inl (cI, 32, .inl (upd mx v1.toNatClampNeg v2))), (mAy, .inl (cI, 32, .inl (upd my v1.toNatClampNeg v3))), (mAi, .inl (cZ, 32, .inl mi)), (mAr, .inl (cI, 32, .inl mr)), (mAo, .inl (cI, 32, .inl mo)), (mAc, .inl (cI, 34, .inl mc)), (mAg, .inl (cI, 34, .inl mg)), (mAe, .inl (cI, 128, .inl me)), (mAS, .inl (cJ, 2, .inr (.inl mS))), (mAp, .inl (cZ, 2, .inl mp))] H := hP
        have hD : va_D A [(mA, .inr (5, [.ref mAx, .ref mAy, .ref mAi, .int mn, .ref mAr, .ref mAo, .int mf, .int mt, .int md, .ref mAc, .int mk, .ref mAg, .int mh, .ref mAe, .ref mAS, .ref mAp])), (mAx, .inl (cI, 32, .inl (upd mx v1.toNatClampNeg v2))), (mAy, .inl (cI, 32, .inl (upd my v1.toNatClampNeg v3))), (mAi, .inl (cZ, 32, .inl mi)), (mAr, .inl (cI, 32, .inl mr)), (mAo, .inl (cI, 32, .inl mo)), (mAc, .inl (cI, 34, .inl mc)), (mAg, .inl (cI, 34, .inl mg)), (mAe, .inl (cI, 128, .inl me)), (mAS, .inl (cJ, 2, .inr (.inl mS))), (mAp, .inl (cZ, 2, .inl mp))] := hD
        refine lv_iconst (v := 1) hx hb dX6_move_47 (by decide) ?_
        exact ret _ _ _ _ 1 ((upd mx v1.toNatClampNeg v2), (upd my v1.toNatClampNeg v3)) (vp_nar_int _) hw hP hD hS dX6_move_48
      · have hw := hwB cb
        refine lv_bipush (v := (-5)) hx hb dX6_move_30 (by decide) ?_
        exact ret _ _ _ _ (-5) (mx, my) (vp_nar_int _) hw hP hD hS dX6_move_32
    · have hw := hwB cb
      refine lv_bipush (v := (-2)) hx hb dX6_move_18 (by decide) ?_
      exact ret _ _ _ _ (-2) (mx, my) (vp_nar_int _) hw hP hD hS dX6_move_20
  · have hw := hwB cb
    refine lv_iconst (v := (-1)) hx hb dX6_move_8 (by decide) ?_
    exact ret _ _ _ _ (-1) (mx, my) (vp_nar_int _) hw hP hD hS dX6_move_9
theorem in_X6_layRanks_X6 : ∀ w ∈ wsX60, w ∈ wsX6_layRanks := fun _ h => List.mem_cons_of_mem _ (List.mem_append_right _ h)
theorem hd_X6_layRanks : yX6_layRanks.cls = RX6 ∧ yX6_layRanks.cls ≠ "java/lang/invoke/MethodHandle" ∧ yX6_layRanks.cls ≠ "java/lang/invoke/VarHandle" ∧ (parseMethodDescriptor yX6_layRanks.desc).map (fun d => d.parameters.length) = some 0 := by decide +kernel
set_option maxHeartbeats 8000000 in
set_option maxRecDepth 100000 in
theorem c_X6_layRanks (l : Launch) (D : va_G) (cI cJ cZ cO : ClassId) (mA mAx mAy mAi mAr mAo mAc mAg mAe mAS mAp : Nat) (mx : Nat → Int32) (my : Nat → Int32) (mi : Nat → Int32) (mn : Int32) (mr : Nat → Int32) (mo : Nat → Int32) (mf : Int32) (mt : Int32) (md : Int32) (mc : Nat → Int32) (mk : Int32) (mg : Nat → Int32) (mh : Int32) (me : Nat → Int32) (mS : Nat → Int64) (mp : Nat → Int32)  (K : (Nat → Int32) → (Nat → Int32) → Prop) (hw : wp_X6_layRanks mx my mi mr mo K) : Cv l D (tys4 cI cJ cZ cO) yX6_layRanks wsX6_layRanks { frames := 0, cells := 0, slots := 0, locals := 0 } [.ref mA] [(mA, .inr (5, [.ref mAx, .ref mAy, .ref mAi, .int mn, .ref mAr, .ref mAo, .int mf, .int mt, .int md, .ref mAc, .int mk, .ref mAg, .int mh, .ref mAe, .ref mAS, .ref mAp])), (mAx, .inl (cI, 32, .inl mx)), (mAy, .inl (cI, 32, .inl my)), (mAi, .inl (cZ, 32, .inl mi)), (mAr, .inl (cI, 32, .inl mr)), (mAo, .inl (cI, 32, .inl mo)), (mAc, .inl (cI, 34, .inl mc)), (mAg, .inl (cI, 34, .inl mg)), (mAe, .inl (cI, 128, .inl me)), (mAS, .inl (cJ, 2, .inr (.inl mS))), (mAp, .inl (cZ, 2, .inl mp))] (fun (u : (Nat → Int32) × (Nat → Int32)) => K u.1 u.2) (fun u => [(mA, .inr (5, [.ref mAx, .ref mAy, .ref mAi, .int mn, .ref mAr, .ref mAo, .int mf, .int mt, .int md, .ref mAc, .int mk, .ref mAg, .int mh, .ref mAe, .ref mAS, .ref mAp])), (mAx, .inl (cI, 32, .inl mx)), (mAy, .inl (cI, 32, .inl my)), (mAi, .inl (cZ, 32, .inl mi)), (mAr, .inl (cI, 32, .inl u.1)), (mAo, .inl (cI, 32, .inl u.2)), (mAc, .inl (cI, 34, .inl mc)), (mAg, .inl (cI, 34, .inl mg)), (mAe, .inl (cI, 128, .inl me)), (mAS, .inl (cJ, 2, .inr (.inl mS))), (mAp, .inl (cZ, 2, .inl mp))]) := by
  refine mt_v (cc := cX6_layRanks) (maxL := 4) (by decide) rfl (Nat.le_of_ble_eq_true rfl) ?_
  intro p e s m args below meth c Q A R ls hRf hRl hx hb hml hown hts hK hA hP hD hS hl ret
  have hown : s.vm.findClass RX6 = some m.cls := hown
  have hl : lv_has ls 4 [(0, .ref mA)] := hl
  have N129 : ∀ (mr : Nat → Int32) (v1 : Int32) (k : Nat) (mo : Nat → Int32) (v2 : Int32), wp_X6_layRanks_129 mx my mi K  mr v1 k mo v2 → ∀ (H : Heap) (locs : List Loc) (ls : Array Slot), va_P D vwCl [(mA, .inr (5, [.ref mAx, .ref mAy, .ref mAi, .int mn, .ref mAr, .ref mAo, .int mf, .int mt, .int md, .ref mAc, .int mk, .ref mAg, .int mh, .ref mAe, .ref mAS, .ref mAp])), (mAx, .inl (cI, 32, .inl mx)), (mAy, .inl (cI, 32, .inl my)), (mAi, .inl (cZ, 32, .inl mi)), (mAr, .inl (cI, 32, .inl mr)), (mAo, .inl (cI, 32, .inl mo)), (mAc, .inl (cI, 34, .inl mc)), (mAg, .inl (cI, 34, .inl mg)), (mAe, .inl (cI, 128, .inl me)), (mAS, .inl (cJ, 2, .inr (.inl mS))), (mAp, .inl (cZ, 2, .inl mp))] H → va_D A [(mA, .inr (5, [.ref mAx, .ref mAy, .ref mAi, .int mn, .ref mAr, .ref mAo, .int mf, .int mt, .int md, .ref mAc, .int mk, .ref mAg, .int mh, .ref mAe, .ref mAS, .ref mAp])), (mAx, .inl (cI, 32, .inl mx)), (mAy, .inl (cI, 32, .inl my)), (mAi, .inl (cZ, 32, .inl mi)), (mAr, .inl (cI, 32, .inl mr)), (mAo, .inl (cI, 32, .inl mo)), (mAc, .inl (cI, 34, .inl mc)), (mAg, .inl (cI, 34, .inl mg)), (mAe, .inl (cI, 128, .inl me)), (mAS, .inl (cJ, 2, .inr (.inl mS))), (mAp, .inl (cZ, 2, .inl mp))] → va_S A s.heap H locs → lv_has ls 4 [(0, .ref mA), (1, .int v1), (2, .int v2)] → W p l e R s m args below meth c H locs 0 0 Q (F0 m 129 ls []) := by
    intro mr v1
    intro k
    induction k with
    | zero => intro mo v2 hw; exact False.elim hw
    | succ k ih129 =>
      intro mo v2 hw H locs ls hP hD hS hl
      have hw : wp_X6_layRanks_129b mx my mi K (wp_X6_layRanks_129 mx my mi K  mr v1 k)  mr v1 mo v2 := hw
      unfold wp_X6_layRanks_129b at hw
      generalize wp_X6_layRanks_129 mx my mi K  mr v1 k = L129 at hw ih129
      refine lv_iload_n hx hb dX6_layRanks_129 rfl (lv_at hl 2 rfl) ?_
      refine lv_iload_n hx hb dX6_layRanks_130 rfl (lv_at hl 1 rfl) ?_
      obtain ⟨hwA, hwB⟩ := hw
      refine lv_icmp_ge (tgt := 152) hx hb dX6_layRanks_131 (by decide) (fun cb => ?_) (fun cb => ?_)
      · have hw := hwA cb
        exact ret _ _ _ _ (mr, mo) hw hP hD hS dX6_layRanks_152
      · have hw := hwB cb
        refine lv_aload_n hx hb dX6_layRanks_134 rfl (lv_at hl 0 rfl) ?_
        refine va_get (D := D) (ci := 5) (v := .ref mAo) (C := RX6) (T := TX6) (N := 16) hx hb hts in_X6_layRanks_X6 hown hK hP 0 rfl rfl 5 (by decide) (hts (.fieldLink RX6 23 "LiveHullModel" "rankOf" "[I") (List.mem_of_getElem? (i := 5) rfl)) (fun _ h9 => h9) rfl dX6_layRanks_135 ?_
        refine lv_aload_n hx hb dX6_layRanks_138 rfl (lv_at hl 0 rfl) ?_
        refine va_get (D := D) (ci := 5) (v := .ref mAr) (C := RX6) (T := TX6) (N := 16) hx hb hts in_X6_layRanks_X6 hown hK hP 0 rfl rfl 4 (by decide) (hts (.fieldLink RX6 20 "LiveHullModel" "ranks" "[I") (List.mem_of_getElem? (i := 3) rfl)) (fun _ h9 => h9) rfl dX6_layRanks_139 ?_
        refine lv_iload_n hx hb dX6_layRanks_142 rfl (lv_at hl 2 rfl) ?_
        obtain ⟨hi, hw⟩ := hw
        refine va_iald hx hb hK hP 4 0 rfl rfl hi dX6_layRanks_143 ?_
        refine lv_iload_n hx hb dX6_layRanks_144 rfl (lv_at hl 2 rfl) ?_
        obtain ⟨hi, hw⟩ := hw
        refine va_iast hx hb hK hP hD hS 5 0 rfl rfl hi dX6_layRanks_145 (fun H locs hP hD hS => ?_)
        have hP : va_P D vwCl [(mA, .inr (5, [.ref mAx, .ref mAy, .ref mAi, .int mn, .ref mAr, .ref mAo, .int mf, .int mt, .int md, .ref mAc, .int mk, .ref mAg, .int mh, .ref mAe, .ref mAS, .ref mAp])), (mAx, .inl (cI, 32, .inl mx)), (mAy, .inl (cI, 32, .inl my)), (mAi, .inl (cZ, 32, .inl mi)), (mAr, .inl (cI, 32, .inl mr)), (mAo, .inl (cI, 32, .inl (upd mo (mr v2.toNatClampNeg).toNatClampNeg v2))), (mAc, .inl (cI, 34, .inl mc)), (mAg, .inl (cI, 34, .inl mg)), (mAe, .inl (cI, 128, .inl me)), (mAS, .inl (cJ, 2, .inr (.inl mS))), (mAp, .inl (cZ, 2, .inl mp))] H := hP
        have hD : va_D A [(mA, .inr (5, [.ref mAx, .ref mAy, .ref mAi, .int mn, .ref mAr, .ref mAo, .int mf, .int mt, .int md, .ref mAc, .int mk, .ref mAg, .int mh, .ref mAe, .ref mAS, .ref mAp])), (mAx, .inl (cI, 32, .inl mx)), (mAy, .inl (cI, 32, .inl my)), (mAi, .inl (cZ, 32, .inl mi)), (mAr, .inl (cI, 32, .inl mr)), (mAo, .inl (cI, 32, .inl (upd mo (mr v2.toNatClampNeg).toNatClampNeg v2))), (mAc, .inl (cI, 34, .inl mc)), (mAg, .inl (cI, 34, .inl mg)), (mAe, .inl (cI, 128, .inl me)), (mAS, .inl (cJ, 2, .inr (.inl mS))), (mAp, .inl (cZ, 2, .inl mp))] := hD
        refine lv_iinc (v := (v2 + 1)) (lv' := [(2, .int (v2 + 1)), (0, .ref mA), (1, .int v1)]) hx hb dX6_layRanks_146 hl (k := 2) rfl rfl (by decide) rfl (fun ls hl => ?_)
        refine lv_goto (tgt := 129) hx hb dX6_layRanks_149 (by decide) ?_
        exact ih129 (upd mo (mr v2.toNatClampNeg).toNatClampNeg v2) (v2 + 1) hw _ _ _ hP hD hS (lv_sub hl [1, 2, 0] rfl)
  have N4 : ∀ (mo : Nat → Int32) (k : Nat) (mr : Nat → Int32) (v1 : Int32) (v2 : Int32), wp_X6_layRanks_4 mx my mi K  mo k mr v1 v2 → ∀ (H : Heap) (locs : List Loc) (ls : Array Slot), va_P D vwCl [(mA, .inr (5, [.ref mAx, .ref mAy, .ref mAi, .int mn, .ref mAr, .ref mAo, .int mf, .int mt, .int md, .ref mAc, .int mk, .ref mAg, .int mh, .ref mAe, .ref mAS, .ref mAp])), (mAx, .inl (cI, 32, .inl mx)), (mAy, .inl (cI, 32, .inl my)), (mAi, .inl (cZ, 32, .inl mi)), (mAr, .inl (cI, 32, .inl mr)), (mAo, .inl (cI, 32, .inl mo)), (mAc, .inl (cI, 34, .inl mc)), (mAg, .inl (cI, 34, .inl mg)), (mAe, .inl (cI, 128, .inl me)), (mAS, .inl (cJ, 2, .inr (.inl mS))), (mAp, .inl (cZ, 2, .inl mp))] H → va_D A [(mA, .inr (5, [.ref mAx, .ref mAy, .ref mAi, .int mn, .ref mAr, .ref mAo, .int mf, .int mt, .int md, .ref mAc, .int mk, .ref mAg, .int mh, .ref mAe, .ref mAS, .ref mAp])), (mAx, .inl (cI, 32, .inl mx)), (mAy, .inl (cI, 32, .inl my)), (mAi, .inl (cZ, 32, .inl mi)), (mAr, .inl (cI, 32, .inl mr)), (mAo, .inl (cI, 32, .inl mo)), (mAc, .inl (cI, 34, .inl mc)), (mAg, .inl (cI, 34, .inl mg)), (mAe, .inl (cI, 128, .inl me)), (mAS, .inl (cJ, 2, .inr (.inl mS))), (mAp, .inl (cZ, 2, .inl mp))] → va_S A s.heap H locs → lv_has ls 4 [(0, .ref mA), (1, .int v1), (2, .int v2)] → W p l e R s m args below meth c H locs 0 0 Q (F0 m 4 ls []) := by
    intro mo
    intro k
    induction k with
    | zero => intro mr v1 v2 hw; exact False.elim hw
    | succ k ih4 =>
      intro mr v1 v2 hw H locs ls hP hD hS hl
      have hw : wp_X6_layRanks_4b mx my mi K (wp_X6_layRanks_4 mx my mi K  mo k)  mo mr v1 v2 := hw
      unfold wp_X6_layRanks_4b at hw
      generalize wp_X6_layRanks_4 mx my mi K  mo k = L4 at hw ih4
      have N21 : ∀ (v1 : Int32) (v2 : Int32) (k : Nat) (mr : Nat → Int32) (v3 : Int32), wp_X6_layRanks_21 mx my mi K L4 mo v1 v2 k mr v3 → ∀ (H : Heap) (locs : List Loc) (ls : Array Slot), va_P D vwCl [(mA, .inr (5, [.ref mAx, .ref mAy, .ref mAi, .int mn, .ref mAr, .ref mAo, .int mf, .int mt, .int md, .ref mAc, .int mk, .ref mAg, .int mh, .ref mAe, .ref mAS, .ref mAp])), (mAx, .inl (cI, 32, .inl mx)), (mAy, .inl (cI, 32, .inl my)), (mAi, .inl (cZ, 32, .inl mi)), (mAr, .inl (cI, 32, .inl mr)), (mAo, .inl (cI, 32, .inl mo)), (mAc, .inl (cI, 34, .inl mc)), (mAg, .inl (cI, 34, .inl mg)), (mAe, .inl (cI, 128, .inl me)), (mAS, .inl (cJ, 2, .inr (.inl mS))), (mAp, .inl (cZ, 2, .inl mp))] H → va_D A [(mA, .inr (5, [.ref mAx, .ref mAy, .ref mAi, .int mn, .ref mAr, .ref mAo, .int mf, .int mt, .int md, .ref mAc, .int mk, .ref mAg, .int mh, .ref mAe, .ref mAS, .ref mAp])), (mAx, .inl (cI, 32, .inl mx)), (mAy, .inl (cI, 32, .inl my)), (mAi, .inl (cZ, 32, .inl mi)), (mAr, .inl (cI, 32, .inl mr)), (mAo, .inl (cI, 32, .inl mo)), (mAc, .inl (cI, 34, .inl mc)), (mAg, .inl (cI, 34, .inl mg)), (mAe, .inl (cI, 128, .inl me)), (mAS, .inl (cJ, 2, .inr (.inl mS))), (mAp, .inl (cZ, 2, .inl mp))] → va_S A s.heap H locs → lv_has ls 4 [(0, .ref mA), (1, .int v1), (2, .int v2), (3, .int v3)] → W p l e R s m args below meth c H locs 0 0 Q (F0 m 21 ls []) := by
        intro v1 v2
        intro k
        induction k with
        | zero => intro mr v3 hw; exact False.elim hw
        | succ k ih21 =>
          intro mr v3 hw H locs ls hP hD hS hl
          have hw : wp_X6_layRanks_21b mx my mi K L4 (wp_X6_layRanks_21 mx my mi K L4 mo v1 v2 k) mo v1 v2 mr v3 := hw
          unfold wp_X6_layRanks_21b at hw
          generalize wp_X6_layRanks_21 mx my mi K L4 mo v1 v2 k = L21 at hw ih21
          have N91 : ∀ (mr : Nat → Int32) (v3 : Int32), wp_X6_layRanks_91 mx my mi K L4 L21 mo v1 v2 mr v3 → ∀ (H : Heap) (locs : List Loc) (ls : Array Slot), va_P D vwCl [(mA, .inr (5, [.ref mAx, .ref mAy, .ref mAi, .int mn, .ref mAr, .ref mAo, .int mf, .int mt, .int md, .ref mAc, .int mk, .ref mAg, .int mh, .ref mAe, .ref mAS, .ref mAp])), (mAx, .inl (cI, 32, .inl mx)), (mAy, .inl (cI, 32, .inl my)), (mAi, .inl (cZ, 32, .inl mi)), (mAr, .inl (cI, 32, .inl mr)), (mAo, .inl (cI, 32, .inl mo)), (mAc, .inl (cI, 34, .inl mc)), (mAg, .inl (cI, 34, .inl mg)), (mAe, .inl (cI, 128, .inl me)), (mAS, .inl (cJ, 2, .inr (.inl mS))), (mAp, .inl (cZ, 2, .inl mp))] H → va_D A [(mA, .inr (5, [.ref mAx, .ref mAy, .ref mAi, .int mn, .ref mAr, .ref mAo, .int mf, .int mt, .int md, .ref mAc, .int mk, .ref mAg, .int mh, .ref mAe, .ref mAS, .ref mAp])), (mAx, .inl (cI, 32, .inl mx)), (mAy, .inl (cI, 32, .inl my)), (mAi, .inl (cZ, 32, .inl mi)), (mAr, .inl (cI, 32, .inl mr)), (mAo, .inl (cI, 32, .inl mo)), (mAc, .inl (cI, 34, .inl mc)), (mAg, .inl (cI, 34, .inl mg)), (mAe, .inl (cI, 128, .inl me)), (mAS, .inl (cJ, 2, .inr (.inl mS))), (mAp, .inl (cZ, 2, .inl mp))] → va_S A s.heap H locs → lv_has ls 4 [(0, .ref mA), (1, .int v1), (2, .int v2), (3, .int v3)] → W p l e R s m args below meth c H locs 0 0 Q (F0 m 91 ls []) := by
            intro mr v3 hw H locs ls hP hD hS hl
            unfold wp_X6_layRanks_91 at hw
            refine lv_aload_n hx hb dX6_layRanks_91 rfl (lv_at hl 0 rfl) ?_
            refine va_get (D := D) (ci := 5) (v := .ref mAr) (C := RX6) (T := TX6) (N := 16) hx hb hts in_X6_layRanks_X6 hown hK hP 0 rfl rfl 4 (by decide) (hts (.fieldLink RX6 20 "LiveHullModel" "ranks" "[I") (List.mem_of_getElem? (i := 3) rfl)) (fun _ h9 => h9) rfl dX6_layRanks_92 ?_
            refine lv_iload_n hx hb dX6_layRanks_95 rfl (lv_at hl 3 rfl) ?_
            refine lv_aload_n hx hb dX6_layRanks_96 rfl (lv_at hl 0 rfl) ?_
            refine va_get (D := D) (ci := 5) (v := .ref mAr) (C := RX6) (T := TX6) (N := 16) hx hb hts in_X6_layRanks_X6 hown hK hP 0 rfl rfl 4 (by decide) (hts (.fieldLink RX6 20 "LiveHullModel" "ranks" "[I") (List.mem_of_getElem? (i := 3) rfl)) (fun _ h9 => h9) rfl dX6_layRanks_97 ?_
            refine lv_iload_n hx hb dX6_layRanks_100 rfl (lv_at hl 3 rfl) ?_
            refine lv_iconst (v := 1) hx hb dX6_layRanks_101 (by decide) ?_
            refine lv_isub hx hb dX6_layRanks_102 ?_
            obtain ⟨hi, hw⟩ := hw
            refine va_iald hx hb hK hP 4 0 rfl rfl hi dX6_layRanks_103 ?_
            obtain ⟨hi, hw⟩ := hw
            refine va_iast hx hb hK hP hD hS 4 0 rfl rfl hi dX6_layRanks_104 (fun H locs hP hD hS => ?_)
            have hP : va_P D vwCl [(mA, .inr (5, [.ref mAx, .ref mAy, .ref mAi, .int mn, .ref mAr, .ref mAo, .int mf, .int mt, .int md, .ref mAc, .int mk, .ref mAg, .int mh, .ref mAe, .ref mAS, .ref mAp])), (mAx, .inl (cI, 32, .inl mx)), (mAy, .inl (cI, 32, .inl my)), (mAi, .inl (cZ, 32, .inl mi)), (mAr, .inl (cI, 32, .inl (upd mr v3.toNatClampNeg (mr (v3 - 1).toNatClampNeg)))), (mAo, .inl (cI, 32, .inl mo)), (mAc, .inl (cI, 34, .inl mc)), (mAg, .inl (cI, 34, .inl mg)), (mAe, .inl (cI, 128, .inl me)), (mAS, .inl (cJ, 2, .inr (.inl mS))), (mAp, .inl (cZ, 2, .inl mp))] H := hP
            have hD : va_D A [(mA, .inr (5, [.ref mAx, .ref mAy, .ref mAi, .int mn, .ref mAr, .ref mAo, .int mf, .int mt, .int md, .ref mAc, .int mk, .ref mAg, .int mh, .ref mAe, .ref mAS, .ref mAp])), (mAx, .inl (cI, 32, .inl mx)), (mAy, .inl (cI, 32, .inl my)), (mAi, .inl (cZ, 32, .inl mi)), (mAr, .inl (cI, 32, .inl (upd mr v3.toNatClampNeg (mr (v3 - 1).toNatClampNeg)))), (mAo, .inl (cI, 32, .inl mo)), (mAc, .inl (cI, 34, .inl mc)), (mAg, .inl (cI, 34, .inl mg)), (mAe, .inl (cI, 128, .inl me)), (mAS, .inl (cJ, 2, .inr (.inl mS))), (mAp, .inl (cZ, 2, .inl mp))] := hD
            refine lv_iinc (v := (v3 + (-1))) (lv' := [(3, .int (v3 + (-1))), (0, .ref mA), (1, .int v1), (2, .int v2)]) hx hb dX6_layRanks_105 hl (k := 3) rfl rfl (by decide) rfl (fun ls hl => ?_)
            refine lv_goto (tgt := 21) hx hb dX6_layRanks_108 (by decide) ?_
            exact ih21 (upd mr v3.toNatClampNeg (mr (v3 - 1).toNatClampNeg)) (v3 + (-1)) hw _ _ _ hP hD hS (lv_sub hl [1, 2, 3, 0] rfl)
          refine lv_iload_n hx hb dX6_layRanks_21 rfl (lv_at hl 3 rfl) ?_
          obtain ⟨hwA, hwB⟩ := hw
          refine lv_if_le (tgt := 111) hx hb dX6_layRanks_22 (by decide) (fun cb => ?_) (fun cb => ?_)
          · have hw := hwA cb
            refine lv_aload_n hx hb dX6_layRanks_111 rfl (lv_at hl 0 rfl) ?_
            refine va_get (D := D) (ci := 5) (v := .ref mAr) (C := RX6) (T := TX6) (N := 16) hx hb hts in_X6_layRanks_X6 hown hK hP 0 rfl rfl 4 (by decide) (hts (.fieldLink RX6 20 "LiveHullModel" "ranks" "[I") (List.mem_of_getElem? (i := 3) rfl)) (fun _ h9 => h9) rfl dX6_layRanks_112 ?_
            refine lv_iload_n hx hb dX6_layRanks_115 rfl (lv_at hl 3 rfl) ?_
            refine lv_iload_n hx hb dX6_layRanks_116 rfl (lv_at hl 2 rfl) ?_
            obtain ⟨hi, hw⟩ := hw
            refine va_iast hx hb hK hP hD hS 4 0 rfl rfl hi dX6_layRanks_117 (fun H locs hP hD hS => ?_)
            have hP : va_P D vwCl [(mA, .inr (5, [.ref mAx, .ref mAy, .ref mAi, .int mn, .ref mAr, .ref mAo, .int mf, .int mt, .int md, .ref mAc, .int mk, .ref mAg, .int mh, .ref mAe, .ref mAS, .ref mAp])), (mAx, .inl (cI, 32, .inl mx)), (mAy, .inl (cI, 32, .inl my)), (mAi, .inl (cZ, 32, .inl mi)), (mAr, .inl (cI, 32, .inl (upd mr v3.toNatClampNeg v2))), (mAo, .inl (cI, 32, .inl mo)), (mAc, .inl (cI, 34, .inl mc)), (mAg, .inl (cI, 34, .inl mg)), (mAe, .inl (cI, 128, .inl me)), (mAS, .inl (cJ, 2, .inr (.inl mS))), (mAp, .inl (cZ, 2, .inl mp))] H := hP
            have hD : va_D A [(mA, .inr (5, [.ref mAx, .ref mAy, .ref mAi, .int mn, .ref mAr, .ref mAo, .int mf, .int mt, .int md, .ref mAc, .int mk, .ref mAg, .int mh, .ref mAe, .ref mAS, .ref mAp])), (mAx, .inl (cI, 32, .inl mx)), (mAy, .inl (cI, 32, .inl my)), (mAi, .inl (cZ, 32, .inl mi)), (mAr, .inl (cI, 32, .inl (upd mr v3.toNatClampNeg v2))), (mAo, .inl (cI, 32, .inl mo)), (mAc, .inl (cI, 34, .inl mc)), (mAg, .inl (cI, 34, .inl mg)), (mAe, .inl (cI, 128, .inl me)), (mAS, .inl (cJ, 2, .inr (.inl mS))), (mAp, .inl (cZ, 2, .inl mp))] := hD
            refine lv_iinc (v := (v1 + 1)) (lv' := [(1, .int (v1 + 1)), (0, .ref mA), (2, .int v2), (3, .int v3)]) hx hb dX6_layRanks_118 hl (k := 1) rfl rfl (by decide) rfl (fun ls hl => ?_)
            refine lv_iinc (v := (v2 + 1)) (lv' := [(2, .int (v2 + 1)), (1, .int (v1 + 1)), (0, .ref mA), (3, .int v3)]) hx hb dX6_layRanks_121 hl (k := 2) rfl rfl (by decide) rfl (fun ls hl => ?_)
            refine lv_goto (tgt := 4) hx hb dX6_layRanks_124 (by decide) ?_
            exact ih4 (upd mr v3.toNatClampNeg v2) (v1 + 1) (v2 + 1) hw _ _ _ hP hD hS (lv_sub hl [2, 1, 0] rfl)
          · have hw := hwB cb
            refine lv_aload_n hx hb dX6_layRanks_25 rfl (lv_at hl 0 rfl) ?_
            refine va_get (D := D) (ci := 5) (v := .ref mAx) (C := RX6) (T := TX6) (N := 16) hx hb hts in_X6_layRanks_X6 hown hK hP 0 rfl rfl 0 (by decide) (hts (.fieldLink RX6 7 "LiveHullModel" "xs" "[I") (List.mem_of_getElem? (i := 2) rfl)) (fun _ h9 => h9) rfl dX6_layRanks_26 ?_
            refine lv_aload_n hx hb dX6_layRanks_29 rfl (lv_at hl 0 rfl) ?_
            refine va_get (D := D) (ci := 5) (v := .ref mAr) (C := RX6) (T := TX6) (N := 16) hx hb hts in_X6_layRanks_X6 hown hK hP 0 rfl rfl 4 (by decide) (hts (.fieldLink RX6 20 "LiveHullModel" "ranks" "[I") (List.mem_of_getElem? (i := 3) rfl)) (fun _ h9 => h9) rfl dX6_layRanks_30 ?_
            refine lv_iload_n hx hb dX6_layRanks_33 rfl (lv_at hl 3 rfl) ?_
            refine lv_iconst (v := 1) hx hb dX6_layRanks_34 (by decide) ?_
            refine lv_isub hx hb dX6_layRanks_35 ?_
            obtain ⟨hi, hw⟩ := hw
            refine va_iald hx hb hK hP 4 0 rfl rfl hi dX6_layRanks_36 ?_
            obtain ⟨hi, hw⟩ := hw
            refine va_iald hx hb hK hP 1 0 rfl rfl hi dX6_layRanks_37 ?_
            refine lv_aload_n hx hb dX6_layRanks_38 rfl (lv_at hl 0 rfl) ?_
            refine va_get (D := D) (ci := 5) (v := .ref mAx) (C := RX6) (T := TX6) (N := 16) hx hb hts in_X6_layRanks_X6 hown hK hP 0 rfl rfl 0 (by decide) (hts (.fieldLink RX6 7 "LiveHullModel" "xs" "[I") (List.mem_of_getElem? (i := 2) rfl)) (fun _ h9 => h9) rfl dX6_layRanks_39 ?_
            refine lv_iload_n hx hb dX6_layRanks_42 rfl (lv_at hl 2 rfl) ?_
            obtain ⟨hi, hw⟩ := hw
            refine va_iald hx hb hK hP 1 0 rfl rfl hi dX6_layRanks_43 ?_
            obtain ⟨hwA, hwB⟩ := hw
            refine lv_icmp_gt (tgt := 91) hx hb dX6_layRanks_44 (by decide) (fun cb => ?_) (fun cb => ?_)
            · have hw := hwA cb
              exact N91 mr v3 hw _ _ _ hP hD hS (lv_sub hl [0, 1, 2, 3] rfl)
            · have hw := hwB cb
              refine lv_aload_n hx hb dX6_layRanks_47 rfl (lv_at hl 0 rfl) ?_
              refine va_get (D := D) (ci := 5) (v := .ref mAx) (C := RX6) (T := TX6) (N := 16) hx hb hts in_X6_layRanks_X6 hown hK hP 0 rfl rfl 0 (by decide) (hts (.fieldLink RX6 7 "LiveHullModel" "xs" "[I") (List.mem_of_getElem? (i := 2) rfl)) (fun _ h9 => h9) rfl dX6_layRanks_48 ?_
              refine lv_aload_n hx hb dX6_layRanks_51 rfl (lv_at hl 0 rfl) ?_
              refine va_get (D := D) (ci := 5) (v := .ref mAr) (C := RX6) (T := TX6) (N := 16) hx hb hts in_X6_layRanks_X6 hown hK hP 0 rfl rfl 4 (by decide) (hts (.fieldLink RX6 20 "LiveHullModel" "ranks" "[I") (List.mem_of_getElem? (i := 3) rfl)) (fun _ h9 => h9) rfl dX6_layRanks_52 ?_
              refine lv_iload_n hx hb dX6_layRanks_55 rfl (lv_at hl 3 rfl) ?_
              refine lv_iconst (v := 1) hx hb dX6_layRanks_56 (by decide) ?_
              refine lv_isub hx hb dX6_layRanks_57 ?_
              obtain ⟨hi, hw⟩ := hw
              refine va_iald hx hb hK hP 4 0 rfl rfl hi dX6_layRanks_58 ?_
              obtain ⟨hi, hw⟩ := hw
              refine va_iald hx hb hK hP 1 0 rfl rfl hi dX6_layRanks_59 ?_
              refine lv_aload_n hx hb dX6_layRanks_60 rfl (lv_at hl 0 rfl) ?_
              refine va_get (D := D) (ci := 5) (v := .ref mAx) (C := RX6) (T := TX6) (N := 16) hx hb hts in_X6_layRanks_X6 hown hK hP 0 rfl rfl 0 (by decide) (hts (.fieldLink RX6 7 "LiveHullModel" "xs" "[I") (List.mem_of_getElem? (i := 2) rfl)) (fun _ h9 => h9) rfl dX6_layRanks_61 ?_
              refine lv_iload_n hx hb dX6_layRanks_64 rfl (lv_at hl 2 rfl) ?_
              obtain ⟨hi, hw⟩ := hw
              refine va_iald hx hb hK hP 1 0 rfl rfl hi dX6_layRanks_65 ?_
              obtain ⟨hwA, hwB⟩ := hw
              refine lv_icmp_ne (tgt := 111) hx hb dX6_layRanks_66 (by decide) (fun cb => ?_) (fun cb => ?_)
              · have hw := hwA cb
                refine lv_aload_n hx hb dX6_layRanks_111 rfl (lv_at hl 0 rfl) ?_
                refine va_get (D := D) (ci := 5) (v := .ref mAr) (C := RX6) (T := TX6) (N := 16) hx hb hts in_X6_layRanks_X6 hown hK hP 0 rfl rfl 4 (by decide) (hts (.fieldLink RX6 20 "LiveHullModel" "ranks" "[I") (List.mem_of_getElem? (i := 3) rfl)) (fun _ h9 => h9) rfl dX6_layRanks_112 ?_
                refine lv_iload_n hx hb dX6_layRanks_115 rfl (lv_at hl 3 rfl) ?_
                refine lv_iload_n hx hb dX6_layRanks_116 rfl (lv_at hl 2 rfl) ?_
                obtain ⟨hi, hw⟩ := hw
                refine va_iast hx hb hK hP hD hS 4 0 rfl rfl hi dX6_layRanks_117 (fun H locs hP hD hS => ?_)
                have hP : va_P D vwCl [(mA, .inr (5, [.ref mAx, .ref mAy, .ref mAi, .int mn, .ref mAr, .ref mAo, .int mf, .int mt, .int md, .ref mAc, .int mk, .ref mAg, .int mh, .ref mAe, .ref mAS, .ref mAp])), (mAx, .inl (cI, 32, .inl mx)), (mAy, .inl (cI, 32, .inl my)), (mAi, .inl (cZ, 32, .inl mi)), (mAr, .inl (cI, 32, .inl (upd mr v3.toNatClampNeg v2))), (mAo, .inl (cI, 32, .inl mo)), (mAc, .inl (cI, 34, .inl mc)), (mAg, .inl (cI, 34, .inl mg)), (mAe, .inl (cI, 128, .inl me)), (mAS, .inl (cJ, 2, .inr (.inl mS))), (mAp, .inl (cZ, 2, .inl mp))] H := hP
                have hD : va_D A [(mA, .inr (5, [.ref mAx, .ref mAy, .ref mAi, .int mn, .ref mAr, .ref mAo, .int mf, .int mt, .int md, .ref mAc, .int mk, .ref mAg, .int mh, .ref mAe, .ref mAS, .ref mAp])), (mAx, .inl (cI, 32, .inl mx)), (mAy, .inl (cI, 32, .inl my)), (mAi, .inl (cZ, 32, .inl mi)), (mAr, .inl (cI, 32, .inl (upd mr v3.toNatClampNeg v2))), (mAo, .inl (cI, 32, .inl mo)), (mAc, .inl (cI, 34, .inl mc)), (mAg, .inl (cI, 34, .inl mg)), (mAe, .inl (cI, 128, .inl me)), (mAS, .inl (cJ, 2, .inr (.inl mS))), (mAp, .inl (cZ, 2, .inl mp))] := hD
                refine lv_iinc (v := (v1 + 1)) (lv' := [(1, .int (v1 + 1)), (0, .ref mA), (2, .int v2), (3, .int v3)]) hx hb dX6_layRanks_118 hl (k := 1) rfl rfl (by decide) rfl (fun ls hl => ?_)
                refine lv_iinc (v := (v2 + 1)) (lv' := [(2, .int (v2 + 1)), (1, .int (v1 + 1)), (0, .ref mA), (3, .int v3)]) hx hb dX6_layRanks_121 hl (k := 2) rfl rfl (by decide) rfl (fun ls hl => ?_)
                refine lv_goto (tgt := 4) hx hb dX6_layRanks_124 (by decide) ?_
                exact ih4 (upd mr v3.toNatClampNeg v2) (v1 + 1) (v2 + 1) hw _ _ _ hP hD hS (lv_sub hl [2, 1, 0] rfl)
              · have hw := hwB cb
                refine lv_aload_n hx hb dX6_layRanks_69 rfl (lv_at hl 0 rfl) ?_
                refine va_get (D := D) (ci := 5) (v := .ref mAy) (C := RX6) (T := TX6) (N := 16) hx hb hts in_X6_layRanks_X6 hown hK hP 0 rfl rfl 1 (by decide) (hts (.fieldLink RX6 13 "LiveHullModel" "ys" "[I") (List.mem_of_getElem? (i := 4) rfl)) (fun _ h9 => h9) rfl dX6_layRanks_70 ?_
                refine lv_aload_n hx hb dX6_layRanks_73 rfl (lv_at hl 0 rfl) ?_
                refine va_get (D := D) (ci := 5) (v := .ref mAr) (C := RX6) (T := TX6) (N := 16) hx hb hts in_X6_layRanks_X6 hown hK hP 0 rfl rfl 4 (by decide) (hts (.fieldLink RX6 20 "LiveHullModel" "ranks" "[I") (List.mem_of_getElem? (i := 3) rfl)) (fun _ h9 => h9) rfl dX6_layRanks_74 ?_
                refine lv_iload_n hx hb dX6_layRanks_77 rfl (lv_at hl 3 rfl) ?_
                refine lv_iconst (v := 1) hx hb dX6_layRanks_78 (by decide) ?_
                refine lv_isub hx hb dX6_layRanks_79 ?_
                obtain ⟨hi, hw⟩ := hw
                refine va_iald hx hb hK hP 4 0 rfl rfl hi dX6_layRanks_80 ?_
                obtain ⟨hi, hw⟩ := hw
                refine va_iald hx hb hK hP 2 0 rfl rfl hi dX6_layRanks_81 ?_
                refine lv_aload_n hx hb dX6_layRanks_82 rfl (lv_at hl 0 rfl) ?_
                refine va_get (D := D) (ci := 5) (v := .ref mAy) (C := RX6) (T := TX6) (N := 16) hx hb hts in_X6_layRanks_X6 hown hK hP 0 rfl rfl 1 (by decide) (hts (.fieldLink RX6 13 "LiveHullModel" "ys" "[I") (List.mem_of_getElem? (i := 4) rfl)) (fun _ h9 => h9) rfl dX6_layRanks_83 ?_
                refine lv_iload_n hx hb dX6_layRanks_86 rfl (lv_at hl 2 rfl) ?_
                obtain ⟨hi, hw⟩ := hw
                refine va_iald hx hb hK hP 2 0 rfl rfl hi dX6_layRanks_87 ?_
                obtain ⟨hwA, hwB⟩ := hw
                refine lv_icmp_le (tgt := 111) hx hb dX6_layRanks_88 (by decide) (fun cb => ?_) (fun cb => ?_)
                · have hw := hwA cb
                  refine lv_aload_n hx hb dX6_layRanks_111 rfl (lv_at hl 0 rfl) ?_
                  refine va_get (D := D) (ci := 5) (v := .ref mAr) (C := RX6) (T := TX6) (N := 16) hx hb hts in_X6_layRanks_X6 hown hK hP 0 rfl rfl 4 (by decide) (hts (.fieldLink RX6 20 "LiveHullModel" "ranks" "[I") (List.mem_of_getElem? (i := 3) rfl)) (fun _ h9 => h9) rfl dX6_layRanks_112 ?_
                  refine lv_iload_n hx hb dX6_layRanks_115 rfl (lv_at hl 3 rfl) ?_
                  refine lv_iload_n hx hb dX6_layRanks_116 rfl (lv_at hl 2 rfl) ?_
                  obtain ⟨hi, hw⟩ := hw
                  refine va_iast hx hb hK hP hD hS 4 0 rfl rfl hi dX6_layRanks_117 (fun H locs hP hD hS => ?_)
                  have hP : va_P D vwCl [(mA, .inr (5, [.ref mAx, .ref mAy, .ref mAi, .int mn, .ref mAr, .ref mAo, .int mf, .int mt, .int md, .ref mAc, .int mk, .ref mAg, .int mh, .ref mAe, .ref mAS, .ref mAp])), (mAx, .inl (cI, 32, .inl mx)), (mAy, .inl (cI, 32, .inl my)), (mAi, .inl (cZ, 32, .inl mi)), (mAr, .inl (cI, 32, .inl (upd mr v3.toNatClampNeg v2))), (mAo, .inl (cI, 32, .inl mo)), (mAc, .inl (cI, 34, .inl mc)), (mAg, .inl (cI, 34, .inl mg)), (mAe, .inl (cI, 128, .inl me)), (mAS, .inl (cJ, 2, .inr (.inl mS))), (mAp, .inl (cZ, 2, .inl mp))] H := hP
                  have hD : va_D A [(mA, .inr (5, [.ref mAx, .ref mAy, .ref mAi, .int mn, .ref mAr, .ref mAo, .int mf, .int mt, .int md, .ref mAc, .int mk, .ref mAg, .int mh, .ref mAe, .ref mAS, .ref mAp])), (mAx, .inl (cI, 32, .inl mx)), (mAy, .inl (cI, 32, .inl my)), (mAi, .inl (cZ, 32, .inl mi)), (mAr, .inl (cI, 32, .inl (upd mr v3.toNatClampNeg v2))), (mAo, .inl (cI, 32, .inl mo)), (mAc, .inl (cI, 34, .inl mc)), (mAg, .inl (cI, 34, .inl mg)), (mAe, .inl (cI, 128, .inl me)), (mAS, .inl (cJ, 2, .inr (.inl mS))), (mAp, .inl (cZ, 2, .inl mp))] := hD
                  refine lv_iinc (v := (v1 + 1)) (lv' := [(1, .int (v1 + 1)), (0, .ref mA), (2, .int v2), (3, .int v3)]) hx hb dX6_layRanks_118 hl (k := 1) rfl rfl (by decide) rfl (fun ls hl => ?_)
                  refine lv_iinc (v := (v2 + 1)) (lv' := [(2, .int (v2 + 1)), (1, .int (v1 + 1)), (0, .ref mA), (3, .int v3)]) hx hb dX6_layRanks_121 hl (k := 2) rfl rfl (by decide) rfl (fun ls hl => ?_)
                  refine lv_goto (tgt := 4) hx hb dX6_layRanks_124 (by decide) ?_
                  exact ih4 (upd mr v3.toNatClampNeg v2) (v1 + 1) (v2 + 1) hw _ _ _ hP hD hS (lv_sub hl [2, 1, 0] rfl)
                · have hw := hwB cb
                  exact N91 mr v3 hw _ _ _ hP hD hS (lv_sub hl [0, 1, 2, 3] rfl)
      refine lv_iload_n hx hb dX6_layRanks_4 rfl (lv_at hl 2 rfl) ?_
      refine lv_bipush (v := 32) hx hb dX6_layRanks_5 (by decide) ?_
      obtain ⟨hwA, hwB⟩ := hw
      refine lv_icmp_ge (tgt := 127) hx hb dX6_layRanks_7 (by decide) (fun cb => ?_) (fun cb => ?_)
      · have hw := hwA cb
        refine lv_iconst (v := 0) hx hb dX6_layRanks_127 (by decide) ?_
        refine lv_istore_n (lv' := [(2, .int 0), (0, .ref mA), (1, .int v1)]) hx hb dX6_layRanks_128 rfl hl (by decide) rfl (fun ls hl => ?_)
        obtain ⟨k, hw⟩ := hw
        exact N129 mr v1 k mo 0 hw _ _ _ hP hD hS (lv_sub hl [1, 2, 0] rfl)
      · have hw := hwB cb
        refine lv_aload_n hx hb dX6_layRanks_10 rfl (lv_at hl 0 rfl) ?_
        refine va_get (D := D) (ci := 5) (v := .ref mAi) (C := RX6) (T := TX6) (N := 16) hx hb hts in_X6_layRanks_X6 hown hK hP 0 rfl rfl 2 (by decide) (hts (.fieldLink RX6 16 "LiveHullModel" "is" "[Z") (List.mem_of_getElem? (i := 1) rfl)) (fun _ h9 => h9) rfl dX6_layRanks_11 ?_
        refine lv_iload_n hx hb dX6_layRanks_14 rfl (lv_at hl 2 rfl) ?_
        obtain ⟨hi, hw⟩ := hw
        refine va_zald hx hb hK hP 3 2 rfl rfl hi dX6_layRanks_15 ?_
        obtain ⟨hwA, hwB⟩ := hw
        refine lv_if_eq (tgt := 121) hx hb dX6_layRanks_16 (by decide) (fun cb => ?_) (fun cb => ?_)
        · have hw := hwA cb
          refine lv_iinc (v := (v2 + 1)) (lv' := [(2, .int (v2 + 1)), (0, .ref mA), (1, .int v1)]) hx hb dX6_layRanks_121 hl (k := 2) rfl rfl (by decide) rfl (fun ls hl => ?_)
          refine lv_goto (tgt := 4) hx hb dX6_layRanks_124 (by decide) ?_
          exact ih4 mr v1 (v2 + 1) hw _ _ _ hP hD hS (lv_sub hl [1, 2, 0] rfl)
        · have hw := hwB cb
          refine lv_iload_n hx hb dX6_layRanks_19 rfl (lv_at hl 1 rfl) ?_
          refine lv_istore_n (lv' := [(3, .int v1), (0, .ref mA), (1, .int v1), (2, .int v2)]) hx hb dX6_layRanks_20 rfl hl (by decide) rfl (fun ls hl => ?_)
          obtain ⟨k, hw⟩ := hw
          exact N21 v1 v2 k mr v1 hw _ _ _ hP hD hS (lv_sub hl [1, 2, 3, 0] rfl)
  unfold wp_X6_layRanks at hw
  refine lv_iconst (v := 0) hx hb dX6_layRanks_0 (by decide) ?_
  refine lv_istore_n (lv' := [(1, .int 0), (0, .ref mA)]) hx hb dX6_layRanks_1 rfl hl (by decide) rfl (fun ls hl => ?_)
  refine lv_iconst (v := 0) hx hb dX6_layRanks_2 (by decide) ?_
  refine lv_istore_n (lv' := [(2, .int 0), (1, .int 0), (0, .ref mA)]) hx hb dX6_layRanks_3 rfl hl (by decide) rfl (fun ls hl => ?_)
  obtain ⟨k, hw⟩ := hw
  exact N4 mo k mr 0 0 hw _ _ _ hP hD hS (lv_sub hl [2, 1, 0] rfl)
theorem in_X6_layPart_X6 : ∀ w ∈ wsX60, w ∈ wsX6_layPart := fun _ h => List.mem_cons_of_mem _ (List.mem_append_right _ h)
theorem hd_X6_layPart : yX6_layPart.cls = RX6 ∧ yX6_layPart.cls ≠ "java/lang/invoke/MethodHandle" ∧ yX6_layPart.cls ≠ "java/lang/invoke/VarHandle" ∧ (parseMethodDescriptor yX6_layPart.desc).map (fun d => d.parameters.length) = some 1 := by decide +kernel
set_option maxHeartbeats 8000000 in
set_option maxRecDepth 100000 in
theorem c_X6_layPart (l : Launch) (D : va_G) (cI cJ cZ cO : ClassId) (mA mAx mAy mAi mAr mAo mAc mAg mAe mAS mAp : Nat) (mx : Nat → Int32) (my : Nat → Int32) (mi : Nat → Int32) (mn : Int32) (mr : Nat → Int32) (mo : Nat → Int32) (mf : Int32) (mt : Int32) (md : Int32) (mc : Nat → Int32) (mk : Int32) (mg : Nat → Int32) (mh : Int32) (me : Nat → Int32) (mS : Nat → Int64) (mp : Nat → Int32) (v1 : Int32) (K : Int32 → (Nat → Int32) → (Nat → Int32) → Int32 → Int32 → Int32 → Prop) (hw : wp_X6_layPart mx my mi mn mr mo mf mt md v1 K) : Ci l D (tys4 cI cJ cZ cO) yX6_layPart wsX6_layPart { frames := 1, cells := 0, slots := 0, locals := 23 } [.ref mA, .int v1] [(mA, .inr (5, [.ref mAx, .ref mAy, .ref mAi, .int mn, .ref mAr, .ref mAo, .int mf, .int mt, .int md, .ref mAc, .int mk, .ref mAg, .int mh, .ref mAe, .ref mAS, .ref mAp])), (mAx, .inl (cI, 32, .inl mx)), (mAy, .inl (cI, 32, .inl my)), (mAi, .inl (cZ, 32, .inl mi)), (mAr, .inl (cI, 32, .inl mr)), (mAo, .inl (cI, 32, .inl mo)), (mAc, .inl (cI, 34, .inl mc)), (mAg, .inl (cI, 34, .inl mg)), (mAe, .inl (cI, 128, .inl me)), (mAS, .inl (cJ, 2, .inr (.inl mS))), (mAp, .inl (cZ, 2, .inl mp))] (fun (r : Int32) (u : (Nat → Int32) × (Nat → Int32) × (Int32) × (Int32) × (Int32)) => K r u.1 u.2.1 u.2.2.1 u.2.2.2.1 u.2.2.2.2) (fun u => [(mA, .inr (5, [.ref mAx, .ref mAy, .ref mAi, .int mn, .ref mAr, .ref mAo, .int u.2.2.1, .int u.2.2.2.1, .int u.2.2.2.2, .ref mAc, .int mk, .ref mAg, .int mh, .ref mAe, .ref mAS, .ref mAp])), (mAx, .inl (cI, 32, .inl mx)), (mAy, .inl (cI, 32, .inl my)), (mAi, .inl (cZ, 32, .inl mi)), (mAr, .inl (cI, 32, .inl u.1)), (mAo, .inl (cI, 32, .inl u.2.1)), (mAc, .inl (cI, 34, .inl mc)), (mAg, .inl (cI, 34, .inl mg)), (mAe, .inl (cI, 128, .inl me)), (mAS, .inl (cJ, 2, .inr (.inl mS))), (mAp, .inl (cZ, 2, .inl mp))]) := by
  refine mt_i (cc := cX6_layPart) (maxL := 5) (rt := .boolean) (by decide) rfl (Nat.le_of_ble_eq_true rfl) ?_
  intro p e s m args below meth c Q A R ls hRf hRl hx hb hml hown hts hK hA hP hD hS hl ret
  have hown : s.vm.findClass RX6 = some m.cls := hown
  have hl : lv_has ls 5 [(0, .ref mA), (1, .int v1)] := hl
  have N61 : ∀ (mr : Nat → Int32) (mo : Nat → Int32) (k : Nat) (mf : Int32) (mt : Int32) (md : Int32) (v3 : Int32), wp_X6_layPart_61 mx my mi mn v1 K  mr mo k mf mt md v3 → ∀ (H : Heap) (locs : List Loc) (ls : Array Slot), va_P D vwCl [(mA, .inr (5, [.ref mAx, .ref mAy, .ref mAi, .int mn, .ref mAr, .ref mAo, .int mf, .int mt, .int md, .ref mAc, .int mk, .ref mAg, .int mh, .ref mAe, .ref mAS, .ref mAp])), (mAx, .inl (cI, 32, .inl mx)), (mAy, .inl (cI, 32, .inl my)), (mAi, .inl (cZ, 32, .inl mi)), (mAr, .inl (cI, 32, .inl mr)), (mAo, .inl (cI, 32, .inl mo)), (mAc, .inl (cI, 34, .inl mc)), (mAg, .inl (cI, 34, .inl mg)), (mAe, .inl (cI, 128, .inl me)), (mAS, .inl (cJ, 2, .inr (.inl mS))), (mAp, .inl (cZ, 2, .inl mp))] H → va_D A [(mA, .inr (5, [.ref mAx, .ref mAy, .ref mAi, .int mn, .ref mAr, .ref mAo, .int mf, .int mt, .int md, .ref mAc, .int mk, .ref mAg, .int mh, .ref mAe, .ref mAS, .ref mAp])), (mAx, .inl (cI, 32, .inl mx)), (mAy, .inl (cI, 32, .inl my)), (mAi, .inl (cZ, 32, .inl mi)), (mAr, .inl (cI, 32, .inl mr)), (mAo, .inl (cI, 32, .inl mo)), (mAc, .inl (cI, 34, .inl mc)), (mAg, .inl (cI, 34, .inl mg)), (mAe, .inl (cI, 128, .inl me)), (mAS, .inl (cJ, 2, .inr (.inl mS))), (mAp, .inl (cZ, 2, .inl mp))] → va_S A s.heap H locs → lv_has ls 5 [(0, .ref mA), (1, .int v1), (3, .int v3)] → W p l e R s m args below meth c H locs 0 0 Q (F0 m 61 ls []) := by
    intro mr mo
    intro k
    induction k with
    | zero => intro mf mt md v3 hw; exact False.elim hw
    | succ k ih61 =>
      intro mf mt md v3 hw H locs ls hP hD hS hl
      have hw : wp_X6_layPart_61b mx my mi mn v1 K (wp_X6_layPart_61 mx my mi mn v1 K  mr mo k)  mr mo mf mt md v3 := hw
      unfold wp_X6_layPart_61b at hw
      generalize wp_X6_layPart_61 mx my mi mn v1 K  mr mo k = L61 at hw ih61
      have N121 : ∀ (mf : Int32) (mt : Int32) (md : Int32) (v3 : Int32), wp_X6_layPart_121 mx my mi mn v1 K L61 mr mo mf mt md v3 → ∀ (H : Heap) (locs : List Loc) (ls : Array Slot), va_P D vwCl [(mA, .inr (5, [.ref mAx, .ref mAy, .ref mAi, .int mn, .ref mAr, .ref mAo, .int mf, .int mt, .int md, .ref mAc, .int mk, .ref mAg, .int mh, .ref mAe, .ref mAS, .ref mAp])), (mAx, .inl (cI, 32, .inl mx)), (mAy, .inl (cI, 32, .inl my)), (mAi, .inl (cZ, 32, .inl mi)), (mAr, .inl (cI, 32, .inl mr)), (mAo, .inl (cI, 32, .inl mo)), (mAc, .inl (cI, 34, .inl mc)), (mAg, .inl (cI, 34, .inl mg)), (mAe, .inl (cI, 128, .inl me)), (mAS, .inl (cJ, 2, .inr (.inl mS))), (mAp, .inl (cZ, 2, .inl mp))] H → va_D A [(mA, .inr (5, [.ref mAx, .ref mAy, .ref mAi, .int mn, .ref mAr, .ref mAo, .int mf, .int mt, .int md, .ref mAc, .int mk, .ref mAg, .int mh, .ref mAe, .ref mAS, .ref mAp])), (mAx, .inl (cI, 32, .inl mx)), (mAy, .inl (cI, 32, .inl my)), (mAi, .inl (cZ, 32, .inl mi)), (mAr, .inl (cI, 32, .inl mr)), (mAo, .inl (cI, 32, .inl mo)), (mAc, .inl (cI, 34, .inl mc)), (mAg, .inl (cI, 34, .inl mg)), (mAe, .inl (cI, 128, .inl me)), (mAS, .inl (cJ, 2, .inr (.inl mS))), (mAp, .inl (cZ, 2, .inl mp))] → va_S A s.heap H locs → lv_has ls 5 [(0, .ref mA), (1, .int v1), (3, .int v3)] → W p l e R s m args below meth c H locs 0 0 Q (F0 m 121 ls []) := by
        intro mf mt md v3 hw H locs ls hP hD hS hl
        unfold wp_X6_layPart_121 at hw
        refine lv_aload_n hx hb dX6_layPart_121 rfl (lv_at hl 0 rfl) ?_
        refine lv_dup hx hb dX6_layPart_122 rfl ?_
        refine va_get (D := D) (ci := 5) (v := .int md) (C := RX6) (T := TX6) (N := 16) hx hb hts in_X6_layPart_X6 hown hK hP 0 rfl rfl 8 (by decide) (hts (.fieldLink RX6 72 "LiveHullModel" "depth" "I") (List.mem_of_getElem? (i := 4) rfl)) (fun _ h9 => h9) rfl dX6_layPart_123 ?_
        refine lv_iconst (v := 1) hx hb dX6_layPart_126 (by decide) ?_
        refine lv_iadd hx hb dX6_layPart_127 ?_
        refine va_put (D := D) (ci := 5) (v := .int (md + 1)) (ty := .int) (C := RX6) (T := TX6) (N := 16) hx hb hts in_X6_layPart_X6 tyX6 tyX6_ok nmX6 hown hK hP hD hS 0 rfl rfl 8 (by decide) (hts (.fieldLink RX6 72 "LiveHullModel" "depth" "I") (List.mem_of_getElem? (i := 4) rfl)) (fun _ h9 => h9) rfl (by decide +kernel) rfl rfl (Nat.le_of_ble_eq_true rfl) dX6_layPart_128 (fun H locs hP hD hS => ?_)
        have hP : va_P D vwCl [(mA, .inr (5, [.ref mAx, .ref mAy, .ref mAi, .int mn, .ref mAr, .ref mAo, .int mf, .int mt, .int (md + 1), .ref mAc, .int mk, .ref mAg, .int mh, .ref mAe, .ref mAS, .ref mAp])), (mAx, .inl (cI, 32, .inl mx)), (mAy, .inl (cI, 32, .inl my)), (mAi, .inl (cZ, 32, .inl mi)), (mAr, .inl (cI, 32, .inl mr)), (mAo, .inl (cI, 32, .inl mo)), (mAc, .inl (cI, 34, .inl mc)), (mAg, .inl (cI, 34, .inl mg)), (mAe, .inl (cI, 128, .inl me)), (mAS, .inl (cJ, 2, .inr (.inl mS))), (mAp, .inl (cZ, 2, .inl mp))] H := hP
        have hD : va_D A [(mA, .inr (5, [.ref mAx, .ref mAy, .ref mAi, .int mn, .ref mAr, .ref mAo, .int mf, .int mt, .int (md + 1), .ref mAc, .int mk, .ref mAg, .int mh, .ref mAe, .ref mAS, .ref mAp])), (mAx, .inl (cI, 32, .inl mx)), (mAy, .inl (cI, 32, .inl my)), (mAi, .inl (cZ, 32, .inl mi)), (mAr, .inl (cI, 32, .inl mr)), (mAo, .inl (cI, 32, .inl mo)), (mAc, .inl (cI, 34, .inl mc)), (mAg, .inl (cI, 34, .inl mg)), (mAe, .inl (cI, 128, .inl me)), (mAS, .inl (cJ, 2, .inr (.inl mS))), (mAp, .inl (cZ, 2, .inl mp))] := hD
        refine lv_iload_n hx hb dX6_layPart_131 rfl (lv_at hl 2 rfl) ?_
        refine lv_iconst (v := 1) hx hb dX6_layPart_132 (by decide) ?_
        refine lv_ishr hx hb dX6_layPart_133 ?_
        refine lv_istore_n (lv' := [(3, .int (v3 >>> (1 &&& 31))), (0, .ref mA), (1, .int v1)]) hx hb dX6_layPart_134 rfl hl (by decide) rfl (fun ls hl => ?_)
        refine lv_goto (tgt := 61) hx hb dX6_layPart_135 (by decide) ?_
        exact ih61 mf mt (md + 1) (v3 >>> (1 &&& 31)) hw _ _ _ hP hD hS (lv_sub hl [1, 2, 0] rfl)
      refine lv_iload_n hx hb dX6_layPart_61 rfl (lv_at hl 2 rfl) ?_
      obtain ⟨hwA, hwB⟩ := hw
      refine lv_if_le (tgt := 138) hx hb dX6_layPart_62 (by decide) (fun cb => ?_) (fun cb => ?_)
      · have hw := hwA cb
        refine lv_iconst (v := 1) hx hb dX6_layPart_138 (by decide) ?_
        exact ret _ _ _ _ 1 (mr, mo, mf, mt, md) rfl hw hP hD hS dX6_layPart_139
      · have hw := hwB cb
        refine lv_aload_n hx hb dX6_layPart_65 rfl (lv_at hl 0 rfl) ?_
        refine va_get (D := D) (ci := 5) (v := .int mt) (C := RX6) (T := TX6) (N := 16) hx hb hts in_X6_layPart_X6 hown hK hP 0 rfl rfl 7 (by decide) (hts (.fieldLink RX6 69 "LiveHullModel" "to" "I") (List.mem_of_getElem? (i := 3) rfl)) (fun _ h9 => h9) rfl dX6_layPart_66 ?_
        refine lv_aload_n hx hb dX6_layPart_69 rfl (lv_at hl 0 rfl) ?_
        refine va_get (D := D) (ci := 5) (v := .int mf) (C := RX6) (T := TX6) (N := 16) hx hb hts in_X6_layPart_X6 hown hK hP 0 rfl rfl 6 (by decide) (hts (.fieldLink RX6 66 "LiveHullModel" "from" "I") (List.mem_of_getElem? (i := 2) rfl)) (fun _ h9 => h9) rfl dX6_layPart_70 ?_
        refine lv_isub hx hb dX6_layPart_73 ?_
        refine lv_iconst (v := 2) hx hb dX6_layPart_74 (by decide) ?_
        obtain ⟨hwA, hwB⟩ := hw
        refine lv_icmp_ge (tgt := 80) hx hb dX6_layPart_75 (by decide) (fun cb => ?_) (fun cb => ?_)
        · have hw := hwA cb
          refine lv_aload_n hx hb dX6_layPart_80 rfl (lv_at hl 0 rfl) ?_
          refine va_get (D := D) (ci := 5) (v := .int mf) (C := RX6) (T := TX6) (N := 16) hx hb hts in_X6_layPart_X6 hown hK hP 0 rfl rfl 6 (by decide) (hts (.fieldLink RX6 66 "LiveHullModel" "from" "I") (List.mem_of_getElem? (i := 2) rfl)) (fun _ h9 => h9) rfl dX6_layPart_81 ?_
          refine lv_aload_n hx hb dX6_layPart_84 rfl (lv_at hl 0 rfl) ?_
          refine va_get (D := D) (ci := 5) (v := .int mt) (C := RX6) (T := TX6) (N := 16) hx hb hts in_X6_layPart_X6 hown hK hP 0 rfl rfl 7 (by decide) (hts (.fieldLink RX6 69 "LiveHullModel" "to" "I") (List.mem_of_getElem? (i := 3) rfl)) (fun _ h9 => h9) rfl dX6_layPart_85 ?_
          refine lv_aload_n hx hb dX6_layPart_88 rfl (lv_at hl 0 rfl) ?_
          refine va_get (D := D) (ci := 5) (v := .int mf) (C := RX6) (T := TX6) (N := 16) hx hb hts in_X6_layPart_X6 hown hK hP 0 rfl rfl 6 (by decide) (hts (.fieldLink RX6 66 "LiveHullModel" "from" "I") (List.mem_of_getElem? (i := 2) rfl)) (fun _ h9 => h9) rfl dX6_layPart_89 ?_
          refine lv_isub hx hb dX6_layPart_92 ?_
          refine lv_iconst (v := 1) hx hb dX6_layPart_93 (by decide) ?_
          refine lv_iadd hx hb dX6_layPart_94 ?_
          refine lv_iconst (v := 2) hx hb dX6_layPart_95 (by decide) ?_
          refine lv_idiv hx hb dX6_layPart_96 (by decide) ?_
          refine lv_iadd hx hb dX6_layPart_97 ?_
          refine lv_istore (lv' := [(4, .int (mf + (((mt - mf) + 1) / 2))), (0, .ref mA), (1, .int v1), (3, .int v3)]) hx hb dX6_layPart_98 hl (by decide) rfl (fun ls hl => ?_)
          refine lv_iload_n hx hb dX6_layPart_100 rfl (lv_at hl 2 rfl) ?_
          refine lv_iload_n hx hb dX6_layPart_101 rfl (lv_at hl 3 rfl) ?_
          refine lv_iand hx hb dX6_layPart_102 ?_
          obtain ⟨hwA, hwB⟩ := hw
          refine lv_if_ne (tgt := 115) hx hb dX6_layPart_103 (by decide) (fun cb => ?_) (fun cb => ?_)
          · have hw := hwA cb
            refine lv_aload_n hx hb dX6_layPart_115 rfl (lv_at hl 1 rfl) ?_
            refine lv_iload hx hb dX6_layPart_116 (lv_at hl 0 rfl) ?_
            refine va_put (D := D) (ci := 5) (v := .int (mf + (((mt - mf) + 1) / 2))) (ty := .int) (C := RX6) (T := TX6) (N := 16) hx hb hts in_X6_layPart_X6 tyX6 tyX6_ok nmX6 hown hK hP hD hS 0 rfl rfl 6 (by decide) (hts (.fieldLink RX6 66 "LiveHullModel" "from" "I") (List.mem_of_getElem? (i := 2) rfl)) (fun _ h9 => h9) rfl (by decide +kernel) rfl rfl (Nat.le_of_ble_eq_true rfl) dX6_layPart_118 (fun H locs hP hD hS => ?_)
            have hP : va_P D vwCl [(mA, .inr (5, [.ref mAx, .ref mAy, .ref mAi, .int mn, .ref mAr, .ref mAo, .int (mf + (((mt - mf) + 1) / 2)), .int mt, .int md, .ref mAc, .int mk, .ref mAg, .int mh, .ref mAe, .ref mAS, .ref mAp])), (mAx, .inl (cI, 32, .inl mx)), (mAy, .inl (cI, 32, .inl my)), (mAi, .inl (cZ, 32, .inl mi)), (mAr, .inl (cI, 32, .inl mr)), (mAo, .inl (cI, 32, .inl mo)), (mAc, .inl (cI, 34, .inl mc)), (mAg, .inl (cI, 34, .inl mg)), (mAe, .inl (cI, 128, .inl me)), (mAS, .inl (cJ, 2, .inr (.inl mS))), (mAp, .inl (cZ, 2, .inl mp))] H := hP
            have hD : va_D A [(mA, .inr (5, [.ref mAx, .ref mAy, .ref mAi, .int mn, .ref mAr, .ref mAo, .int (mf + (((mt - mf) + 1) / 2)), .int mt, .int md, .ref mAc, .int mk, .ref mAg, .int mh, .ref mAe, .ref mAS, .ref mAp])), (mAx, .inl (cI, 32, .inl mx)), (mAy, .inl (cI, 32, .inl my)), (mAi, .inl (cZ, 32, .inl mi)), (mAr, .inl (cI, 32, .inl mr)), (mAo, .inl (cI, 32, .inl mo)), (mAc, .inl (cI, 34, .inl mc)), (mAg, .inl (cI, 34, .inl mg)), (mAe, .inl (cI, 128, .inl me)), (mAS, .inl (cJ, 2, .inr (.inl mS))), (mAp, .inl (cZ, 2, .inl mp))] := hD
            exact N121 (mf + (((mt - mf) + 1) / 2)) mt md v3 hw _ _ _ hP hD hS (lv_sub hl [1, 2, 3] rfl)
          · have hw := hwB cb
            refine lv_aload_n hx hb dX6_layPart_106 rfl (lv_at hl 1 rfl) ?_
            refine lv_iload hx hb dX6_layPart_107 (lv_at hl 0 rfl) ?_
            refine va_put (D := D) (ci := 5) (v := .int (mf + (((mt - mf) + 1) / 2))) (ty := .int) (C := RX6) (T := TX6) (N := 16) hx hb hts in_X6_layPart_X6 tyX6 tyX6_ok nmX6 hown hK hP hD hS 0 rfl rfl 7 (by decide) (hts (.fieldLink RX6 69 "LiveHullModel" "to" "I") (List.mem_of_getElem? (i := 3) rfl)) (fun _ h9 => h9) rfl (by decide +kernel) rfl rfl (Nat.le_of_ble_eq_true rfl) dX6_layPart_109 (fun H locs hP hD hS => ?_)
            have hP : va_P D vwCl [(mA, .inr (5, [.ref mAx, .ref mAy, .ref mAi, .int mn, .ref mAr, .ref mAo, .int mf, .int (mf + (((mt - mf) + 1) / 2)), .int md, .ref mAc, .int mk, .ref mAg, .int mh, .ref mAe, .ref mAS, .ref mAp])), (mAx, .inl (cI, 32, .inl mx)), (mAy, .inl (cI, 32, .inl my)), (mAi, .inl (cZ, 32, .inl mi)), (mAr, .inl (cI, 32, .inl mr)), (mAo, .inl (cI, 32, .inl mo)), (mAc, .inl (cI, 34, .inl mc)), (mAg, .inl (cI, 34, .inl mg)), (mAe, .inl (cI, 128, .inl me)), (mAS, .inl (cJ, 2, .inr (.inl mS))), (mAp, .inl (cZ, 2, .inl mp))] H := hP
            have hD : va_D A [(mA, .inr (5, [.ref mAx, .ref mAy, .ref mAi, .int mn, .ref mAr, .ref mAo, .int mf, .int (mf + (((mt - mf) + 1) / 2)), .int md, .ref mAc, .int mk, .ref mAg, .int mh, .ref mAe, .ref mAS, .ref mAp])), (mAx, .inl (cI, 32, .inl mx)), (mAy, .inl (cI, 32, .inl my)), (mAi, .inl (cZ, 32, .inl mi)), (mAr, .inl (cI, 32, .inl mr)), (mAo, .inl (cI, 32, .inl mo)), (mAc, .inl (cI, 34, .inl mc)), (mAg, .inl (cI, 34, .inl mg)), (mAe, .inl (cI, 128, .inl me)), (mAS, .inl (cJ, 2, .inr (.inl mS))), (mAp, .inl (cZ, 2, .inl mp))] := hD
            refine lv_goto (tgt := 121) hx hb dX6_layPart_112 (by decide) ?_
            exact N121 mf (mf + (((mt - mf) + 1) / 2)) md v3 hw _ _ _ hP hD hS (lv_sub hl [1, 2, 3] rfl)
        · have hw := hwB cb
          refine lv_iconst (v := 0) hx hb dX6_layPart_78 (by decide) ?_
          exact ret _ _ _ _ 0 (mr, mo, mf, mt, md) rfl hw hP hD hS dX6_layPart_79
  have N26 : ∀ (mr : Nat → Int32) (mo : Nat → Int32) (mf : Int32) (mt : Int32) (md : Int32) (k : Nat) (v2 : Int32), wp_X6_layPart_26 mx my mi mn v1 K  mr mo mf mt md k v2 → ∀ (H : Heap) (locs : List Loc) (ls : Array Slot), va_P D vwCl [(mA, .inr (5, [.ref mAx, .ref mAy, .ref mAi, .int mn, .ref mAr, .ref mAo, .int mf, .int mt, .int md, .ref mAc, .int mk, .ref mAg, .int mh, .ref mAe, .ref mAS, .ref mAp])), (mAx, .inl (cI, 32, .inl mx)), (mAy, .inl (cI, 32, .inl my)), (mAi, .inl (cZ, 32, .inl mi)), (mAr, .inl (cI, 32, .inl mr)), (mAo, .inl (cI, 32, .inl mo)), (mAc, .inl (cI, 34, .inl mc)), (mAg, .inl (cI, 34, .inl mg)), (mAe, .inl (cI, 128, .inl me)), (mAS, .inl (cJ, 2, .inr (.inl mS))), (mAp, .inl (cZ, 2, .inl mp))] H → va_D A [(mA, .inr (5, [.ref mAx, .ref mAy, .ref mAi, .int mn, .ref mAr, .ref mAo, .int mf, .int mt, .int md, .ref mAc, .int mk, .ref mAg, .int mh, .ref mAe, .ref mAS, .ref mAp])), (mAx, .inl (cI, 32, .inl mx)), (mAy, .inl (cI, 32, .inl my)), (mAi, .inl (cZ, 32, .inl mi)), (mAr, .inl (cI, 32, .inl mr)), (mAo, .inl (cI, 32, .inl mo)), (mAc, .inl (cI, 34, .inl mc)), (mAg, .inl (cI, 34, .inl mg)), (mAe, .inl (cI, 128, .inl me)), (mAS, .inl (cJ, 2, .inr (.inl mS))), (mAp, .inl (cZ, 2, .inl mp))] → va_S A s.heap H locs → lv_has ls 5 [(0, .ref mA), (1, .int v1), (2, .int v2)] → W p l e R s m args below meth c H locs 0 0 Q (F0 m 26 ls []) := by
    intro mr mo mf mt md
    intro k
    induction k with
    | zero => intro v2 hw; exact False.elim hw
    | succ k ih26 =>
      intro v2 hw H locs ls hP hD hS hl
      have hw : wp_X6_layPart_26b mx my mi mn v1 K (wp_X6_layPart_26 mx my mi mn v1 K  mr mo mf mt md k)  mr mo mf mt md v2 := hw
      unfold wp_X6_layPart_26b at hw
      generalize wp_X6_layPart_26 mx my mi mn v1 K  mr mo mf mt md k = L26 at hw ih26
      refine lv_iload_n hx hb dX6_layPart_26 rfl (lv_at hl 1 rfl) ?_
      refine lv_iload_n hx hb dX6_layPart_27 rfl (lv_at hl 2 rfl) ?_
      refine lv_iand hx hb dX6_layPart_28 ?_
      obtain ⟨hwA, hwB⟩ := hw
      refine lv_if_ne (tgt := 39) hx hb dX6_layPart_29 (by decide) (fun cb => ?_) (fun cb => ?_)
      · have hw := hwA cb
        refine lv_aload_n hx hb dX6_layPart_39 rfl (lv_at hl 0 rfl) ?_
        refine lv_iconst (v := 0) hx hb dX6_layPart_40 (by decide) ?_
        refine va_put (D := D) (ci := 5) (v := .int 0) (ty := .int) (C := RX6) (T := TX6) (N := 16) hx hb hts in_X6_layPart_X6 tyX6 tyX6_ok nmX6 hown hK hP hD hS 0 rfl rfl 6 (by decide) (hts (.fieldLink RX6 66 "LiveHullModel" "from" "I") (List.mem_of_getElem? (i := 2) rfl)) (fun _ h9 => h9) rfl (by decide +kernel) rfl rfl (Nat.le_of_ble_eq_true rfl) dX6_layPart_41 (fun H locs hP hD hS => ?_)
        have hP : va_P D vwCl [(mA, .inr (5, [.ref mAx, .ref mAy, .ref mAi, .int mn, .ref mAr, .ref mAo, .int 0, .int mt, .int md, .ref mAc, .int mk, .ref mAg, .int mh, .ref mAe, .ref mAS, .ref mAp])), (mAx, .inl (cI, 32, .inl mx)), (mAy, .inl (cI, 32, .inl my)), (mAi, .inl (cZ, 32, .inl mi)), (mAr, .inl (cI, 32, .inl mr)), (mAo, .inl (cI, 32, .inl mo)), (mAc, .inl (cI, 34, .inl mc)), (mAg, .inl (cI, 34, .inl mg)), (mAe, .inl (cI, 128, .inl me)), (mAS, .inl (cJ, 2, .inr (.inl mS))), (mAp, .inl (cZ, 2, .inl mp))] H := hP
        have hD : va_D A [(mA, .inr (5, [.ref mAx, .ref mAy, .ref mAi, .int mn, .ref mAr, .ref mAo, .int 0, .int mt, .int md, .ref mAc, .int mk, .ref mAg, .int mh, .ref mAe, .ref mAS, .ref mAp])), (mAx, .inl (cI, 32, .inl mx)), (mAy, .inl (cI, 32, .inl my)), (mAi, .inl (cZ, 32, .inl mi)), (mAr, .inl (cI, 32, .inl mr)), (mAo, .inl (cI, 32, .inl mo)), (mAc, .inl (cI, 34, .inl mc)), (mAg, .inl (cI, 34, .inl mg)), (mAe, .inl (cI, 128, .inl me)), (mAS, .inl (cJ, 2, .inr (.inl mS))), (mAp, .inl (cZ, 2, .inl mp))] := hD
        refine lv_aload_n hx hb dX6_layPart_44 rfl (lv_at hl 0 rfl) ?_
        refine lv_aload_n hx hb dX6_layPart_45 rfl (lv_at hl 0 rfl) ?_
        refine va_get (D := D) (ci := 5) (v := .int mn) (C := RX6) (T := TX6) (N := 16) hx hb hts in_X6_layPart_X6 hown hK hP 0 rfl rfl 3 (by decide) (hts (.fieldLink RX6 55 "LiveHullModel" "many" "I") (List.mem_of_getElem? (i := 1) rfl)) (fun _ h9 => h9) rfl dX6_layPart_46 ?_
        refine va_put (D := D) (ci := 5) (v := .int mn) (ty := .int) (C := RX6) (T := TX6) (N := 16) hx hb hts in_X6_layPart_X6 tyX6 tyX6_ok nmX6 hown hK hP hD hS 0 rfl rfl 7 (by decide) (hts (.fieldLink RX6 69 "LiveHullModel" "to" "I") (List.mem_of_getElem? (i := 3) rfl)) (fun _ h9 => h9) rfl (by decide +kernel) rfl rfl (Nat.le_of_ble_eq_true rfl) dX6_layPart_49 (fun H locs hP hD hS => ?_)
        have hP : va_P D vwCl [(mA, .inr (5, [.ref mAx, .ref mAy, .ref mAi, .int mn, .ref mAr, .ref mAo, .int 0, .int mn, .int md, .ref mAc, .int mk, .ref mAg, .int mh, .ref mAe, .ref mAS, .ref mAp])), (mAx, .inl (cI, 32, .inl mx)), (mAy, .inl (cI, 32, .inl my)), (mAi, .inl (cZ, 32, .inl mi)), (mAr, .inl (cI, 32, .inl mr)), (mAo, .inl (cI, 32, .inl mo)), (mAc, .inl (cI, 34, .inl mc)), (mAg, .inl (cI, 34, .inl mg)), (mAe, .inl (cI, 128, .inl me)), (mAS, .inl (cJ, 2, .inr (.inl mS))), (mAp, .inl (cZ, 2, .inl mp))] H := hP
        have hD : va_D A [(mA, .inr (5, [.ref mAx, .ref mAy, .ref mAi, .int mn, .ref mAr, .ref mAo, .int 0, .int mn, .int md, .ref mAc, .int mk, .ref mAg, .int mh, .ref mAe, .ref mAS, .ref mAp])), (mAx, .inl (cI, 32, .inl mx)), (mAy, .inl (cI, 32, .inl my)), (mAi, .inl (cZ, 32, .inl mi)), (mAr, .inl (cI, 32, .inl mr)), (mAo, .inl (cI, 32, .inl mo)), (mAc, .inl (cI, 34, .inl mc)), (mAg, .inl (cI, 34, .inl mg)), (mAe, .inl (cI, 128, .inl me)), (mAS, .inl (cJ, 2, .inr (.inl mS))), (mAp, .inl (cZ, 2, .inl mp))] := hD
        refine lv_aload_n hx hb dX6_layPart_52 rfl (lv_at hl 0 rfl) ?_
        refine lv_iconst (v := 0) hx hb dX6_layPart_53 (by decide) ?_
        refine va_put (D := D) (ci := 5) (v := .int 0) (ty := .int) (C := RX6) (T := TX6) (N := 16) hx hb hts in_X6_layPart_X6 tyX6 tyX6_ok nmX6 hown hK hP hD hS 0 rfl rfl 8 (by decide) (hts (.fieldLink RX6 72 "LiveHullModel" "depth" "I") (List.mem_of_getElem? (i := 4) rfl)) (fun _ h9 => h9) rfl (by decide +kernel) rfl rfl (Nat.le_of_ble_eq_true rfl) dX6_layPart_54 (fun H locs hP hD hS => ?_)
        have hP : va_P D vwCl [(mA, .inr (5, [.ref mAx, .ref mAy, .ref mAi, .int mn, .ref mAr, .ref mAo, .int 0, .int mn, .int 0, .ref mAc, .int mk, .ref mAg, .int mh, .ref mAe, .ref mAS, .ref mAp])), (mAx, .inl (cI, 32, .inl mx)), (mAy, .inl (cI, 32, .inl my)), (mAi, .inl (cZ, 32, .inl mi)), (mAr, .inl (cI, 32, .inl mr)), (mAo, .inl (cI, 32, .inl mo)), (mAc, .inl (cI, 34, .inl mc)), (mAg, .inl (cI, 34, .inl mg)), (mAe, .inl (cI, 128, .inl me)), (mAS, .inl (cJ, 2, .inr (.inl mS))), (mAp, .inl (cZ, 2, .inl mp))] H := hP
        have hD : va_D A [(mA, .inr (5, [.ref mAx, .ref mAy, .ref mAi, .int mn, .ref mAr, .ref mAo, .int 0, .int mn, .int 0, .ref mAc, .int mk, .ref mAg, .int mh, .ref mAe, .ref mAS, .ref mAp])), (mAx, .inl (cI, 32, .inl mx)), (mAy, .inl (cI, 32, .inl my)), (mAi, .inl (cZ, 32, .inl mi)), (mAr, .inl (cI, 32, .inl mr)), (mAo, .inl (cI, 32, .inl mo)), (mAc, .inl (cI, 34, .inl mc)), (mAg, .inl (cI, 34, .inl mg)), (mAe, .inl (cI, 128, .inl me)), (mAS, .inl (cJ, 2, .inr (.inl mS))), (mAp, .inl (cZ, 2, .inl mp))] := hD
        refine lv_iload_n hx hb dX6_layPart_57 rfl (lv_at hl 2 rfl) ?_
        refine lv_iconst (v := 1) hx hb dX6_layPart_58 (by decide) ?_
        refine lv_ishr hx hb dX6_layPart_59 ?_
        refine lv_istore_n (lv' := [(3, .int (v2 >>> (1 &&& 31))), (0, .ref mA), (1, .int v1), (2, .int v2)]) hx hb dX6_layPart_60 rfl hl (by decide) rfl (fun ls hl => ?_)
        obtain ⟨k, hw⟩ := hw
        exact N61 mr mo k 0 mn 0 (v2 >>> (1 &&& 31)) hw _ _ _ hP hD hS (lv_sub hl [1, 2, 0] rfl)
      · have hw := hwB cb
        refine lv_iload_n hx hb dX6_layPart_32 rfl (lv_at hl 2 rfl) ?_
        refine lv_iconst (v := 1) hx hb dX6_layPart_33 (by decide) ?_
        refine lv_ishr hx hb dX6_layPart_34 ?_
        refine lv_istore_n (lv' := [(2, .int (v2 >>> (1 &&& 31))), (0, .ref mA), (1, .int v1)]) hx hb dX6_layPart_35 rfl hl (by decide) rfl (fun ls hl => ?_)
        refine lv_goto (tgt := 26) hx hb dX6_layPart_36 (by decide) ?_
        exact ih26 (v2 >>> (1 &&& 31)) hw _ _ _ hP hD hS (lv_sub hl [1, 2, 0] rfl)
  unfold wp_X6_layPart at hw
  refine lv_aload_n hx hb dX6_layPart_0 rfl (lv_at hl 0 rfl) ?_
  refine cl_Vv (As := []) (rest := []) ⟨hx, hb, hml, hown, hts⟩ (c_X6_layRanks l D cI cJ cZ cO mA mAx mAy mAi mAr mAo mAc mAg mAe mAS mAp mx my mi mn mr mo mf mt md mc mk mg mh me mS mp  _ hw) (cwV 0 hts gX6_layPart_X6_layRanks rfl rfl rfl hd_X6_layRanks ⟨Nat.le_trans (Nat.le_of_ble_eq_true rfl) hRf, Nat.le_trans (Nat.le_of_ble_eq_true rfl) hRl⟩) hK hP hD hS hA [0, 1, 2, 3, 4, 5, 6, 7, 8, 9, 10] [] rfl (by decide) rfl (by decide) (by decide) 0 5 rfl rfl rfl hl.1 rfl (Nat.le_of_ble_eq_true rfl) dX6_layPart_1 ⟨Nat.zero_le _, Nat.zero_le _⟩ (fun u H locs hw hP hD hS => ?_)
  obtain ⟨mr_1, mo_1⟩ := u
  try dsimp only at hw
  have hP : va_P D vwCl [(mA, .inr (5, [.ref mAx, .ref mAy, .ref mAi, .int mn, .ref mAr, .ref mAo, .int mf, .int mt, .int md, .ref mAc, .int mk, .ref mAg, .int mh, .ref mAe, .ref mAS, .ref mAp])), (mAx, .inl (cI, 32, .inl mx)), (mAy, .inl (cI, 32, .inl my)), (mAi, .inl (cZ, 32, .inl mi)), (mAr, .inl (cI, 32, .inl mr_1)), (mAo, .inl (cI, 32, .inl mo_1)), (mAc, .inl (cI, 34, .inl mc)), (mAg, .inl (cI, 34, .inl mg)), (mAe, .inl (cI, 128, .inl me)), (mAS, .inl (cJ, 2, .inr (.inl mS))), (mAp, .inl (cZ, 2, .inl mp))] H := hP.sub [0, 1, 2, 3, 4, 5, 6, 7, 8, 9, 10] rfl
  have hD : va_D A [(mA, .inr (5, [.ref mAx, .ref mAy, .ref mAi, .int mn, .ref mAr, .ref mAo, .int mf, .int mt, .int md, .ref mAc, .int mk, .ref mAg, .int mh, .ref mAe, .ref mAS, .ref mAp])), (mAx, .inl (cI, 32, .inl mx)), (mAy, .inl (cI, 32, .inl my)), (mAi, .inl (cZ, 32, .inl mi)), (mAr, .inl (cI, 32, .inl mr_1)), (mAo, .inl (cI, 32, .inl mo_1)), (mAc, .inl (cI, 34, .inl mc)), (mAg, .inl (cI, 34, .inl mg)), (mAe, .inl (cI, 128, .inl me)), (mAS, .inl (cJ, 2, .inr (.inl mS))), (mAp, .inl (cZ, 2, .inl mp))] := hD.sub [0, 1, 2, 3, 4, 5, 6, 7, 8, 9, 10] (by decide) rfl
  refine lv_iload_n hx hb dX6_layPart_4 rfl (lv_at hl 1 rfl) ?_
  refine lv_iconst (v := 1) hx hb dX6_layPart_5 (by decide) ?_
  refine lv_bipush (v := 63) hx hb dX6_layPart_6 (by decide) ?_
  refine cl_Si (As := [.int v1, .int 1, .int 63]) (rest := []) ⟨hx, hb, hml, hown, hts⟩ (c_X6_in l D cI cJ cZ cO   v1 1 63 _ hw) (va_cwS 3 hts gX6_layPart_X6_in rfl rfl rfl hd_X6_in.2 ⟨Nat.le_trans (Nat.le_of_ble_eq_true rfl) hRf, Nat.le_trans (Nat.le_of_ble_eq_true rfl) hRl⟩) hK hP hD hS hA [] [0, 1, 2, 3, 4, 5, 6, 7, 8, 9, 10] rfl (by decide) rfl (by decide) (by decide) rfl hl.1 rfl (Nat.le_of_ble_eq_true rfl) dX6_layPart_8 ⟨Nat.zero_le _, Nat.zero_le _⟩ (fun r8 _u H locs hw hP hD hS => ?_)
  try dsimp only at hw
  have hP : va_P D vwCl [(mA, .inr (5, [.ref mAx, .ref mAy, .ref mAi, .int mn, .ref mAr, .ref mAo, .int mf, .int mt, .int md, .ref mAc, .int mk, .ref mAg, .int mh, .ref mAe, .ref mAS, .ref mAp])), (mAx, .inl (cI, 32, .inl mx)), (mAy, .inl (cI, 32, .inl my)), (mAi, .inl (cZ, 32, .inl mi)), (mAr, .inl (cI, 32, .inl mr_1)), (mAo, .inl (cI, 32, .inl mo_1)), (mAc, .inl (cI, 34, .inl mc)), (mAg, .inl (cI, 34, .inl mg)), (mAe, .inl (cI, 128, .inl me)), (mAS, .inl (cJ, 2, .inr (.inl mS))), (mAp, .inl (cZ, 2, .inl mp))] H := hP.sub [0, 1, 2, 3, 4, 5, 6, 7, 8, 9, 10] rfl
  have hD : va_D A [(mA, .inr (5, [.ref mAx, .ref mAy, .ref mAi, .int mn, .ref mAr, .ref mAo, .int mf, .int mt, .int md, .ref mAc, .int mk, .ref mAg, .int mh, .ref mAe, .ref mAS, .ref mAp])), (mAx, .inl (cI, 32, .inl mx)), (mAy, .inl (cI, 32, .inl my)), (mAi, .inl (cZ, 32, .inl mi)), (mAr, .inl (cI, 32, .inl mr_1)), (mAo, .inl (cI, 32, .inl mo_1)), (mAc, .inl (cI, 34, .inl mc)), (mAg, .inl (cI, 34, .inl mg)), (mAe, .inl (cI, 128, .inl me)), (mAS, .inl (cJ, 2, .inr (.inl mS))), (mAp, .inl (cZ, 2, .inl mp))] := hD.sub [0, 1, 2, 3, 4, 5, 6, 7, 8, 9, 10] (by decide) rfl
  obtain ⟨hwA, hwB⟩ := hw
  refine lv_if_eq (tgt := 21) hx hb dX6_layPart_11 (by decide) (fun cb => ?_) (fun cb => ?_)
  · have hw := hwA cb
    refine lv_iconst (v := 0) hx hb dX6_layPart_21 (by decide) ?_
    exact ret _ _ _ _ 0 (mr_1, mo_1, mf, mt, md) rfl hw hP hD hS dX6_layPart_22
  · have hw := hwB cb
    refine lv_aload_n hx hb dX6_layPart_14 rfl (lv_at hl 0 rfl) ?_
    refine va_get (D := D) (ci := 5) (v := .int mn) (C := RX6) (T := TX6) (N := 16) hx hb hts in_X6_layPart_X6 hown hK hP 0 rfl rfl 3 (by decide) (hts (.fieldLink RX6 55 "LiveHullModel" "many" "I") (List.mem_of_getElem? (i := 1) rfl)) (fun _ h9 => h9) rfl dX6_layPart_15 ?_
    obtain ⟨hwA, hwB⟩ := hw
    refine lv_if_ne (tgt := 23) hx hb dX6_layPart_18 (by decide) (fun cb => ?_) (fun cb => ?_)
    · have hw := hwA cb
      refine lv_bipush (v := 32) hx hb dX6_layPart_23 (by decide) ?_
      refine lv_istore_n (lv' := [(2, .int 32), (0, .ref mA), (1, .int v1)]) hx hb dX6_layPart_25 rfl hl (by decide) rfl (fun ls hl => ?_)
      obtain ⟨k, hw⟩ := hw
      exact N26 mr_1 mo_1 mf mt md k 32 hw _ _ _ hP hD hS (lv_sub hl [1, 2, 0] rfl)
    · have hw := hwB cb
      refine lv_iconst (v := 0) hx hb dX6_layPart_21 (by decide) ?_
      exact ret _ _ _ _ 0 (mr_1, mo_1, mf, mt, md) rfl hw hP hD hS dX6_layPart_22
theorem hd_X6_cross : yX6_cross.cls = RX6 ∧ yX6_cross.cls ≠ "java/lang/invoke/MethodHandle" ∧ yX6_cross.cls ≠ "java/lang/invoke/VarHandle" ∧ (parseMethodDescriptor yX6_cross.desc).map (fun d => d.parameters.length) = some 6 := by decide +kernel
set_option maxHeartbeats 8000000 in
set_option maxRecDepth 100000 in
theorem c_X6_cross (l : Launch) (D : va_G) (cI cJ cZ cO : ClassId)   (v0 : Int64) (v2 : Int64) (v4 : Int64) (v6 : Int64) (v8 : Int64) (v10 : Int64) (K : Int64 → Prop) (hw : wp_X6_cross v0 v2 v4 v6 v8 v10 K) : Cl l D (tys4 cI cJ cZ cO) yX6_cross wsX6_cross { frames := 0, cells := 0, slots := 0, locals := 0 } [.long v0, .long v2, .long v4, .long v6, .long v8, .long v10] [] (fun (r : Int64) (_ : Unit) => K r) (fun _ => []) := by
  refine mt_l (cc := cX6_cross) (maxL := 12) (by decide) rfl (Nat.le_of_ble_eq_true rfl) ?_
  intro p e s m args below meth c Q A R ls hRf hRl hx hb hml hown hts hK hA hP hD hS hl ret
  have hown : s.vm.findClass RX6 = some m.cls := hown
  have hl : lv_has ls 12 [(0, .long v0), (2, .long v2), (4, .long v4), (6, .long v6), (8, .long v8), (10, .long v10)] := hl
  unfold wp_X6_cross at hw
  refine lv_lload hx hb dX6_cross_0 (lv_at hl 2 rfl) ?_
  refine lv_lload_n hx hb dX6_cross_2 rfl (lv_at hl 0 rfl) ?_
  refine lv_lsub hx hb dX6_cross_3 ?_
  refine lv_lload hx hb dX6_cross_4 (lv_at hl 5 rfl) ?_
  refine lv_lload_n hx hb dX6_cross_6 rfl (lv_at hl 1 rfl) ?_
  refine lv_lsub hx hb dX6_cross_7 ?_
  refine lv_lmul hx hb dX6_cross_8 ?_
  refine lv_lload hx hb dX6_cross_9 (lv_at hl 3 rfl) ?_
  refine lv_lload_n hx hb dX6_cross_11 rfl (lv_at hl 1 rfl) ?_
  refine lv_lsub hx hb dX6_cross_12 ?_
  refine lv_lload hx hb dX6_cross_13 (lv_at hl 4 rfl) ?_
  refine lv_lload_n hx hb dX6_cross_15 rfl (lv_at hl 0 rfl) ?_
  refine lv_lsub hx hb dX6_cross_16 ?_
  refine lv_lmul hx hb dX6_cross_17 ?_
  refine lv_lsub hx hb dX6_cross_18 ?_
  exact ret _ _ _ _ (((v4 - v0) * (v10 - v2)) - ((v6 - v2) * (v8 - v0))) () hw hP hD hS dX6_cross_19
theorem in_X6_bend_X6 : ∀ w ∈ wsX60, w ∈ wsX6_bend := fun _ h => List.mem_cons_of_mem _ (List.mem_append_right _ h)
theorem hd_X6_bend : yX6_bend.cls = RX6 ∧ yX6_bend.cls ≠ "java/lang/invoke/MethodHandle" ∧ yX6_bend.cls ≠ "java/lang/invoke/VarHandle" ∧ (parseMethodDescriptor yX6_bend.desc).map (fun d => d.parameters.length) = some 3 := by decide +kernel
set_option maxHeartbeats 8000000 in
set_option maxRecDepth 100000 in
theorem c_X6_bend (l : Launch) (D : va_G) (cI cJ cZ cO : ClassId) (mA mAx mAy mAi mAr mAo mAc mAg mAe mAS mAp : Nat) (mx : Nat → Int32) (my : Nat → Int32) (mi : Nat → Int32) (mn : Int32) (mr : Nat → Int32) (mo : Nat → Int32) (mf : Int32) (mt : Int32) (md : Int32) (mc : Nat → Int32) (mk : Int32) (mg : Nat → Int32) (mh : Int32) (me : Nat → Int32) (mS : Nat → Int64) (mp : Nat → Int32) (v1 : Int32) (v2 : Int32) (v3 : Int32) (K : Int64 → Prop) (hw : wp_X6_bend mx my v1 v2 v3 K) : Cl l D (tys4 cI cJ cZ cO) yX6_bend wsX6_bend { frames := 1, cells := 0, slots := 0, locals := 31 } [.ref mA, .int v1, .int v2, .int v3] [(mA, .inr (5, [.ref mAx, .ref mAy, .ref mAi, .int mn, .ref mAr, .ref mAo, .int mf, .int mt, .int md, .ref mAc, .int mk, .ref mAg, .int mh, .ref mAe, .ref mAS, .ref mAp])), (mAx, .inl (cI, 32, .inl mx)), (mAy, .inl (cI, 32, .inl my)), (mAi, .inl (cZ, 32, .inl mi)), (mAr, .inl (cI, 32, .inl mr)), (mAo, .inl (cI, 32, .inl mo)), (mAc, .inl (cI, 34, .inl mc)), (mAg, .inl (cI, 34, .inl mg)), (mAe, .inl (cI, 128, .inl me)), (mAS, .inl (cJ, 2, .inr (.inl mS))), (mAp, .inl (cZ, 2, .inl mp))] (fun (r : Int64) (_ : Unit) => K r) (fun _ => [(mA, .inr (5, [.ref mAx, .ref mAy, .ref mAi, .int mn, .ref mAr, .ref mAo, .int mf, .int mt, .int md, .ref mAc, .int mk, .ref mAg, .int mh, .ref mAe, .ref mAS, .ref mAp])), (mAx, .inl (cI, 32, .inl mx)), (mAy, .inl (cI, 32, .inl my)), (mAi, .inl (cZ, 32, .inl mi)), (mAr, .inl (cI, 32, .inl mr)), (mAo, .inl (cI, 32, .inl mo)), (mAc, .inl (cI, 34, .inl mc)), (mAg, .inl (cI, 34, .inl mg)), (mAe, .inl (cI, 128, .inl me)), (mAS, .inl (cJ, 2, .inr (.inl mS))), (mAp, .inl (cZ, 2, .inl mp))]) := by
  refine mt_l (cc := cX6_bend) (maxL := 4) (by decide) rfl (Nat.le_of_ble_eq_true rfl) ?_
  intro p e s m args below meth c Q A R ls hRf hRl hx hb hml hown hts hK hA hP hD hS hl ret
  have hown : s.vm.findClass RX6 = some m.cls := hown
  have hl : lv_has ls 4 [(0, .ref mA), (1, .int v1), (2, .int v2), (3, .int v3)] := hl
  unfold wp_X6_bend at hw
  refine lv_aload_n hx hb dX6_bend_0 rfl (lv_at hl 0 rfl) ?_
  refine va_get (D := D) (ci := 5) (v := .ref mAx) (C := RX6) (T := TX6) (N := 16) hx hb hts in_X6_bend_X6 hown hK hP 0 rfl rfl 0 (by decide) (hts (.fieldLink RX6 7 "LiveHullModel" "xs" "[I") (List.mem_of_getElem? (i := 1) rfl)) (fun _ h9 => h9) rfl dX6_bend_1 ?_
  refine lv_iload_n hx hb dX6_bend_4 rfl (lv_at hl 1 rfl) ?_
  obtain ⟨hi, hw⟩ := hw
  refine va_iald hx hb hK hP 1 0 rfl rfl hi dX6_bend_5 ?_
  refine lv_i2l hx hb dX6_bend_6 rfl ?_
  refine lv_aload_n hx hb dX6_bend_7 rfl (lv_at hl 0 rfl) ?_
  refine va_get (D := D) (ci := 5) (v := .ref mAy) (C := RX6) (T := TX6) (N := 16) hx hb hts in_X6_bend_X6 hown hK hP 0 rfl rfl 1 (by decide) (hts (.fieldLink RX6 13 "LiveHullModel" "ys" "[I") (List.mem_of_getElem? (i := 2) rfl)) (fun _ h9 => h9) rfl dX6_bend_8 ?_
  refine lv_iload_n hx hb dX6_bend_11 rfl (lv_at hl 1 rfl) ?_
  obtain ⟨hi, hw⟩ := hw
  refine va_iald hx hb hK hP 2 0 rfl rfl hi dX6_bend_12 ?_
  refine lv_i2l hx hb dX6_bend_13 rfl ?_
  refine lv_aload_n hx hb dX6_bend_14 rfl (lv_at hl 0 rfl) ?_
  refine va_get (D := D) (ci := 5) (v := .ref mAx) (C := RX6) (T := TX6) (N := 16) hx hb hts in_X6_bend_X6 hown hK hP 0 rfl rfl 0 (by decide) (hts (.fieldLink RX6 7 "LiveHullModel" "xs" "[I") (List.mem_of_getElem? (i := 1) rfl)) (fun _ h9 => h9) rfl dX6_bend_15 ?_
  refine lv_iload_n hx hb dX6_bend_18 rfl (lv_at hl 2 rfl) ?_
  obtain ⟨hi, hw⟩ := hw
  refine va_iald hx hb hK hP 1 0 rfl rfl hi dX6_bend_19 ?_
  refine lv_i2l hx hb dX6_bend_20 rfl ?_
  refine lv_aload_n hx hb dX6_bend_21 rfl (lv_at hl 0 rfl) ?_
  refine va_get (D := D) (ci := 5) (v := .ref mAy) (C := RX6) (T := TX6) (N := 16) hx hb hts in_X6_bend_X6 hown hK hP 0 rfl rfl 1 (by decide) (hts (.fieldLink RX6 13 "LiveHullModel" "ys" "[I") (List.mem_of_getElem? (i := 2) rfl)) (fun _ h9 => h9) rfl dX6_bend_22 ?_
  refine lv_iload_n hx hb dX6_bend_25 rfl (lv_at hl 2 rfl) ?_
  obtain ⟨hi, hw⟩ := hw
  refine va_iald hx hb hK hP 2 0 rfl rfl hi dX6_bend_26 ?_
  refine lv_i2l hx hb dX6_bend_27 rfl ?_
  refine lv_aload_n hx hb dX6_bend_28 rfl (lv_at hl 0 rfl) ?_
  refine va_get (D := D) (ci := 5) (v := .ref mAx) (C := RX6) (T := TX6) (N := 16) hx hb hts in_X6_bend_X6 hown hK hP 0 rfl rfl 0 (by decide) (hts (.fieldLink RX6 7 "LiveHullModel" "xs" "[I") (List.mem_of_getElem? (i := 1) rfl)) (fun _ h9 => h9) rfl dX6_bend_29 ?_
  refine lv_iload_n hx hb dX6_bend_32 rfl (lv_at hl 3 rfl) ?_
  obtain ⟨hi, hw⟩ := hw
  refine va_iald hx hb hK hP 1 0 rfl rfl hi dX6_bend_33 ?_
  refine lv_i2l hx hb dX6_bend_34 rfl ?_
  refine lv_aload_n hx hb dX6_bend_35 rfl (lv_at hl 0 rfl) ?_
  refine va_get (D := D) (ci := 5) (v := .ref mAy) (C := RX6) (T := TX6) (N := 16) hx hb hts in_X6_bend_X6 hown hK hP 0 rfl rfl 1 (by decide) (hts (.fieldLink RX6 13 "LiveHullModel" "ys" "[I") (List.mem_of_getElem? (i := 2) rfl)) (fun _ h9 => h9) rfl dX6_bend_36 ?_
  refine lv_iload_n hx hb dX6_bend_39 rfl (lv_at hl 3 rfl) ?_
  obtain ⟨hi, hw⟩ := hw
  refine va_iald hx hb hK hP 2 0 rfl rfl hi dX6_bend_40 ?_
  refine lv_i2l hx hb dX6_bend_41 rfl ?_
  refine cl_Sl (As := [.long ((mx v1.toNatClampNeg).toInt64), .long ((my v1.toNatClampNeg).toInt64), .long ((mx v2.toNatClampNeg).toInt64), .long ((my v2.toNatClampNeg).toInt64), .long ((mx v3.toNatClampNeg).toInt64), .long ((my v3.toNatClampNeg).toInt64)]) (rest := []) ⟨hx, hb, hml, hown, hts⟩ (c_X6_cross l D cI cJ cZ cO   ((mx v1.toNatClampNeg).toInt64) ((my v1.toNatClampNeg).toInt64) ((mx v2.toNatClampNeg).toInt64) ((my v2.toNatClampNeg).toInt64) ((mx v3.toNatClampNeg).toInt64) ((my v3.toNatClampNeg).toInt64) _ hw) (va_cwS 6 hts gX6_bend_X6_cross rfl rfl rfl hd_X6_cross.2 ⟨Nat.le_trans (Nat.le_of_ble_eq_true rfl) hRf, Nat.le_trans (Nat.le_of_ble_eq_true rfl) hRl⟩) hK hP hD hS hA [] [0, 1, 2, 3, 4, 5, 6, 7, 8, 9, 10] rfl (by decide) rfl (by decide) (by decide) rfl hl.1 rfl (Nat.le_of_ble_eq_true rfl) dX6_bend_42 ⟨Nat.zero_le _, Nat.zero_le _⟩ (fun r42 _u H locs hw hP hD hS => ?_)
  try dsimp only at hw
  have hP : va_P D vwCl [(mA, .inr (5, [.ref mAx, .ref mAy, .ref mAi, .int mn, .ref mAr, .ref mAo, .int mf, .int mt, .int md, .ref mAc, .int mk, .ref mAg, .int mh, .ref mAe, .ref mAS, .ref mAp])), (mAx, .inl (cI, 32, .inl mx)), (mAy, .inl (cI, 32, .inl my)), (mAi, .inl (cZ, 32, .inl mi)), (mAr, .inl (cI, 32, .inl mr)), (mAo, .inl (cI, 32, .inl mo)), (mAc, .inl (cI, 34, .inl mc)), (mAg, .inl (cI, 34, .inl mg)), (mAe, .inl (cI, 128, .inl me)), (mAS, .inl (cJ, 2, .inr (.inl mS))), (mAp, .inl (cZ, 2, .inl mp))] H := hP.sub [0, 1, 2, 3, 4, 5, 6, 7, 8, 9, 10] rfl
  have hD : va_D A [(mA, .inr (5, [.ref mAx, .ref mAy, .ref mAi, .int mn, .ref mAr, .ref mAo, .int mf, .int mt, .int md, .ref mAc, .int mk, .ref mAg, .int mh, .ref mAe, .ref mAS, .ref mAp])), (mAx, .inl (cI, 32, .inl mx)), (mAy, .inl (cI, 32, .inl my)), (mAi, .inl (cZ, 32, .inl mi)), (mAr, .inl (cI, 32, .inl mr)), (mAo, .inl (cI, 32, .inl mo)), (mAc, .inl (cI, 34, .inl mc)), (mAg, .inl (cI, 34, .inl mg)), (mAe, .inl (cI, 128, .inl me)), (mAS, .inl (cJ, 2, .inr (.inl mS))), (mAp, .inl (cZ, 2, .inl mp))] := hD.sub [0, 1, 2, 3, 4, 5, 6, 7, 8, 9, 10] (by decide) rfl
  exact ret _ _ _ _ r42 () hw hP hD hS dX6_bend_45
theorem in_X6_layChain_X6 : ∀ w ∈ wsX60, w ∈ wsX6_layChain := fun _ h => List.mem_cons_of_mem _ (List.mem_append_right _ h)
theorem hd_X6_layChain : yX6_layChain.cls = RX6 ∧ yX6_layChain.cls ≠ "java/lang/invoke/MethodHandle" ∧ yX6_layChain.cls ≠ "java/lang/invoke/VarHandle" ∧ (parseMethodDescriptor yX6_layChain.desc).map (fun d => d.parameters.length) = some 1 := by decide +kernel
set_option maxHeartbeats 8000000 in
set_option maxRecDepth 100000 in
theorem c_X6_layChain (l : Launch) (D : va_G) (cI cJ cZ cO : ClassId) (mA mAx mAy mAi mAr mAo mAc mAg mAe mAS mAp : Nat) (mx : Nat → Int32) (my : Nat → Int32) (mi : Nat → Int32) (mn : Int32) (mr : Nat → Int32) (mo : Nat → Int32) (mf : Int32) (mt : Int32) (md : Int32) (mc : Nat → Int32) (mk : Int32) (mg : Nat → Int32) (mh : Int32) (me : Nat → Int32) (mS : Nat → Int64) (mp : Nat → Int32) (v1 : Int32) (K : (Nat → Int32) → Int32 → Prop) (hw : wp_X6_layChain mx my mr mf mt mc mk v1 K) : Cv l D (tys4 cI cJ cZ cO) yX6_layChain wsX6_layChain { frames := 2, cells := 0, slots := 0, locals := 54 } [.ref mA, .int v1] [(mA, .inr (5, [.ref mAx, .ref mAy, .ref mAi, .int mn, .ref mAr, .ref mAo, .int mf, .int mt, .int md, .ref mAc, .int mk, .ref mAg, .int mh, .ref mAe, .ref mAS, .ref mAp])), (mAx, .inl (cI, 32, .inl mx)), (mAy, .inl (cI, 32, .inl my)), (mAi, .inl (cZ, 32, .inl mi)), (mAr, .inl (cI, 32, .inl mr)), (mAo, .inl (cI, 32, .inl mo)), (mAc, .inl (cI, 34, .inl mc)), (mAg, .inl (cI, 34, .inl mg)), (mAe, .inl (cI, 128, .inl me)), (mAS, .inl (cJ, 2, .inr (.inl mS))), (mAp, .inl (cZ, 2, .inl mp))] (fun (u : (Nat → Int32) × (Int32)) => K u.1 u.2) (fun u => [(mA, .inr (5, [.ref mAx, .ref mAy, .ref mAi, .int mn, .ref mAr, .ref mAo, .int mf, .int mt, .int md, .ref mAc, .int u.2, .ref mAg, .int mh, .ref mAe, .ref mAS, .ref mAp])), (mAx, .inl (cI, 32, .inl mx)), (mAy, .inl (cI, 32, .inl my)), (mAi, .inl (cZ, 32, .inl mi)), (mAr, .inl (cI, 32, .inl mr)), (mAo, .inl (cI, 32, .inl mo)), (mAc, .inl (cI, 34, .inl u.1)), (mAg, .inl (cI, 34, .inl mg)), (mAe, .inl (cI, 128, .inl me)), (mAS, .inl (cJ, 2, .inr (.inl mS))), (mAp, .inl (cZ, 2, .inl mp))]) := by
  refine mt_v (cc := cX6_layChain) (maxL := 5) (by decide) rfl (Nat.le_of_ble_eq_true rfl) ?_
  intro p e s m args below meth c Q A R ls hRf hRl hx hb hml hown hts hK hA hP hD hS hl ret
  have hown : s.vm.findClass RX6 = some m.cls := hown
  have hl : lv_has ls 5 [(0, .ref mA), (1, .int v1)] := hl
  have N10 : ∀  (k : Nat) (mc : Nat → Int32) (mk : Int32) (v2 : Int32), wp_X6_layChain_10 mx my mr mf mt v1 K   k mc mk v2 → ∀ (H : Heap) (locs : List Loc) (ls : Array Slot), va_P D vwCl [(mA, .inr (5, [.ref mAx, .ref mAy, .ref mAi, .int mn, .ref mAr, .ref mAo, .int mf, .int mt, .int md, .ref mAc, .int mk, .ref mAg, .int mh, .ref mAe, .ref mAS, .ref mAp])), (mAx, .inl (cI, 32, .inl mx)), (mAy, .inl (cI, 32, .inl my)), (mAi, .inl (cZ, 32, .inl mi)), (mAr, .inl (cI, 32, .inl mr)), (mAo, .inl (cI, 32, .inl mo)), (mAc, .inl (cI, 34, .inl mc)), (mAg, .inl (cI, 34, .inl mg)), (mAe, .inl (cI, 128, .inl me)), (mAS, .inl (cJ, 2, .inr (.inl mS))), (mAp, .inl (cZ, 2, .inl mp))] H → va_D A [(mA, .inr (5, [.ref mAx, .ref mAy, .ref mAi, .int mn, .ref mAr, .ref mAo, .int mf, .int mt, .int md, .ref mAc, .int mk, .ref mAg, .int mh, .ref mAe, .ref mAS, .ref mAp])), (mAx, .inl (cI, 32, .inl mx)), (mAy, .inl (cI, 32, .inl my)), (mAi, .inl (cZ, 32, .inl mi)), (mAr, .inl (cI, 32, .inl mr)), (mAo, .inl (cI, 32, .inl mo)), (mAc, .inl (cI, 34, .inl mc)), (mAg, .inl (cI, 34, .inl mg)), (mAe, .inl (cI, 128, .inl me)), (mAS, .inl (cJ, 2, .inr (.inl mS))), (mAp, .inl (cZ, 2, .inl mp))] → va_S A s.heap H locs → lv_has ls 5 [(0, .ref mA), (1, .int v1), (2, .int v2)] → W p l e R s m args below meth c H locs 0 0 Q (F0 m 10 ls []) := by
    intro k
    induction k with
    | zero => intro mc mk v2 hw; exact False.elim hw
    | succ k ih10 =>
      intro mc mk v2 hw H locs ls hP hD hS hl
      have hw : wp_X6_layChain_10b mx my mr mf mt v1 K (wp_X6_layChain_10 mx my mr mf mt v1 K   k)   mc mk v2 := hw
      unfold wp_X6_layChain_10b at hw
      generalize wp_X6_layChain_10 mx my mr mf mt v1 K   k = L10 at hw ih10
      have N203 : ∀ (mc : Nat → Int32) (mk : Int32) (v2 : Int32) (v3 : Int32), wp_X6_layChain_203 mx my mr mf mt v1 K L10  mc mk v2 v3 → ∀ (H : Heap) (locs : List Loc) (ls : Array Slot), va_P D vwCl [(mA, .inr (5, [.ref mAx, .ref mAy, .ref mAi, .int mn, .ref mAr, .ref mAo, .int mf, .int mt, .int md, .ref mAc, .int mk, .ref mAg, .int mh, .ref mAe, .ref mAS, .ref mAp])), (mAx, .inl (cI, 32, .inl mx)), (mAy, .inl (cI, 32, .inl my)), (mAi, .inl (cZ, 32, .inl mi)), (mAr, .inl (cI, 32, .inl mr)), (mAo, .inl (cI, 32, .inl mo)), (mAc, .inl (cI, 34, .inl mc)), (mAg, .inl (cI, 34, .inl mg)), (mAe, .inl (cI, 128, .inl me)), (mAS, .inl (cJ, 2, .inr (.inl mS))), (mAp, .inl (cZ, 2, .inl mp))] H → va_D A [(mA, .inr (5, [.ref mAx, .ref mAy, .ref mAi, .int mn, .ref mAr, .ref mAo, .int mf, .int mt, .int md, .ref mAc, .int mk, .ref mAg, .int mh, .ref mAe, .ref mAS, .ref mAp])), (mAx, .inl (cI, 32, .inl mx)), (mAy, .inl (cI, 32, .inl my)), (mAi, .inl (cZ, 32, .inl mi)), (mAr, .inl (cI, 32, .inl mr)), (mAo, .inl (cI, 32, .inl mo)), (mAc, .inl (cI, 34, .inl mc)), (mAg, .inl (cI, 34, .inl mg)), (mAe, .inl (cI, 128, .inl me)), (mAS, .inl (cJ, 2, .inr (.inl mS))), (mAp, .inl (cZ, 2, .inl mp))] → va_S A s.heap H locs → lv_has ls 5 [(0, .ref mA), (1, .int v1), (2, .int v2), (3, .int v3)] → W p l e R s m args below meth c H locs 0 0 Q (F0 m 203 ls []) := by
        intro mc mk v2 v3 hw H locs ls hP hD hS hl
        unfold wp_X6_layChain_203 at hw
        refine lv_aload_n hx hb dX6_layChain_203 rfl (lv_at hl 0 rfl) ?_
        refine va_get (D := D) (ci := 5) (v := .ref mAc) (C := RX6) (T := TX6) (N := 16) hx hb hts in_X6_layChain_X6 hown hK hP 0 rfl rfl 9 (by decide) (hts (.fieldLink RX6 26 "LiveHullModel" "corner" "[I") (List.mem_of_getElem? (i := 6) rfl)) (fun _ h9 => h9) rfl dX6_layChain_204 ?_
        refine lv_aload_n hx hb dX6_layChain_207 rfl (lv_at hl 0 rfl) ?_
        refine va_get (D := D) (ci := 5) (v := .int mk) (C := RX6) (T := TX6) (N := 16) hx hb hts in_X6_layChain_X6 hown hK hP 0 rfl rfl 10 (by decide) (hts (.fieldLink RX6 79 "LiveHullModel" "corners" "I") (List.mem_of_getElem? (i := 1) rfl)) (fun _ h9 => h9) rfl dX6_layChain_208 ?_
        refine lv_iload_n hx hb dX6_layChain_211 rfl (lv_at hl 3 rfl) ?_
        obtain ⟨hi, hw⟩ := hw
        refine va_iast hx hb hK hP hD hS 6 0 rfl rfl hi dX6_layChain_212 (fun H locs hP hD hS => ?_)
        have hP : va_P D vwCl [(mA, .inr (5, [.ref mAx, .ref mAy, .ref mAi, .int mn, .ref mAr, .ref mAo, .int mf, .int mt, .int md, .ref mAc, .int mk, .ref mAg, .int mh, .ref mAe, .ref mAS, .ref mAp])), (mAx, .inl (cI, 32, .inl mx)), (mAy, .inl (cI, 32, .inl my)), (mAi, .inl (cZ, 32, .inl mi)), (mAr, .inl (cI, 32, .inl mr)), (mAo, .inl (cI, 32, .inl mo)), (mAc, .inl (cI, 34, .inl (upd mc mk.toNatClampNeg v3))), (mAg, .inl (cI, 34, .inl mg)), (mAe, .inl (cI, 128, .inl me)), (mAS, .inl (cJ, 2, .inr (.inl mS))), (mAp, .inl (cZ, 2, .inl mp))] H := hP
        have hD : va_D A [(mA, .inr (5, [.ref mAx, .ref mAy, .ref mAi, .int mn, .ref mAr, .ref mAo, .int mf, .int mt, .int md, .ref mAc, .int mk, .ref mAg, .int mh, .ref mAe, .ref mAS, .ref mAp])), (mAx, .inl (cI, 32, .inl mx)), (mAy, .inl (cI, 32, .inl my)), (mAi, .inl (cZ, 32, .inl mi)), (mAr, .inl (cI, 32, .inl mr)), (mAo, .inl (cI, 32, .inl mo)), (mAc, .inl (cI, 34, .inl (upd mc mk.toNatClampNeg v3))), (mAg, .inl (cI, 34, .inl mg)), (mAe, .inl (cI, 128, .inl me)), (mAS, .inl (cJ, 2, .inr (.inl mS))), (mAp, .inl (cZ, 2, .inl mp))] := hD
        refine lv_aload_n hx hb dX6_layChain_213 rfl (lv_at hl 0 rfl) ?_
        refine lv_dup hx hb dX6_layChain_214 rfl ?_
        refine va_get (D := D) (ci := 5) (v := .int mk) (C := RX6) (T := TX6) (N := 16) hx hb hts in_X6_layChain_X6 hown hK hP 0 rfl rfl 10 (by decide) (hts (.fieldLink RX6 79 "LiveHullModel" "corners" "I") (List.mem_of_getElem? (i := 1) rfl)) (fun _ h9 => h9) rfl dX6_layChain_215 ?_
        refine lv_iconst (v := 1) hx hb dX6_layChain_218 (by decide) ?_
        refine lv_iadd hx hb dX6_layChain_219 ?_
        refine va_put (D := D) (ci := 5) (v := .int (mk + 1)) (ty := .int) (C := RX6) (T := TX6) (N := 16) hx hb hts in_X6_layChain_X6 tyX6 tyX6_ok nmX6 hown hK hP hD hS 0 rfl rfl 10 (by decide) (hts (.fieldLink RX6 79 "LiveHullModel" "corners" "I") (List.mem_of_getElem? (i := 1) rfl)) (fun _ h9 => h9) rfl (by decide +kernel) rfl rfl (Nat.le_of_ble_eq_true rfl) dX6_layChain_220 (fun H locs hP hD hS => ?_)
        have hP : va_P D vwCl [(mA, .inr (5, [.ref mAx, .ref mAy, .ref mAi, .int mn, .ref mAr, .ref mAo, .int mf, .int mt, .int md, .ref mAc, .int (mk + 1), .ref mAg, .int mh, .ref mAe, .ref mAS, .ref mAp])), (mAx, .inl (cI, 32, .inl mx)), (mAy, .inl (cI, 32, .inl my)), (mAi, .inl (cZ, 32, .inl mi)), (mAr, .inl (cI, 32, .inl mr)), (mAo, .inl (cI, 32, .inl mo)), (mAc, .inl (cI, 34, .inl (upd mc mk.toNatClampNeg v3))), (mAg, .inl (cI, 34, .inl mg)), (mAe, .inl (cI, 128, .inl me)), (mAS, .inl (cJ, 2, .inr (.inl mS))), (mAp, .inl (cZ, 2, .inl mp))] H := hP
        have hD : va_D A [(mA, .inr (5, [.ref mAx, .ref mAy, .ref mAi, .int mn, .ref mAr, .ref mAo, .int mf, .int mt, .int md, .ref mAc, .int (mk + 1), .ref mAg, .int mh, .ref mAe, .ref mAS, .ref mAp])), (mAx, .inl (cI, 32, .inl mx)), (mAy, .inl (cI, 32, .inl my)), (mAi, .inl (cZ, 32, .inl mi)), (mAr, .inl (cI, 32, .inl mr)), (mAo, .inl (cI, 32, .inl mo)), (mAc, .inl (cI, 34, .inl (upd mc mk.toNatClampNeg v3))), (mAg, .inl (cI, 34, .inl mg)), (mAe, .inl (cI, 128, .inl me)), (mAS, .inl (cJ, 2, .inr (.inl mS))), (mAp, .inl (cZ, 2, .inl mp))] := hD
        refine lv_iinc (v := (v2 + 1)) (lv' := [(2, .int (v2 + 1)), (0, .ref mA), (1, .int v1), (3, .int v3)]) hx hb dX6_layChain_223 hl (k := 2) rfl rfl (by decide) rfl (fun ls hl => ?_)
        refine lv_goto (tgt := 10) hx hb dX6_layChain_226 (by decide) ?_
        exact ih10 (upd mc mk.toNatClampNeg v3) (mk + 1) (v2 + 1) hw _ _ _ hP hD hS (lv_sub hl [1, 2, 0] rfl)
      have N111 : ∀ (mc : Nat → Int32) (v2 : Int32) (v3 : Int32) (k : Nat) (mk : Int32), wp_X6_layChain_111 mx my mr mf mt v1 K L10  mc v2 v3 k mk → ∀ (H : Heap) (locs : List Loc) (ls : Array Slot), va_P D vwCl [(mA, .inr (5, [.ref mAx, .ref mAy, .ref mAi, .int mn, .ref mAr, .ref mAo, .int mf, .int mt, .int md, .ref mAc, .int mk, .ref mAg, .int mh, .ref mAe, .ref mAS, .ref mAp])), (mAx, .inl (cI, 32, .inl mx)), (mAy, .inl (cI, 32, .inl my)), (mAi, .inl (cZ, 32, .inl mi)), (mAr, .inl (cI, 32, .inl mr)), (mAo, .inl (cI, 32, .inl mo)), (mAc, .inl (cI, 34, .inl mc)), (mAg, .inl (cI, 34, .inl mg)), (mAe, .inl (cI, 128, .inl me)), (mAS, .inl (cJ, 2, .inr (.inl mS))), (mAp, .inl (cZ, 2, .inl mp))] H → va_D A [(mA, .inr (5, [.ref mAx, .ref mAy, .ref mAi, .int mn, .ref mAr, .ref mAo, .int mf, .int mt, .int md, .ref mAc, .int mk, .ref mAg, .int mh, .ref mAe, .ref mAS, .ref mAp])), (mAx, .inl (cI, 32, .inl mx)), (mAy, .inl (cI, 32, .inl my)), (mAi, .inl (cZ, 32, .inl mi)), (mAr, .inl (cI, 32, .inl mr)), (mAo, .inl (cI, 32, .inl mo)), (mAc, .inl (cI, 34, .inl mc)), (mAg, .inl (cI, 34, .inl mg)), (mAe, .inl (cI, 128, .inl me)), (mAS, .inl (cJ, 2, .inr (.inl mS))), (mAp, .inl (cZ, 2, .inl mp))] → va_S A s.heap H locs → lv_has ls 5 [(0, .ref mA), (1, .int v1), (2, .int v2), (3, .int v3)] → W p l e R s m args below meth c H locs 0 0 Q (F0 m 111 ls []) := by
        intro mc v2 v3
        intro k
        induction k with
        | zero => intro mk hw; exact False.elim hw
        | succ k ih111 =>
          intro mk hw H locs ls hP hD hS hl
          have hw : wp_X6_layChain_111b mx my mr mf mt v1 K L10 (wp_X6_layChain_111 mx my mr mf mt v1 K L10  mc v2 v3 k)  mc v2 v3 mk := hw
          unfold wp_X6_layChain_111b at hw
          generalize wp_X6_layChain_111 mx my mr mf mt v1 K L10  mc v2 v3 k = L111 at hw ih111
          refine lv_aload_n hx hb dX6_layChain_111 rfl (lv_at hl 0 rfl) ?_
          refine va_get (D := D) (ci := 5) (v := .int mk) (C := RX6) (T := TX6) (N := 16) hx hb hts in_X6_layChain_X6 hown hK hP 0 rfl rfl 10 (by decide) (hts (.fieldLink RX6 79 "LiveHullModel" "corners" "I") (List.mem_of_getElem? (i := 1) rfl)) (fun _ h9 => h9) rfl dX6_layChain_112 ?_
          refine lv_iconst (v := 1) hx hb dX6_layChain_115 (by decide) ?_
          obtain ⟨hwA, hwB⟩ := hw
          refine lv_icmp_le (tgt := 203) hx hb dX6_layChain_116 (by decide) (fun cb => ?_) (fun cb => ?_)
          · have hw := hwA cb
            exact N203 mc mk v2 v3 hw _ _ _ hP hD hS (lv_sub hl [0, 1, 2, 3] rfl)
          · have hw := hwB cb
            refine lv_iload_n hx hb dX6_layChain_119 rfl (lv_at hl 1 rfl) ?_
            obtain ⟨hwA, hwB⟩ := hw
            refine lv_if_ne (tgt := 158) hx hb dX6_layChain_120 (by decide) (fun cb => ?_) (fun cb => ?_)
            · have hw := hwA cb
              refine lv_aload_n hx hb dX6_layChain_158 rfl (lv_at hl 0 rfl) ?_
              refine lv_aload_n hx hb dX6_layChain_159 rfl (lv_at hl 0 rfl) ?_
              refine va_get (D := D) (ci := 5) (v := .ref mAc) (C := RX6) (T := TX6) (N := 16) hx hb hts in_X6_layChain_X6 hown hK hP 0 rfl rfl 9 (by decide) (hts (.fieldLink RX6 26 "LiveHullModel" "corner" "[I") (List.mem_of_getElem? (i := 6) rfl)) (fun _ h9 => h9) rfl dX6_layChain_160 ?_
              refine lv_aload_n hx hb dX6_layChain_163 rfl (lv_at hl 0 rfl) ?_
              refine va_get (D := D) (ci := 5) (v := .int mk) (C := RX6) (T := TX6) (N := 16) hx hb hts in_X6_layChain_X6 hown hK hP 0 rfl rfl 10 (by decide) (hts (.fieldLink RX6 79 "LiveHullModel" "corners" "I") (List.mem_of_getElem? (i := 1) rfl)) (fun _ h9 => h9) rfl dX6_layChain_164 ?_
              refine lv_iconst (v := 2) hx hb dX6_layChain_167 (by decide) ?_
              refine lv_isub hx hb dX6_layChain_168 ?_
              obtain ⟨hi, hw⟩ := hw
              refine va_iald hx hb hK hP 6 0 rfl rfl hi dX6_layChain_169 ?_
              refine lv_aload_n hx hb dX6_layChain_170 rfl (lv_at hl 0 rfl) ?_
              refine va_get (D := D) (ci := 5) (v := .ref mAc) (C := RX6) (T := TX6) (N := 16) hx hb hts in_X6_layChain_X6 hown hK hP 0 rfl rfl 9 (by decide) (hts (.fieldLink RX6 26 "LiveHullModel" "corner" "[I") (List.mem_of_getElem? (i := 6) rfl)) (fun _ h9 => h9) rfl dX6_layChain_171 ?_
              refine lv_aload_n hx hb dX6_layChain_174 rfl (lv_at hl 0 rfl) ?_
              refine va_get (D := D) (ci := 5) (v := .int mk) (C := RX6) (T := TX6) (N := 16) hx hb hts in_X6_layChain_X6 hown hK hP 0 rfl rfl 10 (by decide) (hts (.fieldLink RX6 79 "LiveHullModel" "corners" "I") (List.mem_of_getElem? (i := 1) rfl)) (fun _ h9 => h9) rfl dX6_layChain_175 ?_
              refine lv_iconst (v := 1) hx hb dX6_layChain_178 (by decide) ?_
              refine lv_isub hx hb dX6_layChain_179 ?_
              obtain ⟨hi, hw⟩ := hw
              refine va_iald hx hb hK hP 6 0 rfl rfl hi dX6_layChain_180 ?_
              refine lv_iload_n hx hb dX6_layChain_181 rfl (lv_at hl 3 rfl) ?_
              refine cl_Vl (As := [.int (mc (mk - 2).toNatClampNeg), .int (mc (mk - 1).toNatClampNeg), .int v3]) (rest := []) ⟨hx, hb, hml, hown, hts⟩ (c_X6_bend l D cI cJ cZ cO mA mAx mAy mAi mAr mAo mAc mAg mAe mAS mAp mx my mi mn mr mo mf mt md mc mk mg mh me mS mp (mc (mk - 2).toNatClampNeg) (mc (mk - 1).toNatClampNeg) v3 _ hw) (cwV 3 hts gX6_layChain_X6_bend rfl rfl rfl hd_X6_bend ⟨Nat.le_trans (Nat.le_of_ble_eq_true rfl) hRf, Nat.le_trans (Nat.le_of_ble_eq_true rfl) hRl⟩) hK hP hD hS hA [0, 1, 2, 3, 4, 5, 6, 7, 8, 9, 10] [] rfl (by decide) rfl (by decide) (by decide) 0 5 rfl rfl rfl hl.1 rfl (Nat.le_of_ble_eq_true rfl) dX6_layChain_182 ⟨Nat.zero_le _, Nat.zero_le _⟩ (fun r182 _u H locs hw hP hD hS => ?_)
              try dsimp only at hw
              have hP : va_P D vwCl [(mA, .inr (5, [.ref mAx, .ref mAy, .ref mAi, .int mn, .ref mAr, .ref mAo, .int mf, .int mt, .int md, .ref mAc, .int mk, .ref mAg, .int mh, .ref mAe, .ref mAS, .ref mAp])), (mAx, .inl (cI, 32, .inl mx)), (mAy, .inl (cI, 32, .inl my)), (mAi, .inl (cZ, 32, .inl mi)), (mAr, .inl (cI, 32, .inl mr)), (mAo, .inl (cI, 32, .inl mo)), (mAc, .inl (cI, 34, .inl mc)), (mAg, .inl (cI, 34, .inl mg)), (mAe, .inl (cI, 128, .inl me)), (mAS, .inl (cJ, 2, .inr (.inl mS))), (mAp, .inl (cZ, 2, .inl mp))] H := hP.sub [0, 1, 2, 3, 4, 5, 6, 7, 8, 9, 10] rfl
              have hD : va_D A [(mA, .inr (5, [.ref mAx, .ref mAy, .ref mAi, .int mn, .ref mAr, .ref mAo, .int mf, .int mt, .int md, .ref mAc, .int mk, .ref mAg, .int mh, .ref mAe, .ref mAS, .ref mAp])), (mAx, .inl (cI, 32, .inl mx)), (mAy, .inl (cI, 32, .inl my)), (mAi, .inl (cZ, 32, .inl mi)), (mAr, .inl (cI, 32, .inl mr)), (mAo, .inl (cI, 32, .inl mo)), (mAc, .inl (cI, 34, .inl mc)), (mAg, .inl (cI, 34, .inl mg)), (mAe, .inl (cI, 128, .inl me)), (mAS, .inl (cJ, 2, .inr (.inl mS))), (mAp, .inl (cZ, 2, .inl mp))] := hD.sub [0, 1, 2, 3, 4, 5, 6, 7, 8, 9, 10] (by decide) rfl
              refine lv_lconst (v := 0) hx hb dX6_layChain_185 (by decide) ?_
              refine W.lcmp hx hb dX6_layChain_186 ?_
              obtain ⟨hwA, hwB⟩ := hw
              refine lv_if_gt (tgt := 203) hx hb dX6_layChain_187 (by decide) (fun cb => ?_) (fun cb => ?_)
              · have hw := hwA ((cq_gt _ _).mp cb)
                exact N203 mc mk v2 v3 hw _ _ _ hP hD hS (lv_sub hl [0, 1, 2, 3] rfl)
              · have hw := hwB (fun h => cb ((cq_gt _ _).mpr h))
                refine lv_aload_n hx hb dX6_layChain_190 rfl (lv_at hl 0 rfl) ?_
                refine lv_dup hx hb dX6_layChain_191 rfl ?_
                refine va_get (D := D) (ci := 5) (v := .int mk) (C := RX6) (T := TX6) (N := 16) hx hb hts in_X6_layChain_X6 hown hK hP 0 rfl rfl 10 (by decide) (hts (.fieldLink RX6 79 "LiveHullModel" "corners" "I") (List.mem_of_getElem? (i := 1) rfl)) (fun _ h9 => h9) rfl dX6_layChain_192 ?_
                refine lv_iconst (v := 1) hx hb dX6_layChain_195 (by decide) ?_
                refine lv_isub hx hb dX6_layChain_196 ?_
                refine va_put (D := D) (ci := 5) (v := .int (mk - 1)) (ty := .int) (C := RX6) (T := TX6) (N := 16) hx hb hts in_X6_layChain_X6 tyX6 tyX6_ok nmX6 hown hK hP hD hS 0 rfl rfl 10 (by decide) (hts (.fieldLink RX6 79 "LiveHullModel" "corners" "I") (List.mem_of_getElem? (i := 1) rfl)) (fun _ h9 => h9) rfl (by decide +kernel) rfl rfl (Nat.le_of_ble_eq_true rfl) dX6_layChain_197 (fun H locs hP hD hS => ?_)
                have hP : va_P D vwCl [(mA, .inr (5, [.ref mAx, .ref mAy, .ref mAi, .int mn, .ref mAr, .ref mAo, .int mf, .int mt, .int md, .ref mAc, .int (mk - 1), .ref mAg, .int mh, .ref mAe, .ref mAS, .ref mAp])), (mAx, .inl (cI, 32, .inl mx)), (mAy, .inl (cI, 32, .inl my)), (mAi, .inl (cZ, 32, .inl mi)), (mAr, .inl (cI, 32, .inl mr)), (mAo, .inl (cI, 32, .inl mo)), (mAc, .inl (cI, 34, .inl mc)), (mAg, .inl (cI, 34, .inl mg)), (mAe, .inl (cI, 128, .inl me)), (mAS, .inl (cJ, 2, .inr (.inl mS))), (mAp, .inl (cZ, 2, .inl mp))] H := hP
                have hD : va_D A [(mA, .inr (5, [.ref mAx, .ref mAy, .ref mAi, .int mn, .ref mAr, .ref mAo, .int mf, .int mt, .int md, .ref mAc, .int (mk - 1), .ref mAg, .int mh, .ref mAe, .ref mAS, .ref mAp])), (mAx, .inl (cI, 32, .inl mx)), (mAy, .inl (cI, 32, .inl my)), (mAi, .inl (cZ, 32, .inl mi)), (mAr, .inl (cI, 32, .inl mr)), (mAo, .inl (cI, 32, .inl mo)), (mAc, .inl (cI, 34, .inl mc)), (mAg, .inl (cI, 34, .inl mg)), (mAe, .inl (cI, 128, .inl me)), (mAS, .inl (cJ, 2, .inr (.inl mS))), (mAp, .inl (cZ, 2, .inl mp))] := hD
                refine lv_goto (tgt := 111) hx hb dX6_layChain_200 (by decide) ?_
                exact ih111 (mk - 1) hw _ _ _ hP hD hS (lv_sub hl [0, 1, 2, 3] rfl)
            · have hw := hwB cb
              refine lv_aload_n hx hb dX6_layChain_123 rfl (lv_at hl 0 rfl) ?_
              refine lv_aload_n hx hb dX6_layChain_124 rfl (lv_at hl 0 rfl) ?_
              refine va_get (D := D) (ci := 5) (v := .ref mAc) (C := RX6) (T := TX6) (N := 16) hx hb hts in_X6_layChain_X6 hown hK hP 0 rfl rfl 9 (by decide) (hts (.fieldLink RX6 26 "LiveHullModel" "corner" "[I") (List.mem_of_getElem? (i := 6) rfl)) (fun _ h9 => h9) rfl dX6_layChain_125 ?_
              refine lv_aload_n hx hb dX6_layChain_128 rfl (lv_at hl 0 rfl) ?_
              refine va_get (D := D) (ci := 5) (v := .int mk) (C := RX6) (T := TX6) (N := 16) hx hb hts in_X6_layChain_X6 hown hK hP 0 rfl rfl 10 (by decide) (hts (.fieldLink RX6 79 "LiveHullModel" "corners" "I") (List.mem_of_getElem? (i := 1) rfl)) (fun _ h9 => h9) rfl dX6_layChain_129 ?_
              refine lv_iconst (v := 2) hx hb dX6_layChain_132 (by decide) ?_
              refine lv_isub hx hb dX6_layChain_133 ?_
              obtain ⟨hi, hw⟩ := hw
              refine va_iald hx hb hK hP 6 0 rfl rfl hi dX6_layChain_134 ?_
              refine lv_aload_n hx hb dX6_layChain_135 rfl (lv_at hl 0 rfl) ?_
              refine va_get (D := D) (ci := 5) (v := .ref mAc) (C := RX6) (T := TX6) (N := 16) hx hb hts in_X6_layChain_X6 hown hK hP 0 rfl rfl 9 (by decide) (hts (.fieldLink RX6 26 "LiveHullModel" "corner" "[I") (List.mem_of_getElem? (i := 6) rfl)) (fun _ h9 => h9) rfl dX6_layChain_136 ?_
              refine lv_aload_n hx hb dX6_layChain_139 rfl (lv_at hl 0 rfl) ?_
              refine va_get (D := D) (ci := 5) (v := .int mk) (C := RX6) (T := TX6) (N := 16) hx hb hts in_X6_layChain_X6 hown hK hP 0 rfl rfl 10 (by decide) (hts (.fieldLink RX6 79 "LiveHullModel" "corners" "I") (List.mem_of_getElem? (i := 1) rfl)) (fun _ h9 => h9) rfl dX6_layChain_140 ?_
              refine lv_iconst (v := 1) hx hb dX6_layChain_143 (by decide) ?_
              refine lv_isub hx hb dX6_layChain_144 ?_
              obtain ⟨hi, hw⟩ := hw
              refine va_iald hx hb hK hP 6 0 rfl rfl hi dX6_layChain_145 ?_
              refine lv_iload_n hx hb dX6_layChain_146 rfl (lv_at hl 3 rfl) ?_
              refine cl_Vl (As := [.int (mc (mk - 2).toNatClampNeg), .int (mc (mk - 1).toNatClampNeg), .int v3]) (rest := []) ⟨hx, hb, hml, hown, hts⟩ (c_X6_bend l D cI cJ cZ cO mA mAx mAy mAi mAr mAo mAc mAg mAe mAS mAp mx my mi mn mr mo mf mt md mc mk mg mh me mS mp (mc (mk - 2).toNatClampNeg) (mc (mk - 1).toNatClampNeg) v3 _ hw) (cwV 3 hts gX6_layChain_X6_bend rfl rfl rfl hd_X6_bend ⟨Nat.le_trans (Nat.le_of_ble_eq_true rfl) hRf, Nat.le_trans (Nat.le_of_ble_eq_true rfl) hRl⟩) hK hP hD hS hA [0, 1, 2, 3, 4, 5, 6, 7, 8, 9, 10] [] rfl (by decide) rfl (by decide) (by decide) 0 5 rfl rfl rfl hl.1 rfl (Nat.le_of_ble_eq_true rfl) dX6_layChain_147 ⟨Nat.zero_le _, Nat.zero_le _⟩ (fun r147 _u H locs hw hP hD hS => ?_)
              try dsimp only at hw
              have hP : va_P D vwCl [(mA, .inr (5, [.ref mAx, .ref mAy, .ref mAi, .int mn, .ref mAr, .ref mAo, .int mf, .int mt, .int md, .ref mAc, .int mk, .ref mAg, .int mh, .ref mAe, .ref mAS, .ref mAp])), (mAx, .inl (cI, 32, .inl mx)), (mAy, .inl (cI, 32, .inl my)), (mAi, .inl (cZ, 32, .inl mi)), (mAr, .inl (cI, 32, .inl mr)), (mAo, .inl (cI, 32, .inl mo)), (mAc, .inl (cI, 34, .inl mc)), (mAg, .inl (cI, 34, .inl mg)), (mAe, .inl (cI, 128, .inl me)), (mAS, .inl (cJ, 2, .inr (.inl mS))), (mAp, .inl (cZ, 2, .inl mp))] H := hP.sub [0, 1, 2, 3, 4, 5, 6, 7, 8, 9, 10] rfl
              have hD : va_D A [(mA, .inr (5, [.ref mAx, .ref mAy, .ref mAi, .int mn, .ref mAr, .ref mAo, .int mf, .int mt, .int md, .ref mAc, .int mk, .ref mAg, .int mh, .ref mAe, .ref mAS, .ref mAp])), (mAx, .inl (cI, 32, .inl mx)), (mAy, .inl (cI, 32, .inl my)), (mAi, .inl (cZ, 32, .inl mi)), (mAr, .inl (cI, 32, .inl mr)), (mAo, .inl (cI, 32, .inl mo)), (mAc, .inl (cI, 34, .inl mc)), (mAg, .inl (cI, 34, .inl mg)), (mAe, .inl (cI, 128, .inl me)), (mAS, .inl (cJ, 2, .inr (.inl mS))), (mAp, .inl (cZ, 2, .inl mp))] := hD.sub [0, 1, 2, 3, 4, 5, 6, 7, 8, 9, 10] (by decide) rfl
              refine lv_lconst (v := 0) hx hb dX6_layChain_150 (by decide) ?_
              refine W.lcmp hx hb dX6_layChain_151 ?_
              obtain ⟨hwA, hwB⟩ := hw
              refine lv_if_lt (tgt := 203) hx hb dX6_layChain_152 (by decide) (fun cb => ?_) (fun cb => ?_)
              · have hw := hwA ((cq_lt _ _).mp cb)
                exact N203 mc mk v2 v3 hw _ _ _ hP hD hS (lv_sub hl [0, 1, 2, 3] rfl)
              · have hw := hwB (fun h => cb ((cq_lt _ _).mpr h))
                refine lv_goto (tgt := 190) hx hb dX6_layChain_155 (by decide) ?_
                refine lv_aload_n hx hb dX6_layChain_190 rfl (lv_at hl 0 rfl) ?_
                refine lv_dup hx hb dX6_layChain_191 rfl ?_
                refine va_get (D := D) (ci := 5) (v := .int mk) (C := RX6) (T := TX6) (N := 16) hx hb hts in_X6_layChain_X6 hown hK hP 0 rfl rfl 10 (by decide) (hts (.fieldLink RX6 79 "LiveHullModel" "corners" "I") (List.mem_of_getElem? (i := 1) rfl)) (fun _ h9 => h9) rfl dX6_layChain_192 ?_
                refine lv_iconst (v := 1) hx hb dX6_layChain_195 (by decide) ?_
                refine lv_isub hx hb dX6_layChain_196 ?_
                refine va_put (D := D) (ci := 5) (v := .int (mk - 1)) (ty := .int) (C := RX6) (T := TX6) (N := 16) hx hb hts in_X6_layChain_X6 tyX6 tyX6_ok nmX6 hown hK hP hD hS 0 rfl rfl 10 (by decide) (hts (.fieldLink RX6 79 "LiveHullModel" "corners" "I") (List.mem_of_getElem? (i := 1) rfl)) (fun _ h9 => h9) rfl (by decide +kernel) rfl rfl (Nat.le_of_ble_eq_true rfl) dX6_layChain_197 (fun H locs hP hD hS => ?_)
                have hP : va_P D vwCl [(mA, .inr (5, [.ref mAx, .ref mAy, .ref mAi, .int mn, .ref mAr, .ref mAo, .int mf, .int mt, .int md, .ref mAc, .int (mk - 1), .ref mAg, .int mh, .ref mAe, .ref mAS, .ref mAp])), (mAx, .inl (cI, 32, .inl mx)), (mAy, .inl (cI, 32, .inl my)), (mAi, .inl (cZ, 32, .inl mi)), (mAr, .inl (cI, 32, .inl mr)), (mAo, .inl (cI, 32, .inl mo)), (mAc, .inl (cI, 34, .inl mc)), (mAg, .inl (cI, 34, .inl mg)), (mAe, .inl (cI, 128, .inl me)), (mAS, .inl (cJ, 2, .inr (.inl mS))), (mAp, .inl (cZ, 2, .inl mp))] H := hP
                have hD : va_D A [(mA, .inr (5, [.ref mAx, .ref mAy, .ref mAi, .int mn, .ref mAr, .ref mAo, .int mf, .int mt, .int md, .ref mAc, .int (mk - 1), .ref mAg, .int mh, .ref mAe, .ref mAS, .ref mAp])), (mAx, .inl (cI, 32, .inl mx)), (mAy, .inl (cI, 32, .inl my)), (mAi, .inl (cZ, 32, .inl mi)), (mAr, .inl (cI, 32, .inl mr)), (mAo, .inl (cI, 32, .inl mo)), (mAc, .inl (cI, 34, .inl mc)), (mAg, .inl (cI, 34, .inl mg)), (mAe, .inl (cI, 128, .inl me)), (mAS, .inl (cJ, 2, .inr (.inl mS))), (mAp, .inl (cZ, 2, .inl mp))] := hD
                refine lv_goto (tgt := 111) hx hb dX6_layChain_200 (by decide) ?_
                exact ih111 (mk - 1) hw _ _ _ hP hD hS (lv_sub hl [0, 1, 2, 3] rfl)
      have N104 : ∀ (mc : Nat → Int32) (mk : Int32) (v2 : Int32) (v3 : Int32) (s0 : Int32), wp_X6_layChain_104 mx my mr mf mt v1 K L10  mc mk v2 v3 s0 → ∀ (H : Heap) (locs : List Loc) (ls : Array Slot), va_P D vwCl [(mA, .inr (5, [.ref mAx, .ref mAy, .ref mAi, .int mn, .ref mAr, .ref mAo, .int mf, .int mt, .int md, .ref mAc, .int mk, .ref mAg, .int mh, .ref mAe, .ref mAS, .ref mAp])), (mAx, .inl (cI, 32, .inl mx)), (mAy, .inl (cI, 32, .inl my)), (mAi, .inl (cZ, 32, .inl mi)), (mAr, .inl (cI, 32, .inl mr)), (mAo, .inl (cI, 32, .inl mo)), (mAc, .inl (cI, 34, .inl mc)), (mAg, .inl (cI, 34, .inl mg)), (mAe, .inl (cI, 128, .inl me)), (mAS, .inl (cJ, 2, .inr (.inl mS))), (mAp, .inl (cZ, 2, .inl mp))] H → va_D A [(mA, .inr (5, [.ref mAx, .ref mAy, .ref mAi, .int mn, .ref mAr, .ref mAo, .int mf, .int mt, .int md, .ref mAc, .int mk, .ref mAg, .int mh, .ref mAe, .ref mAS, .ref mAp])), (mAx, .inl (cI, 32, .inl mx)), (mAy, .inl (cI, 32, .inl my)), (mAi, .inl (cZ, 32, .inl mi)), (mAr, .inl (cI, 32, .inl mr)), (mAo, .inl (cI, 32, .inl mo)), (mAc, .inl (cI, 34, .inl mc)), (mAg, .inl (cI, 34, .inl mg)), (mAe, .inl (cI, 128, .inl me)), (mAS, .inl (cJ, 2, .inr (.inl mS))), (mAp, .inl (cZ, 2, .inl mp))] → va_S A s.heap H locs → lv_has ls 5 [(0, .ref mA), (1, .int v1), (2, .int v2), (3, .int v3)] → W p l e R s m args below meth c H locs 0 0 Q (F0 m 104 ls [.int s0]) := by
        intro mc mk v2 v3 s0 hw H locs ls hP hD hS hl
        unfold wp_X6_layChain_104 at hw
        refine lv_istore (lv' := [(4, .int s0), (0, .ref mA), (1, .int v1), (2, .int v2), (3, .int v3)]) hx hb dX6_layChain_104 hl (by decide) rfl (fun ls hl => ?_)
        refine lv_iload hx hb dX6_layChain_106 (lv_at hl 0 rfl) ?_
        obtain ⟨hwA, hwB⟩ := hw
        refine lv_if_ne (tgt := 223) hx hb dX6_layChain_108 (by decide) (fun cb => ?_) (fun cb => ?_)
        · have hw := hwA cb
          refine lv_iinc (v := (v2 + 1)) (lv' := [(2, .int (v2 + 1)), (4, .int s0), (0, .ref mA), (1, .int v1), (3, .int v3)]) hx hb dX6_layChain_223 hl (k := 3) rfl rfl (by decide) rfl (fun ls hl => ?_)
          refine lv_goto (tgt := 10) hx hb dX6_layChain_226 (by decide) ?_
          exact ih10 mc mk (v2 + 1) hw _ _ _ hP hD hS (lv_sub hl [2, 3, 0] rfl)
        · have hw := hwB cb
          obtain ⟨k, hw⟩ := hw
          exact N111 mc v2 v3 k mk hw _ _ _ hP hD hS (lv_sub hl [1, 2, 3, 4] rfl)
      refine lv_iload_n hx hb dX6_layChain_10 rfl (lv_at hl 2 rfl) ?_
      refine lv_aload_n hx hb dX6_layChain_11 rfl (lv_at hl 0 rfl) ?_
      refine va_get (D := D) (ci := 5) (v := .int mt) (C := RX6) (T := TX6) (N := 16) hx hb hts in_X6_layChain_X6 hown hK hP 0 rfl rfl 7 (by decide) (hts (.fieldLink RX6 69 "LiveHullModel" "to" "I") (List.mem_of_getElem? (i := 3) rfl)) (fun _ h9 => h9) rfl dX6_layChain_12 ?_
      obtain ⟨hwA, hwB⟩ := hw
      refine lv_icmp_ge (tgt := 229) hx hb dX6_layChain_15 (by decide) (fun cb => ?_) (fun cb => ?_)
      · have hw := hwA cb
        exact ret _ _ _ _ (mc, mk) hw hP hD hS dX6_layChain_229
      · have hw := hwB cb
        refine lv_aload_n hx hb dX6_layChain_18 rfl (lv_at hl 0 rfl) ?_
        refine va_get (D := D) (ci := 5) (v := .ref mAr) (C := RX6) (T := TX6) (N := 16) hx hb hts in_X6_layChain_X6 hown hK hP 0 rfl rfl 4 (by decide) (hts (.fieldLink RX6 20 "LiveHullModel" "ranks" "[I") (List.mem_of_getElem? (i := 4) rfl)) (fun _ h9 => h9) rfl dX6_layChain_19 ?_
        refine lv_iload_n hx hb dX6_layChain_22 rfl (lv_at hl 2 rfl) ?_
        obtain ⟨hi, hw⟩ := hw
        refine va_iald hx hb hK hP 4 0 rfl rfl hi dX6_layChain_23 ?_
        refine lv_istore_n (lv' := [(3, .int (mr v2.toNatClampNeg)), (0, .ref mA), (1, .int v1), (2, .int v2)]) hx hb dX6_layChain_24 rfl hl (by decide) rfl (fun ls hl => ?_)
        refine lv_iload_n hx hb dX6_layChain_25 rfl (lv_at hl 2 rfl) ?_
        obtain ⟨hwA, hwB⟩ := hw
        refine lv_if_ne (tgt := 69) hx hb dX6_layChain_26 (by decide) (fun cb => ?_) (fun cb => ?_)
        · have hw := hwA cb
          refine lv_iload_n hx hb dX6_layChain_69 rfl (lv_at hl 3 rfl) ?_
          refine lv_aload_n hx hb dX6_layChain_70 rfl (lv_at hl 1 rfl) ?_
          refine va_get (D := D) (ci := 5) (v := .int mf) (C := RX6) (T := TX6) (N := 16) hx hb hts in_X6_layChain_X6 hown hK hP 0 rfl rfl 6 (by decide) (hts (.fieldLink RX6 66 "LiveHullModel" "from" "I") (List.mem_of_getElem? (i := 2) rfl)) (fun _ h9 => h9) rfl dX6_layChain_71 ?_
          obtain ⟨hwA, hwB⟩ := hw
          refine lv_icmp_le (tgt := 103) hx hb dX6_layChain_74 (by decide) (fun cb => ?_) (fun cb => ?_)
          · have hw := hwA cb
            refine lv_iconst (v := 0) hx hb dX6_layChain_103 (by decide) ?_
            exact N104 mc mk v2 (mr v2.toNatClampNeg) 0 hw _ _ _ hP hD hS (lv_sub hl [1, 2, 3, 0] rfl)
          · have hw := hwB cb
            refine lv_aload_n hx hb dX6_layChain_77 rfl (lv_at hl 1 rfl) ?_
            refine va_get (D := D) (ci := 5) (v := .ref mAx) (C := RX6) (T := TX6) (N := 16) hx hb hts in_X6_layChain_X6 hown hK hP 0 rfl rfl 0 (by decide) (hts (.fieldLink RX6 7 "LiveHullModel" "xs" "[I") (List.mem_of_getElem? (i := 5) rfl)) (fun _ h9 => h9) rfl dX6_layChain_78 ?_
            refine lv_aload_n hx hb dX6_layChain_81 rfl (lv_at hl 1 rfl) ?_
            refine va_get (D := D) (ci := 5) (v := .ref mAr) (C := RX6) (T := TX6) (N := 16) hx hb hts in_X6_layChain_X6 hown hK hP 0 rfl rfl 4 (by decide) (hts (.fieldLink RX6 20 "LiveHullModel" "ranks" "[I") (List.mem_of_getElem? (i := 4) rfl)) (fun _ h9 => h9) rfl dX6_layChain_82 ?_
            refine lv_iload_n hx hb dX6_layChain_85 rfl (lv_at hl 3 rfl) ?_
            refine lv_iconst (v := 1) hx hb dX6_layChain_86 (by decide) ?_
            refine lv_isub hx hb dX6_layChain_87 ?_
            obtain ⟨hi, hw⟩ := hw
            refine va_iald hx hb hK hP 4 0 rfl rfl hi dX6_layChain_88 ?_
            obtain ⟨hi, hw⟩ := hw
            refine va_iald hx hb hK hP 1 0 rfl rfl hi dX6_layChain_89 ?_
            refine lv_aload_n hx hb dX6_layChain_90 rfl (lv_at hl 1 rfl) ?_
            refine va_get (D := D) (ci := 5) (v := .ref mAx) (C := RX6) (T := TX6) (N := 16) hx hb hts in_X6_layChain_X6 hown hK hP 0 rfl rfl 0 (by decide) (hts (.fieldLink RX6 7 "LiveHullModel" "xs" "[I") (List.mem_of_getElem? (i := 5) rfl)) (fun _ h9 => h9) rfl dX6_layChain_91 ?_
            refine lv_iload_n hx hb dX6_layChain_94 rfl (lv_at hl 0 rfl) ?_
            obtain ⟨hi, hw⟩ := hw
            refine va_iald hx hb hK hP 1 0 rfl rfl hi dX6_layChain_95 ?_
            obtain ⟨hwA, hwB⟩ := hw
            refine lv_icmp_ne (tgt := 103) hx hb dX6_layChain_96 (by decide) (fun cb => ?_) (fun cb => ?_)
            · have hw := hwA cb
              refine lv_iconst (v := 0) hx hb dX6_layChain_103 (by decide) ?_
              exact N104 mc mk v2 (mr v2.toNatClampNeg) 0 hw _ _ _ hP hD hS (lv_sub hl [1, 2, 3, 0] rfl)
            · have hw := hwB cb
              refine lv_iconst (v := 1) hx hb dX6_layChain_99 (by decide) ?_
              refine lv_goto (tgt := 104) hx hb dX6_layChain_100 (by decide) ?_
              exact N104 mc mk v2 (mr v2.toNatClampNeg) 1 hw _ _ _ hP hD hS (lv_sub hl [1, 2, 3, 0] rfl)
        · have hw := hwB cb
          refine lv_iload_n hx hb dX6_layChain_29 rfl (lv_at hl 3 rfl) ?_
          refine lv_iconst (v := 1) hx hb dX6_layChain_30 (by decide) ?_
          refine lv_iadd hx hb dX6_layChain_31 ?_
          refine lv_aload_n hx hb dX6_layChain_32 rfl (lv_at hl 1 rfl) ?_
          refine va_get (D := D) (ci := 5) (v := .int mt) (C := RX6) (T := TX6) (N := 16) hx hb hts in_X6_layChain_X6 hown hK hP 0 rfl rfl 7 (by decide) (hts (.fieldLink RX6 69 "LiveHullModel" "to" "I") (List.mem_of_getElem? (i := 3) rfl)) (fun _ h9 => h9) rfl dX6_layChain_33 ?_
          obtain ⟨hwA, hwB⟩ := hw
          refine lv_icmp_ge (tgt := 65) hx hb dX6_layChain_36 (by decide) (fun cb => ?_) (fun cb => ?_)
          · have hw := hwA cb
            refine lv_iconst (v := 0) hx hb dX6_layChain_65 (by decide) ?_
            refine lv_goto (tgt := 104) hx hb dX6_layChain_66 (by decide) ?_
            exact N104 mc mk v2 (mr v2.toNatClampNeg) 0 hw _ _ _ hP hD hS (lv_sub hl [1, 2, 3, 0] rfl)
          · have hw := hwB cb
            refine lv_aload_n hx hb dX6_layChain_39 rfl (lv_at hl 1 rfl) ?_
            refine va_get (D := D) (ci := 5) (v := .ref mAx) (C := RX6) (T := TX6) (N := 16) hx hb hts in_X6_layChain_X6 hown hK hP 0 rfl rfl 0 (by decide) (hts (.fieldLink RX6 7 "LiveHullModel" "xs" "[I") (List.mem_of_getElem? (i := 5) rfl)) (fun _ h9 => h9) rfl dX6_layChain_40 ?_
            refine lv_aload_n hx hb dX6_layChain_43 rfl (lv_at hl 1 rfl) ?_
            refine va_get (D := D) (ci := 5) (v := .ref mAr) (C := RX6) (T := TX6) (N := 16) hx hb hts in_X6_layChain_X6 hown hK hP 0 rfl rfl 4 (by decide) (hts (.fieldLink RX6 20 "LiveHullModel" "ranks" "[I") (List.mem_of_getElem? (i := 4) rfl)) (fun _ h9 => h9) rfl dX6_layChain_44 ?_
            refine lv_iload_n hx hb dX6_layChain_47 rfl (lv_at hl 3 rfl) ?_
            refine lv_iconst (v := 1) hx hb dX6_layChain_48 (by decide) ?_
            refine lv_iadd hx hb dX6_layChain_49 ?_
            obtain ⟨hi, hw⟩ := hw
            refine va_iald hx hb hK hP 4 0 rfl rfl hi dX6_layChain_50 ?_
            obtain ⟨hi, hw⟩ := hw
            refine va_iald hx hb hK hP 1 0 rfl rfl hi dX6_layChain_51 ?_
            refine lv_aload_n hx hb dX6_layChain_52 rfl (lv_at hl 1 rfl) ?_
            refine va_get (D := D) (ci := 5) (v := .ref mAx) (C := RX6) (T := TX6) (N := 16) hx hb hts in_X6_layChain_X6 hown hK hP 0 rfl rfl 0 (by decide) (hts (.fieldLink RX6 7 "LiveHullModel" "xs" "[I") (List.mem_of_getElem? (i := 5) rfl)) (fun _ h9 => h9) rfl dX6_layChain_53 ?_
            refine lv_iload_n hx hb dX6_layChain_56 rfl (lv_at hl 0 rfl) ?_
            obtain ⟨hi, hw⟩ := hw
            refine va_iald hx hb hK hP 1 0 rfl rfl hi dX6_layChain_57 ?_
            obtain ⟨hwA, hwB⟩ := hw
            refine lv_icmp_ne (tgt := 65) hx hb dX6_layChain_58 (by decide) (fun cb => ?_) (fun cb => ?_)
            · have hw := hwA cb
              refine lv_iconst (v := 0) hx hb dX6_layChain_65 (by decide) ?_
              refine lv_goto (tgt := 104) hx hb dX6_layChain_66 (by decide) ?_
              exact N104 mc mk v2 (mr v2.toNatClampNeg) 0 hw _ _ _ hP hD hS (lv_sub hl [1, 2, 3, 0] rfl)
            · have hw := hwB cb
              refine lv_iconst (v := 1) hx hb dX6_layChain_61 (by decide) ?_
              refine lv_goto (tgt := 104) hx hb dX6_layChain_62 (by decide) ?_
              exact N104 mc mk v2 (mr v2.toNatClampNeg) 1 hw _ _ _ hP hD hS (lv_sub hl [1, 2, 3, 0] rfl)
  unfold wp_X6_layChain at hw
  refine lv_aload_n hx hb dX6_layChain_0 rfl (lv_at hl 0 rfl) ?_
  refine lv_iconst (v := 0) hx hb dX6_layChain_1 (by decide) ?_
  refine va_put (D := D) (ci := 5) (v := .int 0) (ty := .int) (C := RX6) (T := TX6) (N := 16) hx hb hts in_X6_layChain_X6 tyX6 tyX6_ok nmX6 hown hK hP hD hS 0 rfl rfl 10 (by decide) (hts (.fieldLink RX6 79 "LiveHullModel" "corners" "I") (List.mem_of_getElem? (i := 1) rfl)) (fun _ h9 => h9) rfl (by decide +kernel) rfl rfl (Nat.le_of_ble_eq_true rfl) dX6_layChain_2 (fun H locs hP hD hS => ?_)
  have hP : va_P D vwCl [(mA, .inr (5, [.ref mAx, .ref mAy, .ref mAi, .int mn, .ref mAr, .ref mAo, .int mf, .int mt, .int md, .ref mAc, .int 0, .ref mAg, .int mh, .ref mAe, .ref mAS, .ref mAp])), (mAx, .inl (cI, 32, .inl mx)), (mAy, .inl (cI, 32, .inl my)), (mAi, .inl (cZ, 32, .inl mi)), (mAr, .inl (cI, 32, .inl mr)), (mAo, .inl (cI, 32, .inl mo)), (mAc, .inl (cI, 34, .inl mc)), (mAg, .inl (cI, 34, .inl mg)), (mAe, .inl (cI, 128, .inl me)), (mAS, .inl (cJ, 2, .inr (.inl mS))), (mAp, .inl (cZ, 2, .inl mp))] H := hP
  have hD : va_D A [(mA, .inr (5, [.ref mAx, .ref mAy, .ref mAi, .int mn, .ref mAr, .ref mAo, .int mf, .int mt, .int md, .ref mAc, .int 0, .ref mAg, .int mh, .ref mAe, .ref mAS, .ref mAp])), (mAx, .inl (cI, 32, .inl mx)), (mAy, .inl (cI, 32, .inl my)), (mAi, .inl (cZ, 32, .inl mi)), (mAr, .inl (cI, 32, .inl mr)), (mAo, .inl (cI, 32, .inl mo)), (mAc, .inl (cI, 34, .inl mc)), (mAg, .inl (cI, 34, .inl mg)), (mAe, .inl (cI, 128, .inl me)), (mAS, .inl (cJ, 2, .inr (.inl mS))), (mAp, .inl (cZ, 2, .inl mp))] := hD
  refine lv_aload_n hx hb dX6_layChain_5 rfl (lv_at hl 0 rfl) ?_
  refine va_get (D := D) (ci := 5) (v := .int mf) (C := RX6) (T := TX6) (N := 16) hx hb hts in_X6_layChain_X6 hown hK hP 0 rfl rfl 6 (by decide) (hts (.fieldLink RX6 66 "LiveHullModel" "from" "I") (List.mem_of_getElem? (i := 2) rfl)) (fun _ h9 => h9) rfl dX6_layChain_6 ?_
  refine lv_istore_n (lv' := [(2, .int mf), (0, .ref mA), (1, .int v1)]) hx hb dX6_layChain_9 rfl hl (by decide) rfl (fun ls hl => ?_)
  obtain ⟨k, hw⟩ := hw
  exact N10  k mc 0 mf hw _ _ _ hP hD hS (lv_sub hl [1, 2, 0] rfl)
theorem in_X6_cornerSet_X6 : ∀ w ∈ wsX60, w ∈ wsX6_cornerSet := fun _ h => List.mem_cons_of_mem _ (List.mem_append_right _ h)
theorem hd_X6_cornerSet : yX6_cornerSet.cls = RX6 ∧ yX6_cornerSet.cls ≠ "java/lang/invoke/MethodHandle" ∧ yX6_cornerSet.cls ≠ "java/lang/invoke/VarHandle" ∧ (parseMethodDescriptor yX6_cornerSet.desc).map (fun d => d.parameters.length) = some 0 := by decide +kernel
set_option maxHeartbeats 8000000 in
set_option maxRecDepth 100000 in
theorem c_X6_cornerSet (l : Launch) (D : va_G) (cI cJ cZ cO : ClassId) (mA mAx mAy mAi mAr mAo mAc mAg mAe mAS mAp : Nat) (mx : Nat → Int32) (my : Nat → Int32) (mi : Nat → Int32) (mn : Int32) (mr : Nat → Int32) (mo : Nat → Int32) (mf : Int32) (mt : Int32) (md : Int32) (mc : Nat → Int32) (mk : Int32) (mg : Nat → Int32) (mh : Int32) (me : Nat → Int32) (mS : Nat → Int64) (mp : Nat → Int32)  (K : Int64 → Prop) (hw : wp_X6_cornerSet mc mk K) : Cl l D (tys4 cI cJ cZ cO) yX6_cornerSet wsX6_cornerSet { frames := 0, cells := 0, slots := 0, locals := 0 } [.ref mA] [(mA, .inr (5, [.ref mAx, .ref mAy, .ref mAi, .int mn, .ref mAr, .ref mAo, .int mf, .int mt, .int md, .ref mAc, .int mk, .ref mAg, .int mh, .ref mAe, .ref mAS, .ref mAp])), (mAx, .inl (cI, 32, .inl mx)), (mAy, .inl (cI, 32, .inl my)), (mAi, .inl (cZ, 32, .inl mi)), (mAr, .inl (cI, 32, .inl mr)), (mAo, .inl (cI, 32, .inl mo)), (mAc, .inl (cI, 34, .inl mc)), (mAg, .inl (cI, 34, .inl mg)), (mAe, .inl (cI, 128, .inl me)), (mAS, .inl (cJ, 2, .inr (.inl mS))), (mAp, .inl (cZ, 2, .inl mp))] (fun (r : Int64) (_ : Unit) => K r) (fun _ => [(mA, .inr (5, [.ref mAx, .ref mAy, .ref mAi, .int mn, .ref mAr, .ref mAo, .int mf, .int mt, .int md, .ref mAc, .int mk, .ref mAg, .int mh, .ref mAe, .ref mAS, .ref mAp])), (mAx, .inl (cI, 32, .inl mx)), (mAy, .inl (cI, 32, .inl my)), (mAi, .inl (cZ, 32, .inl mi)), (mAr, .inl (cI, 32, .inl mr)), (mAo, .inl (cI, 32, .inl mo)), (mAc, .inl (cI, 34, .inl mc)), (mAg, .inl (cI, 34, .inl mg)), (mAe, .inl (cI, 128, .inl me)), (mAS, .inl (cJ, 2, .inr (.inl mS))), (mAp, .inl (cZ, 2, .inl mp))]) := by
  refine mt_l (cc := cX6_cornerSet) (maxL := 4) (by decide) rfl (Nat.le_of_ble_eq_true rfl) ?_
  intro p e s m args below meth c Q A R ls hRf hRl hx hb hml hown hts hK hA hP hD hS hl ret
  have hown : s.vm.findClass RX6 = some m.cls := hown
  have hl : lv_has ls 4 [(0, .ref mA)] := hl
  have N4 : ∀  (k : Nat) (v1 : Int64) (v3 : Int32), wp_X6_cornerSet_4 mc mk K   k v1 v3 → ∀ (H : Heap) (locs : List Loc) (ls : Array Slot), va_P D vwCl [(mA, .inr (5, [.ref mAx, .ref mAy, .ref mAi, .int mn, .ref mAr, .ref mAo, .int mf, .int mt, .int md, .ref mAc, .int mk, .ref mAg, .int mh, .ref mAe, .ref mAS, .ref mAp])), (mAx, .inl (cI, 32, .inl mx)), (mAy, .inl (cI, 32, .inl my)), (mAi, .inl (cZ, 32, .inl mi)), (mAr, .inl (cI, 32, .inl mr)), (mAo, .inl (cI, 32, .inl mo)), (mAc, .inl (cI, 34, .inl mc)), (mAg, .inl (cI, 34, .inl mg)), (mAe, .inl (cI, 128, .inl me)), (mAS, .inl (cJ, 2, .inr (.inl mS))), (mAp, .inl (cZ, 2, .inl mp))] H → va_D A [(mA, .inr (5, [.ref mAx, .ref mAy, .ref mAi, .int mn, .ref mAr, .ref mAo, .int mf, .int mt, .int md, .ref mAc, .int mk, .ref mAg, .int mh, .ref mAe, .ref mAS, .ref mAp])), (mAx, .inl (cI, 32, .inl mx)), (mAy, .inl (cI, 32, .inl my)), (mAi, .inl (cZ, 32, .inl mi)), (mAr, .inl (cI, 32, .inl mr)), (mAo, .inl (cI, 32, .inl mo)), (mAc, .inl (cI, 34, .inl mc)), (mAg, .inl (cI, 34, .inl mg)), (mAe, .inl (cI, 128, .inl me)), (mAS, .inl (cJ, 2, .inr (.inl mS))), (mAp, .inl (cZ, 2, .inl mp))] → va_S A s.heap H locs → lv_has ls 4 [(0, .ref mA), (1, .long v1), (3, .int v3)] → W p l e R s m args below meth c H locs 0 0 Q (F0 m 4 ls []) := by
    intro k
    induction k with
    | zero => intro v1 v3 hw; exact False.elim hw
    | succ k ih4 =>
      intro v1 v3 hw H locs ls hP hD hS hl
      have hw : wp_X6_cornerSet_4b mc mk K (wp_X6_cornerSet_4 mc mk K   k)   v1 v3 := hw
      unfold wp_X6_cornerSet_4b at hw
      generalize wp_X6_cornerSet_4 mc mk K   k = L4 at hw ih4
      refine lv_iload_n hx hb dX6_cornerSet_4 rfl (lv_at hl 2 rfl) ?_
      refine lv_aload_n hx hb dX6_cornerSet_5 rfl (lv_at hl 0 rfl) ?_
      refine va_get (D := D) (ci := 5) (v := .int mk) (C := RX6) (T := TX6) (N := 16) hx hb hts in_X6_cornerSet_X6 hown hK hP 0 rfl rfl 10 (by decide) (hts (.fieldLink RX6 79 "LiveHullModel" "corners" "I") (List.mem_of_getElem? (i := 1) rfl)) (fun _ h9 => h9) rfl dX6_cornerSet_6 ?_
      obtain ⟨hwA, hwB⟩ := hw
      refine lv_icmp_ge (tgt := 29) hx hb dX6_cornerSet_9 (by decide) (fun cb => ?_) (fun cb => ?_)
      · have hw := hwA cb
        refine lv_lload_n hx hb dX6_cornerSet_29 rfl (lv_at hl 1 rfl) ?_
        exact ret _ _ _ _ v1 () hw hP hD hS dX6_cornerSet_30
      · have hw := hwB cb
        refine lv_lload_n hx hb dX6_cornerSet_12 rfl (lv_at hl 1 rfl) ?_
        refine lv_lconst (v := 1) hx hb dX6_cornerSet_13 (by decide) ?_
        refine lv_aload_n hx hb dX6_cornerSet_14 rfl (lv_at hl 0 rfl) ?_
        refine va_get (D := D) (ci := 5) (v := .ref mAc) (C := RX6) (T := TX6) (N := 16) hx hb hts in_X6_cornerSet_X6 hown hK hP 0 rfl rfl 9 (by decide) (hts (.fieldLink RX6 26 "LiveHullModel" "corner" "[I") (List.mem_of_getElem? (i := 2) rfl)) (fun _ h9 => h9) rfl dX6_cornerSet_15 ?_
        refine lv_iload_n hx hb dX6_cornerSet_18 rfl (lv_at hl 2 rfl) ?_
        obtain ⟨hi, hw⟩ := hw
        refine va_iald hx hb hK hP 6 0 rfl rfl hi dX6_cornerSet_19 ?_
        refine lv_lshl hx hb dX6_cornerSet_20 rfl ?_
        refine lv_lor hx hb dX6_cornerSet_21 ?_
        refine lv_lstore_n (lv' := [(1, .long (v1 ||| ((1 : Int64) <<< ((mc v3.toNatClampNeg).toInt64 &&& 63)))), (0, .ref mA), (3, .int v3)]) hx hb dX6_cornerSet_22 rfl hl (by decide) rfl (fun ls hl => ?_)
        refine lv_iinc (v := (v3 + 1)) (lv' := [(3, .int (v3 + 1)), (1, .long (v1 ||| ((1 : Int64) <<< ((mc v3.toNatClampNeg).toInt64 &&& 63)))), (0, .ref mA)]) hx hb dX6_cornerSet_23 hl (k := 2) rfl rfl (by decide) rfl (fun ls hl => ?_)
        refine lv_goto (tgt := 4) hx hb dX6_cornerSet_26 (by decide) ?_
        exact ih4 (v1 ||| ((1 : Int64) <<< ((mc v3.toNatClampNeg).toInt64 &&& 63))) (v3 + 1) hw _ _ _ hP hD hS (lv_sub hl [2, 1, 0] rfl)
  unfold wp_X6_cornerSet at hw
  refine lv_lconst (v := 0) hx hb dX6_cornerSet_0 (by decide) ?_
  refine lv_lstore_n (lv' := [(1, .long 0), (0, .ref mA)]) hx hb dX6_cornerSet_1 rfl hl (by decide) rfl (fun ls hl => ?_)
  refine lv_iconst (v := 0) hx hb dX6_cornerSet_2 (by decide) ?_
  refine lv_istore_n (lv' := [(3, .int 0), (1, .long 0), (0, .ref mA)]) hx hb dX6_cornerSet_3 rfl hl (by decide) rfl (fun ls hl => ?_)
  obtain ⟨k, hw⟩ := hw
  exact N4  k 0 0 hw _ _ _ hP hD hS (lv_sub hl [2, 1, 0] rfl)
theorem hd_X6_chainSet : yX6_chainSet.cls = RX6 ∧ yX6_chainSet.cls ≠ "java/lang/invoke/MethodHandle" ∧ yX6_chainSet.cls ≠ "java/lang/invoke/VarHandle" ∧ (parseMethodDescriptor yX6_chainSet.desc).map (fun d => d.parameters.length) = some 2 := by decide +kernel
set_option maxHeartbeats 8000000 in
set_option maxRecDepth 100000 in
theorem c_X6_chainSet (l : Launch) (D : va_G) (cI cJ cZ cO : ClassId) (mA mAx mAy mAi mAr mAo mAc mAg mAe mAS mAp : Nat) (mx : Nat → Int32) (my : Nat → Int32) (mi : Nat → Int32) (mn : Int32) (mr : Nat → Int32) (mo : Nat → Int32) (mf : Int32) (mt : Int32) (md : Int32) (mc : Nat → Int32) (mk : Int32) (mg : Nat → Int32) (mh : Int32) (me : Nat → Int32) (mS : Nat → Int64) (mp : Nat → Int32) (v1 : Int32) (v2 : Int32) (K : Int64 → (Nat → Int32) → (Nat → Int32) → Int32 → Int32 → Int32 → (Nat → Int32) → Int32 → Prop) (hw : wp_X6_chainSet mx my mi mn mr mo mf mt md mc mk v1 v2 K) : Cl l D (tys4 cI cJ cZ cO) yX6_chainSet wsX6_chainSet { frames := 3, cells := 0, slots := 0, locals := 78 } [.ref mA, .int v1, .int v2] [(mA, .inr (5, [.ref mAx, .ref mAy, .ref mAi, .int mn, .ref mAr, .ref mAo, .int mf, .int mt, .int md, .ref mAc, .int mk, .ref mAg, .int mh, .ref mAe, .ref mAS, .ref mAp])), (mAx, .inl (cI, 32, .inl mx)), (mAy, .inl (cI, 32, .inl my)), (mAi, .inl (cZ, 32, .inl mi)), (mAr, .inl (cI, 32, .inl mr)), (mAo, .inl (cI, 32, .inl mo)), (mAc, .inl (cI, 34, .inl mc)), (mAg, .inl (cI, 34, .inl mg)), (mAe, .inl (cI, 128, .inl me)), (mAS, .inl (cJ, 2, .inr (.inl mS))), (mAp, .inl (cZ, 2, .inl mp))] (fun (r : Int64) (u : (Nat → Int32) × (Nat → Int32) × (Int32) × (Int32) × (Int32) × (Nat → Int32) × (Int32)) => K r u.1 u.2.1 u.2.2.1 u.2.2.2.1 u.2.2.2.2.1 u.2.2.2.2.2.1 u.2.2.2.2.2.2) (fun u => [(mA, .inr (5, [.ref mAx, .ref mAy, .ref mAi, .int mn, .ref mAr, .ref mAo, .int u.2.2.1, .int u.2.2.2.1, .int u.2.2.2.2.1, .ref mAc, .int u.2.2.2.2.2.2, .ref mAg, .int mh, .ref mAe, .ref mAS, .ref mAp])), (mAx, .inl (cI, 32, .inl mx)), (mAy, .inl (cI, 32, .inl my)), (mAi, .inl (cZ, 32, .inl mi)), (mAr, .inl (cI, 32, .inl u.1)), (mAo, .inl (cI, 32, .inl u.2.1)), (mAc, .inl (cI, 34, .inl u.2.2.2.2.2.1)), (mAg, .inl (cI, 34, .inl mg)), (mAe, .inl (cI, 128, .inl me)), (mAS, .inl (cJ, 2, .inr (.inl mS))), (mAp, .inl (cZ, 2, .inl mp))]) := by
  refine mt_l (cc := cX6_chainSet) (maxL := 3) (by decide) rfl (Nat.le_of_ble_eq_true rfl) ?_
  intro p e s m args below meth c Q A R ls hRf hRl hx hb hml hown hts hK hA hP hD hS hl ret
  have hown : s.vm.findClass RX6 = some m.cls := hown
  have hl : lv_has ls 3 [(0, .ref mA), (1, .int v1), (2, .int v2)] := hl
  unfold wp_X6_chainSet at hw
  refine lv_aload_n hx hb dX6_chainSet_0 rfl (lv_at hl 0 rfl) ?_
  refine lv_iload_n hx hb dX6_chainSet_1 rfl (lv_at hl 1 rfl) ?_
  refine cl_Vi (As := [.int v1]) (rest := []) ⟨hx, hb, hml, hown, hts⟩ (c_X6_layPart l D cI cJ cZ cO mA mAx mAy mAi mAr mAo mAc mAg mAe mAS mAp mx my mi mn mr mo mf mt md mc mk mg mh me mS mp v1 _ hw) (cwV 1 hts gX6_chainSet_X6_layPart rfl rfl rfl hd_X6_layPart ⟨Nat.le_trans (Nat.le_of_ble_eq_true rfl) hRf, Nat.le_trans (Nat.le_of_ble_eq_true rfl) hRl⟩) hK hP hD hS hA [0, 1, 2, 3, 4, 5, 6, 7, 8, 9, 10] [] rfl (by decide) rfl (by decide) (by decide) 0 5 rfl rfl rfl hl.1 rfl (Nat.le_of_ble_eq_true rfl) dX6_chainSet_2 ⟨Nat.zero_le _, Nat.zero_le _⟩ (fun r2 u H locs hw hP hD hS => ?_)
  obtain ⟨mr_2, mo_2, mf_2, mt_2, md_2⟩ := u
  try dsimp only at hw
  have hP : va_P D vwCl [(mA, .inr (5, [.ref mAx, .ref mAy, .ref mAi, .int mn, .ref mAr, .ref mAo, .int mf_2, .int mt_2, .int md_2, .ref mAc, .int mk, .ref mAg, .int mh, .ref mAe, .ref mAS, .ref mAp])), (mAx, .inl (cI, 32, .inl mx)), (mAy, .inl (cI, 32, .inl my)), (mAi, .inl (cZ, 32, .inl mi)), (mAr, .inl (cI, 32, .inl mr_2)), (mAo, .inl (cI, 32, .inl mo_2)), (mAc, .inl (cI, 34, .inl mc)), (mAg, .inl (cI, 34, .inl mg)), (mAe, .inl (cI, 128, .inl me)), (mAS, .inl (cJ, 2, .inr (.inl mS))), (mAp, .inl (cZ, 2, .inl mp))] H := hP.sub [0, 1, 2, 3, 4, 5, 6, 7, 8, 9, 10] rfl
  have hD : va_D A [(mA, .inr (5, [.ref mAx, .ref mAy, .ref mAi, .int mn, .ref mAr, .ref mAo, .int mf_2, .int mt_2, .int md_2, .ref mAc, .int mk, .ref mAg, .int mh, .ref mAe, .ref mAS, .ref mAp])), (mAx, .inl (cI, 32, .inl mx)), (mAy, .inl (cI, 32, .inl my)), (mAi, .inl (cZ, 32, .inl mi)), (mAr, .inl (cI, 32, .inl mr_2)), (mAo, .inl (cI, 32, .inl mo_2)), (mAc, .inl (cI, 34, .inl mc)), (mAg, .inl (cI, 34, .inl mg)), (mAe, .inl (cI, 128, .inl me)), (mAS, .inl (cJ, 2, .inr (.inl mS))), (mAp, .inl (cZ, 2, .inl mp))] := hD.sub [0, 1, 2, 3, 4, 5, 6, 7, 8, 9, 10] (by decide) rfl
  obtain ⟨hwA, hwB⟩ := hw
  refine lv_if_ne (tgt := 10) hx hb dX6_chainSet_5 (by decide) (fun cb => ?_) (fun cb => ?_)
  · have hw := hwA cb
    refine lv_aload_n hx hb dX6_chainSet_10 rfl (lv_at hl 0 rfl) ?_
    refine lv_iload_n hx hb dX6_chainSet_11 rfl (lv_at hl 2 rfl) ?_
    refine cl_Vv (As := [.int v2]) (rest := []) ⟨hx, hb, hml, hown, hts⟩ (c_X6_layChain l D cI cJ cZ cO mA mAx mAy mAi mAr mAo mAc mAg mAe mAS mAp mx my mi mn mr_2 mo_2 mf_2 mt_2 md_2 mc mk mg mh me mS mp v2 _ hw) (cwV 1 hts gX6_chainSet_X6_layChain rfl rfl rfl hd_X6_layChain ⟨Nat.le_trans (Nat.le_of_ble_eq_true rfl) hRf, Nat.le_trans (Nat.le_of_ble_eq_true rfl) hRl⟩) hK hP hD hS hA [0, 1, 2, 3, 4, 5, 6, 7, 8, 9, 10] [] rfl (by decide) rfl (by decide) (by decide) 0 5 rfl rfl rfl hl.1 rfl (Nat.le_of_ble_eq_true rfl) dX6_chainSet_12 ⟨Nat.zero_le _, Nat.zero_le _⟩ (fun u H locs hw hP hD hS => ?_)
    obtain ⟨mc_12, mk_12⟩ := u
    try dsimp only at hw
    have hP : va_P D vwCl [(mA, .inr (5, [.ref mAx, .ref mAy, .ref mAi, .int mn, .ref mAr, .ref mAo, .int mf_2, .int mt_2, .int md_2, .ref mAc, .int mk_12, .ref mAg, .int mh, .ref mAe, .ref mAS, .ref mAp])), (mAx, .inl (cI, 32, .inl mx)), (mAy, .inl (cI, 32, .inl my)), (mAi, .inl (cZ, 32, .inl mi)), (mAr, .inl (cI, 32, .inl mr_2)), (mAo, .inl (cI, 32, .inl mo_2)), (mAc, .inl (cI, 34, .inl mc_12)), (mAg, .inl (cI, 34, .inl mg)), (mAe, .inl (cI, 128, .inl me)), (mAS, .inl (cJ, 2, .inr (.inl mS))), (mAp, .inl (cZ, 2, .inl mp))] H := hP.sub [0, 1, 2, 3, 4, 5, 6, 7, 8, 9, 10] rfl
    have hD : va_D A [(mA, .inr (5, [.ref mAx, .ref mAy, .ref mAi, .int mn, .ref mAr, .ref mAo, .int mf_2, .int mt_2, .int md_2, .ref mAc, .int mk_12, .ref mAg, .int mh, .ref mAe, .ref mAS, .ref mAp])), (mAx, .inl (cI, 32, .inl mx)), (mAy, .inl (cI, 32, .inl my)), (mAi, .inl (cZ, 32, .inl mi)), (mAr, .inl (cI, 32, .inl mr_2)), (mAo, .inl (cI, 32, .inl mo_2)), (mAc, .inl (cI, 34, .inl mc_12)), (mAg, .inl (cI, 34, .inl mg)), (mAe, .inl (cI, 128, .inl me)), (mAS, .inl (cJ, 2, .inr (.inl mS))), (mAp, .inl (cZ, 2, .inl mp))] := hD.sub [0, 1, 2, 3, 4, 5, 6, 7, 8, 9, 10] (by decide) rfl
    refine lv_aload_n hx hb dX6_chainSet_15 rfl (lv_at hl 0 rfl) ?_
    refine cl_Vl (As := []) (rest := []) ⟨hx, hb, hml, hown, hts⟩ (c_X6_cornerSet l D cI cJ cZ cO mA mAx mAy mAi mAr mAo mAc mAg mAe mAS mAp mx my mi mn mr_2 mo_2 mf_2 mt_2 md_2 mc_12 mk_12 mg mh me mS mp  _ hw) (cwV 0 hts gX6_chainSet_X6_cornerSet rfl rfl rfl hd_X6_cornerSet ⟨Nat.le_trans (Nat.le_of_ble_eq_true rfl) hRf, Nat.le_trans (Nat.le_of_ble_eq_true rfl) hRl⟩) hK hP hD hS hA [0, 1, 2, 3, 4, 5, 6, 7, 8, 9, 10] [] rfl (by decide) rfl (by decide) (by decide) 0 5 rfl rfl rfl hl.1 rfl (Nat.le_of_ble_eq_true rfl) dX6_chainSet_16 ⟨Nat.zero_le _, Nat.zero_le _⟩ (fun r16 _u H locs hw hP hD hS => ?_)
    try dsimp only at hw
    have hP : va_P D vwCl [(mA, .inr (5, [.ref mAx, .ref mAy, .ref mAi, .int mn, .ref mAr, .ref mAo, .int mf_2, .int mt_2, .int md_2, .ref mAc, .int mk_12, .ref mAg, .int mh, .ref mAe, .ref mAS, .ref mAp])), (mAx, .inl (cI, 32, .inl mx)), (mAy, .inl (cI, 32, .inl my)), (mAi, .inl (cZ, 32, .inl mi)), (mAr, .inl (cI, 32, .inl mr_2)), (mAo, .inl (cI, 32, .inl mo_2)), (mAc, .inl (cI, 34, .inl mc_12)), (mAg, .inl (cI, 34, .inl mg)), (mAe, .inl (cI, 128, .inl me)), (mAS, .inl (cJ, 2, .inr (.inl mS))), (mAp, .inl (cZ, 2, .inl mp))] H := hP.sub [0, 1, 2, 3, 4, 5, 6, 7, 8, 9, 10] rfl
    have hD : va_D A [(mA, .inr (5, [.ref mAx, .ref mAy, .ref mAi, .int mn, .ref mAr, .ref mAo, .int mf_2, .int mt_2, .int md_2, .ref mAc, .int mk_12, .ref mAg, .int mh, .ref mAe, .ref mAS, .ref mAp])), (mAx, .inl (cI, 32, .inl mx)), (mAy, .inl (cI, 32, .inl my)), (mAi, .inl (cZ, 32, .inl mi)), (mAr, .inl (cI, 32, .inl mr_2)), (mAo, .inl (cI, 32, .inl mo_2)), (mAc, .inl (cI, 34, .inl mc_12)), (mAg, .inl (cI, 34, .inl mg)), (mAe, .inl (cI, 128, .inl me)), (mAS, .inl (cJ, 2, .inr (.inl mS))), (mAp, .inl (cZ, 2, .inl mp))] := hD.sub [0, 1, 2, 3, 4, 5, 6, 7, 8, 9, 10] (by decide) rfl
    exact ret _ _ _ _ r16 (mr_2, mo_2, mf_2, mt_2, md_2, mc_12, mk_12) hw hP hD hS dX6_chainSet_19
  · have hw := hwB cb
    refine lv_lconst (v := 0) hx hb dX6_chainSet_8 (by decide) ?_
    exact ret _ _ _ _ 0 (mr_2, mo_2, mf_2, mt_2, md_2, mc, mk) hw hP hD hS dX6_chainSet_9
theorem hd_X6_bits : yX6_bits.cls = RX6 ∧ yX6_bits.cls ≠ "java/lang/invoke/MethodHandle" ∧ yX6_bits.cls ≠ "java/lang/invoke/VarHandle" ∧ (parseMethodDescriptor yX6_bits.desc).map (fun d => d.parameters.length) = some 1 := by decide +kernel
set_option maxHeartbeats 8000000 in
set_option maxRecDepth 100000 in
theorem c_X6_bits (l : Launch) (D : va_G) (cI cJ cZ cO : ClassId)   (v0 : Int64) (K : Int32 → Prop) (hw : wp_X6_bits v0 K) : Ci l D (tys4 cI cJ cZ cO) yX6_bits wsX6_bits { frames := 0, cells := 0, slots := 0, locals := 0 } [.long v0] [] (fun (r : Int32) (_ : Unit) => K r) (fun _ => []) := by
  refine mt_i (cc := cX6_bits) (maxL := 4) (rt := .int) (by decide) rfl (Nat.le_of_ble_eq_true rfl) ?_
  intro p e s m args below meth c Q A R ls hRf hRl hx hb hml hown hts hK hA hP hD hS hl ret
  have hown : s.vm.findClass RX6 = some m.cls := hown
  have hl : lv_has ls 4 [(0, .long v0)] := hl
  have N4 : ∀  (k : Nat) (v2 : Int32) (v3 : Int32), wp_X6_bits_4 v0 K   k v2 v3 → ∀ (H : Heap) (locs : List Loc) (ls : Array Slot), va_P D vwCl [] H → va_D A [] → va_S A s.heap H locs → lv_has ls 4 [(0, .long v0), (2, .int v2), (3, .int v3)] → W p l e R s m args below meth c H locs 0 0 Q (F0 m 4 ls []) := by
    intro k
    induction k with
    | zero => intro v2 v3 hw; exact False.elim hw
    | succ k ih4 =>
      intro v2 v3 hw H locs ls hP hD hS hl
      have hw : wp_X6_bits_4b v0 K (wp_X6_bits_4 v0 K   k)   v2 v3 := hw
      unfold wp_X6_bits_4b at hw
      generalize wp_X6_bits_4 v0 K   k = L4 at hw ih4
      refine lv_iload_n hx hb dX6_bits_4 rfl (lv_at hl 2 rfl) ?_
      refine lv_bipush (v := 32) hx hb dX6_bits_5 (by decide) ?_
      obtain ⟨hwA, hwB⟩ := hw
      refine lv_icmp_ge (tgt := 25) hx hb dX6_bits_7 (by decide) (fun cb => ?_) (fun cb => ?_)
      · have hw := hwA cb
        refine lv_iload_n hx hb dX6_bits_25 rfl (lv_at hl 1 rfl) ?_
        exact ret _ _ _ _ v2 () (vp_nar_int _) hw hP hD hS dX6_bits_26
      · have hw := hwB cb
        refine lv_iload_n hx hb dX6_bits_10 rfl (lv_at hl 1 rfl) ?_
        refine lv_lload_n hx hb dX6_bits_11 rfl (lv_at hl 0 rfl) ?_
        refine lv_iload_n hx hb dX6_bits_12 rfl (lv_at hl 2 rfl) ?_
        refine lv_lshr hx hb dX6_bits_13 rfl ?_
        refine lv_lconst (v := 1) hx hb dX6_bits_14 (by decide) ?_
        refine lv_land hx hb dX6_bits_15 ?_
        refine lv_l2i hx hb dX6_bits_16 rfl ?_
        refine lv_iadd hx hb dX6_bits_17 ?_
        refine lv_istore_n (lv' := [(2, .int (v2 + ((v0 >>> (v3.toInt64 &&& 63)) &&& 1).toInt32)), (0, .long v0), (3, .int v3)]) hx hb dX6_bits_18 rfl hl (by decide) rfl (fun ls hl => ?_)
        refine lv_iinc (v := (v3 + 1)) (lv' := [(3, .int (v3 + 1)), (2, .int (v2 + ((v0 >>> (v3.toInt64 &&& 63)) &&& 1).toInt32)), (0, .long v0)]) hx hb dX6_bits_19 hl (k := 2) rfl rfl (by decide) rfl (fun ls hl => ?_)
        refine lv_goto (tgt := 4) hx hb dX6_bits_22 (by decide) ?_
        exact ih4 (v2 + ((v0 >>> (v3.toInt64 &&& 63)) &&& 1).toInt32) (v3 + 1) hw _ _ _ hP hD hS (lv_sub hl [2, 1, 0] rfl)
  unfold wp_X6_bits at hw
  refine lv_iconst (v := 0) hx hb dX6_bits_0 (by decide) ?_
  refine lv_istore_n (lv' := [(2, .int 0), (0, .long v0)]) hx hb dX6_bits_1 rfl hl (by decide) rfl (fun ls hl => ?_)
  refine lv_iconst (v := 0) hx hb dX6_bits_2 (by decide) ?_
  refine lv_istore_n (lv' := [(3, .int 0), (2, .int 0), (0, .long v0)]) hx hb dX6_bits_3 rfl hl (by decide) rfl (fun ls hl => ?_)
  obtain ⟨k, hw⟩ := hw
  exact N4  k 0 0 hw _ _ _ hP hD hS (lv_sub hl [2, 1, 0] rfl)
theorem hd_X6_restOf : yX6_restOf.cls = RX6 ∧ yX6_restOf.cls ≠ "java/lang/invoke/MethodHandle" ∧ yX6_restOf.cls ≠ "java/lang/invoke/VarHandle" ∧ (parseMethodDescriptor yX6_restOf.desc).map (fun d => d.parameters.length) = some 2 := by decide +kernel
set_option maxHeartbeats 8000000 in
set_option maxRecDepth 100000 in
theorem c_X6_restOf (l : Launch) (D : va_G) (cI cJ cZ cO : ClassId) (mA mAx mAy mAi mAr mAo mAc mAg mAe mAS mAp : Nat) (mx : Nat → Int32) (my : Nat → Int32) (mi : Nat → Int32) (mn : Int32) (mr : Nat → Int32) (mo : Nat → Int32) (mf : Int32) (mt : Int32) (md : Int32) (mc : Nat → Int32) (mk : Int32) (mg : Nat → Int32) (mh : Int32) (me : Nat → Int32) (mS : Nat → Int64) (mp : Nat → Int32) (v1 : Int32) (v2 : Int32) (K : Int32 → (Nat → Int32) → (Nat → Int32) → Int32 → Int32 → Int32 → (Nat → Int32) → Int32 → Prop) (hw : wp_X6_restOf mx my mi mn mr mo mf mt md mc mk v1 v2 K) : Ci l D (tys4 cI cJ cZ cO) yX6_restOf wsX6_restOf { frames := 4, cells := 0, slots := 0, locals := 100 } [.ref mA, .int v1, .int v2] [(mA, .inr (5, [.ref mAx, .ref mAy, .ref mAi, .int mn, .ref mAr, .ref mAo, .int mf, .int mt, .int md, .ref mAc, .int mk, .ref mAg, .int mh, .ref mAe, .ref mAS, .ref mAp])), (mAx, .inl (cI, 32, .inl mx)), (mAy, .inl (cI, 32, .inl my)), (mAi, .inl (cZ, 32, .inl mi)), (mAr, .inl (cI, 32, .inl mr)), (mAo, .inl (cI, 32, .inl mo)), (mAc, .inl (cI, 34, .inl mc)), (mAg, .inl (cI, 34, .inl mg)), (mAe, .inl (cI, 128, .inl me)), (mAS, .inl (cJ, 2, .inr (.inl mS))), (mAp, .inl (cZ, 2, .inl mp))] (fun (r : Int32) (u : (Nat → Int32) × (Nat → Int32) × (Int32) × (Int32) × (Int32) × (Nat → Int32) × (Int32)) => K r u.1 u.2.1 u.2.2.1 u.2.2.2.1 u.2.2.2.2.1 u.2.2.2.2.2.1 u.2.2.2.2.2.2) (fun u => [(mA, .inr (5, [.ref mAx, .ref mAy, .ref mAi, .int mn, .ref mAr, .ref mAo, .int u.2.2.1, .int u.2.2.2.1, .int u.2.2.2.2.1, .ref mAc, .int u.2.2.2.2.2.2, .ref mAg, .int mh, .ref mAe, .ref mAS, .ref mAp])), (mAx, .inl (cI, 32, .inl mx)), (mAy, .inl (cI, 32, .inl my)), (mAi, .inl (cZ, 32, .inl mi)), (mAr, .inl (cI, 32, .inl u.1)), (mAo, .inl (cI, 32, .inl u.2.1)), (mAc, .inl (cI, 34, .inl u.2.2.2.2.2.1)), (mAg, .inl (cI, 34, .inl mg)), (mAe, .inl (cI, 128, .inl me)), (mAS, .inl (cJ, 2, .inr (.inl mS))), (mAp, .inl (cZ, 2, .inl mp))]) := by
  refine mt_i (cc := cX6_restOf) (maxL := 3) (rt := .int) (by decide) rfl (Nat.le_of_ble_eq_true rfl) ?_
  intro p e s m args below meth c Q A R ls hRf hRl hx hb hml hown hts hK hA hP hD hS hl ret
  have hown : s.vm.findClass RX6 = some m.cls := hown
  have hl : lv_has ls 3 [(0, .ref mA), (1, .int v1), (2, .int v2)] := hl
  unfold wp_X6_restOf at hw
  refine lv_iload_n hx hb dX6_restOf_0 rfl (lv_at hl 1 rfl) ?_
  refine lv_iconst (v := 1) hx hb dX6_restOf_1 (by decide) ?_
  obtain ⟨hwA, hwB⟩ := hw
  refine lv_icmp_ne (tgt := 10) hx hb dX6_restOf_2 (by decide) (fun cb => ?_) (fun cb => ?_)
  · have hw := hwA cb
    refine lv_aload_n hx hb dX6_restOf_10 rfl (lv_at hl 0 rfl) ?_
    refine lv_iload_n hx hb dX6_restOf_11 rfl (lv_at hl 1 rfl) ?_
    refine lv_iload_n hx hb dX6_restOf_12 rfl (lv_at hl 2 rfl) ?_
    refine cl_Vl (As := [.int v1, .int v2]) (rest := []) ⟨hx, hb, hml, hown, hts⟩ (c_X6_chainSet l D cI cJ cZ cO mA mAx mAy mAi mAr mAo mAc mAg mAe mAS mAp mx my mi mn mr mo mf mt md mc mk mg mh me mS mp v1 v2 _ hw) (cwV 2 hts gX6_restOf_X6_chainSet rfl rfl rfl hd_X6_chainSet ⟨Nat.le_trans (Nat.le_of_ble_eq_true rfl) hRf, Nat.le_trans (Nat.le_of_ble_eq_true rfl) hRl⟩) hK hP hD hS hA [0, 1, 2, 3, 4, 5, 6, 7, 8, 9, 10] [] rfl (by decide) rfl (by decide) (by decide) 0 5 rfl rfl rfl hl.1 rfl (Nat.le_of_ble_eq_true rfl) dX6_restOf_13 ⟨Nat.zero_le _, Nat.zero_le _⟩ (fun r13 u H locs hw hP hD hS => ?_)
    obtain ⟨mr_13, mo_13, mf_13, mt_13, md_13, mc_13, mk_13⟩ := u
    try dsimp only at hw
    have hP : va_P D vwCl [(mA, .inr (5, [.ref mAx, .ref mAy, .ref mAi, .int mn, .ref mAr, .ref mAo, .int mf_13, .int mt_13, .int md_13, .ref mAc, .int mk_13, .ref mAg, .int mh, .ref mAe, .ref mAS, .ref mAp])), (mAx, .inl (cI, 32, .inl mx)), (mAy, .inl (cI, 32, .inl my)), (mAi, .inl (cZ, 32, .inl mi)), (mAr, .inl (cI, 32, .inl mr_13)), (mAo, .inl (cI, 32, .inl mo_13)), (mAc, .inl (cI, 34, .inl mc_13)), (mAg, .inl (cI, 34, .inl mg)), (mAe, .inl (cI, 128, .inl me)), (mAS, .inl (cJ, 2, .inr (.inl mS))), (mAp, .inl (cZ, 2, .inl mp))] H := hP.sub [0, 1, 2, 3, 4, 5, 6, 7, 8, 9, 10] rfl
    have hD : va_D A [(mA, .inr (5, [.ref mAx, .ref mAy, .ref mAi, .int mn, .ref mAr, .ref mAo, .int mf_13, .int mt_13, .int md_13, .ref mAc, .int mk_13, .ref mAg, .int mh, .ref mAe, .ref mAS, .ref mAp])), (mAx, .inl (cI, 32, .inl mx)), (mAy, .inl (cI, 32, .inl my)), (mAi, .inl (cZ, 32, .inl mi)), (mAr, .inl (cI, 32, .inl mr_13)), (mAo, .inl (cI, 32, .inl mo_13)), (mAc, .inl (cI, 34, .inl mc_13)), (mAg, .inl (cI, 34, .inl mg)), (mAe, .inl (cI, 128, .inl me)), (mAS, .inl (cJ, 2, .inr (.inl mS))), (mAp, .inl (cZ, 2, .inl mp))] := hD.sub [0, 1, 2, 3, 4, 5, 6, 7, 8, 9, 10] (by decide) rfl
    refine lv_aload_n hx hb dX6_restOf_16 rfl (lv_at hl 0 rfl) ?_
    refine lv_iload_n hx hb dX6_restOf_17 rfl (lv_at hl 1 rfl) ?_
    refine lv_iconst (v := 2) hx hb dX6_restOf_18 (by decide) ?_
    refine lv_idiv hx hb dX6_restOf_19 (by decide) ?_
    refine lv_iload_n hx hb dX6_restOf_20 rfl (lv_at hl 2 rfl) ?_
    refine cl_Vl (As := [.int (v1 / 2), .int v2]) (rest := [.long r13]) ⟨hx, hb, hml, hown, hts⟩ (c_X6_chainSet l D cI cJ cZ cO mA mAx mAy mAi mAr mAo mAc mAg mAe mAS mAp mx my mi mn mr_13 mo_13 mf_13 mt_13 md_13 mc_13 mk_13 mg mh me mS mp (v1 / 2) v2 _ hw) (cwV 2 hts gX6_restOf_X6_chainSet rfl rfl rfl hd_X6_chainSet ⟨Nat.le_trans (Nat.le_of_ble_eq_true rfl) hRf, Nat.le_trans (Nat.le_of_ble_eq_true rfl) hRl⟩) hK hP hD hS hA [0, 1, 2, 3, 4, 5, 6, 7, 8, 9, 10] [] rfl (by decide) rfl (by decide) (by decide) 0 5 rfl rfl rfl hl.1 rfl (Nat.le_of_ble_eq_true rfl) dX6_restOf_21 ⟨Nat.zero_le _, Nat.zero_le _⟩ (fun r21 u H locs hw hP hD hS => ?_)
    obtain ⟨mr_21, mo_21, mf_21, mt_21, md_21, mc_21, mk_21⟩ := u
    try dsimp only at hw
    have hP : va_P D vwCl [(mA, .inr (5, [.ref mAx, .ref mAy, .ref mAi, .int mn, .ref mAr, .ref mAo, .int mf_21, .int mt_21, .int md_21, .ref mAc, .int mk_21, .ref mAg, .int mh, .ref mAe, .ref mAS, .ref mAp])), (mAx, .inl (cI, 32, .inl mx)), (mAy, .inl (cI, 32, .inl my)), (mAi, .inl (cZ, 32, .inl mi)), (mAr, .inl (cI, 32, .inl mr_21)), (mAo, .inl (cI, 32, .inl mo_21)), (mAc, .inl (cI, 34, .inl mc_21)), (mAg, .inl (cI, 34, .inl mg)), (mAe, .inl (cI, 128, .inl me)), (mAS, .inl (cJ, 2, .inr (.inl mS))), (mAp, .inl (cZ, 2, .inl mp))] H := hP.sub [0, 1, 2, 3, 4, 5, 6, 7, 8, 9, 10] rfl
    have hD : va_D A [(mA, .inr (5, [.ref mAx, .ref mAy, .ref mAi, .int mn, .ref mAr, .ref mAo, .int mf_21, .int mt_21, .int md_21, .ref mAc, .int mk_21, .ref mAg, .int mh, .ref mAe, .ref mAS, .ref mAp])), (mAx, .inl (cI, 32, .inl mx)), (mAy, .inl (cI, 32, .inl my)), (mAi, .inl (cZ, 32, .inl mi)), (mAr, .inl (cI, 32, .inl mr_21)), (mAo, .inl (cI, 32, .inl mo_21)), (mAc, .inl (cI, 34, .inl mc_21)), (mAg, .inl (cI, 34, .inl mg)), (mAe, .inl (cI, 128, .inl me)), (mAS, .inl (cJ, 2, .inr (.inl mS))), (mAp, .inl (cZ, 2, .inl mp))] := hD.sub [0, 1, 2, 3, 4, 5, 6, 7, 8, 9, 10] (by decide) rfl
    refine lv_ldc2 (own := RX6) (v := (-1)) hx hb hown (hts (.constantLong RX6 101 (-1)) (List.mem_of_getElem? (i := 1) rfl)) dX6_restOf_24 ?_
    refine lv_lxor hx hb dX6_restOf_27 ?_
    refine lv_land hx hb dX6_restOf_28 ?_
    refine cl_Si (As := [.long (r13 &&& (r21 ^^^ (-1)))]) (rest := []) ⟨hx, hb, hml, hown, hts⟩ (c_X6_bits l D cI cJ cZ cO   (r13 &&& (r21 ^^^ (-1))) _ hw) (va_cwS 1 hts gX6_restOf_X6_bits rfl rfl rfl hd_X6_bits.2 ⟨Nat.le_trans (Nat.le_of_ble_eq_true rfl) hRf, Nat.le_trans (Nat.le_of_ble_eq_true rfl) hRl⟩) hK hP hD hS hA [] [0, 1, 2, 3, 4, 5, 6, 7, 8, 9, 10] rfl (by decide) rfl (by decide) (by decide) rfl hl.1 rfl (Nat.le_of_ble_eq_true rfl) dX6_restOf_29 ⟨Nat.zero_le _, Nat.zero_le _⟩ (fun r29 _u H locs hw hP hD hS => ?_)
    try dsimp only at hw
    have hP : va_P D vwCl [(mA, .inr (5, [.ref mAx, .ref mAy, .ref mAi, .int mn, .ref mAr, .ref mAo, .int mf_21, .int mt_21, .int md_21, .ref mAc, .int mk_21, .ref mAg, .int mh, .ref mAe, .ref mAS, .ref mAp])), (mAx, .inl (cI, 32, .inl mx)), (mAy, .inl (cI, 32, .inl my)), (mAi, .inl (cZ, 32, .inl mi)), (mAr, .inl (cI, 32, .inl mr_21)), (mAo, .inl (cI, 32, .inl mo_21)), (mAc, .inl (cI, 34, .inl mc_21)), (mAg, .inl (cI, 34, .inl mg)), (mAe, .inl (cI, 128, .inl me)), (mAS, .inl (cJ, 2, .inr (.inl mS))), (mAp, .inl (cZ, 2, .inl mp))] H := hP.sub [0, 1, 2, 3, 4, 5, 6, 7, 8, 9, 10] rfl
    have hD : va_D A [(mA, .inr (5, [.ref mAx, .ref mAy, .ref mAi, .int mn, .ref mAr, .ref mAo, .int mf_21, .int mt_21, .int md_21, .ref mAc, .int mk_21, .ref mAg, .int mh, .ref mAe, .ref mAS, .ref mAp])), (mAx, .inl (cI, 32, .inl mx)), (mAy, .inl (cI, 32, .inl my)), (mAi, .inl (cZ, 32, .inl mi)), (mAr, .inl (cI, 32, .inl mr_21)), (mAo, .inl (cI, 32, .inl mo_21)), (mAc, .inl (cI, 34, .inl mc_21)), (mAg, .inl (cI, 34, .inl mg)), (mAe, .inl (cI, 128, .inl me)), (mAS, .inl (cJ, 2, .inr (.inl mS))), (mAp, .inl (cZ, 2, .inl mp))] := hD.sub [0, 1, 2, 3, 4, 5, 6, 7, 8, 9, 10] (by decide) rfl
    exact ret _ _ _ _ r29 (mr_21, mo_21, mf_21, mt_21, md_21, mc_21, mk_21) (vp_nar_int _) hw hP hD hS dX6_restOf_32
  · have hw := hwB cb
    refine lv_bipush (v := (-6)) hx hb dX6_restOf_5 (by decide) ?_
    refine lv_goto (tgt := 32) hx hb dX6_restOf_7 (by decide) ?_
    exact ret _ _ _ _ (-6) (mr, mo, mf, mt, md, mc, mk) (vp_nar_int _) hw hP hD hS dX6_restOf_32
theorem in_X6_topOf_X6 : ∀ w ∈ wsX60, w ∈ wsX6_topOf := fun _ h => List.mem_cons_of_mem _ (List.mem_append_right _ h)
theorem hd_X6_topOf : yX6_topOf.cls = RX6 ∧ yX6_topOf.cls ≠ "java/lang/invoke/MethodHandle" ∧ yX6_topOf.cls ≠ "java/lang/invoke/VarHandle" ∧ (parseMethodDescriptor yX6_topOf.desc).map (fun d => d.parameters.length) = some 2 := by decide +kernel
set_option maxHeartbeats 8000000 in
set_option maxRecDepth 100000 in
theorem c_X6_topOf (l : Launch) (D : va_G) (cI cJ cZ cO : ClassId) (mA mAx mAy mAi mAr mAo mAc mAg mAe mAS mAp : Nat) (mx : Nat → Int32) (my : Nat → Int32) (mi : Nat → Int32) (mn : Int32) (mr : Nat → Int32) (mo : Nat → Int32) (mf : Int32) (mt : Int32) (md : Int32) (mc : Nat → Int32) (mk : Int32) (mg : Nat → Int32) (mh : Int32) (me : Nat → Int32) (mS : Nat → Int64) (mp : Nat → Int32) (v1 : Int32) (v2 : Int32) (K : Int32 → (Nat → Int32) → (Nat → Int32) → Int32 → Int32 → Int32 → (Nat → Int32) → Int32 → Prop) (hw : wp_X6_topOf mx my mi mn mr mo mf mt md mc mk v1 v2 K) : Ci l D (tys4 cI cJ cZ cO) yX6_topOf wsX6_topOf { frames := 4, cells := 0, slots := 0, locals := 100 } [.ref mA, .int v1, .int v2] [(mA, .inr (5, [.ref mAx, .ref mAy, .ref mAi, .int mn, .ref mAr, .ref mAo, .int mf, .int mt, .int md, .ref mAc, .int mk, .ref mAg, .int mh, .ref mAe, .ref mAS, .ref mAp])), (mAx, .inl (cI, 32, .inl mx)), (mAy, .inl (cI, 32, .inl my)), (mAi, .inl (cZ, 32, .inl mi)), (mAr, .inl (cI, 32, .inl mr)), (mAo, .inl (cI, 32, .inl mo)), (mAc, .inl (cI, 34, .inl mc)), (mAg, .inl (cI, 34, .inl mg)), (mAe, .inl (cI, 128, .inl me)), (mAS, .inl (cJ, 2, .inr (.inl mS))), (mAp, .inl (cZ, 2, .inl mp))] (fun (r : Int32) (u : (Nat → Int32) × (Nat → Int32) × (Int32) × (Int32) × (Int32) × (Nat → Int32) × (Int32)) => K r u.1 u.2.1 u.2.2.1 u.2.2.2.1 u.2.2.2.2.1 u.2.2.2.2.2.1 u.2.2.2.2.2.2) (fun u => [(mA, .inr (5, [.ref mAx, .ref mAy, .ref mAi, .int mn, .ref mAr, .ref mAo, .int u.2.2.1, .int u.2.2.2.1, .int u.2.2.2.2.1, .ref mAc, .int u.2.2.2.2.2.2, .ref mAg, .int mh, .ref mAe, .ref mAS, .ref mAp])), (mAx, .inl (cI, 32, .inl mx)), (mAy, .inl (cI, 32, .inl my)), (mAi, .inl (cZ, 32, .inl mi)), (mAr, .inl (cI, 32, .inl u.1)), (mAo, .inl (cI, 32, .inl u.2.1)), (mAc, .inl (cI, 34, .inl u.2.2.2.2.2.1)), (mAg, .inl (cI, 34, .inl mg)), (mAe, .inl (cI, 128, .inl me)), (mAS, .inl (cJ, 2, .inr (.inl mS))), (mAp, .inl (cZ, 2, .inl mp))]) := by
  refine mt_i (cc := cX6_topOf) (maxL := 5) (rt := .int) (by decide) rfl (Nat.le_of_ble_eq_true rfl) ?_
  intro p e s m args below meth c Q A R ls hRf hRl hx hb hml hown hts hK hA hP hD hS hl ret
  have hown : s.vm.findClass RX6 = some m.cls := hown
  have hl : lv_has ls 5 [(0, .ref mA), (1, .int v1), (2, .int v2)] := hl
  have N7 : ∀  (k : Nat) (mr : Nat → Int32) (mo : Nat → Int32) (mf : Int32) (mt : Int32) (md : Int32) (mc : Nat → Int32) (mk : Int32) (v3 : Int32) (v4 : Int32), wp_X6_topOf_7 mx my mi mn v1 v2 K   k mr mo mf mt md mc mk v3 v4 → ∀ (H : Heap) (locs : List Loc) (ls : Array Slot), va_P D vwCl [(mA, .inr (5, [.ref mAx, .ref mAy, .ref mAi, .int mn, .ref mAr, .ref mAo, .int mf, .int mt, .int md, .ref mAc, .int mk, .ref mAg, .int mh, .ref mAe, .ref mAS, .ref mAp])), (mAx, .inl (cI, 32, .inl mx)), (mAy, .inl (cI, 32, .inl my)), (mAi, .inl (cZ, 32, .inl mi)), (mAr, .inl (cI, 32, .inl mr)), (mAo, .inl (cI, 32, .inl mo)), (mAc, .inl (cI, 34, .inl mc)), (mAg, .inl (cI, 34, .inl mg)), (mAe, .inl (cI, 128, .inl me)), (mAS, .inl (cJ, 2, .inr (.inl mS))), (mAp, .inl (cZ, 2, .inl mp))] H → va_D A [(mA, .inr (5, [.ref mAx, .ref mAy, .ref mAi, .int mn, .ref mAr, .ref mAo, .int mf, .int mt, .int md, .ref mAc, .int mk, .ref mAg, .int mh, .ref mAe, .ref mAS, .ref mAp])), (mAx, .inl (cI, 32, .inl mx)), (mAy, .inl (cI, 32, .inl my)), (mAi, .inl (cZ, 32, .inl mi)), (mAr, .inl (cI, 32, .inl mr)), (mAo, .inl (cI, 32, .inl mo)), (mAc, .inl (cI, 34, .inl mc)), (mAg, .inl (cI, 34, .inl mg)), (mAe, .inl (cI, 128, .inl me)), (mAS, .inl (cJ, 2, .inr (.inl mS))), (mAp, .inl (cZ, 2, .inl mp))] → va_S A s.heap H locs → lv_has ls 5 [(0, .ref mA), (1, .int v1), (2, .int v2), (3, .int v3), (4, .int v4)] → W p l e R s m args below meth c H locs 0 0 Q (F0 m 7 ls []) := by
    intro k
    induction k with
    | zero => intro mr mo mf mt md mc mk v3 v4 hw; exact False.elim hw
    | succ k ih7 =>
      intro mr mo mf mt md mc mk v3 v4 hw H locs ls hP hD hS hl
      have hw : wp_X6_topOf_7b mx my mi mn v1 v2 K (wp_X6_topOf_7 mx my mi mn v1 v2 K   k)   mr mo mf mt md mc mk v3 v4 := hw
      unfold wp_X6_topOf_7b at hw
      generalize wp_X6_topOf_7 mx my mi mn v1 v2 K   k = L7 at hw ih7
      refine lv_iload hx hb dX6_topOf_7 (lv_at hl 4 rfl) ?_
      obtain ⟨hwA, hwB⟩ := hw
      refine lv_if_le (tgt := 55) hx hb dX6_topOf_9 (by decide) (fun cb => ?_) (fun cb => ?_)
      · have hw := hwA cb
        refine lv_iload_n hx hb dX6_topOf_55 rfl (lv_at hl 3 rfl) ?_
        exact ret _ _ _ _ v3 (mr, mo, mf, mt, md, mc, mk) (vp_nar_int _) hw hP hD hS dX6_topOf_56
      · have hw := hwB cb
        refine lv_aload_n hx hb dX6_topOf_12 rfl (lv_at hl 0 rfl) ?_
        refine lv_iload hx hb dX6_topOf_13 (lv_at hl 4 rfl) ?_
        refine lv_iload_n hx hb dX6_topOf_15 rfl (lv_at hl 2 rfl) ?_
        refine cl_Vl (As := [.int v4, .int v2]) (rest := []) ⟨hx, hb, hml, hown, hts⟩ (c_X6_chainSet l D cI cJ cZ cO mA mAx mAy mAi mAr mAo mAc mAg mAe mAS mAp mx my mi mn mr mo mf mt md mc mk mg mh me mS mp v4 v2 _ hw) (cwV 2 hts gX6_topOf_X6_chainSet rfl rfl rfl hd_X6_chainSet ⟨Nat.le_trans (Nat.le_of_ble_eq_true rfl) hRf, Nat.le_trans (Nat.le_of_ble_eq_true rfl) hRl⟩) hK hP hD hS hA [0, 1, 2, 3, 4, 5, 6, 7, 8, 9, 10] [] rfl (by decide) rfl (by decide) (by decide) 0 5 rfl rfl rfl hl.1 rfl (Nat.le_of_ble_eq_true rfl) dX6_topOf_16 ⟨Nat.zero_le _, Nat.zero_le _⟩ (fun r16 u H locs hw hP hD hS => ?_)
        obtain ⟨mr_16, mo_16, mf_16, mt_16, md_16, mc_16, mk_16⟩ := u
        try dsimp only at hw
        have hP : va_P D vwCl [(mA, .inr (5, [.ref mAx, .ref mAy, .ref mAi, .int mn, .ref mAr, .ref mAo, .int mf_16, .int mt_16, .int md_16, .ref mAc, .int mk_16, .ref mAg, .int mh, .ref mAe, .ref mAS, .ref mAp])), (mAx, .inl (cI, 32, .inl mx)), (mAy, .inl (cI, 32, .inl my)), (mAi, .inl (cZ, 32, .inl mi)), (mAr, .inl (cI, 32, .inl mr_16)), (mAo, .inl (cI, 32, .inl mo_16)), (mAc, .inl (cI, 34, .inl mc_16)), (mAg, .inl (cI, 34, .inl mg)), (mAe, .inl (cI, 128, .inl me)), (mAS, .inl (cJ, 2, .inr (.inl mS))), (mAp, .inl (cZ, 2, .inl mp))] H := hP.sub [0, 1, 2, 3, 4, 5, 6, 7, 8, 9, 10] rfl
        have hD : va_D A [(mA, .inr (5, [.ref mAx, .ref mAy, .ref mAi, .int mn, .ref mAr, .ref mAo, .int mf_16, .int mt_16, .int md_16, .ref mAc, .int mk_16, .ref mAg, .int mh, .ref mAe, .ref mAS, .ref mAp])), (mAx, .inl (cI, 32, .inl mx)), (mAy, .inl (cI, 32, .inl my)), (mAi, .inl (cZ, 32, .inl mi)), (mAr, .inl (cI, 32, .inl mr_16)), (mAo, .inl (cI, 32, .inl mo_16)), (mAc, .inl (cI, 34, .inl mc_16)), (mAg, .inl (cI, 34, .inl mg)), (mAe, .inl (cI, 128, .inl me)), (mAS, .inl (cJ, 2, .inr (.inl mS))), (mAp, .inl (cZ, 2, .inl mp))] := hD.sub [0, 1, 2, 3, 4, 5, 6, 7, 8, 9, 10] (by decide) rfl
        refine lv_iload_n hx hb dX6_topOf_19 rfl (lv_at hl 1 rfl) ?_
        refine lv_lshr hx hb dX6_topOf_20 rfl ?_
        refine lv_lconst (v := 1) hx hb dX6_topOf_21 (by decide) ?_
        refine lv_land hx hb dX6_topOf_22 ?_
        refine lv_lconst (v := 1) hx hb dX6_topOf_23 (by decide) ?_
        refine W.lcmp hx hb dX6_topOf_24 ?_
        obtain ⟨hwA, hwB⟩ := hw
        refine lv_if_ne (tgt := 49) hx hb dX6_topOf_25 (by decide) (fun cb => ?_) (fun cb => ?_)
        · have hw := hwA ((cq_ne _ _).mp cb)
          refine lv_iinc (v := (v4 + (-1))) (lv' := [(4, .int (v4 + (-1))), (0, .ref mA), (1, .int v1), (2, .int v2), (3, .int v3)]) hx hb dX6_topOf_49 hl (k := 4) rfl rfl (by decide) rfl (fun ls hl => ?_)
          refine lv_goto (tgt := 7) hx hb dX6_topOf_52 (by decide) ?_
          exact ih7 mr_16 mo_16 mf_16 mt_16 md_16 mc_16 mk_16 v3 (v4 + (-1)) hw _ _ _ hP hD hS (lv_sub hl [1, 2, 3, 4, 0] rfl)
        · have hw := hwB ((cq_eq _ _).mp cb)
          refine lv_iload_n hx hb dX6_topOf_28 rfl (lv_at hl 3 rfl) ?_
          obtain ⟨hwA, hwB⟩ := hw
          refine lv_if_lt (tgt := 40) hx hb dX6_topOf_29 (by decide) (fun cb => ?_) (fun cb => ?_)
          · have hw := hwA cb
            refine lv_aload_n hx hb dX6_topOf_40 rfl (lv_at hl 0 rfl) ?_
            refine va_get (D := D) (ci := 5) (v := .int md_16) (C := RX6) (T := TX6) (N := 16) hx hb hts in_X6_topOf_X6 hown hK hP 0 rfl rfl 8 (by decide) (hts (.fieldLink RX6 72 "LiveHullModel" "depth" "I") (List.mem_of_getElem? (i := 1) rfl)) (fun _ h9 => h9) rfl dX6_topOf_41 ?_
            refine lv_goto (tgt := 48) hx hb dX6_topOf_44 (by decide) ?_
            refine lv_istore_n (lv' := [(3, .int md_16), (0, .ref mA), (1, .int v1), (2, .int v2), (4, .int v4)]) hx hb dX6_topOf_48 rfl hl (by decide) rfl (fun ls hl => ?_)
            refine lv_iinc (v := (v4 + (-1))) (lv' := [(4, .int (v4 + (-1))), (3, .int md_16), (0, .ref mA), (1, .int v1), (2, .int v2)]) hx hb dX6_topOf_49 hl (k := 4) rfl rfl (by decide) rfl (fun ls hl => ?_)
            refine lv_goto (tgt := 7) hx hb dX6_topOf_52 (by decide) ?_
            exact ih7 mr_16 mo_16 mf_16 mt_16 md_16 mc_16 mk_16 md_16 (v4 + (-1)) hw _ _ _ hP hD hS (lv_sub hl [2, 3, 4, 1, 0] rfl)
          · have hw := hwB cb
            refine lv_aload_n hx hb dX6_topOf_32 rfl (lv_at hl 0 rfl) ?_
            refine va_get (D := D) (ci := 5) (v := .int md_16) (C := RX6) (T := TX6) (N := 16) hx hb hts in_X6_topOf_X6 hown hK hP 0 rfl rfl 8 (by decide) (hts (.fieldLink RX6 72 "LiveHullModel" "depth" "I") (List.mem_of_getElem? (i := 1) rfl)) (fun _ h9 => h9) rfl dX6_topOf_33 ?_
            refine lv_iload_n hx hb dX6_topOf_36 rfl (lv_at hl 3 rfl) ?_
            obtain ⟨hwA, hwB⟩ := hw
            refine lv_icmp_ge (tgt := 47) hx hb dX6_topOf_37 (by decide) (fun cb => ?_) (fun cb => ?_)
            · have hw := hwA cb
              refine lv_iload_n hx hb dX6_topOf_47 rfl (lv_at hl 3 rfl) ?_
              refine lv_istore_n (lv' := [(3, .int v3), (0, .ref mA), (1, .int v1), (2, .int v2), (4, .int v4)]) hx hb dX6_topOf_48 rfl hl (by decide) rfl (fun ls hl => ?_)
              refine lv_iinc (v := (v4 + (-1))) (lv' := [(4, .int (v4 + (-1))), (3, .int v3), (0, .ref mA), (1, .int v1), (2, .int v2)]) hx hb dX6_topOf_49 hl (k := 4) rfl rfl (by decide) rfl (fun ls hl => ?_)
              refine lv_goto (tgt := 7) hx hb dX6_topOf_52 (by decide) ?_
              exact ih7 mr_16 mo_16 mf_16 mt_16 md_16 mc_16 mk_16 v3 (v4 + (-1)) hw _ _ _ hP hD hS (lv_sub hl [2, 3, 4, 1, 0] rfl)
            · have hw := hwB cb
              refine lv_aload_n hx hb dX6_topOf_40 rfl (lv_at hl 0 rfl) ?_
              refine va_get (D := D) (ci := 5) (v := .int md_16) (C := RX6) (T := TX6) (N := 16) hx hb hts in_X6_topOf_X6 hown hK hP 0 rfl rfl 8 (by decide) (hts (.fieldLink RX6 72 "LiveHullModel" "depth" "I") (List.mem_of_getElem? (i := 1) rfl)) (fun _ h9 => h9) rfl dX6_topOf_41 ?_
              refine lv_goto (tgt := 48) hx hb dX6_topOf_44 (by decide) ?_
              refine lv_istore_n (lv' := [(3, .int md_16), (0, .ref mA), (1, .int v1), (2, .int v2), (4, .int v4)]) hx hb dX6_topOf_48 rfl hl (by decide) rfl (fun ls hl => ?_)
              refine lv_iinc (v := (v4 + (-1))) (lv' := [(4, .int (v4 + (-1))), (3, .int md_16), (0, .ref mA), (1, .int v1), (2, .int v2)]) hx hb dX6_topOf_49 hl (k := 4) rfl rfl (by decide) rfl (fun ls hl => ?_)
              refine lv_goto (tgt := 7) hx hb dX6_topOf_52 (by decide) ?_
              exact ih7 mr_16 mo_16 mf_16 mt_16 md_16 mc_16 mk_16 md_16 (v4 + (-1)) hw _ _ _ hP hD hS (lv_sub hl [2, 3, 4, 1, 0] rfl)
  unfold wp_X6_topOf at hw
  refine lv_bipush (v := (-6)) hx hb dX6_topOf_0 (by decide) ?_
  refine lv_istore_n (lv' := [(3, .int (-6)), (0, .ref mA), (1, .int v1), (2, .int v2)]) hx hb dX6_topOf_2 rfl hl (by decide) rfl (fun ls hl => ?_)
  refine lv_bipush (v := 63) hx hb dX6_topOf_3 (by decide) ?_
  refine lv_istore (lv' := [(4, .int 63), (3, .int (-6)), (0, .ref mA), (1, .int v1), (2, .int v2)]) hx hb dX6_topOf_5 hl (by decide) rfl (fun ls hl => ?_)
  obtain ⟨k, hw⟩ := hw
  exact N7  k mr mo mf mt md mc mk (-6) 63 hw _ _ _ hP hD hS (lv_sub hl [2, 3, 4, 1, 0] rfl)
theorem in_X6_point_X6 : ∀ w ∈ wsX60, w ∈ wsX6_point := fun _ h => List.mem_cons_of_mem _ (List.mem_append_right _ h)
theorem hd_X6_point : yX6_point.cls = RX6 ∧ yX6_point.cls ≠ "java/lang/invoke/MethodHandle" ∧ yX6_point.cls ≠ "java/lang/invoke/VarHandle" ∧ (parseMethodDescriptor yX6_point.desc).map (fun d => d.parameters.length) = some 2 := by decide +kernel
set_option maxHeartbeats 8000000 in
set_option maxRecDepth 100000 in
theorem c_X6_point (l : Launch) (D : va_G) (cI cJ cZ cO : ClassId) (mA mAx mAy mAi mAr mAo mAc mAg mAe mAS mAp : Nat) (mx : Nat → Int32) (my : Nat → Int32) (mi : Nat → Int32) (mn : Int32) (mr : Nat → Int32) (mo : Nat → Int32) (mf : Int32) (mt : Int32) (md : Int32) (mc : Nat → Int32) (mk : Int32) (mg : Nat → Int32) (mh : Int32) (me : Nat → Int32) (mS : Nat → Int64) (mp : Nat → Int32) (v1 : Int32) (v2 : Int32) (K : Int32 → (Nat → Int32) → (Nat → Int32) → Int32 → Int32 → Int32 → (Nat → Int32) → Int32 → Prop) (hw : wp_X6_point mx my mi mn mr mo mf mt md mc mk v1 v2 K) : Ci l D (tys4 cI cJ cZ cO) yX6_point wsX6_point { frames := 5, cells := 0, slots := 0, locals := 124 } [.ref mA, .int v1, .int v2] [(mA, .inr (5, [.ref mAx, .ref mAy, .ref mAi, .int mn, .ref mAr, .ref mAo, .int mf, .int mt, .int md, .ref mAc, .int mk, .ref mAg, .int mh, .ref mAe, .ref mAS, .ref mAp])), (mAx, .inl (cI, 32, .inl mx)), (mAy, .inl (cI, 32, .inl my)), (mAi, .inl (cZ, 32, .inl mi)), (mAr, .inl (cI, 32, .inl mr)), (mAo, .inl (cI, 32, .inl mo)), (mAc, .inl (cI, 34, .inl mc)), (mAg, .inl (cI, 34, .inl mg)), (mAe, .inl (cI, 128, .inl me)), (mAS, .inl (cJ, 2, .inr (.inl mS))), (mAp, .inl (cZ, 2, .inl mp))] (fun (r : Int32) (u : (Nat → Int32) × (Nat → Int32) × (Int32) × (Int32) × (Int32) × (Nat → Int32) × (Int32)) => K r u.1 u.2.1 u.2.2.1 u.2.2.2.1 u.2.2.2.2.1 u.2.2.2.2.2.1 u.2.2.2.2.2.2) (fun u => [(mA, .inr (5, [.ref mAx, .ref mAy, .ref mAi, .int mn, .ref mAr, .ref mAo, .int u.2.2.1, .int u.2.2.2.1, .int u.2.2.2.2.1, .ref mAc, .int u.2.2.2.2.2.2, .ref mAg, .int mh, .ref mAe, .ref mAS, .ref mAp])), (mAx, .inl (cI, 32, .inl mx)), (mAy, .inl (cI, 32, .inl my)), (mAi, .inl (cZ, 32, .inl mi)), (mAr, .inl (cI, 32, .inl u.1)), (mAo, .inl (cI, 32, .inl u.2.1)), (mAc, .inl (cI, 34, .inl u.2.2.2.2.2.1)), (mAg, .inl (cI, 34, .inl mg)), (mAe, .inl (cI, 128, .inl me)), (mAS, .inl (cJ, 2, .inr (.inl mS))), (mAp, .inl (cZ, 2, .inl mp))]) := by
  refine mt_i (cc := cX6_point) (maxL := 3) (rt := .int) (by decide) rfl (Nat.le_of_ble_eq_true rfl) ?_
  intro p e s m args below meth c Q A R ls hRf hRl hx hb hml hown hts hK hA hP hD hS hl ret
  have hown : s.vm.findClass RX6 = some m.cls := hown
  have hl : lv_has ls 3 [(0, .ref mA), (1, .int v1), (2, .int v2)] := hl
  unfold wp_X6_point at hw
  refine lv_aload_n hx hb dX6_point_0 rfl (lv_at hl 0 rfl) ?_
  refine lv_iload_n hx hb dX6_point_1 rfl (lv_at hl 1 rfl) ?_
  refine cl_Vi (As := [.int v1]) (rest := []) ⟨hx, hb, hml, hown, hts⟩ (c_X6_isPoint l D cI cJ cZ cO mA mAx mAy mAi mAr mAo mAc mAg mAe mAS mAp mx my mi mn mr mo mf mt md mc mk mg mh me mS mp v1 _ hw) (cwV 1 hts gX6_point_X6_isPoint rfl rfl rfl hd_X6_isPoint ⟨Nat.le_trans (Nat.le_of_ble_eq_true rfl) hRf, Nat.le_trans (Nat.le_of_ble_eq_true rfl) hRl⟩) hK hP hD hS hA [0, 1, 2, 3, 4, 5, 6, 7, 8, 9, 10] [] rfl (by decide) rfl (by decide) (by decide) 0 5 rfl rfl rfl hl.1 rfl (Nat.le_of_ble_eq_true rfl) dX6_point_2 ⟨Nat.zero_le _, Nat.zero_le _⟩ (fun r2 _u H locs hw hP hD hS => ?_)
  try dsimp only at hw
  have hP : va_P D vwCl [(mA, .inr (5, [.ref mAx, .ref mAy, .ref mAi, .int mn, .ref mAr, .ref mAo, .int mf, .int mt, .int md, .ref mAc, .int mk, .ref mAg, .int mh, .ref mAe, .ref mAS, .ref mAp])), (mAx, .inl (cI, 32, .inl mx)), (mAy, .inl (cI, 32, .inl my)), (mAi, .inl (cZ, 32, .inl mi)), (mAr, .inl (cI, 32, .inl mr)), (mAo, .inl (cI, 32, .inl mo)), (mAc, .inl (cI, 34, .inl mc)), (mAg, .inl (cI, 34, .inl mg)), (mAe, .inl (cI, 128, .inl me)), (mAS, .inl (cJ, 2, .inr (.inl mS))), (mAp, .inl (cZ, 2, .inl mp))] H := hP.sub [0, 1, 2, 3, 4, 5, 6, 7, 8, 9, 10] rfl
  have hD : va_D A [(mA, .inr (5, [.ref mAx, .ref mAy, .ref mAi, .int mn, .ref mAr, .ref mAo, .int mf, .int mt, .int md, .ref mAc, .int mk, .ref mAg, .int mh, .ref mAe, .ref mAS, .ref mAp])), (mAx, .inl (cI, 32, .inl mx)), (mAy, .inl (cI, 32, .inl my)), (mAi, .inl (cZ, 32, .inl mi)), (mAr, .inl (cI, 32, .inl mr)), (mAo, .inl (cI, 32, .inl mo)), (mAc, .inl (cI, 34, .inl mc)), (mAg, .inl (cI, 34, .inl mg)), (mAe, .inl (cI, 128, .inl me)), (mAS, .inl (cJ, 2, .inr (.inl mS))), (mAp, .inl (cZ, 2, .inl mp))] := hD.sub [0, 1, 2, 3, 4, 5, 6, 7, 8, 9, 10] (by decide) rfl
  obtain ⟨hwA, hwB⟩ := hw
  refine lv_if_ne (tgt := 10) hx hb dX6_point_5 (by decide) (fun cb => ?_) (fun cb => ?_)
  · have hw := hwA cb
    refine lv_aload_n hx hb dX6_point_10 rfl (lv_at hl 0 rfl) ?_
    refine cl_Vv (As := []) (rest := []) ⟨hx, hb, hml, hown, hts⟩ (c_X6_layRanks l D cI cJ cZ cO mA mAx mAy mAi mAr mAo mAc mAg mAe mAS mAp mx my mi mn mr mo mf mt md mc mk mg mh me mS mp  _ hw) (cwV 0 hts gX6_point_X6_layRanks rfl rfl rfl hd_X6_layRanks ⟨Nat.le_trans (Nat.le_of_ble_eq_true rfl) hRf, Nat.le_trans (Nat.le_of_ble_eq_true rfl) hRl⟩) hK hP hD hS hA [0, 1, 2, 3, 4, 5, 6, 7, 8, 9, 10] [] rfl (by decide) rfl (by decide) (by decide) 0 5 rfl rfl rfl hl.1 rfl (Nat.le_of_ble_eq_true rfl) dX6_point_11 ⟨Nat.zero_le _, Nat.zero_le _⟩ (fun u H locs hw hP hD hS => ?_)
    obtain ⟨mr_11, mo_11⟩ := u
    try dsimp only at hw
    have hP : va_P D vwCl [(mA, .inr (5, [.ref mAx, .ref mAy, .ref mAi, .int mn, .ref mAr, .ref mAo, .int mf, .int mt, .int md, .ref mAc, .int mk, .ref mAg, .int mh, .ref mAe, .ref mAS, .ref mAp])), (mAx, .inl (cI, 32, .inl mx)), (mAy, .inl (cI, 32, .inl my)), (mAi, .inl (cZ, 32, .inl mi)), (mAr, .inl (cI, 32, .inl mr_11)), (mAo, .inl (cI, 32, .inl mo_11)), (mAc, .inl (cI, 34, .inl mc)), (mAg, .inl (cI, 34, .inl mg)), (mAe, .inl (cI, 128, .inl me)), (mAS, .inl (cJ, 2, .inr (.inl mS))), (mAp, .inl (cZ, 2, .inl mp))] H := hP.sub [0, 1, 2, 3, 4, 5, 6, 7, 8, 9, 10] rfl
    have hD : va_D A [(mA, .inr (5, [.ref mAx, .ref mAy, .ref mAi, .int mn, .ref mAr, .ref mAo, .int mf, .int mt, .int md, .ref mAc, .int mk, .ref mAg, .int mh, .ref mAe, .ref mAS, .ref mAp])), (mAx, .inl (cI, 32, .inl mx)), (mAy, .inl (cI, 32, .inl my)), (mAi, .inl (cZ, 32, .inl mi)), (mAr, .inl (cI, 32, .inl mr_11)), (mAo, .inl (cI, 32, .inl mo_11)), (mAc, .inl (cI, 34, .inl mc)), (mAg, .inl (cI, 34, .inl mg)), (mAe, .inl (cI, 128, .inl me)), (mAS, .inl (cJ, 2, .inr (.inl mS))), (mAp, .inl (cZ, 2, .inl mp))] := hD.sub [0, 1, 2, 3, 4, 5, 6, 7, 8, 9, 10] (by decide) rfl
    refine lv_iload_n hx hb dX6_point_14 rfl (lv_at hl 2 rfl) ?_
    obtain ⟨hwA, hwB⟩ := hw
    by_cases c0 : v2 = 0
    · have hw := hwA c0
      refine lv_tableIn (tgt := 48) hx hb dX6_point_15 (by rw [c0]; decide) (by rw [c0]; decide) (by rw [c0]; rfl) (by decide) ?_
      refine lv_aload_n hx hb dX6_point_48 rfl (lv_at hl 0 rfl) ?_
      refine va_get (D := D) (ci := 5) (v := .ref mAx) (C := RX6) (T := TX6) (N := 16) hx hb hts in_X6_point_X6 hown hK hP 0 rfl rfl 0 (by decide) (hts (.fieldLink RX6 7 "LiveHullModel" "xs" "[I") (List.mem_of_getElem? (i := 1) rfl)) (fun _ h9 => h9) rfl dX6_point_49 ?_
      refine lv_iload_n hx hb dX6_point_52 rfl (lv_at hl 1 rfl) ?_
      obtain ⟨hi, hw⟩ := hw
      refine va_iald hx hb hK hP 1 0 rfl rfl hi dX6_point_53 ?_
      exact ret _ _ _ _ (mx v1.toNatClampNeg) (mr_11, mo_11, mf, mt, md, mc, mk) (vp_nar_int _) hw hP hD hS dX6_point_54
    · have hw := hwB c0
      obtain ⟨hwA, hwB⟩ := hw
      by_cases c1 : v2 = 1
      · have hw := hwA c1
        refine lv_tableIn (tgt := 55) hx hb dX6_point_15 (by rw [c1]; decide) (by rw [c1]; decide) (by rw [c1]; rfl) (by decide) ?_
        refine lv_aload_n hx hb dX6_point_55 rfl (lv_at hl 0 rfl) ?_
        refine va_get (D := D) (ci := 5) (v := .ref mAy) (C := RX6) (T := TX6) (N := 16) hx hb hts in_X6_point_X6 hown hK hP 0 rfl rfl 1 (by decide) (hts (.fieldLink RX6 13 "LiveHullModel" "ys" "[I") (List.mem_of_getElem? (i := 2) rfl)) (fun _ h9 => h9) rfl dX6_point_56 ?_
        refine lv_iload_n hx hb dX6_point_59 rfl (lv_at hl 1 rfl) ?_
        obtain ⟨hi, hw⟩ := hw
        refine va_iald hx hb hK hP 2 0 rfl rfl hi dX6_point_60 ?_
        exact ret _ _ _ _ (my v1.toNatClampNeg) (mr_11, mo_11, mf, mt, md, mc, mk) (vp_nar_int _) hw hP hD hS dX6_point_61
      · have hw := hwB c1
        obtain ⟨hwA, hwB⟩ := hw
        by_cases c2 : v2 = 2
        · have hw := hwA c2
          refine lv_tableIn (tgt := 62) hx hb dX6_point_15 (by rw [c2]; decide) (by rw [c2]; decide) (by rw [c2]; rfl) (by decide) ?_
          refine lv_aload_n hx hb dX6_point_62 rfl (lv_at hl 0 rfl) ?_
          refine va_get (D := D) (ci := 5) (v := .ref mAo) (C := RX6) (T := TX6) (N := 16) hx hb hts in_X6_point_X6 hown hK hP 0 rfl rfl 5 (by decide) (hts (.fieldLink RX6 23 "LiveHullModel" "rankOf" "[I") (List.mem_of_getElem? (i := 3) rfl)) (fun _ h9 => h9) rfl dX6_point_63 ?_
          refine lv_iload_n hx hb dX6_point_66 rfl (lv_at hl 1 rfl) ?_
          obtain ⟨hi, hw⟩ := hw
          refine va_iald hx hb hK hP 5 0 rfl rfl hi dX6_point_67 ?_
          exact ret _ _ _ _ (mo_11 v1.toNatClampNeg) (mr_11, mo_11, mf, mt, md, mc, mk) (vp_nar_int _) hw hP hD hS dX6_point_68
        · have hw := hwB c2
          obtain ⟨hwA, hwB⟩ := hw
          by_cases c3 : v2 = 3
          · have hw := hwA c3
            refine lv_tableIn (tgt := 69) hx hb dX6_point_15 (by rw [c3]; decide) (by rw [c3]; decide) (by rw [c3]; rfl) (by decide) ?_
            refine lv_aload_n hx hb dX6_point_69 rfl (lv_at hl 0 rfl) ?_
            refine lv_iload_n hx hb dX6_point_70 rfl (lv_at hl 1 rfl) ?_
            refine lv_iconst (v := 0) hx hb dX6_point_71 (by decide) ?_
            refine cl_Vi (As := [.int v1, .int 0]) (rest := []) ⟨hx, hb, hml, hown, hts⟩ (c_X6_topOf l D cI cJ cZ cO mA mAx mAy mAi mAr mAo mAc mAg mAe mAS mAp mx my mi mn mr_11 mo_11 mf mt md mc mk mg mh me mS mp v1 0 _ hw) (cwV 2 hts gX6_point_X6_topOf rfl rfl rfl hd_X6_topOf ⟨Nat.le_trans (Nat.le_of_ble_eq_true rfl) hRf, Nat.le_trans (Nat.le_of_ble_eq_true rfl) hRl⟩) hK hP hD hS hA [0, 1, 2, 3, 4, 5, 6, 7, 8, 9, 10] [] rfl (by decide) rfl (by decide) (by decide) 0 5 rfl rfl rfl hl.1 rfl (Nat.le_of_ble_eq_true rfl) dX6_point_72 ⟨Nat.zero_le _, Nat.zero_le _⟩ (fun r72 u H locs hw hP hD hS => ?_)
            obtain ⟨mr_72, mo_72, mf_72, mt_72, md_72, mc_72, mk_72⟩ := u
            try dsimp only at hw
            have hP : va_P D vwCl [(mA, .inr (5, [.ref mAx, .ref mAy, .ref mAi, .int mn, .ref mAr, .ref mAo, .int mf_72, .int mt_72, .int md_72, .ref mAc, .int mk_72, .ref mAg, .int mh, .ref mAe, .ref mAS, .ref mAp])), (mAx, .inl (cI, 32, .inl mx)), (mAy, .inl (cI, 32, .inl my)), (mAi, .inl (cZ, 32, .inl mi)), (mAr, .inl (cI, 32, .inl mr_72)), (mAo, .inl (cI, 32, .inl mo_72)), (mAc, .inl (cI, 34, .inl mc_72)), (mAg, .inl (cI, 34, .inl mg)), (mAe, .inl (cI, 128, .inl me)), (mAS, .inl (cJ, 2, .inr (.inl mS))), (mAp, .inl (cZ, 2, .inl mp))] H := hP.sub [0, 1, 2, 3, 4, 5, 6, 7, 8, 9, 10] rfl
            have hD : va_D A [(mA, .inr (5, [.ref mAx, .ref mAy, .ref mAi, .int mn, .ref mAr, .ref mAo, .int mf_72, .int mt_72, .int md_72, .ref mAc, .int mk_72, .ref mAg, .int mh, .ref mAe, .ref mAS, .ref mAp])), (mAx, .inl (cI, 32, .inl mx)), (mAy, .inl (cI, 32, .inl my)), (mAi, .inl (cZ, 32, .inl mi)), (mAr, .inl (cI, 32, .inl mr_72)), (mAo, .inl (cI, 32, .inl mo_72)), (mAc, .inl (cI, 34, .inl mc_72)), (mAg, .inl (cI, 34, .inl mg)), (mAe, .inl (cI, 128, .inl me)), (mAS, .inl (cJ, 2, .inr (.inl mS))), (mAp, .inl (cZ, 2, .inl mp))] := hD.sub [0, 1, 2, 3, 4, 5, 6, 7, 8, 9, 10] (by decide) rfl
            exact ret _ _ _ _ r72 (mr_72, mo_72, mf_72, mt_72, md_72, mc_72, mk_72) (vp_nar_int _) hw hP hD hS dX6_point_75
          · have hw := hwB c3
            obtain ⟨hwA, hwB⟩ := hw
            by_cases c4 : v2 = 4
            · have hw := hwA c4
              refine lv_tableIn (tgt := 76) hx hb dX6_point_15 (by rw [c4]; decide) (by rw [c4]; decide) (by rw [c4]; rfl) (by decide) ?_
              refine lv_aload_n hx hb dX6_point_76 rfl (lv_at hl 0 rfl) ?_
              refine lv_iload_n hx hb dX6_point_77 rfl (lv_at hl 1 rfl) ?_
              refine lv_iconst (v := 1) hx hb dX6_point_78 (by decide) ?_
              refine cl_Vi (As := [.int v1, .int 1]) (rest := []) ⟨hx, hb, hml, hown, hts⟩ (c_X6_topOf l D cI cJ cZ cO mA mAx mAy mAi mAr mAo mAc mAg mAe mAS mAp mx my mi mn mr_11 mo_11 mf mt md mc mk mg mh me mS mp v1 1 _ hw) (cwV 2 hts gX6_point_X6_topOf rfl rfl rfl hd_X6_topOf ⟨Nat.le_trans (Nat.le_of_ble_eq_true rfl) hRf, Nat.le_trans (Nat.le_of_ble_eq_true rfl) hRl⟩) hK hP hD hS hA [0, 1, 2, 3, 4, 5, 6, 7, 8, 9, 10] [] rfl (by decide) rfl (by decide) (by decide) 0 5 rfl rfl rfl hl.1 rfl (Nat.le_of_ble_eq_true rfl) dX6_point_79 ⟨Nat.zero_le _, Nat.zero_le _⟩ (fun r79 u H locs hw hP hD hS => ?_)
              obtain ⟨mr_79, mo_79, mf_79, mt_79, md_79, mc_79, mk_79⟩ := u
              try dsimp only at hw
              have hP : va_P D vwCl [(mA, .inr (5, [.ref mAx, .ref mAy, .ref mAi, .int mn, .ref mAr, .ref mAo, .int mf_79, .int mt_79, .int md_79, .ref mAc, .int mk_79, .ref mAg, .int mh, .ref mAe, .ref mAS, .ref mAp])), (mAx, .inl (cI, 32, .inl mx)), (mAy, .inl (cI, 32, .inl my)), (mAi, .inl (cZ, 32, .inl mi)), (mAr, .inl (cI, 32, .inl mr_79)), (mAo, .inl (cI, 32, .inl mo_79)), (mAc, .inl (cI, 34, .inl mc_79)), (mAg, .inl (cI, 34, .inl mg)), (mAe, .inl (cI, 128, .inl me)), (mAS, .inl (cJ, 2, .inr (.inl mS))), (mAp, .inl (cZ, 2, .inl mp))] H := hP.sub [0, 1, 2, 3, 4, 5, 6, 7, 8, 9, 10] rfl
              have hD : va_D A [(mA, .inr (5, [.ref mAx, .ref mAy, .ref mAi, .int mn, .ref mAr, .ref mAo, .int mf_79, .int mt_79, .int md_79, .ref mAc, .int mk_79, .ref mAg, .int mh, .ref mAe, .ref mAS, .ref mAp])), (mAx, .inl (cI, 32, .inl mx)), (mAy, .inl (cI, 32, .inl my)), (mAi, .inl (cZ, 32, .inl mi)), (mAr, .inl (cI, 32, .inl mr_79)), (mAo, .inl (cI, 32, .inl mo_79)), (mAc, .inl (cI, 34, .inl mc_79)), (mAg, .inl (cI, 34, .inl mg)), (mAe, .inl (cI, 128, .inl me)), (mAS, .inl (cJ, 2, .inr (.inl mS))), (mAp, .inl (cZ, 2, .inl mp))] := hD.sub [0, 1, 2, 3, 4, 5, 6, 7, 8, 9, 10] (by decide) rfl
              exact ret _ _ _ _ r79 (mr_79, mo_79, mf_79, mt_79, md_79, mc_79, mk_79) (vp_nar_int _) hw hP hD hS dX6_point_82
            · have hw := hwB c4
              refine lv_tableOut (tgt := 83) hx hb dX6_point_15 (by have z0 := lv_neT (a := 0) c0 (by decide); have z1 := lv_neT (a := 1) c1 (by decide); have z2 := lv_neT (a := 2) c2 (by decide); have z3 := lv_neT (a := 3) c3 (by decide); have z4 := lv_neT (a := 4) c4 (by decide); omega) (by decide) ?_
              refine lv_bipush (v := (-2)) hx hb dX6_point_83 (by decide) ?_
              exact ret _ _ _ _ (-2) (mr_11, mo_11, mf, mt, md, mc, mk) (vp_nar_int _) hw hP hD hS dX6_point_85
  · have hw := hwB cb
    refine lv_iconst (v := (-1)) hx hb dX6_point_8 (by decide) ?_
    exact ret _ _ _ _ (-1) (mr, mo, mf, mt, md, mc, mk) (vp_nar_int _) hw hP hD hS dX6_point_9
theorem in_X6_ranked_X6 : ∀ w ∈ wsX60, w ∈ wsX6_ranked := fun _ h => List.mem_cons_of_mem _ (List.mem_append_right _ h)
theorem hd_X6_ranked : yX6_ranked.cls = RX6 ∧ yX6_ranked.cls ≠ "java/lang/invoke/MethodHandle" ∧ yX6_ranked.cls ≠ "java/lang/invoke/VarHandle" ∧ (parseMethodDescriptor yX6_ranked.desc).map (fun d => d.parameters.length) = some 1 := by decide +kernel
set_option maxHeartbeats 8000000 in
set_option maxRecDepth 100000 in
theorem c_X6_ranked (l : Launch) (D : va_G) (cI cJ cZ cO : ClassId) (mA mAx mAy mAi mAr mAo mAc mAg mAe mAS mAp : Nat) (mx : Nat → Int32) (my : Nat → Int32) (mi : Nat → Int32) (mn : Int32) (mr : Nat → Int32) (mo : Nat → Int32) (mf : Int32) (mt : Int32) (md : Int32) (mc : Nat → Int32) (mk : Int32) (mg : Nat → Int32) (mh : Int32) (me : Nat → Int32) (mS : Nat → Int64) (mp : Nat → Int32) (v1 : Int32) (K : Int32 → (Nat → Int32) → (Nat → Int32) → Prop) (hw : wp_X6_ranked mx my mi mn mr mo v1 K) : Ci l D (tys4 cI cJ cZ cO) yX6_ranked wsX6_ranked { frames := 1, cells := 0, slots := 0, locals := 23 } [.ref mA, .int v1] [(mA, .inr (5, [.ref mAx, .ref mAy, .ref mAi, .int mn, .ref mAr, .ref mAo, .int mf, .int mt, .int md, .ref mAc, .int mk, .ref mAg, .int mh, .ref mAe, .ref mAS, .ref mAp])), (mAx, .inl (cI, 32, .inl mx)), (mAy, .inl (cI, 32, .inl my)), (mAi, .inl (cZ, 32, .inl mi)), (mAr, .inl (cI, 32, .inl mr)), (mAo, .inl (cI, 32, .inl mo)), (mAc, .inl (cI, 34, .inl mc)), (mAg, .inl (cI, 34, .inl mg)), (mAe, .inl (cI, 128, .inl me)), (mAS, .inl (cJ, 2, .inr (.inl mS))), (mAp, .inl (cZ, 2, .inl mp))] (fun (r : Int32) (u : (Nat → Int32) × (Nat → Int32)) => K r u.1 u.2) (fun u => [(mA, .inr (5, [.ref mAx, .ref mAy, .ref mAi, .int mn, .ref mAr, .ref mAo, .int mf, .int mt, .int md, .ref mAc, .int mk, .ref mAg, .int mh, .ref mAe, .ref mAS, .ref mAp])), (mAx, .inl (cI, 32, .inl mx)), (mAy, .inl (cI, 32, .inl my)), (mAi, .inl (cZ, 32, .inl mi)), (mAr, .inl (cI, 32, .inl u.1)), (mAo, .inl (cI, 32, .inl u.2)), (mAc, .inl (cI, 34, .inl mc)), (mAg, .inl (cI, 34, .inl mg)), (mAe, .inl (cI, 128, .inl me)), (mAS, .inl (cJ, 2, .inr (.inl mS))), (mAp, .inl (cZ, 2, .inl mp))]) := by
  refine mt_i (cc := cX6_ranked) (maxL := 2) (rt := .int) (by decide) rfl (Nat.le_of_ble_eq_true rfl) ?_
  intro p e s m args below meth c Q A R ls hRf hRl hx hb hml hown hts hK hA hP hD hS hl ret
  have hown : s.vm.findClass RX6 = some m.cls := hown
  have hl : lv_has ls 2 [(0, .ref mA), (1, .int v1)] := hl
  unfold wp_X6_ranked at hw
  refine lv_aload_n hx hb dX6_ranked_0 rfl (lv_at hl 0 rfl) ?_
  refine cl_Vv (As := []) (rest := []) ⟨hx, hb, hml, hown, hts⟩ (c_X6_layRanks l D cI cJ cZ cO mA mAx mAy mAi mAr mAo mAc mAg mAe mAS mAp mx my mi mn mr mo mf mt md mc mk mg mh me mS mp  _ hw) (cwV 0 hts gX6_ranked_X6_layRanks rfl rfl rfl hd_X6_layRanks ⟨Nat.le_trans (Nat.le_of_ble_eq_true rfl) hRf, Nat.le_trans (Nat.le_of_ble_eq_true rfl) hRl⟩) hK hP hD hS hA [0, 1, 2, 3, 4, 5, 6, 7, 8, 9, 10] [] rfl (by decide) rfl (by decide) (by decide) 0 5 rfl rfl rfl hl.1 rfl (Nat.le_of_ble_eq_true rfl) dX6_ranked_1 ⟨Nat.zero_le _, Nat.zero_le _⟩ (fun u H locs hw hP hD hS => ?_)
  obtain ⟨mr_1, mo_1⟩ := u
  try dsimp only at hw
  have hP : va_P D vwCl [(mA, .inr (5, [.ref mAx, .ref mAy, .ref mAi, .int mn, .ref mAr, .ref mAo, .int mf, .int mt, .int md, .ref mAc, .int mk, .ref mAg, .int mh, .ref mAe, .ref mAS, .ref mAp])), (mAx, .inl (cI, 32, .inl mx)), (mAy, .inl (cI, 32, .inl my)), (mAi, .inl (cZ, 32, .inl mi)), (mAr, .inl (cI, 32, .inl mr_1)), (mAo, .inl (cI, 32, .inl mo_1)), (mAc, .inl (cI, 34, .inl mc)), (mAg, .inl (cI, 34, .inl mg)), (mAe, .inl (cI, 128, .inl me)), (mAS, .inl (cJ, 2, .inr (.inl mS))), (mAp, .inl (cZ, 2, .inl mp))] H := hP.sub [0, 1, 2, 3, 4, 5, 6, 7, 8, 9, 10] rfl
  have hD : va_D A [(mA, .inr (5, [.ref mAx, .ref mAy, .ref mAi, .int mn, .ref mAr, .ref mAo, .int mf, .int mt, .int md, .ref mAc, .int mk, .ref mAg, .int mh, .ref mAe, .ref mAS, .ref mAp])), (mAx, .inl (cI, 32, .inl mx)), (mAy, .inl (cI, 32, .inl my)), (mAi, .inl (cZ, 32, .inl mi)), (mAr, .inl (cI, 32, .inl mr_1)), (mAo, .inl (cI, 32, .inl mo_1)), (mAc, .inl (cI, 34, .inl mc)), (mAg, .inl (cI, 34, .inl mg)), (mAe, .inl (cI, 128, .inl me)), (mAS, .inl (cJ, 2, .inr (.inl mS))), (mAp, .inl (cZ, 2, .inl mp))] := hD.sub [0, 1, 2, 3, 4, 5, 6, 7, 8, 9, 10] (by decide) rfl
  refine lv_iload_n hx hb dX6_ranked_4 rfl (lv_at hl 1 rfl) ?_
  refine lv_iconst (v := 0) hx hb dX6_ranked_5 (by decide) ?_
  refine lv_aload_n hx hb dX6_ranked_6 rfl (lv_at hl 0 rfl) ?_
  refine va_get (D := D) (ci := 5) (v := .int mn) (C := RX6) (T := TX6) (N := 16) hx hb hts in_X6_ranked_X6 hown hK hP 0 rfl rfl 3 (by decide) (hts (.fieldLink RX6 55 "LiveHullModel" "many" "I") (List.mem_of_getElem? (i := 1) rfl)) (fun _ h9 => h9) rfl dX6_ranked_7 ?_
  refine lv_iconst (v := 1) hx hb dX6_ranked_10 (by decide) ?_
  refine lv_isub hx hb dX6_ranked_11 ?_
  refine cl_Si (As := [.int v1, .int 0, .int (mn - 1)]) (rest := []) ⟨hx, hb, hml, hown, hts⟩ (c_X6_in l D cI cJ cZ cO   v1 0 (mn - 1) _ hw) (va_cwS 3 hts gX6_ranked_X6_in rfl rfl rfl hd_X6_in.2 ⟨Nat.le_trans (Nat.le_of_ble_eq_true rfl) hRf, Nat.le_trans (Nat.le_of_ble_eq_true rfl) hRl⟩) hK hP hD hS hA [] [0, 1, 2, 3, 4, 5, 6, 7, 8, 9, 10] rfl (by decide) rfl (by decide) (by decide) rfl hl.1 rfl (Nat.le_of_ble_eq_true rfl) dX6_ranked_12 ⟨Nat.zero_le _, Nat.zero_le _⟩ (fun r12 _u H locs hw hP hD hS => ?_)
  try dsimp only at hw
  have hP : va_P D vwCl [(mA, .inr (5, [.ref mAx, .ref mAy, .ref mAi, .int mn, .ref mAr, .ref mAo, .int mf, .int mt, .int md, .ref mAc, .int mk, .ref mAg, .int mh, .ref mAe, .ref mAS, .ref mAp])), (mAx, .inl (cI, 32, .inl mx)), (mAy, .inl (cI, 32, .inl my)), (mAi, .inl (cZ, 32, .inl mi)), (mAr, .inl (cI, 32, .inl mr_1)), (mAo, .inl (cI, 32, .inl mo_1)), (mAc, .inl (cI, 34, .inl mc)), (mAg, .inl (cI, 34, .inl mg)), (mAe, .inl (cI, 128, .inl me)), (mAS, .inl (cJ, 2, .inr (.inl mS))), (mAp, .inl (cZ, 2, .inl mp))] H := hP.sub [0, 1, 2, 3, 4, 5, 6, 7, 8, 9, 10] rfl
  have hD : va_D A [(mA, .inr (5, [.ref mAx, .ref mAy, .ref mAi, .int mn, .ref mAr, .ref mAo, .int mf, .int mt, .int md, .ref mAc, .int mk, .ref mAg, .int mh, .ref mAe, .ref mAS, .ref mAp])), (mAx, .inl (cI, 32, .inl mx)), (mAy, .inl (cI, 32, .inl my)), (mAi, .inl (cZ, 32, .inl mi)), (mAr, .inl (cI, 32, .inl mr_1)), (mAo, .inl (cI, 32, .inl mo_1)), (mAc, .inl (cI, 34, .inl mc)), (mAg, .inl (cI, 34, .inl mg)), (mAe, .inl (cI, 128, .inl me)), (mAS, .inl (cJ, 2, .inr (.inl mS))), (mAp, .inl (cZ, 2, .inl mp))] := hD.sub [0, 1, 2, 3, 4, 5, 6, 7, 8, 9, 10] (by decide) rfl
  obtain ⟨hwA, hwB⟩ := hw
  refine lv_if_eq (tgt := 27) hx hb dX6_ranked_15 (by decide) (fun cb => ?_) (fun cb => ?_)
  · have hw := hwA cb
    refine lv_bipush (v := (-6)) hx hb dX6_ranked_27 (by decide) ?_
    exact ret _ _ _ _ (-6) (mr_1, mo_1) (vp_nar_int _) hw hP hD hS dX6_ranked_29
  · have hw := hwB cb
    refine lv_aload_n hx hb dX6_ranked_18 rfl (lv_at hl 0 rfl) ?_
    refine va_get (D := D) (ci := 5) (v := .ref mAr) (C := RX6) (T := TX6) (N := 16) hx hb hts in_X6_ranked_X6 hown hK hP 0 rfl rfl 4 (by decide) (hts (.fieldLink RX6 20 "LiveHullModel" "ranks" "[I") (List.mem_of_getElem? (i := 2) rfl)) (fun _ h9 => h9) rfl dX6_ranked_19 ?_
    refine lv_iload_n hx hb dX6_ranked_22 rfl (lv_at hl 1 rfl) ?_
    obtain ⟨hi, hw⟩ := hw
    refine va_iald hx hb hK hP 4 0 rfl rfl hi dX6_ranked_23 ?_
    refine lv_goto (tgt := 29) hx hb dX6_ranked_24 (by decide) ?_
    exact ret _ _ _ _ (mr_1 v1.toNatClampNeg) (mr_1, mo_1) (vp_nar_int _) hw hP hD hS dX6_ranked_29
theorem in_X6_part_X6 : ∀ w ∈ wsX60, w ∈ wsX6_part := fun _ h => List.mem_cons_of_mem _ (List.mem_append_right _ h)
theorem hd_X6_part : yX6_part.cls = RX6 ∧ yX6_part.cls ≠ "java/lang/invoke/MethodHandle" ∧ yX6_part.cls ≠ "java/lang/invoke/VarHandle" ∧ (parseMethodDescriptor yX6_part.desc).map (fun d => d.parameters.length) = some 2 := by decide +kernel
set_option maxHeartbeats 8000000 in
set_option maxRecDepth 100000 in
theorem c_X6_part (l : Launch) (D : va_G) (cI cJ cZ cO : ClassId) (mA mAx mAy mAi mAr mAo mAc mAg mAe mAS mAp : Nat) (mx : Nat → Int32) (my : Nat → Int32) (mi : Nat → Int32) (mn : Int32) (mr : Nat → Int32) (mo : Nat → Int32) (mf : Int32) (mt : Int32) (md : Int32) (mc : Nat → Int32) (mk : Int32) (mg : Nat → Int32) (mh : Int32) (me : Nat → Int32) (mS : Nat → Int64) (mp : Nat → Int32) (v1 : Int32) (v2 : Int32) (K : Int32 → (Nat → Int32) → (Nat → Int32) → Int32 → Int32 → Int32 → (Nat → Int32) → Int32 → Prop) (hw : wp_X6_part mx my mi mn mr mo mf mt md mc mk v1 v2 K) : Ci l D (tys4 cI cJ cZ cO) yX6_part wsX6_part { frames := 5, cells := 0, slots := 0, locals := 122 } [.ref mA, .int v1, .int v2] [(mA, .inr (5, [.ref mAx, .ref mAy, .ref mAi, .int mn, .ref mAr, .ref mAo, .int mf, .int mt, .int md, .ref mAc, .int mk, .ref mAg, .int mh, .ref mAe, .ref mAS, .ref mAp])), (mAx, .inl (cI, 32, .inl mx)), (mAy, .inl (cI, 32, .inl my)), (mAi, .inl (cZ, 32, .inl mi)), (mAr, .inl (cI, 32, .inl mr)), (mAo, .inl (cI, 32, .inl mo)), (mAc, .inl (cI, 34, .inl mc)), (mAg, .inl (cI, 34, .inl mg)), (mAe, .inl (cI, 128, .inl me)), (mAS, .inl (cJ, 2, .inr (.inl mS))), (mAp, .inl (cZ, 2, .inl mp))] (fun (r : Int32) (u : (Nat → Int32) × (Nat → Int32) × (Int32) × (Int32) × (Int32) × (Nat → Int32) × (Int32)) => K r u.1 u.2.1 u.2.2.1 u.2.2.2.1 u.2.2.2.2.1 u.2.2.2.2.2.1 u.2.2.2.2.2.2) (fun u => [(mA, .inr (5, [.ref mAx, .ref mAy, .ref mAi, .int mn, .ref mAr, .ref mAo, .int u.2.2.1, .int u.2.2.2.1, .int u.2.2.2.2.1, .ref mAc, .int u.2.2.2.2.2.2, .ref mAg, .int mh, .ref mAe, .ref mAS, .ref mAp])), (mAx, .inl (cI, 32, .inl mx)), (mAy, .inl (cI, 32, .inl my)), (mAi, .inl (cZ, 32, .inl mi)), (mAr, .inl (cI, 32, .inl u.1)), (mAo, .inl (cI, 32, .inl u.2.1)), (mAc, .inl (cI, 34, .inl u.2.2.2.2.2.1)), (mAg, .inl (cI, 34, .inl mg)), (mAe, .inl (cI, 128, .inl me)), (mAS, .inl (cJ, 2, .inr (.inl mS))), (mAp, .inl (cZ, 2, .inl mp))]) := by
  refine mt_i (cc := cX6_part) (maxL := 3) (rt := .int) (by decide) rfl (Nat.le_of_ble_eq_true rfl) ?_
  intro p e s m args below meth c Q A R ls hRf hRl hx hb hml hown hts hK hA hP hD hS hl ret
  have hown : s.vm.findClass RX6 = some m.cls := hown
  have hl : lv_has ls 3 [(0, .ref mA), (1, .int v1), (2, .int v2)] := hl
  unfold wp_X6_part at hw
  refine lv_aload_n hx hb dX6_part_0 rfl (lv_at hl 0 rfl) ?_
  refine lv_iload_n hx hb dX6_part_1 rfl (lv_at hl 1 rfl) ?_
  refine cl_Vi (As := [.int v1]) (rest := []) ⟨hx, hb, hml, hown, hts⟩ (c_X6_layPart l D cI cJ cZ cO mA mAx mAy mAi mAr mAo mAc mAg mAe mAS mAp mx my mi mn mr mo mf mt md mc mk mg mh me mS mp v1 _ hw) (cwV 1 hts gX6_part_X6_layPart rfl rfl rfl hd_X6_layPart ⟨Nat.le_trans (Nat.le_of_ble_eq_true rfl) hRf, Nat.le_trans (Nat.le_of_ble_eq_true rfl) hRl⟩) hK hP hD hS hA [0, 1, 2, 3, 4, 5, 6, 7, 8, 9, 10] [] rfl (by decide) rfl (by decide) (by decide) 0 5 rfl rfl rfl hl.1 rfl (Nat.le_of_ble_eq_true rfl) dX6_part_2 ⟨Nat.zero_le _, Nat.zero_le _⟩ (fun r2 u H locs hw hP hD hS => ?_)
  obtain ⟨mr_2, mo_2, mf_2, mt_2, md_2⟩ := u
  try dsimp only at hw
  have hP : va_P D vwCl [(mA, .inr (5, [.ref mAx, .ref mAy, .ref mAi, .int mn, .ref mAr, .ref mAo, .int mf_2, .int mt_2, .int md_2, .ref mAc, .int mk, .ref mAg, .int mh, .ref mAe, .ref mAS, .ref mAp])), (mAx, .inl (cI, 32, .inl mx)), (mAy, .inl (cI, 32, .inl my)), (mAi, .inl (cZ, 32, .inl mi)), (mAr, .inl (cI, 32, .inl mr_2)), (mAo, .inl (cI, 32, .inl mo_2)), (mAc, .inl (cI, 34, .inl mc)), (mAg, .inl (cI, 34, .inl mg)), (mAe, .inl (cI, 128, .inl me)), (mAS, .inl (cJ, 2, .inr (.inl mS))), (mAp, .inl (cZ, 2, .inl mp))] H := hP.sub [0, 1, 2, 3, 4, 5, 6, 7, 8, 9, 10] rfl
  have hD : va_D A [(mA, .inr (5, [.ref mAx, .ref mAy, .ref mAi, .int mn, .ref mAr, .ref mAo, .int mf_2, .int mt_2, .int md_2, .ref mAc, .int mk, .ref mAg, .int mh, .ref mAe, .ref mAS, .ref mAp])), (mAx, .inl (cI, 32, .inl mx)), (mAy, .inl (cI, 32, .inl my)), (mAi, .inl (cZ, 32, .inl mi)), (mAr, .inl (cI, 32, .inl mr_2)), (mAo, .inl (cI, 32, .inl mo_2)), (mAc, .inl (cI, 34, .inl mc)), (mAg, .inl (cI, 34, .inl mg)), (mAe, .inl (cI, 128, .inl me)), (mAS, .inl (cJ, 2, .inr (.inl mS))), (mAp, .inl (cZ, 2, .inl mp))] := hD.sub [0, 1, 2, 3, 4, 5, 6, 7, 8, 9, 10] (by decide) rfl
  obtain ⟨hwA, hwB⟩ := hw
  refine lv_if_ne (tgt := 10) hx hb dX6_part_5 (by decide) (fun cb => ?_) (fun cb => ?_)
  · have hw := hwA cb
    refine lv_iload_n hx hb dX6_part_10 rfl (lv_at hl 2 rfl) ?_
    obtain ⟨hwA, hwB⟩ := hw
    by_cases c0 : v2 = 0
    · have hw := hwA c0
      refine lv_tableIn (tgt := 48) hx hb dX6_part_11 (by rw [c0]; decide) (by rw [c0]; decide) (by rw [c0]; rfl) (by decide) ?_
      refine lv_aload_n hx hb dX6_part_48 rfl (lv_at hl 0 rfl) ?_
      refine va_get (D := D) (ci := 5) (v := .int mt_2) (C := RX6) (T := TX6) (N := 16) hx hb hts in_X6_part_X6 hown hK hP 0 rfl rfl 7 (by decide) (hts (.fieldLink RX6 69 "LiveHullModel" "to" "I") (List.mem_of_getElem? (i := 1) rfl)) (fun _ h9 => h9) rfl dX6_part_49 ?_
      refine lv_aload_n hx hb dX6_part_52 rfl (lv_at hl 0 rfl) ?_
      refine va_get (D := D) (ci := 5) (v := .int mf_2) (C := RX6) (T := TX6) (N := 16) hx hb hts in_X6_part_X6 hown hK hP 0 rfl rfl 6 (by decide) (hts (.fieldLink RX6 66 "LiveHullModel" "from" "I") (List.mem_of_getElem? (i := 2) rfl)) (fun _ h9 => h9) rfl dX6_part_53 ?_
      refine lv_isub hx hb dX6_part_56 ?_
      exact ret _ _ _ _ (mt_2 - mf_2) (mr_2, mo_2, mf_2, mt_2, md_2, mc, mk) (vp_nar_int _) hw hP hD hS dX6_part_57
    · have hw := hwB c0
      obtain ⟨hwA, hwB⟩ := hw
      by_cases c1 : v2 = 1
      · have hw := hwA c1
        refine lv_tableIn (tgt := 58) hx hb dX6_part_11 (by rw [c1]; decide) (by rw [c1]; decide) (by rw [c1]; rfl) (by decide) ?_
        refine lv_aload_n hx hb dX6_part_58 rfl (lv_at hl 0 rfl) ?_
        refine va_get (D := D) (ci := 5) (v := .int mf_2) (C := RX6) (T := TX6) (N := 16) hx hb hts in_X6_part_X6 hown hK hP 0 rfl rfl 6 (by decide) (hts (.fieldLink RX6 66 "LiveHullModel" "from" "I") (List.mem_of_getElem? (i := 2) rfl)) (fun _ h9 => h9) rfl dX6_part_59 ?_
        exact ret _ _ _ _ mf_2 (mr_2, mo_2, mf_2, mt_2, md_2, mc, mk) (vp_nar_int _) hw hP hD hS dX6_part_62
      · have hw := hwB c1
        obtain ⟨hwA, hwB⟩ := hw
        by_cases c2 : v2 = 2
        · have hw := hwA c2
          refine lv_tableIn (tgt := 63) hx hb dX6_part_11 (by rw [c2]; decide) (by rw [c2]; decide) (by rw [c2]; rfl) (by decide) ?_
          refine lv_aload_n hx hb dX6_part_63 rfl (lv_at hl 0 rfl) ?_
          refine lv_iload_n hx hb dX6_part_64 rfl (lv_at hl 1 rfl) ?_
          refine lv_iconst (v := 0) hx hb dX6_part_65 (by decide) ?_
          refine cl_Vl (As := [.int v1, .int 0]) (rest := []) ⟨hx, hb, hml, hown, hts⟩ (c_X6_chainSet l D cI cJ cZ cO mA mAx mAy mAi mAr mAo mAc mAg mAe mAS mAp mx my mi mn mr_2 mo_2 mf_2 mt_2 md_2 mc mk mg mh me mS mp v1 0 _ hw) (cwV 2 hts gX6_part_X6_chainSet rfl rfl rfl hd_X6_chainSet ⟨Nat.le_trans (Nat.le_of_ble_eq_true rfl) hRf, Nat.le_trans (Nat.le_of_ble_eq_true rfl) hRl⟩) hK hP hD hS hA [0, 1, 2, 3, 4, 5, 6, 7, 8, 9, 10] [] rfl (by decide) rfl (by decide) (by decide) 0 5 rfl rfl rfl hl.1 rfl (Nat.le_of_ble_eq_true rfl) dX6_part_66 ⟨Nat.zero_le _, Nat.zero_le _⟩ (fun r66 u H locs hw hP hD hS => ?_)
          obtain ⟨mr_66, mo_66, mf_66, mt_66, md_66, mc_66, mk_66⟩ := u
          try dsimp only at hw
          have hP : va_P D vwCl [(mA, .inr (5, [.ref mAx, .ref mAy, .ref mAi, .int mn, .ref mAr, .ref mAo, .int mf_66, .int mt_66, .int md_66, .ref mAc, .int mk_66, .ref mAg, .int mh, .ref mAe, .ref mAS, .ref mAp])), (mAx, .inl (cI, 32, .inl mx)), (mAy, .inl (cI, 32, .inl my)), (mAi, .inl (cZ, 32, .inl mi)), (mAr, .inl (cI, 32, .inl mr_66)), (mAo, .inl (cI, 32, .inl mo_66)), (mAc, .inl (cI, 34, .inl mc_66)), (mAg, .inl (cI, 34, .inl mg)), (mAe, .inl (cI, 128, .inl me)), (mAS, .inl (cJ, 2, .inr (.inl mS))), (mAp, .inl (cZ, 2, .inl mp))] H := hP.sub [0, 1, 2, 3, 4, 5, 6, 7, 8, 9, 10] rfl
          have hD : va_D A [(mA, .inr (5, [.ref mAx, .ref mAy, .ref mAi, .int mn, .ref mAr, .ref mAo, .int mf_66, .int mt_66, .int md_66, .ref mAc, .int mk_66, .ref mAg, .int mh, .ref mAe, .ref mAS, .ref mAp])), (mAx, .inl (cI, 32, .inl mx)), (mAy, .inl (cI, 32, .inl my)), (mAi, .inl (cZ, 32, .inl mi)), (mAr, .inl (cI, 32, .inl mr_66)), (mAo, .inl (cI, 32, .inl mo_66)), (mAc, .inl (cI, 34, .inl mc_66)), (mAg, .inl (cI, 34, .inl mg)), (mAe, .inl (cI, 128, .inl me)), (mAS, .inl (cJ, 2, .inr (.inl mS))), (mAp, .inl (cZ, 2, .inl mp))] := hD.sub [0, 1, 2, 3, 4, 5, 6, 7, 8, 9, 10] (by decide) rfl
          refine cl_Si (As := [.long r66]) (rest := []) ⟨hx, hb, hml, hown, hts⟩ (c_X6_bits l D cI cJ cZ cO   r66 _ hw) (va_cwS 1 hts gX6_part_X6_bits rfl rfl rfl hd_X6_bits.2 ⟨Nat.le_trans (Nat.le_of_ble_eq_true rfl) hRf, Nat.le_trans (Nat.le_of_ble_eq_true rfl) hRl⟩) hK hP hD hS hA [] [0, 1, 2, 3, 4, 5, 6, 7, 8, 9, 10] rfl (by decide) rfl (by decide) (by decide) rfl hl.1 rfl (Nat.le_of_ble_eq_true rfl) dX6_part_69 ⟨Nat.zero_le _, Nat.zero_le _⟩ (fun r69 _u H locs hw hP hD hS => ?_)
          try dsimp only at hw
          have hP : va_P D vwCl [(mA, .inr (5, [.ref mAx, .ref mAy, .ref mAi, .int mn, .ref mAr, .ref mAo, .int mf_66, .int mt_66, .int md_66, .ref mAc, .int mk_66, .ref mAg, .int mh, .ref mAe, .ref mAS, .ref mAp])), (mAx, .inl (cI, 32, .inl mx)), (mAy, .inl (cI, 32, .inl my)), (mAi, .inl (cZ, 32, .inl mi)), (mAr, .inl (cI, 32, .inl mr_66)), (mAo, .inl (cI, 32, .inl mo_66)), (mAc, .inl (cI, 34, .inl mc_66)), (mAg, .inl (cI, 34, .inl mg)), (mAe, .inl (cI, 128, .inl me)), (mAS, .inl (cJ, 2, .inr (.inl mS))), (mAp, .inl (cZ, 2, .inl mp))] H := hP.sub [0, 1, 2, 3, 4, 5, 6, 7, 8, 9, 10] rfl
          have hD : va_D A [(mA, .inr (5, [.ref mAx, .ref mAy, .ref mAi, .int mn, .ref mAr, .ref mAo, .int mf_66, .int mt_66, .int md_66, .ref mAc, .int mk_66, .ref mAg, .int mh, .ref mAe, .ref mAS, .ref mAp])), (mAx, .inl (cI, 32, .inl mx)), (mAy, .inl (cI, 32, .inl my)), (mAi, .inl (cZ, 32, .inl mi)), (mAr, .inl (cI, 32, .inl mr_66)), (mAo, .inl (cI, 32, .inl mo_66)), (mAc, .inl (cI, 34, .inl mc_66)), (mAg, .inl (cI, 34, .inl mg)), (mAe, .inl (cI, 128, .inl me)), (mAS, .inl (cJ, 2, .inr (.inl mS))), (mAp, .inl (cZ, 2, .inl mp))] := hD.sub [0, 1, 2, 3, 4, 5, 6, 7, 8, 9, 10] (by decide) rfl
          exact ret _ _ _ _ r69 (mr_66, mo_66, mf_66, mt_66, md_66, mc_66, mk_66) (vp_nar_int _) hw hP hD hS dX6_part_72
        · have hw := hwB c2
          obtain ⟨hwA, hwB⟩ := hw
          by_cases c3 : v2 = 3
          · have hw := hwA c3
            refine lv_tableIn (tgt := 73) hx hb dX6_part_11 (by rw [c3]; decide) (by rw [c3]; decide) (by rw [c3]; rfl) (by decide) ?_
            refine lv_aload_n hx hb dX6_part_73 rfl (lv_at hl 0 rfl) ?_
            refine lv_iload_n hx hb dX6_part_74 rfl (lv_at hl 1 rfl) ?_
            refine lv_iconst (v := 1) hx hb dX6_part_75 (by decide) ?_
            refine cl_Vl (As := [.int v1, .int 1]) (rest := []) ⟨hx, hb, hml, hown, hts⟩ (c_X6_chainSet l D cI cJ cZ cO mA mAx mAy mAi mAr mAo mAc mAg mAe mAS mAp mx my mi mn mr_2 mo_2 mf_2 mt_2 md_2 mc mk mg mh me mS mp v1 1 _ hw) (cwV 2 hts gX6_part_X6_chainSet rfl rfl rfl hd_X6_chainSet ⟨Nat.le_trans (Nat.le_of_ble_eq_true rfl) hRf, Nat.le_trans (Nat.le_of_ble_eq_true rfl) hRl⟩) hK hP hD hS hA [0, 1, 2, 3, 4, 5, 6, 7, 8, 9, 10] [] rfl (by decide) rfl (by decide) (by decide) 0 5 rfl rfl rfl hl.1 rfl (Nat.le_of_ble_eq_true rfl) dX6_part_76 ⟨Nat.zero_le _, Nat.zero_le _⟩ (fun r76 u H locs hw hP hD hS => ?_)
            obtain ⟨mr_76, mo_76, mf_76, mt_76, md_76, mc_76, mk_76⟩ := u
            try dsimp only at hw
            have hP : va_P D vwCl [(mA, .inr (5, [.ref mAx, .ref mAy, .ref mAi, .int mn, .ref mAr, .ref mAo, .int mf_76, .int mt_76, .int md_76, .ref mAc, .int mk_76, .ref mAg, .int mh, .ref mAe, .ref mAS, .ref mAp])), (mAx, .inl (cI, 32, .inl mx)), (mAy, .inl (cI, 32, .inl my)), (mAi, .inl (cZ, 32, .inl mi)), (mAr, .inl (cI, 32, .inl mr_76)), (mAo, .inl (cI, 32, .inl mo_76)), (mAc, .inl (cI, 34, .inl mc_76)), (mAg, .inl (cI, 34, .inl mg)), (mAe, .inl (cI, 128, .inl me)), (mAS, .inl (cJ, 2, .inr (.inl mS))), (mAp, .inl (cZ, 2, .inl mp))] H := hP.sub [0, 1, 2, 3, 4, 5, 6, 7, 8, 9, 10] rfl
            have hD : va_D A [(mA, .inr (5, [.ref mAx, .ref mAy, .ref mAi, .int mn, .ref mAr, .ref mAo, .int mf_76, .int mt_76, .int md_76, .ref mAc, .int mk_76, .ref mAg, .int mh, .ref mAe, .ref mAS, .ref mAp])), (mAx, .inl (cI, 32, .inl mx)), (mAy, .inl (cI, 32, .inl my)), (mAi, .inl (cZ, 32, .inl mi)), (mAr, .inl (cI, 32, .inl mr_76)), (mAo, .inl (cI, 32, .inl mo_76)), (mAc, .inl (cI, 34, .inl mc_76)), (mAg, .inl (cI, 34, .inl mg)), (mAe, .inl (cI, 128, .inl me)), (mAS, .inl (cJ, 2, .inr (.inl mS))), (mAp, .inl (cZ, 2, .inl mp))] := hD.sub [0, 1, 2, 3, 4, 5, 6, 7, 8, 9, 10] (by decide) rfl
            refine cl_Si (As := [.long r76]) (rest := []) ⟨hx, hb, hml, hown, hts⟩ (c_X6_bits l D cI cJ cZ cO   r76 _ hw) (va_cwS 1 hts gX6_part_X6_bits rfl rfl rfl hd_X6_bits.2 ⟨Nat.le_trans (Nat.le_of_ble_eq_true rfl) hRf, Nat.le_trans (Nat.le_of_ble_eq_true rfl) hRl⟩) hK hP hD hS hA [] [0, 1, 2, 3, 4, 5, 6, 7, 8, 9, 10] rfl (by decide) rfl (by decide) (by decide) rfl hl.1 rfl (Nat.le_of_ble_eq_true rfl) dX6_part_79 ⟨Nat.zero_le _, Nat.zero_le _⟩ (fun r79 _u H locs hw hP hD hS => ?_)
            try dsimp only at hw
            have hP : va_P D vwCl [(mA, .inr (5, [.ref mAx, .ref mAy, .ref mAi, .int mn, .ref mAr, .ref mAo, .int mf_76, .int mt_76, .int md_76, .ref mAc, .int mk_76, .ref mAg, .int mh, .ref mAe, .ref mAS, .ref mAp])), (mAx, .inl (cI, 32, .inl mx)), (mAy, .inl (cI, 32, .inl my)), (mAi, .inl (cZ, 32, .inl mi)), (mAr, .inl (cI, 32, .inl mr_76)), (mAo, .inl (cI, 32, .inl mo_76)), (mAc, .inl (cI, 34, .inl mc_76)), (mAg, .inl (cI, 34, .inl mg)), (mAe, .inl (cI, 128, .inl me)), (mAS, .inl (cJ, 2, .inr (.inl mS))), (mAp, .inl (cZ, 2, .inl mp))] H := hP.sub [0, 1, 2, 3, 4, 5, 6, 7, 8, 9, 10] rfl
            have hD : va_D A [(mA, .inr (5, [.ref mAx, .ref mAy, .ref mAi, .int mn, .ref mAr, .ref mAo, .int mf_76, .int mt_76, .int md_76, .ref mAc, .int mk_76, .ref mAg, .int mh, .ref mAe, .ref mAS, .ref mAp])), (mAx, .inl (cI, 32, .inl mx)), (mAy, .inl (cI, 32, .inl my)), (mAi, .inl (cZ, 32, .inl mi)), (mAr, .inl (cI, 32, .inl mr_76)), (mAo, .inl (cI, 32, .inl mo_76)), (mAc, .inl (cI, 34, .inl mc_76)), (mAg, .inl (cI, 34, .inl mg)), (mAe, .inl (cI, 128, .inl me)), (mAS, .inl (cJ, 2, .inr (.inl mS))), (mAp, .inl (cZ, 2, .inl mp))] := hD.sub [0, 1, 2, 3, 4, 5, 6, 7, 8, 9, 10] (by decide) rfl
            exact ret _ _ _ _ r79 (mr_76, mo_76, mf_76, mt_76, md_76, mc_76, mk_76) (vp_nar_int _) hw hP hD hS dX6_part_82
          · have hw := hwB c3
            obtain ⟨hwA, hwB⟩ := hw
            by_cases c4 : v2 = 4
            · have hw := hwA c4
              refine lv_tableIn (tgt := 83) hx hb dX6_part_11 (by rw [c4]; decide) (by rw [c4]; decide) (by rw [c4]; rfl) (by decide) ?_
              refine lv_aload_n hx hb dX6_part_83 rfl (lv_at hl 0 rfl) ?_
              refine lv_iload_n hx hb dX6_part_84 rfl (lv_at hl 1 rfl) ?_
              refine lv_iconst (v := 0) hx hb dX6_part_85 (by decide) ?_
              refine cl_Vi (As := [.int v1, .int 0]) (rest := []) ⟨hx, hb, hml, hown, hts⟩ (c_X6_restOf l D cI cJ cZ cO mA mAx mAy mAi mAr mAo mAc mAg mAe mAS mAp mx my mi mn mr_2 mo_2 mf_2 mt_2 md_2 mc mk mg mh me mS mp v1 0 _ hw) (cwV 2 hts gX6_part_X6_restOf rfl rfl rfl hd_X6_restOf ⟨Nat.le_trans (Nat.le_of_ble_eq_true rfl) hRf, Nat.le_trans (Nat.le_of_ble_eq_true rfl) hRl⟩) hK hP hD hS hA [0, 1, 2, 3, 4, 5, 6, 7, 8, 9, 10] [] rfl (by decide) rfl (by decide) (by decide) 0 5 rfl rfl rfl hl.1 rfl (Nat.le_of_ble_eq_true rfl) dX6_part_86 ⟨Nat.zero_le _, Nat.zero_le _⟩ (fun r86 u H locs hw hP hD hS => ?_)
              obtain ⟨mr_86, mo_86, mf_86, mt_86, md_86, mc_86, mk_86⟩ := u
              try dsimp only at hw
              have hP : va_P D vwCl [(mA, .inr (5, [.ref mAx, .ref mAy, .ref mAi, .int mn, .ref mAr, .ref mAo, .int mf_86, .int mt_86, .int md_86, .ref mAc, .int mk_86, .ref mAg, .int mh, .ref mAe, .ref mAS, .ref mAp])), (mAx, .inl (cI, 32, .inl mx)), (mAy, .inl (cI, 32, .inl my)), (mAi, .inl (cZ, 32, .inl mi)), (mAr, .inl (cI, 32, .inl mr_86)), (mAo, .inl (cI, 32, .inl mo_86)), (mAc, .inl (cI, 34, .inl mc_86)), (mAg, .inl (cI, 34, .inl mg)), (mAe, .inl (cI, 128, .inl me)), (mAS, .inl (cJ, 2, .inr (.inl mS))), (mAp, .inl (cZ, 2, .inl mp))] H := hP.sub [0, 1, 2, 3, 4, 5, 6, 7, 8, 9, 10] rfl
              have hD : va_D A [(mA, .inr (5, [.ref mAx, .ref mAy, .ref mAi, .int mn, .ref mAr, .ref mAo, .int mf_86, .int mt_86, .int md_86, .ref mAc, .int mk_86, .ref mAg, .int mh, .ref mAe, .ref mAS, .ref mAp])), (mAx, .inl (cI, 32, .inl mx)), (mAy, .inl (cI, 32, .inl my)), (mAi, .inl (cZ, 32, .inl mi)), (mAr, .inl (cI, 32, .inl mr_86)), (mAo, .inl (cI, 32, .inl mo_86)), (mAc, .inl (cI, 34, .inl mc_86)), (mAg, .inl (cI, 34, .inl mg)), (mAe, .inl (cI, 128, .inl me)), (mAS, .inl (cJ, 2, .inr (.inl mS))), (mAp, .inl (cZ, 2, .inl mp))] := hD.sub [0, 1, 2, 3, 4, 5, 6, 7, 8, 9, 10] (by decide) rfl
              exact ret _ _ _ _ r86 (mr_86, mo_86, mf_86, mt_86, md_86, mc_86, mk_86) (vp_nar_int _) hw hP hD hS dX6_part_89
            · have hw := hwB c4
              obtain ⟨hwA, hwB⟩ := hw
              by_cases c5 : v2 = 5
              · have hw := hwA c5
                refine lv_tableIn (tgt := 90) hx hb dX6_part_11 (by rw [c5]; decide) (by rw [c5]; decide) (by rw [c5]; rfl) (by decide) ?_
                refine lv_aload_n hx hb dX6_part_90 rfl (lv_at hl 0 rfl) ?_
                refine lv_iload_n hx hb dX6_part_91 rfl (lv_at hl 1 rfl) ?_
                refine lv_iconst (v := 1) hx hb dX6_part_92 (by decide) ?_
                refine cl_Vi (As := [.int v1, .int 1]) (rest := []) ⟨hx, hb, hml, hown, hts⟩ (c_X6_restOf l D cI cJ cZ cO mA mAx mAy mAi mAr mAo mAc mAg mAe mAS mAp mx my mi mn mr_2 mo_2 mf_2 mt_2 md_2 mc mk mg mh me mS mp v1 1 _ hw) (cwV 2 hts gX6_part_X6_restOf rfl rfl rfl hd_X6_restOf ⟨Nat.le_trans (Nat.le_of_ble_eq_true rfl) hRf, Nat.le_trans (Nat.le_of_ble_eq_true rfl) hRl⟩) hK hP hD hS hA [0, 1, 2, 3, 4, 5, 6, 7, 8, 9, 10] [] rfl (by decide) rfl (by decide) (by decide) 0 5 rfl rfl rfl hl.1 rfl (Nat.le_of_ble_eq_true rfl) dX6_part_93 ⟨Nat.zero_le _, Nat.zero_le _⟩ (fun r93 u H locs hw hP hD hS => ?_)
                obtain ⟨mr_93, mo_93, mf_93, mt_93, md_93, mc_93, mk_93⟩ := u
                try dsimp only at hw
                have hP : va_P D vwCl [(mA, .inr (5, [.ref mAx, .ref mAy, .ref mAi, .int mn, .ref mAr, .ref mAo, .int mf_93, .int mt_93, .int md_93, .ref mAc, .int mk_93, .ref mAg, .int mh, .ref mAe, .ref mAS, .ref mAp])), (mAx, .inl (cI, 32, .inl mx)), (mAy, .inl (cI, 32, .inl my)), (mAi, .inl (cZ, 32, .inl mi)), (mAr, .inl (cI, 32, .inl mr_93)), (mAo, .inl (cI, 32, .inl mo_93)), (mAc, .inl (cI, 34, .inl mc_93)), (mAg, .inl (cI, 34, .inl mg)), (mAe, .inl (cI, 128, .inl me)), (mAS, .inl (cJ, 2, .inr (.inl mS))), (mAp, .inl (cZ, 2, .inl mp))] H := hP.sub [0, 1, 2, 3, 4, 5, 6, 7, 8, 9, 10] rfl
                have hD : va_D A [(mA, .inr (5, [.ref mAx, .ref mAy, .ref mAi, .int mn, .ref mAr, .ref mAo, .int mf_93, .int mt_93, .int md_93, .ref mAc, .int mk_93, .ref mAg, .int mh, .ref mAe, .ref mAS, .ref mAp])), (mAx, .inl (cI, 32, .inl mx)), (mAy, .inl (cI, 32, .inl my)), (mAi, .inl (cZ, 32, .inl mi)), (mAr, .inl (cI, 32, .inl mr_93)), (mAo, .inl (cI, 32, .inl mo_93)), (mAc, .inl (cI, 34, .inl mc_93)), (mAg, .inl (cI, 34, .inl mg)), (mAe, .inl (cI, 128, .inl me)), (mAS, .inl (cJ, 2, .inr (.inl mS))), (mAp, .inl (cZ, 2, .inl mp))] := hD.sub [0, 1, 2, 3, 4, 5, 6, 7, 8, 9, 10] (by decide) rfl
                exact ret _ _ _ _ r93 (mr_93, mo_93, mf_93, mt_93, md_93, mc_93, mk_93) (vp_nar_int _) hw hP hD hS dX6_part_96
              · have hw := hwB c5
                refine lv_tableOut (tgt := 97) hx hb dX6_part_11 (by have z0 := lv_neT (a := 0) c0 (by decide); have z1 := lv_neT (a := 1) c1 (by decide); have z2 := lv_neT (a := 2) c2 (by decide); have z3 := lv_neT (a := 3) c3 (by decide); have z4 := lv_neT (a := 4) c4 (by decide); have z5 := lv_neT (a := 5) c5 (by decide); omega) (by decide) ?_
                refine lv_bipush (v := (-2)) hx hb dX6_part_97 (by decide) ?_
                exact ret _ _ _ _ (-2) (mr_2, mo_2, mf_2, mt_2, md_2, mc, mk) (vp_nar_int _) hw hP hD hS dX6_part_99
  · have hw := hwB cb
    refine lv_iconst (v := (-1)) hx hb dX6_part_8 (by decide) ?_
    exact ret _ _ _ _ (-1) (mr_2, mo_2, mf_2, mt_2, md_2, mc, mk) (vp_nar_int _) hw hP hD hS dX6_part_9
theorem in_X6_chain_X6 : ∀ w ∈ wsX60, w ∈ wsX6_chain := fun _ h => List.mem_cons_of_mem _ (List.mem_append_right _ h)
theorem hd_X6_chain : yX6_chain.cls = RX6 ∧ yX6_chain.cls ≠ "java/lang/invoke/MethodHandle" ∧ yX6_chain.cls ≠ "java/lang/invoke/VarHandle" ∧ (parseMethodDescriptor yX6_chain.desc).map (fun d => d.parameters.length) = some 3 := by decide +kernel
set_option maxHeartbeats 8000000 in
set_option maxRecDepth 100000 in
theorem c_X6_chain (l : Launch) (D : va_G) (cI cJ cZ cO : ClassId) (mA mAx mAy mAi mAr mAo mAc mAg mAe mAS mAp : Nat) (mx : Nat → Int32) (my : Nat → Int32) (mi : Nat → Int32) (mn : Int32) (mr : Nat → Int32) (mo : Nat → Int32) (mf : Int32) (mt : Int32) (md : Int32) (mc : Nat → Int32) (mk : Int32) (mg : Nat → Int32) (mh : Int32) (me : Nat → Int32) (mS : Nat → Int64) (mp : Nat → Int32) (v1 : Int32) (v2 : Int32) (v3 : Int32) (K : Int32 → (Nat → Int32) → (Nat → Int32) → Int32 → Int32 → Int32 → (Nat → Int32) → Int32 → Prop) (hw : wp_X6_chain mx my mi mn mr mo mf mt md mc mk v1 v2 v3 K) : Ci l D (tys4 cI cJ cZ cO) yX6_chain wsX6_chain { frames := 3, cells := 0, slots := 0, locals := 78 } [.ref mA, .int v1, .int v2, .int v3] [(mA, .inr (5, [.ref mAx, .ref mAy, .ref mAi, .int mn, .ref mAr, .ref mAo, .int mf, .int mt, .int md, .ref mAc, .int mk, .ref mAg, .int mh, .ref mAe, .ref mAS, .ref mAp])), (mAx, .inl (cI, 32, .inl mx)), (mAy, .inl (cI, 32, .inl my)), (mAi, .inl (cZ, 32, .inl mi)), (mAr, .inl (cI, 32, .inl mr)), (mAo, .inl (cI, 32, .inl mo)), (mAc, .inl (cI, 34, .inl mc)), (mAg, .inl (cI, 34, .inl mg)), (mAe, .inl (cI, 128, .inl me)), (mAS, .inl (cJ, 2, .inr (.inl mS))), (mAp, .inl (cZ, 2, .inl mp))] (fun (r : Int32) (u : (Nat → Int32) × (Nat → Int32) × (Int32) × (Int32) × (Int32) × (Nat → Int32) × (Int32)) => K r u.1 u.2.1 u.2.2.1 u.2.2.2.1 u.2.2.2.2.1 u.2.2.2.2.2.1 u.2.2.2.2.2.2) (fun u => [(mA, .inr (5, [.ref mAx, .ref mAy, .ref mAi, .int mn, .ref mAr, .ref mAo, .int u.2.2.1, .int u.2.2.2.1, .int u.2.2.2.2.1, .ref mAc, .int u.2.2.2.2.2.2, .ref mAg, .int mh, .ref mAe, .ref mAS, .ref mAp])), (mAx, .inl (cI, 32, .inl mx)), (mAy, .inl (cI, 32, .inl my)), (mAi, .inl (cZ, 32, .inl mi)), (mAr, .inl (cI, 32, .inl u.1)), (mAo, .inl (cI, 32, .inl u.2.1)), (mAc, .inl (cI, 34, .inl u.2.2.2.2.2.1)), (mAg, .inl (cI, 34, .inl mg)), (mAe, .inl (cI, 128, .inl me)), (mAS, .inl (cJ, 2, .inr (.inl mS))), (mAp, .inl (cZ, 2, .inl mp))]) := by
  refine mt_i (cc := cX6_chain) (maxL := 4) (rt := .int) (by decide) rfl (Nat.le_of_ble_eq_true rfl) ?_
  intro p e s m args below meth c Q A R ls hRf hRl hx hb hml hown hts hK hA hP hD hS hl ret
  have hown : s.vm.findClass RX6 = some m.cls := hown
  have hl : lv_has ls 4 [(0, .ref mA), (1, .int v1), (2, .int v2), (3, .int v3)] := hl
  unfold wp_X6_chain at hw
  refine lv_aload_n hx hb dX6_chain_0 rfl (lv_at hl 0 rfl) ?_
  refine lv_iload_n hx hb dX6_chain_1 rfl (lv_at hl 1 rfl) ?_
  refine cl_Vi (As := [.int v1]) (rest := []) ⟨hx, hb, hml, hown, hts⟩ (c_X6_layPart l D cI cJ cZ cO mA mAx mAy mAi mAr mAo mAc mAg mAe mAS mAp mx my mi mn mr mo mf mt md mc mk mg mh me mS mp v1 _ hw) (cwV 1 hts gX6_chain_X6_layPart rfl rfl rfl hd_X6_layPart ⟨Nat.le_trans (Nat.le_of_ble_eq_true rfl) hRf, Nat.le_trans (Nat.le_of_ble_eq_true rfl) hRl⟩) hK hP hD hS hA [0, 1, 2, 3, 4, 5, 6, 7, 8, 9, 10] [] rfl (by decide) rfl (by decide) (by decide) 0 5 rfl rfl rfl hl.1 rfl (Nat.le_of_ble_eq_true rfl) dX6_chain_2 ⟨Nat.zero_le _, Nat.zero_le _⟩ (fun r2 u H locs hw hP hD hS => ?_)
  obtain ⟨mr_2, mo_2, mf_2, mt_2, md_2⟩ := u
  try dsimp only at hw
  have hP : va_P D vwCl [(mA, .inr (5, [.ref mAx, .ref mAy, .ref mAi, .int mn, .ref mAr, .ref mAo, .int mf_2, .int mt_2, .int md_2, .ref mAc, .int mk, .ref mAg, .int mh, .ref mAe, .ref mAS, .ref mAp])), (mAx, .inl (cI, 32, .inl mx)), (mAy, .inl (cI, 32, .inl my)), (mAi, .inl (cZ, 32, .inl mi)), (mAr, .inl (cI, 32, .inl mr_2)), (mAo, .inl (cI, 32, .inl mo_2)), (mAc, .inl (cI, 34, .inl mc)), (mAg, .inl (cI, 34, .inl mg)), (mAe, .inl (cI, 128, .inl me)), (mAS, .inl (cJ, 2, .inr (.inl mS))), (mAp, .inl (cZ, 2, .inl mp))] H := hP.sub [0, 1, 2, 3, 4, 5, 6, 7, 8, 9, 10] rfl
  have hD : va_D A [(mA, .inr (5, [.ref mAx, .ref mAy, .ref mAi, .int mn, .ref mAr, .ref mAo, .int mf_2, .int mt_2, .int md_2, .ref mAc, .int mk, .ref mAg, .int mh, .ref mAe, .ref mAS, .ref mAp])), (mAx, .inl (cI, 32, .inl mx)), (mAy, .inl (cI, 32, .inl my)), (mAi, .inl (cZ, 32, .inl mi)), (mAr, .inl (cI, 32, .inl mr_2)), (mAo, .inl (cI, 32, .inl mo_2)), (mAc, .inl (cI, 34, .inl mc)), (mAg, .inl (cI, 34, .inl mg)), (mAe, .inl (cI, 128, .inl me)), (mAS, .inl (cJ, 2, .inr (.inl mS))), (mAp, .inl (cZ, 2, .inl mp))] := hD.sub [0, 1, 2, 3, 4, 5, 6, 7, 8, 9, 10] (by decide) rfl
  obtain ⟨hwA, hwB⟩ := hw
  refine lv_if_ne (tgt := 10) hx hb dX6_chain_5 (by decide) (fun cb => ?_) (fun cb => ?_)
  · have hw := hwA cb
    refine lv_iload_n hx hb dX6_chain_10 rfl (lv_at hl 2 rfl) ?_
    refine lv_iconst (v := 0) hx hb dX6_chain_11 (by decide) ?_
    refine lv_iconst (v := 1) hx hb dX6_chain_12 (by decide) ?_
    refine cl_Si (As := [.int v2, .int 0, .int 1]) (rest := []) ⟨hx, hb, hml, hown, hts⟩ (c_X6_in l D cI cJ cZ cO   v2 0 1 _ hw) (va_cwS 3 hts gX6_chain_X6_in rfl rfl rfl hd_X6_in.2 ⟨Nat.le_trans (Nat.le_of_ble_eq_true rfl) hRf, Nat.le_trans (Nat.le_of_ble_eq_true rfl) hRl⟩) hK hP hD hS hA [] [0, 1, 2, 3, 4, 5, 6, 7, 8, 9, 10] rfl (by decide) rfl (by decide) (by decide) rfl hl.1 rfl (Nat.le_of_ble_eq_true rfl) dX6_chain_13 ⟨Nat.zero_le _, Nat.zero_le _⟩ (fun r13 _u H locs hw hP hD hS => ?_)
    try dsimp only at hw
    have hP : va_P D vwCl [(mA, .inr (5, [.ref mAx, .ref mAy, .ref mAi, .int mn, .ref mAr, .ref mAo, .int mf_2, .int mt_2, .int md_2, .ref mAc, .int mk, .ref mAg, .int mh, .ref mAe, .ref mAS, .ref mAp])), (mAx, .inl (cI, 32, .inl mx)), (mAy, .inl (cI, 32, .inl my)), (mAi, .inl (cZ, 32, .inl mi)), (mAr, .inl (cI, 32, .inl mr_2)), (mAo, .inl (cI, 32, .inl mo_2)), (mAc, .inl (cI, 34, .inl mc)), (mAg, .inl (cI, 34, .inl mg)), (mAe, .inl (cI, 128, .inl me)), (mAS, .inl (cJ, 2, .inr (.inl mS))), (mAp, .inl (cZ, 2, .inl mp))] H := hP.sub [0, 1, 2, 3, 4, 5, 6, 7, 8, 9, 10] rfl
    have hD : va_D A [(mA, .inr (5, [.ref mAx, .ref mAy, .ref mAi, .int mn, .ref mAr, .ref mAo, .int mf_2, .int mt_2, .int md_2, .ref mAc, .int mk, .ref mAg, .int mh, .ref mAe, .ref mAS, .ref mAp])), (mAx, .inl (cI, 32, .inl mx)), (mAy, .inl (cI, 32, .inl my)), (mAi, .inl (cZ, 32, .inl mi)), (mAr, .inl (cI, 32, .inl mr_2)), (mAo, .inl (cI, 32, .inl mo_2)), (mAc, .inl (cI, 34, .inl mc)), (mAg, .inl (cI, 34, .inl mg)), (mAe, .inl (cI, 128, .inl me)), (mAS, .inl (cJ, 2, .inr (.inl mS))), (mAp, .inl (cZ, 2, .inl mp))] := hD.sub [0, 1, 2, 3, 4, 5, 6, 7, 8, 9, 10] (by decide) rfl
    obtain ⟨hwA, hwB⟩ := hw
    refine lv_if_ne (tgt := 22) hx hb dX6_chain_16 (by decide) (fun cb => ?_) (fun cb => ?_)
    · have hw := hwA cb
      refine lv_aload_n hx hb dX6_chain_22 rfl (lv_at hl 0 rfl) ?_
      refine lv_iload_n hx hb dX6_chain_23 rfl (lv_at hl 2 rfl) ?_
      refine cl_Vv (As := [.int v2]) (rest := []) ⟨hx, hb, hml, hown, hts⟩ (c_X6_layChain l D cI cJ cZ cO mA mAx mAy mAi mAr mAo mAc mAg mAe mAS mAp mx my mi mn mr_2 mo_2 mf_2 mt_2 md_2 mc mk mg mh me mS mp v2 _ hw) (cwV 1 hts gX6_chain_X6_layChain rfl rfl rfl hd_X6_layChain ⟨Nat.le_trans (Nat.le_of_ble_eq_true rfl) hRf, Nat.le_trans (Nat.le_of_ble_eq_true rfl) hRl⟩) hK hP hD hS hA [0, 1, 2, 3, 4, 5, 6, 7, 8, 9, 10] [] rfl (by decide) rfl (by decide) (by decide) 0 5 rfl rfl rfl hl.1 rfl (Nat.le_of_ble_eq_true rfl) dX6_chain_24 ⟨Nat.zero_le _, Nat.zero_le _⟩ (fun u H locs hw hP hD hS => ?_)
      obtain ⟨mc_24, mk_24⟩ := u
      try dsimp only at hw
      have hP : va_P D vwCl [(mA, .inr (5, [.ref mAx, .ref mAy, .ref mAi, .int mn, .ref mAr, .ref mAo, .int mf_2, .int mt_2, .int md_2, .ref mAc, .int mk_24, .ref mAg, .int mh, .ref mAe, .ref mAS, .ref mAp])), (mAx, .inl (cI, 32, .inl mx)), (mAy, .inl (cI, 32, .inl my)), (mAi, .inl (cZ, 32, .inl mi)), (mAr, .inl (cI, 32, .inl mr_2)), (mAo, .inl (cI, 32, .inl mo_2)), (mAc, .inl (cI, 34, .inl mc_24)), (mAg, .inl (cI, 34, .inl mg)), (mAe, .inl (cI, 128, .inl me)), (mAS, .inl (cJ, 2, .inr (.inl mS))), (mAp, .inl (cZ, 2, .inl mp))] H := hP.sub [0, 1, 2, 3, 4, 5, 6, 7, 8, 9, 10] rfl
      have hD : va_D A [(mA, .inr (5, [.ref mAx, .ref mAy, .ref mAi, .int mn, .ref mAr, .ref mAo, .int mf_2, .int mt_2, .int md_2, .ref mAc, .int mk_24, .ref mAg, .int mh, .ref mAe, .ref mAS, .ref mAp])), (mAx, .inl (cI, 32, .inl mx)), (mAy, .inl (cI, 32, .inl my)), (mAi, .inl (cZ, 32, .inl mi)), (mAr, .inl (cI, 32, .inl mr_2)), (mAo, .inl (cI, 32, .inl mo_2)), (mAc, .inl (cI, 34, .inl mc_24)), (mAg, .inl (cI, 34, .inl mg)), (mAe, .inl (cI, 128, .inl me)), (mAS, .inl (cJ, 2, .inr (.inl mS))), (mAp, .inl (cZ, 2, .inl mp))] := hD.sub [0, 1, 2, 3, 4, 5, 6, 7, 8, 9, 10] (by decide) rfl
      refine lv_iload_n hx hb dX6_chain_27 rfl (lv_at hl 3 rfl) ?_
      refine lv_iconst (v := 0) hx hb dX6_chain_28 (by decide) ?_
      refine lv_aload_n hx hb dX6_chain_29 rfl (lv_at hl 0 rfl) ?_
      refine va_get (D := D) (ci := 5) (v := .int mk_24) (C := RX6) (T := TX6) (N := 16) hx hb hts in_X6_chain_X6 hown hK hP 0 rfl rfl 10 (by decide) (hts (.fieldLink RX6 79 "LiveHullModel" "corners" "I") (List.mem_of_getElem? (i := 1) rfl)) (fun _ h9 => h9) rfl dX6_chain_30 ?_
      refine lv_iconst (v := 1) hx hb dX6_chain_33 (by decide) ?_
      refine lv_isub hx hb dX6_chain_34 ?_
      refine cl_Si (As := [.int v3, .int 0, .int (mk_24 - 1)]) (rest := []) ⟨hx, hb, hml, hown, hts⟩ (c_X6_in l D cI cJ cZ cO   v3 0 (mk_24 - 1) _ hw) (va_cwS 3 hts gX6_chain_X6_in rfl rfl rfl hd_X6_in.2 ⟨Nat.le_trans (Nat.le_of_ble_eq_true rfl) hRf, Nat.le_trans (Nat.le_of_ble_eq_true rfl) hRl⟩) hK hP hD hS hA [] [0, 1, 2, 3, 4, 5, 6, 7, 8, 9, 10] rfl (by decide) rfl (by decide) (by decide) rfl hl.1 rfl (Nat.le_of_ble_eq_true rfl) dX6_chain_35 ⟨Nat.zero_le _, Nat.zero_le _⟩ (fun r35 _u H locs hw hP hD hS => ?_)
      try dsimp only at hw
      have hP : va_P D vwCl [(mA, .inr (5, [.ref mAx, .ref mAy, .ref mAi, .int mn, .ref mAr, .ref mAo, .int mf_2, .int mt_2, .int md_2, .ref mAc, .int mk_24, .ref mAg, .int mh, .ref mAe, .ref mAS, .ref mAp])), (mAx, .inl (cI, 32, .inl mx)), (mAy, .inl (cI, 32, .inl my)), (mAi, .inl (cZ, 32, .inl mi)), (mAr, .inl (cI, 32, .inl mr_2)), (mAo, .inl (cI, 32, .inl mo_2)), (mAc, .inl (cI, 34, .inl mc_24)), (mAg, .inl (cI, 34, .inl mg)), (mAe, .inl (cI, 128, .inl me)), (mAS, .inl (cJ, 2, .inr (.inl mS))), (mAp, .inl (cZ, 2, .inl mp))] H := hP.sub [0, 1, 2, 3, 4, 5, 6, 7, 8, 9, 10] rfl
      have hD : va_D A [(mA, .inr (5, [.ref mAx, .ref mAy, .ref mAi, .int mn, .ref mAr, .ref mAo, .int mf_2, .int mt_2, .int md_2, .ref mAc, .int mk_24, .ref mAg, .int mh, .ref mAe, .ref mAS, .ref mAp])), (mAx, .inl (cI, 32, .inl mx)), (mAy, .inl (cI, 32, .inl my)), (mAi, .inl (cZ, 32, .inl mi)), (mAr, .inl (cI, 32, .inl mr_2)), (mAo, .inl (cI, 32, .inl mo_2)), (mAc, .inl (cI, 34, .inl mc_24)), (mAg, .inl (cI, 34, .inl mg)), (mAe, .inl (cI, 128, .inl me)), (mAS, .inl (cJ, 2, .inr (.inl mS))), (mAp, .inl (cZ, 2, .inl mp))] := hD.sub [0, 1, 2, 3, 4, 5, 6, 7, 8, 9, 10] (by decide) rfl
      obtain ⟨hwA, hwB⟩ := hw
      refine lv_if_eq (tgt := 50) hx hb dX6_chain_38 (by decide) (fun cb => ?_) (fun cb => ?_)
      · have hw := hwA cb
        refine lv_bipush (v := (-6)) hx hb dX6_chain_50 (by decide) ?_
        exact ret _ _ _ _ (-6) (mr_2, mo_2, mf_2, mt_2, md_2, mc_24, mk_24) (vp_nar_int _) hw hP hD hS dX6_chain_52
      · have hw := hwB cb
        refine lv_aload_n hx hb dX6_chain_41 rfl (lv_at hl 0 rfl) ?_
        refine va_get (D := D) (ci := 5) (v := .ref mAc) (C := RX6) (T := TX6) (N := 16) hx hb hts in_X6_chain_X6 hown hK hP 0 rfl rfl 9 (by decide) (hts (.fieldLink RX6 26 "LiveHullModel" "corner" "[I") (List.mem_of_getElem? (i := 2) rfl)) (fun _ h9 => h9) rfl dX6_chain_42 ?_
        refine lv_iload_n hx hb dX6_chain_45 rfl (lv_at hl 3 rfl) ?_
        obtain ⟨hi, hw⟩ := hw
        refine va_iald hx hb hK hP 6 0 rfl rfl hi dX6_chain_46 ?_
        refine lv_goto (tgt := 52) hx hb dX6_chain_47 (by decide) ?_
        exact ret _ _ _ _ (mc_24 v3.toNatClampNeg) (mr_2, mo_2, mf_2, mt_2, md_2, mc_24, mk_24) (vp_nar_int _) hw hP hD hS dX6_chain_52
    · have hw := hwB cb
      refine lv_bipush (v := (-2)) hx hb dX6_chain_19 (by decide) ?_
      exact ret _ _ _ _ (-2) (mr_2, mo_2, mf_2, mt_2, md_2, mc, mk) (vp_nar_int _) hw hP hD hS dX6_chain_21
  · have hw := hwB cb
    refine lv_iconst (v := (-1)) hx hb dX6_chain_8 (by decide) ?_
    exact ret _ _ _ _ (-1) (mr_2, mo_2, mf_2, mt_2, md_2, mc, mk) (vp_nar_int _) hw hP hD hS dX6_chain_9
theorem in_X6_bridge_X6 : ∀ w ∈ wsX60, w ∈ wsX6_bridge := fun _ h => List.mem_cons_of_mem _ (List.mem_append_right _ h)
theorem hd_X6_bridge : yX6_bridge.cls = RX6 ∧ yX6_bridge.cls ≠ "java/lang/invoke/MethodHandle" ∧ yX6_bridge.cls ≠ "java/lang/invoke/VarHandle" ∧ (parseMethodDescriptor yX6_bridge.desc).map (fun d => d.parameters.length) = some 3 := by decide +kernel
set_option maxHeartbeats 8000000 in
set_option maxRecDepth 100000 in
theorem c_X6_bridge (l : Launch) (D : va_G) (cI cJ cZ cO : ClassId) (mA mAx mAy mAi mAr mAo mAc mAg mAe mAS mAp : Nat) (mx : Nat → Int32) (my : Nat → Int32) (mi : Nat → Int32) (mn : Int32) (mr : Nat → Int32) (mo : Nat → Int32) (mf : Int32) (mt : Int32) (md : Int32) (mc : Nat → Int32) (mk : Int32) (mg : Nat → Int32) (mh : Int32) (me : Nat → Int32) (mS : Nat → Int64) (mp : Nat → Int32) (v1 : Int32) (v2 : Int32) (v3 : Int32) (K : Int32 → (Nat → Int32) → (Nat → Int32) → Int32 → Int32 → Int32 → (Nat → Int32) → Int32 → Prop) (hw : wp_X6_bridge mx my mi mn mr mo mf mt md mc mk v1 v2 v3 K) : Ci l D (tys4 cI cJ cZ cO) yX6_bridge wsX6_bridge { frames := 3, cells := 0, slots := 0, locals := 78 } [.ref mA, .int v1, .int v2, .int v3] [(mA, .inr (5, [.ref mAx, .ref mAy, .ref mAi, .int mn, .ref mAr, .ref mAo, .int mf, .int mt, .int md, .ref mAc, .int mk, .ref mAg, .int mh, .ref mAe, .ref mAS, .ref mAp])), (mAx, .inl (cI, 32, .inl mx)), (mAy, .inl (cI, 32, .inl my)), (mAi, .inl (cZ, 32, .inl mi)), (mAr, .inl (cI, 32, .inl mr)), (mAo, .inl (cI, 32, .inl mo)), (mAc, .inl (cI, 34, .inl mc)), (mAg, .inl (cI, 34, .inl mg)), (mAe, .inl (cI, 128, .inl me)), (mAS, .inl (cJ, 2, .inr (.inl mS))), (mAp, .inl (cZ, 2, .inl mp))] (fun (r : Int32) (u : (Nat → Int32) × (Nat → Int32) × (Int32) × (Int32) × (Int32) × (Nat → Int32) × (Int32)) => K r u.1 u.2.1 u.2.2.1 u.2.2.2.1 u.2.2.2.2.1 u.2.2.2.2.2.1 u.2.2.2.2.2.2) (fun u => [(mA, .inr (5, [.ref mAx, .ref mAy, .ref mAi, .int mn, .ref mAr, .ref mAo, .int u.2.2.1, .int u.2.2.2.1, .int u.2.2.2.2.1, .ref mAc, .int u.2.2.2.2.2.2, .ref mAg, .int mh, .ref mAe, .ref mAS, .ref mAp])), (mAx, .inl (cI, 32, .inl mx)), (mAy, .inl (cI, 32, .inl my)), (mAi, .inl (cZ, 32, .inl mi)), (mAr, .inl (cI, 32, .inl u.1)), (mAo, .inl (cI, 32, .inl u.2.1)), (mAc, .inl (cI, 34, .inl u.2.2.2.2.2.1)), (mAg, .inl (cI, 34, .inl mg)), (mAe, .inl (cI, 128, .inl me)), (mAS, .inl (cJ, 2, .inr (.inl mS))), (mAp, .inl (cZ, 2, .inl mp))]) := by
  refine mt_i (cc := cX6_bridge) (maxL := 8) (rt := .int) (by decide) rfl (Nat.le_of_ble_eq_true rfl) ?_
  intro p e s m args below meth c Q A R ls hRf hRl hx hb hml hown hts hK hA hP hD hS hl ret
  have hown : s.vm.findClass RX6 = some m.cls := hown
  have hl : lv_has ls 8 [(0, .ref mA), (1, .int v1), (2, .int v2), (3, .int v3)] := hl
  have N79 : ∀ (mr : Nat → Int32) (mo : Nat → Int32) (mf : Int32) (mt : Int32) (md : Int32) (mc : Nat → Int32) (mk : Int32) (v4 : Int32) (k : Nat) (v5 : Int32) (v6 : Int32), wp_X6_bridge_79 mx my mi mn v1 v2 v3 K  mr mo mf mt md mc mk v4 k v5 v6 → ∀ (H : Heap) (locs : List Loc) (ls : Array Slot), va_P D vwCl [(mA, .inr (5, [.ref mAx, .ref mAy, .ref mAi, .int mn, .ref mAr, .ref mAo, .int mf, .int mt, .int md, .ref mAc, .int mk, .ref mAg, .int mh, .ref mAe, .ref mAS, .ref mAp])), (mAx, .inl (cI, 32, .inl mx)), (mAy, .inl (cI, 32, .inl my)), (mAi, .inl (cZ, 32, .inl mi)), (mAr, .inl (cI, 32, .inl mr)), (mAo, .inl (cI, 32, .inl mo)), (mAc, .inl (cI, 34, .inl mc)), (mAg, .inl (cI, 34, .inl mg)), (mAe, .inl (cI, 128, .inl me)), (mAS, .inl (cJ, 2, .inr (.inl mS))), (mAp, .inl (cZ, 2, .inl mp))] H → va_D A [(mA, .inr (5, [.ref mAx, .ref mAy, .ref mAi, .int mn, .ref mAr, .ref mAo, .int mf, .int mt, .int md, .ref mAc, .int mk, .ref mAg, .int mh, .ref mAe, .ref mAS, .ref mAp])), (mAx, .inl (cI, 32, .inl mx)), (mAy, .inl (cI, 32, .inl my)), (mAi, .inl (cZ, 32, .inl mi)), (mAr, .inl (cI, 32, .inl mr)), (mAo, .inl (cI, 32, .inl mo)), (mAc, .inl (cI, 34, .inl mc)), (mAg, .inl (cI, 34, .inl mg)), (mAe, .inl (cI, 128, .inl me)), (mAS, .inl (cJ, 2, .inr (.inl mS))), (mAp, .inl (cZ, 2, .inl mp))] → va_S A s.heap H locs → lv_has ls 8 [(0, .ref mA), (3, .int v3), (4, .int v4), (5, .int v5), (6, .int v6)] → W p l e R s m args below meth c H locs 0 0 Q (F0 m 79 ls []) := by
    intro mr mo mf mt md mc mk v4
    intro k
    induction k with
    | zero => intro v5 v6 hw; exact False.elim hw
    | succ k ih79 =>
      intro v5 v6 hw H locs ls hP hD hS hl
      have hw : wp_X6_bridge_79b mx my mi mn v1 v2 v3 K (wp_X6_bridge_79 mx my mi mn v1 v2 v3 K  mr mo mf mt md mc mk v4 k)  mr mo mf mt md mc mk v4 v5 v6 := hw
      unfold wp_X6_bridge_79b at hw
      generalize wp_X6_bridge_79 mx my mi mn v1 v2 v3 K  mr mo mf mt md mc mk v4 k = L79 at hw ih79
      have N110 : ∀ (v5 : Int32) (v6 : Int32) (s0 : Int32), wp_X6_bridge_110 mx my mi mn v1 v2 v3 K L79 mr mo mf mt md mc mk v4 v5 v6 s0 → ∀ (H : Heap) (locs : List Loc) (ls : Array Slot), va_P D vwCl [(mA, .inr (5, [.ref mAx, .ref mAy, .ref mAi, .int mn, .ref mAr, .ref mAo, .int mf, .int mt, .int md, .ref mAc, .int mk, .ref mAg, .int mh, .ref mAe, .ref mAS, .ref mAp])), (mAx, .inl (cI, 32, .inl mx)), (mAy, .inl (cI, 32, .inl my)), (mAi, .inl (cZ, 32, .inl mi)), (mAr, .inl (cI, 32, .inl mr)), (mAo, .inl (cI, 32, .inl mo)), (mAc, .inl (cI, 34, .inl mc)), (mAg, .inl (cI, 34, .inl mg)), (mAe, .inl (cI, 128, .inl me)), (mAS, .inl (cJ, 2, .inr (.inl mS))), (mAp, .inl (cZ, 2, .inl mp))] H → va_D A [(mA, .inr (5, [.ref mAx, .ref mAy, .ref mAi, .int mn, .ref mAr, .ref mAo, .int mf, .int mt, .int md, .ref mAc, .int mk, .ref mAg, .int mh, .ref mAe, .ref mAS, .ref mAp])), (mAx, .inl (cI, 32, .inl mx)), (mAy, .inl (cI, 32, .inl my)), (mAi, .inl (cZ, 32, .inl mi)), (mAr, .inl (cI, 32, .inl mr)), (mAo, .inl (cI, 32, .inl mo)), (mAc, .inl (cI, 34, .inl mc)), (mAg, .inl (cI, 34, .inl mg)), (mAe, .inl (cI, 128, .inl me)), (mAS, .inl (cJ, 2, .inr (.inl mS))), (mAp, .inl (cZ, 2, .inl mp))] → va_S A s.heap H locs → lv_has ls 8 [(0, .ref mA), (3, .int v3), (4, .int v4), (5, .int v5), (6, .int v6)] → W p l e R s m args below meth c H locs 0 0 Q (F0 m 110 ls [.int s0]) := by
        intro v5 v6 s0 hw H locs ls hP hD hS hl
        unfold wp_X6_bridge_110 at hw
        refine lv_istore (lv' := [(7, .int s0), (0, .ref mA), (3, .int v3), (4, .int v4), (5, .int v5), (6, .int v6)]) hx hb dX6_bridge_110 hl (by decide) rfl (fun ls hl => ?_)
        refine lv_iload_n hx hb dX6_bridge_112 rfl (lv_at hl 2 rfl) ?_
        obtain ⟨hwA, hwB⟩ := hw
        refine lv_if_ne (tgt := 136) hx hb dX6_bridge_113 (by decide) (fun cb => ?_) (fun cb => ?_)
        · have hw := hwA cb
          refine lv_iload hx hb dX6_bridge_136 (lv_at hl 0 rfl) ?_
          obtain ⟨hwA, hwB⟩ := hw
          refine lv_if_ne (tgt := 156) hx hb dX6_bridge_138 (by decide) (fun cb => ?_) (fun cb => ?_)
          · have hw := hwA cb
            refine lv_iload hx hb dX6_bridge_156 (lv_at hl 4 rfl) ?_
            refine lv_istore (lv' := [(5, .int v5), (7, .int s0), (0, .ref mA), (3, .int v3), (4, .int v4), (6, .int v6)]) hx hb dX6_bridge_158 hl (by decide) rfl (fun ls hl => ?_)
            refine lv_iinc (v := (v6 + 1)) (lv' := [(6, .int (v6 + 1)), (5, .int v5), (7, .int s0), (0, .ref mA), (3, .int v3), (4, .int v4)]) hx hb dX6_bridge_160 hl (k := 5) rfl rfl (by decide) rfl (fun ls hl => ?_)
            refine lv_goto (tgt := 79) hx hb dX6_bridge_163 (by decide) ?_
            exact ih79 v5 (v6 + 1) hw _ _ _ hP hD hS (lv_sub hl [3, 4, 5, 1, 0] rfl)
          · have hw := hwB cb
            refine lv_iload hx hb dX6_bridge_141 (lv_at hl 4 rfl) ?_
            obtain ⟨hwA, hwB⟩ := hw
            refine lv_if_ge (tgt := 156) hx hb dX6_bridge_143 (by decide) (fun cb => ?_) (fun cb => ?_)
            · have hw := hwA cb
              refine lv_iload hx hb dX6_bridge_156 (lv_at hl 4 rfl) ?_
              refine lv_istore (lv' := [(5, .int v5), (7, .int s0), (0, .ref mA), (3, .int v3), (4, .int v4), (6, .int v6)]) hx hb dX6_bridge_158 hl (by decide) rfl (fun ls hl => ?_)
              refine lv_iinc (v := (v6 + 1)) (lv' := [(6, .int (v6 + 1)), (5, .int v5), (7, .int s0), (0, .ref mA), (3, .int v3), (4, .int v4)]) hx hb dX6_bridge_160 hl (k := 5) rfl rfl (by decide) rfl (fun ls hl => ?_)
              refine lv_goto (tgt := 79) hx hb dX6_bridge_163 (by decide) ?_
              exact ih79 v5 (v6 + 1) hw _ _ _ hP hD hS (lv_sub hl [3, 4, 5, 1, 0] rfl)
            · have hw := hwB cb
              refine lv_aload_n hx hb dX6_bridge_146 rfl (lv_at hl 1 rfl) ?_
              refine va_get (D := D) (ci := 5) (v := .ref mAc) (C := RX6) (T := TX6) (N := 16) hx hb hts in_X6_bridge_X6 hown hK hP 0 rfl rfl 9 (by decide) (hts (.fieldLink RX6 26 "LiveHullModel" "corner" "[I") (List.mem_of_getElem? (i := 5) rfl)) (fun _ h9 => h9) rfl dX6_bridge_147 ?_
              refine lv_iload hx hb dX6_bridge_150 (lv_at hl 5 rfl) ?_
              obtain ⟨hi, hw⟩ := hw
              refine va_iald hx hb hK hP 6 0 rfl rfl hi dX6_bridge_152 ?_
              refine lv_goto (tgt := 158) hx hb dX6_bridge_153 (by decide) ?_
              refine lv_istore (lv' := [(5, .int (mc v6.toNatClampNeg)), (7, .int s0), (0, .ref mA), (3, .int v3), (4, .int v4), (6, .int v6)]) hx hb dX6_bridge_158 hl (by decide) rfl (fun ls hl => ?_)
              refine lv_iinc (v := (v6 + 1)) (lv' := [(6, .int (v6 + 1)), (5, .int (mc v6.toNatClampNeg)), (7, .int s0), (0, .ref mA), (3, .int v3), (4, .int v4)]) hx hb dX6_bridge_160 hl (k := 5) rfl rfl (by decide) rfl (fun ls hl => ?_)
              refine lv_goto (tgt := 79) hx hb dX6_bridge_163 (by decide) ?_
              exact ih79 (mc v6.toNatClampNeg) (v6 + 1) hw _ _ _ hP hD hS (lv_sub hl [3, 4, 5, 1, 0] rfl)
        · have hw := hwB cb
          refine lv_iload hx hb dX6_bridge_116 (lv_at hl 0 rfl) ?_
          obtain ⟨hwA, hwB⟩ := hw
          refine lv_if_eq (tgt := 131) hx hb dX6_bridge_118 (by decide) (fun cb => ?_) (fun cb => ?_)
          · have hw := hwA cb
            refine lv_iload hx hb dX6_bridge_131 (lv_at hl 4 rfl) ?_
            refine lv_goto (tgt := 158) hx hb dX6_bridge_133 (by decide) ?_
            refine lv_istore (lv' := [(5, .int v5), (7, .int s0), (0, .ref mA), (3, .int v3), (4, .int v4), (6, .int v6)]) hx hb dX6_bridge_158 hl (by decide) rfl (fun ls hl => ?_)
            refine lv_iinc (v := (v6 + 1)) (lv' := [(6, .int (v6 + 1)), (5, .int v5), (7, .int s0), (0, .ref mA), (3, .int v3), (4, .int v4)]) hx hb dX6_bridge_160 hl (k := 5) rfl rfl (by decide) rfl (fun ls hl => ?_)
            refine lv_goto (tgt := 79) hx hb dX6_bridge_163 (by decide) ?_
            exact ih79 v5 (v6 + 1) hw _ _ _ hP hD hS (lv_sub hl [3, 4, 5, 1, 0] rfl)
          · have hw := hwB cb
            refine lv_aload_n hx hb dX6_bridge_121 rfl (lv_at hl 1 rfl) ?_
            refine va_get (D := D) (ci := 5) (v := .ref mAc) (C := RX6) (T := TX6) (N := 16) hx hb hts in_X6_bridge_X6 hown hK hP 0 rfl rfl 9 (by decide) (hts (.fieldLink RX6 26 "LiveHullModel" "corner" "[I") (List.mem_of_getElem? (i := 5) rfl)) (fun _ h9 => h9) rfl dX6_bridge_122 ?_
            refine lv_iload hx hb dX6_bridge_125 (lv_at hl 5 rfl) ?_
            obtain ⟨hi, hw⟩ := hw
            refine va_iald hx hb hK hP 6 0 rfl rfl hi dX6_bridge_127 ?_
            refine lv_goto (tgt := 158) hx hb dX6_bridge_128 (by decide) ?_
            refine lv_istore (lv' := [(5, .int (mc v6.toNatClampNeg)), (7, .int s0), (0, .ref mA), (3, .int v3), (4, .int v4), (6, .int v6)]) hx hb dX6_bridge_158 hl (by decide) rfl (fun ls hl => ?_)
            refine lv_iinc (v := (v6 + 1)) (lv' := [(6, .int (v6 + 1)), (5, .int (mc v6.toNatClampNeg)), (7, .int s0), (0, .ref mA), (3, .int v3), (4, .int v4)]) hx hb dX6_bridge_160 hl (k := 5) rfl rfl (by decide) rfl (fun ls hl => ?_)
            refine lv_goto (tgt := 79) hx hb dX6_bridge_163 (by decide) ?_
            exact ih79 (mc v6.toNatClampNeg) (v6 + 1) hw _ _ _ hP hD hS (lv_sub hl [3, 4, 5, 1, 0] rfl)
      refine lv_iload hx hb dX6_bridge_79 (lv_at hl 4 rfl) ?_
      refine lv_aload_n hx hb dX6_bridge_81 rfl (lv_at hl 0 rfl) ?_
      refine va_get (D := D) (ci := 5) (v := .int mk) (C := RX6) (T := TX6) (N := 16) hx hb hts in_X6_bridge_X6 hown hK hP 0 rfl rfl 10 (by decide) (hts (.fieldLink RX6 79 "LiveHullModel" "corners" "I") (List.mem_of_getElem? (i := 3) rfl)) (fun _ h9 => h9) rfl dX6_bridge_82 ?_
      obtain ⟨hwA, hwB⟩ := hw
      refine lv_icmp_ge (tgt := 166) hx hb dX6_bridge_85 (by decide) (fun cb => ?_) (fun cb => ?_)
      · have hw := hwA cb
        refine lv_iload hx hb dX6_bridge_166 (lv_at hl 3 rfl) ?_
        exact ret _ _ _ _ v5 (mr, mo, mf, mt, md, mc, mk) (vp_nar_int _) hw hP hD hS dX6_bridge_168
      · have hw := hwB cb
        refine lv_aload_n hx hb dX6_bridge_88 rfl (lv_at hl 0 rfl) ?_
        refine va_get (D := D) (ci := 5) (v := .ref mAo) (C := RX6) (T := TX6) (N := 16) hx hb hts in_X6_bridge_X6 hown hK hP 0 rfl rfl 5 (by decide) (hts (.fieldLink RX6 23 "LiveHullModel" "rankOf" "[I") (List.mem_of_getElem? (i := 4) rfl)) (fun _ h9 => h9) rfl dX6_bridge_89 ?_
        refine lv_aload_n hx hb dX6_bridge_92 rfl (lv_at hl 0 rfl) ?_
        refine va_get (D := D) (ci := 5) (v := .ref mAc) (C := RX6) (T := TX6) (N := 16) hx hb hts in_X6_bridge_X6 hown hK hP 0 rfl rfl 9 (by decide) (hts (.fieldLink RX6 26 "LiveHullModel" "corner" "[I") (List.mem_of_getElem? (i := 5) rfl)) (fun _ h9 => h9) rfl dX6_bridge_93 ?_
        refine lv_iload hx hb dX6_bridge_96 (lv_at hl 4 rfl) ?_
        obtain ⟨hi, hw⟩ := hw
        refine va_iald hx hb hK hP 6 0 rfl rfl hi dX6_bridge_98 ?_
        obtain ⟨hi, hw⟩ := hw
        refine va_iald hx hb hK hP 5 0 rfl rfl hi dX6_bridge_99 ?_
        refine lv_iload hx hb dX6_bridge_100 (lv_at hl 2 rfl) ?_
        obtain ⟨hwA, hwB⟩ := hw
        refine lv_icmp_ge (tgt := 109) hx hb dX6_bridge_102 (by decide) (fun cb => ?_) (fun cb => ?_)
        · have hw := hwA cb
          refine lv_iconst (v := 0) hx hb dX6_bridge_109 (by decide) ?_
          exact N110 v5 v6 0 hw _ _ _ hP hD hS (lv_sub hl [0, 1, 2, 3, 4] rfl)
        · have hw := hwB cb
          refine lv_iconst (v := 1) hx hb dX6_bridge_105 (by decide) ?_
          refine lv_goto (tgt := 110) hx hb dX6_bridge_106 (by decide) ?_
          exact N110 v5 v6 1 hw _ _ _ hP hD hS (lv_sub hl [0, 1, 2, 3, 4] rfl)
  unfold wp_X6_bridge at hw
  refine lv_aload_n hx hb dX6_bridge_0 rfl (lv_at hl 0 rfl) ?_
  refine lv_iload_n hx hb dX6_bridge_1 rfl (lv_at hl 1 rfl) ?_
  refine cl_Vi (As := [.int v1]) (rest := []) ⟨hx, hb, hml, hown, hts⟩ (c_X6_layPart l D cI cJ cZ cO mA mAx mAy mAi mAr mAo mAc mAg mAe mAS mAp mx my mi mn mr mo mf mt md mc mk mg mh me mS mp v1 _ hw) (cwV 1 hts gX6_bridge_X6_layPart rfl rfl rfl hd_X6_layPart ⟨Nat.le_trans (Nat.le_of_ble_eq_true rfl) hRf, Nat.le_trans (Nat.le_of_ble_eq_true rfl) hRl⟩) hK hP hD hS hA [0, 1, 2, 3, 4, 5, 6, 7, 8, 9, 10] [] rfl (by decide) rfl (by decide) (by decide) 0 5 rfl rfl rfl hl.1 rfl (Nat.le_of_ble_eq_true rfl) dX6_bridge_2 ⟨Nat.zero_le _, Nat.zero_le _⟩ (fun r2 u H locs hw hP hD hS => ?_)
  obtain ⟨mr_2, mo_2, mf_2, mt_2, md_2⟩ := u
  try dsimp only at hw
  have hP : va_P D vwCl [(mA, .inr (5, [.ref mAx, .ref mAy, .ref mAi, .int mn, .ref mAr, .ref mAo, .int mf_2, .int mt_2, .int md_2, .ref mAc, .int mk, .ref mAg, .int mh, .ref mAe, .ref mAS, .ref mAp])), (mAx, .inl (cI, 32, .inl mx)), (mAy, .inl (cI, 32, .inl my)), (mAi, .inl (cZ, 32, .inl mi)), (mAr, .inl (cI, 32, .inl mr_2)), (mAo, .inl (cI, 32, .inl mo_2)), (mAc, .inl (cI, 34, .inl mc)), (mAg, .inl (cI, 34, .inl mg)), (mAe, .inl (cI, 128, .inl me)), (mAS, .inl (cJ, 2, .inr (.inl mS))), (mAp, .inl (cZ, 2, .inl mp))] H := hP.sub [0, 1, 2, 3, 4, 5, 6, 7, 8, 9, 10] rfl
  have hD : va_D A [(mA, .inr (5, [.ref mAx, .ref mAy, .ref mAi, .int mn, .ref mAr, .ref mAo, .int mf_2, .int mt_2, .int md_2, .ref mAc, .int mk, .ref mAg, .int mh, .ref mAe, .ref mAS, .ref mAp])), (mAx, .inl (cI, 32, .inl mx)), (mAy, .inl (cI, 32, .inl my)), (mAi, .inl (cZ, 32, .inl mi)), (mAr, .inl (cI, 32, .inl mr_2)), (mAo, .inl (cI, 32, .inl mo_2)), (mAc, .inl (cI, 34, .inl mc)), (mAg, .inl (cI, 34, .inl mg)), (mAe, .inl (cI, 128, .inl me)), (mAS, .inl (cJ, 2, .inr (.inl mS))), (mAp, .inl (cZ, 2, .inl mp))] := hD.sub [0, 1, 2, 3, 4, 5, 6, 7, 8, 9, 10] (by decide) rfl
  obtain ⟨hwA, hwB⟩ := hw
  refine lv_if_ne (tgt := 10) hx hb dX6_bridge_5 (by decide) (fun cb => ?_) (fun cb => ?_)
  · have hw := hwA cb
    refine lv_aload_n hx hb dX6_bridge_10 rfl (lv_at hl 0 rfl) ?_
    refine va_get (D := D) (ci := 5) (v := .int mt_2) (C := RX6) (T := TX6) (N := 16) hx hb hts in_X6_bridge_X6 hown hK hP 0 rfl rfl 7 (by decide) (hts (.fieldLink RX6 69 "LiveHullModel" "to" "I") (List.mem_of_getElem? (i := 1) rfl)) (fun _ h9 => h9) rfl dX6_bridge_11 ?_
    refine lv_aload_n hx hb dX6_bridge_14 rfl (lv_at hl 0 rfl) ?_
    refine va_get (D := D) (ci := 5) (v := .int mf_2) (C := RX6) (T := TX6) (N := 16) hx hb hts in_X6_bridge_X6 hown hK hP 0 rfl rfl 6 (by decide) (hts (.fieldLink RX6 66 "LiveHullModel" "from" "I") (List.mem_of_getElem? (i := 2) rfl)) (fun _ h9 => h9) rfl dX6_bridge_15 ?_
    refine lv_isub hx hb dX6_bridge_18 ?_
    refine lv_iconst (v := 2) hx hb dX6_bridge_19 (by decide) ?_
    obtain ⟨hwA, hwB⟩ := hw
    refine lv_icmp_ge (tgt := 26) hx hb dX6_bridge_20 (by decide) (fun cb => ?_) (fun cb => ?_)
    · have hw := hwA cb
      refine lv_iload_n hx hb dX6_bridge_26 rfl (lv_at hl 2 rfl) ?_
      refine lv_iconst (v := 0) hx hb dX6_bridge_27 (by decide) ?_
      refine lv_iconst (v := 1) hx hb dX6_bridge_28 (by decide) ?_
      refine cl_Si (As := [.int v2, .int 0, .int 1]) (rest := []) ⟨hx, hb, hml, hown, hts⟩ (c_X6_in l D cI cJ cZ cO   v2 0 1 _ hw) (va_cwS 3 hts gX6_bridge_X6_in rfl rfl rfl hd_X6_in.2 ⟨Nat.le_trans (Nat.le_of_ble_eq_true rfl) hRf, Nat.le_trans (Nat.le_of_ble_eq_true rfl) hRl⟩) hK hP hD hS hA [] [0, 1, 2, 3, 4, 5, 6, 7, 8, 9, 10] rfl (by decide) rfl (by decide) (by decide) rfl hl.1 rfl (Nat.le_of_ble_eq_true rfl) dX6_bridge_29 ⟨Nat.zero_le _, Nat.zero_le _⟩ (fun r29 _u H locs hw hP hD hS => ?_)
      try dsimp only at hw
      have hP : va_P D vwCl [(mA, .inr (5, [.ref mAx, .ref mAy, .ref mAi, .int mn, .ref mAr, .ref mAo, .int mf_2, .int mt_2, .int md_2, .ref mAc, .int mk, .ref mAg, .int mh, .ref mAe, .ref mAS, .ref mAp])), (mAx, .inl (cI, 32, .inl mx)), (mAy, .inl (cI, 32, .inl my)), (mAi, .inl (cZ, 32, .inl mi)), (mAr, .inl (cI, 32, .inl mr_2)), (mAo, .inl (cI, 32, .inl mo_2)), (mAc, .inl (cI, 34, .inl mc)), (mAg, .inl (cI, 34, .inl mg)), (mAe, .inl (cI, 128, .inl me)), (mAS, .inl (cJ, 2, .inr (.inl mS))), (mAp, .inl (cZ, 2, .inl mp))] H := hP.sub [0, 1, 2, 3, 4, 5, 6, 7, 8, 9, 10] rfl
      have hD : va_D A [(mA, .inr (5, [.ref mAx, .ref mAy, .ref mAi, .int mn, .ref mAr, .ref mAo, .int mf_2, .int mt_2, .int md_2, .ref mAc, .int mk, .ref mAg, .int mh, .ref mAe, .ref mAS, .ref mAp])), (mAx, .inl (cI, 32, .inl mx)), (mAy, .inl (cI, 32, .inl my)), (mAi, .inl (cZ, 32, .inl mi)), (mAr, .inl (cI, 32, .inl mr_2)), (mAo, .inl (cI, 32, .inl mo_2)), (mAc, .inl (cI, 34, .inl mc)), (mAg, .inl (cI, 34, .inl mg)), (mAe, .inl (cI, 128, .inl me)), (mAS, .inl (cJ, 2, .inr (.inl mS))), (mAp, .inl (cZ, 2, .inl mp))] := hD.sub [0, 1, 2, 3, 4, 5, 6, 7, 8, 9, 10] (by decide) rfl
      obtain ⟨hwA, hwB⟩ := hw
      refine lv_if_eq (tgt := 44) hx hb dX6_bridge_32 (by decide) (fun cb => ?_) (fun cb => ?_)
      · have hw := hwA cb
        refine lv_bipush (v := (-2)) hx hb dX6_bridge_44 (by decide) ?_
        exact ret _ _ _ _ (-2) (mr_2, mo_2, mf_2, mt_2, md_2, mc, mk) (vp_nar_int _) hw hP hD hS dX6_bridge_46
      · have hw := hwB cb
        refine lv_iload_n hx hb dX6_bridge_35 rfl (lv_at hl 3 rfl) ?_
        refine lv_iconst (v := 0) hx hb dX6_bridge_36 (by decide) ?_
        refine lv_iconst (v := 1) hx hb dX6_bridge_37 (by decide) ?_
        refine cl_Si (As := [.int v3, .int 0, .int 1]) (rest := []) ⟨hx, hb, hml, hown, hts⟩ (c_X6_in l D cI cJ cZ cO   v3 0 1 _ hw) (va_cwS 3 hts gX6_bridge_X6_in rfl rfl rfl hd_X6_in.2 ⟨Nat.le_trans (Nat.le_of_ble_eq_true rfl) hRf, Nat.le_trans (Nat.le_of_ble_eq_true rfl) hRl⟩) hK hP hD hS hA [] [0, 1, 2, 3, 4, 5, 6, 7, 8, 9, 10] rfl (by decide) rfl (by decide) (by decide) rfl hl.1 rfl (Nat.le_of_ble_eq_true rfl) dX6_bridge_38 ⟨Nat.zero_le _, Nat.zero_le _⟩ (fun r38 _u H locs hw hP hD hS => ?_)
        try dsimp only at hw
        have hP : va_P D vwCl [(mA, .inr (5, [.ref mAx, .ref mAy, .ref mAi, .int mn, .ref mAr, .ref mAo, .int mf_2, .int mt_2, .int md_2, .ref mAc, .int mk, .ref mAg, .int mh, .ref mAe, .ref mAS, .ref mAp])), (mAx, .inl (cI, 32, .inl mx)), (mAy, .inl (cI, 32, .inl my)), (mAi, .inl (cZ, 32, .inl mi)), (mAr, .inl (cI, 32, .inl mr_2)), (mAo, .inl (cI, 32, .inl mo_2)), (mAc, .inl (cI, 34, .inl mc)), (mAg, .inl (cI, 34, .inl mg)), (mAe, .inl (cI, 128, .inl me)), (mAS, .inl (cJ, 2, .inr (.inl mS))), (mAp, .inl (cZ, 2, .inl mp))] H := hP.sub [0, 1, 2, 3, 4, 5, 6, 7, 8, 9, 10] rfl
        have hD : va_D A [(mA, .inr (5, [.ref mAx, .ref mAy, .ref mAi, .int mn, .ref mAr, .ref mAo, .int mf_2, .int mt_2, .int md_2, .ref mAc, .int mk, .ref mAg, .int mh, .ref mAe, .ref mAS, .ref mAp])), (mAx, .inl (cI, 32, .inl mx)), (mAy, .inl (cI, 32, .inl my)), (mAi, .inl (cZ, 32, .inl mi)), (mAr, .inl (cI, 32, .inl mr_2)), (mAo, .inl (cI, 32, .inl mo_2)), (mAc, .inl (cI, 34, .inl mc)), (mAg, .inl (cI, 34, .inl mg)), (mAe, .inl (cI, 128, .inl me)), (mAS, .inl (cJ, 2, .inr (.inl mS))), (mAp, .inl (cZ, 2, .inl mp))] := hD.sub [0, 1, 2, 3, 4, 5, 6, 7, 8, 9, 10] (by decide) rfl
        obtain ⟨hwA, hwB⟩ := hw
        refine lv_if_ne (tgt := 47) hx hb dX6_bridge_41 (by decide) (fun cb => ?_) (fun cb => ?_)
        · have hw := hwA cb
          refine lv_aload_n hx hb dX6_bridge_47 rfl (lv_at hl 0 rfl) ?_
          refine lv_iload_n hx hb dX6_bridge_48 rfl (lv_at hl 2 rfl) ?_
          refine cl_Vv (As := [.int v2]) (rest := []) ⟨hx, hb, hml, hown, hts⟩ (c_X6_layChain l D cI cJ cZ cO mA mAx mAy mAi mAr mAo mAc mAg mAe mAS mAp mx my mi mn mr_2 mo_2 mf_2 mt_2 md_2 mc mk mg mh me mS mp v2 _ hw) (cwV 1 hts gX6_bridge_X6_layChain rfl rfl rfl hd_X6_layChain ⟨Nat.le_trans (Nat.le_of_ble_eq_true rfl) hRf, Nat.le_trans (Nat.le_of_ble_eq_true rfl) hRl⟩) hK hP hD hS hA [0, 1, 2, 3, 4, 5, 6, 7, 8, 9, 10] [] rfl (by decide) rfl (by decide) (by decide) 0 5 rfl rfl rfl hl.1 rfl (Nat.le_of_ble_eq_true rfl) dX6_bridge_49 ⟨Nat.zero_le _, Nat.zero_le _⟩ (fun u H locs hw hP hD hS => ?_)
          obtain ⟨mc_49, mk_49⟩ := u
          try dsimp only at hw
          have hP : va_P D vwCl [(mA, .inr (5, [.ref mAx, .ref mAy, .ref mAi, .int mn, .ref mAr, .ref mAo, .int mf_2, .int mt_2, .int md_2, .ref mAc, .int mk_49, .ref mAg, .int mh, .ref mAe, .ref mAS, .ref mAp])), (mAx, .inl (cI, 32, .inl mx)), (mAy, .inl (cI, 32, .inl my)), (mAi, .inl (cZ, 32, .inl mi)), (mAr, .inl (cI, 32, .inl mr_2)), (mAo, .inl (cI, 32, .inl mo_2)), (mAc, .inl (cI, 34, .inl mc_49)), (mAg, .inl (cI, 34, .inl mg)), (mAe, .inl (cI, 128, .inl me)), (mAS, .inl (cJ, 2, .inr (.inl mS))), (mAp, .inl (cZ, 2, .inl mp))] H := hP.sub [0, 1, 2, 3, 4, 5, 6, 7, 8, 9, 10] rfl
          have hD : va_D A [(mA, .inr (5, [.ref mAx, .ref mAy, .ref mAi, .int mn, .ref mAr, .ref mAo, .int mf_2, .int mt_2, .int md_2, .ref mAc, .int mk_49, .ref mAg, .int mh, .ref mAe, .ref mAS, .ref mAp])), (mAx, .inl (cI, 32, .inl mx)), (mAy, .inl (cI, 32, .inl my)), (mAi, .inl (cZ, 32, .inl mi)), (mAr, .inl (cI, 32, .inl mr_2)), (mAo, .inl (cI, 32, .inl mo_2)), (mAc, .inl (cI, 34, .inl mc_49)), (mAg, .inl (cI, 34, .inl mg)), (mAe, .inl (cI, 128, .inl me)), (mAS, .inl (cJ, 2, .inr (.inl mS))), (mAp, .inl (cZ, 2, .inl mp))] := hD.sub [0, 1, 2, 3, 4, 5, 6, 7, 8, 9, 10] (by decide) rfl
          refine lv_aload_n hx hb dX6_bridge_52 rfl (lv_at hl 0 rfl) ?_
          refine va_get (D := D) (ci := 5) (v := .int mf_2) (C := RX6) (T := TX6) (N := 16) hx hb hts in_X6_bridge_X6 hown hK hP 0 rfl rfl 6 (by decide) (hts (.fieldLink RX6 66 "LiveHullModel" "from" "I") (List.mem_of_getElem? (i := 2) rfl)) (fun _ h9 => h9) rfl dX6_bridge_53 ?_
          refine lv_aload_n hx hb dX6_bridge_56 rfl (lv_at hl 0 rfl) ?_
          refine va_get (D := D) (ci := 5) (v := .int mt_2) (C := RX6) (T := TX6) (N := 16) hx hb hts in_X6_bridge_X6 hown hK hP 0 rfl rfl 7 (by decide) (hts (.fieldLink RX6 69 "LiveHullModel" "to" "I") (List.mem_of_getElem? (i := 1) rfl)) (fun _ h9 => h9) rfl dX6_bridge_57 ?_
          refine lv_aload_n hx hb dX6_bridge_60 rfl (lv_at hl 0 rfl) ?_
          refine va_get (D := D) (ci := 5) (v := .int mf_2) (C := RX6) (T := TX6) (N := 16) hx hb hts in_X6_bridge_X6 hown hK hP 0 rfl rfl 6 (by decide) (hts (.fieldLink RX6 66 "LiveHullModel" "from" "I") (List.mem_of_getElem? (i := 2) rfl)) (fun _ h9 => h9) rfl dX6_bridge_61 ?_
          refine lv_isub hx hb dX6_bridge_64 ?_
          refine lv_iconst (v := 1) hx hb dX6_bridge_65 (by decide) ?_
          refine lv_iadd hx hb dX6_bridge_66 ?_
          refine lv_iconst (v := 2) hx hb dX6_bridge_67 (by decide) ?_
          refine lv_idiv hx hb dX6_bridge_68 (by decide) ?_
          refine lv_iadd hx hb dX6_bridge_69 ?_
          refine lv_istore (lv' := [(4, .int (mf_2 + (((mt_2 - mf_2) + 1) / 2))), (0, .ref mA), (1, .int v1), (2, .int v2), (3, .int v3)]) hx hb dX6_bridge_70 hl (by decide) rfl (fun ls hl => ?_)
          refine lv_bipush (v := (-6)) hx hb dX6_bridge_72 (by decide) ?_
          refine lv_istore (lv' := [(5, .int (-6)), (4, .int (mf_2 + (((mt_2 - mf_2) + 1) / 2))), (0, .ref mA), (1, .int v1), (2, .int v2), (3, .int v3)]) hx hb dX6_bridge_74 hl (by decide) rfl (fun ls hl => ?_)
          refine lv_iconst (v := 0) hx hb dX6_bridge_76 (by decide) ?_
          refine lv_istore (lv' := [(6, .int 0), (5, .int (-6)), (4, .int (mf_2 + (((mt_2 - mf_2) + 1) / 2))), (0, .ref mA), (1, .int v1), (2, .int v2), (3, .int v3)]) hx hb dX6_bridge_77 hl (by decide) rfl (fun ls hl => ?_)
          obtain ⟨k, hw⟩ := hw
          exact N79 mr_2 mo_2 mf_2 mt_2 md_2 mc_49 mk_49 (mf_2 + (((mt_2 - mf_2) + 1) / 2)) k (-6) 0 hw _ _ _ hP hD hS (lv_sub hl [3, 6, 2, 1, 0] rfl)
        · have hw := hwB cb
          refine lv_bipush (v := (-2)) hx hb dX6_bridge_44 (by decide) ?_
          exact ret _ _ _ _ (-2) (mr_2, mo_2, mf_2, mt_2, md_2, mc, mk) (vp_nar_int _) hw hP hD hS dX6_bridge_46
    · have hw := hwB cb
      refine lv_bipush (v := (-5)) hx hb dX6_bridge_23 (by decide) ?_
      exact ret _ _ _ _ (-5) (mr_2, mo_2, mf_2, mt_2, md_2, mc, mk) (vp_nar_int _) hw hP hD hS dX6_bridge_25
  · have hw := hwB cb
    refine lv_iconst (v := (-1)) hx hb dX6_bridge_8 (by decide) ?_
    exact ret _ _ _ _ (-1) (mr_2, mo_2, mf_2, mt_2, md_2, mc, mk) (vp_nar_int _) hw hP hD hS dX6_bridge_9
theorem in_X6_ringUp_X6 : ∀ w ∈ wsX60, w ∈ wsX6_ringUp := fun _ h => List.mem_cons_of_mem _ (List.mem_append_right _ h)
theorem hd_X6_ringUp : yX6_ringUp.cls = RX6 ∧ yX6_ringUp.cls ≠ "java/lang/invoke/MethodHandle" ∧ yX6_ringUp.cls ≠ "java/lang/invoke/VarHandle" ∧ (parseMethodDescriptor yX6_ringUp.desc).map (fun d => d.parameters.length) = some 1 := by decide +kernel
set_option maxHeartbeats 8000000 in
set_option maxRecDepth 100000 in
theorem c_X6_ringUp (l : Launch) (D : va_G) (cI cJ cZ cO : ClassId) (mA mAx mAy mAi mAr mAo mAc mAg mAe mAS mAp : Nat) (mx : Nat → Int32) (my : Nat → Int32) (mi : Nat → Int32) (mn : Int32) (mr : Nat → Int32) (mo : Nat → Int32) (mf : Int32) (mt : Int32) (md : Int32) (mc : Nat → Int32) (mk : Int32) (mg : Nat → Int32) (mh : Int32) (me : Nat → Int32) (mS : Nat → Int64) (mp : Nat → Int32) (v1 : Int32) (K : (Nat → Int32) → Int32 → Prop) (hw : wp_X6_ringUp mg mh v1 K) : Cv l D (tys4 cI cJ cZ cO) yX6_ringUp wsX6_ringUp { frames := 0, cells := 0, slots := 0, locals := 0 } [.ref mA, .int v1] [(mA, .inr (5, [.ref mAx, .ref mAy, .ref mAi, .int mn, .ref mAr, .ref mAo, .int mf, .int mt, .int md, .ref mAc, .int mk, .ref mAg, .int mh, .ref mAe, .ref mAS, .ref mAp])), (mAx, .inl (cI, 32, .inl mx)), (mAy, .inl (cI, 32, .inl my)), (mAi, .inl (cZ, 32, .inl mi)), (mAr, .inl (cI, 32, .inl mr)), (mAo, .inl (cI, 32, .inl mo)), (mAc, .inl (cI, 34, .inl mc)), (mAg, .inl (cI, 34, .inl mg)), (mAe, .inl (cI, 128, .inl me)), (mAS, .inl (cJ, 2, .inr (.inl mS))), (mAp, .inl (cZ, 2, .inl mp))] (fun (u : (Nat → Int32) × (Int32)) => K u.1 u.2) (fun u => [(mA, .inr (5, [.ref mAx, .ref mAy, .ref mAi, .int mn, .ref mAr, .ref mAo, .int mf, .int mt, .int md, .ref mAc, .int mk, .ref mAg, .int u.2, .ref mAe, .ref mAS, .ref mAp])), (mAx, .inl (cI, 32, .inl mx)), (mAy, .inl (cI, 32, .inl my)), (mAi, .inl (cZ, 32, .inl mi)), (mAr, .inl (cI, 32, .inl mr)), (mAo, .inl (cI, 32, .inl mo)), (mAc, .inl (cI, 34, .inl mc)), (mAg, .inl (cI, 34, .inl u.1)), (mAe, .inl (cI, 128, .inl me)), (mAS, .inl (cJ, 2, .inr (.inl mS))), (mAp, .inl (cZ, 2, .inl mp))]) := by
  refine mt_v (cc := cX6_ringUp) (maxL := 4) (by decide) rfl (Nat.le_of_ble_eq_true rfl) ?_
  intro p e s m args below meth c Q A R ls hRf hRl hx hb hml hown hts hK hA hP hD hS hl ret
  have hown : s.vm.findClass RX6 = some m.cls := hown
  have hl : lv_has ls 4 [(0, .ref mA), (1, .int v1)] := hl
  have N4 : ∀ (mg : Nat → Int32) (mh : Int32) (k : Nat) (v2 : Int32) (v3 : Int32), wp_X6_ringUp_4 v1 K  mg mh k v2 v3 → ∀ (H : Heap) (locs : List Loc) (ls : Array Slot), va_P D vwCl [(mA, .inr (5, [.ref mAx, .ref mAy, .ref mAi, .int mn, .ref mAr, .ref mAo, .int mf, .int mt, .int md, .ref mAc, .int mk, .ref mAg, .int mh, .ref mAe, .ref mAS, .ref mAp])), (mAx, .inl (cI, 32, .inl mx)), (mAy, .inl (cI, 32, .inl my)), (mAi, .inl (cZ, 32, .inl mi)), (mAr, .inl (cI, 32, .inl mr)), (mAo, .inl (cI, 32, .inl mo)), (mAc, .inl (cI, 34, .inl mc)), (mAg, .inl (cI, 34, .inl mg)), (mAe, .inl (cI, 128, .inl me)), (mAS, .inl (cJ, 2, .inr (.inl mS))), (mAp, .inl (cZ, 2, .inl mp))] H → va_D A [(mA, .inr (5, [.ref mAx, .ref mAy, .ref mAi, .int mn, .ref mAr, .ref mAo, .int mf, .int mt, .int md, .ref mAc, .int mk, .ref mAg, .int mh, .ref mAe, .ref mAS, .ref mAp])), (mAx, .inl (cI, 32, .inl mx)), (mAy, .inl (cI, 32, .inl my)), (mAi, .inl (cZ, 32, .inl mi)), (mAr, .inl (cI, 32, .inl mr)), (mAo, .inl (cI, 32, .inl mo)), (mAc, .inl (cI, 34, .inl mc)), (mAg, .inl (cI, 34, .inl mg)), (mAe, .inl (cI, 128, .inl me)), (mAS, .inl (cJ, 2, .inr (.inl mS))), (mAp, .inl (cZ, 2, .inl mp))] → va_S A s.heap H locs → lv_has ls 4 [(0, .ref mA), (1, .int v1), (2, .int v2), (3, .int v3)] → W p l e R s m args below meth c H locs 0 0 Q (F0 m 4 ls []) := by
    intro mg mh
    intro k
    induction k with
    | zero => intro v2 v3 hw; exact False.elim hw
    | succ k ih4 =>
      intro v2 v3 hw H locs ls hP hD hS hl
      have hw : wp_X6_ringUp_4b v1 K (wp_X6_ringUp_4 v1 K  mg mh k)  mg mh v2 v3 := hw
      unfold wp_X6_ringUp_4b at hw
      generalize wp_X6_ringUp_4 v1 K  mg mh k = L4 at hw ih4
      refine lv_iload_n hx hb dX6_ringUp_4 rfl (lv_at hl 3 rfl) ?_
      refine lv_aload_n hx hb dX6_ringUp_5 rfl (lv_at hl 0 rfl) ?_
      refine va_get (D := D) (ci := 5) (v := .int mh) (C := RX6) (T := TX6) (N := 16) hx hb hts in_X6_ringUp_X6 hown hK hP 0 rfl rfl 12 (by decide) (hts (.fieldLink RX6 114 "LiveHullModel" "rings" "I") (List.mem_of_getElem? (i := 1) rfl)) (fun _ h9 => h9) rfl dX6_ringUp_6 ?_
      obtain ⟨hwA, hwB⟩ := hw
      refine lv_icmp_ge (tgt := 38) hx hb dX6_ringUp_9 (by decide) (fun cb => ?_) (fun cb => ?_)
      · have hw := hwA cb
        refine lv_iload_n hx hb dX6_ringUp_38 rfl (lv_at hl 2 rfl) ?_
        obtain ⟨hwA, hwB⟩ := hw
        refine lv_if_eq (tgt := 62) hx hb dX6_ringUp_39 (by decide) (fun cb => ?_) (fun cb => ?_)
        · have hw := hwA cb
          exact ret _ _ _ _ (mg, mh) hw hP hD hS dX6_ringUp_62
        · have hw := hwB cb
          refine lv_aload_n hx hb dX6_ringUp_42 rfl (lv_at hl 0 rfl) ?_
          refine va_get (D := D) (ci := 5) (v := .ref mAg) (C := RX6) (T := TX6) (N := 16) hx hb hts in_X6_ringUp_X6 hown hK hP 0 rfl rfl 11 (by decide) (hts (.fieldLink RX6 29 "LiveHullModel" "ring" "[I") (List.mem_of_getElem? (i := 2) rfl)) (fun _ h9 => h9) rfl dX6_ringUp_43 ?_
          refine lv_aload_n hx hb dX6_ringUp_46 rfl (lv_at hl 0 rfl) ?_
          refine va_get (D := D) (ci := 5) (v := .int mh) (C := RX6) (T := TX6) (N := 16) hx hb hts in_X6_ringUp_X6 hown hK hP 0 rfl rfl 12 (by decide) (hts (.fieldLink RX6 114 "LiveHullModel" "rings" "I") (List.mem_of_getElem? (i := 1) rfl)) (fun _ h9 => h9) rfl dX6_ringUp_47 ?_
          refine lv_iload_n hx hb dX6_ringUp_50 rfl (lv_at hl 1 rfl) ?_
          obtain ⟨hi, hw⟩ := hw
          refine va_iast hx hb hK hP hD hS 7 0 rfl rfl hi dX6_ringUp_51 (fun H locs hP hD hS => ?_)
          have hP : va_P D vwCl [(mA, .inr (5, [.ref mAx, .ref mAy, .ref mAi, .int mn, .ref mAr, .ref mAo, .int mf, .int mt, .int md, .ref mAc, .int mk, .ref mAg, .int mh, .ref mAe, .ref mAS, .ref mAp])), (mAx, .inl (cI, 32, .inl mx)), (mAy, .inl (cI, 32, .inl my)), (mAi, .inl (cZ, 32, .inl mi)), (mAr, .inl (cI, 32, .inl mr)), (mAo, .inl (cI, 32, .inl mo)), (mAc, .inl (cI, 34, .inl mc)), (mAg, .inl (cI, 34, .inl (upd mg mh.toNatClampNeg v1))), (mAe, .inl (cI, 128, .inl me)), (mAS, .inl (cJ, 2, .inr (.inl mS))), (mAp, .inl (cZ, 2, .inl mp))] H := hP
          have hD : va_D A [(mA, .inr (5, [.ref mAx, .ref mAy, .ref mAi, .int mn, .ref mAr, .ref mAo, .int mf, .int mt, .int md, .ref mAc, .int mk, .ref mAg, .int mh, .ref mAe, .ref mAS, .ref mAp])), (mAx, .inl (cI, 32, .inl mx)), (mAy, .inl (cI, 32, .inl my)), (mAi, .inl (cZ, 32, .inl mi)), (mAr, .inl (cI, 32, .inl mr)), (mAo, .inl (cI, 32, .inl mo)), (mAc, .inl (cI, 34, .inl mc)), (mAg, .inl (cI, 34, .inl (upd mg mh.toNatClampNeg v1))), (mAe, .inl (cI, 128, .inl me)), (mAS, .inl (cJ, 2, .inr (.inl mS))), (mAp, .inl (cZ, 2, .inl mp))] := hD
          refine lv_aload_n hx hb dX6_ringUp_52 rfl (lv_at hl 0 rfl) ?_
          refine lv_dup hx hb dX6_ringUp_53 rfl ?_
          refine va_get (D := D) (ci := 5) (v := .int mh) (C := RX6) (T := TX6) (N := 16) hx hb hts in_X6_ringUp_X6 hown hK hP 0 rfl rfl 12 (by decide) (hts (.fieldLink RX6 114 "LiveHullModel" "rings" "I") (List.mem_of_getElem? (i := 1) rfl)) (fun _ h9 => h9) rfl dX6_ringUp_54 ?_
          refine lv_iconst (v := 1) hx hb dX6_ringUp_57 (by decide) ?_
          refine lv_iadd hx hb dX6_ringUp_58 ?_
          refine va_put (D := D) (ci := 5) (v := .int (mh + 1)) (ty := .int) (C := RX6) (T := TX6) (N := 16) hx hb hts in_X6_ringUp_X6 tyX6 tyX6_ok nmX6 hown hK hP hD hS 0 rfl rfl 12 (by decide) (hts (.fieldLink RX6 114 "LiveHullModel" "rings" "I") (List.mem_of_getElem? (i := 1) rfl)) (fun _ h9 => h9) rfl (by decide +kernel) rfl rfl (Nat.le_of_ble_eq_true rfl) dX6_ringUp_59 (fun H locs hP hD hS => ?_)
          have hP : va_P D vwCl [(mA, .inr (5, [.ref mAx, .ref mAy, .ref mAi, .int mn, .ref mAr, .ref mAo, .int mf, .int mt, .int md, .ref mAc, .int mk, .ref mAg, .int (mh + 1), .ref mAe, .ref mAS, .ref mAp])), (mAx, .inl (cI, 32, .inl mx)), (mAy, .inl (cI, 32, .inl my)), (mAi, .inl (cZ, 32, .inl mi)), (mAr, .inl (cI, 32, .inl mr)), (mAo, .inl (cI, 32, .inl mo)), (mAc, .inl (cI, 34, .inl mc)), (mAg, .inl (cI, 34, .inl (upd mg mh.toNatClampNeg v1))), (mAe, .inl (cI, 128, .inl me)), (mAS, .inl (cJ, 2, .inr (.inl mS))), (mAp, .inl (cZ, 2, .inl mp))] H := hP
          have hD : va_D A [(mA, .inr (5, [.ref mAx, .ref mAy, .ref mAi, .int mn, .ref mAr, .ref mAo, .int mf, .int mt, .int md, .ref mAc, .int mk, .ref mAg, .int (mh + 1), .ref mAe, .ref mAS, .ref mAp])), (mAx, .inl (cI, 32, .inl mx)), (mAy, .inl (cI, 32, .inl my)), (mAi, .inl (cZ, 32, .inl mi)), (mAr, .inl (cI, 32, .inl mr)), (mAo, .inl (cI, 32, .inl mo)), (mAc, .inl (cI, 34, .inl mc)), (mAg, .inl (cI, 34, .inl (upd mg mh.toNatClampNeg v1))), (mAe, .inl (cI, 128, .inl me)), (mAS, .inl (cJ, 2, .inr (.inl mS))), (mAp, .inl (cZ, 2, .inl mp))] := hD
          exact ret _ _ _ _ ((upd mg mh.toNatClampNeg v1), (mh + 1)) hw hP hD hS dX6_ringUp_62
      · have hw := hwB cb
        refine lv_iload_n hx hb dX6_ringUp_12 rfl (lv_at hl 2 rfl) ?_
        obtain ⟨hwA, hwB⟩ := hw
        refine lv_if_eq (tgt := 30) hx hb dX6_ringUp_13 (by decide) (fun cb => ?_) (fun cb => ?_)
        · have hw := hwA cb
          refine lv_iconst (v := 0) hx hb dX6_ringUp_30 (by decide) ?_
          refine lv_istore_n (lv' := [(2, .int 0), (0, .ref mA), (1, .int v1), (3, .int v3)]) hx hb dX6_ringUp_31 rfl hl (by decide) rfl (fun ls hl => ?_)
          refine lv_iinc (v := (v3 + 1)) (lv' := [(3, .int (v3 + 1)), (2, .int 0), (0, .ref mA), (1, .int v1)]) hx hb dX6_ringUp_32 hl (k := 3) rfl rfl (by decide) rfl (fun ls hl => ?_)
          refine lv_goto (tgt := 4) hx hb dX6_ringUp_35 (by decide) ?_
          exact ih4 0 (v3 + 1) hw _ _ _ hP hD hS (lv_sub hl [2, 3, 1, 0] rfl)
        · have hw := hwB cb
          refine lv_aload_n hx hb dX6_ringUp_16 rfl (lv_at hl 0 rfl) ?_
          refine va_get (D := D) (ci := 5) (v := .ref mAg) (C := RX6) (T := TX6) (N := 16) hx hb hts in_X6_ringUp_X6 hown hK hP 0 rfl rfl 11 (by decide) (hts (.fieldLink RX6 29 "LiveHullModel" "ring" "[I") (List.mem_of_getElem? (i := 2) rfl)) (fun _ h9 => h9) rfl dX6_ringUp_17 ?_
          refine lv_iload_n hx hb dX6_ringUp_20 rfl (lv_at hl 3 rfl) ?_
          obtain ⟨hi, hw⟩ := hw
          refine va_iald hx hb hK hP 7 0 rfl rfl hi dX6_ringUp_21 ?_
          refine lv_iload_n hx hb dX6_ringUp_22 rfl (lv_at hl 1 rfl) ?_
          obtain ⟨hwA, hwB⟩ := hw
          refine lv_icmp_eq (tgt := 30) hx hb dX6_ringUp_23 (by decide) (fun cb => ?_) (fun cb => ?_)
          · have hw := hwA cb
            refine lv_iconst (v := 0) hx hb dX6_ringUp_30 (by decide) ?_
            refine lv_istore_n (lv' := [(2, .int 0), (0, .ref mA), (1, .int v1), (3, .int v3)]) hx hb dX6_ringUp_31 rfl hl (by decide) rfl (fun ls hl => ?_)
            refine lv_iinc (v := (v3 + 1)) (lv' := [(3, .int (v3 + 1)), (2, .int 0), (0, .ref mA), (1, .int v1)]) hx hb dX6_ringUp_32 hl (k := 3) rfl rfl (by decide) rfl (fun ls hl => ?_)
            refine lv_goto (tgt := 4) hx hb dX6_ringUp_35 (by decide) ?_
            exact ih4 0 (v3 + 1) hw _ _ _ hP hD hS (lv_sub hl [2, 3, 1, 0] rfl)
          · have hw := hwB cb
            refine lv_iconst (v := 1) hx hb dX6_ringUp_26 (by decide) ?_
            refine lv_goto (tgt := 31) hx hb dX6_ringUp_27 (by decide) ?_
            refine lv_istore_n (lv' := [(2, .int 1), (0, .ref mA), (1, .int v1), (3, .int v3)]) hx hb dX6_ringUp_31 rfl hl (by decide) rfl (fun ls hl => ?_)
            refine lv_iinc (v := (v3 + 1)) (lv' := [(3, .int (v3 + 1)), (2, .int 1), (0, .ref mA), (1, .int v1)]) hx hb dX6_ringUp_32 hl (k := 3) rfl rfl (by decide) rfl (fun ls hl => ?_)
            refine lv_goto (tgt := 4) hx hb dX6_ringUp_35 (by decide) ?_
            exact ih4 1 (v3 + 1) hw _ _ _ hP hD hS (lv_sub hl [2, 3, 1, 0] rfl)
  unfold wp_X6_ringUp at hw
  refine lv_iconst (v := 1) hx hb dX6_ringUp_0 (by decide) ?_
  refine lv_istore_n (lv' := [(2, .int 1), (0, .ref mA), (1, .int v1)]) hx hb dX6_ringUp_1 rfl hl (by decide) rfl (fun ls hl => ?_)
  refine lv_iconst (v := 0) hx hb dX6_ringUp_2 (by decide) ?_
  refine lv_istore_n (lv' := [(3, .int 0), (2, .int 1), (0, .ref mA), (1, .int v1)]) hx hb dX6_ringUp_3 rfl hl (by decide) rfl (fun ls hl => ?_)
  obtain ⟨k, hw⟩ := hw
  exact N4 mg mh k 1 0 hw _ _ _ hP hD hS (lv_sub hl [2, 3, 1, 0] rfl)
theorem in_X6_layRound_X6 : ∀ w ∈ wsX60, w ∈ wsX6_layRound := fun _ h => List.mem_cons_of_mem _ (List.mem_append_right _ h)
theorem hd_X6_layRound : yX6_layRound.cls = RX6 ∧ yX6_layRound.cls ≠ "java/lang/invoke/MethodHandle" ∧ yX6_layRound.cls ≠ "java/lang/invoke/VarHandle" ∧ (parseMethodDescriptor yX6_layRound.desc).map (fun d => d.parameters.length) = some 0 := by decide +kernel
set_option maxHeartbeats 8000000 in
set_option maxRecDepth 100000 in
theorem c_X6_layRound (l : Launch) (D : va_G) (cI cJ cZ cO : ClassId) (mA mAx mAy mAi mAr mAo mAc mAg mAe mAS mAp : Nat) (mx : Nat → Int32) (my : Nat → Int32) (mi : Nat → Int32) (mn : Int32) (mr : Nat → Int32) (mo : Nat → Int32) (mf : Int32) (mt : Int32) (md : Int32) (mc : Nat → Int32) (mk : Int32) (mg : Nat → Int32) (mh : Int32) (me : Nat → Int32) (mS : Nat → Int64) (mp : Nat → Int32)  (K : (Nat → Int32) → (Nat → Int32) → Int32 → Int32 → Int32 → (Nat → Int32) → Int32 → (Nat → Int32) → Int32 → Prop) (hw : wp_X6_layRound mx my mi mn mr mo mf mt md mc mk mg mh K) : Cv l D (tys4 cI cJ cZ cO) yX6_layRound wsX6_layRound { frames := 3, cells := 0, slots := 0, locals := 78 } [.ref mA] [(mA, .inr (5, [.ref mAx, .ref mAy, .ref mAi, .int mn, .ref mAr, .ref mAo, .int mf, .int mt, .int md, .ref mAc, .int mk, .ref mAg, .int mh, .ref mAe, .ref mAS, .ref mAp])), (mAx, .inl (cI, 32, .inl mx)), (mAy, .inl (cI, 32, .inl my)), (mAi, .inl (cZ, 32, .inl mi)), (mAr, .inl (cI, 32, .inl mr)), (mAo, .inl (cI, 32, .inl mo)), (mAc, .inl (cI, 34, .inl mc)), (mAg, .inl (cI, 34, .inl mg)), (mAe, .inl (cI, 128, .inl me)), (mAS, .inl (cJ, 2, .inr (.inl mS))), (mAp, .inl (cZ, 2, .inl mp))] (fun (u : (Nat → Int32) × (Nat → Int32) × (Int32) × (Int32) × (Int32) × (Nat → Int32) × (Int32) × (Nat → Int32) × (Int32)) => K u.1 u.2.1 u.2.2.1 u.2.2.2.1 u.2.2.2.2.1 u.2.2.2.2.2.1 u.2.2.2.2.2.2.1 u.2.2.2.2.2.2.2.1 u.2.2.2.2.2.2.2.2) (fun u => [(mA, .inr (5, [.ref mAx, .ref mAy, .ref mAi, .int mn, .ref mAr, .ref mAo, .int u.2.2.1, .int u.2.2.2.1, .int u.2.2.2.2.1, .ref mAc, .int u.2.2.2.2.2.2.1, .ref mAg, .int u.2.2.2.2.2.2.2.2, .ref mAe, .ref mAS, .ref mAp])), (mAx, .inl (cI, 32, .inl mx)), (mAy, .inl (cI, 32, .inl my)), (mAi, .inl (cZ, 32, .inl mi)), (mAr, .inl (cI, 32, .inl u.1)), (mAo, .inl (cI, 32, .inl u.2.1)), (mAc, .inl (cI, 34, .inl u.2.2.2.2.2.1)), (mAg, .inl (cI, 34, .inl u.2.2.2.2.2.2.2.1)), (mAe, .inl (cI, 128, .inl me)), (mAS, .inl (cJ, 2, .inr (.inl mS))), (mAp, .inl (cZ, 2, .inl mp))]) := by
  refine mt_v (cc := cX6_layRound) (maxL := 2) (by decide) rfl (Nat.le_of_ble_eq_true rfl) ?_
  intro p e s m args below meth c Q A R ls hRf hRl hx hb hml hown hts hK hA hP hD hS hl ret
  have hown : s.vm.findClass RX6 = some m.cls := hown
  have hl : lv_has ls 2 [(0, .ref mA)] := hl
  have N56 : ∀ (mr : Nat → Int32) (mo : Nat → Int32) (mf : Int32) (mt : Int32) (md : Int32) (mc : Nat → Int32) (mk : Int32) (k : Nat) (mg : Nat → Int32) (mh : Int32) (v1 : Int32), wp_X6_layRound_56 mx my mi mn K  mr mo mf mt md mc mk k mg mh v1 → ∀ (H : Heap) (locs : List Loc) (ls : Array Slot), va_P D vwCl [(mA, .inr (5, [.ref mAx, .ref mAy, .ref mAi, .int mn, .ref mAr, .ref mAo, .int mf, .int mt, .int md, .ref mAc, .int mk, .ref mAg, .int mh, .ref mAe, .ref mAS, .ref mAp])), (mAx, .inl (cI, 32, .inl mx)), (mAy, .inl (cI, 32, .inl my)), (mAi, .inl (cZ, 32, .inl mi)), (mAr, .inl (cI, 32, .inl mr)), (mAo, .inl (cI, 32, .inl mo)), (mAc, .inl (cI, 34, .inl mc)), (mAg, .inl (cI, 34, .inl mg)), (mAe, .inl (cI, 128, .inl me)), (mAS, .inl (cJ, 2, .inr (.inl mS))), (mAp, .inl (cZ, 2, .inl mp))] H → va_D A [(mA, .inr (5, [.ref mAx, .ref mAy, .ref mAi, .int mn, .ref mAr, .ref mAo, .int mf, .int mt, .int md, .ref mAc, .int mk, .ref mAg, .int mh, .ref mAe, .ref mAS, .ref mAp])), (mAx, .inl (cI, 32, .inl mx)), (mAy, .inl (cI, 32, .inl my)), (mAi, .inl (cZ, 32, .inl mi)), (mAr, .inl (cI, 32, .inl mr)), (mAo, .inl (cI, 32, .inl mo)), (mAc, .inl (cI, 34, .inl mc)), (mAg, .inl (cI, 34, .inl mg)), (mAe, .inl (cI, 128, .inl me)), (mAS, .inl (cJ, 2, .inr (.inl mS))), (mAp, .inl (cZ, 2, .inl mp))] → va_S A s.heap H locs → lv_has ls 2 [(0, .ref mA), (1, .int v1)] → W p l e R s m args below meth c H locs 0 0 Q (F0 m 56 ls []) := by
    intro mr mo mf mt md mc mk
    intro k
    induction k with
    | zero => intro mg mh v1 hw; exact False.elim hw
    | succ k ih56 =>
      intro mg mh v1 hw H locs ls hP hD hS hl
      have hw : wp_X6_layRound_56b mx my mi mn K (wp_X6_layRound_56 mx my mi mn K  mr mo mf mt md mc mk k)  mr mo mf mt md mc mk mg mh v1 := hw
      unfold wp_X6_layRound_56b at hw
      generalize wp_X6_layRound_56 mx my mi mn K  mr mo mf mt md mc mk k = L56 at hw ih56
      refine lv_iload_n hx hb dX6_layRound_56 rfl (lv_at hl 1 rfl) ?_
      obtain ⟨hwA, hwB⟩ := hw
      refine lv_if_lt (tgt := 76) hx hb dX6_layRound_57 (by decide) (fun cb => ?_) (fun cb => ?_)
      · have hw := hwA cb
        exact ret _ _ _ _ (mr, mo, mf, mt, md, mc, mk, mg, mh) hw hP hD hS dX6_layRound_76
      · have hw := hwB cb
        refine lv_aload_n hx hb dX6_layRound_60 rfl (lv_at hl 0 rfl) ?_
        refine lv_aload_n hx hb dX6_layRound_61 rfl (lv_at hl 0 rfl) ?_
        refine va_get (D := D) (ci := 5) (v := .ref mAc) (C := RX6) (T := TX6) (N := 16) hx hb hts in_X6_layRound_X6 hown hK hP 0 rfl rfl 9 (by decide) (hts (.fieldLink RX6 26 "LiveHullModel" "corner" "[I") (List.mem_of_getElem? (i := 3) rfl)) (fun _ h9 => h9) rfl dX6_layRound_62 ?_
        refine lv_iload_n hx hb dX6_layRound_65 rfl (lv_at hl 1 rfl) ?_
        obtain ⟨hi, hw⟩ := hw
        refine va_iald hx hb hK hP 6 0 rfl rfl hi dX6_layRound_66 ?_
        refine cl_Vv (As := [.int (mc v1.toNatClampNeg)]) (rest := []) ⟨hx, hb, hml, hown, hts⟩ (c_X6_ringUp l D cI cJ cZ cO mA mAx mAy mAi mAr mAo mAc mAg mAe mAS mAp mx my mi mn mr mo mf mt md mc mk mg mh me mS mp (mc v1.toNatClampNeg) _ hw) (cwV 1 hts gX6_layRound_X6_ringUp rfl rfl rfl hd_X6_ringUp ⟨Nat.le_trans (Nat.le_of_ble_eq_true rfl) hRf, Nat.le_trans (Nat.le_of_ble_eq_true rfl) hRl⟩) hK hP hD hS hA [0, 1, 2, 3, 4, 5, 6, 7, 8, 9, 10] [] rfl (by decide) rfl (by decide) (by decide) 0 5 rfl rfl rfl hl.1 rfl (Nat.le_of_ble_eq_true rfl) dX6_layRound_67 ⟨Nat.zero_le _, Nat.zero_le _⟩ (fun u H locs hw hP hD hS => ?_)
        obtain ⟨mg_67, mh_67⟩ := u
        try dsimp only at hw
        have hP : va_P D vwCl [(mA, .inr (5, [.ref mAx, .ref mAy, .ref mAi, .int mn, .ref mAr, .ref mAo, .int mf, .int mt, .int md, .ref mAc, .int mk, .ref mAg, .int mh_67, .ref mAe, .ref mAS, .ref mAp])), (mAx, .inl (cI, 32, .inl mx)), (mAy, .inl (cI, 32, .inl my)), (mAi, .inl (cZ, 32, .inl mi)), (mAr, .inl (cI, 32, .inl mr)), (mAo, .inl (cI, 32, .inl mo)), (mAc, .inl (cI, 34, .inl mc)), (mAg, .inl (cI, 34, .inl mg_67)), (mAe, .inl (cI, 128, .inl me)), (mAS, .inl (cJ, 2, .inr (.inl mS))), (mAp, .inl (cZ, 2, .inl mp))] H := hP.sub [0, 1, 2, 3, 4, 5, 6, 7, 8, 9, 10] rfl
        have hD : va_D A [(mA, .inr (5, [.ref mAx, .ref mAy, .ref mAi, .int mn, .ref mAr, .ref mAo, .int mf, .int mt, .int md, .ref mAc, .int mk, .ref mAg, .int mh_67, .ref mAe, .ref mAS, .ref mAp])), (mAx, .inl (cI, 32, .inl mx)), (mAy, .inl (cI, 32, .inl my)), (mAi, .inl (cZ, 32, .inl mi)), (mAr, .inl (cI, 32, .inl mr)), (mAo, .inl (cI, 32, .inl mo)), (mAc, .inl (cI, 34, .inl mc)), (mAg, .inl (cI, 34, .inl mg_67)), (mAe, .inl (cI, 128, .inl me)), (mAS, .inl (cJ, 2, .inr (.inl mS))), (mAp, .inl (cZ, 2, .inl mp))] := hD.sub [0, 1, 2, 3, 4, 5, 6, 7, 8, 9, 10] (by decide) rfl
        refine lv_iinc (v := (v1 + (-1))) (lv' := [(1, .int (v1 + (-1))), (0, .ref mA)]) hx hb dX6_layRound_70 hl (k := 1) rfl rfl (by decide) rfl (fun ls hl => ?_)
        refine lv_goto (tgt := 56) hx hb dX6_layRound_73 (by decide) ?_
        exact ih56 mg_67 mh_67 (v1 + (-1)) hw _ _ _ hP hD hS (lv_sub hl [1, 0] rfl)
  have N20 : ∀ (mr : Nat → Int32) (mo : Nat → Int32) (mf : Int32) (mt : Int32) (md : Int32) (mc : Nat → Int32) (mk : Int32) (k : Nat) (mg : Nat → Int32) (mh : Int32) (v1 : Int32), wp_X6_layRound_20 mx my mi mn K  mr mo mf mt md mc mk k mg mh v1 → ∀ (H : Heap) (locs : List Loc) (ls : Array Slot), va_P D vwCl [(mA, .inr (5, [.ref mAx, .ref mAy, .ref mAi, .int mn, .ref mAr, .ref mAo, .int mf, .int mt, .int md, .ref mAc, .int mk, .ref mAg, .int mh, .ref mAe, .ref mAS, .ref mAp])), (mAx, .inl (cI, 32, .inl mx)), (mAy, .inl (cI, 32, .inl my)), (mAi, .inl (cZ, 32, .inl mi)), (mAr, .inl (cI, 32, .inl mr)), (mAo, .inl (cI, 32, .inl mo)), (mAc, .inl (cI, 34, .inl mc)), (mAg, .inl (cI, 34, .inl mg)), (mAe, .inl (cI, 128, .inl me)), (mAS, .inl (cJ, 2, .inr (.inl mS))), (mAp, .inl (cZ, 2, .inl mp))] H → va_D A [(mA, .inr (5, [.ref mAx, .ref mAy, .ref mAi, .int mn, .ref mAr, .ref mAo, .int mf, .int mt, .int md, .ref mAc, .int mk, .ref mAg, .int mh, .ref mAe, .ref mAS, .ref mAp])), (mAx, .inl (cI, 32, .inl mx)), (mAy, .inl (cI, 32, .inl my)), (mAi, .inl (cZ, 32, .inl mi)), (mAr, .inl (cI, 32, .inl mr)), (mAo, .inl (cI, 32, .inl mo)), (mAc, .inl (cI, 34, .inl mc)), (mAg, .inl (cI, 34, .inl mg)), (mAe, .inl (cI, 128, .inl me)), (mAS, .inl (cJ, 2, .inr (.inl mS))), (mAp, .inl (cZ, 2, .inl mp))] → va_S A s.heap H locs → lv_has ls 2 [(0, .ref mA), (1, .int v1)] → W p l e R s m args below meth c H locs 0 0 Q (F0 m 20 ls []) := by
    intro mr mo mf mt md mc mk
    intro k
    induction k with
    | zero => intro mg mh v1 hw; exact False.elim hw
    | succ k ih20 =>
      intro mg mh v1 hw H locs ls hP hD hS hl
      have hw : wp_X6_layRound_20b mx my mi mn K (wp_X6_layRound_20 mx my mi mn K  mr mo mf mt md mc mk k)  mr mo mf mt md mc mk mg mh v1 := hw
      unfold wp_X6_layRound_20b at hw
      generalize wp_X6_layRound_20 mx my mi mn K  mr mo mf mt md mc mk k = L20 at hw ih20
      refine lv_iload_n hx hb dX6_layRound_20 rfl (lv_at hl 1 rfl) ?_
      refine lv_aload_n hx hb dX6_layRound_21 rfl (lv_at hl 0 rfl) ?_
      refine va_get (D := D) (ci := 5) (v := .int mk) (C := RX6) (T := TX6) (N := 16) hx hb hts in_X6_layRound_X6 hown hK hP 0 rfl rfl 10 (by decide) (hts (.fieldLink RX6 79 "LiveHullModel" "corners" "I") (List.mem_of_getElem? (i := 2) rfl)) (fun _ h9 => h9) rfl dX6_layRound_22 ?_
      obtain ⟨hwA, hwB⟩ := hw
      refine lv_icmp_ge (tgt := 44) hx hb dX6_layRound_25 (by decide) (fun cb => ?_) (fun cb => ?_)
      · have hw := hwA cb
        refine lv_aload_n hx hb dX6_layRound_44 rfl (lv_at hl 0 rfl) ?_
        refine lv_iconst (v := 0) hx hb dX6_layRound_45 (by decide) ?_
        refine cl_Vv (As := [.int 0]) (rest := []) ⟨hx, hb, hml, hown, hts⟩ (c_X6_layChain l D cI cJ cZ cO mA mAx mAy mAi mAr mAo mAc mAg mAe mAS mAp mx my mi mn mr mo mf mt md mc mk mg mh me mS mp 0 _ hw) (cwV 1 hts gX6_layRound_X6_layChain rfl rfl rfl hd_X6_layChain ⟨Nat.le_trans (Nat.le_of_ble_eq_true rfl) hRf, Nat.le_trans (Nat.le_of_ble_eq_true rfl) hRl⟩) hK hP hD hS hA [0, 1, 2, 3, 4, 5, 6, 7, 8, 9, 10] [] rfl (by decide) rfl (by decide) (by decide) 0 5 rfl rfl rfl hl.1 rfl (Nat.le_of_ble_eq_true rfl) dX6_layRound_46 ⟨Nat.zero_le _, Nat.zero_le _⟩ (fun u H locs hw hP hD hS => ?_)
        obtain ⟨mc_46, mk_46⟩ := u
        try dsimp only at hw
        have hP : va_P D vwCl [(mA, .inr (5, [.ref mAx, .ref mAy, .ref mAi, .int mn, .ref mAr, .ref mAo, .int mf, .int mt, .int md, .ref mAc, .int mk_46, .ref mAg, .int mh, .ref mAe, .ref mAS, .ref mAp])), (mAx, .inl (cI, 32, .inl mx)), (mAy, .inl (cI, 32, .inl my)), (mAi, .inl (cZ, 32, .inl mi)), (mAr, .inl (cI, 32, .inl mr)), (mAo, .inl (cI, 32, .inl mo)), (mAc, .inl (cI, 34, .inl mc_46)), (mAg, .inl (cI, 34, .inl mg)), (mAe, .inl (cI, 128, .inl me)), (mAS, .inl (cJ, 2, .inr (.inl mS))), (mAp, .inl (cZ, 2, .inl mp))] H := hP.sub [0, 1, 2, 3, 4, 5, 6, 7, 8, 9, 10] rfl
        have hD : va_D A [(mA, .inr (5, [.ref mAx, .ref mAy, .ref mAi, .int mn, .ref mAr, .ref mAo, .int mf, .int mt, .int md, .ref mAc, .int mk_46, .ref mAg, .int mh, .ref mAe, .ref mAS, .ref mAp])), (mAx, .inl (cI, 32, .inl mx)), (mAy, .inl (cI, 32, .inl my)), (mAi, .inl (cZ, 32, .inl mi)), (mAr, .inl (cI, 32, .inl mr)), (mAo, .inl (cI, 32, .inl mo)), (mAc, .inl (cI, 34, .inl mc_46)), (mAg, .inl (cI, 34, .inl mg)), (mAe, .inl (cI, 128, .inl me)), (mAS, .inl (cJ, 2, .inr (.inl mS))), (mAp, .inl (cZ, 2, .inl mp))] := hD.sub [0, 1, 2, 3, 4, 5, 6, 7, 8, 9, 10] (by decide) rfl
        refine lv_aload_n hx hb dX6_layRound_49 rfl (lv_at hl 0 rfl) ?_
        refine va_get (D := D) (ci := 5) (v := .int mk_46) (C := RX6) (T := TX6) (N := 16) hx hb hts in_X6_layRound_X6 hown hK hP 0 rfl rfl 10 (by decide) (hts (.fieldLink RX6 79 "LiveHullModel" "corners" "I") (List.mem_of_getElem? (i := 2) rfl)) (fun _ h9 => h9) rfl dX6_layRound_50 ?_
        refine lv_iconst (v := 1) hx hb dX6_layRound_53 (by decide) ?_
        refine lv_isub hx hb dX6_layRound_54 ?_
        refine lv_istore_n (lv' := [(1, .int (mk_46 - 1)), (0, .ref mA)]) hx hb dX6_layRound_55 rfl hl (by decide) rfl (fun ls hl => ?_)
        obtain ⟨k, hw⟩ := hw
        exact N56 mr mo mf mt md mc_46 mk_46 k mg mh (mk_46 - 1) hw _ _ _ hP hD hS (lv_sub hl [1, 0] rfl)
      · have hw := hwB cb
        refine lv_aload_n hx hb dX6_layRound_28 rfl (lv_at hl 0 rfl) ?_
        refine lv_aload_n hx hb dX6_layRound_29 rfl (lv_at hl 0 rfl) ?_
        refine va_get (D := D) (ci := 5) (v := .ref mAc) (C := RX6) (T := TX6) (N := 16) hx hb hts in_X6_layRound_X6 hown hK hP 0 rfl rfl 9 (by decide) (hts (.fieldLink RX6 26 "LiveHullModel" "corner" "[I") (List.mem_of_getElem? (i := 3) rfl)) (fun _ h9 => h9) rfl dX6_layRound_30 ?_
        refine lv_iload_n hx hb dX6_layRound_33 rfl (lv_at hl 1 rfl) ?_
        obtain ⟨hi, hw⟩ := hw
        refine va_iald hx hb hK hP 6 0 rfl rfl hi dX6_layRound_34 ?_
        refine cl_Vv (As := [.int (mc v1.toNatClampNeg)]) (rest := []) ⟨hx, hb, hml, hown, hts⟩ (c_X6_ringUp l D cI cJ cZ cO mA mAx mAy mAi mAr mAo mAc mAg mAe mAS mAp mx my mi mn mr mo mf mt md mc mk mg mh me mS mp (mc v1.toNatClampNeg) _ hw) (cwV 1 hts gX6_layRound_X6_ringUp rfl rfl rfl hd_X6_ringUp ⟨Nat.le_trans (Nat.le_of_ble_eq_true rfl) hRf, Nat.le_trans (Nat.le_of_ble_eq_true rfl) hRl⟩) hK hP hD hS hA [0, 1, 2, 3, 4, 5, 6, 7, 8, 9, 10] [] rfl (by decide) rfl (by decide) (by decide) 0 5 rfl rfl rfl hl.1 rfl (Nat.le_of_ble_eq_true rfl) dX6_layRound_35 ⟨Nat.zero_le _, Nat.zero_le _⟩ (fun u H locs hw hP hD hS => ?_)
        obtain ⟨mg_35, mh_35⟩ := u
        try dsimp only at hw
        have hP : va_P D vwCl [(mA, .inr (5, [.ref mAx, .ref mAy, .ref mAi, .int mn, .ref mAr, .ref mAo, .int mf, .int mt, .int md, .ref mAc, .int mk, .ref mAg, .int mh_35, .ref mAe, .ref mAS, .ref mAp])), (mAx, .inl (cI, 32, .inl mx)), (mAy, .inl (cI, 32, .inl my)), (mAi, .inl (cZ, 32, .inl mi)), (mAr, .inl (cI, 32, .inl mr)), (mAo, .inl (cI, 32, .inl mo)), (mAc, .inl (cI, 34, .inl mc)), (mAg, .inl (cI, 34, .inl mg_35)), (mAe, .inl (cI, 128, .inl me)), (mAS, .inl (cJ, 2, .inr (.inl mS))), (mAp, .inl (cZ, 2, .inl mp))] H := hP.sub [0, 1, 2, 3, 4, 5, 6, 7, 8, 9, 10] rfl
        have hD : va_D A [(mA, .inr (5, [.ref mAx, .ref mAy, .ref mAi, .int mn, .ref mAr, .ref mAo, .int mf, .int mt, .int md, .ref mAc, .int mk, .ref mAg, .int mh_35, .ref mAe, .ref mAS, .ref mAp])), (mAx, .inl (cI, 32, .inl mx)), (mAy, .inl (cI, 32, .inl my)), (mAi, .inl (cZ, 32, .inl mi)), (mAr, .inl (cI, 32, .inl mr)), (mAo, .inl (cI, 32, .inl mo)), (mAc, .inl (cI, 34, .inl mc)), (mAg, .inl (cI, 34, .inl mg_35)), (mAe, .inl (cI, 128, .inl me)), (mAS, .inl (cJ, 2, .inr (.inl mS))), (mAp, .inl (cZ, 2, .inl mp))] := hD.sub [0, 1, 2, 3, 4, 5, 6, 7, 8, 9, 10] (by decide) rfl
        refine lv_iinc (v := (v1 + 1)) (lv' := [(1, .int (v1 + 1)), (0, .ref mA)]) hx hb dX6_layRound_38 hl (k := 1) rfl rfl (by decide) rfl (fun ls hl => ?_)
        refine lv_goto (tgt := 20) hx hb dX6_layRound_41 (by decide) ?_
        exact ih20 mg_35 mh_35 (v1 + 1) hw _ _ _ hP hD hS (lv_sub hl [1, 0] rfl)
  unfold wp_X6_layRound at hw
  refine lv_aload_n hx hb dX6_layRound_0 rfl (lv_at hl 0 rfl) ?_
  refine lv_iconst (v := 0) hx hb dX6_layRound_1 (by decide) ?_
  refine va_put (D := D) (ci := 5) (v := .int 0) (ty := .int) (C := RX6) (T := TX6) (N := 16) hx hb hts in_X6_layRound_X6 tyX6 tyX6_ok nmX6 hown hK hP hD hS 0 rfl rfl 12 (by decide) (hts (.fieldLink RX6 114 "LiveHullModel" "rings" "I") (List.mem_of_getElem? (i := 1) rfl)) (fun _ h9 => h9) rfl (by decide +kernel) rfl rfl (Nat.le_of_ble_eq_true rfl) dX6_layRound_2 (fun H locs hP hD hS => ?_)
  have hP : va_P D vwCl [(mA, .inr (5, [.ref mAx, .ref mAy, .ref mAi, .int mn, .ref mAr, .ref mAo, .int mf, .int mt, .int md, .ref mAc, .int mk, .ref mAg, .int 0, .ref mAe, .ref mAS, .ref mAp])), (mAx, .inl (cI, 32, .inl mx)), (mAy, .inl (cI, 32, .inl my)), (mAi, .inl (cZ, 32, .inl mi)), (mAr, .inl (cI, 32, .inl mr)), (mAo, .inl (cI, 32, .inl mo)), (mAc, .inl (cI, 34, .inl mc)), (mAg, .inl (cI, 34, .inl mg)), (mAe, .inl (cI, 128, .inl me)), (mAS, .inl (cJ, 2, .inr (.inl mS))), (mAp, .inl (cZ, 2, .inl mp))] H := hP
  have hD : va_D A [(mA, .inr (5, [.ref mAx, .ref mAy, .ref mAi, .int mn, .ref mAr, .ref mAo, .int mf, .int mt, .int md, .ref mAc, .int mk, .ref mAg, .int 0, .ref mAe, .ref mAS, .ref mAp])), (mAx, .inl (cI, 32, .inl mx)), (mAy, .inl (cI, 32, .inl my)), (mAi, .inl (cZ, 32, .inl mi)), (mAr, .inl (cI, 32, .inl mr)), (mAo, .inl (cI, 32, .inl mo)), (mAc, .inl (cI, 34, .inl mc)), (mAg, .inl (cI, 34, .inl mg)), (mAe, .inl (cI, 128, .inl me)), (mAS, .inl (cJ, 2, .inr (.inl mS))), (mAp, .inl (cZ, 2, .inl mp))] := hD
  refine lv_aload_n hx hb dX6_layRound_5 rfl (lv_at hl 0 rfl) ?_
  refine lv_iconst (v := 1) hx hb dX6_layRound_6 (by decide) ?_
  refine cl_Vi (As := [.int 1]) (rest := []) ⟨hx, hb, hml, hown, hts⟩ (c_X6_layPart l D cI cJ cZ cO mA mAx mAy mAi mAr mAo mAc mAg mAe mAS mAp mx my mi mn mr mo mf mt md mc mk mg 0 me mS mp 1 _ hw) (cwV 1 hts gX6_layRound_X6_layPart rfl rfl rfl hd_X6_layPart ⟨Nat.le_trans (Nat.le_of_ble_eq_true rfl) hRf, Nat.le_trans (Nat.le_of_ble_eq_true rfl) hRl⟩) hK hP hD hS hA [0, 1, 2, 3, 4, 5, 6, 7, 8, 9, 10] [] rfl (by decide) rfl (by decide) (by decide) 0 5 rfl rfl rfl hl.1 rfl (Nat.le_of_ble_eq_true rfl) dX6_layRound_7 ⟨Nat.zero_le _, Nat.zero_le _⟩ (fun r7 u H locs hw hP hD hS => ?_)
  obtain ⟨mr_7, mo_7, mf_7, mt_7, md_7⟩ := u
  try dsimp only at hw
  have hP : va_P D vwCl [(mA, .inr (5, [.ref mAx, .ref mAy, .ref mAi, .int mn, .ref mAr, .ref mAo, .int mf_7, .int mt_7, .int md_7, .ref mAc, .int mk, .ref mAg, .int 0, .ref mAe, .ref mAS, .ref mAp])), (mAx, .inl (cI, 32, .inl mx)), (mAy, .inl (cI, 32, .inl my)), (mAi, .inl (cZ, 32, .inl mi)), (mAr, .inl (cI, 32, .inl mr_7)), (mAo, .inl (cI, 32, .inl mo_7)), (mAc, .inl (cI, 34, .inl mc)), (mAg, .inl (cI, 34, .inl mg)), (mAe, .inl (cI, 128, .inl me)), (mAS, .inl (cJ, 2, .inr (.inl mS))), (mAp, .inl (cZ, 2, .inl mp))] H := hP.sub [0, 1, 2, 3, 4, 5, 6, 7, 8, 9, 10] rfl
  have hD : va_D A [(mA, .inr (5, [.ref mAx, .ref mAy, .ref mAi, .int mn, .ref mAr, .ref mAo, .int mf_7, .int mt_7, .int md_7, .ref mAc, .int mk, .ref mAg, .int 0, .ref mAe, .ref mAS, .ref mAp])), (mAx, .inl (cI, 32, .inl mx)), (mAy, .inl (cI, 32, .inl my)), (mAi, .inl (cZ, 32, .inl mi)), (mAr, .inl (cI, 32, .inl mr_7)), (mAo, .inl (cI, 32, .inl mo_7)), (mAc, .inl (cI, 34, .inl mc)), (mAg, .inl (cI, 34, .inl mg)), (mAe, .inl (cI, 128, .inl me)), (mAS, .inl (cJ, 2, .inr (.inl mS))), (mAp, .inl (cZ, 2, .inl mp))] := hD.sub [0, 1, 2, 3, 4, 5, 6, 7, 8, 9, 10] (by decide) rfl
  obtain ⟨hwA, hwB⟩ := hw
  refine lv_if_eq (tgt := 76) hx hb dX6_layRound_10 (by decide) (fun cb => ?_) (fun cb => ?_)
  · have hw := hwA cb
    exact ret _ _ _ _ (mr_7, mo_7, mf_7, mt_7, md_7, mc, mk, mg, 0) hw hP hD hS dX6_layRound_76
  · have hw := hwB cb
    refine lv_aload_n hx hb dX6_layRound_13 rfl (lv_at hl 0 rfl) ?_
    refine lv_iconst (v := 1) hx hb dX6_layRound_14 (by decide) ?_
    refine cl_Vv (As := [.int 1]) (rest := []) ⟨hx, hb, hml, hown, hts⟩ (c_X6_layChain l D cI cJ cZ cO mA mAx mAy mAi mAr mAo mAc mAg mAe mAS mAp mx my mi mn mr_7 mo_7 mf_7 mt_7 md_7 mc mk mg 0 me mS mp 1 _ hw) (cwV 1 hts gX6_layRound_X6_layChain rfl rfl rfl hd_X6_layChain ⟨Nat.le_trans (Nat.le_of_ble_eq_true rfl) hRf, Nat.le_trans (Nat.le_of_ble_eq_true rfl) hRl⟩) hK hP hD hS hA [0, 1, 2, 3, 4, 5, 6, 7, 8, 9, 10] [] rfl (by decide) rfl (by decide) (by decide) 0 5 rfl rfl rfl hl.1 rfl (Nat.le_of_ble_eq_true rfl) dX6_layRound_15 ⟨Nat.zero_le _, Nat.zero_le _⟩ (fun u H locs hw hP hD hS => ?_)
    obtain ⟨mc_15, mk_15⟩ := u
    try dsimp only at hw
    have hP : va_P D vwCl [(mA, .inr (5, [.ref mAx, .ref mAy, .ref mAi, .int mn, .ref mAr, .ref mAo, .int mf_7, .int mt_7, .int md_7, .ref mAc, .int mk_15, .ref mAg, .int 0, .ref mAe, .ref mAS, .ref mAp])), (mAx, .inl (cI, 32, .inl mx)), (mAy, .inl (cI, 32, .inl my)), (mAi, .inl (cZ, 32, .inl mi)), (mAr, .inl (cI, 32, .inl mr_7)), (mAo, .inl (cI, 32, .inl mo_7)), (mAc, .inl (cI, 34, .inl mc_15)), (mAg, .inl (cI, 34, .inl mg)), (mAe, .inl (cI, 128, .inl me)), (mAS, .inl (cJ, 2, .inr (.inl mS))), (mAp, .inl (cZ, 2, .inl mp))] H := hP.sub [0, 1, 2, 3, 4, 5, 6, 7, 8, 9, 10] rfl
    have hD : va_D A [(mA, .inr (5, [.ref mAx, .ref mAy, .ref mAi, .int mn, .ref mAr, .ref mAo, .int mf_7, .int mt_7, .int md_7, .ref mAc, .int mk_15, .ref mAg, .int 0, .ref mAe, .ref mAS, .ref mAp])), (mAx, .inl (cI, 32, .inl mx)), (mAy, .inl (cI, 32, .inl my)), (mAi, .inl (cZ, 32, .inl mi)), (mAr, .inl (cI, 32, .inl mr_7)), (mAo, .inl (cI, 32, .inl mo_7)), (mAc, .inl (cI, 34, .inl mc_15)), (mAg, .inl (cI, 34, .inl mg)), (mAe, .inl (cI, 128, .inl me)), (mAS, .inl (cJ, 2, .inr (.inl mS))), (mAp, .inl (cZ, 2, .inl mp))] := hD.sub [0, 1, 2, 3, 4, 5, 6, 7, 8, 9, 10] (by decide) rfl
    refine lv_iconst (v := 0) hx hb dX6_layRound_18 (by decide) ?_
    refine lv_istore_n (lv' := [(1, .int 0), (0, .ref mA)]) hx hb dX6_layRound_19 rfl hl (by decide) rfl (fun ls hl => ?_)
    obtain ⟨k, hw⟩ := hw
    exact N20 mr_7 mo_7 mf_7 mt_7 md_7 mc_15 mk_15 k mg 0 0 hw _ _ _ hP hD hS (lv_sub hl [1, 0] rfl)
theorem in_X6_round_X6 : ∀ w ∈ wsX60, w ∈ wsX6_round := fun _ h => List.mem_cons_of_mem _ (List.mem_append_right _ h)
theorem hd_X6_round : yX6_round.cls = RX6 ∧ yX6_round.cls ≠ "java/lang/invoke/MethodHandle" ∧ yX6_round.cls ≠ "java/lang/invoke/VarHandle" ∧ (parseMethodDescriptor yX6_round.desc).map (fun d => d.parameters.length) = some 1 := by decide +kernel
set_option maxHeartbeats 8000000 in
set_option maxRecDepth 100000 in
theorem c_X6_round (l : Launch) (D : va_G) (cI cJ cZ cO : ClassId) (mA mAx mAy mAi mAr mAo mAc mAg mAe mAS mAp : Nat) (mx : Nat → Int32) (my : Nat → Int32) (mi : Nat → Int32) (mn : Int32) (mr : Nat → Int32) (mo : Nat → Int32) (mf : Int32) (mt : Int32) (md : Int32) (mc : Nat → Int32) (mk : Int32) (mg : Nat → Int32) (mh : Int32) (me : Nat → Int32) (mS : Nat → Int64) (mp : Nat → Int32) (v1 : Int32) (K : Int32 → (Nat → Int32) → (Nat → Int32) → Int32 → Int32 → Int32 → (Nat → Int32) → Int32 → (Nat → Int32) → Int32 → Prop) (hw : wp_X6_round mx my mi mn mr mo mf mt md mc mk mg mh v1 K) : Ci l D (tys4 cI cJ cZ cO) yX6_round wsX6_round { frames := 4, cells := 0, slots := 0, locals := 99 } [.ref mA, .int v1] [(mA, .inr (5, [.ref mAx, .ref mAy, .ref mAi, .int mn, .ref mAr, .ref mAo, .int mf, .int mt, .int md, .ref mAc, .int mk, .ref mAg, .int mh, .ref mAe, .ref mAS, .ref mAp])), (mAx, .inl (cI, 32, .inl mx)), (mAy, .inl (cI, 32, .inl my)), (mAi, .inl (cZ, 32, .inl mi)), (mAr, .inl (cI, 32, .inl mr)), (mAo, .inl (cI, 32, .inl mo)), (mAc, .inl (cI, 34, .inl mc)), (mAg, .inl (cI, 34, .inl mg)), (mAe, .inl (cI, 128, .inl me)), (mAS, .inl (cJ, 2, .inr (.inl mS))), (mAp, .inl (cZ, 2, .inl mp))] (fun (r : Int32) (u : (Nat → Int32) × (Nat → Int32) × (Int32) × (Int32) × (Int32) × (Nat → Int32) × (Int32) × (Nat → Int32) × (Int32)) => K r u.1 u.2.1 u.2.2.1 u.2.2.2.1 u.2.2.2.2.1 u.2.2.2.2.2.1 u.2.2.2.2.2.2.1 u.2.2.2.2.2.2.2.1 u.2.2.2.2.2.2.2.2) (fun u => [(mA, .inr (5, [.ref mAx, .ref mAy, .ref mAi, .int mn, .ref mAr, .ref mAo, .int u.2.2.1, .int u.2.2.2.1, .int u.2.2.2.2.1, .ref mAc, .int u.2.2.2.2.2.2.1, .ref mAg, .int u.2.2.2.2.2.2.2.2, .ref mAe, .ref mAS, .ref mAp])), (mAx, .inl (cI, 32, .inl mx)), (mAy, .inl (cI, 32, .inl my)), (mAi, .inl (cZ, 32, .inl mi)), (mAr, .inl (cI, 32, .inl u.1)), (mAo, .inl (cI, 32, .inl u.2.1)), (mAc, .inl (cI, 34, .inl u.2.2.2.2.2.1)), (mAg, .inl (cI, 34, .inl u.2.2.2.2.2.2.2.1)), (mAe, .inl (cI, 128, .inl me)), (mAS, .inl (cJ, 2, .inr (.inl mS))), (mAp, .inl (cZ, 2, .inl mp))]) := by
  refine mt_i (cc := cX6_round) (maxL := 2) (rt := .int) (by decide) rfl (Nat.le_of_ble_eq_true rfl) ?_
  intro p e s m args below meth c Q A R ls hRf hRl hx hb hml hown hts hK hA hP hD hS hl ret
  have hown : s.vm.findClass RX6 = some m.cls := hown
  have hl : lv_has ls 2 [(0, .ref mA), (1, .int v1)] := hl
  unfold wp_X6_round at hw
  refine lv_aload_n hx hb dX6_round_0 rfl (lv_at hl 0 rfl) ?_
  refine cl_Vv (As := []) (rest := []) ⟨hx, hb, hml, hown, hts⟩ (c_X6_layRound l D cI cJ cZ cO mA mAx mAy mAi mAr mAo mAc mAg mAe mAS mAp mx my mi mn mr mo mf mt md mc mk mg mh me mS mp  _ hw) (cwV 0 hts gX6_round_X6_layRound rfl rfl rfl hd_X6_layRound ⟨Nat.le_trans (Nat.le_of_ble_eq_true rfl) hRf, Nat.le_trans (Nat.le_of_ble_eq_true rfl) hRl⟩) hK hP hD hS hA [0, 1, 2, 3, 4, 5, 6, 7, 8, 9, 10] [] rfl (by decide) rfl (by decide) (by decide) 0 5 rfl rfl rfl hl.1 rfl (Nat.le_of_ble_eq_true rfl) dX6_round_1 ⟨Nat.zero_le _, Nat.zero_le _⟩ (fun u H locs hw hP hD hS => ?_)
  obtain ⟨mr_1, mo_1, mf_1, mt_1, md_1, mc_1, mk_1, mg_1, mh_1⟩ := u
  try dsimp only at hw
  have hP : va_P D vwCl [(mA, .inr (5, [.ref mAx, .ref mAy, .ref mAi, .int mn, .ref mAr, .ref mAo, .int mf_1, .int mt_1, .int md_1, .ref mAc, .int mk_1, .ref mAg, .int mh_1, .ref mAe, .ref mAS, .ref mAp])), (mAx, .inl (cI, 32, .inl mx)), (mAy, .inl (cI, 32, .inl my)), (mAi, .inl (cZ, 32, .inl mi)), (mAr, .inl (cI, 32, .inl mr_1)), (mAo, .inl (cI, 32, .inl mo_1)), (mAc, .inl (cI, 34, .inl mc_1)), (mAg, .inl (cI, 34, .inl mg_1)), (mAe, .inl (cI, 128, .inl me)), (mAS, .inl (cJ, 2, .inr (.inl mS))), (mAp, .inl (cZ, 2, .inl mp))] H := hP.sub [0, 1, 2, 3, 4, 5, 6, 7, 8, 9, 10] rfl
  have hD : va_D A [(mA, .inr (5, [.ref mAx, .ref mAy, .ref mAi, .int mn, .ref mAr, .ref mAo, .int mf_1, .int mt_1, .int md_1, .ref mAc, .int mk_1, .ref mAg, .int mh_1, .ref mAe, .ref mAS, .ref mAp])), (mAx, .inl (cI, 32, .inl mx)), (mAy, .inl (cI, 32, .inl my)), (mAi, .inl (cZ, 32, .inl mi)), (mAr, .inl (cI, 32, .inl mr_1)), (mAo, .inl (cI, 32, .inl mo_1)), (mAc, .inl (cI, 34, .inl mc_1)), (mAg, .inl (cI, 34, .inl mg_1)), (mAe, .inl (cI, 128, .inl me)), (mAS, .inl (cJ, 2, .inr (.inl mS))), (mAp, .inl (cZ, 2, .inl mp))] := hD.sub [0, 1, 2, 3, 4, 5, 6, 7, 8, 9, 10] (by decide) rfl
  refine lv_iload_n hx hb dX6_round_4 rfl (lv_at hl 1 rfl) ?_
  refine lv_iconst (v := (-1)) hx hb dX6_round_5 (by decide) ?_
  obtain ⟨hwA, hwB⟩ := hw
  refine lv_icmp_ne (tgt := 16) hx hb dX6_round_6 (by decide) (fun cb => ?_) (fun cb => ?_)
  · have hw := hwA cb
    refine lv_iload_n hx hb dX6_round_16 rfl (lv_at hl 1 rfl) ?_
    refine lv_iconst (v := 0) hx hb dX6_round_17 (by decide) ?_
    refine lv_aload_n hx hb dX6_round_18 rfl (lv_at hl 0 rfl) ?_
    refine va_get (D := D) (ci := 5) (v := .int mh_1) (C := RX6) (T := TX6) (N := 16) hx hb hts in_X6_round_X6 hown hK hP 0 rfl rfl 12 (by decide) (hts (.fieldLink RX6 114 "LiveHullModel" "rings" "I") (List.mem_of_getElem? (i := 1) rfl)) (fun _ h9 => h9) rfl dX6_round_19 ?_
    refine lv_iconst (v := 1) hx hb dX6_round_22 (by decide) ?_
    refine lv_isub hx hb dX6_round_23 ?_
    refine cl_Si (As := [.int v1, .int 0, .int (mh_1 - 1)]) (rest := []) ⟨hx, hb, hml, hown, hts⟩ (c_X6_in l D cI cJ cZ cO   v1 0 (mh_1 - 1) _ hw) (va_cwS 3 hts gX6_round_X6_in rfl rfl rfl hd_X6_in.2 ⟨Nat.le_trans (Nat.le_of_ble_eq_true rfl) hRf, Nat.le_trans (Nat.le_of_ble_eq_true rfl) hRl⟩) hK hP hD hS hA [] [0, 1, 2, 3, 4, 5, 6, 7, 8, 9, 10] rfl (by decide) rfl (by decide) (by decide) rfl hl.1 rfl (Nat.le_of_ble_eq_true rfl) dX6_round_24 ⟨Nat.zero_le _, Nat.zero_le _⟩ (fun r24 _u H locs hw hP hD hS => ?_)
    try dsimp only at hw
    have hP : va_P D vwCl [(mA, .inr (5, [.ref mAx, .ref mAy, .ref mAi, .int mn, .ref mAr, .ref mAo, .int mf_1, .int mt_1, .int md_1, .ref mAc, .int mk_1, .ref mAg, .int mh_1, .ref mAe, .ref mAS, .ref mAp])), (mAx, .inl (cI, 32, .inl mx)), (mAy, .inl (cI, 32, .inl my)), (mAi, .inl (cZ, 32, .inl mi)), (mAr, .inl (cI, 32, .inl mr_1)), (mAo, .inl (cI, 32, .inl mo_1)), (mAc, .inl (cI, 34, .inl mc_1)), (mAg, .inl (cI, 34, .inl mg_1)), (mAe, .inl (cI, 128, .inl me)), (mAS, .inl (cJ, 2, .inr (.inl mS))), (mAp, .inl (cZ, 2, .inl mp))] H := hP.sub [0, 1, 2, 3, 4, 5, 6, 7, 8, 9, 10] rfl
    have hD : va_D A [(mA, .inr (5, [.ref mAx, .ref mAy, .ref mAi, .int mn, .ref mAr, .ref mAo, .int mf_1, .int mt_1, .int md_1, .ref mAc, .int mk_1, .ref mAg, .int mh_1, .ref mAe, .ref mAS, .ref mAp])), (mAx, .inl (cI, 32, .inl mx)), (mAy, .inl (cI, 32, .inl my)), (mAi, .inl (cZ, 32, .inl mi)), (mAr, .inl (cI, 32, .inl mr_1)), (mAo, .inl (cI, 32, .inl mo_1)), (mAc, .inl (cI, 34, .inl mc_1)), (mAg, .inl (cI, 34, .inl mg_1)), (mAe, .inl (cI, 128, .inl me)), (mAS, .inl (cJ, 2, .inr (.inl mS))), (mAp, .inl (cZ, 2, .inl mp))] := hD.sub [0, 1, 2, 3, 4, 5, 6, 7, 8, 9, 10] (by decide) rfl
    obtain ⟨hwA, hwB⟩ := hw
    refine lv_if_eq (tgt := 39) hx hb dX6_round_27 (by decide) (fun cb => ?_) (fun cb => ?_)
    · have hw := hwA cb
      refine lv_bipush (v := (-6)) hx hb dX6_round_39 (by decide) ?_
      exact ret _ _ _ _ (-6) (mr_1, mo_1, mf_1, mt_1, md_1, mc_1, mk_1, mg_1, mh_1) (vp_nar_int _) hw hP hD hS dX6_round_41
    · have hw := hwB cb
      refine lv_aload_n hx hb dX6_round_30 rfl (lv_at hl 0 rfl) ?_
      refine va_get (D := D) (ci := 5) (v := .ref mAg) (C := RX6) (T := TX6) (N := 16) hx hb hts in_X6_round_X6 hown hK hP 0 rfl rfl 11 (by decide) (hts (.fieldLink RX6 29 "LiveHullModel" "ring" "[I") (List.mem_of_getElem? (i := 2) rfl)) (fun _ h9 => h9) rfl dX6_round_31 ?_
      refine lv_iload_n hx hb dX6_round_34 rfl (lv_at hl 1 rfl) ?_
      obtain ⟨hi, hw⟩ := hw
      refine va_iald hx hb hK hP 7 0 rfl rfl hi dX6_round_35 ?_
      refine lv_goto (tgt := 41) hx hb dX6_round_36 (by decide) ?_
      exact ret _ _ _ _ (mg_1 v1.toNatClampNeg) (mr_1, mo_1, mf_1, mt_1, md_1, mc_1, mk_1, mg_1, mh_1) (vp_nar_int _) hw hP hD hS dX6_round_41
  · have hw := hwB cb
    refine lv_aload_n hx hb dX6_round_9 rfl (lv_at hl 0 rfl) ?_
    refine va_get (D := D) (ci := 5) (v := .int mh_1) (C := RX6) (T := TX6) (N := 16) hx hb hts in_X6_round_X6 hown hK hP 0 rfl rfl 12 (by decide) (hts (.fieldLink RX6 114 "LiveHullModel" "rings" "I") (List.mem_of_getElem? (i := 1) rfl)) (fun _ h9 => h9) rfl dX6_round_10 ?_
    refine lv_goto (tgt := 41) hx hb dX6_round_13 (by decide) ?_
    exact ret _ _ _ _ mh_1 (mr_1, mo_1, mf_1, mt_1, md_1, mc_1, mk_1, mg_1, mh_1) (vp_nar_int _) hw hP hD hS dX6_round_41
theorem in_X6_extreme_X6 : ∀ w ∈ wsX60, w ∈ wsX6_extreme := fun _ h => List.mem_cons_of_mem _ (List.mem_append_right _ h)
theorem hd_X6_extreme : yX6_extreme.cls = RX6 ∧ yX6_extreme.cls ≠ "java/lang/invoke/MethodHandle" ∧ yX6_extreme.cls ≠ "java/lang/invoke/VarHandle" ∧ (parseMethodDescriptor yX6_extreme.desc).map (fun d => d.parameters.length) = some 2 := by decide +kernel
set_option maxHeartbeats 8000000 in
set_option maxRecDepth 100000 in
theorem c_X6_extreme (l : Launch) (D : va_G) (cI cJ cZ cO : ClassId) (mA mAx mAy mAi mAr mAo mAc mAg mAe mAS mAp : Nat) (mx : Nat → Int32) (my : Nat → Int32) (mi : Nat → Int32) (mn : Int32) (mr : Nat → Int32) (mo : Nat → Int32) (mf : Int32) (mt : Int32) (md : Int32) (mc : Nat → Int32) (mk : Int32) (mg : Nat → Int32) (mh : Int32) (me : Nat → Int32) (mS : Nat → Int64) (mp : Nat → Int32) (v1 : Int32) (v2 : Int32) (K : Int32 → (Nat → Int32) → (Nat → Int32) → Int32 → Int32 → Int32 → (Nat → Int32) → Int32 → (Nat → Int32) → Int32 → Prop) (hw : wp_X6_extreme mx my mi mn mr mo mf mt md mc mk mg mh v1 v2 K) : Ci l D (tys4 cI cJ cZ cO) yX6_extreme wsX6_extreme { frames := 4, cells := 0, slots := 0, locals := 99 } [.ref mA, .int v1, .int v2] [(mA, .inr (5, [.ref mAx, .ref mAy, .ref mAi, .int mn, .ref mAr, .ref mAo, .int mf, .int mt, .int md, .ref mAc, .int mk, .ref mAg, .int mh, .ref mAe, .ref mAS, .ref mAp])), (mAx, .inl (cI, 32, .inl mx)), (mAy, .inl (cI, 32, .inl my)), (mAi, .inl (cZ, 32, .inl mi)), (mAr, .inl (cI, 32, .inl mr)), (mAo, .inl (cI, 32, .inl mo)), (mAc, .inl (cI, 34, .inl mc)), (mAg, .inl (cI, 34, .inl mg)), (mAe, .inl (cI, 128, .inl me)), (mAS, .inl (cJ, 2, .inr (.inl mS))), (mAp, .inl (cZ, 2, .inl mp))] (fun (r : Int32) (u : (Nat → Int32) × (Nat → Int32) × (Int32) × (Int32) × (Int32) × (Nat → Int32) × (Int32) × (Nat → Int32) × (Int32)) => K r u.1 u.2.1 u.2.2.1 u.2.2.2.1 u.2.2.2.2.1 u.2.2.2.2.2.1 u.2.2.2.2.2.2.1 u.2.2.2.2.2.2.2.1 u.2.2.2.2.2.2.2.2) (fun u => [(mA, .inr (5, [.ref mAx, .ref mAy, .ref mAi, .int mn, .ref mAr, .ref mAo, .int u.2.2.1, .int u.2.2.2.1, .int u.2.2.2.2.1, .ref mAc, .int u.2.2.2.2.2.2.1, .ref mAg, .int u.2.2.2.2.2.2.2.2, .ref mAe, .ref mAS, .ref mAp])), (mAx, .inl (cI, 32, .inl mx)), (mAy, .inl (cI, 32, .inl my)), (mAi, .inl (cZ, 32, .inl mi)), (mAr, .inl (cI, 32, .inl u.1)), (mAo, .inl (cI, 32, .inl u.2.1)), (mAc, .inl (cI, 34, .inl u.2.2.2.2.2.1)), (mAg, .inl (cI, 34, .inl u.2.2.2.2.2.2.2.1)), (mAe, .inl (cI, 128, .inl me)), (mAS, .inl (cJ, 2, .inr (.inl mS))), (mAp, .inl (cZ, 2, .inl mp))]) := by
  refine mt_i (cc := cX6_extreme) (maxL := 8) (rt := .int) (by decide) rfl (Nat.le_of_ble_eq_true rfl) ?_
  intro p e s m args below meth c Q A R ls hRf hRl hx hb hml hown hts hK hA hP hD hS hl ret
  have hown : s.vm.findClass RX6 = some m.cls := hown
  have hl : lv_has ls 8 [(0, .ref mA), (1, .int v1), (2, .int v2)] := hl
  have N43 : ∀ (mr : Nat → Int32) (mo : Nat → Int32) (mf : Int32) (mt : Int32) (md : Int32) (mc : Nat → Int32) (mk : Int32) (mg : Nat → Int32) (mh : Int32) (k : Nat) (v3 : Int32) (v4 : Int32), wp_X6_extreme_43 mx my mi mn v1 v2 K  mr mo mf mt md mc mk mg mh k v3 v4 → ∀ (H : Heap) (locs : List Loc) (ls : Array Slot), va_P D vwCl [(mA, .inr (5, [.ref mAx, .ref mAy, .ref mAi, .int mn, .ref mAr, .ref mAo, .int mf, .int mt, .int md, .ref mAc, .int mk, .ref mAg, .int mh, .ref mAe, .ref mAS, .ref mAp])), (mAx, .inl (cI, 32, .inl mx)), (mAy, .inl (cI, 32, .inl my)), (mAi, .inl (cZ, 32, .inl mi)), (mAr, .inl (cI, 32, .inl mr)), (mAo, .inl (cI, 32, .inl mo)), (mAc, .inl (cI, 34, .inl mc)), (mAg, .inl (cI, 34, .inl mg)), (mAe, .inl (cI, 128, .inl me)), (mAS, .inl (cJ, 2, .inr (.inl mS))), (mAp, .inl (cZ, 2, .inl mp))] H → va_D A [(mA, .inr (5, [.ref mAx, .ref mAy, .ref mAi, .int mn, .ref mAr, .ref mAo, .int mf, .int mt, .int md, .ref mAc, .int mk, .ref mAg, .int mh, .ref mAe, .ref mAS, .ref mAp])), (mAx, .inl (cI, 32, .inl mx)), (mAy, .inl (cI, 32, .inl my)), (mAi, .inl (cZ, 32, .inl mi)), (mAr, .inl (cI, 32, .inl mr)), (mAo, .inl (cI, 32, .inl mo)), (mAc, .inl (cI, 34, .inl mc)), (mAg, .inl (cI, 34, .inl mg)), (mAe, .inl (cI, 128, .inl me)), (mAS, .inl (cJ, 2, .inr (.inl mS))), (mAp, .inl (cZ, 2, .inl mp))] → va_S A s.heap H locs → lv_has ls 8 [(0, .ref mA), (1, .int v1), (2, .int v2), (3, .int v3), (4, .int v4)] → W p l e R s m args below meth c H locs 0 0 Q (F0 m 43 ls []) := by
    intro mr mo mf mt md mc mk mg mh
    intro k
    induction k with
    | zero => intro v3 v4 hw; exact False.elim hw
    | succ k ih43 =>
      intro v3 v4 hw H locs ls hP hD hS hl
      have hw : wp_X6_extreme_43b mx my mi mn v1 v2 K (wp_X6_extreme_43 mx my mi mn v1 v2 K  mr mo mf mt md mc mk mg mh k)  mr mo mf mt md mc mk mg mh v3 v4 := hw
      unfold wp_X6_extreme_43b at hw
      generalize wp_X6_extreme_43 mx my mi mn v1 v2 K  mr mo mf mt md mc mk mg mh k = L43 at hw ih43
      refine lv_iload hx hb dX6_extreme_43 (lv_at hl 4 rfl) ?_
      refine lv_aload_n hx hb dX6_extreme_45 rfl (lv_at hl 0 rfl) ?_
      refine va_get (D := D) (ci := 5) (v := .int mh) (C := RX6) (T := TX6) (N := 16) hx hb hts in_X6_extreme_X6 hown hK hP 0 rfl rfl 12 (by decide) (hts (.fieldLink RX6 114 "LiveHullModel" "rings" "I") (List.mem_of_getElem? (i := 3) rfl)) (fun _ h9 => h9) rfl dX6_extreme_46 ?_
      obtain ⟨hwA, hwB⟩ := hw
      refine lv_icmp_ge (tgt := 145) hx hb dX6_extreme_49 (by decide) (fun cb => ?_) (fun cb => ?_)
      · have hw := hwA cb
        refine lv_iload_n hx hb dX6_extreme_145 rfl (lv_at hl 3 rfl) ?_
        exact ret _ _ _ _ v3 (mr, mo, mf, mt, md, mc, mk, mg, mh) (vp_nar_int _) hw hP hD hS dX6_extreme_146
      · have hw := hwB cb
        refine lv_aload_n hx hb dX6_extreme_52 rfl (lv_at hl 0 rfl) ?_
        refine va_get (D := D) (ci := 5) (v := .ref mAg) (C := RX6) (T := TX6) (N := 16) hx hb hts in_X6_extreme_X6 hown hK hP 0 rfl rfl 11 (by decide) (hts (.fieldLink RX6 29 "LiveHullModel" "ring" "[I") (List.mem_of_getElem? (i := 2) rfl)) (fun _ h9 => h9) rfl dX6_extreme_53 ?_
        refine lv_iload hx hb dX6_extreme_56 (lv_at hl 4 rfl) ?_
        obtain ⟨hi, hw⟩ := hw
        refine va_iald hx hb hK hP 7 0 rfl rfl hi dX6_extreme_58 ?_
        refine lv_istore (lv' := [(5, .int (mg v4.toNatClampNeg)), (0, .ref mA), (1, .int v1), (2, .int v2), (3, .int v3), (4, .int v4)]) hx hb dX6_extreme_59 hl (by decide) rfl (fun ls hl => ?_)
        refine lv_iload_n hx hb dX6_extreme_61 rfl (lv_at hl 2 rfl) ?_
        refine lv_i2l hx hb dX6_extreme_62 rfl ?_
        refine lv_aload_n hx hb dX6_extreme_63 rfl (lv_at hl 1 rfl) ?_
        refine va_get (D := D) (ci := 5) (v := .ref mAx) (C := RX6) (T := TX6) (N := 16) hx hb hts in_X6_extreme_X6 hown hK hP 0 rfl rfl 0 (by decide) (hts (.fieldLink RX6 7 "LiveHullModel" "xs" "[I") (List.mem_of_getElem? (i := 4) rfl)) (fun _ h9 => h9) rfl dX6_extreme_64 ?_
        refine lv_iload hx hb dX6_extreme_67 (lv_at hl 0 rfl) ?_
        obtain ⟨hi, hw⟩ := hw
        refine va_iald hx hb hK hP 1 0 rfl rfl hi dX6_extreme_69 ?_
        refine lv_i2l hx hb dX6_extreme_70 rfl ?_
        refine lv_aload_n hx hb dX6_extreme_71 rfl (lv_at hl 1 rfl) ?_
        refine va_get (D := D) (ci := 5) (v := .ref mAx) (C := RX6) (T := TX6) (N := 16) hx hb hts in_X6_extreme_X6 hown hK hP 0 rfl rfl 0 (by decide) (hts (.fieldLink RX6 7 "LiveHullModel" "xs" "[I") (List.mem_of_getElem? (i := 4) rfl)) (fun _ h9 => h9) rfl dX6_extreme_72 ?_
        refine lv_iload_n hx hb dX6_extreme_75 rfl (lv_at hl 4 rfl) ?_
        obtain ⟨hi, hw⟩ := hw
        refine va_iald hx hb hK hP 1 0 rfl rfl hi dX6_extreme_76 ?_
        refine lv_i2l hx hb dX6_extreme_77 rfl ?_
        refine lv_lsub hx hb dX6_extreme_78 ?_
        refine lv_lmul hx hb dX6_extreme_79 ?_
        refine lv_iload_n hx hb dX6_extreme_80 rfl (lv_at hl 3 rfl) ?_
        refine lv_i2l hx hb dX6_extreme_81 rfl ?_
        refine lv_aload_n hx hb dX6_extreme_82 rfl (lv_at hl 1 rfl) ?_
        refine va_get (D := D) (ci := 5) (v := .ref mAy) (C := RX6) (T := TX6) (N := 16) hx hb hts in_X6_extreme_X6 hown hK hP 0 rfl rfl 1 (by decide) (hts (.fieldLink RX6 13 "LiveHullModel" "ys" "[I") (List.mem_of_getElem? (i := 5) rfl)) (fun _ h9 => h9) rfl dX6_extreme_83 ?_
        refine lv_iload hx hb dX6_extreme_86 (lv_at hl 0 rfl) ?_
        obtain ⟨hi, hw⟩ := hw
        refine va_iald hx hb hK hP 2 0 rfl rfl hi dX6_extreme_88 ?_
        refine lv_i2l hx hb dX6_extreme_89 rfl ?_
        refine lv_aload_n hx hb dX6_extreme_90 rfl (lv_at hl 1 rfl) ?_
        refine va_get (D := D) (ci := 5) (v := .ref mAy) (C := RX6) (T := TX6) (N := 16) hx hb hts in_X6_extreme_X6 hown hK hP 0 rfl rfl 1 (by decide) (hts (.fieldLink RX6 13 "LiveHullModel" "ys" "[I") (List.mem_of_getElem? (i := 5) rfl)) (fun _ h9 => h9) rfl dX6_extreme_91 ?_
        refine lv_iload_n hx hb dX6_extreme_94 rfl (lv_at hl 4 rfl) ?_
        obtain ⟨hi, hw⟩ := hw
        refine va_iald hx hb hK hP 2 0 rfl rfl hi dX6_extreme_95 ?_
        refine lv_i2l hx hb dX6_extreme_96 rfl ?_
        refine lv_lsub hx hb dX6_extreme_97 ?_
        refine lv_lmul hx hb dX6_extreme_98 ?_
        refine lv_ladd hx hb dX6_extreme_99 ?_
        refine lv_lstore (lv' := [(6, .long ((v1.toInt64 * ((mx (mg v4.toNatClampNeg).toNatClampNeg).toInt64 - (mx v3.toNatClampNeg).toInt64)) + (v2.toInt64 * ((my (mg v4.toNatClampNeg).toNatClampNeg).toInt64 - (my v3.toNatClampNeg).toInt64)))), (5, .int (mg v4.toNatClampNeg)), (0, .ref mA), (1, .int v1), (2, .int v2), (3, .int v3), (4, .int v4)]) hx hb dX6_extreme_100 hl (by decide) rfl (fun ls hl => ?_)
        refine lv_lload hx hb dX6_extreme_102 (lv_at hl 0 rfl) ?_
        refine lv_lconst (v := 0) hx hb dX6_extreme_104 (by decide) ?_
        refine W.lcmp hx hb dX6_extreme_105 ?_
        obtain ⟨hwA, hwB⟩ := hw
        refine lv_if_gt (tgt := 132) hx hb dX6_extreme_106 (by decide) (fun cb => ?_) (fun cb => ?_)
        · have hw := hwA ((cq_gt _ _).mp cb)
          refine lv_iload hx hb dX6_extreme_132 (lv_at hl 1 rfl) ?_
          refine lv_goto (tgt := 138) hx hb dX6_extreme_134 (by decide) ?_
          refine lv_istore_n (lv' := [(3, .int (mg v4.toNatClampNeg)), (6, .long ((v1.toInt64 * ((mx (mg v4.toNatClampNeg).toNatClampNeg).toInt64 - (mx v3.toNatClampNeg).toInt64)) + (v2.toInt64 * ((my (mg v4.toNatClampNeg).toNatClampNeg).toInt64 - (my v3.toNatClampNeg).toInt64)))), (5, .int (mg v4.toNatClampNeg)), (0, .ref mA), (1, .int v1), (2, .int v2), (4, .int v4)]) hx hb dX6_extreme_138 rfl hl (by decide) rfl (fun ls hl => ?_)
          refine lv_iinc (v := (v4 + 1)) (lv' := [(4, .int (v4 + 1)), (3, .int (mg v4.toNatClampNeg)), (6, .long ((v1.toInt64 * ((mx (mg v4.toNatClampNeg).toNatClampNeg).toInt64 - (mx v3.toNatClampNeg).toInt64)) + (v2.toInt64 * ((my (mg v4.toNatClampNeg).toNatClampNeg).toInt64 - (my v3.toNatClampNeg).toInt64)))), (5, .int (mg v4.toNatClampNeg)), (0, .ref mA), (1, .int v1), (2, .int v2)]) hx hb dX6_extreme_139 hl (k := 6) rfl rfl (by decide) rfl (fun ls hl => ?_)
          refine lv_goto (tgt := 43) hx hb dX6_extreme_142 (by decide) ?_
          exact ih43 (mg v4.toNatClampNeg) (v4 + 1) hw _ _ _ hP hD hS (lv_sub hl [4, 5, 6, 1, 0] rfl)
        · have hw := hwB (fun h => cb ((cq_gt _ _).mpr h))
          refine lv_lload hx hb dX6_extreme_109 (lv_at hl 0 rfl) ?_
          refine lv_lconst (v := 0) hx hb dX6_extreme_111 (by decide) ?_
          refine W.lcmp hx hb dX6_extreme_112 ?_
          obtain ⟨hwA, hwB⟩ := hw
          refine lv_if_ne (tgt := 137) hx hb dX6_extreme_113 (by decide) (fun cb => ?_) (fun cb => ?_)
          · have hw := hwA ((cq_ne _ _).mp cb)
            refine lv_iload_n hx hb dX6_extreme_137 rfl (lv_at hl 5 rfl) ?_
            refine lv_istore_n (lv' := [(3, .int v3), (6, .long ((v1.toInt64 * ((mx (mg v4.toNatClampNeg).toNatClampNeg).toInt64 - (mx v3.toNatClampNeg).toInt64)) + (v2.toInt64 * ((my (mg v4.toNatClampNeg).toNatClampNeg).toInt64 - (my v3.toNatClampNeg).toInt64)))), (5, .int (mg v4.toNatClampNeg)), (0, .ref mA), (1, .int v1), (2, .int v2), (4, .int v4)]) hx hb dX6_extreme_138 rfl hl (by decide) rfl (fun ls hl => ?_)
            refine lv_iinc (v := (v4 + 1)) (lv' := [(4, .int (v4 + 1)), (3, .int v3), (6, .long ((v1.toInt64 * ((mx (mg v4.toNatClampNeg).toNatClampNeg).toInt64 - (mx v3.toNatClampNeg).toInt64)) + (v2.toInt64 * ((my (mg v4.toNatClampNeg).toNatClampNeg).toInt64 - (my v3.toNatClampNeg).toInt64)))), (5, .int (mg v4.toNatClampNeg)), (0, .ref mA), (1, .int v1), (2, .int v2)]) hx hb dX6_extreme_139 hl (k := 6) rfl rfl (by decide) rfl (fun ls hl => ?_)
            refine lv_goto (tgt := 43) hx hb dX6_extreme_142 (by decide) ?_
            exact ih43 v3 (v4 + 1) hw _ _ _ hP hD hS (lv_sub hl [4, 5, 6, 1, 0] rfl)
          · have hw := hwB ((cq_eq _ _).mp cb)
            refine lv_aload_n hx hb dX6_extreme_116 rfl (lv_at hl 2 rfl) ?_
            refine va_get (D := D) (ci := 5) (v := .ref mAo) (C := RX6) (T := TX6) (N := 16) hx hb hts in_X6_extreme_X6 hown hK hP 0 rfl rfl 5 (by decide) (hts (.fieldLink RX6 23 "LiveHullModel" "rankOf" "[I") (List.mem_of_getElem? (i := 6) rfl)) (fun _ h9 => h9) rfl dX6_extreme_117 ?_
            refine lv_iload hx hb dX6_extreme_120 (lv_at hl 1 rfl) ?_
            obtain ⟨hi, hw⟩ := hw
            refine va_iald hx hb hK hP 5 0 rfl rfl hi dX6_extreme_122 ?_
            refine lv_aload_n hx hb dX6_extreme_123 rfl (lv_at hl 2 rfl) ?_
            refine va_get (D := D) (ci := 5) (v := .ref mAo) (C := RX6) (T := TX6) (N := 16) hx hb hts in_X6_extreme_X6 hown hK hP 0 rfl rfl 5 (by decide) (hts (.fieldLink RX6 23 "LiveHullModel" "rankOf" "[I") (List.mem_of_getElem? (i := 6) rfl)) (fun _ h9 => h9) rfl dX6_extreme_124 ?_
            refine lv_iload_n hx hb dX6_extreme_127 rfl (lv_at hl 5 rfl) ?_
            obtain ⟨hi, hw⟩ := hw
            refine va_iald hx hb hK hP 5 0 rfl rfl hi dX6_extreme_128 ?_
            obtain ⟨hwA, hwB⟩ := hw
            refine lv_icmp_ge (tgt := 137) hx hb dX6_extreme_129 (by decide) (fun cb => ?_) (fun cb => ?_)
            · have hw := hwA cb
              refine lv_iload_n hx hb dX6_extreme_137 rfl (lv_at hl 5 rfl) ?_
              refine lv_istore_n (lv' := [(3, .int v3), (6, .long ((v1.toInt64 * ((mx (mg v4.toNatClampNeg).toNatClampNeg).toInt64 - (mx v3.toNatClampNeg).toInt64)) + (v2.toInt64 * ((my (mg v4.toNatClampNeg).toNatClampNeg).toInt64 - (my v3.toNatClampNeg).toInt64)))), (5, .int (mg v4.toNatClampNeg)), (0, .ref mA), (1, .int v1), (2, .int v2), (4, .int v4)]) hx hb dX6_extreme_138 rfl hl (by decide) rfl (fun ls hl => ?_)
              refine lv_iinc (v := (v4 + 1)) (lv' := [(4, .int (v4 + 1)), (3, .int v3), (6, .long ((v1.toInt64 * ((mx (mg v4.toNatClampNeg).toNatClampNeg).toInt64 - (mx v3.toNatClampNeg).toInt64)) + (v2.toInt64 * ((my (mg v4.toNatClampNeg).toNatClampNeg).toInt64 - (my v3.toNatClampNeg).toInt64)))), (5, .int (mg v4.toNatClampNeg)), (0, .ref mA), (1, .int v1), (2, .int v2)]) hx hb dX6_extreme_139 hl (k := 6) rfl rfl (by decide) rfl (fun ls hl => ?_)
              refine lv_goto (tgt := 43) hx hb dX6_extreme_142 (by decide) ?_
              exact ih43 v3 (v4 + 1) hw _ _ _ hP hD hS (lv_sub hl [4, 5, 6, 1, 0] rfl)
            · have hw := hwB cb
              refine lv_iload hx hb dX6_extreme_132 (lv_at hl 1 rfl) ?_
              refine lv_goto (tgt := 138) hx hb dX6_extreme_134 (by decide) ?_
              refine lv_istore_n (lv' := [(3, .int (mg v4.toNatClampNeg)), (6, .long ((v1.toInt64 * ((mx (mg v4.toNatClampNeg).toNatClampNeg).toInt64 - (mx v3.toNatClampNeg).toInt64)) + (v2.toInt64 * ((my (mg v4.toNatClampNeg).toNatClampNeg).toInt64 - (my v3.toNatClampNeg).toInt64)))), (5, .int (mg v4.toNatClampNeg)), (0, .ref mA), (1, .int v1), (2, .int v2), (4, .int v4)]) hx hb dX6_extreme_138 rfl hl (by decide) rfl (fun ls hl => ?_)
              refine lv_iinc (v := (v4 + 1)) (lv' := [(4, .int (v4 + 1)), (3, .int (mg v4.toNatClampNeg)), (6, .long ((v1.toInt64 * ((mx (mg v4.toNatClampNeg).toNatClampNeg).toInt64 - (mx v3.toNatClampNeg).toInt64)) + (v2.toInt64 * ((my (mg v4.toNatClampNeg).toNatClampNeg).toInt64 - (my v3.toNatClampNeg).toInt64)))), (5, .int (mg v4.toNatClampNeg)), (0, .ref mA), (1, .int v1), (2, .int v2)]) hx hb dX6_extreme_139 hl (k := 6) rfl rfl (by decide) rfl (fun ls hl => ?_)
              refine lv_goto (tgt := 43) hx hb dX6_extreme_142 (by decide) ?_
              exact ih43 (mg v4.toNatClampNeg) (v4 + 1) hw _ _ _ hP hD hS (lv_sub hl [4, 5, 6, 1, 0] rfl)
  have N29 : ∀ (mr : Nat → Int32) (mo : Nat → Int32) (mf : Int32) (mt : Int32) (md : Int32) (mc : Nat → Int32) (mk : Int32) (mg : Nat → Int32) (mh : Int32), wp_X6_extreme_29 mx my mi mn v1 v2 K  mr mo mf mt md mc mk mg mh → ∀ (H : Heap) (locs : List Loc) (ls : Array Slot), va_P D vwCl [(mA, .inr (5, [.ref mAx, .ref mAy, .ref mAi, .int mn, .ref mAr, .ref mAo, .int mf, .int mt, .int md, .ref mAc, .int mk, .ref mAg, .int mh, .ref mAe, .ref mAS, .ref mAp])), (mAx, .inl (cI, 32, .inl mx)), (mAy, .inl (cI, 32, .inl my)), (mAi, .inl (cZ, 32, .inl mi)), (mAr, .inl (cI, 32, .inl mr)), (mAo, .inl (cI, 32, .inl mo)), (mAc, .inl (cI, 34, .inl mc)), (mAg, .inl (cI, 34, .inl mg)), (mAe, .inl (cI, 128, .inl me)), (mAS, .inl (cJ, 2, .inr (.inl mS))), (mAp, .inl (cZ, 2, .inl mp))] H → va_D A [(mA, .inr (5, [.ref mAx, .ref mAy, .ref mAi, .int mn, .ref mAr, .ref mAo, .int mf, .int mt, .int md, .ref mAc, .int mk, .ref mAg, .int mh, .ref mAe, .ref mAS, .ref mAp])), (mAx, .inl (cI, 32, .inl mx)), (mAy, .inl (cI, 32, .inl my)), (mAi, .inl (cZ, 32, .inl mi)), (mAr, .inl (cI, 32, .inl mr)), (mAo, .inl (cI, 32, .inl mo)), (mAc, .inl (cI, 34, .inl mc)), (mAg, .inl (cI, 34, .inl mg)), (mAe, .inl (cI, 128, .inl me)), (mAS, .inl (cJ, 2, .inr (.inl mS))), (mAp, .inl (cZ, 2, .inl mp))] → va_S A s.heap H locs → lv_has ls 8 [(0, .ref mA), (1, .int v1), (2, .int v2)] → W p l e R s m args below meth c H locs 0 0 Q (F0 m 29 ls []) := by
    intro mr mo mf mt md mc mk mg mh hw H locs ls hP hD hS hl
    unfold wp_X6_extreme_29 at hw
    refine lv_aload_n hx hb dX6_extreme_29 rfl (lv_at hl 0 rfl) ?_
    refine cl_Vv (As := []) (rest := []) ⟨hx, hb, hml, hown, hts⟩ (c_X6_layRound l D cI cJ cZ cO mA mAx mAy mAi mAr mAo mAc mAg mAe mAS mAp mx my mi mn mr mo mf mt md mc mk mg mh me mS mp  _ hw) (cwV 0 hts gX6_extreme_X6_layRound rfl rfl rfl hd_X6_layRound ⟨Nat.le_trans (Nat.le_of_ble_eq_true rfl) hRf, Nat.le_trans (Nat.le_of_ble_eq_true rfl) hRl⟩) hK hP hD hS hA [0, 1, 2, 3, 4, 5, 6, 7, 8, 9, 10] [] rfl (by decide) rfl (by decide) (by decide) 0 5 rfl rfl rfl hl.1 rfl (Nat.le_of_ble_eq_true rfl) dX6_extreme_30 ⟨Nat.zero_le _, Nat.zero_le _⟩ (fun u H locs hw hP hD hS => ?_)
    obtain ⟨mr_30, mo_30, mf_30, mt_30, md_30, mc_30, mk_30, mg_30, mh_30⟩ := u
    try dsimp only at hw
    have hP : va_P D vwCl [(mA, .inr (5, [.ref mAx, .ref mAy, .ref mAi, .int mn, .ref mAr, .ref mAo, .int mf_30, .int mt_30, .int md_30, .ref mAc, .int mk_30, .ref mAg, .int mh_30, .ref mAe, .ref mAS, .ref mAp])), (mAx, .inl (cI, 32, .inl mx)), (mAy, .inl (cI, 32, .inl my)), (mAi, .inl (cZ, 32, .inl mi)), (mAr, .inl (cI, 32, .inl mr_30)), (mAo, .inl (cI, 32, .inl mo_30)), (mAc, .inl (cI, 34, .inl mc_30)), (mAg, .inl (cI, 34, .inl mg_30)), (mAe, .inl (cI, 128, .inl me)), (mAS, .inl (cJ, 2, .inr (.inl mS))), (mAp, .inl (cZ, 2, .inl mp))] H := hP.sub [0, 1, 2, 3, 4, 5, 6, 7, 8, 9, 10] rfl
    have hD : va_D A [(mA, .inr (5, [.ref mAx, .ref mAy, .ref mAi, .int mn, .ref mAr, .ref mAo, .int mf_30, .int mt_30, .int md_30, .ref mAc, .int mk_30, .ref mAg, .int mh_30, .ref mAe, .ref mAS, .ref mAp])), (mAx, .inl (cI, 32, .inl mx)), (mAy, .inl (cI, 32, .inl my)), (mAi, .inl (cZ, 32, .inl mi)), (mAr, .inl (cI, 32, .inl mr_30)), (mAo, .inl (cI, 32, .inl mo_30)), (mAc, .inl (cI, 34, .inl mc_30)), (mAg, .inl (cI, 34, .inl mg_30)), (mAe, .inl (cI, 128, .inl me)), (mAS, .inl (cJ, 2, .inr (.inl mS))), (mAp, .inl (cZ, 2, .inl mp))] := hD.sub [0, 1, 2, 3, 4, 5, 6, 7, 8, 9, 10] (by decide) rfl
    refine lv_aload_n hx hb dX6_extreme_33 rfl (lv_at hl 0 rfl) ?_
    refine va_get (D := D) (ci := 5) (v := .ref mAg) (C := RX6) (T := TX6) (N := 16) hx hb hts in_X6_extreme_X6 hown hK hP 0 rfl rfl 11 (by decide) (hts (.fieldLink RX6 29 "LiveHullModel" "ring" "[I") (List.mem_of_getElem? (i := 2) rfl)) (fun _ h9 => h9) rfl dX6_extreme_34 ?_
    refine lv_iconst (v := 0) hx hb dX6_extreme_37 (by decide) ?_
    obtain ⟨hi, hw⟩ := hw
    refine va_iald hx hb hK hP 7 0 rfl rfl hi dX6_extreme_38 ?_
    refine lv_istore_n (lv' := [(3, .int (mg_30 (0 : Int32).toNatClampNeg)), (0, .ref mA), (1, .int v1), (2, .int v2)]) hx hb dX6_extreme_39 rfl hl (by decide) rfl (fun ls hl => ?_)
    refine lv_iconst (v := 1) hx hb dX6_extreme_40 (by decide) ?_
    refine lv_istore (lv' := [(4, .int 1), (3, .int (mg_30 (0 : Int32).toNatClampNeg)), (0, .ref mA), (1, .int v1), (2, .int v2)]) hx hb dX6_extreme_41 hl (by decide) rfl (fun ls hl => ?_)
    obtain ⟨k, hw⟩ := hw
    exact N43 mr_30 mo_30 mf_30 mt_30 md_30 mc_30 mk_30 mg_30 mh_30 k (mg_30 (0 : Int32).toNatClampNeg) 1 hw _ _ _ hP hD hS (lv_sub hl [2, 3, 4, 1, 0] rfl)
  unfold wp_X6_extreme at hw
  refine lv_iload_n hx hb dX6_extreme_0 rfl (lv_at hl 1 rfl) ?_
  refine lv_iload_n hx hb dX6_extreme_1 rfl (lv_at hl 2 rfl) ?_
  refine cl_Si (As := [.int v1, .int v2]) (rest := []) ⟨hx, hb, hml, hown, hts⟩ (c_X6_isPlace l D cI cJ cZ cO   v1 v2 _ hw) (va_cwS 2 hts gX6_extreme_X6_isPlace rfl rfl rfl hd_X6_isPlace.2 ⟨Nat.le_trans (Nat.le_of_ble_eq_true rfl) hRf, Nat.le_trans (Nat.le_of_ble_eq_true rfl) hRl⟩) hK hP hD hS hA [] [0, 1, 2, 3, 4, 5, 6, 7, 8, 9, 10] rfl (by decide) rfl (by decide) (by decide) rfl hl.1 rfl (Nat.le_of_ble_eq_true rfl) dX6_extreme_2 ⟨Nat.zero_le _, Nat.zero_le _⟩ (fun r2 _u H locs hw hP hD hS => ?_)
  try dsimp only at hw
  have hP : va_P D vwCl [(mA, .inr (5, [.ref mAx, .ref mAy, .ref mAi, .int mn, .ref mAr, .ref mAo, .int mf, .int mt, .int md, .ref mAc, .int mk, .ref mAg, .int mh, .ref mAe, .ref mAS, .ref mAp])), (mAx, .inl (cI, 32, .inl mx)), (mAy, .inl (cI, 32, .inl my)), (mAi, .inl (cZ, 32, .inl mi)), (mAr, .inl (cI, 32, .inl mr)), (mAo, .inl (cI, 32, .inl mo)), (mAc, .inl (cI, 34, .inl mc)), (mAg, .inl (cI, 34, .inl mg)), (mAe, .inl (cI, 128, .inl me)), (mAS, .inl (cJ, 2, .inr (.inl mS))), (mAp, .inl (cZ, 2, .inl mp))] H := hP.sub [0, 1, 2, 3, 4, 5, 6, 7, 8, 9, 10] rfl
  have hD : va_D A [(mA, .inr (5, [.ref mAx, .ref mAy, .ref mAi, .int mn, .ref mAr, .ref mAo, .int mf, .int mt, .int md, .ref mAc, .int mk, .ref mAg, .int mh, .ref mAe, .ref mAS, .ref mAp])), (mAx, .inl (cI, 32, .inl mx)), (mAy, .inl (cI, 32, .inl my)), (mAi, .inl (cZ, 32, .inl mi)), (mAr, .inl (cI, 32, .inl mr)), (mAo, .inl (cI, 32, .inl mo)), (mAc, .inl (cI, 34, .inl mc)), (mAg, .inl (cI, 34, .inl mg)), (mAe, .inl (cI, 128, .inl me)), (mAS, .inl (cJ, 2, .inr (.inl mS))), (mAp, .inl (cZ, 2, .inl mp))] := hD.sub [0, 1, 2, 3, 4, 5, 6, 7, 8, 9, 10] (by decide) rfl
  obtain ⟨hwA, hwB⟩ := hw
  refine lv_if_ne (tgt := 11) hx hb dX6_extreme_5 (by decide) (fun cb => ?_) (fun cb => ?_)
  · have hw := hwA cb
    refine lv_aload_n hx hb dX6_extreme_11 rfl (lv_at hl 0 rfl) ?_
    refine va_get (D := D) (ci := 5) (v := .int mn) (C := RX6) (T := TX6) (N := 16) hx hb hts in_X6_extreme_X6 hown hK hP 0 rfl rfl 3 (by decide) (hts (.fieldLink RX6 55 "LiveHullModel" "many" "I") (List.mem_of_getElem? (i := 1) rfl)) (fun _ h9 => h9) rfl dX6_extreme_12 ?_
    obtain ⟨hwA, hwB⟩ := hw
    refine lv_if_eq (tgt := 26) hx hb dX6_extreme_15 (by decide) (fun cb => ?_) (fun cb => ?_)
    · have hw := hwA cb
      refine lv_bipush (v := (-5)) hx hb dX6_extreme_26 (by decide) ?_
      exact ret _ _ _ _ (-5) (mr, mo, mf, mt, md, mc, mk, mg, mh) (vp_nar_int _) hw hP hD hS dX6_extreme_28
    · have hw := hwB cb
      refine lv_iload_n hx hb dX6_extreme_18 rfl (lv_at hl 1 rfl) ?_
      obtain ⟨hwA, hwB⟩ := hw
      refine lv_if_ne (tgt := 29) hx hb dX6_extreme_19 (by decide) (fun cb => ?_) (fun cb => ?_)
      · have hw := hwA cb
        exact N29 mr mo mf mt md mc mk mg mh hw _ _ _ hP hD hS (lv_sub hl [0, 1, 2] rfl)
      · have hw := hwB cb
        refine lv_iload_n hx hb dX6_extreme_22 rfl (lv_at hl 2 rfl) ?_
        obtain ⟨hwA, hwB⟩ := hw
        refine lv_if_ne (tgt := 29) hx hb dX6_extreme_23 (by decide) (fun cb => ?_) (fun cb => ?_)
        · have hw := hwA cb
          exact N29 mr mo mf mt md mc mk mg mh hw _ _ _ hP hD hS (lv_sub hl [0, 1, 2] rfl)
        · have hw := hwB cb
          refine lv_bipush (v := (-5)) hx hb dX6_extreme_26 (by decide) ?_
          exact ret _ _ _ _ (-5) (mr, mo, mf, mt, md, mc, mk, mg, mh) (vp_nar_int _) hw hP hD hS dX6_extreme_28
  · have hw := hwB cb
    refine lv_bipush (v := (-2)) hx hb dX6_extreme_8 (by decide) ?_
    exact ret _ _ _ _ (-2) (mr, mo, mf, mt, md, mc, mk, mg, mh) (vp_nar_int _) hw hP hD hS dX6_extreme_10
theorem hd_X6_isBetween : yX6_isBetween.cls = RX6 ∧ yX6_isBetween.cls ≠ "java/lang/invoke/MethodHandle" ∧ yX6_isBetween.cls ≠ "java/lang/invoke/VarHandle" ∧ (parseMethodDescriptor yX6_isBetween.desc).map (fun d => d.parameters.length) = some 3 := by decide +kernel
set_option maxHeartbeats 8000000 in
set_option maxRecDepth 100000 in
theorem c_X6_isBetween (l : Launch) (D : va_G) (cI cJ cZ cO : ClassId)   (v0 : Int32) (v1 : Int32) (v2 : Int32) (K : Int32 → Prop) (hw : wp_X6_isBetween v0 v1 v2 K) : Ci l D (tys4 cI cJ cZ cO) yX6_isBetween wsX6_isBetween { frames := 1, cells := 0, slots := 0, locals := 22 } [.int v0, .int v1, .int v2] [] (fun (r : Int32) (_ : Unit) => K r) (fun _ => []) := by
  refine mt_i (cc := cX6_isBetween) (maxL := 3) (rt := .boolean) (by decide) rfl (Nat.le_of_ble_eq_true rfl) ?_
  intro p e s m args below meth c Q A R ls hRf hRl hx hb hml hown hts hK hA hP hD hS hl ret
  have hown : s.vm.findClass RX6 = some m.cls := hown
  have hl : lv_has ls 3 [(0, .int v0), (1, .int v1), (2, .int v2)] := hl
  unfold wp_X6_isBetween at hw
  refine lv_iload_n hx hb dX6_isBetween_0 rfl (lv_at hl 1 rfl) ?_
  refine lv_iload_n hx hb dX6_isBetween_1 rfl (lv_at hl 2 rfl) ?_
  obtain ⟨hwA, hwB⟩ := hw
  refine lv_icmp_ge (tgt := 14) hx hb dX6_isBetween_2 (by decide) (fun cb => ?_) (fun cb => ?_)
  · have hw := hwA cb
    refine lv_iload_n hx hb dX6_isBetween_14 rfl (lv_at hl 0 rfl) ?_
    refine lv_iload_n hx hb dX6_isBetween_15 rfl (lv_at hl 2 rfl) ?_
    refine lv_iload_n hx hb dX6_isBetween_16 rfl (lv_at hl 1 rfl) ?_
    refine cl_Si (As := [.int v0, .int v2, .int v1]) (rest := []) ⟨hx, hb, hml, hown, hts⟩ (c_X6_in l D cI cJ cZ cO   v0 v2 v1 _ hw) (va_cwS 3 hts gX6_isBetween_X6_in rfl rfl rfl hd_X6_in.2 ⟨Nat.le_trans (Nat.le_of_ble_eq_true rfl) hRf, Nat.le_trans (Nat.le_of_ble_eq_true rfl) hRl⟩) hK hP hD hS hA [] [] rfl (by decide) rfl (by decide) (by decide) rfl hl.1 rfl (Nat.le_of_ble_eq_true rfl) dX6_isBetween_17 ⟨Nat.zero_le _, Nat.zero_le _⟩ (fun r17 _u H locs hw hP hD hS => ?_)
    try dsimp only at hw
    have hP : va_P D vwCl [] H := hP.sub [] rfl
    have hD : va_D A [] := hD.sub [] (by decide) rfl
    obtain ⟨hn, hw⟩ := hw
    exact ret _ _ _ _ r17 () hn hw hP hD hS dX6_isBetween_20
  · have hw := hwB cb
    refine lv_iload_n hx hb dX6_isBetween_5 rfl (lv_at hl 0 rfl) ?_
    refine lv_iload_n hx hb dX6_isBetween_6 rfl (lv_at hl 1 rfl) ?_
    refine lv_iload_n hx hb dX6_isBetween_7 rfl (lv_at hl 2 rfl) ?_
    refine cl_Si (As := [.int v0, .int v1, .int v2]) (rest := []) ⟨hx, hb, hml, hown, hts⟩ (c_X6_in l D cI cJ cZ cO   v0 v1 v2 _ hw) (va_cwS 3 hts gX6_isBetween_X6_in rfl rfl rfl hd_X6_in.2 ⟨Nat.le_trans (Nat.le_of_ble_eq_true rfl) hRf, Nat.le_trans (Nat.le_of_ble_eq_true rfl) hRl⟩) hK hP hD hS hA [] [] rfl (by decide) rfl (by decide) (by decide) rfl hl.1 rfl (Nat.le_of_ble_eq_true rfl) dX6_isBetween_8 ⟨Nat.zero_le _, Nat.zero_le _⟩ (fun r8 _u H locs hw hP hD hS => ?_)
    try dsimp only at hw
    have hP : va_P D vwCl [] H := hP.sub [] rfl
    have hD : va_D A [] := hD.sub [] (by decide) rfl
    refine lv_goto (tgt := 20) hx hb dX6_isBetween_11 (by decide) ?_
    obtain ⟨hn, hw⟩ := hw
    exact ret _ _ _ _ r8 () hn hw hP hD hS dX6_isBetween_20
theorem in_X6_whereOf_X6 : ∀ w ∈ wsX60, w ∈ wsX6_whereOf := fun _ h => List.mem_cons_of_mem _ (List.mem_append_right _ h)
theorem hd_X6_whereOf : yX6_whereOf.cls = RX6 ∧ yX6_whereOf.cls ≠ "java/lang/invoke/MethodHandle" ∧ yX6_whereOf.cls ≠ "java/lang/invoke/VarHandle" ∧ (parseMethodDescriptor yX6_whereOf.desc).map (fun d => d.parameters.length) = some 2 := by decide +kernel
set_option maxHeartbeats 8000000 in
set_option maxRecDepth 100000 in
theorem c_X6_whereOf (l : Launch) (D : va_G) (cI cJ cZ cO : ClassId) (mA mAx mAy mAi mAr mAo mAc mAg mAe mAS mAp : Nat) (mx : Nat → Int32) (my : Nat → Int32) (mi : Nat → Int32) (mn : Int32) (mr : Nat → Int32) (mo : Nat → Int32) (mf : Int32) (mt : Int32) (md : Int32) (mc : Nat → Int32) (mk : Int32) (mg : Nat → Int32) (mh : Int32) (me : Nat → Int32) (mS : Nat → Int64) (mp : Nat → Int32) (v1 : Int32) (v2 : Int32) (K : Int32 → (Nat → Int32) → (Nat → Int32) → Int32 → Int32 → Int32 → (Nat → Int32) → Int32 → (Nat → Int32) → Int32 → Prop) (hw : wp_X6_whereOf mx my mi mn mr mo mf mt md mc mk mg mh v1 v2 K) : Ci l D (tys4 cI cJ cZ cO) yX6_whereOf wsX6_whereOf { frames := 4, cells := 0, slots := 0, locals := 99 } [.ref mA, .int v1, .int v2] [(mA, .inr (5, [.ref mAx, .ref mAy, .ref mAi, .int mn, .ref mAr, .ref mAo, .int mf, .int mt, .int md, .ref mAc, .int mk, .ref mAg, .int mh, .ref mAe, .ref mAS, .ref mAp])), (mAx, .inl (cI, 32, .inl mx)), (mAy, .inl (cI, 32, .inl my)), (mAi, .inl (cZ, 32, .inl mi)), (mAr, .inl (cI, 32, .inl mr)), (mAo, .inl (cI, 32, .inl mo)), (mAc, .inl (cI, 34, .inl mc)), (mAg, .inl (cI, 34, .inl mg)), (mAe, .inl (cI, 128, .inl me)), (mAS, .inl (cJ, 2, .inr (.inl mS))), (mAp, .inl (cZ, 2, .inl mp))] (fun (r : Int32) (u : (Nat → Int32) × (Nat → Int32) × (Int32) × (Int32) × (Int32) × (Nat → Int32) × (Int32) × (Nat → Int32) × (Int32)) => K r u.1 u.2.1 u.2.2.1 u.2.2.2.1 u.2.2.2.2.1 u.2.2.2.2.2.1 u.2.2.2.2.2.2.1 u.2.2.2.2.2.2.2.1 u.2.2.2.2.2.2.2.2) (fun u => [(mA, .inr (5, [.ref mAx, .ref mAy, .ref mAi, .int mn, .ref mAr, .ref mAo, .int u.2.2.1, .int u.2.2.2.1, .int u.2.2.2.2.1, .ref mAc, .int u.2.2.2.2.2.2.1, .ref mAg, .int u.2.2.2.2.2.2.2.2, .ref mAe, .ref mAS, .ref mAp])), (mAx, .inl (cI, 32, .inl mx)), (mAy, .inl (cI, 32, .inl my)), (mAi, .inl (cZ, 32, .inl mi)), (mAr, .inl (cI, 32, .inl u.1)), (mAo, .inl (cI, 32, .inl u.2.1)), (mAc, .inl (cI, 34, .inl u.2.2.2.2.2.1)), (mAg, .inl (cI, 34, .inl u.2.2.2.2.2.2.2.1)), (mAe, .inl (cI, 128, .inl me)), (mAS, .inl (cJ, 2, .inr (.inl mS))), (mAp, .inl (cZ, 2, .inl mp))]) := by
  refine mt_i (cc := cX6_whereOf) (maxL := 10) (rt := .int) (by decide) rfl (Nat.le_of_ble_eq_true rfl) ?_
  intro p e s m args below meth c Q A R ls hRf hRl hx hb hml hown hts hK hA hP hD hS hl ret
  have hown : s.vm.findClass RX6 = some m.cls := hown
  have hl : lv_has ls 10 [(0, .ref mA), (1, .int v1), (2, .int v2)] := hl
  have N24 : ∀ (mr : Nat → Int32) (mo : Nat → Int32) (mf : Int32) (mt : Int32) (md : Int32) (mc : Nat → Int32) (mk : Int32) (mg : Nat → Int32) (mh : Int32) (k : Nat) (v3 : Int32) (v4 : Int32) (v5 : Int32), wp_X6_whereOf_24 mx my mi mn v1 v2 K  mr mo mf mt md mc mk mg mh k v3 v4 v5 → ∀ (H : Heap) (locs : List Loc) (ls : Array Slot), va_P D vwCl [(mA, .inr (5, [.ref mAx, .ref mAy, .ref mAi, .int mn, .ref mAr, .ref mAo, .int mf, .int mt, .int md, .ref mAc, .int mk, .ref mAg, .int mh, .ref mAe, .ref mAS, .ref mAp])), (mAx, .inl (cI, 32, .inl mx)), (mAy, .inl (cI, 32, .inl my)), (mAi, .inl (cZ, 32, .inl mi)), (mAr, .inl (cI, 32, .inl mr)), (mAo, .inl (cI, 32, .inl mo)), (mAc, .inl (cI, 34, .inl mc)), (mAg, .inl (cI, 34, .inl mg)), (mAe, .inl (cI, 128, .inl me)), (mAS, .inl (cJ, 2, .inr (.inl mS))), (mAp, .inl (cZ, 2, .inl mp))] H → va_D A [(mA, .inr (5, [.ref mAx, .ref mAy, .ref mAi, .int mn, .ref mAr, .ref mAo, .int mf, .int mt, .int md, .ref mAc, .int mk, .ref mAg, .int mh, .ref mAe, .ref mAS, .ref mAp])), (mAx, .inl (cI, 32, .inl mx)), (mAy, .inl (cI, 32, .inl my)), (mAi, .inl (cZ, 32, .inl mi)), (mAr, .inl (cI, 32, .inl mr)), (mAo, .inl (cI, 32, .inl mo)), (mAc, .inl (cI, 34, .inl mc)), (mAg, .inl (cI, 34, .inl mg)), (mAe, .inl (cI, 128, .inl me)), (mAS, .inl (cJ, 2, .inr (.inl mS))), (mAp, .inl (cZ, 2, .inl mp))] → va_S A s.heap H locs → lv_has ls 10 [(0, .ref mA), (1, .int v1), (2, .int v2), (3, .int v3), (4, .int v4), (5, .int v5)] → W p l e R s m args below meth c H locs 0 0 Q (F0 m 24 ls []) := by
    intro mr mo mf mt md mc mk mg mh
    intro k
    induction k with
    | zero => intro v3 v4 v5 hw; exact False.elim hw
    | succ k ih24 =>
      intro v3 v4 v5 hw H locs ls hP hD hS hl
      have hw : wp_X6_whereOf_24b mx my mi mn v1 v2 K (wp_X6_whereOf_24 mx my mi mn v1 v2 K  mr mo mf mt md mc mk mg mh k)  mr mo mf mt md mc mk mg mh v3 v4 v5 := hw
      unfold wp_X6_whereOf_24b at hw
      generalize wp_X6_whereOf_24 mx my mi mn v1 v2 K  mr mo mf mt md mc mk mg mh k = L24 at hw ih24
      have N139 : ∀ (v4 : Int32) (v5 : Int32) (v6 : Int32) (v7 : Int32) (v8 : Int64) (s0 : Int32), wp_X6_whereOf_139 mx my mi mn v1 v2 K L24 mr mo mf mt md mc mk mg mh v4 v5 v6 v7 v8 s0 → ∀ (H : Heap) (locs : List Loc) (ls : Array Slot), va_P D vwCl [(mA, .inr (5, [.ref mAx, .ref mAy, .ref mAi, .int mn, .ref mAr, .ref mAo, .int mf, .int mt, .int md, .ref mAc, .int mk, .ref mAg, .int mh, .ref mAe, .ref mAS, .ref mAp])), (mAx, .inl (cI, 32, .inl mx)), (mAy, .inl (cI, 32, .inl my)), (mAi, .inl (cZ, 32, .inl mi)), (mAr, .inl (cI, 32, .inl mr)), (mAo, .inl (cI, 32, .inl mo)), (mAc, .inl (cI, 34, .inl mc)), (mAg, .inl (cI, 34, .inl mg)), (mAe, .inl (cI, 128, .inl me)), (mAS, .inl (cJ, 2, .inr (.inl mS))), (mAp, .inl (cZ, 2, .inl mp))] H → va_D A [(mA, .inr (5, [.ref mAx, .ref mAy, .ref mAi, .int mn, .ref mAr, .ref mAo, .int mf, .int mt, .int md, .ref mAc, .int mk, .ref mAg, .int mh, .ref mAe, .ref mAS, .ref mAp])), (mAx, .inl (cI, 32, .inl mx)), (mAy, .inl (cI, 32, .inl my)), (mAi, .inl (cZ, 32, .inl mi)), (mAr, .inl (cI, 32, .inl mr)), (mAo, .inl (cI, 32, .inl mo)), (mAc, .inl (cI, 34, .inl mc)), (mAg, .inl (cI, 34, .inl mg)), (mAe, .inl (cI, 128, .inl me)), (mAS, .inl (cJ, 2, .inr (.inl mS))), (mAp, .inl (cZ, 2, .inl mp))] → va_S A s.heap H locs → lv_has ls 10 [(0, .ref mA), (1, .int v1), (2, .int v2), (4, .int v4), (5, .int v5), (6, .int v6), (7, .int v7), (8, .long v8)] → W p l e R s m args below meth c H locs 0 0 Q (F0 m 139 ls [.int s0]) := by
        intro v4 v5 v6 v7 v8 s0 hw H locs ls hP hD hS hl
        unfold wp_X6_whereOf_139 at hw
        refine lv_istore_n (lv' := [(3, .int s0), (0, .ref mA), (1, .int v1), (2, .int v2), (4, .int v4), (5, .int v5), (6, .int v6), (7, .int v7), (8, .long v8)]) hx hb dX6_whereOf_139 rfl hl (by decide) rfl (fun ls hl => ?_)
        refine lv_iload hx hb dX6_whereOf_140 (lv_at hl 4 rfl) ?_
        obtain ⟨hwA, hwB⟩ := hw
        refine lv_if_ne (tgt := 202) hx hb dX6_whereOf_142 (by decide) (fun cb => ?_) (fun cb => ?_)
        · have hw := hwA cb
          refine lv_iconst (v := 1) hx hb dX6_whereOf_202 (by decide) ?_
          refine lv_goto (tgt := 207) hx hb dX6_whereOf_203 (by decide) ?_
          refine lv_istore (lv' := [(4, .int 1), (3, .int s0), (0, .ref mA), (1, .int v1), (2, .int v2), (5, .int v5), (6, .int v6), (7, .int v7), (8, .long v8)]) hx hb dX6_whereOf_207 hl (by decide) rfl (fun ls hl => ?_)
          refine lv_iinc (v := (v5 + 1)) (lv' := [(5, .int (v5 + 1)), (4, .int 1), (3, .int s0), (0, .ref mA), (1, .int v1), (2, .int v2), (6, .int v6), (7, .int v7), (8, .long v8)]) hx hb dX6_whereOf_209 hl (k := 5) rfl rfl (by decide) rfl (fun ls hl => ?_)
          refine lv_goto (tgt := 24) hx hb dX6_whereOf_212 (by decide) ?_
          exact ih24 s0 1 (v5 + 1) hw _ _ _ hP hD hS (lv_sub hl [3, 4, 5, 2, 1, 0] rfl)
        · have hw := hwB cb
          refine lv_aload_n hx hb dX6_whereOf_145 rfl (lv_at hl 1 rfl) ?_
          refine va_get (D := D) (ci := 5) (v := .int mh) (C := RX6) (T := TX6) (N := 16) hx hb hts in_X6_whereOf_X6 hown hK hP 0 rfl rfl 12 (by decide) (hts (.fieldLink RX6 114 "LiveHullModel" "rings" "I") (List.mem_of_getElem? (i := 1) rfl)) (fun _ h9 => h9) rfl dX6_whereOf_146 ?_
          refine lv_iconst (v := 1) hx hb dX6_whereOf_149 (by decide) ?_
          obtain ⟨hwA, hwB⟩ := hw
          refine lv_icmp_le (tgt := 206) hx hb dX6_whereOf_150 (by decide) (fun cb => ?_) (fun cb => ?_)
          · have hw := hwA cb
            refine lv_iconst (v := 0) hx hb dX6_whereOf_206 (by decide) ?_
            refine lv_istore (lv' := [(4, .int 0), (3, .int s0), (0, .ref mA), (1, .int v1), (2, .int v2), (5, .int v5), (6, .int v6), (7, .int v7), (8, .long v8)]) hx hb dX6_whereOf_207 hl (by decide) rfl (fun ls hl => ?_)
            refine lv_iinc (v := (v5 + 1)) (lv' := [(5, .int (v5 + 1)), (4, .int 0), (3, .int s0), (0, .ref mA), (1, .int v1), (2, .int v2), (6, .int v6), (7, .int v7), (8, .long v8)]) hx hb dX6_whereOf_209 hl (k := 5) rfl rfl (by decide) rfl (fun ls hl => ?_)
            refine lv_goto (tgt := 24) hx hb dX6_whereOf_212 (by decide) ?_
            exact ih24 s0 0 (v5 + 1) hw _ _ _ hP hD hS (lv_sub hl [3, 4, 5, 2, 1, 0] rfl)
          · have hw := hwB cb
            refine lv_lload hx hb dX6_whereOf_153 (lv_at hl 8 rfl) ?_
            refine lv_lconst (v := 0) hx hb dX6_whereOf_155 (by decide) ?_
            refine W.lcmp hx hb dX6_whereOf_156 ?_
            obtain ⟨hwA, hwB⟩ := hw
            refine lv_if_ne (tgt := 206) hx hb dX6_whereOf_157 (by decide) (fun cb => ?_) (fun cb => ?_)
            · have hw := hwA ((cq_ne _ _).mp cb)
              refine lv_iconst (v := 0) hx hb dX6_whereOf_206 (by decide) ?_
              refine lv_istore (lv' := [(4, .int 0), (3, .int s0), (0, .ref mA), (1, .int v1), (2, .int v2), (5, .int v5), (6, .int v6), (7, .int v7), (8, .long v8)]) hx hb dX6_whereOf_207 hl (by decide) rfl (fun ls hl => ?_)
              refine lv_iinc (v := (v5 + 1)) (lv' := [(5, .int (v5 + 1)), (4, .int 0), (3, .int s0), (0, .ref mA), (1, .int v1), (2, .int v2), (6, .int v6), (7, .int v7), (8, .long v8)]) hx hb dX6_whereOf_209 hl (k := 5) rfl rfl (by decide) rfl (fun ls hl => ?_)
              refine lv_goto (tgt := 24) hx hb dX6_whereOf_212 (by decide) ?_
              exact ih24 s0 0 (v5 + 1) hw _ _ _ hP hD hS (lv_sub hl [3, 4, 5, 2, 1, 0] rfl)
            · have hw := hwB ((cq_eq _ _).mp cb)
              refine lv_iload_n hx hb dX6_whereOf_160 rfl (lv_at hl 2 rfl) ?_
              refine lv_aload_n hx hb dX6_whereOf_161 rfl (lv_at hl 1 rfl) ?_
              refine va_get (D := D) (ci := 5) (v := .ref mAx) (C := RX6) (T := TX6) (N := 16) hx hb hts in_X6_whereOf_X6 hown hK hP 0 rfl rfl 0 (by decide) (hts (.fieldLink RX6 7 "LiveHullModel" "xs" "[I") (List.mem_of_getElem? (i := 3) rfl)) (fun _ h9 => h9) rfl dX6_whereOf_162 ?_
              refine lv_iload hx hb dX6_whereOf_165 (lv_at hl 6 rfl) ?_
              obtain ⟨hi, hw⟩ := hw
              refine va_iald hx hb hK hP 1 0 rfl rfl hi dX6_whereOf_167 ?_
              refine lv_aload_n hx hb dX6_whereOf_168 rfl (lv_at hl 1 rfl) ?_
              refine va_get (D := D) (ci := 5) (v := .ref mAx) (C := RX6) (T := TX6) (N := 16) hx hb hts in_X6_whereOf_X6 hown hK hP 0 rfl rfl 0 (by decide) (hts (.fieldLink RX6 7 "LiveHullModel" "xs" "[I") (List.mem_of_getElem? (i := 3) rfl)) (fun _ h9 => h9) rfl dX6_whereOf_169 ?_
              refine lv_iload hx hb dX6_whereOf_172 (lv_at hl 7 rfl) ?_
              obtain ⟨hi, hw⟩ := hw
              refine va_iald hx hb hK hP 1 0 rfl rfl hi dX6_whereOf_174 ?_
              refine cl_Si (As := [.int v1, .int (mx v6.toNatClampNeg), .int (mx v7.toNatClampNeg)]) (rest := []) ⟨hx, hb, hml, hown, hts⟩ (c_X6_isBetween l D cI cJ cZ cO   v1 (mx v6.toNatClampNeg) (mx v7.toNatClampNeg) _ hw) (va_cwS 3 hts gX6_whereOf_X6_isBetween rfl rfl rfl hd_X6_isBetween.2 ⟨Nat.le_trans (Nat.le_of_ble_eq_true rfl) hRf, Nat.le_trans (Nat.le_of_ble_eq_true rfl) hRl⟩) hK hP hD hS hA [] [0, 1, 2, 3, 4, 5, 6, 7, 8, 9, 10] rfl (by decide) rfl (by decide) (by decide) rfl hl.1 rfl (Nat.le_of_ble_eq_true rfl) dX6_whereOf_175 ⟨Nat.zero_le _, Nat.zero_le _⟩ (fun r175 _u H locs hw hP hD hS => ?_)
              try dsimp only at hw
              have hP : va_P D vwCl [(mA, .inr (5, [.ref mAx, .ref mAy, .ref mAi, .int mn, .ref mAr, .ref mAo, .int mf, .int mt, .int md, .ref mAc, .int mk, .ref mAg, .int mh, .ref mAe, .ref mAS, .ref mAp])), (mAx, .inl (cI, 32, .inl mx)), (mAy, .inl (cI, 32, .inl my)), (mAi, .inl (cZ, 32, .inl mi)), (mAr, .inl (cI, 32, .inl mr)), (mAo, .inl (cI, 32, .inl mo)), (mAc, .inl (cI, 34, .inl mc)), (mAg, .inl (cI, 34, .inl mg)), (mAe, .inl (cI, 128, .inl me)), (mAS, .inl (cJ, 2, .inr (.inl mS))), (mAp, .inl (cZ, 2, .inl mp))] H := hP.sub [0, 1, 2, 3, 4, 5, 6, 7, 8, 9, 10] rfl
              have hD : va_D A [(mA, .inr (5, [.ref mAx, .ref mAy, .ref mAi, .int mn, .ref mAr, .ref mAo, .int mf, .int mt, .int md, .ref mAc, .int mk, .ref mAg, .int mh, .ref mAe, .ref mAS, .ref mAp])), (mAx, .inl (cI, 32, .inl mx)), (mAy, .inl (cI, 32, .inl my)), (mAi, .inl (cZ, 32, .inl mi)), (mAr, .inl (cI, 32, .inl mr)), (mAo, .inl (cI, 32, .inl mo)), (mAc, .inl (cI, 34, .inl mc)), (mAg, .inl (cI, 34, .inl mg)), (mAe, .inl (cI, 128, .inl me)), (mAS, .inl (cJ, 2, .inr (.inl mS))), (mAp, .inl (cZ, 2, .inl mp))] := hD.sub [0, 1, 2, 3, 4, 5, 6, 7, 8, 9, 10] (by decide) rfl
              obtain ⟨hwA, hwB⟩ := hw
              refine lv_if_eq (tgt := 206) hx hb dX6_whereOf_178 (by decide) (fun cb => ?_) (fun cb => ?_)
              · have hw := hwA cb
                refine lv_iconst (v := 0) hx hb dX6_whereOf_206 (by decide) ?_
                refine lv_istore (lv' := [(4, .int 0), (3, .int s0), (0, .ref mA), (1, .int v1), (2, .int v2), (5, .int v5), (6, .int v6), (7, .int v7), (8, .long v8)]) hx hb dX6_whereOf_207 hl (by decide) rfl (fun ls hl => ?_)
                refine lv_iinc (v := (v5 + 1)) (lv' := [(5, .int (v5 + 1)), (4, .int 0), (3, .int s0), (0, .ref mA), (1, .int v1), (2, .int v2), (6, .int v6), (7, .int v7), (8, .long v8)]) hx hb dX6_whereOf_209 hl (k := 5) rfl rfl (by decide) rfl (fun ls hl => ?_)
                refine lv_goto (tgt := 24) hx hb dX6_whereOf_212 (by decide) ?_
                exact ih24 s0 0 (v5 + 1) hw _ _ _ hP hD hS (lv_sub hl [3, 4, 5, 2, 1, 0] rfl)
              · have hw := hwB cb
                refine lv_iload_n hx hb dX6_whereOf_181 rfl (lv_at hl 3 rfl) ?_
                refine lv_aload_n hx hb dX6_whereOf_182 rfl (lv_at hl 1 rfl) ?_
                refine va_get (D := D) (ci := 5) (v := .ref mAy) (C := RX6) (T := TX6) (N := 16) hx hb hts in_X6_whereOf_X6 hown hK hP 0 rfl rfl 1 (by decide) (hts (.fieldLink RX6 13 "LiveHullModel" "ys" "[I") (List.mem_of_getElem? (i := 4) rfl)) (fun _ h9 => h9) rfl dX6_whereOf_183 ?_
                refine lv_iload hx hb dX6_whereOf_186 (lv_at hl 6 rfl) ?_
                obtain ⟨hi, hw⟩ := hw
                refine va_iald hx hb hK hP 2 0 rfl rfl hi dX6_whereOf_188 ?_
                refine lv_aload_n hx hb dX6_whereOf_189 rfl (lv_at hl 1 rfl) ?_
                refine va_get (D := D) (ci := 5) (v := .ref mAy) (C := RX6) (T := TX6) (N := 16) hx hb hts in_X6_whereOf_X6 hown hK hP 0 rfl rfl 1 (by decide) (hts (.fieldLink RX6 13 "LiveHullModel" "ys" "[I") (List.mem_of_getElem? (i := 4) rfl)) (fun _ h9 => h9) rfl dX6_whereOf_190 ?_
                refine lv_iload hx hb dX6_whereOf_193 (lv_at hl 7 rfl) ?_
                obtain ⟨hi, hw⟩ := hw
                refine va_iald hx hb hK hP 2 0 rfl rfl hi dX6_whereOf_195 ?_
                refine cl_Si (As := [.int v2, .int (my v6.toNatClampNeg), .int (my v7.toNatClampNeg)]) (rest := []) ⟨hx, hb, hml, hown, hts⟩ (c_X6_isBetween l D cI cJ cZ cO   v2 (my v6.toNatClampNeg) (my v7.toNatClampNeg) _ hw) (va_cwS 3 hts gX6_whereOf_X6_isBetween rfl rfl rfl hd_X6_isBetween.2 ⟨Nat.le_trans (Nat.le_of_ble_eq_true rfl) hRf, Nat.le_trans (Nat.le_of_ble_eq_true rfl) hRl⟩) hK hP hD hS hA [] [0, 1, 2, 3, 4, 5, 6, 7, 8, 9, 10] rfl (by decide) rfl (by decide) (by decide) rfl hl.1 rfl (Nat.le_of_ble_eq_true rfl) dX6_whereOf_196 ⟨Nat.zero_le _, Nat.zero_le _⟩ (fun r196 _u H locs hw hP hD hS => ?_)
                try dsimp only at hw
                have hP : va_P D vwCl [(mA, .inr (5, [.ref mAx, .ref mAy, .ref mAi, .int mn, .ref mAr, .ref mAo, .int mf, .int mt, .int md, .ref mAc, .int mk, .ref mAg, .int mh, .ref mAe, .ref mAS, .ref mAp])), (mAx, .inl (cI, 32, .inl mx)), (mAy, .inl (cI, 32, .inl my)), (mAi, .inl (cZ, 32, .inl mi)), (mAr, .inl (cI, 32, .inl mr)), (mAo, .inl (cI, 32, .inl mo)), (mAc, .inl (cI, 34, .inl mc)), (mAg, .inl (cI, 34, .inl mg)), (mAe, .inl (cI, 128, .inl me)), (mAS, .inl (cJ, 2, .inr (.inl mS))), (mAp, .inl (cZ, 2, .inl mp))] H := hP.sub [0, 1, 2, 3, 4, 5, 6, 7, 8, 9, 10] rfl
                have hD : va_D A [(mA, .inr (5, [.ref mAx, .ref mAy, .ref mAi, .int mn, .ref mAr, .ref mAo, .int mf, .int mt, .int md, .ref mAc, .int mk, .ref mAg, .int mh, .ref mAe, .ref mAS, .ref mAp])), (mAx, .inl (cI, 32, .inl mx)), (mAy, .inl (cI, 32, .inl my)), (mAi, .inl (cZ, 32, .inl mi)), (mAr, .inl (cI, 32, .inl mr)), (mAo, .inl (cI, 32, .inl mo)), (mAc, .inl (cI, 34, .inl mc)), (mAg, .inl (cI, 34, .inl mg)), (mAe, .inl (cI, 128, .inl me)), (mAS, .inl (cJ, 2, .inr (.inl mS))), (mAp, .inl (cZ, 2, .inl mp))] := hD.sub [0, 1, 2, 3, 4, 5, 6, 7, 8, 9, 10] (by decide) rfl
                obtain ⟨hwA, hwB⟩ := hw
                refine lv_if_eq (tgt := 206) hx hb dX6_whereOf_199 (by decide) (fun cb => ?_) (fun cb => ?_)
                · have hw := hwA cb
                  refine lv_iconst (v := 0) hx hb dX6_whereOf_206 (by decide) ?_
                  refine lv_istore (lv' := [(4, .int 0), (3, .int s0), (0, .ref mA), (1, .int v1), (2, .int v2), (5, .int v5), (6, .int v6), (7, .int v7), (8, .long v8)]) hx hb dX6_whereOf_207 hl (by decide) rfl (fun ls hl => ?_)
                  refine lv_iinc (v := (v5 + 1)) (lv' := [(5, .int (v5 + 1)), (4, .int 0), (3, .int s0), (0, .ref mA), (1, .int v1), (2, .int v2), (6, .int v6), (7, .int v7), (8, .long v8)]) hx hb dX6_whereOf_209 hl (k := 5) rfl rfl (by decide) rfl (fun ls hl => ?_)
                  refine lv_goto (tgt := 24) hx hb dX6_whereOf_212 (by decide) ?_
                  exact ih24 s0 0 (v5 + 1) hw _ _ _ hP hD hS (lv_sub hl [3, 4, 5, 2, 1, 0] rfl)
                · have hw := hwB cb
                  refine lv_iconst (v := 1) hx hb dX6_whereOf_202 (by decide) ?_
                  refine lv_goto (tgt := 207) hx hb dX6_whereOf_203 (by decide) ?_
                  refine lv_istore (lv' := [(4, .int 1), (3, .int s0), (0, .ref mA), (1, .int v1), (2, .int v2), (5, .int v5), (6, .int v6), (7, .int v7), (8, .long v8)]) hx hb dX6_whereOf_207 hl (by decide) rfl (fun ls hl => ?_)
                  refine lv_iinc (v := (v5 + 1)) (lv' := [(5, .int (v5 + 1)), (4, .int 1), (3, .int s0), (0, .ref mA), (1, .int v1), (2, .int v2), (6, .int v6), (7, .int v7), (8, .long v8)]) hx hb dX6_whereOf_209 hl (k := 5) rfl rfl (by decide) rfl (fun ls hl => ?_)
                  refine lv_goto (tgt := 24) hx hb dX6_whereOf_212 (by decide) ?_
                  exact ih24 s0 1 (v5 + 1) hw _ _ _ hP hD hS (lv_sub hl [3, 4, 5, 2, 1, 0] rfl)
      have N82 : ∀ (v3 : Int32) (v4 : Int32) (v5 : Int32) (v6 : Int32) (v7 : Int32), wp_X6_whereOf_82 mx my mi mn v1 v2 K L24 mr mo mf mt md mc mk mg mh v3 v4 v5 v6 v7 → ∀ (H : Heap) (locs : List Loc) (ls : Array Slot), va_P D vwCl [(mA, .inr (5, [.ref mAx, .ref mAy, .ref mAi, .int mn, .ref mAr, .ref mAo, .int mf, .int mt, .int md, .ref mAc, .int mk, .ref mAg, .int mh, .ref mAe, .ref mAS, .ref mAp])), (mAx, .inl (cI, 32, .inl mx)), (mAy, .inl (cI, 32, .inl my)), (mAi, .inl (cZ, 32, .inl mi)), (mAr, .inl (cI, 32, .inl mr)), (mAo, .inl (cI, 32, .inl mo)), (mAc, .inl (cI, 34, .inl mc)), (mAg, .inl (cI, 34, .inl mg)), (mAe, .inl (cI, 128, .inl me)), (mAS, .inl (cJ, 2, .inr (.inl mS))), (mAp, .inl (cZ, 2, .inl mp))] H → va_D A [(mA, .inr (5, [.ref mAx, .ref mAy, .ref mAi, .int mn, .ref mAr, .ref mAo, .int mf, .int mt, .int md, .ref mAc, .int mk, .ref mAg, .int mh, .ref mAe, .ref mAS, .ref mAp])), (mAx, .inl (cI, 32, .inl mx)), (mAy, .inl (cI, 32, .inl my)), (mAi, .inl (cZ, 32, .inl mi)), (mAr, .inl (cI, 32, .inl mr)), (mAo, .inl (cI, 32, .inl mo)), (mAc, .inl (cI, 34, .inl mc)), (mAg, .inl (cI, 34, .inl mg)), (mAe, .inl (cI, 128, .inl me)), (mAS, .inl (cJ, 2, .inr (.inl mS))), (mAp, .inl (cZ, 2, .inl mp))] → va_S A s.heap H locs → lv_has ls 10 [(0, .ref mA), (1, .int v1), (2, .int v2), (3, .int v3), (4, .int v4), (5, .int v5), (6, .int v6), (7, .int v7)] → W p l e R s m args below meth c H locs 0 0 Q (F0 m 82 ls []) := by
        intro v3 v4 v5 v6 v7 hw H locs ls hP hD hS hl
        unfold wp_X6_whereOf_82 at hw
        refine lv_aload_n hx hb dX6_whereOf_82 rfl (lv_at hl 0 rfl) ?_
        refine va_get (D := D) (ci := 5) (v := .ref mAx) (C := RX6) (T := TX6) (N := 16) hx hb hts in_X6_whereOf_X6 hown hK hP 0 rfl rfl 0 (by decide) (hts (.fieldLink RX6 7 "LiveHullModel" "xs" "[I") (List.mem_of_getElem? (i := 3) rfl)) (fun _ h9 => h9) rfl dX6_whereOf_83 ?_
        refine lv_iload hx hb dX6_whereOf_86 (lv_at hl 6 rfl) ?_
        obtain ⟨hi, hw⟩ := hw
        refine va_iald hx hb hK hP 1 0 rfl rfl hi dX6_whereOf_88 ?_
        refine lv_i2l hx hb dX6_whereOf_89 rfl ?_
        refine lv_aload_n hx hb dX6_whereOf_90 rfl (lv_at hl 0 rfl) ?_
        refine va_get (D := D) (ci := 5) (v := .ref mAy) (C := RX6) (T := TX6) (N := 16) hx hb hts in_X6_whereOf_X6 hown hK hP 0 rfl rfl 1 (by decide) (hts (.fieldLink RX6 13 "LiveHullModel" "ys" "[I") (List.mem_of_getElem? (i := 4) rfl)) (fun _ h9 => h9) rfl dX6_whereOf_91 ?_
        refine lv_iload hx hb dX6_whereOf_94 (lv_at hl 6 rfl) ?_
        obtain ⟨hi, hw⟩ := hw
        refine va_iald hx hb hK hP 2 0 rfl rfl hi dX6_whereOf_96 ?_
        refine lv_i2l hx hb dX6_whereOf_97 rfl ?_
        refine lv_aload_n hx hb dX6_whereOf_98 rfl (lv_at hl 0 rfl) ?_
        refine va_get (D := D) (ci := 5) (v := .ref mAx) (C := RX6) (T := TX6) (N := 16) hx hb hts in_X6_whereOf_X6 hown hK hP 0 rfl rfl 0 (by decide) (hts (.fieldLink RX6 7 "LiveHullModel" "xs" "[I") (List.mem_of_getElem? (i := 3) rfl)) (fun _ h9 => h9) rfl dX6_whereOf_99 ?_
        refine lv_iload hx hb dX6_whereOf_102 (lv_at hl 7 rfl) ?_
        obtain ⟨hi, hw⟩ := hw
        refine va_iald hx hb hK hP 1 0 rfl rfl hi dX6_whereOf_104 ?_
        refine lv_i2l hx hb dX6_whereOf_105 rfl ?_
        refine lv_aload_n hx hb dX6_whereOf_106 rfl (lv_at hl 0 rfl) ?_
        refine va_get (D := D) (ci := 5) (v := .ref mAy) (C := RX6) (T := TX6) (N := 16) hx hb hts in_X6_whereOf_X6 hown hK hP 0 rfl rfl 1 (by decide) (hts (.fieldLink RX6 13 "LiveHullModel" "ys" "[I") (List.mem_of_getElem? (i := 4) rfl)) (fun _ h9 => h9) rfl dX6_whereOf_107 ?_
        refine lv_iload hx hb dX6_whereOf_110 (lv_at hl 7 rfl) ?_
        obtain ⟨hi, hw⟩ := hw
        refine va_iald hx hb hK hP 2 0 rfl rfl hi dX6_whereOf_112 ?_
        refine lv_i2l hx hb dX6_whereOf_113 rfl ?_
        refine lv_iload_n hx hb dX6_whereOf_114 rfl (lv_at hl 1 rfl) ?_
        refine lv_i2l hx hb dX6_whereOf_115 rfl ?_
        refine lv_iload_n hx hb dX6_whereOf_116 rfl (lv_at hl 2 rfl) ?_
        refine lv_i2l hx hb dX6_whereOf_117 rfl ?_
        refine cl_Sl (As := [.long ((mx v6.toNatClampNeg).toInt64), .long ((my v6.toNatClampNeg).toInt64), .long ((mx v7.toNatClampNeg).toInt64), .long ((my v7.toNatClampNeg).toInt64), .long v1.toInt64, .long v2.toInt64]) (rest := []) ⟨hx, hb, hml, hown, hts⟩ (c_X6_cross l D cI cJ cZ cO   ((mx v6.toNatClampNeg).toInt64) ((my v6.toNatClampNeg).toInt64) ((mx v7.toNatClampNeg).toInt64) ((my v7.toNatClampNeg).toInt64) v1.toInt64 v2.toInt64 _ hw) (va_cwS 6 hts gX6_whereOf_X6_cross rfl rfl rfl hd_X6_cross.2 ⟨Nat.le_trans (Nat.le_of_ble_eq_true rfl) hRf, Nat.le_trans (Nat.le_of_ble_eq_true rfl) hRl⟩) hK hP hD hS hA [] [0, 1, 2, 3, 4, 5, 6, 7, 8, 9, 10] rfl (by decide) rfl (by decide) (by decide) rfl hl.1 rfl (Nat.le_of_ble_eq_true rfl) dX6_whereOf_118 ⟨Nat.zero_le _, Nat.zero_le _⟩ (fun r118 _u H locs hw hP hD hS => ?_)
        try dsimp only at hw
        have hP : va_P D vwCl [(mA, .inr (5, [.ref mAx, .ref mAy, .ref mAi, .int mn, .ref mAr, .ref mAo, .int mf, .int mt, .int md, .ref mAc, .int mk, .ref mAg, .int mh, .ref mAe, .ref mAS, .ref mAp])), (mAx, .inl (cI, 32, .inl mx)), (mAy, .inl (cI, 32, .inl my)), (mAi, .inl (cZ, 32, .inl mi)), (mAr, .inl (cI, 32, .inl mr)), (mAo, .inl (cI, 32, .inl mo)), (mAc, .inl (cI, 34, .inl mc)), (mAg, .inl (cI, 34, .inl mg)), (mAe, .inl (cI, 128, .inl me)), (mAS, .inl (cJ, 2, .inr (.inl mS))), (mAp, .inl (cZ, 2, .inl mp))] H := hP.sub [0, 1, 2, 3, 4, 5, 6, 7, 8, 9, 10] rfl
        have hD : va_D A [(mA, .inr (5, [.ref mAx, .ref mAy, .ref mAi, .int mn, .ref mAr, .ref mAo, .int mf, .int mt, .int md, .ref mAc, .int mk, .ref mAg, .int mh, .ref mAe, .ref mAS, .ref mAp])), (mAx, .inl (cI, 32, .inl mx)), (mAy, .inl (cI, 32, .inl my)), (mAi, .inl (cZ, 32, .inl mi)), (mAr, .inl (cI, 32, .inl mr)), (mAo, .inl (cI, 32, .inl mo)), (mAc, .inl (cI, 34, .inl mc)), (mAg, .inl (cI, 34, .inl mg)), (mAe, .inl (cI, 128, .inl me)), (mAS, .inl (cJ, 2, .inr (.inl mS))), (mAp, .inl (cZ, 2, .inl mp))] := hD.sub [0, 1, 2, 3, 4, 5, 6, 7, 8, 9, 10] (by decide) rfl
        refine lv_lstore (lv' := [(8, .long r118), (0, .ref mA), (1, .int v1), (2, .int v2), (3, .int v3), (4, .int v4), (5, .int v5), (6, .int v6), (7, .int v7)]) hx hb dX6_whereOf_121 hl (by decide) rfl (fun ls hl => ?_)
        refine lv_iload_n hx hb dX6_whereOf_123 rfl (lv_at hl 4 rfl) ?_
        obtain ⟨hwA, hwB⟩ := hw
        refine lv_if_ne (tgt := 134) hx hb dX6_whereOf_124 (by decide) (fun cb => ?_) (fun cb => ?_)
        · have hw := hwA cb
          refine lv_iconst (v := 1) hx hb dX6_whereOf_134 (by decide) ?_
          refine lv_goto (tgt := 139) hx hb dX6_whereOf_135 (by decide) ?_
          exact N139 v4 v5 v6 v7 r118 1 hw _ _ _ hP hD hS (lv_sub hl [1, 2, 3, 5, 6, 7, 8, 0] rfl)
        · have hw := hwB cb
          refine lv_lload hx hb dX6_whereOf_127 (lv_at hl 0 rfl) ?_
          refine lv_lconst (v := 0) hx hb dX6_whereOf_129 (by decide) ?_
          refine W.lcmp hx hb dX6_whereOf_130 ?_
          obtain ⟨hwA, hwB⟩ := hw
          refine lv_if_ge (tgt := 138) hx hb dX6_whereOf_131 (by decide) (fun cb => ?_) (fun cb => ?_)
          · have hw := hwA ((cq_ge _ _).mp cb)
            refine lv_iconst (v := 0) hx hb dX6_whereOf_138 (by decide) ?_
            exact N139 v4 v5 v6 v7 r118 0 hw _ _ _ hP hD hS (lv_sub hl [1, 2, 3, 5, 6, 7, 8, 0] rfl)
          · have hw := hwB (fun h => cb ((cq_ge _ _).mpr h))
            refine lv_iconst (v := 1) hx hb dX6_whereOf_134 (by decide) ?_
            refine lv_goto (tgt := 139) hx hb dX6_whereOf_135 (by decide) ?_
            exact N139 v4 v5 v6 v7 r118 1 hw _ _ _ hP hD hS (lv_sub hl [1, 2, 3, 5, 6, 7, 8, 0] rfl)
      refine lv_iload hx hb dX6_whereOf_24 (lv_at hl 5 rfl) ?_
      refine lv_aload_n hx hb dX6_whereOf_26 rfl (lv_at hl 0 rfl) ?_
      refine va_get (D := D) (ci := 5) (v := .int mh) (C := RX6) (T := TX6) (N := 16) hx hb hts in_X6_whereOf_X6 hown hK hP 0 rfl rfl 12 (by decide) (hts (.fieldLink RX6 114 "LiveHullModel" "rings" "I") (List.mem_of_getElem? (i := 1) rfl)) (fun _ h9 => h9) rfl dX6_whereOf_27 ?_
      obtain ⟨hwA, hwB⟩ := hw
      refine lv_icmp_ge (tgt := 215) hx hb dX6_whereOf_30 (by decide) (fun cb => ?_) (fun cb => ?_)
      · have hw := hwA cb
        refine lv_aload_n hx hb dX6_whereOf_215 rfl (lv_at hl 0 rfl) ?_
        refine va_get (D := D) (ci := 5) (v := .int mh) (C := RX6) (T := TX6) (N := 16) hx hb hts in_X6_whereOf_X6 hown hK hP 0 rfl rfl 12 (by decide) (hts (.fieldLink RX6 114 "LiveHullModel" "rings" "I") (List.mem_of_getElem? (i := 1) rfl)) (fun _ h9 => h9) rfl dX6_whereOf_216 ?_
        refine lv_iconst (v := 2) hx hb dX6_whereOf_219 (by decide) ?_
        obtain ⟨hwA, hwB⟩ := hw
        refine lv_icmp_ne (tgt := 236) hx hb dX6_whereOf_220 (by decide) (fun cb => ?_) (fun cb => ?_)
        · have hw := hwA cb
          refine lv_iload_n hx hb dX6_whereOf_236 rfl (lv_at hl 3 rfl) ?_
          obtain ⟨hwA, hwB⟩ := hw
          refine lv_if_eq (tgt := 244) hx hb dX6_whereOf_237 (by decide) (fun cb => ?_) (fun cb => ?_)
          · have hw := hwA cb
            refine lv_iload hx hb dX6_whereOf_244 (lv_at hl 4 rfl) ?_
            obtain ⟨hwA, hwB⟩ := hw
            refine lv_if_eq (tgt := 253) hx hb dX6_whereOf_246 (by decide) (fun cb => ?_) (fun cb => ?_)
            · have hw := hwA cb
              refine lv_iconst (v := 3) hx hb dX6_whereOf_253 (by decide) ?_
              exact ret _ _ _ _ 3 (mr, mo, mf, mt, md, mc, mk, mg, mh) (vp_nar_int _) hw hP hD hS dX6_whereOf_254
            · have hw := hwB cb
              refine lv_iconst (v := 2) hx hb dX6_whereOf_249 (by decide) ?_
              refine lv_goto (tgt := 254) hx hb dX6_whereOf_250 (by decide) ?_
              exact ret _ _ _ _ 2 (mr, mo, mf, mt, md, mc, mk, mg, mh) (vp_nar_int _) hw hP hD hS dX6_whereOf_254
          · have hw := hwB cb
            refine lv_iconst (v := 0) hx hb dX6_whereOf_240 (by decide) ?_
            refine lv_goto (tgt := 254) hx hb dX6_whereOf_241 (by decide) ?_
            exact ret _ _ _ _ 0 (mr, mo, mf, mt, md, mc, mk, mg, mh) (vp_nar_int _) hw hP hD hS dX6_whereOf_254
        · have hw := hwB cb
          refine lv_iload hx hb dX6_whereOf_223 (lv_at hl 4 rfl) ?_
          obtain ⟨hwA, hwB⟩ := hw
          refine lv_if_eq (tgt := 232) hx hb dX6_whereOf_225 (by decide) (fun cb => ?_) (fun cb => ?_)
          · have hw := hwA cb
            refine lv_iconst (v := 0) hx hb dX6_whereOf_232 (by decide) ?_
            refine lv_goto (tgt := 254) hx hb dX6_whereOf_233 (by decide) ?_
            exact ret _ _ _ _ 0 (mr, mo, mf, mt, md, mc, mk, mg, mh) (vp_nar_int _) hw hP hD hS dX6_whereOf_254
          · have hw := hwB cb
            refine lv_iconst (v := 2) hx hb dX6_whereOf_228 (by decide) ?_
            refine lv_goto (tgt := 254) hx hb dX6_whereOf_229 (by decide) ?_
            exact ret _ _ _ _ 2 (mr, mo, mf, mt, md, mc, mk, mg, mh) (vp_nar_int _) hw hP hD hS dX6_whereOf_254
      · have hw := hwB cb
        refine lv_aload_n hx hb dX6_whereOf_33 rfl (lv_at hl 0 rfl) ?_
        refine va_get (D := D) (ci := 5) (v := .ref mAg) (C := RX6) (T := TX6) (N := 16) hx hb hts in_X6_whereOf_X6 hown hK hP 0 rfl rfl 11 (by decide) (hts (.fieldLink RX6 29 "LiveHullModel" "ring" "[I") (List.mem_of_getElem? (i := 2) rfl)) (fun _ h9 => h9) rfl dX6_whereOf_34 ?_
        refine lv_iload hx hb dX6_whereOf_37 (lv_at hl 5 rfl) ?_
        obtain ⟨hi, hw⟩ := hw
        refine va_iald hx hb hK hP 7 0 rfl rfl hi dX6_whereOf_39 ?_
        refine lv_istore (lv' := [(6, .int (mg v5.toNatClampNeg)), (0, .ref mA), (1, .int v1), (2, .int v2), (3, .int v3), (4, .int v4), (5, .int v5)]) hx hb dX6_whereOf_40 hl (by decide) rfl (fun ls hl => ?_)
        refine lv_aload_n hx hb dX6_whereOf_42 rfl (lv_at hl 1 rfl) ?_
        refine va_get (D := D) (ci := 5) (v := .ref mAg) (C := RX6) (T := TX6) (N := 16) hx hb hts in_X6_whereOf_X6 hown hK hP 0 rfl rfl 11 (by decide) (hts (.fieldLink RX6 29 "LiveHullModel" "ring" "[I") (List.mem_of_getElem? (i := 2) rfl)) (fun _ h9 => h9) rfl dX6_whereOf_43 ?_
        refine lv_iload hx hb dX6_whereOf_46 (lv_at hl 6 rfl) ?_
        refine lv_iconst (v := 1) hx hb dX6_whereOf_48 (by decide) ?_
        refine lv_iadd hx hb dX6_whereOf_49 ?_
        refine lv_aload_n hx hb dX6_whereOf_50 rfl (lv_at hl 1 rfl) ?_
        refine va_get (D := D) (ci := 5) (v := .int mh) (C := RX6) (T := TX6) (N := 16) hx hb hts in_X6_whereOf_X6 hown hK hP 0 rfl rfl 12 (by decide) (hts (.fieldLink RX6 114 "LiveHullModel" "rings" "I") (List.mem_of_getElem? (i := 1) rfl)) (fun _ h9 => h9) rfl dX6_whereOf_51 ?_
        obtain ⟨hz, hw⟩ := hw
        refine lv_irem hx hb dX6_whereOf_54 hz ?_
        obtain ⟨hi, hw⟩ := hw
        refine va_iald hx hb hK hP 7 0 rfl rfl hi dX6_whereOf_55 ?_
        refine lv_istore (lv' := [(7, .int (mg ((v5 + 1) - ((v5 + 1) / mh) * mh).toNatClampNeg)), (6, .int (mg v5.toNatClampNeg)), (0, .ref mA), (1, .int v1), (2, .int v2), (3, .int v3), (4, .int v4), (5, .int v5)]) hx hb dX6_whereOf_56 hl (by decide) rfl (fun ls hl => ?_)
        refine lv_aload_n hx hb dX6_whereOf_58 rfl (lv_at hl 2 rfl) ?_
        refine va_get (D := D) (ci := 5) (v := .ref mAx) (C := RX6) (T := TX6) (N := 16) hx hb hts in_X6_whereOf_X6 hown hK hP 0 rfl rfl 0 (by decide) (hts (.fieldLink RX6 7 "LiveHullModel" "xs" "[I") (List.mem_of_getElem? (i := 3) rfl)) (fun _ h9 => h9) rfl dX6_whereOf_59 ?_
        refine lv_iload hx hb dX6_whereOf_62 (lv_at hl 1 rfl) ?_
        obtain ⟨hi, hw⟩ := hw
        refine va_iald hx hb hK hP 1 0 rfl rfl hi dX6_whereOf_64 ?_
        refine lv_iload_n hx hb dX6_whereOf_65 rfl (lv_at hl 3 rfl) ?_
        obtain ⟨hwA, hwB⟩ := hw
        refine lv_icmp_ne (tgt := 82) hx hb dX6_whereOf_66 (by decide) (fun cb => ?_) (fun cb => ?_)
        · have hw := hwA cb
          exact N82 v3 v4 v5 (mg v5.toNatClampNeg) (mg ((v5 + 1) - ((v5 + 1) / mh) * mh).toNatClampNeg) hw _ _ _ hP hD hS (lv_sub hl [2, 3, 4, 5, 6, 7, 1, 0] rfl)
        · have hw := hwB cb
          refine lv_aload_n hx hb dX6_whereOf_69 rfl (lv_at hl 2 rfl) ?_
          refine va_get (D := D) (ci := 5) (v := .ref mAy) (C := RX6) (T := TX6) (N := 16) hx hb hts in_X6_whereOf_X6 hown hK hP 0 rfl rfl 1 (by decide) (hts (.fieldLink RX6 13 "LiveHullModel" "ys" "[I") (List.mem_of_getElem? (i := 4) rfl)) (fun _ h9 => h9) rfl dX6_whereOf_70 ?_
          refine lv_iload hx hb dX6_whereOf_73 (lv_at hl 1 rfl) ?_
          obtain ⟨hi, hw⟩ := hw
          refine va_iald hx hb hK hP 2 0 rfl rfl hi dX6_whereOf_75 ?_
          refine lv_iload_n hx hb dX6_whereOf_76 rfl (lv_at hl 4 rfl) ?_
          obtain ⟨hwA, hwB⟩ := hw
          refine lv_icmp_ne (tgt := 82) hx hb dX6_whereOf_77 (by decide) (fun cb => ?_) (fun cb => ?_)
          · have hw := hwA cb
            exact N82 v3 v4 v5 (mg v5.toNatClampNeg) (mg ((v5 + 1) - ((v5 + 1) / mh) * mh).toNatClampNeg) hw _ _ _ hP hD hS (lv_sub hl [2, 3, 4, 5, 6, 7, 1, 0] rfl)
          · have hw := hwB cb
            refine lv_iconst (v := 1) hx hb dX6_whereOf_80 (by decide) ?_
            exact ret _ _ _ _ 1 (mr, mo, mf, mt, md, mc, mk, mg, mh) (vp_nar_int _) hw hP hD hS dX6_whereOf_81
  unfold wp_X6_whereOf at hw
  refine lv_aload_n hx hb dX6_whereOf_0 rfl (lv_at hl 0 rfl) ?_
  refine cl_Vv (As := []) (rest := []) ⟨hx, hb, hml, hown, hts⟩ (c_X6_layRound l D cI cJ cZ cO mA mAx mAy mAi mAr mAo mAc mAg mAe mAS mAp mx my mi mn mr mo mf mt md mc mk mg mh me mS mp  _ hw) (cwV 0 hts gX6_whereOf_X6_layRound rfl rfl rfl hd_X6_layRound ⟨Nat.le_trans (Nat.le_of_ble_eq_true rfl) hRf, Nat.le_trans (Nat.le_of_ble_eq_true rfl) hRl⟩) hK hP hD hS hA [0, 1, 2, 3, 4, 5, 6, 7, 8, 9, 10] [] rfl (by decide) rfl (by decide) (by decide) 0 5 rfl rfl rfl hl.1 rfl (Nat.le_of_ble_eq_true rfl) dX6_whereOf_1 ⟨Nat.zero_le _, Nat.zero_le _⟩ (fun u H locs hw hP hD hS => ?_)
  obtain ⟨mr_1, mo_1, mf_1, mt_1, md_1, mc_1, mk_1, mg_1, mh_1⟩ := u
  try dsimp only at hw
  have hP : va_P D vwCl [(mA, .inr (5, [.ref mAx, .ref mAy, .ref mAi, .int mn, .ref mAr, .ref mAo, .int mf_1, .int mt_1, .int md_1, .ref mAc, .int mk_1, .ref mAg, .int mh_1, .ref mAe, .ref mAS, .ref mAp])), (mAx, .inl (cI, 32, .inl mx)), (mAy, .inl (cI, 32, .inl my)), (mAi, .inl (cZ, 32, .inl mi)), (mAr, .inl (cI, 32, .inl mr_1)), (mAo, .inl (cI, 32, .inl mo_1)), (mAc, .inl (cI, 34, .inl mc_1)), (mAg, .inl (cI, 34, .inl mg_1)), (mAe, .inl (cI, 128, .inl me)), (mAS, .inl (cJ, 2, .inr (.inl mS))), (mAp, .inl (cZ, 2, .inl mp))] H := hP.sub [0, 1, 2, 3, 4, 5, 6, 7, 8, 9, 10] rfl
  have hD : va_D A [(mA, .inr (5, [.ref mAx, .ref mAy, .ref mAi, .int mn, .ref mAr, .ref mAo, .int mf_1, .int mt_1, .int md_1, .ref mAc, .int mk_1, .ref mAg, .int mh_1, .ref mAe, .ref mAS, .ref mAp])), (mAx, .inl (cI, 32, .inl mx)), (mAy, .inl (cI, 32, .inl my)), (mAi, .inl (cZ, 32, .inl mi)), (mAr, .inl (cI, 32, .inl mr_1)), (mAo, .inl (cI, 32, .inl mo_1)), (mAc, .inl (cI, 34, .inl mc_1)), (mAg, .inl (cI, 34, .inl mg_1)), (mAe, .inl (cI, 128, .inl me)), (mAS, .inl (cJ, 2, .inr (.inl mS))), (mAp, .inl (cZ, 2, .inl mp))] := hD.sub [0, 1, 2, 3, 4, 5, 6, 7, 8, 9, 10] (by decide) rfl
  refine lv_aload_n hx hb dX6_whereOf_4 rfl (lv_at hl 0 rfl) ?_
  refine va_get (D := D) (ci := 5) (v := .int mh_1) (C := RX6) (T := TX6) (N := 16) hx hb hts in_X6_whereOf_X6 hown hK hP 0 rfl rfl 12 (by decide) (hts (.fieldLink RX6 114 "LiveHullModel" "rings" "I") (List.mem_of_getElem? (i := 1) rfl)) (fun _ h9 => h9) rfl dX6_whereOf_5 ?_
  refine lv_iconst (v := 2) hx hb dX6_whereOf_8 (by decide) ?_
  obtain ⟨hwA, hwB⟩ := hw
  refine lv_icmp_ge (tgt := 16) hx hb dX6_whereOf_9 (by decide) (fun cb => ?_) (fun cb => ?_)
  · have hw := hwA cb
    refine lv_iconst (v := 0) hx hb dX6_whereOf_16 (by decide) ?_
    refine lv_istore_n (lv' := [(3, .int 0), (0, .ref mA), (1, .int v1), (2, .int v2)]) hx hb dX6_whereOf_17 rfl hl (by decide) rfl (fun ls hl => ?_)
    refine lv_iconst (v := 0) hx hb dX6_whereOf_18 (by decide) ?_
    refine lv_istore (lv' := [(4, .int 0), (3, .int 0), (0, .ref mA), (1, .int v1), (2, .int v2)]) hx hb dX6_whereOf_19 hl (by decide) rfl (fun ls hl => ?_)
    refine lv_iconst (v := 0) hx hb dX6_whereOf_21 (by decide) ?_
    refine lv_istore (lv' := [(5, .int 0), (4, .int 0), (3, .int 0), (0, .ref mA), (1, .int v1), (2, .int v2)]) hx hb dX6_whereOf_22 hl (by decide) rfl (fun ls hl => ?_)
    obtain ⟨k, hw⟩ := hw
    exact N24 mr_1 mo_1 mf_1 mt_1 md_1 mc_1 mk_1 mg_1 mh_1 k 0 0 0 hw _ _ _ hP hD hS (lv_sub hl [3, 4, 5, 2, 1, 0] rfl)
  · have hw := hwB cb
    refine lv_iconst (v := 1) hx hb dX6_whereOf_12 (by decide) ?_
    refine lv_goto (tgt := 17) hx hb dX6_whereOf_13 (by decide) ?_
    refine lv_istore_n (lv' := [(3, .int 1), (0, .ref mA), (1, .int v1), (2, .int v2)]) hx hb dX6_whereOf_17 rfl hl (by decide) rfl (fun ls hl => ?_)
    refine lv_iconst (v := 0) hx hb dX6_whereOf_18 (by decide) ?_
    refine lv_istore (lv' := [(4, .int 0), (3, .int 1), (0, .ref mA), (1, .int v1), (2, .int v2)]) hx hb dX6_whereOf_19 hl (by decide) rfl (fun ls hl => ?_)
    refine lv_iconst (v := 0) hx hb dX6_whereOf_21 (by decide) ?_
    refine lv_istore (lv' := [(5, .int 0), (4, .int 0), (3, .int 1), (0, .ref mA), (1, .int v1), (2, .int v2)]) hx hb dX6_whereOf_22 hl (by decide) rfl (fun ls hl => ?_)
    obtain ⟨k, hw⟩ := hw
    exact N24 mr_1 mo_1 mf_1 mt_1 md_1 mc_1 mk_1 mg_1 mh_1 k 1 0 0 hw _ _ _ hP hD hS (lv_sub hl [3, 4, 5, 2, 1, 0] rfl)
theorem hd_X6_where : yX6_where.cls = RX6 ∧ yX6_where.cls ≠ "java/lang/invoke/MethodHandle" ∧ yX6_where.cls ≠ "java/lang/invoke/VarHandle" ∧ (parseMethodDescriptor yX6_where.desc).map (fun d => d.parameters.length) = some 2 := by decide +kernel
set_option maxHeartbeats 8000000 in
set_option maxRecDepth 100000 in
theorem c_X6_where (l : Launch) (D : va_G) (cI cJ cZ cO : ClassId) (mA mAx mAy mAi mAr mAo mAc mAg mAe mAS mAp : Nat) (mx : Nat → Int32) (my : Nat → Int32) (mi : Nat → Int32) (mn : Int32) (mr : Nat → Int32) (mo : Nat → Int32) (mf : Int32) (mt : Int32) (md : Int32) (mc : Nat → Int32) (mk : Int32) (mg : Nat → Int32) (mh : Int32) (me : Nat → Int32) (mS : Nat → Int64) (mp : Nat → Int32) (v1 : Int32) (v2 : Int32) (K : Int32 → (Nat → Int32) → (Nat → Int32) → Int32 → Int32 → Int32 → (Nat → Int32) → Int32 → (Nat → Int32) → Int32 → Prop) (hw : wp_X6_where mx my mi mn mr mo mf mt md mc mk mg mh v1 v2 K) : Ci l D (tys4 cI cJ cZ cO) yX6_where wsX6_where { frames := 5, cells := 0, slots := 0, locals := 128 } [.ref mA, .int v1, .int v2] [(mA, .inr (5, [.ref mAx, .ref mAy, .ref mAi, .int mn, .ref mAr, .ref mAo, .int mf, .int mt, .int md, .ref mAc, .int mk, .ref mAg, .int mh, .ref mAe, .ref mAS, .ref mAp])), (mAx, .inl (cI, 32, .inl mx)), (mAy, .inl (cI, 32, .inl my)), (mAi, .inl (cZ, 32, .inl mi)), (mAr, .inl (cI, 32, .inl mr)), (mAo, .inl (cI, 32, .inl mo)), (mAc, .inl (cI, 34, .inl mc)), (mAg, .inl (cI, 34, .inl mg)), (mAe, .inl (cI, 128, .inl me)), (mAS, .inl (cJ, 2, .inr (.inl mS))), (mAp, .inl (cZ, 2, .inl mp))] (fun (r : Int32) (u : (Nat → Int32) × (Nat → Int32) × (Int32) × (Int32) × (Int32) × (Nat → Int32) × (Int32) × (Nat → Int32) × (Int32)) => K r u.1 u.2.1 u.2.2.1 u.2.2.2.1 u.2.2.2.2.1 u.2.2.2.2.2.1 u.2.2.2.2.2.2.1 u.2.2.2.2.2.2.2.1 u.2.2.2.2.2.2.2.2) (fun u => [(mA, .inr (5, [.ref mAx, .ref mAy, .ref mAi, .int mn, .ref mAr, .ref mAo, .int u.2.2.1, .int u.2.2.2.1, .int u.2.2.2.2.1, .ref mAc, .int u.2.2.2.2.2.2.1, .ref mAg, .int u.2.2.2.2.2.2.2.2, .ref mAe, .ref mAS, .ref mAp])), (mAx, .inl (cI, 32, .inl mx)), (mAy, .inl (cI, 32, .inl my)), (mAi, .inl (cZ, 32, .inl mi)), (mAr, .inl (cI, 32, .inl u.1)), (mAo, .inl (cI, 32, .inl u.2.1)), (mAc, .inl (cI, 34, .inl u.2.2.2.2.2.1)), (mAg, .inl (cI, 34, .inl u.2.2.2.2.2.2.2.1)), (mAe, .inl (cI, 128, .inl me)), (mAS, .inl (cJ, 2, .inr (.inl mS))), (mAp, .inl (cZ, 2, .inl mp))]) := by
  refine mt_i (cc := cX6_where) (maxL := 3) (rt := .int) (by decide) rfl (Nat.le_of_ble_eq_true rfl) ?_
  intro p e s m args below meth c Q A R ls hRf hRl hx hb hml hown hts hK hA hP hD hS hl ret
  have hown : s.vm.findClass RX6 = some m.cls := hown
  have hl : lv_has ls 3 [(0, .ref mA), (1, .int v1), (2, .int v2)] := hl
  unfold wp_X6_where at hw
  refine lv_iload_n hx hb dX6_where_0 rfl (lv_at hl 1 rfl) ?_
  refine lv_iload_n hx hb dX6_where_1 rfl (lv_at hl 2 rfl) ?_
  refine cl_Si (As := [.int v1, .int v2]) (rest := []) ⟨hx, hb, hml, hown, hts⟩ (c_X6_isPlace l D cI cJ cZ cO   v1 v2 _ hw) (va_cwS 2 hts gX6_where_X6_isPlace rfl rfl rfl hd_X6_isPlace.2 ⟨Nat.le_trans (Nat.le_of_ble_eq_true rfl) hRf, Nat.le_trans (Nat.le_of_ble_eq_true rfl) hRl⟩) hK hP hD hS hA [] [0, 1, 2, 3, 4, 5, 6, 7, 8, 9, 10] rfl (by decide) rfl (by decide) (by decide) rfl hl.1 rfl (Nat.le_of_ble_eq_true rfl) dX6_where_2 ⟨Nat.zero_le _, Nat.zero_le _⟩ (fun r2 _u H locs hw hP hD hS => ?_)
  try dsimp only at hw
  have hP : va_P D vwCl [(mA, .inr (5, [.ref mAx, .ref mAy, .ref mAi, .int mn, .ref mAr, .ref mAo, .int mf, .int mt, .int md, .ref mAc, .int mk, .ref mAg, .int mh, .ref mAe, .ref mAS, .ref mAp])), (mAx, .inl (cI, 32, .inl mx)), (mAy, .inl (cI, 32, .inl my)), (mAi, .inl (cZ, 32, .inl mi)), (mAr, .inl (cI, 32, .inl mr)), (mAo, .inl (cI, 32, .inl mo)), (mAc, .inl (cI, 34, .inl mc)), (mAg, .inl (cI, 34, .inl mg)), (mAe, .inl (cI, 128, .inl me)), (mAS, .inl (cJ, 2, .inr (.inl mS))), (mAp, .inl (cZ, 2, .inl mp))] H := hP.sub [0, 1, 2, 3, 4, 5, 6, 7, 8, 9, 10] rfl
  have hD : va_D A [(mA, .inr (5, [.ref mAx, .ref mAy, .ref mAi, .int mn, .ref mAr, .ref mAo, .int mf, .int mt, .int md, .ref mAc, .int mk, .ref mAg, .int mh, .ref mAe, .ref mAS, .ref mAp])), (mAx, .inl (cI, 32, .inl mx)), (mAy, .inl (cI, 32, .inl my)), (mAi, .inl (cZ, 32, .inl mi)), (mAr, .inl (cI, 32, .inl mr)), (mAo, .inl (cI, 32, .inl mo)), (mAc, .inl (cI, 34, .inl mc)), (mAg, .inl (cI, 34, .inl mg)), (mAe, .inl (cI, 128, .inl me)), (mAS, .inl (cJ, 2, .inr (.inl mS))), (mAp, .inl (cZ, 2, .inl mp))] := hD.sub [0, 1, 2, 3, 4, 5, 6, 7, 8, 9, 10] (by decide) rfl
  obtain ⟨hwA, hwB⟩ := hw
  refine lv_if_eq (tgt := 17) hx hb dX6_where_5 (by decide) (fun cb => ?_) (fun cb => ?_)
  · have hw := hwA cb
    refine lv_bipush (v := (-2)) hx hb dX6_where_17 (by decide) ?_
    exact ret _ _ _ _ (-2) (mr, mo, mf, mt, md, mc, mk, mg, mh) (vp_nar_int _) hw hP hD hS dX6_where_19
  · have hw := hwB cb
    refine lv_aload_n hx hb dX6_where_8 rfl (lv_at hl 0 rfl) ?_
    refine lv_iload_n hx hb dX6_where_9 rfl (lv_at hl 1 rfl) ?_
    refine lv_iload_n hx hb dX6_where_10 rfl (lv_at hl 2 rfl) ?_
    refine cl_Vi (As := [.int v1, .int v2]) (rest := []) ⟨hx, hb, hml, hown, hts⟩ (c_X6_whereOf l D cI cJ cZ cO mA mAx mAy mAi mAr mAo mAc mAg mAe mAS mAp mx my mi mn mr mo mf mt md mc mk mg mh me mS mp v1 v2 _ hw) (cwV 2 hts gX6_where_X6_whereOf rfl rfl rfl hd_X6_whereOf ⟨Nat.le_trans (Nat.le_of_ble_eq_true rfl) hRf, Nat.le_trans (Nat.le_of_ble_eq_true rfl) hRl⟩) hK hP hD hS hA [0, 1, 2, 3, 4, 5, 6, 7, 8, 9, 10] [] rfl (by decide) rfl (by decide) (by decide) 0 5 rfl rfl rfl hl.1 rfl (Nat.le_of_ble_eq_true rfl) dX6_where_11 ⟨Nat.zero_le _, Nat.zero_le _⟩ (fun r11 u H locs hw hP hD hS => ?_)
    obtain ⟨mr_11, mo_11, mf_11, mt_11, md_11, mc_11, mk_11, mg_11, mh_11⟩ := u
    try dsimp only at hw
    have hP : va_P D vwCl [(mA, .inr (5, [.ref mAx, .ref mAy, .ref mAi, .int mn, .ref mAr, .ref mAo, .int mf_11, .int mt_11, .int md_11, .ref mAc, .int mk_11, .ref mAg, .int mh_11, .ref mAe, .ref mAS, .ref mAp])), (mAx, .inl (cI, 32, .inl mx)), (mAy, .inl (cI, 32, .inl my)), (mAi, .inl (cZ, 32, .inl mi)), (mAr, .inl (cI, 32, .inl mr_11)), (mAo, .inl (cI, 32, .inl mo_11)), (mAc, .inl (cI, 34, .inl mc_11)), (mAg, .inl (cI, 34, .inl mg_11)), (mAe, .inl (cI, 128, .inl me)), (mAS, .inl (cJ, 2, .inr (.inl mS))), (mAp, .inl (cZ, 2, .inl mp))] H := hP.sub [0, 1, 2, 3, 4, 5, 6, 7, 8, 9, 10] rfl
    have hD : va_D A [(mA, .inr (5, [.ref mAx, .ref mAy, .ref mAi, .int mn, .ref mAr, .ref mAo, .int mf_11, .int mt_11, .int md_11, .ref mAc, .int mk_11, .ref mAg, .int mh_11, .ref mAe, .ref mAS, .ref mAp])), (mAx, .inl (cI, 32, .inl mx)), (mAy, .inl (cI, 32, .inl my)), (mAi, .inl (cZ, 32, .inl mi)), (mAr, .inl (cI, 32, .inl mr_11)), (mAo, .inl (cI, 32, .inl mo_11)), (mAc, .inl (cI, 34, .inl mc_11)), (mAg, .inl (cI, 34, .inl mg_11)), (mAe, .inl (cI, 128, .inl me)), (mAS, .inl (cJ, 2, .inr (.inl mS))), (mAp, .inl (cZ, 2, .inl mp))] := hD.sub [0, 1, 2, 3, 4, 5, 6, 7, 8, 9, 10] (by decide) rfl
    refine lv_goto (tgt := 19) hx hb dX6_where_14 (by decide) ?_
    exact ret _ _ _ _ r11 (mr_11, mo_11, mf_11, mt_11, md_11, mc_11, mk_11, mg_11, mh_11) (vp_nar_int _) hw hP hD hS dX6_where_19
theorem in_X6_square_X6 : ∀ w ∈ wsX60, w ∈ wsX6_square := fun _ h => List.mem_cons_of_mem _ (List.mem_append_right _ h)
theorem hd_X6_square : yX6_square.cls = RX6 ∧ yX6_square.cls ≠ "java/lang/invoke/MethodHandle" ∧ yX6_square.cls ≠ "java/lang/invoke/VarHandle" ∧ (parseMethodDescriptor yX6_square.desc).map (fun d => d.parameters.length) = some 3 := by decide +kernel
set_option maxHeartbeats 8000000 in
set_option maxRecDepth 100000 in
theorem c_X6_square (l : Launch) (D : va_G) (cI cJ cZ cO : ClassId) (mA mAx mAy mAi mAr mAo mAc mAg mAe mAS mAp : Nat) (mx : Nat → Int32) (my : Nat → Int32) (mi : Nat → Int32) (mn : Int32) (mr : Nat → Int32) (mo : Nat → Int32) (mf : Int32) (mt : Int32) (md : Int32) (mc : Nat → Int32) (mk : Int32) (mg : Nat → Int32) (mh : Int32) (me : Nat → Int32) (mS : Nat → Int64) (mp : Nat → Int32) (v1 : Int32) (v2 : Int32) (v3 : Int32) (K : Int64 → Prop) (hw : wp_X6_square mx my v1 v2 v3 K) : Cl l D (tys4 cI cJ cZ cO) yX6_square wsX6_square { frames := 0, cells := 0, slots := 0, locals := 0 } [.ref mA, .int v1, .int v2, .int v3] [(mA, .inr (5, [.ref mAx, .ref mAy, .ref mAi, .int mn, .ref mAr, .ref mAo, .int mf, .int mt, .int md, .ref mAc, .int mk, .ref mAg, .int mh, .ref mAe, .ref mAS, .ref mAp])), (mAx, .inl (cI, 32, .inl mx)), (mAy, .inl (cI, 32, .inl my)), (mAi, .inl (cZ, 32, .inl mi)), (mAr, .inl (cI, 32, .inl mr)), (mAo, .inl (cI, 32, .inl mo)), (mAc, .inl (cI, 34, .inl mc)), (mAg, .inl (cI, 34, .inl mg)), (mAe, .inl (cI, 128, .inl me)), (mAS, .inl (cJ, 2, .inr (.inl mS))), (mAp, .inl (cZ, 2, .inl mp))] (fun (r : Int64) (_ : Unit) => K r) (fun _ => [(mA, .inr (5, [.ref mAx, .ref mAy, .ref mAi, .int mn, .ref mAr, .ref mAo, .int mf, .int mt, .int md, .ref mAc, .int mk, .ref mAg, .int mh, .ref mAe, .ref mAS, .ref mAp])), (mAx, .inl (cI, 32, .inl mx)), (mAy, .inl (cI, 32, .inl my)), (mAi, .inl (cZ, 32, .inl mi)), (mAr, .inl (cI, 32, .inl mr)), (mAo, .inl (cI, 32, .inl mo)), (mAc, .inl (cI, 34, .inl mc)), (mAg, .inl (cI, 34, .inl mg)), (mAe, .inl (cI, 128, .inl me)), (mAS, .inl (cJ, 2, .inr (.inl mS))), (mAp, .inl (cZ, 2, .inl mp))]) := by
  refine mt_l (cc := cX6_square) (maxL := 8) (by decide) rfl (Nat.le_of_ble_eq_true rfl) ?_
  intro p e s m args below meth c Q A R ls hRf hRl hx hb hml hown hts hK hA hP hD hS hl ret
  have hown : s.vm.findClass RX6 = some m.cls := hown
  have hl : lv_has ls 8 [(0, .ref mA), (1, .int v1), (2, .int v2), (3, .int v3)] := hl
  unfold wp_X6_square at hw
  refine lv_aload_n hx hb dX6_square_0 rfl (lv_at hl 0 rfl) ?_
  refine va_get (D := D) (ci := 5) (v := .ref mAx) (C := RX6) (T := TX6) (N := 16) hx hb hts in_X6_square_X6 hown hK hP 0 rfl rfl 0 (by decide) (hts (.fieldLink RX6 7 "LiveHullModel" "xs" "[I") (List.mem_of_getElem? (i := 1) rfl)) (fun _ h9 => h9) rfl dX6_square_1 ?_
  refine lv_iload_n hx hb dX6_square_4 rfl (lv_at hl 1 rfl) ?_
  obtain ⟨hi, hw⟩ := hw
  refine va_iald hx hb hK hP 1 0 rfl rfl hi dX6_square_5 ?_
  refine lv_i2l hx hb dX6_square_6 rfl ?_
  refine lv_iload_n hx hb dX6_square_7 rfl (lv_at hl 2 rfl) ?_
  refine lv_i2l hx hb dX6_square_8 rfl ?_
  refine lv_lsub hx hb dX6_square_9 ?_
  refine lv_lstore (lv' := [(4, .long ((mx v1.toNatClampNeg).toInt64 - v2.toInt64)), (0, .ref mA), (1, .int v1), (2, .int v2), (3, .int v3)]) hx hb dX6_square_10 hl (by decide) rfl (fun ls hl => ?_)
  refine lv_aload_n hx hb dX6_square_12 rfl (lv_at hl 1 rfl) ?_
  refine va_get (D := D) (ci := 5) (v := .ref mAy) (C := RX6) (T := TX6) (N := 16) hx hb hts in_X6_square_X6 hown hK hP 0 rfl rfl 1 (by decide) (hts (.fieldLink RX6 13 "LiveHullModel" "ys" "[I") (List.mem_of_getElem? (i := 2) rfl)) (fun _ h9 => h9) rfl dX6_square_13 ?_
  refine lv_iload_n hx hb dX6_square_16 rfl (lv_at hl 2 rfl) ?_
  obtain ⟨hi, hw⟩ := hw
  refine va_iald hx hb hK hP 2 0 rfl rfl hi dX6_square_17 ?_
  refine lv_i2l hx hb dX6_square_18 rfl ?_
  refine lv_iload_n hx hb dX6_square_19 rfl (lv_at hl 4 rfl) ?_
  refine lv_i2l hx hb dX6_square_20 rfl ?_
  refine lv_lsub hx hb dX6_square_21 ?_
  refine lv_lstore (lv' := [(6, .long ((my v1.toNatClampNeg).toInt64 - v3.toInt64)), (4, .long ((mx v1.toNatClampNeg).toInt64 - v2.toInt64)), (0, .ref mA), (1, .int v1), (2, .int v2), (3, .int v3)]) hx hb dX6_square_22 hl (by decide) rfl (fun ls hl => ?_)
  refine lv_lload hx hb dX6_square_24 (lv_at hl 1 rfl) ?_
  refine lv_lload hx hb dX6_square_26 (lv_at hl 1 rfl) ?_
  refine lv_lmul hx hb dX6_square_28 ?_
  refine lv_lload hx hb dX6_square_29 (lv_at hl 0 rfl) ?_
  refine lv_lload hx hb dX6_square_31 (lv_at hl 0 rfl) ?_
  refine lv_lmul hx hb dX6_square_33 ?_
  refine lv_ladd hx hb dX6_square_34 ?_
  exact ret _ _ _ _ ((((mx v1.toNatClampNeg).toInt64 - v2.toInt64) * ((mx v1.toNatClampNeg).toInt64 - v2.toInt64)) + (((my v1.toNatClampNeg).toInt64 - v3.toInt64) * ((my v1.toNatClampNeg).toInt64 - v3.toInt64))) () hw hP hD hS dX6_square_35
theorem in_X6_touch_X6 : ∀ w ∈ wsX60, w ∈ wsX6_touch := fun _ h => List.mem_cons_of_mem _ (List.mem_append_right _ h)
theorem hd_X6_touch : yX6_touch.cls = RX6 ∧ yX6_touch.cls ≠ "java/lang/invoke/MethodHandle" ∧ yX6_touch.cls ≠ "java/lang/invoke/VarHandle" ∧ (parseMethodDescriptor yX6_touch.desc).map (fun d => d.parameters.length) = some 3 := by decide +kernel
set_option maxHeartbeats 8000000 in
set_option maxRecDepth 100000 in
theorem c_X6_touch (l : Launch) (D : va_G) (cI cJ cZ cO : ClassId) (mA mAx mAy mAi mAr mAo mAc mAg mAe mAS mAp : Nat) (mx : Nat → Int32) (my : Nat → Int32) (mi : Nat → Int32) (mn : Int32) (mr : Nat → Int32) (mo : Nat → Int32) (mf : Int32) (mt : Int32) (md : Int32) (mc : Nat → Int32) (mk : Int32) (mg : Nat → Int32) (mh : Int32) (me : Nat → Int32) (mS : Nat → Int64) (mp : Nat → Int32) (v1 : Int32) (v2 : Int32) (v3 : Int32) (K : Int32 → (Nat → Int32) → (Nat → Int32) → Int32 → Int32 → Int32 → (Nat → Int32) → Int32 → (Nat → Int32) → Int32 → Prop) (hw : wp_X6_touch mx my mi mn mr mo mf mt md mc mk mg mh v1 v2 v3 K) : Ci l D (tys4 cI cJ cZ cO) yX6_touch wsX6_touch { frames := 5, cells := 0, slots := 0, locals := 128 } [.ref mA, .int v1, .int v2, .int v3] [(mA, .inr (5, [.ref mAx, .ref mAy, .ref mAi, .int mn, .ref mAr, .ref mAo, .int mf, .int mt, .int md, .ref mAc, .int mk, .ref mAg, .int mh, .ref mAe, .ref mAS, .ref mAp])), (mAx, .inl (cI, 32, .inl mx)), (mAy, .inl (cI, 32, .inl my)), (mAi, .inl (cZ, 32, .inl mi)), (mAr, .inl (cI, 32, .inl mr)), (mAo, .inl (cI, 32, .inl mo)), (mAc, .inl (cI, 34, .inl mc)), (mAg, .inl (cI, 34, .inl mg)), (mAe, .inl (cI, 128, .inl me)), (mAS, .inl (cJ, 2, .inr (.inl mS))), (mAp, .inl (cZ, 2, .inl mp))] (fun (r : Int32) (u : (Nat → Int32) × (Nat → Int32) × (Int32) × (Int32) × (Int32) × (Nat → Int32) × (Int32) × (Nat → Int32) × (Int32)) => K r u.1 u.2.1 u.2.2.1 u.2.2.2.1 u.2.2.2.2.1 u.2.2.2.2.2.1 u.2.2.2.2.2.2.1 u.2.2.2.2.2.2.2.1 u.2.2.2.2.2.2.2.2) (fun u => [(mA, .inr (5, [.ref mAx, .ref mAy, .ref mAi, .int mn, .ref mAr, .ref mAo, .int u.2.2.1, .int u.2.2.2.1, .int u.2.2.2.2.1, .ref mAc, .int u.2.2.2.2.2.2.1, .ref mAg, .int u.2.2.2.2.2.2.2.2, .ref mAe, .ref mAS, .ref mAp])), (mAx, .inl (cI, 32, .inl mx)), (mAy, .inl (cI, 32, .inl my)), (mAi, .inl (cZ, 32, .inl mi)), (mAr, .inl (cI, 32, .inl u.1)), (mAo, .inl (cI, 32, .inl u.2.1)), (mAc, .inl (cI, 34, .inl u.2.2.2.2.2.1)), (mAg, .inl (cI, 34, .inl u.2.2.2.2.2.2.2.1)), (mAe, .inl (cI, 128, .inl me)), (mAS, .inl (cJ, 2, .inr (.inl mS))), (mAp, .inl (cZ, 2, .inl mp))]) := by
  refine mt_i (cc := cX6_touch) (maxL := 11) (rt := .int) (by decide) rfl (Nat.le_of_ble_eq_true rfl) ?_
  intro p e s m args below meth c Q A R ls hRf hRl hx hb hml hown hts hK hA hP hD hS hl ret
  have hown : s.vm.findClass RX6 = some m.cls := hown
  have hl : lv_has ls 11 [(0, .ref mA), (1, .int v1), (2, .int v2), (3, .int v3)] := hl
  have N49 : ∀ (mr : Nat → Int32) (mo : Nat → Int32) (mf : Int32) (mt : Int32) (md : Int32) (mc : Nat → Int32) (mk : Int32) (mg : Nat → Int32) (mh : Int32) (k : Nat) (v4 : Int32) (v5 : Int32), wp_X6_touch_49 mx my mi mn v1 v2 v3 K  mr mo mf mt md mc mk mg mh k v4 v5 → ∀ (H : Heap) (locs : List Loc) (ls : Array Slot), va_P D vwCl [(mA, .inr (5, [.ref mAx, .ref mAy, .ref mAi, .int mn, .ref mAr, .ref mAo, .int mf, .int mt, .int md, .ref mAc, .int mk, .ref mAg, .int mh, .ref mAe, .ref mAS, .ref mAp])), (mAx, .inl (cI, 32, .inl mx)), (mAy, .inl (cI, 32, .inl my)), (mAi, .inl (cZ, 32, .inl mi)), (mAr, .inl (cI, 32, .inl mr)), (mAo, .inl (cI, 32, .inl mo)), (mAc, .inl (cI, 34, .inl mc)), (mAg, .inl (cI, 34, .inl mg)), (mAe, .inl (cI, 128, .inl me)), (mAS, .inl (cJ, 2, .inr (.inl mS))), (mAp, .inl (cZ, 2, .inl mp))] H → va_D A [(mA, .inr (5, [.ref mAx, .ref mAy, .ref mAi, .int mn, .ref mAr, .ref mAo, .int mf, .int mt, .int md, .ref mAc, .int mk, .ref mAg, .int mh, .ref mAe, .ref mAS, .ref mAp])), (mAx, .inl (cI, 32, .inl mx)), (mAy, .inl (cI, 32, .inl my)), (mAi, .inl (cZ, 32, .inl mi)), (mAr, .inl (cI, 32, .inl mr)), (mAo, .inl (cI, 32, .inl mo)), (mAc, .inl (cI, 34, .inl mc)), (mAg, .inl (cI, 34, .inl mg)), (mAe, .inl (cI, 128, .inl me)), (mAS, .inl (cJ, 2, .inr (.inl mS))), (mAp, .inl (cZ, 2, .inl mp))] → va_S A s.heap H locs → lv_has ls 11 [(0, .ref mA), (1, .int v1), (2, .int v2), (3, .int v3), (4, .int v4), (5, .int v5)] → W p l e R s m args below meth c H locs 0 0 Q (F0 m 49 ls []) := by
    intro mr mo mf mt md mc mk mg mh
    intro k
    induction k with
    | zero => intro v4 v5 hw; exact False.elim hw
    | succ k ih49 =>
      intro v4 v5 hw H locs ls hP hD hS hl
      have hw : wp_X6_touch_49b mx my mi mn v1 v2 v3 K (wp_X6_touch_49 mx my mi mn v1 v2 v3 K  mr mo mf mt md mc mk mg mh k)  mr mo mf mt md mc mk mg mh v4 v5 := hw
      unfold wp_X6_touch_49b at hw
      generalize wp_X6_touch_49 mx my mi mn v1 v2 v3 K  mr mo mf mt md mc mk mg mh k = L49 at hw ih49
      have N73 : ∀ (v4 : Int32) (v5 : Int32) (v6 : Int32) (k : Nat) (v7 : Int32) (v8 : Int32), wp_X6_touch_73 mx my mi mn v1 v2 v3 K L49 mr mo mf mt md mc mk mg mh v4 v5 v6 k v7 v8 → ∀ (H : Heap) (locs : List Loc) (ls : Array Slot), va_P D vwCl [(mA, .inr (5, [.ref mAx, .ref mAy, .ref mAi, .int mn, .ref mAr, .ref mAo, .int mf, .int mt, .int md, .ref mAc, .int mk, .ref mAg, .int mh, .ref mAe, .ref mAS, .ref mAp])), (mAx, .inl (cI, 32, .inl mx)), (mAy, .inl (cI, 32, .inl my)), (mAi, .inl (cZ, 32, .inl mi)), (mAr, .inl (cI, 32, .inl mr)), (mAo, .inl (cI, 32, .inl mo)), (mAc, .inl (cI, 34, .inl mc)), (mAg, .inl (cI, 34, .inl mg)), (mAe, .inl (cI, 128, .inl me)), (mAS, .inl (cJ, 2, .inr (.inl mS))), (mAp, .inl (cZ, 2, .inl mp))] H → va_D A [(mA, .inr (5, [.ref mAx, .ref mAy, .ref mAi, .int mn, .ref mAr, .ref mAo, .int mf, .int mt, .int md, .ref mAc, .int mk, .ref mAg, .int mh, .ref mAe, .ref mAS, .ref mAp])), (mAx, .inl (cI, 32, .inl mx)), (mAy, .inl (cI, 32, .inl my)), (mAi, .inl (cZ, 32, .inl mi)), (mAr, .inl (cI, 32, .inl mr)), (mAo, .inl (cI, 32, .inl mo)), (mAc, .inl (cI, 34, .inl mc)), (mAg, .inl (cI, 34, .inl mg)), (mAe, .inl (cI, 128, .inl me)), (mAS, .inl (cJ, 2, .inr (.inl mS))), (mAp, .inl (cZ, 2, .inl mp))] → va_S A s.heap H locs → lv_has ls 11 [(0, .ref mA), (1, .int v1), (2, .int v2), (3, .int v3), (4, .int v4), (5, .int v5), (6, .int v6), (7, .int v7), (8, .int v8)] → W p l e R s m args below meth c H locs 0 0 Q (F0 m 73 ls []) := by
        intro v4 v5 v6
        intro k
        induction k with
        | zero => intro v7 v8 hw; exact False.elim hw
        | succ k ih73 =>
          intro v7 v8 hw H locs ls hP hD hS hl
          have hw : wp_X6_touch_73b mx my mi mn v1 v2 v3 K L49 (wp_X6_touch_73 mx my mi mn v1 v2 v3 K L49 mr mo mf mt md mc mk mg mh v4 v5 v6 k) mr mo mf mt md mc mk mg mh v4 v5 v6 v7 v8 := hw
          unfold wp_X6_touch_73b at hw
          generalize wp_X6_touch_73 mx my mi mn v1 v2 v3 K L49 mr mo mf mt md mc mk mg mh v4 v5 v6 k = L73 at hw ih73
          refine lv_iload hx hb dX6_touch_73 (lv_at hl 8 rfl) ?_
          refine lv_aload_n hx hb dX6_touch_75 rfl (lv_at hl 0 rfl) ?_
          refine va_get (D := D) (ci := 5) (v := .int mh) (C := RX6) (T := TX6) (N := 16) hx hb hts in_X6_touch_X6 hown hK hP 0 rfl rfl 12 (by decide) (hts (.fieldLink RX6 114 "LiveHullModel" "rings" "I") (List.mem_of_getElem? (i := 2) rfl)) (fun _ h9 => h9) rfl dX6_touch_76 ?_
          obtain ⟨hwA, hwB⟩ := hw
          refine lv_icmp_ge (tgt := 172) hx hb dX6_touch_79 (by decide) (fun cb => ?_) (fun cb => ?_)
          · have hw := hwA cb
            refine lv_iload hx hb dX6_touch_172 (lv_at hl 7 rfl) ?_
            obtain ⟨hwA, hwB⟩ := hw
            refine lv_if_eq (tgt := 206) hx hb dX6_touch_174 (by decide) (fun cb => ?_) (fun cb => ?_)
            · have hw := hwA cb
              refine lv_iinc (v := (v5 + 1)) (lv' := [(5, .int (v5 + 1)), (0, .ref mA), (1, .int v1), (2, .int v2), (3, .int v3), (4, .int v4), (6, .int v6), (7, .int v7), (8, .int v8)]) hx hb dX6_touch_206 hl (k := 5) rfl rfl (by decide) rfl (fun ls hl => ?_)
              refine lv_goto (tgt := 49) hx hb dX6_touch_209 (by decide) ?_
              exact ih49 v4 (v5 + 1) hw _ _ _ hP hD hS (lv_sub hl [1, 2, 3, 4, 5, 0] rfl)
            · have hw := hwB cb
              refine lv_iload hx hb dX6_touch_177 (lv_at hl 4 rfl) ?_
              obtain ⟨hwA, hwB⟩ := hw
              refine lv_if_lt (tgt := 202) hx hb dX6_touch_179 (by decide) (fun cb => ?_) (fun cb => ?_)
              · have hw := hwA cb
                refine lv_iload hx hb dX6_touch_202 (lv_at hl 6 rfl) ?_
                refine lv_istore (lv' := [(4, .int v6), (0, .ref mA), (1, .int v1), (2, .int v2), (3, .int v3), (5, .int v5), (6, .int v6), (7, .int v7), (8, .int v8)]) hx hb dX6_touch_204 hl (by decide) rfl (fun ls hl => ?_)
                refine lv_iinc (v := (v5 + 1)) (lv' := [(5, .int (v5 + 1)), (4, .int v6), (0, .ref mA), (1, .int v1), (2, .int v2), (3, .int v3), (6, .int v6), (7, .int v7), (8, .int v8)]) hx hb dX6_touch_206 hl (k := 5) rfl rfl (by decide) rfl (fun ls hl => ?_)
                refine lv_goto (tgt := 49) hx hb dX6_touch_209 (by decide) ?_
                exact ih49 v6 (v5 + 1) hw _ _ _ hP hD hS (lv_sub hl [2, 3, 4, 5, 1, 0] rfl)
              · have hw := hwB cb
                refine lv_aload_n hx hb dX6_touch_182 rfl (lv_at hl 0 rfl) ?_
                refine lv_iload hx hb dX6_touch_183 (lv_at hl 6 rfl) ?_
                refine lv_iload_n hx hb dX6_touch_185 rfl (lv_at hl 1 rfl) ?_
                refine lv_iload_n hx hb dX6_touch_186 rfl (lv_at hl 2 rfl) ?_
                refine cl_Vl (As := [.int v6, .int v1, .int v2]) (rest := []) ⟨hx, hb, hml, hown, hts⟩ (c_X6_square l D cI cJ cZ cO mA mAx mAy mAi mAr mAo mAc mAg mAe mAS mAp mx my mi mn mr mo mf mt md mc mk mg mh me mS mp v6 v1 v2 _ hw) (cwV 3 hts gX6_touch_X6_square rfl rfl rfl hd_X6_square ⟨Nat.le_trans (Nat.le_of_ble_eq_true rfl) hRf, Nat.le_trans (Nat.le_of_ble_eq_true rfl) hRl⟩) hK hP hD hS hA [0, 1, 2, 3, 4, 5, 6, 7, 8, 9, 10] [] rfl (by decide) rfl (by decide) (by decide) 0 5 rfl rfl rfl hl.1 rfl (Nat.le_of_ble_eq_true rfl) dX6_touch_187 ⟨Nat.zero_le _, Nat.zero_le _⟩ (fun r187 _u H locs hw hP hD hS => ?_)
                try dsimp only at hw
                have hP : va_P D vwCl [(mA, .inr (5, [.ref mAx, .ref mAy, .ref mAi, .int mn, .ref mAr, .ref mAo, .int mf, .int mt, .int md, .ref mAc, .int mk, .ref mAg, .int mh, .ref mAe, .ref mAS, .ref mAp])), (mAx, .inl (cI, 32, .inl mx)), (mAy, .inl (cI, 32, .inl my)), (mAi, .inl (cZ, 32, .inl mi)), (mAr, .inl (cI, 32, .inl mr)), (mAo, .inl (cI, 32, .inl mo)), (mAc, .inl (cI, 34, .inl mc)), (mAg, .inl (cI, 34, .inl mg)), (mAe, .inl (cI, 128, .inl me)), (mAS, .inl (cJ, 2, .inr (.inl mS))), (mAp, .inl (cZ, 2, .inl mp))] H := hP.sub [0, 1, 2, 3, 4, 5, 6, 7, 8, 9, 10] rfl
                have hD : va_D A [(mA, .inr (5, [.ref mAx, .ref mAy, .ref mAi, .int mn, .ref mAr, .ref mAo, .int mf, .int mt, .int md, .ref mAc, .int mk, .ref mAg, .int mh, .ref mAe, .ref mAS, .ref mAp])), (mAx, .inl (cI, 32, .inl mx)), (mAy, .inl (cI, 32, .inl my)), (mAi, .inl (cZ, 32, .inl mi)), (mAr, .inl (cI, 32, .inl mr)), (mAo, .inl (cI, 32, .inl mo)), (mAc, .inl (cI, 34, .inl mc)), (mAg, .inl (cI, 34, .inl mg)), (mAe, .inl (cI, 128, .inl me)), (mAS, .inl (cJ, 2, .inr (.inl mS))), (mAp, .inl (cZ, 2, .inl mp))] := hD.sub [0, 1, 2, 3, 4, 5, 6, 7, 8, 9, 10] (by decide) rfl
                refine lv_aload_n hx hb dX6_touch_190 rfl (lv_at hl 0 rfl) ?_
                refine lv_iload hx hb dX6_touch_191 (lv_at hl 4 rfl) ?_
                refine lv_iload_n hx hb dX6_touch_193 rfl (lv_at hl 1 rfl) ?_
                refine lv_iload_n hx hb dX6_touch_194 rfl (lv_at hl 2 rfl) ?_
                refine cl_Vl (As := [.int v4, .int v1, .int v2]) (rest := [.long r187]) ⟨hx, hb, hml, hown, hts⟩ (c_X6_square l D cI cJ cZ cO mA mAx mAy mAi mAr mAo mAc mAg mAe mAS mAp mx my mi mn mr mo mf mt md mc mk mg mh me mS mp v4 v1 v2 _ hw) (cwV 3 hts gX6_touch_X6_square rfl rfl rfl hd_X6_square ⟨Nat.le_trans (Nat.le_of_ble_eq_true rfl) hRf, Nat.le_trans (Nat.le_of_ble_eq_true rfl) hRl⟩) hK hP hD hS hA [0, 1, 2, 3, 4, 5, 6, 7, 8, 9, 10] [] rfl (by decide) rfl (by decide) (by decide) 0 5 rfl rfl rfl hl.1 rfl (Nat.le_of_ble_eq_true rfl) dX6_touch_195 ⟨Nat.zero_le _, Nat.zero_le _⟩ (fun r195 _u H locs hw hP hD hS => ?_)
                try dsimp only at hw
                have hP : va_P D vwCl [(mA, .inr (5, [.ref mAx, .ref mAy, .ref mAi, .int mn, .ref mAr, .ref mAo, .int mf, .int mt, .int md, .ref mAc, .int mk, .ref mAg, .int mh, .ref mAe, .ref mAS, .ref mAp])), (mAx, .inl (cI, 32, .inl mx)), (mAy, .inl (cI, 32, .inl my)), (mAi, .inl (cZ, 32, .inl mi)), (mAr, .inl (cI, 32, .inl mr)), (mAo, .inl (cI, 32, .inl mo)), (mAc, .inl (cI, 34, .inl mc)), (mAg, .inl (cI, 34, .inl mg)), (mAe, .inl (cI, 128, .inl me)), (mAS, .inl (cJ, 2, .inr (.inl mS))), (mAp, .inl (cZ, 2, .inl mp))] H := hP.sub [0, 1, 2, 3, 4, 5, 6, 7, 8, 9, 10] rfl
                have hD : va_D A [(mA, .inr (5, [.ref mAx, .ref mAy, .ref mAi, .int mn, .ref mAr, .ref mAo, .int mf, .int mt, .int md, .ref mAc, .int mk, .ref mAg, .int mh, .ref mAe, .ref mAS, .ref mAp])), (mAx, .inl (cI, 32, .inl mx)), (mAy, .inl (cI, 32, .inl my)), (mAi, .inl (cZ, 32, .inl mi)), (mAr, .inl (cI, 32, .inl mr)), (mAo, .inl (cI, 32, .inl mo)), (mAc, .inl (cI, 34, .inl mc)), (mAg, .inl (cI, 34, .inl mg)), (mAe, .inl (cI, 128, .inl me)), (mAS, .inl (cJ, 2, .inr (.inl mS))), (mAp, .inl (cZ, 2, .inl mp))] := hD.sub [0, 1, 2, 3, 4, 5, 6, 7, 8, 9, 10] (by decide) rfl
                refine W.lcmp hx hb dX6_touch_198 ?_
                obtain ⟨hwA, hwB⟩ := hw
                refine lv_if_ge (tgt := 206) hx hb dX6_touch_199 (by decide) (fun cb => ?_) (fun cb => ?_)
                · have hw := hwA ((cq_ge _ _).mp cb)
                  refine lv_iinc (v := (v5 + 1)) (lv' := [(5, .int (v5 + 1)), (0, .ref mA), (1, .int v1), (2, .int v2), (3, .int v3), (4, .int v4), (6, .int v6), (7, .int v7), (8, .int v8)]) hx hb dX6_touch_206 hl (k := 5) rfl rfl (by decide) rfl (fun ls hl => ?_)
                  refine lv_goto (tgt := 49) hx hb dX6_touch_209 (by decide) ?_
                  exact ih49 v4 (v5 + 1) hw _ _ _ hP hD hS (lv_sub hl [1, 2, 3, 4, 5, 0] rfl)
                · have hw := hwB (fun h => cb ((cq_ge _ _).mpr h))
                  refine lv_iload hx hb dX6_touch_202 (lv_at hl 6 rfl) ?_
                  refine lv_istore (lv' := [(4, .int v6), (0, .ref mA), (1, .int v1), (2, .int v2), (3, .int v3), (5, .int v5), (6, .int v6), (7, .int v7), (8, .int v8)]) hx hb dX6_touch_204 hl (by decide) rfl (fun ls hl => ?_)
                  refine lv_iinc (v := (v5 + 1)) (lv' := [(5, .int (v5 + 1)), (4, .int v6), (0, .ref mA), (1, .int v1), (2, .int v2), (3, .int v3), (6, .int v6), (7, .int v7), (8, .int v8)]) hx hb dX6_touch_206 hl (k := 5) rfl rfl (by decide) rfl (fun ls hl => ?_)
                  refine lv_goto (tgt := 49) hx hb dX6_touch_209 (by decide) ?_
                  exact ih49 v6 (v5 + 1) hw _ _ _ hP hD hS (lv_sub hl [2, 3, 4, 5, 1, 0] rfl)
          · have hw := hwB cb
            refine lv_iload_n hx hb dX6_touch_82 rfl (lv_at hl 1 rfl) ?_
            refine lv_i2l hx hb dX6_touch_83 rfl ?_
            refine lv_iload_n hx hb dX6_touch_84 rfl (lv_at hl 2 rfl) ?_
            refine lv_i2l hx hb dX6_touch_85 rfl ?_
            refine lv_aload_n hx hb dX6_touch_86 rfl (lv_at hl 0 rfl) ?_
            refine va_get (D := D) (ci := 5) (v := .ref mAx) (C := RX6) (T := TX6) (N := 16) hx hb hts in_X6_touch_X6 hown hK hP 0 rfl rfl 0 (by decide) (hts (.fieldLink RX6 7 "LiveHullModel" "xs" "[I") (List.mem_of_getElem? (i := 4) rfl)) (fun _ h9 => h9) rfl dX6_touch_87 ?_
            refine lv_iload hx hb dX6_touch_90 (lv_at hl 6 rfl) ?_
            obtain ⟨hi, hw⟩ := hw
            refine va_iald hx hb hK hP 1 0 rfl rfl hi dX6_touch_92 ?_
            refine lv_i2l hx hb dX6_touch_93 rfl ?_
            refine lv_aload_n hx hb dX6_touch_94 rfl (lv_at hl 0 rfl) ?_
            refine va_get (D := D) (ci := 5) (v := .ref mAy) (C := RX6) (T := TX6) (N := 16) hx hb hts in_X6_touch_X6 hown hK hP 0 rfl rfl 1 (by decide) (hts (.fieldLink RX6 13 "LiveHullModel" "ys" "[I") (List.mem_of_getElem? (i := 5) rfl)) (fun _ h9 => h9) rfl dX6_touch_95 ?_
            refine lv_iload hx hb dX6_touch_98 (lv_at hl 6 rfl) ?_
            obtain ⟨hi, hw⟩ := hw
            refine va_iald hx hb hK hP 2 0 rfl rfl hi dX6_touch_100 ?_
            refine lv_i2l hx hb dX6_touch_101 rfl ?_
            refine lv_aload_n hx hb dX6_touch_102 rfl (lv_at hl 0 rfl) ?_
            refine va_get (D := D) (ci := 5) (v := .ref mAx) (C := RX6) (T := TX6) (N := 16) hx hb hts in_X6_touch_X6 hown hK hP 0 rfl rfl 0 (by decide) (hts (.fieldLink RX6 7 "LiveHullModel" "xs" "[I") (List.mem_of_getElem? (i := 4) rfl)) (fun _ h9 => h9) rfl dX6_touch_103 ?_
            refine lv_aload_n hx hb dX6_touch_106 rfl (lv_at hl 0 rfl) ?_
            refine va_get (D := D) (ci := 5) (v := .ref mAg) (C := RX6) (T := TX6) (N := 16) hx hb hts in_X6_touch_X6 hown hK hP 0 rfl rfl 11 (by decide) (hts (.fieldLink RX6 29 "LiveHullModel" "ring" "[I") (List.mem_of_getElem? (i := 3) rfl)) (fun _ h9 => h9) rfl dX6_touch_107 ?_
            refine lv_iload hx hb dX6_touch_110 (lv_at hl 8 rfl) ?_
            obtain ⟨hi, hw⟩ := hw
            refine va_iald hx hb hK hP 7 0 rfl rfl hi dX6_touch_112 ?_
            obtain ⟨hi, hw⟩ := hw
            refine va_iald hx hb hK hP 1 0 rfl rfl hi dX6_touch_113 ?_
            refine lv_i2l hx hb dX6_touch_114 rfl ?_
            refine lv_aload_n hx hb dX6_touch_115 rfl (lv_at hl 0 rfl) ?_
            refine va_get (D := D) (ci := 5) (v := .ref mAy) (C := RX6) (T := TX6) (N := 16) hx hb hts in_X6_touch_X6 hown hK hP 0 rfl rfl 1 (by decide) (hts (.fieldLink RX6 13 "LiveHullModel" "ys" "[I") (List.mem_of_getElem? (i := 5) rfl)) (fun _ h9 => h9) rfl dX6_touch_116 ?_
            refine lv_aload_n hx hb dX6_touch_119 rfl (lv_at hl 0 rfl) ?_
            refine va_get (D := D) (ci := 5) (v := .ref mAg) (C := RX6) (T := TX6) (N := 16) hx hb hts in_X6_touch_X6 hown hK hP 0 rfl rfl 11 (by decide) (hts (.fieldLink RX6 29 "LiveHullModel" "ring" "[I") (List.mem_of_getElem? (i := 3) rfl)) (fun _ h9 => h9) rfl dX6_touch_120 ?_
            refine lv_iload hx hb dX6_touch_123 (lv_at hl 8 rfl) ?_
            obtain ⟨hi, hw⟩ := hw
            refine va_iald hx hb hK hP 7 0 rfl rfl hi dX6_touch_125 ?_
            obtain ⟨hi, hw⟩ := hw
            refine va_iald hx hb hK hP 2 0 rfl rfl hi dX6_touch_126 ?_
            refine lv_i2l hx hb dX6_touch_127 rfl ?_
            refine cl_Sl (As := [.long v1.toInt64, .long v2.toInt64, .long ((mx v6.toNatClampNeg).toInt64), .long ((my v6.toNatClampNeg).toInt64), .long ((mx (mg v8.toNatClampNeg).toNatClampNeg).toInt64), .long ((my (mg v8.toNatClampNeg).toNatClampNeg).toInt64)]) (rest := []) ⟨hx, hb, hml, hown, hts⟩ (c_X6_cross l D cI cJ cZ cO   v1.toInt64 v2.toInt64 ((mx v6.toNatClampNeg).toInt64) ((my v6.toNatClampNeg).toInt64) ((mx (mg v8.toNatClampNeg).toNatClampNeg).toInt64) ((my (mg v8.toNatClampNeg).toNatClampNeg).toInt64) _ hw) (va_cwS 6 hts gX6_touch_X6_cross rfl rfl rfl hd_X6_cross.2 ⟨Nat.le_trans (Nat.le_of_ble_eq_true rfl) hRf, Nat.le_trans (Nat.le_of_ble_eq_true rfl) hRl⟩) hK hP hD hS hA [] [0, 1, 2, 3, 4, 5, 6, 7, 8, 9, 10] rfl (by decide) rfl (by decide) (by decide) rfl hl.1 rfl (Nat.le_of_ble_eq_true rfl) dX6_touch_128 ⟨Nat.zero_le _, Nat.zero_le _⟩ (fun r128 _u H locs hw hP hD hS => ?_)
            try dsimp only at hw
            have hP : va_P D vwCl [(mA, .inr (5, [.ref mAx, .ref mAy, .ref mAi, .int mn, .ref mAr, .ref mAo, .int mf, .int mt, .int md, .ref mAc, .int mk, .ref mAg, .int mh, .ref mAe, .ref mAS, .ref mAp])), (mAx, .inl (cI, 32, .inl mx)), (mAy, .inl (cI, 32, .inl my)), (mAi, .inl (cZ, 32, .inl mi)), (mAr, .inl (cI, 32, .inl mr)), (mAo, .inl (cI, 32, .inl mo)), (mAc, .inl (cI, 34, .inl mc)), (mAg, .inl (cI, 34, .inl mg)), (mAe, .inl (cI, 128, .inl me)), (mAS, .inl (cJ, 2, .inr (.inl mS))), (mAp, .inl (cZ, 2, .inl mp))] H := hP.sub [0, 1, 2, 3, 4, 5, 6, 7, 8, 9, 10] rfl
            have hD : va_D A [(mA, .inr (5, [.ref mAx, .ref mAy, .ref mAi, .int mn, .ref mAr, .ref mAo, .int mf, .int mt, .int md, .ref mAc, .int mk, .ref mAg, .int mh, .ref mAe, .ref mAS, .ref mAp])), (mAx, .inl (cI, 32, .inl mx)), (mAy, .inl (cI, 32, .inl my)), (mAi, .inl (cZ, 32, .inl mi)), (mAr, .inl (cI, 32, .inl mr)), (mAo, .inl (cI, 32, .inl mo)), (mAc, .inl (cI, 34, .inl mc)), (mAg, .inl (cI, 34, .inl mg)), (mAe, .inl (cI, 128, .inl me)), (mAS, .inl (cJ, 2, .inr (.inl mS))), (mAp, .inl (cZ, 2, .inl mp))] := hD.sub [0, 1, 2, 3, 4, 5, 6, 7, 8, 9, 10] (by decide) rfl
            refine lv_lstore (lv' := [(9, .long r128), (0, .ref mA), (1, .int v1), (2, .int v2), (3, .int v3), (4, .int v4), (5, .int v5), (6, .int v6), (7, .int v7), (8, .int v8)]) hx hb dX6_touch_131 hl (by decide) rfl (fun ls hl => ?_)
            refine lv_iload hx hb dX6_touch_133 (lv_at hl 8 rfl) ?_
            obtain ⟨hwA, hwB⟩ := hw
            refine lv_if_eq (tgt := 163) hx hb dX6_touch_135 (by decide) (fun cb => ?_) (fun cb => ?_)
            · have hw := hwA cb
              refine lv_iconst (v := 0) hx hb dX6_touch_163 (by decide) ?_
              refine lv_istore (lv' := [(7, .int 0), (9, .long r128), (0, .ref mA), (1, .int v1), (2, .int v2), (3, .int v3), (4, .int v4), (5, .int v5), (6, .int v6), (8, .int v8)]) hx hb dX6_touch_164 hl (by decide) rfl (fun ls hl => ?_)
              refine lv_iinc (v := (v8 + 1)) (lv' := [(8, .int (v8 + 1)), (7, .int 0), (9, .long r128), (0, .ref mA), (1, .int v1), (2, .int v2), (3, .int v3), (4, .int v4), (5, .int v5), (6, .int v6)]) hx hb dX6_touch_166 hl (k := 9) rfl rfl (by decide) rfl (fun ls hl => ?_)
              refine lv_goto (tgt := 73) hx hb dX6_touch_169 (by decide) ?_
              exact ih73 0 (v8 + 1) hw _ _ _ hP hD hS (lv_sub hl [3, 4, 5, 6, 7, 8, 9, 1, 0] rfl)
            · have hw := hwB cb
              refine lv_iload_n hx hb dX6_touch_138 rfl (lv_at hl 4 rfl) ?_
              obtain ⟨hwA, hwB⟩ := hw
              refine lv_if_ne (tgt := 152) hx hb dX6_touch_139 (by decide) (fun cb => ?_) (fun cb => ?_)
              · have hw := hwA cb
                refine lv_lload hx hb dX6_touch_152 (lv_at hl 0 rfl) ?_
                refine lv_lconst (v := 0) hx hb dX6_touch_154 (by decide) ?_
                refine W.lcmp hx hb dX6_touch_155 ?_
                obtain ⟨hwA, hwB⟩ := hw
                refine lv_if_gt (tgt := 163) hx hb dX6_touch_156 (by decide) (fun cb => ?_) (fun cb => ?_)
                · have hw := hwA ((cq_gt _ _).mp cb)
                  refine lv_iconst (v := 0) hx hb dX6_touch_163 (by decide) ?_
                  refine lv_istore (lv' := [(7, .int 0), (9, .long r128), (0, .ref mA), (1, .int v1), (2, .int v2), (3, .int v3), (4, .int v4), (5, .int v5), (6, .int v6), (8, .int v8)]) hx hb dX6_touch_164 hl (by decide) rfl (fun ls hl => ?_)
                  refine lv_iinc (v := (v8 + 1)) (lv' := [(8, .int (v8 + 1)), (7, .int 0), (9, .long r128), (0, .ref mA), (1, .int v1), (2, .int v2), (3, .int v3), (4, .int v4), (5, .int v5), (6, .int v6)]) hx hb dX6_touch_166 hl (k := 9) rfl rfl (by decide) rfl (fun ls hl => ?_)
                  refine lv_goto (tgt := 73) hx hb dX6_touch_169 (by decide) ?_
                  exact ih73 0 (v8 + 1) hw _ _ _ hP hD hS (lv_sub hl [3, 4, 5, 6, 7, 8, 9, 1, 0] rfl)
                · have hw := hwB (fun h => cb ((cq_gt _ _).mpr h))
                  refine lv_iconst (v := 1) hx hb dX6_touch_159 (by decide) ?_
                  refine lv_goto (tgt := 164) hx hb dX6_touch_160 (by decide) ?_
                  refine lv_istore (lv' := [(7, .int 1), (9, .long r128), (0, .ref mA), (1, .int v1), (2, .int v2), (3, .int v3), (4, .int v4), (5, .int v5), (6, .int v6), (8, .int v8)]) hx hb dX6_touch_164 hl (by decide) rfl (fun ls hl => ?_)
                  refine lv_iinc (v := (v8 + 1)) (lv' := [(8, .int (v8 + 1)), (7, .int 1), (9, .long r128), (0, .ref mA), (1, .int v1), (2, .int v2), (3, .int v3), (4, .int v4), (5, .int v5), (6, .int v6)]) hx hb dX6_touch_166 hl (k := 9) rfl rfl (by decide) rfl (fun ls hl => ?_)
                  refine lv_goto (tgt := 73) hx hb dX6_touch_169 (by decide) ?_
                  exact ih73 1 (v8 + 1) hw _ _ _ hP hD hS (lv_sub hl [3, 4, 5, 6, 7, 8, 9, 1, 0] rfl)
              · have hw := hwB cb
                refine lv_lload hx hb dX6_touch_142 (lv_at hl 0 rfl) ?_
                refine lv_lconst (v := 0) hx hb dX6_touch_144 (by decide) ?_
                refine W.lcmp hx hb dX6_touch_145 ?_
                obtain ⟨hwA, hwB⟩ := hw
                refine lv_if_lt (tgt := 163) hx hb dX6_touch_146 (by decide) (fun cb => ?_) (fun cb => ?_)
                · have hw := hwA ((cq_lt _ _).mp cb)
                  refine lv_iconst (v := 0) hx hb dX6_touch_163 (by decide) ?_
                  refine lv_istore (lv' := [(7, .int 0), (9, .long r128), (0, .ref mA), (1, .int v1), (2, .int v2), (3, .int v3), (4, .int v4), (5, .int v5), (6, .int v6), (8, .int v8)]) hx hb dX6_touch_164 hl (by decide) rfl (fun ls hl => ?_)
                  refine lv_iinc (v := (v8 + 1)) (lv' := [(8, .int (v8 + 1)), (7, .int 0), (9, .long r128), (0, .ref mA), (1, .int v1), (2, .int v2), (3, .int v3), (4, .int v4), (5, .int v5), (6, .int v6)]) hx hb dX6_touch_166 hl (k := 9) rfl rfl (by decide) rfl (fun ls hl => ?_)
                  refine lv_goto (tgt := 73) hx hb dX6_touch_169 (by decide) ?_
                  exact ih73 0 (v8 + 1) hw _ _ _ hP hD hS (lv_sub hl [3, 4, 5, 6, 7, 8, 9, 1, 0] rfl)
                · have hw := hwB (fun h => cb ((cq_lt _ _).mpr h))
                  refine lv_goto (tgt := 159) hx hb dX6_touch_149 (by decide) ?_
                  refine lv_iconst (v := 1) hx hb dX6_touch_159 (by decide) ?_
                  refine lv_goto (tgt := 164) hx hb dX6_touch_160 (by decide) ?_
                  refine lv_istore (lv' := [(7, .int 1), (9, .long r128), (0, .ref mA), (1, .int v1), (2, .int v2), (3, .int v3), (4, .int v4), (5, .int v5), (6, .int v6), (8, .int v8)]) hx hb dX6_touch_164 hl (by decide) rfl (fun ls hl => ?_)
                  refine lv_iinc (v := (v8 + 1)) (lv' := [(8, .int (v8 + 1)), (7, .int 1), (9, .long r128), (0, .ref mA), (1, .int v1), (2, .int v2), (3, .int v3), (4, .int v4), (5, .int v5), (6, .int v6)]) hx hb dX6_touch_166 hl (k := 9) rfl rfl (by decide) rfl (fun ls hl => ?_)
                  refine lv_goto (tgt := 73) hx hb dX6_touch_169 (by decide) ?_
                  exact ih73 1 (v8 + 1) hw _ _ _ hP hD hS (lv_sub hl [3, 4, 5, 6, 7, 8, 9, 1, 0] rfl)
      refine lv_iload hx hb dX6_touch_49 (lv_at hl 5 rfl) ?_
      refine lv_aload_n hx hb dX6_touch_51 rfl (lv_at hl 0 rfl) ?_
      refine va_get (D := D) (ci := 5) (v := .int mh) (C := RX6) (T := TX6) (N := 16) hx hb hts in_X6_touch_X6 hown hK hP 0 rfl rfl 12 (by decide) (hts (.fieldLink RX6 114 "LiveHullModel" "rings" "I") (List.mem_of_getElem? (i := 2) rfl)) (fun _ h9 => h9) rfl dX6_touch_52 ?_
      obtain ⟨hwA, hwB⟩ := hw
      refine lv_icmp_ge (tgt := 212) hx hb dX6_touch_55 (by decide) (fun cb => ?_) (fun cb => ?_)
      · have hw := hwA cb
        refine lv_iload hx hb dX6_touch_212 (lv_at hl 4 rfl) ?_
        exact ret _ _ _ _ v4 (mr, mo, mf, mt, md, mc, mk, mg, mh) (vp_nar_int _) hw hP hD hS dX6_touch_214
      · have hw := hwB cb
        refine lv_aload_n hx hb dX6_touch_58 rfl (lv_at hl 0 rfl) ?_
        refine va_get (D := D) (ci := 5) (v := .ref mAg) (C := RX6) (T := TX6) (N := 16) hx hb hts in_X6_touch_X6 hown hK hP 0 rfl rfl 11 (by decide) (hts (.fieldLink RX6 29 "LiveHullModel" "ring" "[I") (List.mem_of_getElem? (i := 3) rfl)) (fun _ h9 => h9) rfl dX6_touch_59 ?_
        refine lv_iload hx hb dX6_touch_62 (lv_at hl 5 rfl) ?_
        obtain ⟨hi, hw⟩ := hw
        refine va_iald hx hb hK hP 7 0 rfl rfl hi dX6_touch_64 ?_
        refine lv_istore (lv' := [(6, .int (mg v5.toNatClampNeg)), (0, .ref mA), (1, .int v1), (2, .int v2), (3, .int v3), (4, .int v4), (5, .int v5)]) hx hb dX6_touch_65 hl (by decide) rfl (fun ls hl => ?_)
        refine lv_iconst (v := 1) hx hb dX6_touch_67 (by decide) ?_
        refine lv_istore (lv' := [(7, .int 1), (6, .int (mg v5.toNatClampNeg)), (0, .ref mA), (1, .int v1), (2, .int v2), (3, .int v3), (4, .int v4), (5, .int v5)]) hx hb dX6_touch_68 hl (by decide) rfl (fun ls hl => ?_)
        refine lv_iconst (v := 0) hx hb dX6_touch_70 (by decide) ?_
        refine lv_istore (lv' := [(8, .int 0), (7, .int 1), (6, .int (mg v5.toNatClampNeg)), (0, .ref mA), (1, .int v1), (2, .int v2), (3, .int v3), (4, .int v4), (5, .int v5)]) hx hb dX6_touch_71 hl (by decide) rfl (fun ls hl => ?_)
        obtain ⟨k, hw⟩ := hw
        exact N73 v4 v5 (mg v5.toNatClampNeg) k 1 0 hw _ _ _ hP hD hS (lv_sub hl [3, 4, 5, 6, 7, 8, 2, 1, 0] rfl)
  unfold wp_X6_touch at hw
  refine lv_iload_n hx hb dX6_touch_0 rfl (lv_at hl 1 rfl) ?_
  refine lv_iload_n hx hb dX6_touch_1 rfl (lv_at hl 2 rfl) ?_
  refine cl_Si (As := [.int v1, .int v2]) (rest := []) ⟨hx, hb, hml, hown, hts⟩ (c_X6_isPlace l D cI cJ cZ cO   v1 v2 _ hw) (va_cwS 2 hts gX6_touch_X6_isPlace rfl rfl rfl hd_X6_isPlace.2 ⟨Nat.le_trans (Nat.le_of_ble_eq_true rfl) hRf, Nat.le_trans (Nat.le_of_ble_eq_true rfl) hRl⟩) hK hP hD hS hA [] [0, 1, 2, 3, 4, 5, 6, 7, 8, 9, 10] rfl (by decide) rfl (by decide) (by decide) rfl hl.1 rfl (Nat.le_of_ble_eq_true rfl) dX6_touch_2 ⟨Nat.zero_le _, Nat.zero_le _⟩ (fun r2 _u H locs hw hP hD hS => ?_)
  try dsimp only at hw
  have hP : va_P D vwCl [(mA, .inr (5, [.ref mAx, .ref mAy, .ref mAi, .int mn, .ref mAr, .ref mAo, .int mf, .int mt, .int md, .ref mAc, .int mk, .ref mAg, .int mh, .ref mAe, .ref mAS, .ref mAp])), (mAx, .inl (cI, 32, .inl mx)), (mAy, .inl (cI, 32, .inl my)), (mAi, .inl (cZ, 32, .inl mi)), (mAr, .inl (cI, 32, .inl mr)), (mAo, .inl (cI, 32, .inl mo)), (mAc, .inl (cI, 34, .inl mc)), (mAg, .inl (cI, 34, .inl mg)), (mAe, .inl (cI, 128, .inl me)), (mAS, .inl (cJ, 2, .inr (.inl mS))), (mAp, .inl (cZ, 2, .inl mp))] H := hP.sub [0, 1, 2, 3, 4, 5, 6, 7, 8, 9, 10] rfl
  have hD : va_D A [(mA, .inr (5, [.ref mAx, .ref mAy, .ref mAi, .int mn, .ref mAr, .ref mAo, .int mf, .int mt, .int md, .ref mAc, .int mk, .ref mAg, .int mh, .ref mAe, .ref mAS, .ref mAp])), (mAx, .inl (cI, 32, .inl mx)), (mAy, .inl (cI, 32, .inl my)), (mAi, .inl (cZ, 32, .inl mi)), (mAr, .inl (cI, 32, .inl mr)), (mAo, .inl (cI, 32, .inl mo)), (mAc, .inl (cI, 34, .inl mc)), (mAg, .inl (cI, 34, .inl mg)), (mAe, .inl (cI, 128, .inl me)), (mAS, .inl (cJ, 2, .inr (.inl mS))), (mAp, .inl (cZ, 2, .inl mp))] := hD.sub [0, 1, 2, 3, 4, 5, 6, 7, 8, 9, 10] (by decide) rfl
  obtain ⟨hwA, hwB⟩ := hw
  refine lv_if_eq (tgt := 17) hx hb dX6_touch_5 (by decide) (fun cb => ?_) (fun cb => ?_)
  · have hw := hwA cb
    refine lv_bipush (v := (-2)) hx hb dX6_touch_17 (by decide) ?_
    exact ret _ _ _ _ (-2) (mr, mo, mf, mt, md, mc, mk, mg, mh) (vp_nar_int _) hw hP hD hS dX6_touch_19
  · have hw := hwB cb
    refine lv_iload_n hx hb dX6_touch_8 rfl (lv_at hl 3 rfl) ?_
    refine lv_iconst (v := 0) hx hb dX6_touch_9 (by decide) ?_
    refine lv_iconst (v := 1) hx hb dX6_touch_10 (by decide) ?_
    refine cl_Si (As := [.int v3, .int 0, .int 1]) (rest := []) ⟨hx, hb, hml, hown, hts⟩ (c_X6_in l D cI cJ cZ cO   v3 0 1 _ hw) (va_cwS 3 hts gX6_touch_X6_in rfl rfl rfl hd_X6_in.2 ⟨Nat.le_trans (Nat.le_of_ble_eq_true rfl) hRf, Nat.le_trans (Nat.le_of_ble_eq_true rfl) hRl⟩) hK hP hD hS hA [] [0, 1, 2, 3, 4, 5, 6, 7, 8, 9, 10] rfl (by decide) rfl (by decide) (by decide) rfl hl.1 rfl (Nat.le_of_ble_eq_true rfl) dX6_touch_11 ⟨Nat.zero_le _, Nat.zero_le _⟩ (fun r11 _u H locs hw hP hD hS => ?_)
    try dsimp only at hw
    have hP : va_P D vwCl [(mA, .inr (5, [.ref mAx, .ref mAy, .ref mAi, .int mn, .ref mAr, .ref mAo, .int mf, .int mt, .int md, .ref mAc, .int mk, .ref mAg, .int mh, .ref mAe, .ref mAS, .ref mAp])), (mAx, .inl (cI, 32, .inl mx)), (mAy, .inl (cI, 32, .inl my)), (mAi, .inl (cZ, 32, .inl mi)), (mAr, .inl (cI, 32, .inl mr)), (mAo, .inl (cI, 32, .inl mo)), (mAc, .inl (cI, 34, .inl mc)), (mAg, .inl (cI, 34, .inl mg)), (mAe, .inl (cI, 128, .inl me)), (mAS, .inl (cJ, 2, .inr (.inl mS))), (mAp, .inl (cZ, 2, .inl mp))] H := hP.sub [0, 1, 2, 3, 4, 5, 6, 7, 8, 9, 10] rfl
    have hD : va_D A [(mA, .inr (5, [.ref mAx, .ref mAy, .ref mAi, .int mn, .ref mAr, .ref mAo, .int mf, .int mt, .int md, .ref mAc, .int mk, .ref mAg, .int mh, .ref mAe, .ref mAS, .ref mAp])), (mAx, .inl (cI, 32, .inl mx)), (mAy, .inl (cI, 32, .inl my)), (mAi, .inl (cZ, 32, .inl mi)), (mAr, .inl (cI, 32, .inl mr)), (mAo, .inl (cI, 32, .inl mo)), (mAc, .inl (cI, 34, .inl mc)), (mAg, .inl (cI, 34, .inl mg)), (mAe, .inl (cI, 128, .inl me)), (mAS, .inl (cJ, 2, .inr (.inl mS))), (mAp, .inl (cZ, 2, .inl mp))] := hD.sub [0, 1, 2, 3, 4, 5, 6, 7, 8, 9, 10] (by decide) rfl
    obtain ⟨hwA, hwB⟩ := hw
    refine lv_if_ne (tgt := 20) hx hb dX6_touch_14 (by decide) (fun cb => ?_) (fun cb => ?_)
    · have hw := hwA cb
      refine lv_aload_n hx hb dX6_touch_20 rfl (lv_at hl 0 rfl) ?_
      refine va_get (D := D) (ci := 5) (v := .int mn) (C := RX6) (T := TX6) (N := 16) hx hb hts in_X6_touch_X6 hown hK hP 0 rfl rfl 3 (by decide) (hts (.fieldLink RX6 55 "LiveHullModel" "many" "I") (List.mem_of_getElem? (i := 1) rfl)) (fun _ h9 => h9) rfl dX6_touch_21 ?_
      obtain ⟨hwA, hwB⟩ := hw
      refine lv_if_ne (tgt := 30) hx hb dX6_touch_24 (by decide) (fun cb => ?_) (fun cb => ?_)
      · have hw := hwA cb
        refine lv_aload_n hx hb dX6_touch_30 rfl (lv_at hl 0 rfl) ?_
        refine lv_iload_n hx hb dX6_touch_31 rfl (lv_at hl 1 rfl) ?_
        refine lv_iload_n hx hb dX6_touch_32 rfl (lv_at hl 2 rfl) ?_
        refine cl_Vi (As := [.int v1, .int v2]) (rest := []) ⟨hx, hb, hml, hown, hts⟩ (c_X6_whereOf l D cI cJ cZ cO mA mAx mAy mAi mAr mAo mAc mAg mAe mAS mAp mx my mi mn mr mo mf mt md mc mk mg mh me mS mp v1 v2 _ hw) (cwV 2 hts gX6_touch_X6_whereOf rfl rfl rfl hd_X6_whereOf ⟨Nat.le_trans (Nat.le_of_ble_eq_true rfl) hRf, Nat.le_trans (Nat.le_of_ble_eq_true rfl) hRl⟩) hK hP hD hS hA [0, 1, 2, 3, 4, 5, 6, 7, 8, 9, 10] [] rfl (by decide) rfl (by decide) (by decide) 0 5 rfl rfl rfl hl.1 rfl (Nat.le_of_ble_eq_true rfl) dX6_touch_33 ⟨Nat.zero_le _, Nat.zero_le _⟩ (fun r33 u H locs hw hP hD hS => ?_)
        obtain ⟨mr_33, mo_33, mf_33, mt_33, md_33, mc_33, mk_33, mg_33, mh_33⟩ := u
        try dsimp only at hw
        have hP : va_P D vwCl [(mA, .inr (5, [.ref mAx, .ref mAy, .ref mAi, .int mn, .ref mAr, .ref mAo, .int mf_33, .int mt_33, .int md_33, .ref mAc, .int mk_33, .ref mAg, .int mh_33, .ref mAe, .ref mAS, .ref mAp])), (mAx, .inl (cI, 32, .inl mx)), (mAy, .inl (cI, 32, .inl my)), (mAi, .inl (cZ, 32, .inl mi)), (mAr, .inl (cI, 32, .inl mr_33)), (mAo, .inl (cI, 32, .inl mo_33)), (mAc, .inl (cI, 34, .inl mc_33)), (mAg, .inl (cI, 34, .inl mg_33)), (mAe, .inl (cI, 128, .inl me)), (mAS, .inl (cJ, 2, .inr (.inl mS))), (mAp, .inl (cZ, 2, .inl mp))] H := hP.sub [0, 1, 2, 3, 4, 5, 6, 7, 8, 9, 10] rfl
        have hD : va_D A [(mA, .inr (5, [.ref mAx, .ref mAy, .ref mAi, .int mn, .ref mAr, .ref mAo, .int mf_33, .int mt_33, .int md_33, .ref mAc, .int mk_33, .ref mAg, .int mh_33, .ref mAe, .ref mAS, .ref mAp])), (mAx, .inl (cI, 32, .inl mx)), (mAy, .inl (cI, 32, .inl my)), (mAi, .inl (cZ, 32, .inl mi)), (mAr, .inl (cI, 32, .inl mr_33)), (mAo, .inl (cI, 32, .inl mo_33)), (mAc, .inl (cI, 34, .inl mc_33)), (mAg, .inl (cI, 34, .inl mg_33)), (mAe, .inl (cI, 128, .inl me)), (mAS, .inl (cJ, 2, .inr (.inl mS))), (mAp, .inl (cZ, 2, .inl mp))] := hD.sub [0, 1, 2, 3, 4, 5, 6, 7, 8, 9, 10] (by decide) rfl
        obtain ⟨hwA, hwB⟩ := hw
        refine lv_if_eq (tgt := 42) hx hb dX6_touch_36 (by decide) (fun cb => ?_) (fun cb => ?_)
        · have hw := hwA cb
          refine lv_bipush (v := (-6)) hx hb dX6_touch_42 (by decide) ?_
          refine lv_istore (lv' := [(4, .int (-6)), (0, .ref mA), (1, .int v1), (2, .int v2), (3, .int v3)]) hx hb dX6_touch_44 hl (by decide) rfl (fun ls hl => ?_)
          refine lv_iconst (v := 0) hx hb dX6_touch_46 (by decide) ?_
          refine lv_istore (lv' := [(5, .int 0), (4, .int (-6)), (0, .ref mA), (1, .int v1), (2, .int v2), (3, .int v3)]) hx hb dX6_touch_47 hl (by decide) rfl (fun ls hl => ?_)
          obtain ⟨k, hw⟩ := hw
          exact N49 mr_33 mo_33 mf_33 mt_33 md_33 mc_33 mk_33 mg_33 mh_33 k (-6) 0 hw _ _ _ hP hD hS (lv_sub hl [2, 3, 4, 5, 1, 0] rfl)
        · have hw := hwB cb
          refine lv_bipush (v := (-3)) hx hb dX6_touch_39 (by decide) ?_
          exact ret _ _ _ _ (-3) (mr_33, mo_33, mf_33, mt_33, md_33, mc_33, mk_33, mg_33, mh_33) (vp_nar_int _) hw hP hD hS dX6_touch_41
      · have hw := hwB cb
        refine lv_bipush (v := (-5)) hx hb dX6_touch_27 (by decide) ?_
        exact ret _ _ _ _ (-5) (mr, mo, mf, mt, md, mc, mk, mg, mh) (vp_nar_int _) hw hP hD hS dX6_touch_29
    · have hw := hwB cb
      refine lv_bipush (v := (-2)) hx hb dX6_touch_17 (by decide) ?_
      exact ret _ _ _ _ (-2) (mr, mo, mf, mt, md, mc, mk, mg, mh) (vp_nar_int _) hw hP hD hS dX6_touch_19
theorem in_X6_area_X6 : ∀ w ∈ wsX60, w ∈ wsX6_area := fun _ h => List.mem_cons_of_mem _ (List.mem_append_right _ h)
theorem hd_X6_area : yX6_area.cls = RX6 ∧ yX6_area.cls ≠ "java/lang/invoke/MethodHandle" ∧ yX6_area.cls ≠ "java/lang/invoke/VarHandle" ∧ (parseMethodDescriptor yX6_area.desc).map (fun d => d.parameters.length) = some 0 := by decide +kernel
set_option maxHeartbeats 8000000 in
set_option maxRecDepth 100000 in
theorem c_X6_area (l : Launch) (D : va_G) (cI cJ cZ cO : ClassId) (mA mAx mAy mAi mAr mAo mAc mAg mAe mAS mAp : Nat) (mx : Nat → Int32) (my : Nat → Int32) (mi : Nat → Int32) (mn : Int32) (mr : Nat → Int32) (mo : Nat → Int32) (mf : Int32) (mt : Int32) (md : Int32) (mc : Nat → Int32) (mk : Int32) (mg : Nat → Int32) (mh : Int32) (me : Nat → Int32) (mS : Nat → Int64) (mp : Nat → Int32)  (K : Int64 → (Nat → Int32) → (Nat → Int32) → Int32 → Int32 → Int32 → (Nat → Int32) → Int32 → (Nat → Int32) → Int32 → Prop) (hw : wp_X6_area mx my mi mn mr mo mf mt md mc mk mg mh K) : Cl l D (tys4 cI cJ cZ cO) yX6_area wsX6_area { frames := 4, cells := 0, slots := 0, locals := 99 } [.ref mA] [(mA, .inr (5, [.ref mAx, .ref mAy, .ref mAi, .int mn, .ref mAr, .ref mAo, .int mf, .int mt, .int md, .ref mAc, .int mk, .ref mAg, .int mh, .ref mAe, .ref mAS, .ref mAp])), (mAx, .inl (cI, 32, .inl mx)), (mAy, .inl (cI, 32, .inl my)), (mAi, .inl (cZ, 32, .inl mi)), (mAr, .inl (cI, 32, .inl mr)), (mAo, .inl (cI, 32, .inl mo)), (mAc, .inl (cI, 34, .inl mc)), (mAg, .inl (cI, 34, .inl mg)), (mAe, .inl (cI, 128, .inl me)), (mAS, .inl (cJ, 2, .inr (.inl mS))), (mAp, .inl (cZ, 2, .inl mp))] (fun (r : Int64) (u : (Nat → Int32) × (Nat → Int32) × (Int32) × (Int32) × (Int32) × (Nat → Int32) × (Int32) × (Nat → Int32) × (Int32)) => K r u.1 u.2.1 u.2.2.1 u.2.2.2.1 u.2.2.2.2.1 u.2.2.2.2.2.1 u.2.2.2.2.2.2.1 u.2.2.2.2.2.2.2.1 u.2.2.2.2.2.2.2.2) (fun u => [(mA, .inr (5, [.ref mAx, .ref mAy, .ref mAi, .int mn, .ref mAr, .ref mAo, .int u.2.2.1, .int u.2.2.2.1, .int u.2.2.2.2.1, .ref mAc, .int u.2.2.2.2.2.2.1, .ref mAg, .int u.2.2.2.2.2.2.2.2, .ref mAe, .ref mAS, .ref mAp])), (mAx, .inl (cI, 32, .inl mx)), (mAy, .inl (cI, 32, .inl my)), (mAi, .inl (cZ, 32, .inl mi)), (mAr, .inl (cI, 32, .inl u.1)), (mAo, .inl (cI, 32, .inl u.2.1)), (mAc, .inl (cI, 34, .inl u.2.2.2.2.2.1)), (mAg, .inl (cI, 34, .inl u.2.2.2.2.2.2.2.1)), (mAe, .inl (cI, 128, .inl me)), (mAS, .inl (cJ, 2, .inr (.inl mS))), (mAp, .inl (cZ, 2, .inl mp))]) := by
  refine mt_l (cc := cX6_area) (maxL := 4) (by decide) rfl (Nat.le_of_ble_eq_true rfl) ?_
  intro p e s m args below meth c Q A R ls hRf hRl hx hb hml hown hts hK hA hP hD hS hl ret
  have hown : s.vm.findClass RX6 = some m.cls := hown
  have hl : lv_has ls 4 [(0, .ref mA)] := hl
  have N8 : ∀ (mr : Nat → Int32) (mo : Nat → Int32) (mf : Int32) (mt : Int32) (md : Int32) (mc : Nat → Int32) (mk : Int32) (mg : Nat → Int32) (mh : Int32) (k : Nat) (v1 : Int64) (v3 : Int32), wp_X6_area_8 mx my mi mn K  mr mo mf mt md mc mk mg mh k v1 v3 → ∀ (H : Heap) (locs : List Loc) (ls : Array Slot), va_P D vwCl [(mA, .inr (5, [.ref mAx, .ref mAy, .ref mAi, .int mn, .ref mAr, .ref mAo, .int mf, .int mt, .int md, .ref mAc, .int mk, .ref mAg, .int mh, .ref mAe, .ref mAS, .ref mAp])), (mAx, .inl (cI, 32, .inl mx)), (mAy, .inl (cI, 32, .inl my)), (mAi, .inl (cZ, 32, .inl mi)), (mAr, .inl (cI, 32, .inl mr)), (mAo, .inl (cI, 32, .inl mo)), (mAc, .inl (cI, 34, .inl mc)), (mAg, .inl (cI, 34, .inl mg)), (mAe, .inl (cI, 128, .inl me)), (mAS, .inl (cJ, 2, .inr (.inl mS))), (mAp, .inl (cZ, 2, .inl mp))] H → va_D A [(mA, .inr (5, [.ref mAx, .ref mAy, .ref mAi, .int mn, .ref mAr, .ref mAo, .int mf, .int mt, .int md, .ref mAc, .int mk, .ref mAg, .int mh, .ref mAe, .ref mAS, .ref mAp])), (mAx, .inl (cI, 32, .inl mx)), (mAy, .inl (cI, 32, .inl my)), (mAi, .inl (cZ, 32, .inl mi)), (mAr, .inl (cI, 32, .inl mr)), (mAo, .inl (cI, 32, .inl mo)), (mAc, .inl (cI, 34, .inl mc)), (mAg, .inl (cI, 34, .inl mg)), (mAe, .inl (cI, 128, .inl me)), (mAS, .inl (cJ, 2, .inr (.inl mS))), (mAp, .inl (cZ, 2, .inl mp))] → va_S A s.heap H locs → lv_has ls 4 [(0, .ref mA), (1, .long v1), (3, .int v3)] → W p l e R s m args below meth c H locs 0 0 Q (F0 m 8 ls []) := by
    intro mr mo mf mt md mc mk mg mh
    intro k
    induction k with
    | zero => intro v1 v3 hw; exact False.elim hw
    | succ k ih8 =>
      intro v1 v3 hw H locs ls hP hD hS hl
      have hw : wp_X6_area_8b mx my mi mn K (wp_X6_area_8 mx my mi mn K  mr mo mf mt md mc mk mg mh k)  mr mo mf mt md mc mk mg mh v1 v3 := hw
      unfold wp_X6_area_8b at hw
      generalize wp_X6_area_8 mx my mi mn K  mr mo mf mt md mc mk mg mh k = L8 at hw ih8
      refine lv_iload_n hx hb dX6_area_8 rfl (lv_at hl 2 rfl) ?_
      refine lv_iconst (v := 1) hx hb dX6_area_9 (by decide) ?_
      refine lv_iadd hx hb dX6_area_10 ?_
      refine lv_aload_n hx hb dX6_area_11 rfl (lv_at hl 0 rfl) ?_
      refine va_get (D := D) (ci := 5) (v := .int mh) (C := RX6) (T := TX6) (N := 16) hx hb hts in_X6_area_X6 hown hK hP 0 rfl rfl 12 (by decide) (hts (.fieldLink RX6 114 "LiveHullModel" "rings" "I") (List.mem_of_getElem? (i := 1) rfl)) (fun _ h9 => h9) rfl dX6_area_12 ?_
      obtain ⟨hwA, hwB⟩ := hw
      refine lv_icmp_ge (tgt := 51) hx hb dX6_area_15 (by decide) (fun cb => ?_) (fun cb => ?_)
      · have hw := hwA cb
        refine lv_lload_n hx hb dX6_area_51 rfl (lv_at hl 1 rfl) ?_
        exact ret _ _ _ _ v1 (mr, mo, mf, mt, md, mc, mk, mg, mh) hw hP hD hS dX6_area_52
      · have hw := hwB cb
        refine lv_lload_n hx hb dX6_area_18 rfl (lv_at hl 1 rfl) ?_
        refine lv_aload_n hx hb dX6_area_19 rfl (lv_at hl 0 rfl) ?_
        refine lv_aload_n hx hb dX6_area_20 rfl (lv_at hl 0 rfl) ?_
        refine va_get (D := D) (ci := 5) (v := .ref mAg) (C := RX6) (T := TX6) (N := 16) hx hb hts in_X6_area_X6 hown hK hP 0 rfl rfl 11 (by decide) (hts (.fieldLink RX6 29 "LiveHullModel" "ring" "[I") (List.mem_of_getElem? (i := 2) rfl)) (fun _ h9 => h9) rfl dX6_area_21 ?_
        refine lv_iconst (v := 0) hx hb dX6_area_24 (by decide) ?_
        obtain ⟨hi, hw⟩ := hw
        refine va_iald hx hb hK hP 7 0 rfl rfl hi dX6_area_25 ?_
        refine lv_aload_n hx hb dX6_area_26 rfl (lv_at hl 0 rfl) ?_
        refine va_get (D := D) (ci := 5) (v := .ref mAg) (C := RX6) (T := TX6) (N := 16) hx hb hts in_X6_area_X6 hown hK hP 0 rfl rfl 11 (by decide) (hts (.fieldLink RX6 29 "LiveHullModel" "ring" "[I") (List.mem_of_getElem? (i := 2) rfl)) (fun _ h9 => h9) rfl dX6_area_27 ?_
        refine lv_iload_n hx hb dX6_area_30 rfl (lv_at hl 2 rfl) ?_
        obtain ⟨hi, hw⟩ := hw
        refine va_iald hx hb hK hP 7 0 rfl rfl hi dX6_area_31 ?_
        refine lv_aload_n hx hb dX6_area_32 rfl (lv_at hl 0 rfl) ?_
        refine va_get (D := D) (ci := 5) (v := .ref mAg) (C := RX6) (T := TX6) (N := 16) hx hb hts in_X6_area_X6 hown hK hP 0 rfl rfl 11 (by decide) (hts (.fieldLink RX6 29 "LiveHullModel" "ring" "[I") (List.mem_of_getElem? (i := 2) rfl)) (fun _ h9 => h9) rfl dX6_area_33 ?_
        refine lv_iload_n hx hb dX6_area_36 rfl (lv_at hl 2 rfl) ?_
        refine lv_iconst (v := 1) hx hb dX6_area_37 (by decide) ?_
        refine lv_iadd hx hb dX6_area_38 ?_
        obtain ⟨hi, hw⟩ := hw
        refine va_iald hx hb hK hP 7 0 rfl rfl hi dX6_area_39 ?_
        refine cl_Vl (As := [.int (mg (0 : Int32).toNatClampNeg), .int (mg v3.toNatClampNeg), .int (mg (v3 + 1).toNatClampNeg)]) (rest := [.long v1]) ⟨hx, hb, hml, hown, hts⟩ (c_X6_bend l D cI cJ cZ cO mA mAx mAy mAi mAr mAo mAc mAg mAe mAS mAp mx my mi mn mr mo mf mt md mc mk mg mh me mS mp (mg (0 : Int32).toNatClampNeg) (mg v3.toNatClampNeg) (mg (v3 + 1).toNatClampNeg) _ hw) (cwV 3 hts gX6_area_X6_bend rfl rfl rfl hd_X6_bend ⟨Nat.le_trans (Nat.le_of_ble_eq_true rfl) hRf, Nat.le_trans (Nat.le_of_ble_eq_true rfl) hRl⟩) hK hP hD hS hA [0, 1, 2, 3, 4, 5, 6, 7, 8, 9, 10] [] rfl (by decide) rfl (by decide) (by decide) 0 5 rfl rfl rfl hl.1 rfl (Nat.le_of_ble_eq_true rfl) dX6_area_40 ⟨Nat.zero_le _, Nat.zero_le _⟩ (fun r40 _u H locs hw hP hD hS => ?_)
        try dsimp only at hw
        have hP : va_P D vwCl [(mA, .inr (5, [.ref mAx, .ref mAy, .ref mAi, .int mn, .ref mAr, .ref mAo, .int mf, .int mt, .int md, .ref mAc, .int mk, .ref mAg, .int mh, .ref mAe, .ref mAS, .ref mAp])), (mAx, .inl (cI, 32, .inl mx)), (mAy, .inl (cI, 32, .inl my)), (mAi, .inl (cZ, 32, .inl mi)), (mAr, .inl (cI, 32, .inl mr)), (mAo, .inl (cI, 32, .inl mo)), (mAc, .inl (cI, 34, .inl mc)), (mAg, .inl (cI, 34, .inl mg)), (mAe, .inl (cI, 128, .inl me)), (mAS, .inl (cJ, 2, .inr (.inl mS))), (mAp, .inl (cZ, 2, .inl mp))] H := hP.sub [0, 1, 2, 3, 4, 5, 6, 7, 8, 9, 10] rfl
        have hD : va_D A [(mA, .inr (5, [.ref mAx, .ref mAy, .ref mAi, .int mn, .ref mAr, .ref mAo, .int mf, .int mt, .int md, .ref mAc, .int mk, .ref mAg, .int mh, .ref mAe, .ref mAS, .ref mAp])), (mAx, .inl (cI, 32, .inl mx)), (mAy, .inl (cI, 32, .inl my)), (mAi, .inl (cZ, 32, .inl mi)), (mAr, .inl (cI, 32, .inl mr)), (mAo, .inl (cI, 32, .inl mo)), (mAc, .inl (cI, 34, .inl mc)), (mAg, .inl (cI, 34, .inl mg)), (mAe, .inl (cI, 128, .inl me)), (mAS, .inl (cJ, 2, .inr (.inl mS))), (mAp, .inl (cZ, 2, .inl mp))] := hD.sub [0, 1, 2, 3, 4, 5, 6, 7, 8, 9, 10] (by decide) rfl
        refine lv_ladd hx hb dX6_area_43 ?_
        refine lv_lstore_n (lv' := [(1, .long (v1 + r40)), (0, .ref mA), (3, .int v3)]) hx hb dX6_area_44 rfl hl (by decide) rfl (fun ls hl => ?_)
        refine lv_iinc (v := (v3 + 1)) (lv' := [(3, .int (v3 + 1)), (1, .long (v1 + r40)), (0, .ref mA)]) hx hb dX6_area_45 hl (k := 2) rfl rfl (by decide) rfl (fun ls hl => ?_)
        refine lv_goto (tgt := 8) hx hb dX6_area_48 (by decide) ?_
        exact ih8 (v1 + r40) (v3 + 1) hw _ _ _ hP hD hS (lv_sub hl [2, 1, 0] rfl)
  unfold wp_X6_area at hw
  refine lv_aload_n hx hb dX6_area_0 rfl (lv_at hl 0 rfl) ?_
  refine cl_Vv (As := []) (rest := []) ⟨hx, hb, hml, hown, hts⟩ (c_X6_layRound l D cI cJ cZ cO mA mAx mAy mAi mAr mAo mAc mAg mAe mAS mAp mx my mi mn mr mo mf mt md mc mk mg mh me mS mp  _ hw) (cwV 0 hts gX6_area_X6_layRound rfl rfl rfl hd_X6_layRound ⟨Nat.le_trans (Nat.le_of_ble_eq_true rfl) hRf, Nat.le_trans (Nat.le_of_ble_eq_true rfl) hRl⟩) hK hP hD hS hA [0, 1, 2, 3, 4, 5, 6, 7, 8, 9, 10] [] rfl (by decide) rfl (by decide) (by decide) 0 5 rfl rfl rfl hl.1 rfl (Nat.le_of_ble_eq_true rfl) dX6_area_1 ⟨Nat.zero_le _, Nat.zero_le _⟩ (fun u H locs hw hP hD hS => ?_)
  obtain ⟨mr_1, mo_1, mf_1, mt_1, md_1, mc_1, mk_1, mg_1, mh_1⟩ := u
  try dsimp only at hw
  have hP : va_P D vwCl [(mA, .inr (5, [.ref mAx, .ref mAy, .ref mAi, .int mn, .ref mAr, .ref mAo, .int mf_1, .int mt_1, .int md_1, .ref mAc, .int mk_1, .ref mAg, .int mh_1, .ref mAe, .ref mAS, .ref mAp])), (mAx, .inl (cI, 32, .inl mx)), (mAy, .inl (cI, 32, .inl my)), (mAi, .inl (cZ, 32, .inl mi)), (mAr, .inl (cI, 32, .inl mr_1)), (mAo, .inl (cI, 32, .inl mo_1)), (mAc, .inl (cI, 34, .inl mc_1)), (mAg, .inl (cI, 34, .inl mg_1)), (mAe, .inl (cI, 128, .inl me)), (mAS, .inl (cJ, 2, .inr (.inl mS))), (mAp, .inl (cZ, 2, .inl mp))] H := hP.sub [0, 1, 2, 3, 4, 5, 6, 7, 8, 9, 10] rfl
  have hD : va_D A [(mA, .inr (5, [.ref mAx, .ref mAy, .ref mAi, .int mn, .ref mAr, .ref mAo, .int mf_1, .int mt_1, .int md_1, .ref mAc, .int mk_1, .ref mAg, .int mh_1, .ref mAe, .ref mAS, .ref mAp])), (mAx, .inl (cI, 32, .inl mx)), (mAy, .inl (cI, 32, .inl my)), (mAi, .inl (cZ, 32, .inl mi)), (mAr, .inl (cI, 32, .inl mr_1)), (mAo, .inl (cI, 32, .inl mo_1)), (mAc, .inl (cI, 34, .inl mc_1)), (mAg, .inl (cI, 34, .inl mg_1)), (mAe, .inl (cI, 128, .inl me)), (mAS, .inl (cJ, 2, .inr (.inl mS))), (mAp, .inl (cZ, 2, .inl mp))] := hD.sub [0, 1, 2, 3, 4, 5, 6, 7, 8, 9, 10] (by decide) rfl
  refine lv_lconst (v := 0) hx hb dX6_area_4 (by decide) ?_
  refine lv_lstore_n (lv' := [(1, .long 0), (0, .ref mA)]) hx hb dX6_area_5 rfl hl (by decide) rfl (fun ls hl => ?_)
  refine lv_iconst (v := 1) hx hb dX6_area_6 (by decide) ?_
  refine lv_istore_n (lv' := [(3, .int 1), (1, .long 0), (0, .ref mA)]) hx hb dX6_area_7 rfl hl (by decide) rfl (fun ls hl => ?_)
  obtain ⟨k, hw⟩ := hw
  exact N8 mr_1 mo_1 mf_1 mt_1 md_1 mc_1 mk_1 mg_1 mh_1 k 0 1 hw _ _ _ hP hD hS (lv_sub hl [2, 1, 0] rfl)
theorem in_X6_image_X6 : ∀ w ∈ wsX60, w ∈ wsX6_image := fun _ h => List.mem_cons_of_mem _ (List.mem_append_right _ h)
theorem hd_X6_image : yX6_image.cls = RX6 ∧ yX6_image.cls ≠ "java/lang/invoke/MethodHandle" ∧ yX6_image.cls ≠ "java/lang/invoke/VarHandle" ∧ (parseMethodDescriptor yX6_image.desc).map (fun d => d.parameters.length) = some 1 := by decide +kernel
set_option maxHeartbeats 8000000 in
set_option maxRecDepth 100000 in
theorem c_X6_image (l : Launch) (D : va_G) (cI cJ cZ cO : ClassId) (mA mAx mAy mAi mAr mAo mAc mAg mAe mAS mAp : Nat) (mx : Nat → Int32) (my : Nat → Int32) (mi : Nat → Int32) (mn : Int32) (mr : Nat → Int32) (mo : Nat → Int32) (mf : Int32) (mt : Int32) (md : Int32) (mc : Nat → Int32) (mk : Int32) (mg : Nat → Int32) (mh : Int32) (me : Nat → Int32) (mS : Nat → Int64) (mp : Nat → Int32) (v1 : Int32) (K : Int32 → (Nat → Int32) → (Nat → Int64) → (Nat → Int32) → Prop) (hw : wp_X6_image mx my mi me mS mp v1 K) : Ci l D (tys4 cI cJ cZ cO) yX6_image wsX6_image { frames := 1, cells := 0, slots := 0, locals := 22 } [.ref mA, .int v1] [(mA, .inr (5, [.ref mAx, .ref mAy, .ref mAi, .int mn, .ref mAr, .ref mAo, .int mf, .int mt, .int md, .ref mAc, .int mk, .ref mAg, .int mh, .ref mAe, .ref mAS, .ref mAp])), (mAx, .inl (cI, 32, .inl mx)), (mAy, .inl (cI, 32, .inl my)), (mAi, .inl (cZ, 32, .inl mi)), (mAr, .inl (cI, 32, .inl mr)), (mAo, .inl (cI, 32, .inl mo)), (mAc, .inl (cI, 34, .inl mc)), (mAg, .inl (cI, 34, .inl mg)), (mAe, .inl (cI, 128, .inl me)), (mAS, .inl (cJ, 2, .inr (.inl mS))), (mAp, .inl (cZ, 2, .inl mp))] (fun (r : Int32) (u : (Nat → Int32) × (Nat → Int64) × (Nat → Int32)) => K r u.1 u.2.1 u.2.2) (fun u => [(mA, .inr (5, [.ref mAx, .ref mAy, .ref mAi, .int mn, .ref mAr, .ref mAo, .int mf, .int mt, .int md, .ref mAc, .int mk, .ref mAg, .int mh, .ref mAe, .ref mAS, .ref mAp])), (mAx, .inl (cI, 32, .inl mx)), (mAy, .inl (cI, 32, .inl my)), (mAi, .inl (cZ, 32, .inl mi)), (mAr, .inl (cI, 32, .inl mr)), (mAo, .inl (cI, 32, .inl mo)), (mAc, .inl (cI, 34, .inl mc)), (mAg, .inl (cI, 34, .inl mg)), (mAe, .inl (cI, 128, .inl u.1)), (mAS, .inl (cJ, 2, .inr (.inl u.2.1))), (mAp, .inl (cZ, 2, .inl u.2.2))]) := by
  refine mt_i (cc := cX6_image) (maxL := 3) (rt := .int) (by decide) rfl (Nat.le_of_ble_eq_true rfl) ?_
  intro p e s m args below meth c Q A R ls hRf hRl hx hb hml hown hts hK hA hP hD hS hl ret
  have hown : s.vm.findClass RX6 = some m.cls := hown
  have hl : lv_has ls 3 [(0, .ref mA), (1, .int v1)] := hl
  have N21 : ∀ (mp : Nat → Int32) (k : Nat) (me : Nat → Int32) (mS : Nat → Int64) (v2 : Int32), wp_X6_image_21 mx my mi v1 K  mp k me mS v2 → ∀ (H : Heap) (locs : List Loc) (ls : Array Slot), va_P D vwCl [(mA, .inr (5, [.ref mAx, .ref mAy, .ref mAi, .int mn, .ref mAr, .ref mAo, .int mf, .int mt, .int md, .ref mAc, .int mk, .ref mAg, .int mh, .ref mAe, .ref mAS, .ref mAp])), (mAx, .inl (cI, 32, .inl mx)), (mAy, .inl (cI, 32, .inl my)), (mAi, .inl (cZ, 32, .inl mi)), (mAr, .inl (cI, 32, .inl mr)), (mAo, .inl (cI, 32, .inl mo)), (mAc, .inl (cI, 34, .inl mc)), (mAg, .inl (cI, 34, .inl mg)), (mAe, .inl (cI, 128, .inl me)), (mAS, .inl (cJ, 2, .inr (.inl mS))), (mAp, .inl (cZ, 2, .inl mp))] H → va_D A [(mA, .inr (5, [.ref mAx, .ref mAy, .ref mAi, .int mn, .ref mAr, .ref mAo, .int mf, .int mt, .int md, .ref mAc, .int mk, .ref mAg, .int mh, .ref mAe, .ref mAS, .ref mAp])), (mAx, .inl (cI, 32, .inl mx)), (mAy, .inl (cI, 32, .inl my)), (mAi, .inl (cZ, 32, .inl mi)), (mAr, .inl (cI, 32, .inl mr)), (mAo, .inl (cI, 32, .inl mo)), (mAc, .inl (cI, 34, .inl mc)), (mAg, .inl (cI, 34, .inl mg)), (mAe, .inl (cI, 128, .inl me)), (mAS, .inl (cJ, 2, .inr (.inl mS))), (mAp, .inl (cZ, 2, .inl mp))] → va_S A s.heap H locs → lv_has ls 3 [(0, .ref mA), (1, .int v1), (2, .int v2)] → W p l e R s m args below meth c H locs 0 0 Q (F0 m 21 ls []) := by
    intro mp
    intro k
    induction k with
    | zero => intro me mS v2 hw; exact False.elim hw
    | succ k ih21 =>
      intro me mS v2 hw H locs ls hP hD hS hl
      have hw : wp_X6_image_21b mx my mi v1 K (wp_X6_image_21 mx my mi v1 K  mp k)  mp me mS v2 := hw
      unfold wp_X6_image_21b at hw
      generalize wp_X6_image_21 mx my mi v1 K  mp k = L21 at hw ih21
      refine lv_iload_n hx hb dX6_image_21 rfl (lv_at hl 2 rfl) ?_
      refine lv_bipush (v := 32) hx hb dX6_image_22 (by decide) ?_
      obtain ⟨hwA, hwB⟩ := hw
      refine lv_icmp_ge (tgt := 95) hx hb dX6_image_24 (by decide) (fun cb => ?_) (fun cb => ?_)
      · have hw := hwA cb
        refine lv_aload_n hx hb dX6_image_95 rfl (lv_at hl 0 rfl) ?_
        refine va_get (D := D) (ci := 5) (v := .ref mAp) (C := RX6) (T := TX6) (N := 16) hx hb hts in_X6_image_X6 hown hK hP 0 rfl rfl 15 (by decide) (hts (.fieldLink RX6 39 "LiveHullModel" "isKept" "[Z") (List.mem_of_getElem? (i := 6) rfl)) (fun _ h9 => h9) rfl dX6_image_96 ?_
        refine lv_iload_n hx hb dX6_image_99 rfl (lv_at hl 1 rfl) ?_
        refine lv_iconst (v := 1) hx hb dX6_image_100 (by decide) ?_
        obtain ⟨hi, hw⟩ := hw
        refine va_zast hx hb hK hP hD hS 10 2 rfl rfl hi dX6_image_101 (fun H locs hP hD hS => ?_)
        have hP : va_P D vwCl [(mA, .inr (5, [.ref mAx, .ref mAy, .ref mAi, .int mn, .ref mAr, .ref mAo, .int mf, .int mt, .int md, .ref mAc, .int mk, .ref mAg, .int mh, .ref mAe, .ref mAS, .ref mAp])), (mAx, .inl (cI, 32, .inl mx)), (mAy, .inl (cI, 32, .inl my)), (mAi, .inl (cZ, 32, .inl mi)), (mAr, .inl (cI, 32, .inl mr)), (mAo, .inl (cI, 32, .inl mo)), (mAc, .inl (cI, 34, .inl mc)), (mAg, .inl (cI, 34, .inl mg)), (mAe, .inl (cI, 128, .inl me)), (mAS, .inl (cJ, 2, .inr (.inl mS))), (mAp, .inl (cZ, 2, .inl (upd mp v1.toNatClampNeg (vp_nar .boolean 1))))] H := hP
        have hD : va_D A [(mA, .inr (5, [.ref mAx, .ref mAy, .ref mAi, .int mn, .ref mAr, .ref mAo, .int mf, .int mt, .int md, .ref mAc, .int mk, .ref mAg, .int mh, .ref mAe, .ref mAS, .ref mAp])), (mAx, .inl (cI, 32, .inl mx)), (mAy, .inl (cI, 32, .inl my)), (mAi, .inl (cZ, 32, .inl mi)), (mAr, .inl (cI, 32, .inl mr)), (mAo, .inl (cI, 32, .inl mo)), (mAc, .inl (cI, 34, .inl mc)), (mAg, .inl (cI, 34, .inl mg)), (mAe, .inl (cI, 128, .inl me)), (mAS, .inl (cJ, 2, .inr (.inl mS))), (mAp, .inl (cZ, 2, .inl (upd mp v1.toNatClampNeg (vp_nar .boolean 1))))] := hD
        refine lv_iconst (v := 1) hx hb dX6_image_102 (by decide) ?_
        exact ret _ _ _ _ 1 (me, mS, (upd mp v1.toNatClampNeg (vp_nar .boolean 1))) (vp_nar_int _) hw hP hD hS dX6_image_103
      · have hw := hwB cb
        refine lv_aload_n hx hb dX6_image_27 rfl (lv_at hl 0 rfl) ?_
        refine va_get (D := D) (ci := 5) (v := .ref mAe) (C := RX6) (T := TX6) (N := 16) hx hb hts in_X6_image_X6 hown hK hP 0 rfl rfl 13 (by decide) (hts (.fieldLink RX6 32 "LiveHullModel" "image" "[I") (List.mem_of_getElem? (i := 2) rfl)) (fun _ h9 => h9) rfl dX6_image_28 ?_
        refine lv_bipush (v := 64) hx hb dX6_image_31 (by decide) ?_
        refine lv_iload_n hx hb dX6_image_33 rfl (lv_at hl 1 rfl) ?_
        refine lv_imul hx hb dX6_image_34 ?_
        refine lv_iload_n hx hb dX6_image_35 rfl (lv_at hl 2 rfl) ?_
        refine lv_iadd hx hb dX6_image_36 ?_
        refine lv_aload_n hx hb dX6_image_37 rfl (lv_at hl 0 rfl) ?_
        refine va_get (D := D) (ci := 5) (v := .ref mAx) (C := RX6) (T := TX6) (N := 16) hx hb hts in_X6_image_X6 hown hK hP 0 rfl rfl 0 (by decide) (hts (.fieldLink RX6 7 "LiveHullModel" "xs" "[I") (List.mem_of_getElem? (i := 3) rfl)) (fun _ h9 => h9) rfl dX6_image_38 ?_
        refine lv_iload_n hx hb dX6_image_41 rfl (lv_at hl 2 rfl) ?_
        obtain ⟨hi, hw⟩ := hw
        refine va_iald hx hb hK hP 1 0 rfl rfl hi dX6_image_42 ?_
        obtain ⟨hi, hw⟩ := hw
        refine va_iast hx hb hK hP hD hS 8 0 rfl rfl hi dX6_image_43 (fun H locs hP hD hS => ?_)
        have hP : va_P D vwCl [(mA, .inr (5, [.ref mAx, .ref mAy, .ref mAi, .int mn, .ref mAr, .ref mAo, .int mf, .int mt, .int md, .ref mAc, .int mk, .ref mAg, .int mh, .ref mAe, .ref mAS, .ref mAp])), (mAx, .inl (cI, 32, .inl mx)), (mAy, .inl (cI, 32, .inl my)), (mAi, .inl (cZ, 32, .inl mi)), (mAr, .inl (cI, 32, .inl mr)), (mAo, .inl (cI, 32, .inl mo)), (mAc, .inl (cI, 34, .inl mc)), (mAg, .inl (cI, 34, .inl mg)), (mAe, .inl (cI, 128, .inl (upd me (((64 : Int32) * v1) + v2).toNatClampNeg (mx v2.toNatClampNeg)))), (mAS, .inl (cJ, 2, .inr (.inl mS))), (mAp, .inl (cZ, 2, .inl mp))] H := hP
        have hD : va_D A [(mA, .inr (5, [.ref mAx, .ref mAy, .ref mAi, .int mn, .ref mAr, .ref mAo, .int mf, .int mt, .int md, .ref mAc, .int mk, .ref mAg, .int mh, .ref mAe, .ref mAS, .ref mAp])), (mAx, .inl (cI, 32, .inl mx)), (mAy, .inl (cI, 32, .inl my)), (mAi, .inl (cZ, 32, .inl mi)), (mAr, .inl (cI, 32, .inl mr)), (mAo, .inl (cI, 32, .inl mo)), (mAc, .inl (cI, 34, .inl mc)), (mAg, .inl (cI, 34, .inl mg)), (mAe, .inl (cI, 128, .inl (upd me (((64 : Int32) * v1) + v2).toNatClampNeg (mx v2.toNatClampNeg)))), (mAS, .inl (cJ, 2, .inr (.inl mS))), (mAp, .inl (cZ, 2, .inl mp))] := hD
        refine lv_aload_n hx hb dX6_image_44 rfl (lv_at hl 0 rfl) ?_
        refine va_get (D := D) (ci := 5) (v := .ref mAe) (C := RX6) (T := TX6) (N := 16) hx hb hts in_X6_image_X6 hown hK hP 0 rfl rfl 13 (by decide) (hts (.fieldLink RX6 32 "LiveHullModel" "image" "[I") (List.mem_of_getElem? (i := 2) rfl)) (fun _ h9 => h9) rfl dX6_image_45 ?_
        refine lv_bipush (v := 64) hx hb dX6_image_48 (by decide) ?_
        refine lv_iload_n hx hb dX6_image_50 rfl (lv_at hl 1 rfl) ?_
        refine lv_imul hx hb dX6_image_51 ?_
        refine lv_bipush (v := 32) hx hb dX6_image_52 (by decide) ?_
        refine lv_iadd hx hb dX6_image_54 ?_
        refine lv_iload_n hx hb dX6_image_55 rfl (lv_at hl 2 rfl) ?_
        refine lv_iadd hx hb dX6_image_56 ?_
        refine lv_aload_n hx hb dX6_image_57 rfl (lv_at hl 0 rfl) ?_
        refine va_get (D := D) (ci := 5) (v := .ref mAy) (C := RX6) (T := TX6) (N := 16) hx hb hts in_X6_image_X6 hown hK hP 0 rfl rfl 1 (by decide) (hts (.fieldLink RX6 13 "LiveHullModel" "ys" "[I") (List.mem_of_getElem? (i := 4) rfl)) (fun _ h9 => h9) rfl dX6_image_58 ?_
        refine lv_iload_n hx hb dX6_image_61 rfl (lv_at hl 2 rfl) ?_
        obtain ⟨hi, hw⟩ := hw
        refine va_iald hx hb hK hP 2 0 rfl rfl hi dX6_image_62 ?_
        obtain ⟨hi, hw⟩ := hw
        refine va_iast hx hb hK hP hD hS 8 0 rfl rfl hi dX6_image_63 (fun H locs hP hD hS => ?_)
        have hP : va_P D vwCl [(mA, .inr (5, [.ref mAx, .ref mAy, .ref mAi, .int mn, .ref mAr, .ref mAo, .int mf, .int mt, .int md, .ref mAc, .int mk, .ref mAg, .int mh, .ref mAe, .ref mAS, .ref mAp])), (mAx, .inl (cI, 32, .inl mx)), (mAy, .inl (cI, 32, .inl my)), (mAi, .inl (cZ, 32, .inl mi)), (mAr, .inl (cI, 32, .inl mr)), (mAo, .inl (cI, 32, .inl mo)), (mAc, .inl (cI, 34, .inl mc)), (mAg, .inl (cI, 34, .inl mg)), (mAe, .inl (cI, 128, .inl (upd (upd me (((64 : Int32) * v1) + v2).toNatClampNeg (mx v2.toNatClampNeg)) ((((64 : Int32) * v1) + 32) + v2).toNatClampNeg (my v2.toNatClampNeg)))), (mAS, .inl (cJ, 2, .inr (.inl mS))), (mAp, .inl (cZ, 2, .inl mp))] H := hP
        have hD : va_D A [(mA, .inr (5, [.ref mAx, .ref mAy, .ref mAi, .int mn, .ref mAr, .ref mAo, .int mf, .int mt, .int md, .ref mAc, .int mk, .ref mAg, .int mh, .ref mAe, .ref mAS, .ref mAp])), (mAx, .inl (cI, 32, .inl mx)), (mAy, .inl (cI, 32, .inl my)), (mAi, .inl (cZ, 32, .inl mi)), (mAr, .inl (cI, 32, .inl mr)), (mAo, .inl (cI, 32, .inl mo)), (mAc, .inl (cI, 34, .inl mc)), (mAg, .inl (cI, 34, .inl mg)), (mAe, .inl (cI, 128, .inl (upd (upd me (((64 : Int32) * v1) + v2).toNatClampNeg (mx v2.toNatClampNeg)) ((((64 : Int32) * v1) + 32) + v2).toNatClampNeg (my v2.toNatClampNeg)))), (mAS, .inl (cJ, 2, .inr (.inl mS))), (mAp, .inl (cZ, 2, .inl mp))] := hD
        refine lv_aload_n hx hb dX6_image_64 rfl (lv_at hl 0 rfl) ?_
        refine va_get (D := D) (ci := 5) (v := .ref mAS) (C := RX6) (T := TX6) (N := 16) hx hb hts in_X6_image_X6 hown hK hP 0 rfl rfl 14 (by decide) (hts (.fieldLink RX6 35 "LiveHullModel" "imageSet" "[J") (List.mem_of_getElem? (i := 1) rfl)) (fun _ h9 => h9) rfl dX6_image_65 ?_
        refine lv_iload_n hx hb dX6_image_68 rfl (lv_at hl 1 rfl) ?_
        refine lv_dup2_11 hx hb dX6_image_69 rfl rfl ?_
        obtain ⟨hi, hw⟩ := hw
        refine va_lald hx hb hK hP 9 1 rfl rfl hi dX6_image_70 ?_
        refine lv_aload_n hx hb dX6_image_71 rfl (lv_at hl 0 rfl) ?_
        refine va_get (D := D) (ci := 5) (v := .ref mAi) (C := RX6) (T := TX6) (N := 16) hx hb hts in_X6_image_X6 hown hK hP 0 rfl rfl 2 (by decide) (hts (.fieldLink RX6 16 "LiveHullModel" "is" "[Z") (List.mem_of_getElem? (i := 5) rfl)) (fun _ h9 => h9) rfl dX6_image_72 ?_
        refine lv_iload_n hx hb dX6_image_75 rfl (lv_at hl 2 rfl) ?_
        obtain ⟨hi, hw⟩ := hw
        refine va_zald hx hb hK hP 3 2 rfl rfl hi dX6_image_76 ?_
        obtain ⟨hwA, hwB⟩ := hw
        refine lv_if_eq (tgt := 86) hx hb dX6_image_77 (by decide) (fun cb => ?_) (fun cb => ?_)
        · have hw := hwA cb
          refine lv_lconst (v := 0) hx hb dX6_image_86 (by decide) ?_
          refine lv_lor hx hb dX6_image_87 ?_
          obtain ⟨hi, hw⟩ := hw
          refine va_last hx hb hK hP hD hS 9 1 rfl rfl hi dX6_image_88 (fun H locs hP hD hS => ?_)
          have hP : va_P D vwCl [(mA, .inr (5, [.ref mAx, .ref mAy, .ref mAi, .int mn, .ref mAr, .ref mAo, .int mf, .int mt, .int md, .ref mAc, .int mk, .ref mAg, .int mh, .ref mAe, .ref mAS, .ref mAp])), (mAx, .inl (cI, 32, .inl mx)), (mAy, .inl (cI, 32, .inl my)), (mAi, .inl (cZ, 32, .inl mi)), (mAr, .inl (cI, 32, .inl mr)), (mAo, .inl (cI, 32, .inl mo)), (mAc, .inl (cI, 34, .inl mc)), (mAg, .inl (cI, 34, .inl mg)), (mAe, .inl (cI, 128, .inl (upd (upd me (((64 : Int32) * v1) + v2).toNatClampNeg (mx v2.toNatClampNeg)) ((((64 : Int32) * v1) + 32) + v2).toNatClampNeg (my v2.toNatClampNeg)))), (mAS, .inl (cJ, 2, .inr (.inl (vp_updL mS v1.toNatClampNeg ((mS v1.toNatClampNeg) ||| 0))))), (mAp, .inl (cZ, 2, .inl mp))] H := hP
          have hD : va_D A [(mA, .inr (5, [.ref mAx, .ref mAy, .ref mAi, .int mn, .ref mAr, .ref mAo, .int mf, .int mt, .int md, .ref mAc, .int mk, .ref mAg, .int mh, .ref mAe, .ref mAS, .ref mAp])), (mAx, .inl (cI, 32, .inl mx)), (mAy, .inl (cI, 32, .inl my)), (mAi, .inl (cZ, 32, .inl mi)), (mAr, .inl (cI, 32, .inl mr)), (mAo, .inl (cI, 32, .inl mo)), (mAc, .inl (cI, 34, .inl mc)), (mAg, .inl (cI, 34, .inl mg)), (mAe, .inl (cI, 128, .inl (upd (upd me (((64 : Int32) * v1) + v2).toNatClampNeg (mx v2.toNatClampNeg)) ((((64 : Int32) * v1) + 32) + v2).toNatClampNeg (my v2.toNatClampNeg)))), (mAS, .inl (cJ, 2, .inr (.inl (vp_updL mS v1.toNatClampNeg ((mS v1.toNatClampNeg) ||| 0))))), (mAp, .inl (cZ, 2, .inl mp))] := hD
          refine lv_iinc (v := (v2 + 1)) (lv' := [(2, .int (v2 + 1)), (0, .ref mA), (1, .int v1)]) hx hb dX6_image_89 hl (k := 2) rfl rfl (by decide) rfl (fun ls hl => ?_)
          refine lv_goto (tgt := 21) hx hb dX6_image_92 (by decide) ?_
          exact ih21 (upd (upd me (((64 : Int32) * v1) + v2).toNatClampNeg (mx v2.toNatClampNeg)) ((((64 : Int32) * v1) + 32) + v2).toNatClampNeg (my v2.toNatClampNeg)) (vp_updL mS v1.toNatClampNeg ((mS v1.toNatClampNeg) ||| 0)) (v2 + 1) hw _ _ _ hP hD hS (lv_sub hl [1, 2, 0] rfl)
        · have hw := hwB cb
          refine lv_lconst (v := 1) hx hb dX6_image_80 (by decide) ?_
          refine lv_iload_n hx hb dX6_image_81 rfl (lv_at hl 2 rfl) ?_
          refine lv_lshl hx hb dX6_image_82 rfl ?_
          refine lv_goto (tgt := 87) hx hb dX6_image_83 (by decide) ?_
          refine lv_lor hx hb dX6_image_87 ?_
          obtain ⟨hi, hw⟩ := hw
          refine va_last hx hb hK hP hD hS 9 1 rfl rfl hi dX6_image_88 (fun H locs hP hD hS => ?_)
          have hP : va_P D vwCl [(mA, .inr (5, [.ref mAx, .ref mAy, .ref mAi, .int mn, .ref mAr, .ref mAo, .int mf, .int mt, .int md, .ref mAc, .int mk, .ref mAg, .int mh, .ref mAe, .ref mAS, .ref mAp])), (mAx, .inl (cI, 32, .inl mx)), (mAy, .inl (cI, 32, .inl my)), (mAi, .inl (cZ, 32, .inl mi)), (mAr, .inl (cI, 32, .inl mr)), (mAo, .inl (cI, 32, .inl mo)), (mAc, .inl (cI, 34, .inl mc)), (mAg, .inl (cI, 34, .inl mg)), (mAe, .inl (cI, 128, .inl (upd (upd me (((64 : Int32) * v1) + v2).toNatClampNeg (mx v2.toNatClampNeg)) ((((64 : Int32) * v1) + 32) + v2).toNatClampNeg (my v2.toNatClampNeg)))), (mAS, .inl (cJ, 2, .inr (.inl (vp_updL mS v1.toNatClampNeg ((mS v1.toNatClampNeg) ||| ((1 : Int64) <<< (v2.toInt64 &&& 63))))))), (mAp, .inl (cZ, 2, .inl mp))] H := hP
          have hD : va_D A [(mA, .inr (5, [.ref mAx, .ref mAy, .ref mAi, .int mn, .ref mAr, .ref mAo, .int mf, .int mt, .int md, .ref mAc, .int mk, .ref mAg, .int mh, .ref mAe, .ref mAS, .ref mAp])), (mAx, .inl (cI, 32, .inl mx)), (mAy, .inl (cI, 32, .inl my)), (mAi, .inl (cZ, 32, .inl mi)), (mAr, .inl (cI, 32, .inl mr)), (mAo, .inl (cI, 32, .inl mo)), (mAc, .inl (cI, 34, .inl mc)), (mAg, .inl (cI, 34, .inl mg)), (mAe, .inl (cI, 128, .inl (upd (upd me (((64 : Int32) * v1) + v2).toNatClampNeg (mx v2.toNatClampNeg)) ((((64 : Int32) * v1) + 32) + v2).toNatClampNeg (my v2.toNatClampNeg)))), (mAS, .inl (cJ, 2, .inr (.inl (vp_updL mS v1.toNatClampNeg ((mS v1.toNatClampNeg) ||| ((1 : Int64) <<< (v2.toInt64 &&& 63))))))), (mAp, .inl (cZ, 2, .inl mp))] := hD
          refine lv_iinc (v := (v2 + 1)) (lv' := [(2, .int (v2 + 1)), (0, .ref mA), (1, .int v1)]) hx hb dX6_image_89 hl (k := 2) rfl rfl (by decide) rfl (fun ls hl => ?_)
          refine lv_goto (tgt := 21) hx hb dX6_image_92 (by decide) ?_
          exact ih21 (upd (upd me (((64 : Int32) * v1) + v2).toNatClampNeg (mx v2.toNatClampNeg)) ((((64 : Int32) * v1) + 32) + v2).toNatClampNeg (my v2.toNatClampNeg)) (vp_updL mS v1.toNatClampNeg ((mS v1.toNatClampNeg) ||| ((1 : Int64) <<< (v2.toInt64 &&& 63)))) (v2 + 1) hw _ _ _ hP hD hS (lv_sub hl [1, 2, 0] rfl)
  unfold wp_X6_image at hw
  refine lv_iload_n hx hb dX6_image_0 rfl (lv_at hl 1 rfl) ?_
  refine lv_iconst (v := 0) hx hb dX6_image_1 (by decide) ?_
  refine lv_iconst (v := 1) hx hb dX6_image_2 (by decide) ?_
  refine cl_Si (As := [.int v1, .int 0, .int 1]) (rest := []) ⟨hx, hb, hml, hown, hts⟩ (c_X6_in l D cI cJ cZ cO   v1 0 1 _ hw) (va_cwS 3 hts gX6_image_X6_in rfl rfl rfl hd_X6_in.2 ⟨Nat.le_trans (Nat.le_of_ble_eq_true rfl) hRf, Nat.le_trans (Nat.le_of_ble_eq_true rfl) hRl⟩) hK hP hD hS hA [] [0, 1, 2, 3, 4, 5, 6, 7, 8, 9, 10] rfl (by decide) rfl (by decide) (by decide) rfl hl.1 rfl (Nat.le_of_ble_eq_true rfl) dX6_image_3 ⟨Nat.zero_le _, Nat.zero_le _⟩ (fun r3 _u H locs hw hP hD hS => ?_)
  try dsimp only at hw
  have hP : va_P D vwCl [(mA, .inr (5, [.ref mAx, .ref mAy, .ref mAi, .int mn, .ref mAr, .ref mAo, .int mf, .int mt, .int md, .ref mAc, .int mk, .ref mAg, .int mh, .ref mAe, .ref mAS, .ref mAp])), (mAx, .inl (cI, 32, .inl mx)), (mAy, .inl (cI, 32, .inl my)), (mAi, .inl (cZ, 32, .inl mi)), (mAr, .inl (cI, 32, .inl mr)), (mAo, .inl (cI, 32, .inl mo)), (mAc, .inl (cI, 34, .inl mc)), (mAg, .inl (cI, 34, .inl mg)), (mAe, .inl (cI, 128, .inl me)), (mAS, .inl (cJ, 2, .inr (.inl mS))), (mAp, .inl (cZ, 2, .inl mp))] H := hP.sub [0, 1, 2, 3, 4, 5, 6, 7, 8, 9, 10] rfl
  have hD : va_D A [(mA, .inr (5, [.ref mAx, .ref mAy, .ref mAi, .int mn, .ref mAr, .ref mAo, .int mf, .int mt, .int md, .ref mAc, .int mk, .ref mAg, .int mh, .ref mAe, .ref mAS, .ref mAp])), (mAx, .inl (cI, 32, .inl mx)), (mAy, .inl (cI, 32, .inl my)), (mAi, .inl (cZ, 32, .inl mi)), (mAr, .inl (cI, 32, .inl mr)), (mAo, .inl (cI, 32, .inl mo)), (mAc, .inl (cI, 34, .inl mc)), (mAg, .inl (cI, 34, .inl mg)), (mAe, .inl (cI, 128, .inl me)), (mAS, .inl (cJ, 2, .inr (.inl mS))), (mAp, .inl (cZ, 2, .inl mp))] := hD.sub [0, 1, 2, 3, 4, 5, 6, 7, 8, 9, 10] (by decide) rfl
  obtain ⟨hwA, hwB⟩ := hw
  refine lv_if_ne (tgt := 12) hx hb dX6_image_6 (by decide) (fun cb => ?_) (fun cb => ?_)
  · have hw := hwA cb
    refine lv_aload_n hx hb dX6_image_12 rfl (lv_at hl 0 rfl) ?_
    refine va_get (D := D) (ci := 5) (v := .ref mAS) (C := RX6) (T := TX6) (N := 16) hx hb hts in_X6_image_X6 hown hK hP 0 rfl rfl 14 (by decide) (hts (.fieldLink RX6 35 "LiveHullModel" "imageSet" "[J") (List.mem_of_getElem? (i := 1) rfl)) (fun _ h9 => h9) rfl dX6_image_13 ?_
    refine lv_iload_n hx hb dX6_image_16 rfl (lv_at hl 1 rfl) ?_
    refine lv_lconst (v := 0) hx hb dX6_image_17 (by decide) ?_
    obtain ⟨hi, hw⟩ := hw
    refine va_last hx hb hK hP hD hS 9 1 rfl rfl hi dX6_image_18 (fun H locs hP hD hS => ?_)
    have hP : va_P D vwCl [(mA, .inr (5, [.ref mAx, .ref mAy, .ref mAi, .int mn, .ref mAr, .ref mAo, .int mf, .int mt, .int md, .ref mAc, .int mk, .ref mAg, .int mh, .ref mAe, .ref mAS, .ref mAp])), (mAx, .inl (cI, 32, .inl mx)), (mAy, .inl (cI, 32, .inl my)), (mAi, .inl (cZ, 32, .inl mi)), (mAr, .inl (cI, 32, .inl mr)), (mAo, .inl (cI, 32, .inl mo)), (mAc, .inl (cI, 34, .inl mc)), (mAg, .inl (cI, 34, .inl mg)), (mAe, .inl (cI, 128, .inl me)), (mAS, .inl (cJ, 2, .inr (.inl (vp_updL mS v1.toNatClampNeg 0)))), (mAp, .inl (cZ, 2, .inl mp))] H := hP
    have hD : va_D A [(mA, .inr (5, [.ref mAx, .ref mAy, .ref mAi, .int mn, .ref mAr, .ref mAo, .int mf, .int mt, .int md, .ref mAc, .int mk, .ref mAg, .int mh, .ref mAe, .ref mAS, .ref mAp])), (mAx, .inl (cI, 32, .inl mx)), (mAy, .inl (cI, 32, .inl my)), (mAi, .inl (cZ, 32, .inl mi)), (mAr, .inl (cI, 32, .inl mr)), (mAo, .inl (cI, 32, .inl mo)), (mAc, .inl (cI, 34, .inl mc)), (mAg, .inl (cI, 34, .inl mg)), (mAe, .inl (cI, 128, .inl me)), (mAS, .inl (cJ, 2, .inr (.inl (vp_updL mS v1.toNatClampNeg 0)))), (mAp, .inl (cZ, 2, .inl mp))] := hD
    refine lv_iconst (v := 0) hx hb dX6_image_19 (by decide) ?_
    refine lv_istore_n (lv' := [(2, .int 0), (0, .ref mA), (1, .int v1)]) hx hb dX6_image_20 rfl hl (by decide) rfl (fun ls hl => ?_)
    obtain ⟨k, hw⟩ := hw
    exact N21 mp k me (vp_updL mS v1.toNatClampNeg 0) 0 hw _ _ _ hP hD hS (lv_sub hl [1, 2, 0] rfl)
  · have hw := hwB cb
    refine lv_bipush (v := (-2)) hx hb dX6_image_9 (by decide) ?_
    exact ret _ _ _ _ (-2) (me, mS, mp) (vp_nar_int _) hw hP hD hS dX6_image_11
theorem in_X6_restore_X6 : ∀ w ∈ wsX60, w ∈ wsX6_restore := fun _ h => List.mem_cons_of_mem _ (List.mem_append_right _ h)
theorem hd_X6_restore : yX6_restore.cls = RX6 ∧ yX6_restore.cls ≠ "java/lang/invoke/MethodHandle" ∧ yX6_restore.cls ≠ "java/lang/invoke/VarHandle" ∧ (parseMethodDescriptor yX6_restore.desc).map (fun d => d.parameters.length) = some 1 := by decide +kernel
set_option maxHeartbeats 8000000 in
set_option maxRecDepth 100000 in
theorem c_X6_restore (l : Launch) (D : va_G) (cI cJ cZ cO : ClassId) (mA mAx mAy mAi mAr mAo mAc mAg mAe mAS mAp : Nat) (mx : Nat → Int32) (my : Nat → Int32) (mi : Nat → Int32) (mn : Int32) (mr : Nat → Int32) (mo : Nat → Int32) (mf : Int32) (mt : Int32) (md : Int32) (mc : Nat → Int32) (mk : Int32) (mg : Nat → Int32) (mh : Int32) (me : Nat → Int32) (mS : Nat → Int64) (mp : Nat → Int32) (v1 : Int32) (K : Int32 → (Nat → Int32) → (Nat → Int32) → (Nat → Int32) → Int32 → Prop) (hw : wp_X6_restore mx my mi mn me mS mp v1 K) : Ci l D (tys4 cI cJ cZ cO) yX6_restore wsX6_restore { frames := 1, cells := 0, slots := 0, locals := 22 } [.ref mA, .int v1] [(mA, .inr (5, [.ref mAx, .ref mAy, .ref mAi, .int mn, .ref mAr, .ref mAo, .int mf, .int mt, .int md, .ref mAc, .int mk, .ref mAg, .int mh, .ref mAe, .ref mAS, .ref mAp])), (mAx, .inl (cI, 32, .inl mx)), (mAy, .inl (cI, 32, .inl my)), (mAi, .inl (cZ, 32, .inl mi)), (mAr, .inl (cI, 32, .inl mr)), (mAo, .inl (cI, 32, .inl mo)), (mAc, .inl (cI, 34, .inl mc)), (mAg, .inl (cI, 34, .inl mg)), (mAe, .inl (cI, 128, .inl me)), (mAS, .inl (cJ, 2, .inr (.inl mS))), (mAp, .inl (cZ, 2, .inl mp))] (fun (r : Int32) (u : (Nat → Int32) × (Nat → Int32) × (Nat → Int32) × (Int32)) => K r u.1 u.2.1 u.2.2.1 u.2.2.2) (fun u => [(mA, .inr (5, [.ref mAx, .ref mAy, .ref mAi, .int u.2.2.2, .ref mAr, .ref mAo, .int mf, .int mt, .int md, .ref mAc, .int mk, .ref mAg, .int mh, .ref mAe, .ref mAS, .ref mAp])), (mAx, .inl (cI, 32, .inl u.1)), (mAy, .inl (cI, 32, .inl u.2.1)), (mAi, .inl (cZ, 32, .inl u.2.2.1)), (mAr, .inl (cI, 32, .inl mr)), (mAo, .inl (cI, 32, .inl mo)), (mAc, .inl (cI, 34, .inl mc)), (mAg, .inl (cI, 34, .inl mg)), (mAe, .inl (cI, 128, .inl me)), (mAS, .inl (cJ, 2, .inr (.inl mS))), (mAp, .inl (cZ, 2, .inl mp))]) := by
  refine mt_i (cc := cX6_restore) (maxL := 3) (rt := .int) (by decide) rfl (Nat.le_of_ble_eq_true rfl) ?_
  intro p e s m args below meth c Q A R ls hRf hRl hx hb hml hown hts hK hA hP hD hS hl ret
  have hown : s.vm.findClass RX6 = some m.cls := hown
  have hl : lv_has ls 3 [(0, .ref mA), (1, .int v1)] := hl
  have N31 : ∀  (k : Nat) (mx : Nat → Int32) (my : Nat → Int32) (mi : Nat → Int32) (mn : Int32) (v2 : Int32), wp_X6_restore_31 me mS mp v1 K   k mx my mi mn v2 → ∀ (H : Heap) (locs : List Loc) (ls : Array Slot), va_P D vwCl [(mA, .inr (5, [.ref mAx, .ref mAy, .ref mAi, .int mn, .ref mAr, .ref mAo, .int mf, .int mt, .int md, .ref mAc, .int mk, .ref mAg, .int mh, .ref mAe, .ref mAS, .ref mAp])), (mAx, .inl (cI, 32, .inl mx)), (mAy, .inl (cI, 32, .inl my)), (mAi, .inl (cZ, 32, .inl mi)), (mAr, .inl (cI, 32, .inl mr)), (mAo, .inl (cI, 32, .inl mo)), (mAc, .inl (cI, 34, .inl mc)), (mAg, .inl (cI, 34, .inl mg)), (mAe, .inl (cI, 128, .inl me)), (mAS, .inl (cJ, 2, .inr (.inl mS))), (mAp, .inl (cZ, 2, .inl mp))] H → va_D A [(mA, .inr (5, [.ref mAx, .ref mAy, .ref mAi, .int mn, .ref mAr, .ref mAo, .int mf, .int mt, .int md, .ref mAc, .int mk, .ref mAg, .int mh, .ref mAe, .ref mAS, .ref mAp])), (mAx, .inl (cI, 32, .inl mx)), (mAy, .inl (cI, 32, .inl my)), (mAi, .inl (cZ, 32, .inl mi)), (mAr, .inl (cI, 32, .inl mr)), (mAo, .inl (cI, 32, .inl mo)), (mAc, .inl (cI, 34, .inl mc)), (mAg, .inl (cI, 34, .inl mg)), (mAe, .inl (cI, 128, .inl me)), (mAS, .inl (cJ, 2, .inr (.inl mS))), (mAp, .inl (cZ, 2, .inl mp))] → va_S A s.heap H locs → lv_has ls 3 [(0, .ref mA), (1, .int v1), (2, .int v2)] → W p l e R s m args below meth c H locs 0 0 Q (F0 m 31 ls []) := by
    intro k
    induction k with
    | zero => intro mx my mi mn v2 hw; exact False.elim hw
    | succ k ih31 =>
      intro mx my mi mn v2 hw H locs ls hP hD hS hl
      have hw : wp_X6_restore_31b me mS mp v1 K (wp_X6_restore_31 me mS mp v1 K   k)   mx my mi mn v2 := hw
      unfold wp_X6_restore_31b at hw
      generalize wp_X6_restore_31 me mS mp v1 K   k = L31 at hw ih31
      have N99 : ∀ (mx : Nat → Int32) (my : Nat → Int32) (mi : Nat → Int32) (mn : Int32) (v2 : Int32) (s1 : Int32) (s2 : Int32), wp_X6_restore_99 me mS mp v1 K L31  mx my mi mn v2 s1 s2 → ∀ (H : Heap) (locs : List Loc) (ls : Array Slot), va_P D vwCl [(mA, .inr (5, [.ref mAx, .ref mAy, .ref mAi, .int mn, .ref mAr, .ref mAo, .int mf, .int mt, .int md, .ref mAc, .int mk, .ref mAg, .int mh, .ref mAe, .ref mAS, .ref mAp])), (mAx, .inl (cI, 32, .inl mx)), (mAy, .inl (cI, 32, .inl my)), (mAi, .inl (cZ, 32, .inl mi)), (mAr, .inl (cI, 32, .inl mr)), (mAo, .inl (cI, 32, .inl mo)), (mAc, .inl (cI, 34, .inl mc)), (mAg, .inl (cI, 34, .inl mg)), (mAe, .inl (cI, 128, .inl me)), (mAS, .inl (cJ, 2, .inr (.inl mS))), (mAp, .inl (cZ, 2, .inl mp))] H → va_D A [(mA, .inr (5, [.ref mAx, .ref mAy, .ref mAi, .int mn, .ref mAr, .ref mAo, .int mf, .int mt, .int md, .ref mAc, .int mk, .ref mAg, .int mh, .ref mAe, .ref mAS, .ref mAp])), (mAx, .inl (cI, 32, .inl mx)), (mAy, .inl (cI, 32, .inl my)), (mAi, .inl (cZ, 32, .inl mi)), (mAr, .inl (cI, 32, .inl mr)), (mAo, .inl (cI, 32, .inl mo)), (mAc, .inl (cI, 34, .inl mc)), (mAg, .inl (cI, 34, .inl mg)), (mAe, .inl (cI, 128, .inl me)), (mAS, .inl (cJ, 2, .inr (.inl mS))), (mAp, .inl (cZ, 2, .inl mp))] → va_S A s.heap H locs → lv_has ls 3 [(0, .ref mA), (1, .int v1), (2, .int v2)] → W p l e R s m args below meth c H locs 0 0 Q (F0 m 99 ls [.int s2, .int s1, .ref mAi]) := by
        intro mx my mi mn v2 s1 s2 hw H locs ls hP hD hS hl
        unfold wp_X6_restore_99 at hw
        obtain ⟨hi, hw⟩ := hw
        refine va_zast hx hb hK hP hD hS 3 2 rfl rfl hi dX6_restore_99 (fun H locs hP hD hS => ?_)
        have hP : va_P D vwCl [(mA, .inr (5, [.ref mAx, .ref mAy, .ref mAi, .int mn, .ref mAr, .ref mAo, .int mf, .int mt, .int md, .ref mAc, .int mk, .ref mAg, .int mh, .ref mAe, .ref mAS, .ref mAp])), (mAx, .inl (cI, 32, .inl mx)), (mAy, .inl (cI, 32, .inl my)), (mAi, .inl (cZ, 32, .inl (upd mi s1.toNatClampNeg (vp_nar .boolean s2)))), (mAr, .inl (cI, 32, .inl mr)), (mAo, .inl (cI, 32, .inl mo)), (mAc, .inl (cI, 34, .inl mc)), (mAg, .inl (cI, 34, .inl mg)), (mAe, .inl (cI, 128, .inl me)), (mAS, .inl (cJ, 2, .inr (.inl mS))), (mAp, .inl (cZ, 2, .inl mp))] H := hP
        have hD : va_D A [(mA, .inr (5, [.ref mAx, .ref mAy, .ref mAi, .int mn, .ref mAr, .ref mAo, .int mf, .int mt, .int md, .ref mAc, .int mk, .ref mAg, .int mh, .ref mAe, .ref mAS, .ref mAp])), (mAx, .inl (cI, 32, .inl mx)), (mAy, .inl (cI, 32, .inl my)), (mAi, .inl (cZ, 32, .inl (upd mi s1.toNatClampNeg (vp_nar .boolean s2)))), (mAr, .inl (cI, 32, .inl mr)), (mAo, .inl (cI, 32, .inl mo)), (mAc, .inl (cI, 34, .inl mc)), (mAg, .inl (cI, 34, .inl mg)), (mAe, .inl (cI, 128, .inl me)), (mAS, .inl (cJ, 2, .inr (.inl mS))), (mAp, .inl (cZ, 2, .inl mp))] := hD
        refine lv_aload_n hx hb dX6_restore_100 rfl (lv_at hl 0 rfl) ?_
        refine lv_dup hx hb dX6_restore_101 rfl ?_
        refine va_get (D := D) (ci := 5) (v := .int mn) (C := RX6) (T := TX6) (N := 16) hx hb hts in_X6_restore_X6 hown hK hP 0 rfl rfl 3 (by decide) (hts (.fieldLink RX6 55 "LiveHullModel" "many" "I") (List.mem_of_getElem? (i := 2) rfl)) (fun _ h9 => h9) rfl dX6_restore_102 ?_
        refine lv_aload_n hx hb dX6_restore_105 rfl (lv_at hl 0 rfl) ?_
        refine va_get (D := D) (ci := 5) (v := .ref mAi) (C := RX6) (T := TX6) (N := 16) hx hb hts in_X6_restore_X6 hown hK hP 0 rfl rfl 2 (by decide) (hts (.fieldLink RX6 16 "LiveHullModel" "is" "[Z") (List.mem_of_getElem? (i := 6) rfl)) (fun _ h9 => h9) rfl dX6_restore_106 ?_
        refine lv_iload_n hx hb dX6_restore_109 rfl (lv_at hl 2 rfl) ?_
        obtain ⟨hi, hw⟩ := hw
        refine va_zald hx hb hK hP 3 2 rfl rfl hi dX6_restore_110 ?_
        obtain ⟨hwA, hwB⟩ := hw
        refine lv_if_eq (tgt := 118) hx hb dX6_restore_111 (by decide) (fun cb => ?_) (fun cb => ?_)
        · have hw := hwA cb
          refine lv_iconst (v := 0) hx hb dX6_restore_118 (by decide) ?_
          refine lv_iadd hx hb dX6_restore_119 ?_
          refine va_put (D := D) (ci := 5) (v := .int (mn + 0)) (ty := .int) (C := RX6) (T := TX6) (N := 16) hx hb hts in_X6_restore_X6 tyX6 tyX6_ok nmX6 hown hK hP hD hS 0 rfl rfl 3 (by decide) (hts (.fieldLink RX6 55 "LiveHullModel" "many" "I") (List.mem_of_getElem? (i := 2) rfl)) (fun _ h9 => h9) rfl (by decide +kernel) rfl rfl (Nat.le_of_ble_eq_true rfl) dX6_restore_120 (fun H locs hP hD hS => ?_)
          have hP : va_P D vwCl [(mA, .inr (5, [.ref mAx, .ref mAy, .ref mAi, .int (mn + 0), .ref mAr, .ref mAo, .int mf, .int mt, .int md, .ref mAc, .int mk, .ref mAg, .int mh, .ref mAe, .ref mAS, .ref mAp])), (mAx, .inl (cI, 32, .inl mx)), (mAy, .inl (cI, 32, .inl my)), (mAi, .inl (cZ, 32, .inl (upd mi s1.toNatClampNeg (vp_nar .boolean s2)))), (mAr, .inl (cI, 32, .inl mr)), (mAo, .inl (cI, 32, .inl mo)), (mAc, .inl (cI, 34, .inl mc)), (mAg, .inl (cI, 34, .inl mg)), (mAe, .inl (cI, 128, .inl me)), (mAS, .inl (cJ, 2, .inr (.inl mS))), (mAp, .inl (cZ, 2, .inl mp))] H := hP
          have hD : va_D A [(mA, .inr (5, [.ref mAx, .ref mAy, .ref mAi, .int (mn + 0), .ref mAr, .ref mAo, .int mf, .int mt, .int md, .ref mAc, .int mk, .ref mAg, .int mh, .ref mAe, .ref mAS, .ref mAp])), (mAx, .inl (cI, 32, .inl mx)), (mAy, .inl (cI, 32, .inl my)), (mAi, .inl (cZ, 32, .inl (upd mi s1.toNatClampNeg (vp_nar .boolean s2)))), (mAr, .inl (cI, 32, .inl mr)), (mAo, .inl (cI, 32, .inl mo)), (mAc, .inl (cI, 34, .inl mc)), (mAg, .inl (cI, 34, .inl mg)), (mAe, .inl (cI, 128, .inl me)), (mAS, .inl (cJ, 2, .inr (.inl mS))), (mAp, .inl (cZ, 2, .inl mp))] := hD
          refine lv_iinc (v := (v2 + 1)) (lv' := [(2, .int (v2 + 1)), (0, .ref mA), (1, .int v1)]) hx hb dX6_restore_123 hl (k := 2) rfl rfl (by decide) rfl (fun ls hl => ?_)
          refine lv_goto (tgt := 31) hx hb dX6_restore_126 (by decide) ?_
          exact ih31 mx my (upd mi s1.toNatClampNeg (vp_nar .boolean s2)) (mn + 0) (v2 + 1) hw _ _ _ hP hD hS (lv_sub hl [1, 2, 0] rfl)
        · have hw := hwB cb
          refine lv_iconst (v := 1) hx hb dX6_restore_114 (by decide) ?_
          refine lv_goto (tgt := 119) hx hb dX6_restore_115 (by decide) ?_
          refine lv_iadd hx hb dX6_restore_119 ?_
          refine va_put (D := D) (ci := 5) (v := .int (mn + 1)) (ty := .int) (C := RX6) (T := TX6) (N := 16) hx hb hts in_X6_restore_X6 tyX6 tyX6_ok nmX6 hown hK hP hD hS 0 rfl rfl 3 (by decide) (hts (.fieldLink RX6 55 "LiveHullModel" "many" "I") (List.mem_of_getElem? (i := 2) rfl)) (fun _ h9 => h9) rfl (by decide +kernel) rfl rfl (Nat.le_of_ble_eq_true rfl) dX6_restore_120 (fun H locs hP hD hS => ?_)
          have hP : va_P D vwCl [(mA, .inr (5, [.ref mAx, .ref mAy, .ref mAi, .int (mn + 1), .ref mAr, .ref mAo, .int mf, .int mt, .int md, .ref mAc, .int mk, .ref mAg, .int mh, .ref mAe, .ref mAS, .ref mAp])), (mAx, .inl (cI, 32, .inl mx)), (mAy, .inl (cI, 32, .inl my)), (mAi, .inl (cZ, 32, .inl (upd mi s1.toNatClampNeg (vp_nar .boolean s2)))), (mAr, .inl (cI, 32, .inl mr)), (mAo, .inl (cI, 32, .inl mo)), (mAc, .inl (cI, 34, .inl mc)), (mAg, .inl (cI, 34, .inl mg)), (mAe, .inl (cI, 128, .inl me)), (mAS, .inl (cJ, 2, .inr (.inl mS))), (mAp, .inl (cZ, 2, .inl mp))] H := hP
          have hD : va_D A [(mA, .inr (5, [.ref mAx, .ref mAy, .ref mAi, .int (mn + 1), .ref mAr, .ref mAo, .int mf, .int mt, .int md, .ref mAc, .int mk, .ref mAg, .int mh, .ref mAe, .ref mAS, .ref mAp])), (mAx, .inl (cI, 32, .inl mx)), (mAy, .inl (cI, 32, .inl my)), (mAi, .inl (cZ, 32, .inl (upd mi s1.toNatClampNeg (vp_nar .boolean s2)))), (mAr, .inl (cI, 32, .inl mr)), (mAo, .inl (cI, 32, .inl mo)), (mAc, .inl (cI, 34, .inl mc)), (mAg, .inl (cI, 34, .inl mg)), (mAe, .inl (cI, 128, .inl me)), (mAS, .inl (cJ, 2, .inr (.inl mS))), (mAp, .inl (cZ, 2, .inl mp))] := hD
          refine lv_iinc (v := (v2 + 1)) (lv' := [(2, .int (v2 + 1)), (0, .ref mA), (1, .int v1)]) hx hb dX6_restore_123 hl (k := 2) rfl rfl (by decide) rfl (fun ls hl => ?_)
          refine lv_goto (tgt := 31) hx hb dX6_restore_126 (by decide) ?_
          exact ih31 mx my (upd mi s1.toNatClampNeg (vp_nar .boolean s2)) (mn + 1) (v2 + 1) hw _ _ _ hP hD hS (lv_sub hl [1, 2, 0] rfl)
      refine lv_iload_n hx hb dX6_restore_31 rfl (lv_at hl 2 rfl) ?_
      refine lv_bipush (v := 32) hx hb dX6_restore_32 (by decide) ?_
      obtain ⟨hwA, hwB⟩ := hw
      refine lv_icmp_ge (tgt := 129) hx hb dX6_restore_34 (by decide) (fun cb => ?_) (fun cb => ?_)
      · have hw := hwA cb
        refine lv_iconst (v := 1) hx hb dX6_restore_129 (by decide) ?_
        exact ret _ _ _ _ 1 (mx, my, mi, mn) (vp_nar_int _) hw hP hD hS dX6_restore_130
      · have hw := hwB cb
        refine lv_aload_n hx hb dX6_restore_37 rfl (lv_at hl 0 rfl) ?_
        refine va_get (D := D) (ci := 5) (v := .ref mAx) (C := RX6) (T := TX6) (N := 16) hx hb hts in_X6_restore_X6 hown hK hP 0 rfl rfl 0 (by decide) (hts (.fieldLink RX6 7 "LiveHullModel" "xs" "[I") (List.mem_of_getElem? (i := 3) rfl)) (fun _ h9 => h9) rfl dX6_restore_38 ?_
        refine lv_iload_n hx hb dX6_restore_41 rfl (lv_at hl 2 rfl) ?_
        refine lv_aload_n hx hb dX6_restore_42 rfl (lv_at hl 0 rfl) ?_
        refine va_get (D := D) (ci := 5) (v := .ref mAe) (C := RX6) (T := TX6) (N := 16) hx hb hts in_X6_restore_X6 hown hK hP 0 rfl rfl 13 (by decide) (hts (.fieldLink RX6 32 "LiveHullModel" "image" "[I") (List.mem_of_getElem? (i := 4) rfl)) (fun _ h9 => h9) rfl dX6_restore_43 ?_
        refine lv_bipush (v := 64) hx hb dX6_restore_46 (by decide) ?_
        refine lv_iload_n hx hb dX6_restore_48 rfl (lv_at hl 1 rfl) ?_
        refine lv_imul hx hb dX6_restore_49 ?_
        refine lv_iload_n hx hb dX6_restore_50 rfl (lv_at hl 2 rfl) ?_
        refine lv_iadd hx hb dX6_restore_51 ?_
        obtain ⟨hi, hw⟩ := hw
        refine va_iald hx hb hK hP 8 0 rfl rfl hi dX6_restore_52 ?_
        obtain ⟨hi, hw⟩ := hw
        refine va_iast hx hb hK hP hD hS 1 0 rfl rfl hi dX6_restore_53 (fun H locs hP hD hS => ?_)
        have hP : va_P D vwCl [(mA, .inr (5, [.ref mAx, .ref mAy, .ref mAi, .int mn, .ref mAr, .ref mAo, .int mf, .int mt, .int md, .ref mAc, .int mk, .ref mAg, .int mh, .ref mAe, .ref mAS, .ref mAp])), (mAx, .inl (cI, 32, .inl (upd mx v2.toNatClampNeg (me (((64 : Int32) * v1) + v2).toNatClampNeg)))), (mAy, .inl (cI, 32, .inl my)), (mAi, .inl (cZ, 32, .inl mi)), (mAr, .inl (cI, 32, .inl mr)), (mAo, .inl (cI, 32, .inl mo)), (mAc, .inl (cI, 34, .inl mc)), (mAg, .inl (cI, 34, .inl mg)), (mAe, .inl (cI, 128, .inl me)), (mAS, .inl (cJ, 2, .inr (.inl mS))), (mAp, .inl (cZ, 2, .inl mp))] H := hP
        have hD : va_D A [(mA, .inr (5, [.ref mAx, .ref mAy, .ref mAi, .int mn, .ref mAr, .ref mAo, .int mf, .int mt, .int md, .ref mAc, .int mk, .ref mAg, .int mh, .ref mAe, .ref mAS, .ref mAp])), (mAx, .inl (cI, 32, .inl (upd mx v2.toNatClampNeg (me (((64 : Int32) * v1) + v2).toNatClampNeg)))), (mAy, .inl (cI, 32, .inl my)), (mAi, .inl (cZ, 32, .inl mi)), (mAr, .inl (cI, 32, .inl mr)), (mAo, .inl (cI, 32, .inl mo)), (mAc, .inl (cI, 34, .inl mc)), (mAg, .inl (cI, 34, .inl mg)), (mAe, .inl (cI, 128, .inl me)), (mAS, .inl (cJ, 2, .inr (.inl mS))), (mAp, .inl (cZ, 2, .inl mp))] := hD
        refine lv_aload_n hx hb dX6_restore_54 rfl (lv_at hl 0 rfl) ?_
        refine va_get (D := D) (ci := 5) (v := .ref mAy) (C := RX6) (T := TX6) (N := 16) hx hb hts in_X6_restore_X6 hown hK hP 0 rfl rfl 1 (by decide) (hts (.fieldLink RX6 13 "LiveHullModel" "ys" "[I") (List.mem_of_getElem? (i := 5) rfl)) (fun _ h9 => h9) rfl dX6_restore_55 ?_
        refine lv_iload_n hx hb dX6_restore_58 rfl (lv_at hl 2 rfl) ?_
        refine lv_aload_n hx hb dX6_restore_59 rfl (lv_at hl 0 rfl) ?_
        refine va_get (D := D) (ci := 5) (v := .ref mAe) (C := RX6) (T := TX6) (N := 16) hx hb hts in_X6_restore_X6 hown hK hP 0 rfl rfl 13 (by decide) (hts (.fieldLink RX6 32 "LiveHullModel" "image" "[I") (List.mem_of_getElem? (i := 4) rfl)) (fun _ h9 => h9) rfl dX6_restore_60 ?_
        refine lv_bipush (v := 64) hx hb dX6_restore_63 (by decide) ?_
        refine lv_iload_n hx hb dX6_restore_65 rfl (lv_at hl 1 rfl) ?_
        refine lv_imul hx hb dX6_restore_66 ?_
        refine lv_bipush (v := 32) hx hb dX6_restore_67 (by decide) ?_
        refine lv_iadd hx hb dX6_restore_69 ?_
        refine lv_iload_n hx hb dX6_restore_70 rfl (lv_at hl 2 rfl) ?_
        refine lv_iadd hx hb dX6_restore_71 ?_
        obtain ⟨hi, hw⟩ := hw
        refine va_iald hx hb hK hP 8 0 rfl rfl hi dX6_restore_72 ?_
        obtain ⟨hi, hw⟩ := hw
        refine va_iast hx hb hK hP hD hS 2 0 rfl rfl hi dX6_restore_73 (fun H locs hP hD hS => ?_)
        have hP : va_P D vwCl [(mA, .inr (5, [.ref mAx, .ref mAy, .ref mAi, .int mn, .ref mAr, .ref mAo, .int mf, .int mt, .int md, .ref mAc, .int mk, .ref mAg, .int mh, .ref mAe, .ref mAS, .ref mAp])), (mAx, .inl (cI, 32, .inl (upd mx v2.toNatClampNeg (me (((64 : Int32) * v1) + v2).toNatClampNeg)))), (mAy, .inl (cI, 32, .inl (upd my v2.toNatClampNeg (me ((((64 : Int32) * v1) + 32) + v2).toNatClampNeg)))), (mAi, .inl (cZ, 32, .inl mi)), (mAr, .inl (cI, 32, .inl mr)), (mAo, .inl (cI, 32, .inl mo)), (mAc, .inl (cI, 34, .inl mc)), (mAg, .inl (cI, 34, .inl mg)), (mAe, .inl (cI, 128, .inl me)), (mAS, .inl (cJ, 2, .inr (.inl mS))), (mAp, .inl (cZ, 2, .inl mp))] H := hP
        have hD : va_D A [(mA, .inr (5, [.ref mAx, .ref mAy, .ref mAi, .int mn, .ref mAr, .ref mAo, .int mf, .int mt, .int md, .ref mAc, .int mk, .ref mAg, .int mh, .ref mAe, .ref mAS, .ref mAp])), (mAx, .inl (cI, 32, .inl (upd mx v2.toNatClampNeg (me (((64 : Int32) * v1) + v2).toNatClampNeg)))), (mAy, .inl (cI, 32, .inl (upd my v2.toNatClampNeg (me ((((64 : Int32) * v1) + 32) + v2).toNatClampNeg)))), (mAi, .inl (cZ, 32, .inl mi)), (mAr, .inl (cI, 32, .inl mr)), (mAo, .inl (cI, 32, .inl mo)), (mAc, .inl (cI, 34, .inl mc)), (mAg, .inl (cI, 34, .inl mg)), (mAe, .inl (cI, 128, .inl me)), (mAS, .inl (cJ, 2, .inr (.inl mS))), (mAp, .inl (cZ, 2, .inl mp))] := hD
        refine lv_aload_n hx hb dX6_restore_74 rfl (lv_at hl 0 rfl) ?_
        refine va_get (D := D) (ci := 5) (v := .ref mAi) (C := RX6) (T := TX6) (N := 16) hx hb hts in_X6_restore_X6 hown hK hP 0 rfl rfl 2 (by decide) (hts (.fieldLink RX6 16 "LiveHullModel" "is" "[Z") (List.mem_of_getElem? (i := 6) rfl)) (fun _ h9 => h9) rfl dX6_restore_75 ?_
        refine lv_iload_n hx hb dX6_restore_78 rfl (lv_at hl 2 rfl) ?_
        refine lv_aload_n hx hb dX6_restore_79 rfl (lv_at hl 0 rfl) ?_
        refine va_get (D := D) (ci := 5) (v := .ref mAS) (C := RX6) (T := TX6) (N := 16) hx hb hts in_X6_restore_X6 hown hK hP 0 rfl rfl 14 (by decide) (hts (.fieldLink RX6 35 "LiveHullModel" "imageSet" "[J") (List.mem_of_getElem? (i := 7) rfl)) (fun _ h9 => h9) rfl dX6_restore_80 ?_
        refine lv_iload_n hx hb dX6_restore_83 rfl (lv_at hl 1 rfl) ?_
        obtain ⟨hi, hw⟩ := hw
        refine va_lald hx hb hK hP 9 1 rfl rfl hi dX6_restore_84 ?_
        refine lv_iload_n hx hb dX6_restore_85 rfl (lv_at hl 2 rfl) ?_
        refine lv_lshr hx hb dX6_restore_86 rfl ?_
        refine lv_lconst (v := 1) hx hb dX6_restore_87 (by decide) ?_
        refine lv_land hx hb dX6_restore_88 ?_
        refine lv_lconst (v := 1) hx hb dX6_restore_89 (by decide) ?_
        refine W.lcmp hx hb dX6_restore_90 ?_
        obtain ⟨hwA, hwB⟩ := hw
        refine lv_if_ne (tgt := 98) hx hb dX6_restore_91 (by decide) (fun cb => ?_) (fun cb => ?_)
        · have hw := hwA ((cq_ne _ _).mp cb)
          refine lv_iconst (v := 0) hx hb dX6_restore_98 (by decide) ?_
          exact N99 (upd mx v2.toNatClampNeg (me (((64 : Int32) * v1) + v2).toNatClampNeg)) (upd my v2.toNatClampNeg (me ((((64 : Int32) * v1) + 32) + v2).toNatClampNeg)) mi mn v2 v2 0 hw _ _ _ hP hD hS (lv_sub hl [0, 1, 2] rfl)
        · have hw := hwB ((cq_eq _ _).mp cb)
          refine lv_iconst (v := 1) hx hb dX6_restore_94 (by decide) ?_
          refine lv_goto (tgt := 99) hx hb dX6_restore_95 (by decide) ?_
          exact N99 (upd mx v2.toNatClampNeg (me (((64 : Int32) * v1) + v2).toNatClampNeg)) (upd my v2.toNatClampNeg (me ((((64 : Int32) * v1) + 32) + v2).toNatClampNeg)) mi mn v2 v2 1 hw _ _ _ hP hD hS (lv_sub hl [0, 1, 2] rfl)
  unfold wp_X6_restore at hw
  refine lv_iload_n hx hb dX6_restore_0 rfl (lv_at hl 1 rfl) ?_
  refine lv_iconst (v := 0) hx hb dX6_restore_1 (by decide) ?_
  refine lv_iconst (v := 1) hx hb dX6_restore_2 (by decide) ?_
  refine cl_Si (As := [.int v1, .int 0, .int 1]) (rest := []) ⟨hx, hb, hml, hown, hts⟩ (c_X6_in l D cI cJ cZ cO   v1 0 1 _ hw) (va_cwS 3 hts gX6_restore_X6_in rfl rfl rfl hd_X6_in.2 ⟨Nat.le_trans (Nat.le_of_ble_eq_true rfl) hRf, Nat.le_trans (Nat.le_of_ble_eq_true rfl) hRl⟩) hK hP hD hS hA [] [0, 1, 2, 3, 4, 5, 6, 7, 8, 9, 10] rfl (by decide) rfl (by decide) (by decide) rfl hl.1 rfl (Nat.le_of_ble_eq_true rfl) dX6_restore_3 ⟨Nat.zero_le _, Nat.zero_le _⟩ (fun r3 _u H locs hw hP hD hS => ?_)
  try dsimp only at hw
  have hP : va_P D vwCl [(mA, .inr (5, [.ref mAx, .ref mAy, .ref mAi, .int mn, .ref mAr, .ref mAo, .int mf, .int mt, .int md, .ref mAc, .int mk, .ref mAg, .int mh, .ref mAe, .ref mAS, .ref mAp])), (mAx, .inl (cI, 32, .inl mx)), (mAy, .inl (cI, 32, .inl my)), (mAi, .inl (cZ, 32, .inl mi)), (mAr, .inl (cI, 32, .inl mr)), (mAo, .inl (cI, 32, .inl mo)), (mAc, .inl (cI, 34, .inl mc)), (mAg, .inl (cI, 34, .inl mg)), (mAe, .inl (cI, 128, .inl me)), (mAS, .inl (cJ, 2, .inr (.inl mS))), (mAp, .inl (cZ, 2, .inl mp))] H := hP.sub [0, 1, 2, 3, 4, 5, 6, 7, 8, 9, 10] rfl
  have hD : va_D A [(mA, .inr (5, [.ref mAx, .ref mAy, .ref mAi, .int mn, .ref mAr, .ref mAo, .int mf, .int mt, .int md, .ref mAc, .int mk, .ref mAg, .int mh, .ref mAe, .ref mAS, .ref mAp])), (mAx, .inl (cI, 32, .inl mx)), (mAy, .inl (cI, 32, .inl my)), (mAi, .inl (cZ, 32, .inl mi)), (mAr, .inl (cI, 32, .inl mr)), (mAo, .inl (cI, 32, .inl mo)), (mAc, .inl (cI, 34, .inl mc)), (mAg, .inl (cI, 34, .inl mg)), (mAe, .inl (cI, 128, .inl me)), (mAS, .inl (cJ, 2, .inr (.inl mS))), (mAp, .inl (cZ, 2, .inl mp))] := hD.sub [0, 1, 2, 3, 4, 5, 6, 7, 8, 9, 10] (by decide) rfl
  obtain ⟨hwA, hwB⟩ := hw
  refine lv_if_ne (tgt := 12) hx hb dX6_restore_6 (by decide) (fun cb => ?_) (fun cb => ?_)
  · have hw := hwA cb
    refine lv_aload_n hx hb dX6_restore_12 rfl (lv_at hl 0 rfl) ?_
    refine va_get (D := D) (ci := 5) (v := .ref mAp) (C := RX6) (T := TX6) (N := 16) hx hb hts in_X6_restore_X6 hown hK hP 0 rfl rfl 15 (by decide) (hts (.fieldLink RX6 39 "LiveHullModel" "isKept" "[Z") (List.mem_of_getElem? (i := 1) rfl)) (fun _ h9 => h9) rfl dX6_restore_13 ?_
    refine lv_iload_n hx hb dX6_restore_16 rfl (lv_at hl 1 rfl) ?_
    obtain ⟨hi, hw⟩ := hw
    refine va_zald hx hb hK hP 10 2 rfl rfl hi dX6_restore_17 ?_
    obtain ⟨hwA, hwB⟩ := hw
    refine lv_if_ne (tgt := 24) hx hb dX6_restore_18 (by decide) (fun cb => ?_) (fun cb => ?_)
    · have hw := hwA cb
      refine lv_aload_n hx hb dX6_restore_24 rfl (lv_at hl 0 rfl) ?_
      refine lv_iconst (v := 0) hx hb dX6_restore_25 (by decide) ?_
      refine va_put (D := D) (ci := 5) (v := .int 0) (ty := .int) (C := RX6) (T := TX6) (N := 16) hx hb hts in_X6_restore_X6 tyX6 tyX6_ok nmX6 hown hK hP hD hS 0 rfl rfl 3 (by decide) (hts (.fieldLink RX6 55 "LiveHullModel" "many" "I") (List.mem_of_getElem? (i := 2) rfl)) (fun _ h9 => h9) rfl (by decide +kernel) rfl rfl (Nat.le_of_ble_eq_true rfl) dX6_restore_26 (fun H locs hP hD hS => ?_)
      have hP : va_P D vwCl [(mA, .inr (5, [.ref mAx, .ref mAy, .ref mAi, .int 0, .ref mAr, .ref mAo, .int mf, .int mt, .int md, .ref mAc, .int mk, .ref mAg, .int mh, .ref mAe, .ref mAS, .ref mAp])), (mAx, .inl (cI, 32, .inl mx)), (mAy, .inl (cI, 32, .inl my)), (mAi, .inl (cZ, 32, .inl mi)), (mAr, .inl (cI, 32, .inl mr)), (mAo, .inl (cI, 32, .inl mo)), (mAc, .inl (cI, 34, .inl mc)), (mAg, .inl (cI, 34, .inl mg)), (mAe, .inl (cI, 128, .inl me)), (mAS, .inl (cJ, 2, .inr (.inl mS))), (mAp, .inl (cZ, 2, .inl mp))] H := hP
      have hD : va_D A [(mA, .inr (5, [.ref mAx, .ref mAy, .ref mAi, .int 0, .ref mAr, .ref mAo, .int mf, .int mt, .int md, .ref mAc, .int mk, .ref mAg, .int mh, .ref mAe, .ref mAS, .ref mAp])), (mAx, .inl (cI, 32, .inl mx)), (mAy, .inl (cI, 32, .inl my)), (mAi, .inl (cZ, 32, .inl mi)), (mAr, .inl (cI, 32, .inl mr)), (mAo, .inl (cI, 32, .inl mo)), (mAc, .inl (cI, 34, .inl mc)), (mAg, .inl (cI, 34, .inl mg)), (mAe, .inl (cI, 128, .inl me)), (mAS, .inl (cJ, 2, .inr (.inl mS))), (mAp, .inl (cZ, 2, .inl mp))] := hD
      refine lv_iconst (v := 0) hx hb dX6_restore_29 (by decide) ?_
      refine lv_istore_n (lv' := [(2, .int 0), (0, .ref mA), (1, .int v1)]) hx hb dX6_restore_30 rfl hl (by decide) rfl (fun ls hl => ?_)
      obtain ⟨k, hw⟩ := hw
      exact N31  k mx my mi 0 0 hw _ _ _ hP hD hS (lv_sub hl [1, 2, 0] rfl)
    · have hw := hwB cb
      refine lv_bipush (v := (-3)) hx hb dX6_restore_21 (by decide) ?_
      exact ret _ _ _ _ (-3) (mx, my, mi, mn) (vp_nar_int _) hw hP hD hS dX6_restore_23
  · have hw := hwB cb
    refine lv_bipush (v := (-2)) hx hb dX6_restore_9 (by decide) ?_
    exact ret _ _ _ _ (-2) (mx, my, mi, mn) (vp_nar_int _) hw hP hD hS dX6_restore_11
theorem in_X6_told_X6 : ∀ w ∈ wsX60, w ∈ wsX6_told := fun _ h => List.mem_cons_of_mem _ (List.mem_append_right _ h)
theorem hd_X6_told : yX6_told.cls = RX6 ∧ yX6_told.cls ≠ "java/lang/invoke/MethodHandle" ∧ yX6_told.cls ≠ "java/lang/invoke/VarHandle" ∧ (parseMethodDescriptor yX6_told.desc).map (fun d => d.parameters.length) = some 1 := by decide +kernel
set_option maxHeartbeats 8000000 in
set_option maxRecDepth 100000 in
theorem c_X6_told (l : Launch) (D : va_G) (cI cJ cZ cO : ClassId) (mA mAx mAy mAi mAr mAo mAc mAg mAe mAS mAp : Nat) (mx : Nat → Int32) (my : Nat → Int32) (mi : Nat → Int32) (mn : Int32) (mr : Nat → Int32) (mo : Nat → Int32) (mf : Int32) (mt : Int32) (md : Int32) (mc : Nat → Int32) (mk : Int32) (mg : Nat → Int32) (mh : Int32) (me : Nat → Int32) (mS : Nat → Int64) (mp : Nat → Int32) (v1 : Int32) (K : Int32 → (Nat → Int32) → (Nat → Int32) → Int32 → Int32 → Int32 → (Nat → Int32) → Int32 → Prop) (hw : wp_X6_told mx my mi mn mr mo mf mt md mc mk v1 K) : Ci l D (tys4 cI cJ cZ cO) yX6_told wsX6_told { frames := 5, cells := 0, slots := 0, locals := 122 } [.ref mA, .int v1] [(mA, .inr (5, [.ref mAx, .ref mAy, .ref mAi, .int mn, .ref mAr, .ref mAo, .int mf, .int mt, .int md, .ref mAc, .int mk, .ref mAg, .int mh, .ref mAe, .ref mAS, .ref mAp])), (mAx, .inl (cI, 32, .inl mx)), (mAy, .inl (cI, 32, .inl my)), (mAi, .inl (cZ, 32, .inl mi)), (mAr, .inl (cI, 32, .inl mr)), (mAo, .inl (cI, 32, .inl mo)), (mAc, .inl (cI, 34, .inl mc)), (mAg, .inl (cI, 34, .inl mg)), (mAe, .inl (cI, 128, .inl me)), (mAS, .inl (cJ, 2, .inr (.inl mS))), (mAp, .inl (cZ, 2, .inl mp))] (fun (r : Int32) (u : (Nat → Int32) × (Nat → Int32) × (Int32) × (Int32) × (Int32) × (Nat → Int32) × (Int32)) => K r u.1 u.2.1 u.2.2.1 u.2.2.2.1 u.2.2.2.2.1 u.2.2.2.2.2.1 u.2.2.2.2.2.2) (fun u => [(mA, .inr (5, [.ref mAx, .ref mAy, .ref mAi, .int mn, .ref mAr, .ref mAo, .int u.2.2.1, .int u.2.2.2.1, .int u.2.2.2.2.1, .ref mAc, .int u.2.2.2.2.2.2, .ref mAg, .int mh, .ref mAe, .ref mAS, .ref mAp])), (mAx, .inl (cI, 32, .inl mx)), (mAy, .inl (cI, 32, .inl my)), (mAi, .inl (cZ, 32, .inl mi)), (mAr, .inl (cI, 32, .inl u.1)), (mAo, .inl (cI, 32, .inl u.2.1)), (mAc, .inl (cI, 34, .inl u.2.2.2.2.2.1)), (mAg, .inl (cI, 34, .inl mg)), (mAe, .inl (cI, 128, .inl me)), (mAS, .inl (cJ, 2, .inr (.inl mS))), (mAp, .inl (cZ, 2, .inl mp))]) := by
  refine mt_i (cc := cX6_told) (maxL := 8) (rt := .int) (by decide) rfl (Nat.le_of_ble_eq_true rfl) ?_
  intro p e s m args below meth c Q A R ls hRf hRl hx hb hml hown hts hK hA hP hD hS hl ret
  have hown : s.vm.findClass RX6 = some m.cls := hown
  have hl : lv_has ls 8 [(0, .ref mA), (1, .int v1)] := hl
  have N26 : ∀  (k : Nat) (mr : Nat → Int32) (mo : Nat → Int32) (mf : Int32) (mt : Int32) (md : Int32) (mc : Nat → Int32) (mk : Int32) (v2 : Int32) (v3 : Int32) (v4 : Int32) (v5 : Int32) (v6 : Int32), wp_X6_told_26 mx my mi mn v1 K   k mr mo mf mt md mc mk v2 v3 v4 v5 v6 → ∀ (H : Heap) (locs : List Loc) (ls : Array Slot), va_P D vwCl [(mA, .inr (5, [.ref mAx, .ref mAy, .ref mAi, .int mn, .ref mAr, .ref mAo, .int mf, .int mt, .int md, .ref mAc, .int mk, .ref mAg, .int mh, .ref mAe, .ref mAS, .ref mAp])), (mAx, .inl (cI, 32, .inl mx)), (mAy, .inl (cI, 32, .inl my)), (mAi, .inl (cZ, 32, .inl mi)), (mAr, .inl (cI, 32, .inl mr)), (mAo, .inl (cI, 32, .inl mo)), (mAc, .inl (cI, 34, .inl mc)), (mAg, .inl (cI, 34, .inl mg)), (mAe, .inl (cI, 128, .inl me)), (mAS, .inl (cJ, 2, .inr (.inl mS))), (mAp, .inl (cZ, 2, .inl mp))] H → va_D A [(mA, .inr (5, [.ref mAx, .ref mAy, .ref mAi, .int mn, .ref mAr, .ref mAo, .int mf, .int mt, .int md, .ref mAc, .int mk, .ref mAg, .int mh, .ref mAe, .ref mAS, .ref mAp])), (mAx, .inl (cI, 32, .inl mx)), (mAy, .inl (cI, 32, .inl my)), (mAi, .inl (cZ, 32, .inl mi)), (mAr, .inl (cI, 32, .inl mr)), (mAo, .inl (cI, 32, .inl mo)), (mAc, .inl (cI, 34, .inl mc)), (mAg, .inl (cI, 34, .inl mg)), (mAe, .inl (cI, 128, .inl me)), (mAS, .inl (cJ, 2, .inr (.inl mS))), (mAp, .inl (cZ, 2, .inl mp))] → va_S A s.heap H locs → lv_has ls 8 [(0, .ref mA), (1, .int v1), (2, .int v2), (3, .int v3), (4, .int v4), (5, .int v5), (6, .int v6)] → W p l e R s m args below meth c H locs 0 0 Q (F0 m 26 ls []) := by
    intro k
    induction k with
    | zero => intro mr mo mf mt md mc mk v2 v3 v4 v5 v6 hw; exact False.elim hw
    | succ k ih26 =>
      intro mr mo mf mt md mc mk v2 v3 v4 v5 v6 hw H locs ls hP hD hS hl
      have hw : wp_X6_told_26b mx my mi mn v1 K (wp_X6_told_26 mx my mi mn v1 K   k)   mr mo mf mt md mc mk v2 v3 v4 v5 v6 := hw
      unfold wp_X6_told_26b at hw
      generalize wp_X6_told_26 mx my mi mn v1 K   k = L26 at hw ih26
      have N68 : ∀ (v2 : Int32) (v5 : Int32) (v6 : Int32) (k : Nat) (mr : Nat → Int32) (mo : Nat → Int32) (mf : Int32) (mt : Int32) (md : Int32) (mc : Nat → Int32) (mk : Int32) (v3 : Int32) (v4 : Int32) (v7 : Int32), wp_X6_told_68 mx my mi mn v1 K L26  v2 v5 v6 k mr mo mf mt md mc mk v3 v4 v7 → ∀ (H : Heap) (locs : List Loc) (ls : Array Slot), va_P D vwCl [(mA, .inr (5, [.ref mAx, .ref mAy, .ref mAi, .int mn, .ref mAr, .ref mAo, .int mf, .int mt, .int md, .ref mAc, .int mk, .ref mAg, .int mh, .ref mAe, .ref mAS, .ref mAp])), (mAx, .inl (cI, 32, .inl mx)), (mAy, .inl (cI, 32, .inl my)), (mAi, .inl (cZ, 32, .inl mi)), (mAr, .inl (cI, 32, .inl mr)), (mAo, .inl (cI, 32, .inl mo)), (mAc, .inl (cI, 34, .inl mc)), (mAg, .inl (cI, 34, .inl mg)), (mAe, .inl (cI, 128, .inl me)), (mAS, .inl (cJ, 2, .inr (.inl mS))), (mAp, .inl (cZ, 2, .inl mp))] H → va_D A [(mA, .inr (5, [.ref mAx, .ref mAy, .ref mAi, .int mn, .ref mAr, .ref mAo, .int mf, .int mt, .int md, .ref mAc, .int mk, .ref mAg, .int mh, .ref mAe, .ref mAS, .ref mAp])), (mAx, .inl (cI, 32, .inl mx)), (mAy, .inl (cI, 32, .inl my)), (mAi, .inl (cZ, 32, .inl mi)), (mAr, .inl (cI, 32, .inl mr)), (mAo, .inl (cI, 32, .inl mo)), (mAc, .inl (cI, 34, .inl mc)), (mAg, .inl (cI, 34, .inl mg)), (mAe, .inl (cI, 128, .inl me)), (mAS, .inl (cJ, 2, .inr (.inl mS))), (mAp, .inl (cZ, 2, .inl mp))] → va_S A s.heap H locs → lv_has ls 8 [(0, .ref mA), (1, .int v1), (2, .int v2), (3, .int v3), (4, .int v4), (5, .int v5), (6, .int v6), (7, .int v7)] → W p l e R s m args below meth c H locs 0 0 Q (F0 m 68 ls []) := by
        intro v2 v5 v6
        intro k
        induction k with
        | zero => intro mr mo mf mt md mc mk v3 v4 v7 hw; exact False.elim hw
        | succ k ih68 =>
          intro mr mo mf mt md mc mk v3 v4 v7 hw H locs ls hP hD hS hl
          have hw : wp_X6_told_68b mx my mi mn v1 K L26 (wp_X6_told_68 mx my mi mn v1 K L26  v2 v5 v6 k)  v2 v5 v6 mr mo mf mt md mc mk v3 v4 v7 := hw
          unfold wp_X6_told_68b at hw
          generalize wp_X6_told_68 mx my mi mn v1 K L26  v2 v5 v6 k = L68 at hw ih68
          have N84 : ∀ (mr : Nat → Int32) (mo : Nat → Int32) (mf : Int32) (mt : Int32) (md : Int32) (mc : Nat → Int32) (mk : Int32) (v3 : Int32) (v4 : Int32) (v7 : Int32), wp_X6_told_84 mx my mi mn v1 K L26 L68 v2 v5 v6 mr mo mf mt md mc mk v3 v4 v7 → ∀ (H : Heap) (locs : List Loc) (ls : Array Slot), va_P D vwCl [(mA, .inr (5, [.ref mAx, .ref mAy, .ref mAi, .int mn, .ref mAr, .ref mAo, .int mf, .int mt, .int md, .ref mAc, .int mk, .ref mAg, .int mh, .ref mAe, .ref mAS, .ref mAp])), (mAx, .inl (cI, 32, .inl mx)), (mAy, .inl (cI, 32, .inl my)), (mAi, .inl (cZ, 32, .inl mi)), (mAr, .inl (cI, 32, .inl mr)), (mAo, .inl (cI, 32, .inl mo)), (mAc, .inl (cI, 34, .inl mc)), (mAg, .inl (cI, 34, .inl mg)), (mAe, .inl (cI, 128, .inl me)), (mAS, .inl (cJ, 2, .inr (.inl mS))), (mAp, .inl (cZ, 2, .inl mp))] H → va_D A [(mA, .inr (5, [.ref mAx, .ref mAy, .ref mAi, .int mn, .ref mAr, .ref mAo, .int mf, .int mt, .int md, .ref mAc, .int mk, .ref mAg, .int mh, .ref mAe, .ref mAS, .ref mAp])), (mAx, .inl (cI, 32, .inl mx)), (mAy, .inl (cI, 32, .inl my)), (mAi, .inl (cZ, 32, .inl mi)), (mAr, .inl (cI, 32, .inl mr)), (mAo, .inl (cI, 32, .inl mo)), (mAc, .inl (cI, 34, .inl mc)), (mAg, .inl (cI, 34, .inl mg)), (mAe, .inl (cI, 128, .inl me)), (mAS, .inl (cJ, 2, .inr (.inl mS))), (mAp, .inl (cZ, 2, .inl mp))] → va_S A s.heap H locs → lv_has ls 8 [(0, .ref mA), (1, .int v1), (2, .int v2), (3, .int v3), (4, .int v4), (5, .int v5), (6, .int v6), (7, .int v7)] → W p l e R s m args below meth c H locs 0 0 Q (F0 m 84 ls []) := by
            intro mr mo mf mt md mc mk v3 v4 v7 hw H locs ls hP hD hS hl
            unfold wp_X6_told_84 at hw
            refine lv_iload_n hx hb dX6_told_84 rfl (lv_at hl 3 rfl) ?_
            refine lv_aload_n hx hb dX6_told_85 rfl (lv_at hl 0 rfl) ?_
            refine lv_iload hx hb dX6_told_86 (lv_at hl 6 rfl) ?_
            refine lv_iload hx hb dX6_told_88 (lv_at hl 7 rfl) ?_
            refine cl_Vl (As := [.int v6, .int v7]) (rest := [.int v3]) ⟨hx, hb, hml, hown, hts⟩ (c_X6_chainSet l D cI cJ cZ cO mA mAx mAy mAi mAr mAo mAc mAg mAe mAS mAp mx my mi mn mr mo mf mt md mc mk mg mh me mS mp v6 v7 _ hw) (cwV 2 hts gX6_told_X6_chainSet rfl rfl rfl hd_X6_chainSet ⟨Nat.le_trans (Nat.le_of_ble_eq_true rfl) hRf, Nat.le_trans (Nat.le_of_ble_eq_true rfl) hRl⟩) hK hP hD hS hA [0, 1, 2, 3, 4, 5, 6, 7, 8, 9, 10] [] rfl (by decide) rfl (by decide) (by decide) 0 5 rfl rfl rfl hl.1 rfl (Nat.le_of_ble_eq_true rfl) dX6_told_90 ⟨Nat.zero_le _, Nat.zero_le _⟩ (fun r90 u H locs hw hP hD hS => ?_)
            obtain ⟨mr_90, mo_90, mf_90, mt_90, md_90, mc_90, mk_90⟩ := u
            try dsimp only at hw
            have hP : va_P D vwCl [(mA, .inr (5, [.ref mAx, .ref mAy, .ref mAi, .int mn, .ref mAr, .ref mAo, .int mf_90, .int mt_90, .int md_90, .ref mAc, .int mk_90, .ref mAg, .int mh, .ref mAe, .ref mAS, .ref mAp])), (mAx, .inl (cI, 32, .inl mx)), (mAy, .inl (cI, 32, .inl my)), (mAi, .inl (cZ, 32, .inl mi)), (mAr, .inl (cI, 32, .inl mr_90)), (mAo, .inl (cI, 32, .inl mo_90)), (mAc, .inl (cI, 34, .inl mc_90)), (mAg, .inl (cI, 34, .inl mg)), (mAe, .inl (cI, 128, .inl me)), (mAS, .inl (cJ, 2, .inr (.inl mS))), (mAp, .inl (cZ, 2, .inl mp))] H := hP.sub [0, 1, 2, 3, 4, 5, 6, 7, 8, 9, 10] rfl
            have hD : va_D A [(mA, .inr (5, [.ref mAx, .ref mAy, .ref mAi, .int mn, .ref mAr, .ref mAo, .int mf_90, .int mt_90, .int md_90, .ref mAc, .int mk_90, .ref mAg, .int mh, .ref mAe, .ref mAS, .ref mAp])), (mAx, .inl (cI, 32, .inl mx)), (mAy, .inl (cI, 32, .inl my)), (mAi, .inl (cZ, 32, .inl mi)), (mAr, .inl (cI, 32, .inl mr_90)), (mAo, .inl (cI, 32, .inl mo_90)), (mAc, .inl (cI, 34, .inl mc_90)), (mAg, .inl (cI, 34, .inl mg)), (mAe, .inl (cI, 128, .inl me)), (mAS, .inl (cJ, 2, .inr (.inl mS))), (mAp, .inl (cZ, 2, .inl mp))] := hD.sub [0, 1, 2, 3, 4, 5, 6, 7, 8, 9, 10] (by decide) rfl
            refine cl_Si (As := [.long r90]) (rest := [.int v3]) ⟨hx, hb, hml, hown, hts⟩ (c_X6_bits l D cI cJ cZ cO   r90 _ hw) (va_cwS 1 hts gX6_told_X6_bits rfl rfl rfl hd_X6_bits.2 ⟨Nat.le_trans (Nat.le_of_ble_eq_true rfl) hRf, Nat.le_trans (Nat.le_of_ble_eq_true rfl) hRl⟩) hK hP hD hS hA [] [0, 1, 2, 3, 4, 5, 6, 7, 8, 9, 10] rfl (by decide) rfl (by decide) (by decide) rfl hl.1 rfl (Nat.le_of_ble_eq_true rfl) dX6_told_93 ⟨Nat.zero_le _, Nat.zero_le _⟩ (fun r93 _u H locs hw hP hD hS => ?_)
            try dsimp only at hw
            have hP : va_P D vwCl [(mA, .inr (5, [.ref mAx, .ref mAy, .ref mAi, .int mn, .ref mAr, .ref mAo, .int mf_90, .int mt_90, .int md_90, .ref mAc, .int mk_90, .ref mAg, .int mh, .ref mAe, .ref mAS, .ref mAp])), (mAx, .inl (cI, 32, .inl mx)), (mAy, .inl (cI, 32, .inl my)), (mAi, .inl (cZ, 32, .inl mi)), (mAr, .inl (cI, 32, .inl mr_90)), (mAo, .inl (cI, 32, .inl mo_90)), (mAc, .inl (cI, 34, .inl mc_90)), (mAg, .inl (cI, 34, .inl mg)), (mAe, .inl (cI, 128, .inl me)), (mAS, .inl (cJ, 2, .inr (.inl mS))), (mAp, .inl (cZ, 2, .inl mp))] H := hP.sub [0, 1, 2, 3, 4, 5, 6, 7, 8, 9, 10] rfl
            have hD : va_D A [(mA, .inr (5, [.ref mAx, .ref mAy, .ref mAi, .int mn, .ref mAr, .ref mAo, .int mf_90, .int mt_90, .int md_90, .ref mAc, .int mk_90, .ref mAg, .int mh, .ref mAe, .ref mAS, .ref mAp])), (mAx, .inl (cI, 32, .inl mx)), (mAy, .inl (cI, 32, .inl my)), (mAi, .inl (cZ, 32, .inl mi)), (mAr, .inl (cI, 32, .inl mr_90)), (mAo, .inl (cI, 32, .inl mo_90)), (mAc, .inl (cI, 34, .inl mc_90)), (mAg, .inl (cI, 34, .inl mg)), (mAe, .inl (cI, 128, .inl me)), (mAS, .inl (cJ, 2, .inr (.inl mS))), (mAp, .inl (cZ, 2, .inl mp))] := hD.sub [0, 1, 2, 3, 4, 5, 6, 7, 8, 9, 10] (by decide) rfl
            refine lv_iadd hx hb dX6_told_96 ?_
            refine lv_istore_n (lv' := [(3, .int (v3 + r93)), (0, .ref mA), (1, .int v1), (2, .int v2), (4, .int v4), (5, .int v5), (6, .int v6), (7, .int v7)]) hx hb dX6_told_97 rfl hl (by decide) rfl (fun ls hl => ?_)
            refine lv_iload hx hb dX6_told_98 (lv_at hl 4 rfl) ?_
            refine lv_iload hx hb dX6_told_100 (lv_at hl 6 rfl) ?_
            refine lv_iconst (v := 1) hx hb dX6_told_102 (by decide) ?_
            obtain ⟨hwA, hwB⟩ := hw
            refine lv_icmp_le (tgt := 117) hx hb dX6_told_103 (by decide) (fun cb => ?_) (fun cb => ?_)
            · have hw := hwA cb
              refine lv_iconst (v := 0) hx hb dX6_told_117 (by decide) ?_
              refine lv_iadd hx hb dX6_told_118 ?_
              refine lv_istore (lv' := [(4, .int (v4 + 0)), (3, .int (v3 + r93)), (0, .ref mA), (1, .int v1), (2, .int v2), (5, .int v5), (6, .int v6), (7, .int v7)]) hx hb dX6_told_119 hl (by decide) rfl (fun ls hl => ?_)
              refine lv_iinc (v := (v7 + 1)) (lv' := [(7, .int (v7 + 1)), (4, .int (v4 + 0)), (3, .int (v3 + r93)), (0, .ref mA), (1, .int v1), (2, .int v2), (5, .int v5), (6, .int v6)]) hx hb dX6_told_121 hl (k := 7) rfl rfl (by decide) rfl (fun ls hl => ?_)
              refine lv_goto (tgt := 68) hx hb dX6_told_124 (by decide) ?_
              exact ih68 mr_90 mo_90 mf_90 mt_90 md_90 mc_90 mk_90 (v3 + r93) (v4 + 0) (v7 + 1) hw _ _ _ hP hD hS (lv_sub hl [3, 4, 5, 2, 1, 6, 7, 0] rfl)
            · have hw := hwB cb
              refine lv_aload_n hx hb dX6_told_106 rfl (lv_at hl 1 rfl) ?_
              refine lv_iload hx hb dX6_told_107 (lv_at hl 6 rfl) ?_
              refine lv_iload hx hb dX6_told_109 (lv_at hl 7 rfl) ?_
              refine cl_Vi (As := [.int v6, .int v7]) (rest := [.int v4]) ⟨hx, hb, hml, hown, hts⟩ (c_X6_restOf l D cI cJ cZ cO mA mAx mAy mAi mAr mAo mAc mAg mAe mAS mAp mx my mi mn mr_90 mo_90 mf_90 mt_90 md_90 mc_90 mk_90 mg mh me mS mp v6 v7 _ hw) (cwV 2 hts gX6_told_X6_restOf rfl rfl rfl hd_X6_restOf ⟨Nat.le_trans (Nat.le_of_ble_eq_true rfl) hRf, Nat.le_trans (Nat.le_of_ble_eq_true rfl) hRl⟩) hK hP hD hS hA [0, 1, 2, 3, 4, 5, 6, 7, 8, 9, 10] [] rfl (by decide) rfl (by decide) (by decide) 0 5 rfl rfl rfl hl.1 rfl (Nat.le_of_ble_eq_true rfl) dX6_told_111 ⟨Nat.zero_le _, Nat.zero_le _⟩ (fun r111 u H locs hw hP hD hS => ?_)
              obtain ⟨mr_111, mo_111, mf_111, mt_111, md_111, mc_111, mk_111⟩ := u
              try dsimp only at hw
              have hP : va_P D vwCl [(mA, .inr (5, [.ref mAx, .ref mAy, .ref mAi, .int mn, .ref mAr, .ref mAo, .int mf_111, .int mt_111, .int md_111, .ref mAc, .int mk_111, .ref mAg, .int mh, .ref mAe, .ref mAS, .ref mAp])), (mAx, .inl (cI, 32, .inl mx)), (mAy, .inl (cI, 32, .inl my)), (mAi, .inl (cZ, 32, .inl mi)), (mAr, .inl (cI, 32, .inl mr_111)), (mAo, .inl (cI, 32, .inl mo_111)), (mAc, .inl (cI, 34, .inl mc_111)), (mAg, .inl (cI, 34, .inl mg)), (mAe, .inl (cI, 128, .inl me)), (mAS, .inl (cJ, 2, .inr (.inl mS))), (mAp, .inl (cZ, 2, .inl mp))] H := hP.sub [0, 1, 2, 3, 4, 5, 6, 7, 8, 9, 10] rfl
              have hD : va_D A [(mA, .inr (5, [.ref mAx, .ref mAy, .ref mAi, .int mn, .ref mAr, .ref mAo, .int mf_111, .int mt_111, .int md_111, .ref mAc, .int mk_111, .ref mAg, .int mh, .ref mAe, .ref mAS, .ref mAp])), (mAx, .inl (cI, 32, .inl mx)), (mAy, .inl (cI, 32, .inl my)), (mAi, .inl (cZ, 32, .inl mi)), (mAr, .inl (cI, 32, .inl mr_111)), (mAo, .inl (cI, 32, .inl mo_111)), (mAc, .inl (cI, 34, .inl mc_111)), (mAg, .inl (cI, 34, .inl mg)), (mAe, .inl (cI, 128, .inl me)), (mAS, .inl (cJ, 2, .inr (.inl mS))), (mAp, .inl (cZ, 2, .inl mp))] := hD.sub [0, 1, 2, 3, 4, 5, 6, 7, 8, 9, 10] (by decide) rfl
              refine lv_goto (tgt := 118) hx hb dX6_told_114 (by decide) ?_
              refine lv_iadd hx hb dX6_told_118 ?_
              refine lv_istore (lv' := [(4, .int (v4 + r111)), (3, .int (v3 + r93)), (0, .ref mA), (1, .int v1), (2, .int v2), (5, .int v5), (6, .int v6), (7, .int v7)]) hx hb dX6_told_119 hl (by decide) rfl (fun ls hl => ?_)
              refine lv_iinc (v := (v7 + 1)) (lv' := [(7, .int (v7 + 1)), (4, .int (v4 + r111)), (3, .int (v3 + r93)), (0, .ref mA), (1, .int v1), (2, .int v2), (5, .int v5), (6, .int v6)]) hx hb dX6_told_121 hl (k := 7) rfl rfl (by decide) rfl (fun ls hl => ?_)
              refine lv_goto (tgt := 68) hx hb dX6_told_124 (by decide) ?_
              exact ih68 mr_111 mo_111 mf_111 mt_111 md_111 mc_111 mk_111 (v3 + r93) (v4 + r111) (v7 + 1) hw _ _ _ hP hD hS (lv_sub hl [3, 4, 5, 2, 1, 6, 7, 0] rfl)
          refine lv_iload hx hb dX6_told_68 (lv_at hl 7 rfl) ?_
          refine lv_iconst (v := 2) hx hb dX6_told_70 (by decide) ?_
          obtain ⟨hwA, hwB⟩ := hw
          refine lv_icmp_ge (tgt := 127) hx hb dX6_told_71 (by decide) (fun cb => ?_) (fun cb => ?_)
          · have hw := hwA cb
            refine lv_iinc (v := (v6 + 1)) (lv' := [(6, .int (v6 + 1)), (0, .ref mA), (1, .int v1), (2, .int v2), (3, .int v3), (4, .int v4), (5, .int v5), (7, .int v7)]) hx hb dX6_told_127 hl (k := 6) rfl rfl (by decide) rfl (fun ls hl => ?_)
            refine lv_goto (tgt := 26) hx hb dX6_told_130 (by decide) ?_
            exact ih26 mr mo mf mt md mc mk v2 v3 v4 v5 (v6 + 1) hw _ _ _ hP hD hS (lv_sub hl [1, 2, 3, 4, 5, 6, 0] rfl)
          · have hw := hwB cb
            refine lv_iload_n hx hb dX6_told_74 rfl (lv_at hl 1 rfl) ?_
            refine lv_iconst (v := 2) hx hb dX6_told_75 (by decide) ?_
            obtain ⟨hwA, hwB⟩ := hw
            refine lv_icmp_eq (tgt := 84) hx hb dX6_told_76 (by decide) (fun cb => ?_) (fun cb => ?_)
            · have hw := hwA cb
              exact N84 mr mo mf mt md mc mk v3 v4 v7 hw _ _ _ hP hD hS (lv_sub hl [0, 1, 2, 3, 4, 5, 6, 7] rfl)
            · have hw := hwB cb
              refine lv_iload_n hx hb dX6_told_79 rfl (lv_at hl 1 rfl) ?_
              refine lv_iconst (v := 3) hx hb dX6_told_80 (by decide) ?_
              obtain ⟨hwA, hwB⟩ := hw
              refine lv_icmp_ne (tgt := 127) hx hb dX6_told_81 (by decide) (fun cb => ?_) (fun cb => ?_)
              · have hw := hwA cb
                refine lv_iinc (v := (v6 + 1)) (lv' := [(6, .int (v6 + 1)), (0, .ref mA), (1, .int v1), (2, .int v2), (3, .int v3), (4, .int v4), (5, .int v5), (7, .int v7)]) hx hb dX6_told_127 hl (k := 6) rfl rfl (by decide) rfl (fun ls hl => ?_)
                refine lv_goto (tgt := 26) hx hb dX6_told_130 (by decide) ?_
                exact ih26 mr mo mf mt md mc mk v2 v3 v4 v5 (v6 + 1) hw _ _ _ hP hD hS (lv_sub hl [1, 2, 3, 4, 5, 6, 0] rfl)
              · have hw := hwB cb
                exact N84 mr mo mf mt md mc mk v3 v4 v7 hw _ _ _ hP hD hS (lv_sub hl [0, 1, 2, 3, 4, 5, 6, 7] rfl)
      refine lv_iload hx hb dX6_told_26 (lv_at hl 6 rfl) ?_
      refine lv_bipush (v := 64) hx hb dX6_told_28 (by decide) ?_
      obtain ⟨hwA, hwB⟩ := hw
      refine lv_icmp_ge (tgt := 133) hx hb dX6_told_30 (by decide) (fun cb => ?_) (fun cb => ?_)
      · have hw := hwA cb
        refine lv_iload_n hx hb dX6_told_133 rfl (lv_at hl 1 rfl) ?_
        obtain ⟨hwA, hwB⟩ := hw
        refine lv_if_ne (tgt := 144) hx hb dX6_told_134 (by decide) (fun cb => ?_) (fun cb => ?_)
        · have hw := hwA cb
          refine lv_iload_n hx hb dX6_told_144 rfl (lv_at hl 1 rfl) ?_
          refine lv_iconst (v := 1) hx hb dX6_told_145 (by decide) ?_
          obtain ⟨hwA, hwB⟩ := hw
          refine lv_icmp_ne (tgt := 153) hx hb dX6_told_146 (by decide) (fun cb => ?_) (fun cb => ?_)
          · have hw := hwA cb
            refine lv_iload_n hx hb dX6_told_153 rfl (lv_at hl 1 rfl) ?_
            refine lv_iconst (v := 2) hx hb dX6_told_154 (by decide) ?_
            obtain ⟨hwA, hwB⟩ := hw
            refine lv_icmp_ne (tgt := 162) hx hb dX6_told_155 (by decide) (fun cb => ?_) (fun cb => ?_)
            · have hw := hwA cb
              refine lv_iload_n hx hb dX6_told_162 rfl (lv_at hl 1 rfl) ?_
              refine lv_iconst (v := 3) hx hb dX6_told_163 (by decide) ?_
              obtain ⟨hwA, hwB⟩ := hw
              refine lv_icmp_ne (tgt := 172) hx hb dX6_told_164 (by decide) (fun cb => ?_) (fun cb => ?_)
              · have hw := hwA cb
                refine lv_iload hx hb dX6_told_172 (lv_at hl 5 rfl) ?_
                exact ret _ _ _ _ v5 (mr, mo, mf, mt, md, mc, mk) (vp_nar_int _) hw hP hD hS dX6_told_174
              · have hw := hwB cb
                refine lv_iload hx hb dX6_told_167 (lv_at hl 4 rfl) ?_
                refine lv_goto (tgt := 174) hx hb dX6_told_169 (by decide) ?_
                exact ret _ _ _ _ v4 (mr, mo, mf, mt, md, mc, mk) (vp_nar_int _) hw hP hD hS dX6_told_174
            · have hw := hwB cb
              refine lv_iload_n hx hb dX6_told_158 rfl (lv_at hl 3 rfl) ?_
              refine lv_goto (tgt := 174) hx hb dX6_told_159 (by decide) ?_
              exact ret _ _ _ _ v3 (mr, mo, mf, mt, md, mc, mk) (vp_nar_int _) hw hP hD hS dX6_told_174
          · have hw := hwB cb
            refine lv_iload_n hx hb dX6_told_149 rfl (lv_at hl 2 rfl) ?_
            refine lv_goto (tgt := 174) hx hb dX6_told_150 (by decide) ?_
            exact ret _ _ _ _ v2 (mr, mo, mf, mt, md, mc, mk) (vp_nar_int _) hw hP hD hS dX6_told_174
        · have hw := hwB cb
          refine lv_aload_n hx hb dX6_told_137 rfl (lv_at hl 0 rfl) ?_
          refine va_get (D := D) (ci := 5) (v := .int mn) (C := RX6) (T := TX6) (N := 16) hx hb hts in_X6_told_X6 hown hK hP 0 rfl rfl 3 (by decide) (hts (.fieldLink RX6 55 "LiveHullModel" "many" "I") (List.mem_of_getElem? (i := 2) rfl)) (fun _ h9 => h9) rfl dX6_told_138 ?_
          refine lv_goto (tgt := 174) hx hb dX6_told_141 (by decide) ?_
          exact ret _ _ _ _ mn (mr, mo, mf, mt, md, mc, mk) (vp_nar_int _) hw hP hD hS dX6_told_174
      · have hw := hwB cb
        refine lv_aload_n hx hb dX6_told_33 rfl (lv_at hl 0 rfl) ?_
        refine lv_iload hx hb dX6_told_34 (lv_at hl 6 rfl) ?_
        refine cl_Vi (As := [.int v6]) (rest := []) ⟨hx, hb, hml, hown, hts⟩ (c_X6_layPart l D cI cJ cZ cO mA mAx mAy mAi mAr mAo mAc mAg mAe mAS mAp mx my mi mn mr mo mf mt md mc mk mg mh me mS mp v6 _ hw) (cwV 1 hts gX6_told_X6_layPart rfl rfl rfl hd_X6_layPart ⟨Nat.le_trans (Nat.le_of_ble_eq_true rfl) hRf, Nat.le_trans (Nat.le_of_ble_eq_true rfl) hRl⟩) hK hP hD hS hA [0, 1, 2, 3, 4, 5, 6, 7, 8, 9, 10] [] rfl (by decide) rfl (by decide) (by decide) 0 5 rfl rfl rfl hl.1 rfl (Nat.le_of_ble_eq_true rfl) dX6_told_36 ⟨Nat.zero_le _, Nat.zero_le _⟩ (fun r36 u H locs hw hP hD hS => ?_)
        obtain ⟨mr_36, mo_36, mf_36, mt_36, md_36⟩ := u
        try dsimp only at hw
        have hP : va_P D vwCl [(mA, .inr (5, [.ref mAx, .ref mAy, .ref mAi, .int mn, .ref mAr, .ref mAo, .int mf_36, .int mt_36, .int md_36, .ref mAc, .int mk, .ref mAg, .int mh, .ref mAe, .ref mAS, .ref mAp])), (mAx, .inl (cI, 32, .inl mx)), (mAy, .inl (cI, 32, .inl my)), (mAi, .inl (cZ, 32, .inl mi)), (mAr, .inl (cI, 32, .inl mr_36)), (mAo, .inl (cI, 32, .inl mo_36)), (mAc, .inl (cI, 34, .inl mc)), (mAg, .inl (cI, 34, .inl mg)), (mAe, .inl (cI, 128, .inl me)), (mAS, .inl (cJ, 2, .inr (.inl mS))), (mAp, .inl (cZ, 2, .inl mp))] H := hP.sub [0, 1, 2, 3, 4, 5, 6, 7, 8, 9, 10] rfl
        have hD : va_D A [(mA, .inr (5, [.ref mAx, .ref mAy, .ref mAi, .int mn, .ref mAr, .ref mAo, .int mf_36, .int mt_36, .int md_36, .ref mAc, .int mk, .ref mAg, .int mh, .ref mAe, .ref mAS, .ref mAp])), (mAx, .inl (cI, 32, .inl mx)), (mAy, .inl (cI, 32, .inl my)), (mAi, .inl (cZ, 32, .inl mi)), (mAr, .inl (cI, 32, .inl mr_36)), (mAo, .inl (cI, 32, .inl mo_36)), (mAc, .inl (cI, 34, .inl mc)), (mAg, .inl (cI, 34, .inl mg)), (mAe, .inl (cI, 128, .inl me)), (mAS, .inl (cJ, 2, .inr (.inl mS))), (mAp, .inl (cZ, 2, .inl mp))] := hD.sub [0, 1, 2, 3, 4, 5, 6, 7, 8, 9, 10] (by decide) rfl
        obtain ⟨hwA, hwB⟩ := hw
        refine lv_if_eq (tgt := 127) hx hb dX6_told_39 (by decide) (fun cb => ?_) (fun cb => ?_)
        · have hw := hwA cb
          refine lv_iinc (v := (v6 + 1)) (lv' := [(6, .int (v6 + 1)), (0, .ref mA), (1, .int v1), (2, .int v2), (3, .int v3), (4, .int v4), (5, .int v5)]) hx hb dX6_told_127 hl (k := 6) rfl rfl (by decide) rfl (fun ls hl => ?_)
          refine lv_goto (tgt := 26) hx hb dX6_told_130 (by decide) ?_
          exact ih26 mr_36 mo_36 mf_36 mt_36 md_36 mc mk v2 v3 v4 v5 (v6 + 1) hw _ _ _ hP hD hS (lv_sub hl [1, 2, 3, 4, 5, 6, 0] rfl)
        · have hw := hwB cb
          refine lv_iinc (v := (v2 + 1)) (lv' := [(2, .int (v2 + 1)), (0, .ref mA), (1, .int v1), (3, .int v3), (4, .int v4), (5, .int v5), (6, .int v6)]) hx hb dX6_told_42 hl (k := 2) rfl rfl (by decide) rfl (fun ls hl => ?_)
          refine lv_aload_n hx hb dX6_told_45 rfl (lv_at hl 1 rfl) ?_
          refine va_get (D := D) (ci := 5) (v := .int md_36) (C := RX6) (T := TX6) (N := 16) hx hb hts in_X6_told_X6 hown hK hP 0 rfl rfl 8 (by decide) (hts (.fieldLink RX6 72 "LiveHullModel" "depth" "I") (List.mem_of_getElem? (i := 1) rfl)) (fun _ h9 => h9) rfl dX6_told_46 ?_
          refine lv_iload hx hb dX6_told_49 (lv_at hl 5 rfl) ?_
          obtain ⟨hwA, hwB⟩ := hw
          refine lv_icmp_le (tgt := 61) hx hb dX6_told_51 (by decide) (fun cb => ?_) (fun cb => ?_)
          · have hw := hwA cb
            refine lv_iload hx hb dX6_told_61 (lv_at hl 5 rfl) ?_
            refine lv_istore (lv' := [(5, .int v5), (2, .int (v2 + 1)), (0, .ref mA), (1, .int v1), (3, .int v3), (4, .int v4), (6, .int v6)]) hx hb dX6_told_63 hl (by decide) rfl (fun ls hl => ?_)
            refine lv_iconst (v := 0) hx hb dX6_told_65 (by decide) ?_
            refine lv_istore (lv' := [(7, .int 0), (5, .int v5), (2, .int (v2 + 1)), (0, .ref mA), (1, .int v1), (3, .int v3), (4, .int v4), (6, .int v6)]) hx hb dX6_told_66 hl (by decide) rfl (fun ls hl => ?_)
            obtain ⟨k, hw⟩ := hw
            exact N68 (v2 + 1) v5 v6 k mr_36 mo_36 mf_36 mt_36 md_36 mc mk v3 v4 0 hw _ _ _ hP hD hS (lv_sub hl [3, 4, 2, 5, 6, 1, 7, 0] rfl)
          · have hw := hwB cb
            refine lv_aload_n hx hb dX6_told_54 rfl (lv_at hl 1 rfl) ?_
            refine va_get (D := D) (ci := 5) (v := .int md_36) (C := RX6) (T := TX6) (N := 16) hx hb hts in_X6_told_X6 hown hK hP 0 rfl rfl 8 (by decide) (hts (.fieldLink RX6 72 "LiveHullModel" "depth" "I") (List.mem_of_getElem? (i := 1) rfl)) (fun _ h9 => h9) rfl dX6_told_55 ?_
            refine lv_goto (tgt := 63) hx hb dX6_told_58 (by decide) ?_
            refine lv_istore (lv' := [(5, .int md_36), (2, .int (v2 + 1)), (0, .ref mA), (1, .int v1), (3, .int v3), (4, .int v4), (6, .int v6)]) hx hb dX6_told_63 hl (by decide) rfl (fun ls hl => ?_)
            refine lv_iconst (v := 0) hx hb dX6_told_65 (by decide) ?_
            refine lv_istore (lv' := [(7, .int 0), (5, .int md_36), (2, .int (v2 + 1)), (0, .ref mA), (1, .int v1), (3, .int v3), (4, .int v4), (6, .int v6)]) hx hb dX6_told_66 hl (by decide) rfl (fun ls hl => ?_)
            obtain ⟨k, hw⟩ := hw
            exact N68 (v2 + 1) md_36 v6 k mr_36 mo_36 mf_36 mt_36 md_36 mc mk v3 v4 0 hw _ _ _ hP hD hS (lv_sub hl [3, 4, 2, 5, 6, 1, 7, 0] rfl)
  unfold wp_X6_told at hw
  refine lv_iload_n hx hb dX6_told_0 rfl (lv_at hl 1 rfl) ?_
  refine lv_iconst (v := 0) hx hb dX6_told_1 (by decide) ?_
  refine lv_iconst (v := 4) hx hb dX6_told_2 (by decide) ?_
  refine cl_Si (As := [.int v1, .int 0, .int 4]) (rest := []) ⟨hx, hb, hml, hown, hts⟩ (c_X6_in l D cI cJ cZ cO   v1 0 4 _ hw) (va_cwS 3 hts gX6_told_X6_in rfl rfl rfl hd_X6_in.2 ⟨Nat.le_trans (Nat.le_of_ble_eq_true rfl) hRf, Nat.le_trans (Nat.le_of_ble_eq_true rfl) hRl⟩) hK hP hD hS hA [] [0, 1, 2, 3, 4, 5, 6, 7, 8, 9, 10] rfl (by decide) rfl (by decide) (by decide) rfl hl.1 rfl (Nat.le_of_ble_eq_true rfl) dX6_told_3 ⟨Nat.zero_le _, Nat.zero_le _⟩ (fun r3 _u H locs hw hP hD hS => ?_)
  try dsimp only at hw
  have hP : va_P D vwCl [(mA, .inr (5, [.ref mAx, .ref mAy, .ref mAi, .int mn, .ref mAr, .ref mAo, .int mf, .int mt, .int md, .ref mAc, .int mk, .ref mAg, .int mh, .ref mAe, .ref mAS, .ref mAp])), (mAx, .inl (cI, 32, .inl mx)), (mAy, .inl (cI, 32, .inl my)), (mAi, .inl (cZ, 32, .inl mi)), (mAr, .inl (cI, 32, .inl mr)), (mAo, .inl (cI, 32, .inl mo)), (mAc, .inl (cI, 34, .inl mc)), (mAg, .inl (cI, 34, .inl mg)), (mAe, .inl (cI, 128, .inl me)), (mAS, .inl (cJ, 2, .inr (.inl mS))), (mAp, .inl (cZ, 2, .inl mp))] H := hP.sub [0, 1, 2, 3, 4, 5, 6, 7, 8, 9, 10] rfl
  have hD : va_D A [(mA, .inr (5, [.ref mAx, .ref mAy, .ref mAi, .int mn, .ref mAr, .ref mAo, .int mf, .int mt, .int md, .ref mAc, .int mk, .ref mAg, .int mh, .ref mAe, .ref mAS, .ref mAp])), (mAx, .inl (cI, 32, .inl mx)), (mAy, .inl (cI, 32, .inl my)), (mAi, .inl (cZ, 32, .inl mi)), (mAr, .inl (cI, 32, .inl mr)), (mAo, .inl (cI, 32, .inl mo)), (mAc, .inl (cI, 34, .inl mc)), (mAg, .inl (cI, 34, .inl mg)), (mAe, .inl (cI, 128, .inl me)), (mAS, .inl (cJ, 2, .inr (.inl mS))), (mAp, .inl (cZ, 2, .inl mp))] := hD.sub [0, 1, 2, 3, 4, 5, 6, 7, 8, 9, 10] (by decide) rfl
  obtain ⟨hwA, hwB⟩ := hw
  refine lv_if_ne (tgt := 12) hx hb dX6_told_6 (by decide) (fun cb => ?_) (fun cb => ?_)
  · have hw := hwA cb
    refine lv_iconst (v := 0) hx hb dX6_told_12 (by decide) ?_
    refine lv_istore_n (lv' := [(2, .int 0), (0, .ref mA), (1, .int v1)]) hx hb dX6_told_13 rfl hl (by decide) rfl (fun ls hl => ?_)
    refine lv_iconst (v := 0) hx hb dX6_told_14 (by decide) ?_
    refine lv_istore_n (lv' := [(3, .int 0), (2, .int 0), (0, .ref mA), (1, .int v1)]) hx hb dX6_told_15 rfl hl (by decide) rfl (fun ls hl => ?_)
    refine lv_iconst (v := 0) hx hb dX6_told_16 (by decide) ?_
    refine lv_istore (lv' := [(4, .int 0), (3, .int 0), (2, .int 0), (0, .ref mA), (1, .int v1)]) hx hb dX6_told_17 hl (by decide) rfl (fun ls hl => ?_)
    refine lv_bipush (v := (-6)) hx hb dX6_told_19 (by decide) ?_
    refine lv_istore (lv' := [(5, .int (-6)), (4, .int 0), (3, .int 0), (2, .int 0), (0, .ref mA), (1, .int v1)]) hx hb dX6_told_21 hl (by decide) rfl (fun ls hl => ?_)
    refine lv_iconst (v := 1) hx hb dX6_told_23 (by decide) ?_
    refine lv_istore (lv' := [(6, .int 1), (5, .int (-6)), (4, .int 0), (3, .int 0), (2, .int 0), (0, .ref mA), (1, .int v1)]) hx hb dX6_told_24 hl (by decide) rfl (fun ls hl => ?_)
    obtain ⟨k, hw⟩ := hw
    exact N26  k mr mo mf mt md mc mk 0 0 0 (-6) 1 hw _ _ _ hP hD hS (lv_sub hl [5, 6, 4, 3, 2, 1, 0] rfl)
  · have hw := hwB cb
    refine lv_bipush (v := (-2)) hx hb dX6_told_9 (by decide) ?_
    exact ret _ _ _ _ (-2) (mr, mo, mf, mt, md, mc, mk) (vp_nar_int _) hw hP hD hS dX6_told_11
