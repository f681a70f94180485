/-- X5_isPlace -/
def wp_X5_isPlace (v0 : Int32) (v1 : Int32) (K : Int32 → Prop) : Prop := ((v0 < ((-1000000000) : Int32) → (K 0)) ∧ (¬ v0 < ((-1000000000) : Int32) → (((1000000000 : Int32) < v0 → (K 0)) ∧ (¬ (1000000000 : Int32) < v0 → ((v1 < ((-1000000000) : Int32) → (K 0)) ∧ (¬ v1 < ((-1000000000) : Int32) → (((1000000000 : Int32) < v1 → (K 0)) ∧ (¬ (1000000000 : Int32) < v1 → (K 1)))))))))
/-- X5_isSide -/
def wp_X5_isSide (v0 : Int32) (K : Int32 → Prop) : Prop := ((v0 = 0 → (K 1)) ∧ (¬ v0 = 0 → ((¬ v0 = (1 : Int32) → (K 0)) ∧ (v0 = (1 : Int32) → (K 1)))))
/-- X5_isImage -/
def wp_X5_isImage (v0 : Int32) (K : Int32 → Prop) : Prop := ((v0 < 0 → (K 0)) ∧ (¬ v0 < 0 → (((2 : Int32) ≤ v0 → (K 0)) ∧ (¬ (2 : Int32) ≤ v0 → (K 1)))))
/-- X5_trace -/
def wp_X5_trace (px : Nat → Int32) (py : Nat → Int32) (qf : Nat → Int32) (qs : Nat → Int32) (nr : Nat → Int32) (ns : Int32) (v2 : Int32) (v3 : Int32) (K : (Nat → Int32) → Int32 → Prop) : Prop := (vp_in v2 64 ∧ (vp_in v2 64 ∧ (wp_X0_trace nr ns px py (qf v2.toNatClampNeg) (qs v2.toNatClampNeg) v3 (fun nr_24 ns_24 => (K nr_24 ns_24)))))
/-- X5_cornersOf -/
def wp_X5_cornersOf (px : Nat → Int32) (py : Nat → Int32) (qf : Nat → Int32) (qs : Nat → Int32) (tr : Nat → Int32) (ts : Int32) (v1 : Int32) (v2 : Int32) (K : Int32 → (Nat → Int32) → Int32 → Prop) : Prop := (wp_X5_trace px py qf qs tr ts v1 v2 (fun tr_7 ts_7 => (K ts_7 tr_7 ts_7)))
/-- X5_restOf -/
def wp_X5_restOf_27b (px : Nat → Int32) (py : Nat → Int32) (qf : Nat → Int32) (qs : Nat → Int32) (v1 : Int32) (v2 : Int32) (K : Int32 → (Nat → Int32) → Int32 → (Nat → Int32) → Int32 → Prop) (L27 : Int32 → Int32 → Prop)  (tr : Nat → Int32) (ts : Int32) (gr : Nat → Int32) (gs : Int32) (v3 : Int32) (v4 : Int32) : Prop := ((ts ≤ v4 → (K v3 tr ts gr gs)) ∧ (¬ ts ≤ v4 → (vp_in v4 32 ∧ (wp_X1_has gr gs (tr v4.toNatClampNeg) (fun r53 => ((¬ r53 = 0 → (L27 v3 (v4 + 1))) ∧ (r53 = 0 → (L27 (v3 + 1) (v4 + 1)))))))))
def wp_X5_restOf_27 (px : Nat → Int32) (py : Nat → Int32) (qf : Nat → Int32) (qs : Nat → Int32) (v1 : Int32) (v2 : Int32) (K : Int32 → (Nat → Int32) → Int32 → (Nat → Int32) → Int32 → Prop)  (tr : Nat → Int32) (ts : Int32) (gr : Nat → Int32) (gs : Int32) : Nat → Int32 → Int32 → Prop
  | 0 => fun _ _ => False
  | k + 1 => fun v3 v4 => wp_X5_restOf_27b px py qf qs v1 v2 K (wp_X5_restOf_27 px py qf qs v1 v2 K  tr ts gr gs k)  tr ts gr gs v3 v4
def wp_X5_restOf (px : Nat → Int32) (py : Nat → Int32) (qf : Nat → Int32) (qs : Nat → Int32) (tr : Nat → Int32) (ts : Int32) (gr : Nat → Int32) (gs : Int32) (v1 : Int32) (v2 : Int32) (K : Int32 → (Nat → Int32) → Int32 → (Nat → Int32) → Int32 → Prop) : Prop := (wp_X5_trace px py qf qs tr ts v1 v2 (fun tr_7 ts_7 => (wp_X5_trace px py qf qs gr gs (v1 / 2) v2 (fun gr_19 gs_19 => (∃ k, wp_X5_restOf_27 px py qf qs v1 v2 K  tr_7 ts_7 gr_19 gs_19 k 0 0)))))
/-- X5_topOf -/
def wp_X5_topOf_2b (px : Nat → Int32) (py : Nat → Int32) (qf : Nat → Int32) (qs : Nat → Int32) (v1 : Int32) (v2 : Int32) (K : Int32 → (Nat → Int32) → Int32 → Prop) (L2 : (Nat → Int32) → Int32 → Int32 → Prop)   (tr : Nat → Int32) (ts : Int32) (v3 : Int32) : Prop := (((63 : Int32) < v3 → (K (-6) tr ts)) ∧ (¬ (63 : Int32) < v3 → (wp_X2_holds qf qs v3 v1 (fun r14 => ((r14 = 0 → (L2 tr ts (v3 + 1))) ∧ (¬ r14 = 0 → (wp_X5_trace px py qf qs tr ts v3 v2 (fun tr_27 ts_27 => (wp_X1_has tr_27 ts_27 v1 (fun r35 => ((r35 = 0 → (L2 tr_27 ts_27 (v3 + 1))) ∧ (¬ r35 = 0 → (wp_X2_depthOf v3 (fun r42 => (K r42 tr_27 ts_27)))))))))))))))
def wp_X5_topOf_2 (px : Nat → Int32) (py : Nat → Int32) (qf : Nat → Int32) (qs : Nat → Int32) (v1 : Int32) (v2 : Int32) (K : Int32 → (Nat → Int32) → Int32 → Prop)   : Nat → (Nat → Int32) → Int32 → Int32 → Prop
  | 0 => fun _ _ _ => False
  | k + 1 => fun tr ts v3 => wp_X5_topOf_2b px py qf qs v1 v2 K (wp_X5_topOf_2 px py qf qs v1 v2 K   k)   tr ts v3
def wp_X5_topOf (px : Nat → Int32) (py : Nat → Int32) (qf : Nat → Int32) (qs : Nat → Int32) (tr : Nat → Int32) (ts : Int32) (v1 : Int32) (v2 : Int32) (K : Int32 → (Nat → Int32) → Int32 → Prop) : Prop := (∃ k, wp_X5_topOf_2 px py qf qs v1 v2 K   k tr ts 1)
/-- X5_cornersOfAll -/
def wp_X5_cornersOfAll_4b (px : Nat → Int32) (py : Nat → Int32) (qf : Nat → Int32) (qs : Nat → Int32) (K : Int32 → (Nat → Int32) → Int32 → Prop) (L4 : (Nat → Int32) → Int32 → Int32 → Int32 → Prop)   (tr : Nat → Int32) (ts : Int32) (v1 : Int32) (v2 : Int32) : Prop := (((63 : Int32) < v2 → (K v1 tr ts)) ∧ (¬ (63 : Int32) < v2 → (wp_X2_has qs v2 (fun r15 => ((r15 = 0 → (L4 tr ts v1 (v2 + 1))) ∧ (¬ r15 = 0 → (wp_X5_cornersOf px py qf qs tr ts v2 0 (fun r25 tr_25 ts_25 => (wp_X5_cornersOf px py qf qs tr_25 ts_25 v2 1 (fun r31 tr_31 ts_31 => (L4 tr_31 ts_31 (v1 + (r25 + r31)) (v2 + 1))))))))))))
def wp_X5_cornersOfAll_4 (px : Nat → Int32) (py : Nat → Int32) (qf : Nat → Int32) (qs : Nat → Int32) (K : Int32 → (Nat → Int32) → Int32 → Prop)   : Nat → (Nat → Int32) → Int32 → Int32 → Int32 → Prop
  | 0 => fun _ _ _ _ => False
  | k + 1 => fun tr ts v1 v2 => wp_X5_cornersOfAll_4b px py qf qs K (wp_X5_cornersOfAll_4 px py qf qs K   k)   tr ts v1 v2
def wp_X5_cornersOfAll (px : Nat → Int32) (py : Nat → Int32) (qf : Nat → Int32) (qs : Nat → Int32) (tr : Nat → Int32) (ts : Int32) (K : Int32 → (Nat → Int32) → Int32 → Prop) : Prop := (∃ k, wp_X5_cornersOfAll_4 px py qf qs K   k tr ts 0 1)
/-- X5_restsOfAll -/
def wp_X5_restsOfAll_4b (px : Nat → Int32) (py : Nat → Int32) (qf : Nat → Int32) (qs : Nat → Int32) (K : Int32 → (Nat → Int32) → Int32 → (Nat → Int32) → Int32 → Prop) (L4 : (Nat → Int32) → Int32 → (Nat → Int32) → Int32 → Int32 → Int32 → Prop)   (tr : Nat → Int32) (ts : Int32) (gr : Nat → Int32) (gs : Int32) (v1 : Int32) (v2 : Int32) : Prop := (((63 : Int32) < v2 → (K v1 tr ts gr gs)) ∧ (¬ (63 : Int32) < v2 → (wp_X2_has qs v2 (fun r15 => ((r15 = 0 → (L4 tr ts gr gs v1 (v2 + 1))) ∧ (¬ r15 = 0 → (wp_X5_restOf px py qf qs tr ts gr gs v2 0 (fun r25 tr_25 ts_25 gr_25 gs_25 => (wp_X5_restOf px py qf qs tr_25 ts_25 gr_25 gs_25 v2 1 (fun r31 tr_31 ts_31 gr_31 gs_31 => (L4 tr_31 ts_31 gr_31 gs_31 (v1 + (r25 + r31)) (v2 + 1))))))))))))
def wp_X5_restsOfAll_4 (px : Nat → Int32) (py : Nat → Int32) (qf : Nat → Int32) (qs : Nat → Int32) (K : Int32 → (Nat → Int32) → Int32 → (Nat → Int32) → Int32 → Prop)   : Nat → (Nat → Int32) → Int32 → (Nat → Int32) → Int32 → Int32 → Int32 → Prop
  | 0 => fun _ _ _ _ _ _ => False
  | k + 1 => fun tr ts gr gs v1 v2 => wp_X5_restsOfAll_4b px py qf qs K (wp_X5_restsOfAll_4 px py qf qs K   k)   tr ts gr gs v1 v2
def wp_X5_restsOfAll (px : Nat → Int32) (py : Nat → Int32) (qf : Nat → Int32) (qs : Nat → Int32) (tr : Nat → Int32) (ts : Int32) (gr : Nat → Int32) (gs : Int32) (K : Int32 → (Nat → Int32) → Int32 → (Nat → Int32) → Int32 → Prop) : Prop := (∃ k, wp_X5_restsOfAll_4 px py qf qs K   k tr ts gr gs 0 2)
/-- X5_gatherRing -/
def wp_X5_gatherRing (px : Nat → Int32) (py : Nat → Int32) (pn : Int32) (tr : Nat → Int32) (ts : Int32) (rr : Nat → Int32) (rs : Int32) (K : (Nat → Int32) → Int32 → (Nat → Int32) → Int32 → Prop) : Prop := (wp_X4_clear rs (fun rs_4 => (wp_X0_trace tr ts px py 0 pn 1 (fun tr_24 ts_24 => (wp_X4_takeRightward rr rs_4 tr_24 ts_24 (fun rr_35 rs_35 => (wp_X0_trace tr_24 ts_24 px py 0 pn 0 (fun tr_55 ts_55 => (wp_X4_takeLeftward rr_35 rs_35 tr_55 ts_55 (fun rr_66 rs_66 => (K tr_55 ts_55 rr_66 rs_66)))))))))))
/-- X5_add -/
def wp_X5_add (pd : Nat → Int32) (px : Nat → Int32) (py : Nat → Int32) (pn : Int32) (qf : Nat → Int32) (qs : Nat → Int32) (v1 : Int32) (v2 : Int32) (K : Int32 → (Nat → Int32) → (Nat → Int32) → (Nat → Int32) → Int32 → (Nat → Int32) → (Nat → Int32) → Prop) : Prop := (wp_X5_isPlace v1 v2 (fun r2 => ((¬ r2 = 0 → (wp_X3_isTaken px py pn v1 v2 (fun r17 => ((r17 = 0 → (wp_X3_leastFreeId pd pn (fun r30 => ((¬ r30 = ((-6) : Int32) → (wp_X3_insert pd px py pn r30 v1 v2 (fun pd_50 px_50 py_50 pn_50 => (wp_X2_split qf qs pn_50 (fun qf_64 qs_64 => (K r30 pd_50 px_50 py_50 pn_50 qf_64 qs_64)))))) ∧ (r30 = ((-6) : Int32) → (K (-4) pd px py pn qf qs)))))) ∧ (¬ r17 = 0 → (K (-5) pd px py pn qf qs)))))) ∧ (r2 = 0 → (K (-2) pd px py pn qf qs)))))
/-- X5_remove -/
def wp_X5_remove (pd : Nat → Int32) (px : Nat → Int32) (py : Nat → Int32) (pn : Int32) (qf : Nat → Int32) (qs : Nat → Int32) (v1 : Int32) (K : Int32 → (Nat → Int32) → (Nat → Int32) → (Nat → Int32) → Int32 → (Nat → Int32) → (Nat → Int32) → Prop) : Prop := (wp_X3_rankOf pd pn v1 (fun r5 => ((¬ r5 = ((-6) : Int32) → (wp_X3_delete pd px py pn r5 (fun pd_22 px_22 py_22 pn_22 => (wp_X2_split qf qs pn_22 (fun qf_36 qs_36 => (K pn_22 pd_22 px_22 py_22 pn_22 qf_36 qs_36)))))) ∧ (r5 = ((-6) : Int32) → (K (-1) pd px py pn qf qs)))))
/-- X5_move -/
def wp_X5_move (pd : Nat → Int32) (px : Nat → Int32) (py : Nat → Int32) (pn : Int32) (v1 : Int32) (v2 : Int32) (v3 : Int32) (K : Int32 → (Nat → Int32) → (Nat → Int32) → (Nat → Int32) → Int32 → Prop) : Prop := (wp_X3_rankOf pd pn v1 (fun r5 => ((¬ r5 = ((-6) : Int32) → (wp_X5_isPlace v2 v3 (fun r21 => ((¬ r21 = 0 → (wp_X3_isTaken px py pn v2 v3 (fun r36 => ((r36 = 0 → (wp_X3_delete pd px py pn r5 (fun pd_51 px_51 py_51 pn_51 => (wp_X3_insert pd_51 px_51 py_51 pn_51 v1 v2 v3 (fun pd_61 px_61 py_61 pn_61 => (K 1 pd_61 px_61 py_61 pn_61)))))) ∧ (¬ r36 = 0 → (K (-5) pd px py pn)))))) ∧ (r21 = 0 → (K (-2) pd px py pn)))))) ∧ (r5 = ((-6) : Int32) → (K (-1) pd px py pn)))))
/-- X5_point -/
def wp_X5_point (pd : Nat → Int32) (px : Nat → Int32) (py : Nat → Int32) (pn : Int32) (qf : Nat → Int32) (qs : Nat → Int32) (tr : Nat → Int32) (ts : Int32) (v1 : Int32) (v2 : Int32) (K : Int32 → (Nat → Int32) → Int32 → Prop) : Prop := (wp_X3_rankOf pd pn v1 (fun r5 => ((¬ r5 = ((-6) : Int32) → ((v2 = 0 → (vp_in r5 32 ∧ (K (px r5.toNatClampNeg) tr ts))) ∧ (¬ v2 = 0 → ((v2 = 1 → (vp_in r5 32 ∧ (K (py r5.toNatClampNeg) tr ts))) ∧ (¬ v2 = 1 → ((v2 = 2 → (K r5 tr ts)) ∧ (¬ v2 = 2 → ((v2 = 3 → (wp_X5_topOf px py qf qs tr ts r5 0 (fun r77 tr_77 ts_77 => (K r77 tr_77 ts_77)))) ∧ (¬ v2 = 3 → ((v2 = 4 → (wp_X5_topOf px py qf qs tr ts r5 1 (fun r84 tr_84 ts_84 => (K r84 tr_84 ts_84)))) ∧ (¬ v2 = 4 → (K (-2) tr ts)))))))))))) ∧ (r5 = ((-6) : Int32) → (K (-1) tr ts)))))
/-- X5_ranked -/
def wp_X5_ranked (pd : Nat → Int32) (pn : Int32) (v1 : Int32) (K : Int32 → Prop) : Prop := (wp_X3_idAt pd pn v1 (fun r5 => (K r5)))
/-- X5_part -/
def wp_X5_part (px : Nat → Int32) (py : Nat → Int32) (qf : Nat → Int32) (qs : Nat → Int32) (tr : Nat → Int32) (ts : Int32) (gr : Nat → Int32) (gs : Int32) (v1 : Int32) (v2 : Int32) (K : Int32 → (Nat → Int32) → Int32 → (Nat → Int32) → Int32 → Prop) : Prop := (wp_X2_has qs v1 (fun r5 => ((¬ r5 = 0 → ((v2 = 0 → (vp_in v1 64 ∧ (K (qs v1.toNatClampNeg) tr ts gr gs))) ∧ (¬ v2 = 0 → ((v2 = 1 → (vp_in v1 64 ∧ (K (qf v1.toNatClampNeg) tr ts gr gs))) ∧ (¬ v2 = 1 → ((v2 = 2 → (wp_X5_cornersOf px py qf qs tr ts v1 0 (fun r75 tr_75 ts_75 => (K r75 tr_75 ts_75 gr gs)))) ∧ (¬ v2 = 2 → ((v2 = 3 → (wp_X5_cornersOf px py qf qs tr ts v1 1 (fun r82 tr_82 ts_82 => (K r82 tr_82 ts_82 gr gs)))) ∧ (¬ v2 = 3 → ((v2 = 4 → ((¬ v1 = (1 : Int32) → (wp_X5_restOf px py qf qs tr ts gr gs v1 0 (fun r99 tr_99 ts_99 gr_99 gs_99 => (K r99 tr_99 ts_99 gr_99 gs_99)))) ∧ (v1 = (1 : Int32) → (K (-6) tr ts gr gs)))) ∧ (¬ v2 = 4 → ((v2 = 5 → ((¬ v1 = (1 : Int32) → (wp_X5_restOf px py qf qs tr ts gr gs v1 1 (fun r116 tr_116 ts_116 gr_116 gs_116 => (K r116 tr_116 ts_116 gr_116 gs_116)))) ∧ (v1 = (1 : Int32) → (K (-6) tr ts gr gs)))) ∧ (¬ v2 = 5 → (K (-2) tr ts gr gs)))))))))))))) ∧ (r5 = 0 → (K (-1) tr ts gr gs)))))
/-- X5_chain -/
def wp_X5_chain (pd : Nat → Int32) (px : Nat → Int32) (py : Nat → Int32) (pn : Int32) (qf : Nat → Int32) (qs : Nat → Int32) (tr : Nat → Int32) (ts : Int32) (v1 : Int32) (v2 : Int32) (v3 : Int32) (K : Int32 → (Nat → Int32) → Int32 → Prop) : Prop := (wp_X2_has qs v1 (fun r5 => ((¬ r5 = 0 → (wp_X5_isSide v2 (fun r14 => ((¬ r14 = 0 → (wp_X5_trace px py qf qs tr ts v1 v2 (fun tr_30 ts_30 => (wp_X1_rankAt tr_30 ts_30 v3 (fun r42 => (wp_X3_idAt pd pn r42 (fun r45 => (K r45 tr_30 ts_30)))))))) ∧ (r14 = 0 → (K (-2) tr ts)))))) ∧ (r5 = 0 → (K (-1) tr ts)))))
/-- X5_bridge -/
def wp_X5_bridge_100 (pd : Nat → Int32) (px : Nat → Int32) (py : Nat → Int32) (pn : Int32) (qf : Nat → Int32) (qs : Nat → Int32) (v1 : Int32) (v2 : Int32) (v3 : Int32) (K : Int32 → (Nat → Int32) → Int32 → Prop)  (tr : Nat → Int32) (ts : Int32) (s1 : Int32) : Prop := (wp_X3_idAt pd pn s1 (fun r100 => (K r100 tr ts)))
def wp_X5_bridge (pd : Nat → Int32) (px : Nat → Int32) (py : Nat → Int32) (pn : Int32) (qf : Nat → Int32) (qs : Nat → Int32) (tr : Nat → Int32) (ts : Int32) (v1 : Int32) (v2 : Int32) (v3 : Int32) (K : Int32 → (Nat → Int32) → Int32 → Prop) : Prop := (wp_X2_has qs v1 (fun r5 => ((¬ r5 = 0 → (wp_X2_hasHalves qs v1 (fun r18 => ((¬ r18 = 0 → (wp_X5_isSide v2 (fun r28 => ((r28 = 0 → (K (-2) tr ts)) ∧ (¬ r28 = 0 → ((v3 < 0 → (K (-2) tr ts)) ∧ (¬ v3 < 0 → ((v3 ≤ (1 : Int32) → (wp_X5_trace px py qf qs tr ts v1 v2 (fun tr_53 ts_53 => (vp_in (((2 : Int32) * v1) + 1) 64 ∧ ((¬ v3 = 0 → (wp_X0_firstFrom tr_53 ts_53 (qf (((2 : Int32) * v1) + 1).toNatClampNeg) (fun r97 => (wp_X5_bridge_100 pd px py pn qf qs v1 v2 v3 K  tr_53 ts_53 r97)))) ∧ (v3 = 0 → (wp_X0_lastBefore tr_53 ts_53 (qf (((2 : Int32) * v1) + 1).toNatClampNeg) (fun r85 => (wp_X5_bridge_100 pd px py pn qf qs v1 v2 v3 K  tr_53 ts_53 r85))))))))) ∧ (¬ v3 ≤ (1 : Int32) → (K (-2) tr ts)))))))))) ∧ (r18 = 0 → (K (-5) tr ts)))))) ∧ (r5 = 0 → (K (-1) tr ts)))))
/-- X5_round -/
def wp_X5_round (pd : Nat → Int32) (px : Nat → Int32) (py : Nat → Int32) (pn : Int32) (tr : Nat → Int32) (ts : Int32) (rr : Nat → Int32) (rs : Int32) (v1 : Int32) (K : Int32 → (Nat → Int32) → Int32 → (Nat → Int32) → Int32 → Prop) : Prop := (wp_X5_gatherRing px py pn tr ts rr rs (fun tr_1 ts_1 rr_1 rs_1 => ((¬ v1 = ((-1) : Int32) → (wp_X1_rankAt rr_1 rs_1 v1 (fun r28 => (wp_X3_idAt pd pn r28 (fun r31 => (K r31 tr_1 ts_1 rr_1 rs_1)))))) ∧ (v1 = ((-1) : Int32) → (K rs_1 tr_1 ts_1 rr_1 rs_1)))))
/-- X5_extreme -/
def wp_X5_extreme_32 (pd : Nat → Int32) (px : Nat → Int32) (py : Nat → Int32) (pn : Int32) (v1 : Int32) (v2 : Int32) (K : Int32 → (Nat → Int32) → Int32 → (Nat → Int32) → Int32 → Prop)  (tr : Nat → Int32) (ts : Int32) (rr : Nat → Int32) (rs : Int32) : Prop := (wp_X5_gatherRing px py pn tr ts rr rs (fun tr_33 ts_33 rr_33 rs_33 => (wp_X4_farthest rr_33 rs_33 px py v1 v2 (fun r50 => (wp_X3_idAt pd pn r50 (fun r53 => (K r53 tr_33 ts_33 rr_33 rs_33)))))))
def wp_X5_extreme (pd : Nat → Int32) (px : Nat → Int32) (py : Nat → Int32) (pn : Int32) (tr : Nat → Int32) (ts : Int32) (rr : Nat → Int32) (rs : Int32) (v1 : Int32) (v2 : Int32) (K : Int32 → (Nat → Int32) → Int32 → (Nat → Int32) → Int32 → Prop) : Prop := (wp_X5_isPlace v1 v2 (fun r2 => ((¬ r2 = 0 → ((pn = 0 → (K (-5) tr ts rr rs)) ∧ (¬ pn = 0 → ((¬ v1 = 0 → (wp_X5_extreme_32 pd px py pn v1 v2 K  tr ts rr rs)) ∧ (v1 = 0 → ((¬ v2 = 0 → (wp_X5_extreme_32 pd px py pn v1 v2 K  tr ts rr rs)) ∧ (v2 = 0 → (K (-5) tr ts rr rs)))))))) ∧ (r2 = 0 → (K (-2) tr ts rr rs)))))
/-- X5_where -/
def wp_X5_where (px : Nat → Int32) (py : Nat → Int32) (pn : Int32) (tr : Nat → Int32) (ts : Int32) (rr : Nat → Int32) (rs : Int32) (v1 : Int32) (v2 : Int32) (K : Int32 → (Nat → Int32) → Int32 → (Nat → Int32) → Int32 → Prop) : Prop := (wp_X5_isPlace v1 v2 (fun r2 => ((¬ r2 = 0 → (wp_X5_gatherRing px py pn tr ts rr rs (fun tr_12 ts_12 rr_12 rs_12 => (wp_X4_locate rr_12 rs_12 px py v1 v2 (fun r25 => (K r25 tr_12 ts_12 rr_12 rs_12)))))) ∧ (r2 = 0 → (K (-2) tr ts rr rs)))))
/-- X5_touch -/
def wp_X5_touch (pd : Nat → Int32) (px : Nat → Int32) (py : Nat → Int32) (pn : Int32) (tr : Nat → Int32) (ts : Int32) (rr : Nat → Int32) (rs : Int32) (v1 : Int32) (v2 : Int32) (v3 : Int32) (K : Int32 → (Nat → Int32) → Int32 → (Nat → Int32) → Int32 → Prop) : Prop := (wp_X5_isPlace v1 v2 (fun r2 => ((r2 = 0 → (K (-2) tr ts rr rs)) ∧ (¬ r2 = 0 → (wp_X5_isSide v3 (fun r9 => ((¬ r9 = 0 → ((¬ pn = 0 → (wp_X5_gatherRing px py pn tr ts rr rs (fun tr_32 ts_32 rr_32 rs_32 => (wp_X4_locate rr_32 rs_32 px py v1 v2 (fun r45 => ((r45 = 0 → (wp_X4_nearestTouching rr_32 rs_32 px py v1 v2 v3 (fun r69 => (wp_X3_idAt pd pn r69 (fun r72 => (K r72 tr_32 ts_32 rr_32 rs_32)))))) ∧ (¬ r45 = 0 → (K (-3) tr_32 ts_32 rr_32 rs_32)))))))) ∧ (pn = 0 → (K (-5) tr ts rr rs)))) ∧ (r9 = 0 → (K (-2) tr ts rr rs)))))))))
/-- X5_area -/
def wp_X5_area (px : Nat → Int32) (py : Nat → Int32) (pn : Int32) (tr : Nat → Int32) (ts : Int32) (rr : Nat → Int32) (rs : Int32) (K : Int64 → (Nat → Int32) → Int32 → (Nat → Int32) → Int32 → Prop) : Prop := (wp_X5_gatherRing px py pn tr ts rr rs (fun tr_1 ts_1 rr_1 rs_1 => (wp_X4_doubleArea rr_1 rs_1 px py (fun r12 => (K r12 tr_1 ts_1 rr_1 rs_1)))))
/-- X5_image -/
def wp_X5_image (pd : Nat → Int32) (px : Nat → Int32) (py : Nat → Int32) (pn : Int32) (kp : Nat → Int32) (ud : Nat → Int32) (ux : Nat → Int32) (uy : Nat → Int32) (un : Int32) (wd : Nat → Int32) (wx : Nat → Int32) (wy : Nat → Int32) (wn : Int32) (v1 : Int32) (K : Int32 → (Nat → Int32) → (Nat → Int32) → (Nat → Int32) → (Nat → Int32) → Int32 → (Nat → Int32) → (Nat → Int32) → (Nat → Int32) → Int32 → Prop) : Prop := (wp_X5_isImage v1 (fun r1 => ((¬ r1 = 0 → ((v1 = 0 → (wp_X3_copyFrom ud ux uy un pd px py pn (fun ud_20 ux_20 uy_20 un_20 => (vp_in v1 2 ∧ (K 1 (upd kp v1.toNatClampNeg (vp_nar .boolean 1)) ud_20 ux_20 uy_20 un_20 wd wx wy wn))))) ∧ (¬ v1 = 0 → (v1 = 1 ∧ (wp_X3_copyFrom wd wx wy wn pd px py pn (fun wd_20 wx_20 wy_20 wn_20 => (vp_in v1 2 ∧ (K 1 (upd kp v1.toNatClampNeg (vp_nar .boolean 1)) ud ux uy un wd_20 wx_20 wy_20 wn_20)))))))) ∧ (r1 = 0 → (K (-2) kp ud ux uy un wd wx wy wn)))))
/-- X5_restore -/
def wp_X5_restore (pd : Nat → Int32) (px : Nat → Int32) (py : Nat → Int32) (pn : Int32) (qf : Nat → Int32) (qs : Nat → Int32) (kp : Nat → Int32) (ud : Nat → Int32) (ux : Nat → Int32) (uy : Nat → Int32) (un : Int32) (wd : Nat → Int32) (wx : Nat → Int32) (wy : Nat → Int32) (wn : Int32) (v1 : Int32) (K : Int32 → (Nat → Int32) → (Nat → Int32) → (Nat → Int32) → Int32 → (Nat → Int32) → (Nat → Int32) → Prop) : Prop := (wp_X5_isImage v1 (fun r1 => ((¬ r1 = 0 → (vp_in v1 2 ∧ ((¬ (kp v1.toNatClampNeg) = 0 → ((v1 = 0 → (wp_X3_copyFrom pd px py pn ud ux uy un (fun pd_32 px_32 py_32 pn_32 => (wp_X2_split qf qs pn_32 (fun qf_46 qs_46 => (K 1 pd_32 px_32 py_32 pn_32 qf_46 qs_46)))))) ∧ (¬ v1 = 0 → (v1 = 1 ∧ (wp_X3_copyFrom pd px py pn wd wx wy wn (fun pd_32 px_32 py_32 pn_32 => (wp_X2_split qf qs pn_32 (fun qf_46 qs_46 => (K 1 pd_32 px_32 py_32 pn_32 qf_46 qs_46))))))))) ∧ ((kp v1.toNatClampNeg) = 0 → (K (-3) pd px py pn qf qs))))) ∧ (r1 = 0 → (K (-2) pd px py pn qf qs)))))
/-- X5_told -/
def wp_X5_told (px : Nat → Int32) (py : Nat → Int32) (pn : Int32) (qf : Nat → Int32) (qs : Nat → Int32) (tr : Nat → Int32) (ts : Int32) (gr : Nat → Int32) (gs : Int32) (v1 : Int32) (K : Int32 → (Nat → Int32) → Int32 → (Nat → Int32) → Int32 → Prop) : Prop := ((v1 = 0 → (K pn tr ts gr gs)) ∧ (¬ v1 = 0 → ((v1 = 1 → (wp_X2_howMany qs (fun r48 => (K r48 tr ts gr gs)))) ∧ (¬ v1 = 1 → ((v1 = 2 → (wp_X5_cornersOfAll px py qf qs tr ts (fun r53 tr_53 ts_53 => (K r53 tr_53 ts_53 gr gs)))) ∧ (¬ v1 = 2 → ((v1 = 3 → (wp_X5_restsOfAll px py qf qs tr ts gr gs (fun r58 tr_58 ts_58 gr_58 gs_58 => (K r58 tr_58 ts_58 gr_58 gs_58)))) ∧ (¬ v1 = 3 → ((v1 = 4 → (wp_X2_greatestDepth qs (fun r66 => (K r66 tr ts gr gs)))) ∧ (¬ v1 = 4 → (K (-2) tr ts gr gs)))))))))))
theorem hd_X5_isPlace : yX5_isPlace.cls = RX5 ∧ yX5_isPlace.cls ≠ "java/lang/invoke/MethodHandle" ∧ yX5_isPlace.cls ≠ "java/lang/invoke/VarHandle" ∧ (parseMethodDescriptor yX5_isPlace.desc).map (fun d => d.parameters.length) = some 2 := by decide +kernel
set_option maxHeartbeats 8000000 in
set_option maxRecDepth 100000 in
theorem c_X5_isPlace (l : Launch) (D : va_G) (cI cJ cZ cO : ClassId)   (v0 : Int32) (v1 : Int32) (K : Int32 → Prop) (hw : wp_X5_isPlace v0 v1 K) : Ci l D (tys4 cI cJ cZ cO) yX5_isPlace wsX5_isPlace { frames := 0, cells := 0, slots := 0, locals := 0 } [.int v0, .int v1] [] (fun (r : Int32) (_ : Unit) => K r) (fun _ => []) := by
  refine mt_i (cc := cX5_isPlace) (maxL := 2) (rt := .boolean) (by decide) rfl (Nat.le_of_ble_eq_true rfl) ?_
  intro p e s m args below meth c Q A R ls hRf hRl hx hb hml hown hts hK hA hP hD hS hl ret
  have hown : s.vm.findClass RX5 = some m.cls := hown
  have hl : lv_has ls 2 [(0, .int v0), (1, .int v1)] := hl
  unfold wp_X5_isPlace at hw
  refine lv_iload_n hx hb dX5_isPlace_0 rfl (lv_at hl 0 rfl) ?_
  refine lv_ldc (own := RX5) (v := (-1000000000)) hx hb hown (hts (.constant RX5 168 (-1000000000)) (List.mem_of_getElem? (i := 1) rfl)) dX5_isPlace_1 ?_
  obtain ⟨hwA, hwB⟩ := hw
  refine lv_icmp_lt (tgt := 28) hx hb dX5_isPlace_3 (by decide) (fun cb => ?_) (fun cb => ?_)
  · have hw := hwA cb
    refine lv_iconst (v := 0) hx hb dX5_isPlace_28 (by decide) ?_
    exact ret _ _ _ _ 0 () rfl hw hP hD hS dX5_isPlace_29
  · have hw := hwB cb
    refine lv_iload_n hx hb dX5_isPlace_6 rfl (lv_at hl 0 rfl) ?_
    refine lv_ldc (own := RX5) (v := 1000000000) hx hb hown (hts (.constant RX5 169 (1000000000)) (List.mem_of_getElem? (i := 2) rfl)) dX5_isPlace_7 ?_
    obtain ⟨hwA, hwB⟩ := hw
    refine lv_icmp_gt (tgt := 28) hx hb dX5_isPlace_9 (by decide) (fun cb => ?_) (fun cb => ?_)
    · have hw := hwA cb
      refine lv_iconst (v := 0) hx hb dX5_isPlace_28 (by decide) ?_
      exact ret _ _ _ _ 0 () rfl hw hP hD hS dX5_isPlace_29
    · have hw := hwB cb
      refine lv_iload_n hx hb dX5_isPlace_12 rfl (lv_at hl 1 rfl) ?_
      refine lv_ldc (own := RX5) (v := (-1000000000)) hx hb hown (hts (.constant RX5 168 (-1000000000)) (List.mem_of_getElem? (i := 1) rfl)) dX5_isPlace_13 ?_
      obtain ⟨hwA, hwB⟩ := hw
      refine lv_icmp_lt (tgt := 28) hx hb dX5_isPlace_15 (by decide) (fun cb => ?_) (fun cb => ?_)
      · have hw := hwA cb
        refine lv_iconst (v := 0) hx hb dX5_isPlace_28 (by decide) ?_
        exact ret _ _ _ _ 0 () rfl hw hP hD hS dX5_isPlace_29
      · have hw := hwB cb
        refine lv_iload_n hx hb dX5_isPlace_18 rfl (lv_at hl 1 rfl) ?_
        refine lv_ldc (own := RX5) (v := 1000000000) hx hb hown (hts (.constant RX5 169 (1000000000)) (List.mem_of_getElem? (i := 2) rfl)) dX5_isPlace_19 ?_
        obtain ⟨hwA, hwB⟩ := hw
        refine lv_icmp_gt (tgt := 28) hx hb dX5_isPlace_21 (by decide) (fun cb => ?_) (fun cb => ?_)
        · have hw := hwA cb
          refine lv_iconst (v := 0) hx hb dX5_isPlace_28 (by decide) ?_
          exact ret _ _ _ _ 0 () rfl hw hP hD hS dX5_isPlace_29
        · have hw := hwB cb
          refine lv_iconst (v := 1) hx hb dX5_isPlace_24 (by decide) ?_
          refine lv_goto (tgt := 29) hx hb dX5_isPlace_25 (by decide) ?_
          exact ret _ _ _ _ 1 () rfl hw hP hD hS dX5_isPlace_29
theorem hd_X5_isSide : yX5_isSide.cls = RX5 ∧ yX5_isSide.cls ≠ "java/lang/invoke/MethodHandle" ∧ yX5_isSide.cls ≠ "java/lang/invoke/VarHandle" ∧ (parseMethodDescriptor yX5_isSide.desc).map (fun d => d.parameters.length) = some 1 := by decide +kernel
set_option maxHeartbeats 8000000 in
set_option maxRecDepth 100000 in
theorem c_X5_isSide (l : Launch) (D : va_G) (cI cJ cZ cO : ClassId)   (v0 : Int32) (K : Int32 → Prop) (hw : wp_X5_isSide v0 K) : Ci l D (tys4 cI cJ cZ cO) yX5_isSide wsX5_isSide { frames := 0, cells := 0, slots := 0, locals := 0 } [.int v0] [] (fun (r : Int32) (_ : Unit) => K r) (fun _ => []) := by
  refine mt_i (cc := cX5_isSide) (maxL := 1) (rt := .boolean) (by decide) rfl (Nat.le_of_ble_eq_true rfl) ?_
  intro p e s m args below meth c Q A R ls hRf hRl hx hb hml hown hts hK hA hP hD hS hl ret
  have hown : s.vm.findClass RX5 = some m.cls := hown
  have hl : lv_has ls 1 [(0, .int v0)] := hl
  unfold wp_X5_isSide at hw
  refine lv_iload_n hx hb dX5_isSide_0 rfl (lv_at hl 0 rfl) ?_
  obtain ⟨hwA, hwB⟩ := hw
  refine lv_if_eq (tgt := 9) hx hb dX5_isSide_1 (by decide) (fun cb => ?_) (fun cb => ?_)
  · have hw := hwA cb
    refine lv_iconst (v := 1) hx hb dX5_isSide_9 (by decide) ?_
    refine lv_goto (tgt := 14) hx hb dX5_isSide_10 (by decide) ?_
    exact ret _ _ _ _ 1 () rfl hw hP hD hS dX5_isSide_14
  · have hw := hwB cb
    refine lv_iload_n hx hb dX5_isSide_4 rfl (lv_at hl 0 rfl) ?_
    refine lv_iconst (v := 1) hx hb dX5_isSide_5 (by decide) ?_
    obtain ⟨hwA, hwB⟩ := hw
    refine lv_icmp_ne (tgt := 13) hx hb dX5_isSide_6 (by decide) (fun cb => ?_) (fun cb => ?_)
    · have hw := hwA cb
      refine lv_iconst (v := 0) hx hb dX5_isSide_13 (by decide) ?_
      exact ret _ _ _ _ 0 () rfl hw hP hD hS dX5_isSide_14
    · have hw := hwB cb
      refine lv_iconst (v := 1) hx hb dX5_isSide_9 (by decide) ?_
      refine lv_goto (tgt := 14) hx hb dX5_isSide_10 (by decide) ?_
      exact ret _ _ _ _ 1 () rfl hw hP hD hS dX5_isSide_14
theorem hd_X5_isImage : yX5_isImage.cls = RX5 ∧ yX5_isImage.cls ≠ "java/lang/invoke/MethodHandle" ∧ yX5_isImage.cls ≠ "java/lang/invoke/VarHandle" ∧ (parseMethodDescriptor yX5_isImage.desc).map (fun d => d.parameters.length) = some 1 := by decide +kernel
set_option maxHeartbeats 8000000 in
set_option maxRecDepth 100000 in
theorem c_X5_isImage (l : Launch) (D : va_G) (cI cJ cZ cO : ClassId)   (v0 : Int32) (K : Int32 → Prop) (hw : wp_X5_isImage v0 K) : Ci l D (tys4 cI cJ cZ cO) yX5_isImage wsX5_isImage { frames := 0, cells := 0, slots := 0, locals := 0 } [.int v0] [] (fun (r : Int32) (_ : Unit) => K r) (fun _ => []) := by
  refine mt_i (cc := cX5_isImage) (maxL := 1) (rt := .boolean) (by decide) rfl (Nat.le_of_ble_eq_true rfl) ?_
  intro p e s m args below meth c Q A R ls hRf hRl hx hb hml hown hts hK hA hP hD hS hl ret
  have hown : s.vm.findClass RX5 = some m.cls := hown
  have hl : lv_has ls 1 [(0, .int v0)] := hl
  unfold wp_X5_isImage at hw
  refine lv_iload_n hx hb dX5_isImage_0 rfl (lv_at hl 0 rfl) ?_
  obtain ⟨hwA, hwB⟩ := hw
  refine lv_if_lt (tgt := 13) hx hb dX5_isImage_1 (by decide) (fun cb => ?_) (fun cb => ?_)
  · have hw := hwA cb
    refine lv_iconst (v := 0) hx hb dX5_isImage_13 (by decide) ?_
    exact ret _ _ _ _ 0 () rfl hw hP hD hS dX5_isImage_14
  · have hw := hwB cb
    refine lv_iload_n hx hb dX5_isImage_4 rfl (lv_at hl 0 rfl) ?_
    refine lv_iconst (v := 2) hx hb dX5_isImage_5 (by decide) ?_
    obtain ⟨hwA, hwB⟩ := hw
    refine lv_icmp_ge (tgt := 13) hx hb dX5_isImage_6 (by decide) (fun cb => ?_) (fun cb => ?_)
    · have hw := hwA cb
      refine lv_iconst (v := 0) hx hb dX5_isImage_13 (by decide) ?_
      exact ret _ _ _ _ 0 () rfl hw hP hD hS dX5_isImage_14
    · have hw := hwB cb
      refine lv_iconst (v := 1) hx hb dX5_isImage_9 (by decide) ?_
      refine lv_goto (tgt := 14) hx hb dX5_isImage_10 (by decide) ?_
      exact ret _ _ _ _ 1 () rfl hw hP hD hS dX5_isImage_14
theorem in_X5_trace_X2 : ∀ w ∈ wsX20, w ∈ wsX5_trace := fun _ h => List.mem_cons_of_mem _ (List.mem_append_left _ (List.mem_append_left _ (List.mem_append_left _ (List.mem_append_right _ h))))
theorem in_X5_trace_X5 : ∀ w ∈ wsX50, w ∈ wsX5_trace := fun _ h => List.mem_cons_of_mem _ (List.mem_append_left _ (List.mem_append_left _ (List.mem_append_left _ (List.mem_append_left _ (List.mem_append_right _ h)))))
theorem hd_X5_trace : yX5_trace.cls = RX5 ∧ yX5_trace.cls ≠ "java/lang/invoke/MethodHandle" ∧ yX5_trace.cls ≠ "java/lang/invoke/VarHandle" ∧ (parseMethodDescriptor yX5_trace.desc).map (fun d => d.parameters.length) = some 3 := by decide +kernel
set_option maxHeartbeats 8000000 in
set_option maxRecDepth 100000 in
theorem c_X5_trace (l : Launch) (D : va_G) (cI cJ cZ cO : ClassId) (HA pA pAd pAx pAy qA qAf qAs nA nAr tA gA rA IA KA : Nat) (pd : Nat → Int32) (px : Nat → Int32) (py : Nat → Int32) (pn : Int32) (qf : Nat → Int32) (qs : Nat → Int32) (nr : Nat → Int32) (ns : Int32) (v2 : Int32) (v3 : Int32) (K : (Nat → Int32) → Int32 → Prop) (hw : wp_X5_trace px py qf qs nr ns v2 v3 K) : Cv l D (tys4 cI cJ cZ cO) yX5_trace wsX5_trace { frames := 3, cells := 0, slots := 0, locals := 84 } [.ref HA, .ref nA, .int v2, .int v3] [(HA, .inr (4, [.ref pA, .ref qA, .ref tA, .ref gA, .ref rA, .ref IA, .ref KA])), (pA, .inr (2, [.ref pAd, .ref pAx, .ref pAy, .int pn])), (pAd, .inl (cI, 32, .inl pd)), (pAx, .inl (cI, 32, .inl px)), (pAy, .inl (cI, 32, .inl py)), (qA, .inr (1, [.ref qAf, .ref qAs])), (qAf, .inl (cI, 64, .inl qf)), (qAs, .inl (cI, 64, .inl qs)), (nA, .inr (0, [.ref nAr, .int ns])), (nAr, .inl (cI, 32, .inl nr))] (fun (u : (Nat → Int32) × (Int32)) => K u.1 u.2) (fun u => [(HA, .inr (4, [.ref pA, .ref qA, .ref tA, .ref gA, .ref rA, .ref IA, .ref KA])), (pA, .inr (2, [.ref pAd, .ref pAx, .ref pAy, .int pn])), (pAd, .inl (cI, 32, .inl pd)), (pAx, .inl (cI, 32, .inl px)), (pAy, .inl (cI, 32, .inl py)), (qA, .inr (1, [.ref qAf, .ref qAs])), (qAf, .inl (cI, 64, .inl qf)), (qAs, .inl (cI, 64, .inl qs)), (nA, .inr (0, [.ref nAr, .int u.2])), (nAr, .inl (cI, 32, .inl u.1))]) := by
  refine mt_v (cc := cX5_trace) (maxL := 4) (by decide) rfl (Nat.le_of_ble_eq_true rfl) ?_
  intro p e s m args below meth c Q A R ls hRf hRl hx hb hml hown hts hK hA hP hD hS hl ret
  have hown : s.vm.findClass RX5 = some m.cls := hown
  have hl : lv_has ls 4 [(0, .ref HA), (1, .ref nA), (2, .int v2), (3, .int v3)] := hl
  unfold wp_X5_trace at hw
  refine lv_aload_n hx hb dX5_trace_0 rfl (lv_at hl 1 rfl) ?_
  refine lv_aload_n hx hb dX5_trace_1 rfl (lv_at hl 0 rfl) ?_
  refine va_get (D := D) (ci := 4) (v := .ref pA) (C := RX5) (T := TX5) (N := 7) hx hb hts in_X5_trace_X5 hown hK hP 0 rfl rfl 0 (by decide) (hts (.fieldLink RX5 10 "LiveHull" "points" "LLiveHull$Points;") (List.mem_of_getElem? (i := 1) rfl)) (fun _ h9 => h9) rfl dX5_trace_2 ?_
  refine lv_aload_n hx hb dX5_trace_5 rfl (lv_at hl 0 rfl) ?_
  refine va_get (D := D) (ci := 4) (v := .ref qA) (C := RX5) (T := TX5) (N := 7) hx hb hts in_X5_trace_X5 hown hK hP 0 rfl rfl 1 (by decide) (hts (.fieldLink RX5 19 "LiveHull" "parts" "LLiveHull$Parts;") (List.mem_of_getElem? (i := 2) rfl)) (fun _ h9 => h9) rfl dX5_trace_6 ?_
  refine va_get (D := D) (ci := 1) (v := .ref qAf) (C := RX2) (T := TX2) (N := 2) hx hb hts in_X5_trace_X2 hown hK hP 5 rfl rfl 0 (by decide) (hts (.fieldLink RX5 99 "LiveHull$Parts" "firsts" "[I") (List.mem_of_getElem? (i := 3) rfl)) (fun _ h9 => h9) rfl dX5_trace_9 ?_
  refine lv_iload_n hx hb dX5_trace_12 rfl (lv_at hl 2 rfl) ?_
  obtain ⟨hi, hw⟩ := hw
  refine va_iald hx hb hK hP 6 0 rfl rfl hi dX5_trace_13 ?_
  refine lv_aload_n hx hb dX5_trace_14 rfl (lv_at hl 0 rfl) ?_
  refine va_get (D := D) (ci := 4) (v := .ref qA) (C := RX5) (T := TX5) (N := 7) hx hb hts in_X5_trace_X5 hown hK hP 0 rfl rfl 1 (by decide) (hts (.fieldLink RX5 19 "LiveHull" "parts" "LLiveHull$Parts;") (List.mem_of_getElem? (i := 2) rfl)) (fun _ h9 => h9) rfl dX5_trace_15 ?_
  refine va_get (D := D) (ci := 1) (v := .ref qAs) (C := RX2) (T := TX2) (N := 2) hx hb hts in_X5_trace_X2 hown hK hP 5 rfl rfl 1 (by decide) (hts (.fieldLink RX5 96 "LiveHull$Parts" "sizes" "[I") (List.mem_of_getElem? (i := 4) rfl)) (fun _ h9 => h9) rfl dX5_trace_18 ?_
  refine lv_iload_n hx hb dX5_trace_21 rfl (lv_at hl 2 rfl) ?_
  obtain ⟨hi, hw⟩ := hw
  refine va_iald hx hb hK hP 7 0 rfl rfl hi dX5_trace_22 ?_
  refine lv_iload_n hx hb dX5_trace_23 rfl (lv_at hl 3 rfl) ?_
  refine cl_Vv (As := [.ref pA, .int (qf v2.toNatClampNeg), .int (qs v2.toNatClampNeg), .int v3]) (rest := []) ⟨hx, hb, hml, hown, hts⟩ (c_X0_trace l D cI cJ cZ cO nA nAr pA pAd pAx pAy nr ns pd px py pn (qf v2.toNatClampNeg) (qs v2.toNatClampNeg) v3 _ hw) (cwV 4 hts gX5_trace_X0_trace rfl rfl rfl hd_X0_trace ⟨Nat.le_trans (Nat.le_of_ble_eq_true rfl) hRf, Nat.le_trans (Nat.le_of_ble_eq_true rfl) hRl⟩) hK hP hD hS hA [8, 9, 1, 2, 3, 4] [0, 5, 6, 7] rfl (by decide) rfl (by decide) (by decide) 8 0 rfl rfl rfl hl.1 rfl (Nat.le_of_ble_eq_true rfl) dX5_trace_24 ⟨Nat.zero_le _, Nat.zero_le _⟩ (fun u H locs hw hP hD hS => ?_)
  obtain ⟨nr_24, ns_24⟩ := u
  try dsimp only at hw
  have hP : va_P D vwCl [(HA, .inr (4, [.ref pA, .ref qA, .ref tA, .ref gA, .ref rA, .ref IA, .ref KA])), (pA, .inr (2, [.ref pAd, .ref pAx, .ref pAy, .int pn])), (pAd, .inl (cI, 32, .inl pd)), (pAx, .inl (cI, 32, .inl px)), (pAy, .inl (cI, 32, .inl py)), (qA, .inr (1, [.ref qAf, .ref qAs])), (qAf, .inl (cI, 64, .inl qf)), (qAs, .inl (cI, 64, .inl qs)), (nA, .inr (0, [.ref nAr, .int ns_24])), (nAr, .inl (cI, 32, .inl nr_24))] H := hP.sub [0, 6, 7, 8, 9, 1, 2, 3, 4, 5] rfl
  have hD : va_D A [(HA, .inr (4, [.ref pA, .ref qA, .ref tA, .ref gA, .ref rA, .ref IA, .ref KA])), (pA, .inr (2, [.ref pAd, .ref pAx, .ref pAy, .int pn])), (pAd, .inl (cI, 32, .inl pd)), (pAx, .inl (cI, 32, .inl px)), (pAy, .inl (cI, 32, .inl py)), (qA, .inr (1, [.ref qAf, .ref qAs])), (qAf, .inl (cI, 64, .inl qf)), (qAs, .inl (cI, 64, .inl qs)), (nA, .inr (0, [.ref nAr, .int ns_24])), (nAr, .inl (cI, 32, .inl nr_24))] := hD.sub [0, 6, 7, 8, 9, 1, 2, 3, 4, 5] (by decide) rfl
  exact ret _ _ _ _ (nr_24, ns_24) hw hP hD hS dX5_trace_27
theorem in_X5_cornersOf_X0 : ∀ w ∈ wsX00, w ∈ wsX5_cornersOf := fun _ h => List.mem_cons_of_mem _ (List.mem_append_left _ (List.mem_append_left _ (List.mem_append_left _ (List.mem_append_right _ h))))
theorem in_X5_cornersOf_X5 : ∀ w ∈ wsX50, w ∈ wsX5_cornersOf := fun _ h => List.mem_cons_of_mem _ (List.mem_append_left _ (List.mem_append_left _ (List.mem_append_left _ (List.mem_append_left _ (List.mem_append_right _ h)))))
theorem hd_X5_cornersOf : yX5_cornersOf.cls = RX5 ∧ yX5_cornersOf.cls ≠ "java/lang/invoke/MethodHandle" ∧ yX5_cornersOf.cls ≠ "java/lang/invoke/VarHandle" ∧ (parseMethodDescriptor yX5_cornersOf.desc).map (fun d => d.parameters.length) = some 2 := by decide +kernel
set_option maxHeartbeats 8000000 in
set_option maxRecDepth 100000 in
theorem c_X5_cornersOf (l : Launch) (D : va_G) (cI cJ cZ cO : ClassId) (HA pA pAd pAx pAy qA qAf qAs tA tAr gA rA IA KA : Nat) (pd : Nat → Int32) (px : Nat → Int32) (py : Nat → Int32) (pn : Int32) (qf : Nat → Int32) (qs : Nat → Int32) (tr : Nat → Int32) (ts : Int32) (v1 : Int32) (v2 : Int32) (K : Int32 → (Nat → Int32) → Int32 → Prop) (hw : wp_X5_cornersOf px py qf qs tr ts v1 v2 K) : Ci l D (tys4 cI cJ cZ cO) yX5_cornersOf wsX5_cornersOf { frames := 4, cells := 0, slots := 0, locals := 107 } [.ref HA, .int v1, .int v2] [(HA, .inr (4, [.ref pA, .ref qA, .ref tA, .ref gA, .ref rA, .ref IA, .ref KA])), (pA, .inr (2, [.ref pAd, .ref pAx, .ref pAy, .int pn])), (pAd, .inl (cI, 32, .inl pd)), (pAx, .inl (cI, 32, .inl px)), (pAy, .inl (cI, 32, .inl py)), (qA, .inr (1, [.ref qAf, .ref qAs])), (qAf, .inl (cI, 64, .inl qf)), (qAs, .inl (cI, 64, .inl qs)), (tA, .inr (0, [.ref tAr, .int ts])), (tAr, .inl (cI, 32, .inl tr))] (fun (r : Int32) (u : (Nat → Int32) × (Int32)) => K r u.1 u.2) (fun u => [(HA, .inr (4, [.ref pA, .ref qA, .ref tA, .ref gA, .ref rA, .ref IA, .ref KA])), (pA, .inr (2, [.ref pAd, .ref pAx, .ref pAy, .int pn])), (pAd, .inl (cI, 32, .inl pd)), (pAx, .inl (cI, 32, .inl px)), (pAy, .inl (cI, 32, .inl py)), (qA, .inr (1, [.ref qAf, .ref qAs])), (qAf, .inl (cI, 64, .inl qf)), (qAs, .inl (cI, 64, .inl qs)), (tA, .inr (0, [.ref tAr, .int u.2])), (tAr, .inl (cI, 32, .inl u.1))]) := by
  refine mt_i (cc := cX5_cornersOf) (maxL := 3) (rt := .int) (by decide) rfl (Nat.le_of_ble_eq_true rfl) ?_
  intro p e s m args below meth c Q A R ls hRf hRl hx hb hml hown hts hK hA hP hD hS hl ret
  have hown : s.vm.findClass RX5 = some m.cls := hown
  have hl : lv_has ls 3 [(0, .ref HA), (1, .int v1), (2, .int v2)] := hl
  unfold wp_X5_cornersOf at hw
  refine lv_aload_n hx hb dX5_cornersOf_0 rfl (lv_at hl 0 rfl) ?_
  refine lv_aload_n hx hb dX5_cornersOf_1 rfl (lv_at hl 0 rfl) ?_
  refine va_get (D := D) (ci := 4) (v := .ref tA) (C := RX5) (T := TX5) (N := 7) hx hb hts in_X5_cornersOf_X5 hown hK hP 0 rfl rfl 2 (by decide) (hts (.fieldLink RX5 26 "LiveHull" "traced" "LLiveHull$Chain;") (List.mem_of_getElem? (i := 1) rfl)) (fun _ h9 => h9) rfl dX5_cornersOf_2 ?_
  refine lv_iload_n hx hb dX5_cornersOf_5 rfl (lv_at hl 1 rfl) ?_
  refine lv_iload_n hx hb dX5_cornersOf_6 rfl (lv_at hl 2 rfl) ?_
  refine cl_Vv (As := [.ref tA, .int v1, .int v2]) (rest := []) ⟨hx, hb, hml, hown, hts⟩ (c_X5_trace l D cI cJ cZ cO HA pA pAd pAx pAy qA qAf qAs tA tAr tA gA rA IA KA pd px py pn qf qs tr ts v1 v2 _ hw) (cwV 3 hts gX5_cornersOf_X5_trace rfl rfl rfl hd_X5_trace ⟨Nat.le_trans (Nat.le_of_ble_eq_true rfl) hRf, Nat.le_trans (Nat.le_of_ble_eq_true rfl) hRl⟩) hK hP hD hS hA [0, 1, 2, 3, 4, 5, 6, 7, 8, 9] [] rfl (by decide) rfl (by decide) (by decide) 0 4 rfl rfl rfl hl.1 rfl (Nat.le_of_ble_eq_true rfl) dX5_cornersOf_7 ⟨Nat.zero_le _, Nat.zero_le _⟩ (fun u H locs hw hP hD hS => ?_)
  obtain ⟨tr_7, ts_7⟩ := u
  try dsimp only at hw
  have hP : va_P D vwCl [(HA, .inr (4, [.ref pA, .ref qA, .ref tA, .ref gA, .ref rA, .ref IA, .ref KA])), (pA, .inr (2, [.ref pAd, .ref pAx, .ref pAy, .int pn])), (pAd, .inl (cI, 32, .inl pd)), (pAx, .inl (cI, 32, .inl px)), (pAy, .inl (cI, 32, .inl py)), (qA, .inr (1, [.ref qAf, .ref qAs])), (qAf, .inl (cI, 64, .inl qf)), (qAs, .inl (cI, 64, .inl qs)), (tA, .inr (0, [.ref tAr, .int ts_7])), (tAr, .inl (cI, 32, .inl tr_7))] H := hP.sub [0, 1, 2, 3, 4, 5, 6, 7, 8, 9] rfl
  have hD : va_D A [(HA, .inr (4, [.ref pA, .ref qA, .ref tA, .ref gA, .ref rA, .ref IA, .ref KA])), (pA, .inr (2, [.ref pAd, .ref pAx, .ref pAy, .int pn])), (pAd, .inl (cI, 32, .inl pd)), (pAx, .inl (cI, 32, .inl px)), (pAy, .inl (cI, 32, .inl py)), (qA, .inr (1, [.ref qAf, .ref qAs])), (qAf, .inl (cI, 64, .inl qf)), (qAs, .inl (cI, 64, .inl qs)), (tA, .inr (0, [.ref tAr, .int ts_7])), (tAr, .inl (cI, 32, .inl tr_7))] := hD.sub [0, 1, 2, 3, 4, 5, 6, 7, 8, 9] (by decide) rfl
  refine lv_aload_n hx hb dX5_cornersOf_10 rfl (lv_at hl 0 rfl) ?_
  refine va_get (D := D) (ci := 4) (v := .ref tA) (C := RX5) (T := TX5) (N := 7) hx hb hts in_X5_cornersOf_X5 hown hK hP 0 rfl rfl 2 (by decide) (hts (.fieldLink RX5 26 "LiveHull" "traced" "LLiveHull$Chain;") (List.mem_of_getElem? (i := 1) rfl)) (fun _ h9 => h9) rfl dX5_cornersOf_11 ?_
  refine va_get (D := D) (ci := 0) (v := .int ts_7) (C := RX0) (T := TX0) (N := 2) hx hb hts in_X5_cornersOf_X0 hown hK hP 8 rfl rfl 1 (by decide) (hts (.fieldLink RX5 173 "LiveHull$Chain" "size" "I") (List.mem_of_getElem? (i := 2) rfl)) (fun x9 h9 => u_same (hts (.sameField "LiveHull$Chain" "LiveHull$Corners" "size" "I") (List.mem_of_getElem? (i := 3) rfl)) x9 h9) rfl dX5_cornersOf_14 ?_
  exact ret _ _ _ _ ts_7 (tr_7, ts_7) (vp_nar_int _) hw hP hD hS dX5_cornersOf_17
theorem in_X5_restOf_X0 : ∀ w ∈ wsX00, w ∈ wsX5_restOf := fun _ h => List.mem_cons_of_mem _ (List.mem_append_left _ (List.mem_append_left _ (List.mem_append_left _ (List.mem_append_right _ h))))
theorem in_X5_restOf_X5 : ∀ w ∈ wsX50, w ∈ wsX5_restOf := fun _ h => List.mem_cons_of_mem _ (List.mem_append_left _ (List.mem_append_left _ (List.mem_append_left _ (List.mem_append_left _ (List.mem_append_right _ h)))))
theorem hd_X5_restOf : yX5_restOf.cls = RX5 ∧ yX5_restOf.cls ≠ "java/lang/invoke/MethodHandle" ∧ yX5_restOf.cls ≠ "java/lang/invoke/VarHandle" ∧ (parseMethodDescriptor yX5_restOf.desc).map (fun d => d.parameters.length) = some 2 := by decide +kernel
set_option maxHeartbeats 8000000 in
set_option maxRecDepth 100000 in
theorem c_X5_restOf (l : Launch) (D : va_G) (cI cJ cZ cO : ClassId) (HA pA pAd pAx pAy qA qAf qAs tA tAr gA gAr rA IA KA : Nat) (pd : Nat → Int32) (px : Nat → Int32) (py : Nat → Int32) (pn : Int32) (qf : Nat → Int32) (qs : Nat → Int32) (tr : Nat → Int32) (ts : Int32) (gr : Nat → Int32) (gs : Int32) (v1 : Int32) (v2 : Int32) (K : Int32 → (Nat → Int32) → Int32 → (Nat → Int32) → Int32 → Prop) (hw : wp_X5_restOf px py qf qs tr ts gr gs v1 v2 K) : Ci l D (tys4 cI cJ cZ cO) yX5_restOf wsX5_restOf { frames := 4, cells := 0, slots := 0, locals := 107 } [.ref HA, .int v1, .int v2] [(HA, .inr (4, [.ref pA, .ref qA, .ref tA, .ref gA, .ref rA, .ref IA, .ref KA])), (pA, .inr (2, [.ref pAd, .ref pAx, .ref pAy, .int pn])), (pAd, .inl (cI, 32, .inl pd)), (pAx, .inl (cI, 32, .inl px)), (pAy, .inl (cI, 32, .inl py)), (qA, .inr (1, [.ref qAf, .ref qAs])), (qAf, .inl (cI, 64, .inl qf)), (qAs, .inl (cI, 64, .inl qs)), (tA, .inr (0, [.ref tAr, .int ts])), (tAr, .inl (cI, 32, .inl tr)), (gA, .inr (0, [.ref gAr, .int gs])), (gAr, .inl (cI, 32, .inl gr))] (fun (r : Int32) (u : (Nat → Int32) × (Int32) × (Nat → Int32) × (Int32)) => K r u.1 u.2.1 u.2.2.1 u.2.2.2) (fun u => [(HA, .inr (4, [.ref pA, .ref qA, .ref tA, .ref gA, .ref rA, .ref IA, .ref KA])), (pA, .inr (2, [.ref pAd, .ref pAx, .ref pAy, .int pn])), (pAd, .inl (cI, 32, .inl pd)), (pAx, .inl (cI, 32, .inl px)), (pAy, .inl (cI, 32, .inl py)), (qA, .inr (1, [.ref qAf, .ref qAs])), (qAf, .inl (cI, 64, .inl qf)), (qAs, .inl (cI, 64, .inl qs)), (tA, .inr (0, [.ref tAr, .int u.2.1])), (tAr, .inl (cI, 32, .inl u.1)), (gA, .inr (0, [.ref gAr, .int u.2.2.2])), (gAr, .inl (cI, 32, .inl u.2.2.1))]) := by
  refine mt_i (cc := cX5_restOf) (maxL := 5) (rt := .int) (by decide) rfl (Nat.le_of_ble_eq_true rfl) ?_
  intro p e s m args below meth c Q A R ls hRf hRl hx hb hml hown hts hK hA hP hD hS hl ret
  have hown : s.vm.findClass RX5 = some m.cls := hown
  have hl : lv_has ls 5 [(0, .ref HA), (1, .int v1), (2, .int v2)] := hl
  have N27 : ∀ (tr : Nat → Int32) (ts : Int32) (gr : Nat → Int32) (gs : Int32) (k : Nat) (v3 : Int32) (v4 : Int32), wp_X5_restOf_27 px py qf qs v1 v2 K  tr ts gr gs k v3 v4 → ∀ (H : Heap) (locs : List Loc) (ls : Array Slot), va_P D vwCl [(HA, .inr (4, [.ref pA, .ref qA, .ref tA, .ref gA, .ref rA, .ref IA, .ref KA])), (pA, .inr (2, [.ref pAd, .ref pAx, .ref pAy, .int pn])), (pAd, .inl (cI, 32, .inl pd)), (pAx, .inl (cI, 32, .inl px)), (pAy, .inl (cI, 32, .inl py)), (qA, .inr (1, [.ref qAf, .ref qAs])), (qAf, .inl (cI, 64, .inl qf)), (qAs, .inl (cI, 64, .inl qs)), (tA, .inr (0, [.ref tAr, .int ts])), (tAr, .inl (cI, 32, .inl tr)), (gA, .inr (0, [.ref gAr, .int gs])), (gAr, .inl (cI, 32, .inl gr))] H → va_D A [(HA, .inr (4, [.ref pA, .ref qA, .ref tA, .ref gA, .ref rA, .ref IA, .ref KA])), (pA, .inr (2, [.ref pAd, .ref pAx, .ref pAy, .int pn])), (pAd, .inl (cI, 32, .inl pd)), (pAx, .inl (cI, 32, .inl px)), (pAy, .inl (cI, 32, .inl py)), (qA, .inr (1, [.ref qAf, .ref qAs])), (qAf, .inl (cI, 64, .inl qf)), (qAs, .inl (cI, 64, .inl qs)), (tA, .inr (0, [.ref tAr, .int ts])), (tAr, .inl (cI, 32, .inl tr)), (gA, .inr (0, [.ref gAr, .int gs])), (gAr, .inl (cI, 32, .inl gr))] → va_S A s.heap H locs → lv_has ls 5 [(0, .ref HA), (3, .int v3), (4, .int v4)] → W p l e R s m args below meth c H locs 0 0 Q (F0 m 27 ls []) := by
    intro tr ts gr gs
    intro k
    induction k with
    | zero => intro v3 v4 hw; exact False.elim hw
    | succ k ih27 =>
      intro v3 v4 hw H locs ls hP hD hS hl
      have hw : wp_X5_restOf_27b px py qf qs v1 v2 K (wp_X5_restOf_27 px py qf qs v1 v2 K  tr ts gr gs k)  tr ts gr gs v3 v4 := hw
      unfold wp_X5_restOf_27b at hw
      generalize wp_X5_restOf_27 px py qf qs v1 v2 K  tr ts gr gs k = L27 at hw ih27
      refine lv_iload hx hb dX5_restOf_27 (lv_at hl 2 rfl) ?_
      refine lv_aload_n hx hb dX5_restOf_29 rfl (lv_at hl 0 rfl) ?_
      refine va_get (D := D) (ci := 4) (v := .ref tA) (C := RX5) (T := TX5) (N := 7) hx hb hts in_X5_restOf_X5 hown hK hP 0 rfl rfl 2 (by decide) (hts (.fieldLink RX5 26 "LiveHull" "traced" "LLiveHull$Chain;") (List.mem_of_getElem? (i := 1) rfl)) (fun _ h9 => h9) rfl dX5_restOf_30 ?_
      refine va_get (D := D) (ci := 0) (v := .int ts) (C := RX0) (T := TX0) (N := 2) hx hb hts in_X5_restOf_X0 hown hK hP 8 rfl rfl 1 (by decide) (hts (.fieldLink RX5 173 "LiveHull$Chain" "size" "I") (List.mem_of_getElem? (i := 3) rfl)) (fun x9 h9 => u_same (hts (.sameField "LiveHull$Chain" "LiveHull$Corners" "size" "I") (List.mem_of_getElem? (i := 4) rfl)) x9 h9) rfl dX5_restOf_33 ?_
      obtain ⟨hwA, hwB⟩ := hw
      refine lv_icmp_ge (tgt := 68) hx hb dX5_restOf_36 (by decide) (fun cb => ?_) (fun cb => ?_)
      · have hw := hwA cb
        refine lv_iload_n hx hb dX5_restOf_68 rfl (lv_at hl 1 rfl) ?_
        exact ret _ _ _ _ v3 (tr, ts, gr, gs) (vp_nar_int _) hw hP hD hS dX5_restOf_69
      · have hw := hwB cb
        refine lv_aload_n hx hb dX5_restOf_39 rfl (lv_at hl 0 rfl) ?_
        refine va_get (D := D) (ci := 4) (v := .ref gA) (C := RX5) (T := TX5) (N := 7) hx hb hts in_X5_restOf_X5 hown hK hP 0 rfl rfl 3 (by decide) (hts (.fieldLink RX5 30 "LiveHull" "tracedGreater" "LLiveHull$Chain;") (List.mem_of_getElem? (i := 2) rfl)) (fun _ h9 => h9) rfl dX5_restOf_40 ?_
        refine lv_aload_n hx hb dX5_restOf_43 rfl (lv_at hl 0 rfl) ?_
        refine va_get (D := D) (ci := 4) (v := .ref tA) (C := RX5) (T := TX5) (N := 7) hx hb hts in_X5_restOf_X5 hown hK hP 0 rfl rfl 2 (by decide) (hts (.fieldLink RX5 26 "LiveHull" "traced" "LLiveHull$Chain;") (List.mem_of_getElem? (i := 1) rfl)) (fun _ h9 => h9) rfl dX5_restOf_44 ?_
        refine va_get (D := D) (ci := 0) (v := .ref tAr) (C := RX0) (T := TX0) (N := 2) hx hb hts in_X5_restOf_X0 hown hK hP 8 rfl rfl 0 (by decide) (hts (.fieldLink RX5 174 "LiveHull$Chain" "ranks" "[I") (List.mem_of_getElem? (i := 5) rfl)) (fun x9 h9 => u_same (hts (.sameField "LiveHull$Chain" "LiveHull$Corners" "ranks" "[I") (List.mem_of_getElem? (i := 6) rfl)) x9 h9) rfl dX5_restOf_47 ?_
        refine lv_iload hx hb dX5_restOf_50 (lv_at hl 2 rfl) ?_
        obtain ⟨hi, hw⟩ := hw
        refine va_iald hx hb hK hP 9 0 rfl rfl hi dX5_restOf_52 ?_
        refine cl_Ui (As := [.int (tr v4.toNatClampNeg)]) (rest := []) ⟨hx, hb, hml, hown, hts⟩ (c_X1_has_X0 l D cI cJ cZ cO gA gAr gr gs (tr v4.toNatClampNeg) _ hw) (va_cwU 1 hts gX5_restOf_X1_has_u177X0 rfl rfl rfl rfl (by decide +kernel) ⟨Nat.le_trans (Nat.le_of_ble_eq_true rfl) hRf, Nat.le_trans (Nat.le_of_ble_eq_true rfl) hRl⟩) hK hP hD hS hA [10, 11] [0, 1, 2, 3, 4, 5, 6, 7, 8, 9] rfl (by decide) rfl (by decide) (by decide) 10 0 rfl rfl rfl hl.1 rfl (Nat.le_of_ble_eq_true rfl) dX5_restOf_53 ⟨Nat.zero_le _, Nat.zero_le _⟩ (fun r53 _u H locs hw hP hD hS => ?_)
        try dsimp only at hw
        have hP : va_P D vwCl [(HA, .inr (4, [.ref pA, .ref qA, .ref tA, .ref gA, .ref rA, .ref IA, .ref KA])), (pA, .inr (2, [.ref pAd, .ref pAx, .ref pAy, .int pn])), (pAd, .inl (cI, 32, .inl pd)), (pAx, .inl (cI, 32, .inl px)), (pAy, .inl (cI, 32, .inl py)), (qA, .inr (1, [.ref qAf, .ref qAs])), (qAf, .inl (cI, 64, .inl qf)), (qAs, .inl (cI, 64, .inl qs)), (tA, .inr (0, [.ref tAr, .int ts])), (tAr, .inl (cI, 32, .inl tr)), (gA, .inr (0, [.ref gAr, .int gs])), (gAr, .inl (cI, 32, .inl gr))] H := hP.sub [0, 1, 2, 3, 4, 5, 6, 7, 8, 9, 10, 11] rfl
        have hD : va_D A [(HA, .inr (4, [.ref pA, .ref qA, .ref tA, .ref gA, .ref rA, .ref IA, .ref KA])), (pA, .inr (2, [.ref pAd, .ref pAx, .ref pAy, .int pn])), (pAd, .inl (cI, 32, .inl pd)), (pAx, .inl (cI, 32, .inl px)), (pAy, .inl (cI, 32, .inl py)), (qA, .inr (1, [.ref qAf, .ref qAs])), (qAf, .inl (cI, 64, .inl qf)), (qAs, .inl (cI, 64, .inl qs)), (tA, .inr (0, [.ref tAr, .int ts])), (tAr, .inl (cI, 32, .inl tr)), (gA, .inr (0, [.ref gAr, .int gs])), (gAr, .inl (cI, 32, .inl gr))] := hD.sub [0, 1, 2, 3, 4, 5, 6, 7, 8, 9, 10, 11] (by decide) rfl
        obtain ⟨hwA, hwB⟩ := hw
        refine lv_if_ne (tgt := 62) hx hb dX5_restOf_56 (by decide) (fun cb => ?_) (fun cb => ?_)
        · have hw := hwA cb
          refine lv_iinc (v := (v4 + 1)) (lv' := [(4, .int (v4 + 1)), (0, .ref HA), (3, .int v3)]) hx hb dX5_restOf_62 hl (k := 2) rfl rfl (by decide) rfl (fun ls hl => ?_)
          refine lv_goto (tgt := 27) hx hb dX5_restOf_65 (by decide) ?_
          exact ih27 v3 (v4 + 1) hw _ _ _ hP hD hS (lv_sub hl [1, 2, 0] rfl)
        · have hw := hwB cb
          refine lv_iinc (v := (v3 + 1)) (lv' := [(3, .int (v3 + 1)), (0, .ref HA), (4, .int v4)]) hx hb dX5_restOf_59 hl (k := 1) rfl rfl (by decide) rfl (fun ls hl => ?_)
          refine lv_iinc (v := (v4 + 1)) (lv' := [(4, .int (v4 + 1)), (3, .int (v3 + 1)), (0, .ref HA)]) hx hb dX5_restOf_62 hl (k := 2) rfl rfl (by decide) rfl (fun ls hl => ?_)
          refine lv_goto (tgt := 27) hx hb dX5_restOf_65 (by decide) ?_
          exact ih27 (v3 + 1) (v4 + 1) hw _ _ _ hP hD hS (lv_sub hl [2, 1, 0] rfl)
  unfold wp_X5_restOf at hw
  refine lv_aload_n hx hb dX5_restOf_0 rfl (lv_at hl 0 rfl) ?_
  refine lv_aload_n hx hb dX5_restOf_1 rfl (lv_at hl 0 rfl) ?_
  refine va_get (D := D) (ci := 4) (v := .ref tA) (C := RX5) (T := TX5) (N := 7) hx hb hts in_X5_restOf_X5 hown hK hP 0 rfl rfl 2 (by decide) (hts (.fieldLink RX5 26 "LiveHull" "traced" "LLiveHull$Chain;") (List.mem_of_getElem? (i := 1) rfl)) (fun _ h9 => h9) rfl dX5_restOf_2 ?_
  refine lv_iload_n hx hb dX5_restOf_5 rfl (lv_at hl 1 rfl) ?_
  refine lv_iload_n hx hb dX5_restOf_6 rfl (lv_at hl 2 rfl) ?_
  refine cl_Vv (As := [.ref tA, .int v1, .int v2]) (rest := []) ⟨hx, hb, hml, hown, hts⟩ (c_X5_trace l D cI cJ cZ cO HA pA pAd pAx pAy qA qAf qAs tA tAr tA gA rA IA KA pd px py pn qf qs tr ts v1 v2 _ hw) (cwV 3 hts gX5_restOf_X5_trace rfl rfl rfl hd_X5_trace ⟨Nat.le_trans (Nat.le_of_ble_eq_true rfl) hRf, Nat.le_trans (Nat.le_of_ble_eq_true rfl) hRl⟩) hK hP hD hS hA [0, 1, 2, 3, 4, 5, 6, 7, 8, 9] [10, 11] rfl (by decide) rfl (by decide) (by decide) 0 4 rfl rfl rfl hl.1 rfl (Nat.le_of_ble_eq_true rfl) dX5_restOf_7 ⟨Nat.zero_le _, Nat.zero_le _⟩ (fun u H locs hw hP hD hS => ?_)
  obtain ⟨tr_7, ts_7⟩ := u
  try dsimp only at hw
  have hP : va_P D vwCl [(HA, .inr (4, [.ref pA, .ref qA, .ref tA, .ref gA, .ref rA, .ref IA, .ref KA])), (pA, .inr (2, [.ref pAd, .ref pAx, .ref pAy, .int pn])), (pAd, .inl (cI, 32, .inl pd)), (pAx, .inl (cI, 32, .inl px)), (pAy, .inl (cI, 32, .inl py)), (qA, .inr (1, [.ref qAf, .ref qAs])), (qAf, .inl (cI, 64, .inl qf)), (qAs, .inl (cI, 64, .inl qs)), (tA, .inr (0, [.ref tAr, .int ts_7])), (tAr, .inl (cI, 32, .inl tr_7)), (gA, .inr (0, [.ref gAr, .int gs])), (gAr, .inl (cI, 32, .inl gr))] H := hP.sub [2, 3, 4, 5, 6, 7, 8, 9, 10, 11, 0, 1] rfl
  have hD : va_D A [(HA, .inr (4, [.ref pA, .ref qA, .ref tA, .ref gA, .ref rA, .ref IA, .ref KA])), (pA, .inr (2, [.ref pAd, .ref pAx, .ref pAy, .int pn])), (pAd, .inl (cI, 32, .inl pd)), (pAx, .inl (cI, 32, .inl px)), (pAy, .inl (cI, 32, .inl py)), (qA, .inr (1, [.ref qAf, .ref qAs])), (qAf, .inl (cI, 64, .inl qf)), (qAs, .inl (cI, 64, .inl qs)), (tA, .inr (0, [.ref tAr, .int ts_7])), (tAr, .inl (cI, 32, .inl tr_7)), (gA, .inr (0, [.ref gAr, .int gs])), (gAr, .inl (cI, 32, .inl gr))] := hD.sub [2, 3, 4, 5, 6, 7, 8, 9, 10, 11, 0, 1] (by decide) rfl
  refine lv_aload_n hx hb dX5_restOf_10 rfl (lv_at hl 0 rfl) ?_
  refine lv_aload_n hx hb dX5_restOf_11 rfl (lv_at hl 0 rfl) ?_
  refine va_get (D := D) (ci := 4) (v := .ref gA) (C := RX5) (T := TX5) (N := 7) hx hb hts in_X5_restOf_X5 hown hK hP 0 rfl rfl 3 (by decide) (hts (.fieldLink RX5 30 "LiveHull" "tracedGreater" "LLiveHull$Chain;") (List.mem_of_getElem? (i := 2) rfl)) (fun _ h9 => h9) rfl dX5_restOf_12 ?_
  refine lv_iload_n hx hb dX5_restOf_15 rfl (lv_at hl 1 rfl) ?_
  refine lv_iconst (v := 2) hx hb dX5_restOf_16 (by decide) ?_
  refine lv_idiv hx hb dX5_restOf_17 (by decide) ?_
  refine lv_iload_n hx hb dX5_restOf_18 rfl (lv_at hl 2 rfl) ?_
  refine cl_Vv (As := [.ref gA, .int (v1 / 2), .int v2]) (rest := []) ⟨hx, hb, hml, hown, hts⟩ (c_X5_trace l D cI cJ cZ cO HA pA pAd pAx pAy qA qAf qAs gA gAr tA gA rA IA KA pd px py pn qf qs gr gs (v1 / 2) v2 _ hw) (cwV 3 hts gX5_restOf_X5_trace rfl rfl rfl hd_X5_trace ⟨Nat.le_trans (Nat.le_of_ble_eq_true rfl) hRf, Nat.le_trans (Nat.le_of_ble_eq_true rfl) hRl⟩) hK hP hD hS hA [0, 1, 2, 3, 4, 5, 6, 7, 10, 11] [8, 9] rfl (by decide) rfl (by decide) (by decide) 0 4 rfl rfl rfl hl.1 rfl (Nat.le_of_ble_eq_true rfl) dX5_restOf_19 ⟨Nat.zero_le _, Nat.zero_le _⟩ (fun u H locs hw hP hD hS => ?_)
  obtain ⟨gr_19, gs_19⟩ := u
  try dsimp only at hw
  have hP : va_P D vwCl [(HA, .inr (4, [.ref pA, .ref qA, .ref tA, .ref gA, .ref rA, .ref IA, .ref KA])), (pA, .inr (2, [.ref pAd, .ref pAx, .ref pAy, .int pn])), (pAd, .inl (cI, 32, .inl pd)), (pAx, .inl (cI, 32, .inl px)), (pAy, .inl (cI, 32, .inl py)), (qA, .inr (1, [.ref qAf, .ref qAs])), (qAf, .inl (cI, 64, .inl qf)), (qAs, .inl (cI, 64, .inl qs)), (tA, .inr (0, [.ref tAr, .int ts_7])), (tAr, .inl (cI, 32, .inl tr_7)), (gA, .inr (0, [.ref gAr, .int gs_19])), (gAr, .inl (cI, 32, .inl gr_19))] H := hP.sub [2, 3, 4, 5, 6, 7, 8, 9, 0, 1, 10, 11] rfl
  have hD : va_D A [(HA, .inr (4, [.ref pA, .ref qA, .ref tA, .ref gA, .ref rA, .ref IA, .ref KA])), (pA, .inr (2, [.ref pAd, .ref pAx, .ref pAy, .int pn])), (pAd, .inl (cI, 32, .inl pd)), (pAx, .inl (cI, 32, .inl px)), (pAy, .inl (cI, 32, .inl py)), (qA, .inr (1, [.ref qAf, .ref qAs])), (qAf, .inl (cI, 64, .inl qf)), (qAs, .inl (cI, 64, .inl qs)), (tA, .inr (0, [.ref tAr, .int ts_7])), (tAr, .inl (cI, 32, .inl tr_7)), (gA, .inr (0, [.ref gAr, .int gs_19])), (gAr, .inl (cI, 32, .inl gr_19))] := hD.sub [2, 3, 4, 5, 6, 7, 8, 9, 0, 1, 10, 11] (by decide) rfl
  refine lv_iconst (v := 0) hx hb dX5_restOf_22 (by decide) ?_
  refine lv_istore_n (lv' := [(3, .int 0), (0, .ref HA), (1, .int v1), (2, .int v2)]) hx hb dX5_restOf_23 rfl hl (by decide) rfl (fun ls hl => ?_)
  refine lv_iconst (v := 0) hx hb dX5_restOf_24 (by decide) ?_
  refine lv_istore (lv' := [(4, .int 0), (3, .int 0), (0, .ref HA), (1, .int v1), (2, .int v2)]) hx hb dX5_restOf_25 hl (by decide) rfl (fun ls hl => ?_)
  obtain ⟨k, hw⟩ := hw
  exact N27 tr_7 ts_7 gr_19 gs_19 k 0 0 hw _ _ _ hP hD hS (lv_sub hl [2, 1, 0] rfl)
theorem in_X5_topOf_X5 : ∀ w ∈ wsX50, w ∈ wsX5_topOf := fun _ h => List.mem_cons_of_mem _ (List.mem_append_left _ (List.mem_append_left _ (List.mem_append_left _ (List.mem_append_left _ (List.mem_append_right _ h)))))
theorem hd_X5_topOf : yX5_topOf.cls = RX5 ∧ yX5_topOf.cls ≠ "java/lang/invoke/MethodHandle" ∧ yX5_topOf.cls ≠ "java/lang/invoke/VarHandle" ∧ (parseMethodDescriptor yX5_topOf.desc).map (fun d => d.parameters.length) = some 2 := by decide +kernel
set_option maxHeartbeats 8000000 in
set_option maxRecDepth 100000 in
theorem c_X5_topOf (l : Launch) (D : va_G) (cI cJ cZ cO : ClassId) (HA pA pAd pAx pAy qA qAf qAs tA tAr gA rA IA KA : Nat) (pd : Nat → Int32) (px : Nat → Int32) (py : Nat → Int32) (pn : Int32) (qf : Nat → Int32) (qs : Nat → Int32) (tr : Nat → Int32) (ts : Int32) (v1 : Int32) (v2 : Int32) (K : Int32 → (Nat → Int32) → Int32 → Prop) (hw : wp_X5_topOf px py qf qs tr ts v1 v2 K) : Ci l D (tys4 cI cJ cZ cO) yX5_topOf wsX5_topOf { frames := 4, cells := 0, slots := 0, locals := 107 } [.ref HA, .int v1, .int v2] [(HA, .inr (4, [.ref pA, .ref qA, .ref tA, .ref gA, .ref rA, .ref IA, .ref KA])), (pA, .inr (2, [.ref pAd, .ref pAx, .ref pAy, .int pn])), (pAd, .inl (cI, 32, .inl pd)), (pAx, .inl (cI, 32, .inl px)), (pAy, .inl (cI, 32, .inl py)), (qA, .inr (1, [.ref qAf, .ref qAs])), (qAf, .inl (cI, 64, .inl qf)), (qAs, .inl (cI, 64, .inl qs)), (tA, .inr (0, [.ref tAr, .int ts])), (tAr, .inl (cI, 32, .inl tr))] (fun (r : Int32) (u : (Nat → Int32) × (Int32)) => K r u.1 u.2) (fun u => [(HA, .inr (4, [.ref pA, .ref qA, .ref tA, .ref gA, .ref rA, .ref IA, .ref KA])), (pA, .inr (2, [.ref pAd, .ref pAx, .ref pAy, .int pn])), (pAd, .inl (cI, 32, .inl pd)), (pAx, .inl (cI, 32, .inl px)), (pAy, .inl (cI, 32, .inl py)), (qA, .inr (1, [.ref qAf, .ref qAs])), (qAf, .inl (cI, 64, .inl qf)), (qAs, .inl (cI, 64, .inl qs)), (tA, .inr (0, [.ref tAr, .int u.2])), (tAr, .inl (cI, 32, .inl u.1))]) := by
  refine mt_i (cc := cX5_topOf) (maxL := 4) (rt := .int) (by decide) rfl (Nat.le_of_ble_eq_true rfl) ?_
  intro p e s m args below meth c Q A R ls hRf hRl hx hb hml hown hts hK hA hP hD hS hl ret
  have hown : s.vm.findClass RX5 = some m.cls := hown
  have hl : lv_has ls 4 [(0, .ref HA), (1, .int v1), (2, .int v2)] := hl
  have N2 : ∀  (k : Nat) (tr : Nat → Int32) (ts : Int32) (v3 : Int32), wp_X5_topOf_2 px py qf qs v1 v2 K   k tr ts v3 → ∀ (H : Heap) (locs : List Loc) (ls : Array Slot), va_P D vwCl [(HA, .inr (4, [.ref pA, .ref qA, .ref tA, .ref gA, .ref rA, .ref IA, .ref KA])), (pA, .inr (2, [.ref pAd, .ref pAx, .ref pAy, .int pn])), (pAd, .inl (cI, 32, .inl pd)), (pAx, .inl (cI, 32, .inl px)), (pAy, .inl (cI, 32, .inl py)), (qA, .inr (1, [.ref qAf, .ref qAs])), (qAf, .inl (cI, 64, .inl qf)), (qAs, .inl (cI, 64, .inl qs)), (tA, .inr (0, [.ref tAr, .int ts])), (tAr, .inl (cI, 32, .inl tr))] H → va_D A [(HA, .inr (4, [.ref pA, .ref qA, .ref tA, .ref gA, .ref rA, .ref IA, .ref KA])), (pA, .inr (2, [.ref pAd, .ref pAx, .ref pAy, .int pn])), (pAd, .inl (cI, 32, .inl pd)), (pAx, .inl (cI, 32, .inl px)), (pAy, .inl (cI, 32, .inl py)), (qA, .inr (1, [.ref qAf, .ref qAs])), (qAf, .inl (cI, 64, .inl qf)), (qAs, .inl (cI, 64, .inl qs)), (tA, .inr (0, [.ref tAr, .int ts])), (tAr, .inl (cI, 32, .inl tr))] → va_S A s.heap H locs → lv_has ls 4 [(0, .ref HA), (1, .int v1), (2, .int v2), (3, .int v3)] → W p l e R s m args below meth c H locs 0 0 Q (F0 m 2 ls []) := by
    intro k
    induction k with
    | zero => intro tr ts v3 hw; exact False.elim hw
    | succ k ih2 =>
      intro tr ts v3 hw H locs ls hP hD hS hl
      have hw : wp_X5_topOf_2b px py qf qs v1 v2 K (wp_X5_topOf_2 px py qf qs v1 v2 K   k)   tr ts v3 := hw
      unfold wp_X5_topOf_2b at hw
      generalize wp_X5_topOf_2 px py qf qs v1 v2 K   k = L2 at hw ih2
      refine lv_iload_n hx hb dX5_topOf_2 rfl (lv_at hl 3 rfl) ?_
      refine lv_bipush (v := 63) hx hb dX5_topOf_3 (by decide) ?_
      obtain ⟨hwA, hwB⟩ := hw
      refine lv_icmp_gt (tgt := 52) hx hb dX5_topOf_5 (by decide) (fun cb => ?_) (fun cb => ?_)
      · have hw := hwA cb
        refine lv_bipush (v := (-6)) hx hb dX5_topOf_52 (by decide) ?_
        exact ret _ _ _ _ (-6) (tr, ts) (vp_nar_int _) hw hP hD hS dX5_topOf_54
      · have hw := hwB cb
        refine lv_aload_n hx hb dX5_topOf_8 rfl (lv_at hl 0 rfl) ?_
        refine va_get (D := D) (ci := 4) (v := .ref qA) (C := RX5) (T := TX5) (N := 7) hx hb hts in_X5_topOf_X5 hown hK hP 0 rfl rfl 1 (by decide) (hts (.fieldLink RX5 19 "LiveHull" "parts" "LLiveHull$Parts;") (List.mem_of_getElem? (i := 1) rfl)) (fun _ h9 => h9) rfl dX5_topOf_9 ?_
        refine lv_iload_n hx hb dX5_topOf_12 rfl (lv_at hl 3 rfl) ?_
        refine lv_iload_n hx hb dX5_topOf_13 rfl (lv_at hl 1 rfl) ?_
        refine cl_Vi (As := [.int v3, .int v1]) (rest := []) ⟨hx, hb, hml, hown, hts⟩ (c_X2_holds l D cI cJ cZ cO qA qAf qAs qf qs v3 v1 _ hw) (cwV 2 hts gX5_topOf_X2_holds rfl rfl rfl hd_X2_holds ⟨Nat.le_trans (Nat.le_of_ble_eq_true rfl) hRf, Nat.le_trans (Nat.le_of_ble_eq_true rfl) hRl⟩) hK hP hD hS hA [5, 6, 7] [0, 1, 2, 3, 4, 8, 9] rfl (by decide) rfl (by decide) (by decide) 5 1 rfl rfl rfl hl.1 rfl (Nat.le_of_ble_eq_true rfl) dX5_topOf_14 ⟨Nat.zero_le _, Nat.zero_le _⟩ (fun r14 _u H locs hw hP hD hS => ?_)
        try dsimp only at hw
        have hP : va_P D vwCl [(HA, .inr (4, [.ref pA, .ref qA, .ref tA, .ref gA, .ref rA, .ref IA, .ref KA])), (pA, .inr (2, [.ref pAd, .ref pAx, .ref pAy, .int pn])), (pAd, .inl (cI, 32, .inl pd)), (pAx, .inl (cI, 32, .inl px)), (pAy, .inl (cI, 32, .inl py)), (qA, .inr (1, [.ref qAf, .ref qAs])), (qAf, .inl (cI, 64, .inl qf)), (qAs, .inl (cI, 64, .inl qs)), (tA, .inr (0, [.ref tAr, .int ts])), (tAr, .inl (cI, 32, .inl tr))] H := hP.sub [0, 1, 2, 3, 4, 7, 8, 9, 5, 6] rfl
        have hD : va_D A [(HA, .inr (4, [.ref pA, .ref qA, .ref tA, .ref gA, .ref rA, .ref IA, .ref KA])), (pA, .inr (2, [.ref pAd, .ref pAx, .ref pAy, .int pn])), (pAd, .inl (cI, 32, .inl pd)), (pAx, .inl (cI, 32, .inl px)), (pAy, .inl (cI, 32, .inl py)), (qA, .inr (1, [.ref qAf, .ref qAs])), (qAf, .inl (cI, 64, .inl qf)), (qAs, .inl (cI, 64, .inl qs)), (tA, .inr (0, [.ref tAr, .int ts])), (tAr, .inl (cI, 32, .inl tr))] := hD.sub [0, 1, 2, 3, 4, 7, 8, 9, 5, 6] (by decide) rfl
        obtain ⟨hwA, hwB⟩ := hw
        refine lv_if_eq (tgt := 46) hx hb dX5_topOf_17 (by decide) (fun cb => ?_) (fun cb => ?_)
        · have hw := hwA cb
          refine lv_iinc (v := (v3 + 1)) (lv' := [(3, .int (v3 + 1)), (0, .ref HA), (1, .int v1), (2, .int v2)]) hx hb dX5_topOf_46 hl (k := 3) rfl rfl (by decide) rfl (fun ls hl => ?_)
          refine lv_goto (tgt := 2) hx hb dX5_topOf_49 (by decide) ?_
          exact ih2 tr ts (v3 + 1) hw _ _ _ hP hD hS (lv_sub hl [1, 2, 3, 0] rfl)
        · have hw := hwB cb
          refine lv_aload_n hx hb dX5_topOf_20 rfl (lv_at hl 0 rfl) ?_
          refine lv_aload_n hx hb dX5_topOf_21 rfl (lv_at hl 0 rfl) ?_
          refine va_get (D := D) (ci := 4) (v := .ref tA) (C := RX5) (T := TX5) (N := 7) hx hb hts in_X5_topOf_X5 hown hK hP 0 rfl rfl 2 (by decide) (hts (.fieldLink RX5 26 "LiveHull" "traced" "LLiveHull$Chain;") (List.mem_of_getElem? (i := 2) rfl)) (fun _ h9 => h9) rfl dX5_topOf_22 ?_
          refine lv_iload_n hx hb dX5_topOf_25 rfl (lv_at hl 3 rfl) ?_
          refine lv_iload_n hx hb dX5_topOf_26 rfl (lv_at hl 2 rfl) ?_
          refine cl_Vv (As := [.ref tA, .int v3, .int v2]) (rest := []) ⟨hx, hb, hml, hown, hts⟩ (c_X5_trace l D cI cJ cZ cO HA pA pAd pAx pAy qA qAf qAs tA tAr tA gA rA IA KA pd px py pn qf qs tr ts v3 v2 _ hw) (cwV 3 hts gX5_topOf_X5_trace rfl rfl rfl hd_X5_trace ⟨Nat.le_trans (Nat.le_of_ble_eq_true rfl) hRf, Nat.le_trans (Nat.le_of_ble_eq_true rfl) hRl⟩) hK hP hD hS hA [0, 1, 2, 3, 4, 5, 6, 7, 8, 9] [] rfl (by decide) rfl (by decide) (by decide) 0 4 rfl rfl rfl hl.1 rfl (Nat.le_of_ble_eq_true rfl) dX5_topOf_27 ⟨Nat.zero_le _, Nat.zero_le _⟩ (fun u H locs hw hP hD hS => ?_)
          obtain ⟨tr_27, ts_27⟩ := u
          try dsimp only at hw
          have hP : va_P D vwCl [(HA, .inr (4, [.ref pA, .ref qA, .ref tA, .ref gA, .ref rA, .ref IA, .ref KA])), (pA, .inr (2, [.ref pAd, .ref pAx, .ref pAy, .int pn])), (pAd, .inl (cI, 32, .inl pd)), (pAx, .inl (cI, 32, .inl px)), (pAy, .inl (cI, 32, .inl py)), (qA, .inr (1, [.ref qAf, .ref qAs])), (qAf, .inl (cI, 64, .inl qf)), (qAs, .inl (cI, 64, .inl qs)), (tA, .inr (0, [.ref tAr, .int ts_27])), (tAr, .inl (cI, 32, .inl tr_27))] H := hP.sub [0, 1, 2, 3, 4, 5, 6, 7, 8, 9] rfl
          have hD : va_D A [(HA, .inr (4, [.ref pA, .ref qA, .ref tA, .ref gA, .ref rA, .ref IA, .ref KA])), (pA, .inr (2, [.ref pAd, .ref pAx, .ref pAy, .int pn])), (pAd, .inl (cI, 32, .inl pd)), (pAx, .inl (cI, 32, .inl px)), (pAy, .inl (cI, 32, .inl py)), (qA, .inr (1, [.ref qAf, .ref qAs])), (qAf, .inl (cI, 64, .inl qf)), (qAs, .inl (cI, 64, .inl qs)), (tA, .inr (0, [.ref tAr, .int ts_27])), (tAr, .inl (cI, 32, .inl tr_27))] := hD.sub [0, 1, 2, 3, 4, 5, 6, 7, 8, 9] (by decide) rfl
          refine lv_aload_n hx hb dX5_topOf_30 rfl (lv_at hl 0 rfl) ?_
          refine va_get (D := D) (ci := 4) (v := .ref tA) (C := RX5) (T := TX5) (N := 7) hx hb hts in_X5_topOf_X5 hown hK hP 0 rfl rfl 2 (by decide) (hts (.fieldLink RX5 26 "LiveHull" "traced" "LLiveHull$Chain;") (List.mem_of_getElem? (i := 2) rfl)) (fun _ h9 => h9) rfl dX5_topOf_31 ?_
          refine lv_iload_n hx hb dX5_topOf_34 rfl (lv_at hl 1 rfl) ?_
          refine cl_Ui (As := [.int v1]) (rest := []) ⟨hx, hb, hml, hown, hts⟩ (c_X1_has_X0 l D cI cJ cZ cO tA tAr tr_27 ts_27 v1 _ hw) (va_cwU 1 hts gX5_topOf_X1_has_u177X0 rfl rfl rfl rfl (by decide +kernel) ⟨Nat.le_trans (Nat.le_of_ble_eq_true rfl) hRf, Nat.le_trans (Nat.le_of_ble_eq_true rfl) hRl⟩) hK hP hD hS hA [8, 9] [0, 1, 2, 3, 4, 5, 6, 7] rfl (by decide) rfl (by decide) (by decide) 8 0 rfl rfl rfl hl.1 rfl (Nat.le_of_ble_eq_true rfl) dX5_topOf_35 ⟨Nat.zero_le _, Nat.zero_le _⟩ (fun r35 _u H locs hw hP hD hS => ?_)
          try dsimp only at hw
          have hP : va_P D vwCl [(HA, .inr (4, [.ref pA, .ref qA, .ref tA, .ref gA, .ref rA, .ref IA, .ref KA])), (pA, .inr (2, [.ref pAd, .ref pAx, .ref pAy, .int pn])), (pAd, .inl (cI, 32, .inl pd)), (pAx, .inl (cI, 32, .inl px)), (pAy, .inl (cI, 32, .inl py)), (qA, .inr (1, [.ref qAf, .ref qAs])), (qAf, .inl (cI, 64, .inl qf)), (qAs, .inl (cI, 64, .inl qs)), (tA, .inr (0, [.ref tAr, .int ts_27])), (tAr, .inl (cI, 32, .inl tr_27))] H := hP.sub [0, 1, 2, 3, 4, 5, 6, 7, 8, 9] rfl
          have hD : va_D A [(HA, .inr (4, [.ref pA, .ref qA, .ref tA, .ref gA, .ref rA, .ref IA, .ref KA])), (pA, .inr (2, [.ref pAd, .ref pAx, .ref pAy, .int pn])), (pAd, .inl (cI, 32, .inl pd)), (pAx, .inl (cI, 32, .inl px)), (pAy, .inl (cI, 32, .inl py)), (qA, .inr (1, [.ref qAf, .ref qAs])), (qAf, .inl (cI, 64, .inl qf)), (qAs, .inl (cI, 64, .inl qs)), (tA, .inr (0, [.ref tAr, .int ts_27])), (tAr, .inl (cI, 32, .inl tr_27))] := hD.sub [0, 1, 2, 3, 4, 5, 6, 7, 8, 9] (by decide) rfl
          obtain ⟨hwA, hwB⟩ := hw
          refine lv_if_eq (tgt := 46) hx hb dX5_topOf_38 (by decide) (fun cb => ?_) (fun cb => ?_)
          · have hw := hwA cb
            refine lv_iinc (v := (v3 + 1)) (lv' := [(3, .int (v3 + 1)), (0, .ref HA), (1, .int v1), (2, .int v2)]) hx hb dX5_topOf_46 hl (k := 3) rfl rfl (by decide) rfl (fun ls hl => ?_)
            refine lv_goto (tgt := 2) hx hb dX5_topOf_49 (by decide) ?_
            exact ih2 tr_27 ts_27 (v3 + 1) hw _ _ _ hP hD hS (lv_sub hl [1, 2, 3, 0] rfl)
          · have hw := hwB cb
            refine lv_iload_n hx hb dX5_topOf_41 rfl (lv_at hl 3 rfl) ?_
            refine cl_Si (As := [.int v3]) (rest := []) ⟨hx, hb, hml, hown, hts⟩ (c_X2_depthOf l D cI cJ cZ cO   v3 _ hw) (va_cwS 1 hts gX5_topOf_X2_depthOf rfl rfl rfl hd_X2_depthOf.2 ⟨Nat.le_trans (Nat.le_of_ble_eq_true rfl) hRf, Nat.le_trans (Nat.le_of_ble_eq_true rfl) hRl⟩) hK hP hD hS hA [] [0, 1, 2, 3, 4, 5, 6, 7, 8, 9] rfl (by decide) rfl (by decide) (by decide) rfl hl.1 rfl (Nat.le_of_ble_eq_true rfl) dX5_topOf_42 ⟨Nat.zero_le _, Nat.zero_le _⟩ (fun r42 _u H locs hw hP hD hS => ?_)
            try dsimp only at hw
            have hP : va_P D vwCl [(HA, .inr (4, [.ref pA, .ref qA, .ref tA, .ref gA, .ref rA, .ref IA, .ref KA])), (pA, .inr (2, [.ref pAd, .ref pAx, .ref pAy, .int pn])), (pAd, .inl (cI, 32, .inl pd)), (pAx, .inl (cI, 32, .inl px)), (pAy, .inl (cI, 32, .inl py)), (qA, .inr (1, [.ref qAf, .ref qAs])), (qAf, .inl (cI, 64, .inl qf)), (qAs, .inl (cI, 64, .inl qs)), (tA, .inr (0, [.ref tAr, .int ts_27])), (tAr, .inl (cI, 32, .inl tr_27))] H := hP.sub [0, 1, 2, 3, 4, 5, 6, 7, 8, 9] rfl
            have hD : va_D A [(HA, .inr (4, [.ref pA, .ref qA, .ref tA, .ref gA, .ref rA, .ref IA, .ref KA])), (pA, .inr (2, [.ref pAd, .ref pAx, .ref pAy, .int pn])), (pAd, .inl (cI, 32, .inl pd)), (pAx, .inl (cI, 32, .inl px)), (pAy, .inl (cI, 32, .inl py)), (qA, .inr (1, [.ref qAf, .ref qAs])), (qAf, .inl (cI, 64, .inl qf)), (qAs, .inl (cI, 64, .inl qs)), (tA, .inr (0, [.ref tAr, .int ts_27])), (tAr, .inl (cI, 32, .inl tr_27))] := hD.sub [0, 1, 2, 3, 4, 5, 6, 7, 8, 9] (by decide) rfl
            exact ret _ _ _ _ r42 (tr_27, ts_27) (vp_nar_int _) hw hP hD hS dX5_topOf_45
  unfold wp_X5_topOf at hw
  refine lv_iconst (v := 1) hx hb dX5_topOf_0 (by decide) ?_
  refine lv_istore_n (lv' := [(3, .int 1), (0, .ref HA), (1, .int v1), (2, .int v2)]) hx hb dX5_topOf_1 rfl hl (by decide) rfl (fun ls hl => ?_)
  obtain ⟨k, hw⟩ := hw
  exact N2  k tr ts 1 hw _ _ _ hP hD hS (lv_sub hl [1, 2, 3, 0] rfl)
theorem in_X5_cornersOfAll_X5 : ∀ w ∈ wsX50, w ∈ wsX5_cornersOfAll := fun _ h => List.mem_cons_of_mem _ (List.mem_append_left _ (List.mem_append_left _ (List.mem_append_left _ (List.mem_append_left _ (List.mem_append_right _ h)))))
theorem hd_X5_cornersOfAll : yX5_cornersOfAll.cls = RX5 ∧ yX5_cornersOfAll.cls ≠ "java/lang/invoke/MethodHandle" ∧ yX5_cornersOfAll.cls ≠ "java/lang/invoke/VarHandle" ∧ (parseMethodDescriptor yX5_cornersOfAll.desc).map (fun d => d.parameters.length) = some 0 := by decide +kernel
set_option maxHeartbeats 8000000 in
set_option maxRecDepth 100000 in
theorem c_X5_cornersOfAll (l : Launch) (D : va_G) (cI cJ cZ cO : ClassId) (HA pA pAd pAx pAy qA qAf qAs tA tAr gA rA IA KA : Nat) (pd : Nat → Int32) (px : Nat → Int32) (py : Nat → Int32) (pn : Int32) (qf : Nat → Int32) (qs : Nat → Int32) (tr : Nat → Int32) (ts : Int32)  (K : Int32 → (Nat → Int32) → Int32 → Prop) (hw : wp_X5_cornersOfAll px py qf qs tr ts K) : Ci l D (tys4 cI cJ cZ cO) yX5_cornersOfAll wsX5_cornersOfAll { frames := 5, cells := 0, slots := 0, locals := 129 } [.ref HA] [(HA, .inr (4, [.ref pA, .ref qA, .ref tA, .ref gA, .ref rA, .ref IA, .ref KA])), (pA, .inr (2, [.ref pAd, .ref pAx, .ref pAy, .int pn])), (pAd, .inl (cI, 32, .inl pd)), (pAx, .inl (cI, 32, .inl px)), (pAy, .inl (cI, 32, .inl py)), (qA, .inr (1, [.ref qAf, .ref qAs])), (qAf, .inl (cI, 64, .inl qf)), (qAs, .inl (cI, 64, .inl qs)), (tA, .inr (0, [.ref tAr, .int ts])), (tAr, .inl (cI, 32, .inl tr))] (fun (r : Int32) (u : (Nat → Int32) × (Int32)) => K r u.1 u.2) (fun u => [(HA, .inr (4, [.ref pA, .ref qA, .ref tA, .ref gA, .ref rA, .ref IA, .ref KA])), (pA, .inr (2, [.ref pAd, .ref pAx, .ref pAy, .int pn])), (pAd, .inl (cI, 32, .inl pd)), (pAx, .inl (cI, 32, .inl px)), (pAy, .inl (cI, 32, .inl py)), (qA, .inr (1, [.ref qAf, .ref qAs])), (qAf, .inl (cI, 64, .inl qf)), (qAs, .inl (cI, 64, .inl qs)), (tA, .inr (0, [.ref tAr, .int u.2])), (tAr, .inl (cI, 32, .inl u.1))]) := by
  refine mt_i (cc := cX5_cornersOfAll) (maxL := 3) (rt := .int) (by decide) rfl (Nat.le_of_ble_eq_true rfl) ?_
  intro p e s m args below meth c Q A R ls hRf hRl hx hb hml hown hts hK hA hP hD hS hl ret
  have hown : s.vm.findClass RX5 = some m.cls := hown
  have hl : lv_has ls 3 [(0, .ref HA)] := hl
  have N4 : ∀  (k : Nat) (tr : Nat → Int32) (ts : Int32) (v1 : Int32) (v2 : Int32), wp_X5_cornersOfAll_4 px py qf qs K   k tr ts v1 v2 → ∀ (H : Heap) (locs : List Loc) (ls : Array Slot), va_P D vwCl [(HA, .inr (4, [.ref pA, .ref qA, .ref tA, .ref gA, .ref rA, .ref IA, .ref KA])), (pA, .inr (2, [.ref pAd, .ref pAx, .ref pAy, .int pn])), (pAd, .inl (cI, 32, .inl pd)), (pAx, .inl (cI, 32, .inl px)), (pAy, .inl (cI, 32, .inl py)), (qA, .inr (1, [.ref qAf, .ref qAs])), (qAf, .inl (cI, 64, .inl qf)), (qAs, .inl (cI, 64, .inl qs)), (tA, .inr (0, [.ref tAr, .int ts])), (tAr, .inl (cI, 32, .inl tr))] H → va_D A [(HA, .inr (4, [.ref pA, .ref qA, .ref tA, .ref gA, .ref rA, .ref IA, .ref KA])), (pA, .inr (2, [.ref pAd, .ref pAx, .ref pAy, .int pn])), (pAd, .inl (cI, 32, .inl pd)), (pAx, .inl (cI, 32, .inl px)), (pAy, .inl (cI, 32, .inl py)), (qA, .inr (1, [.ref qAf, .ref qAs])), (qAf, .inl (cI, 64, .inl qf)), (qAs, .inl (cI, 64, .inl qs)), (tA, .inr (0, [.ref tAr, .int ts])), (tAr, .inl (cI, 32, .inl tr))] → va_S A s.heap H locs → lv_has ls 3 [(0, .ref HA), (1, .int v1), (2, .int v2)] → W p l e R s m args below meth c H locs 0 0 Q (F0 m 4 ls []) := by
    intro k
    induction k with
    | zero => intro tr ts v1 v2 hw; exact False.elim hw
    | succ k ih4 =>
      intro tr ts v1 v2 hw H locs ls hP hD hS hl
      have hw : wp_X5_cornersOfAll_4b px py qf qs K (wp_X5_cornersOfAll_4 px py qf qs K   k)   tr ts v1 v2 := hw
      unfold wp_X5_cornersOfAll_4b at hw
      generalize wp_X5_cornersOfAll_4 px py qf qs K   k = L4 at hw ih4
      refine lv_iload_n hx hb dX5_cornersOfAll_4 rfl (lv_at hl 2 rfl) ?_
      refine lv_bipush (v := 63) hx hb dX5_cornersOfAll_5 (by decide) ?_
      obtain ⟨hwA, hwB⟩ := hw
      refine lv_icmp_gt (tgt := 43) hx hb dX5_cornersOfAll_7 (by decide) (fun cb => ?_) (fun cb => ?_)
      · have hw := hwA cb
        refine lv_iload_n hx hb dX5_cornersOfAll_43 rfl (lv_at hl 1 rfl) ?_
        exact ret _ _ _ _ v1 (tr, ts) (vp_nar_int _) hw hP hD hS dX5_cornersOfAll_44
      · have hw := hwB cb
        refine lv_aload_n hx hb dX5_cornersOfAll_10 rfl (lv_at hl 0 rfl) ?_
        refine va_get (D := D) (ci := 4) (v := .ref qA) (C := RX5) (T := TX5) (N := 7) hx hb hts in_X5_cornersOfAll_X5 hown hK hP 0 rfl rfl 1 (by decide) (hts (.fieldLink RX5 19 "LiveHull" "parts" "LLiveHull$Parts;") (List.mem_of_getElem? (i := 1) rfl)) (fun _ h9 => h9) rfl dX5_cornersOfAll_11 ?_
        refine lv_iload_n hx hb dX5_cornersOfAll_14 rfl (lv_at hl 2 rfl) ?_
        refine cl_Vi (As := [.int v2]) (rest := []) ⟨hx, hb, hml, hown, hts⟩ (c_X2_has l D cI cJ cZ cO qA qAf qAs qf qs v2 _ hw) (cwV 1 hts gX5_cornersOfAll_X2_has rfl rfl rfl hd_X2_has ⟨Nat.le_trans (Nat.le_of_ble_eq_true rfl) hRf, Nat.le_trans (Nat.le_of_ble_eq_true rfl) hRl⟩) hK hP hD hS hA [5, 6, 7] [0, 1, 2, 3, 4, 8, 9] rfl (by decide) rfl (by decide) (by decide) 5 1 rfl rfl rfl hl.1 rfl (Nat.le_of_ble_eq_true rfl) dX5_cornersOfAll_15 ⟨Nat.zero_le _, Nat.zero_le _⟩ (fun r15 _u H locs hw hP hD hS => ?_)
        try dsimp only at hw
        have hP : va_P D vwCl [(HA, .inr (4, [.ref pA, .ref qA, .ref tA, .ref gA, .ref rA, .ref IA, .ref KA])), (pA, .inr (2, [.ref pAd, .ref pAx, .ref pAy, .int pn])), (pAd, .inl (cI, 32, .inl pd)), (pAx, .inl (cI, 32, .inl px)), (pAy, .inl (cI, 32, .inl py)), (qA, .inr (1, [.ref qAf, .ref qAs])), (qAf, .inl (cI, 64, .inl qf)), (qAs, .inl (cI, 64, .inl qs)), (tA, .inr (0, [.ref tAr, .int ts])), (tAr, .inl (cI, 32, .inl tr))] H := hP.sub [0, 1, 2, 3, 4, 7, 8, 9, 5, 6] rfl
        have hD : va_D A [(HA, .inr (4, [.ref pA, .ref qA, .ref tA, .ref gA, .ref rA, .ref IA, .ref KA])), (pA, .inr (2, [.ref pAd, .ref pAx, .ref pAy, .int pn])), (pAd, .inl (cI, 32, .inl pd)), (pAx, .inl (cI, 32, .inl px)), (pAy, .inl (cI, 32, .inl py)), (qA, .inr (1, [.ref qAf, .ref qAs])), (qAf, .inl (cI, 64, .inl qf)), (qAs, .inl (cI, 64, .inl qs)), (tA, .inr (0, [.ref tAr, .int ts])), (tAr, .inl (cI, 32, .inl tr))] := hD.sub [0, 1, 2, 3, 4, 7, 8, 9, 5, 6] (by decide) rfl
        obtain ⟨hwA, hwB⟩ := hw
        refine lv_if_eq (tgt := 37) hx hb dX5_cornersOfAll_18 (by decide) (fun cb => ?_) (fun cb => ?_)
        · have hw := hwA cb
          refine lv_iinc (v := (v2 + 1)) (lv' := [(2, .int (v2 + 1)), (0, .ref HA), (1, .int v1)]) hx hb dX5_cornersOfAll_37 hl (k := 2) rfl rfl (by decide) rfl (fun ls hl => ?_)
          refine lv_goto (tgt := 4) hx hb dX5_cornersOfAll_40 (by decide) ?_
          exact ih4 tr ts v1 (v2 + 1) hw _ _ _ hP hD hS (lv_sub hl [1, 2, 0] rfl)
        · have hw := hwB cb
          refine lv_iload_n hx hb dX5_cornersOfAll_21 rfl (lv_at hl 1 rfl) ?_
          refine lv_aload_n hx hb dX5_cornersOfAll_22 rfl (lv_at hl 0 rfl) ?_
          refine lv_iload_n hx hb dX5_cornersOfAll_23 rfl (lv_at hl 2 rfl) ?_
          refine lv_iconst (v := 0) hx hb dX5_cornersOfAll_24 (by decide) ?_
          refine cl_Vi (As := [.int v2, .int 0]) (rest := [.int v1]) ⟨hx, hb, hml, hown, hts⟩ (c_X5_cornersOf l D cI cJ cZ cO HA pA pAd pAx pAy qA qAf qAs tA tAr gA rA IA KA pd px py pn qf qs tr ts v2 0 _ hw) (cwV 2 hts gX5_cornersOfAll_X5_cornersOf rfl rfl rfl hd_X5_cornersOf ⟨Nat.le_trans (Nat.le_of_ble_eq_true rfl) hRf, Nat.le_trans (Nat.le_of_ble_eq_true rfl) hRl⟩) hK hP hD hS hA [0, 1, 2, 3, 4, 5, 6, 7, 8, 9] [] rfl (by decide) rfl (by decide) (by decide) 0 4 rfl rfl rfl hl.1 rfl (Nat.le_of_ble_eq_true rfl) dX5_cornersOfAll_25 ⟨Nat.zero_le _, Nat.zero_le _⟩ (fun r25 u H locs hw hP hD hS => ?_)
          obtain ⟨tr_25, ts_25⟩ := u
          try dsimp only at hw
          have hP : va_P D vwCl [(HA, .inr (4, [.ref pA, .ref qA, .ref tA, .ref gA, .ref rA, .ref IA, .ref KA])), (pA, .inr (2, [.ref pAd, .ref pAx, .ref pAy, .int pn])), (pAd, .inl (cI, 32, .inl pd)), (pAx, .inl (cI, 32, .inl px)), (pAy, .inl (cI, 32, .inl py)), (qA, .inr (1, [.ref qAf, .ref qAs])), (qAf, .inl (cI, 64, .inl qf)), (qAs, .inl (cI, 64, .inl qs)), (tA, .inr (0, [.ref tAr, .int ts_25])), (tAr, .inl (cI, 32, .inl tr_25))] H := hP.sub [0, 1, 2, 3, 4, 5, 6, 7, 8, 9] rfl
          have hD : va_D A [(HA, .inr (4, [.ref pA, .ref qA, .ref tA, .ref gA, .ref rA, .ref IA, .ref KA])), (pA, .inr (2, [.ref pAd, .ref pAx, .ref pAy, .int pn])), (pAd, .inl (cI, 32, .inl pd)), (pAx, .inl (cI, 32, .inl px)), (pAy, .inl (cI, 32, .inl py)), (qA, .inr (1, [.ref qAf, .ref qAs])), (qAf, .inl (cI, 64, .inl qf)), (qAs, .inl (cI, 64, .inl qs)), (tA, .inr (0, [.ref tAr, .int ts_25])), (tAr, .inl (cI, 32, .inl tr_25))] := hD.sub [0, 1, 2, 3, 4, 5, 6, 7, 8, 9] (by decide) rfl
          refine lv_aload_n hx hb dX5_cornersOfAll_28 rfl (lv_at hl 0 rfl) ?_
          refine lv_iload_n hx hb dX5_cornersOfAll_29 rfl (lv_at hl 2 rfl) ?_
          refine lv_iconst (v := 1) hx hb dX5_cornersOfAll_30 (by decide) ?_
          refine cl_Vi (As := [.int v2, .int 1]) (rest := [.int r25, .int v1]) ⟨hx, hb, hml, hown, hts⟩ (c_X5_cornersOf l D cI cJ cZ cO HA pA pAd pAx pAy qA qAf qAs tA tAr gA rA IA KA pd px py pn qf qs tr_25 ts_25 v2 1 _ hw) (cwV 2 hts gX5_cornersOfAll_X5_cornersOf rfl rfl rfl hd_X5_cornersOf ⟨Nat.le_trans (Nat.le_of_ble_eq_true rfl) hRf, Nat.le_trans (Nat.le_of_ble_eq_true rfl) hRl⟩) hK hP hD hS hA [0, 1, 2, 3, 4, 5, 6, 7, 8, 9] [] rfl (by decide) rfl (by decide) (by decide) 0 4 rfl rfl rfl hl.1 rfl (Nat.le_of_ble_eq_true rfl) dX5_cornersOfAll_31 ⟨Nat.zero_le _, Nat.zero_le _⟩ (fun r31 u H locs hw hP hD hS => ?_)
          obtain ⟨tr_31, ts_31⟩ := u
          try dsimp only at hw
          have hP : va_P D vwCl [(HA, .inr (4, [.ref pA, .ref qA, .ref tA, .ref gA, .ref rA, .ref IA, .ref KA])), (pA, .inr (2, [.ref pAd, .ref pAx, .ref pAy, .int pn])), (pAd, .inl (cI, 32, .inl pd)), (pAx, .inl (cI, 32, .inl px)), (pAy, .inl (cI, 32, .inl py)), (qA, .inr (1, [.ref qAf, .ref qAs])), (qAf, .inl (cI, 64, .inl qf)), (qAs, .inl (cI, 64, .inl qs)), (tA, .inr (0, [.ref tAr, .int ts_31])), (tAr, .inl (cI, 32, .inl tr_31))] H := hP.sub [0, 1, 2, 3, 4, 5, 6, 7, 8, 9] rfl
          have hD : va_D A [(HA, .inr (4, [.ref pA, .ref qA, .ref tA, .ref gA, .ref rA, .ref IA, .ref KA])), (pA, .inr (2, [.ref pAd, .ref pAx, .ref pAy, .int pn])), (pAd, .inl (cI, 32, .inl pd)), (pAx, .inl (cI, 32, .inl px)), (pAy, .inl (cI, 32, .inl py)), (qA, .inr (1, [.ref qAf, .ref qAs])), (qAf, .inl (cI, 64, .inl qf)), (qAs, .inl (cI, 64, .inl qs)), (tA, .inr (0, [.ref tAr, .int ts_31])), (tAr, .inl (cI, 32, .inl tr_31))] := hD.sub [0, 1, 2, 3, 4, 5, 6, 7, 8, 9] (by decide) rfl
          refine lv_iadd hx hb dX5_cornersOfAll_34 ?_
          refine lv_iadd hx hb dX5_cornersOfAll_35 ?_
          refine lv_istore_n (lv' := [(1, .int (v1 + (r25 + r31))), (0, .ref HA), (2, .int v2)]) hx hb dX5_cornersOfAll_36 rfl hl (by decide) rfl (fun ls hl => ?_)
          refine lv_iinc (v := (v2 + 1)) (lv' := [(2, .int (v2 + 1)), (1, .int (v1 + (r25 + r31))), (0, .ref HA)]) hx hb dX5_cornersOfAll_37 hl (k := 2) rfl rfl (by decide) rfl (fun ls hl => ?_)
          refine lv_goto (tgt := 4) hx hb dX5_cornersOfAll_40 (by decide) ?_
          exact ih4 tr_31 ts_31 (v1 + (r25 + r31)) (v2 + 1) hw _ _ _ hP hD hS (lv_sub hl [2, 1, 0] rfl)
  unfold wp_X5_cornersOfAll at hw
  refine lv_iconst (v := 0) hx hb dX5_cornersOfAll_0 (by decide) ?_
  refine lv_istore_n (lv' := [(1, .int 0), (0, .ref HA)]) hx hb dX5_cornersOfAll_1 rfl hl (by decide) rfl (fun ls hl => ?_)
  refine lv_iconst (v := 1) hx hb dX5_cornersOfAll_2 (by decide) ?_
  refine lv_istore_n (lv' := [(2, .int 1), (1, .int 0), (0, .ref HA)]) hx hb dX5_cornersOfAll_3 rfl hl (by decide) rfl (fun ls hl => ?_)
  obtain ⟨k, hw⟩ := hw
  exact N4  k tr ts 0 1 hw _ _ _ hP hD hS (lv_sub hl [2, 1, 0] rfl)
theorem in_X5_restsOfAll_X5 : ∀ w ∈ wsX50, w ∈ wsX5_restsOfAll := fun _ h => List.mem_cons_of_mem _ (List.mem_append_left _ (List.mem_append_left _ (List.mem_append_left _ (List.mem_append_left _ (List.mem_append_right _ h)))))
theorem hd_X5_restsOfAll : yX5_restsOfAll.cls = RX5 ∧ yX5_restsOfAll.cls ≠ "java/lang/invoke/MethodHandle" ∧ yX5_restsOfAll.cls ≠ "java/lang/invoke/VarHandle" ∧ (parseMethodDescriptor yX5_restsOfAll.desc).map (fun d => d.parameters.length) = some 0 := by decide +kernel
set_option maxHeartbeats 8000000 in
set_option maxRecDepth 100000 in
theorem c_X5_restsOfAll (l : Launch) (D : va_G) (cI cJ cZ cO : ClassId) (HA pA pAd pAx pAy qA qAf qAs tA tAr gA gAr rA IA KA : Nat) (pd : Nat → Int32) (px : Nat → Int32) (py : Nat → Int32) (pn : Int32) (qf : Nat → Int32) (qs : Nat → Int32) (tr : Nat → Int32) (ts : Int32) (gr : Nat → Int32) (gs : Int32)  (K : Int32 → (Nat → Int32) → Int32 → (Nat → Int32) → Int32 → Prop) (hw : wp_X5_restsOfAll px py qf qs tr ts gr gs K) : Ci l D (tys4 cI cJ cZ cO) yX5_restsOfAll wsX5_restsOfAll { frames := 5, cells := 0, slots := 0, locals := 131 } [.ref HA] [(HA, .inr (4, [.ref pA, .ref qA, .ref tA, .ref gA, .ref rA, .ref IA, .ref KA])), (pA, .inr (2, [.ref pAd, .ref pAx, .ref pAy, .int pn])), (pAd, .inl (cI, 32, .inl pd)), (pAx, .inl (cI, 32, .inl px)), (pAy, .inl (cI, 32, .inl py)), (qA, .inr (1, [.ref qAf, .ref qAs])), (qAf, .inl (cI, 64, .inl qf)), (qAs, .inl (cI, 64, .inl qs)), (tA, .inr (0, [.ref tAr, .int ts])), (tAr, .inl (cI, 32, .inl tr)), (gA, .inr (0, [.ref gAr, .int gs])), (gAr, .inl (cI, 32, .inl gr))] (fun (r : Int32) (u : (Nat → Int32) × (Int32) × (Nat → Int32) × (Int32)) => K r u.1 u.2.1 u.2.2.1 u.2.2.2) (fun u => [(HA, .inr (4, [.ref pA, .ref qA, .ref tA, .ref gA, .ref rA, .ref IA, .ref KA])), (pA, .inr (2, [.ref pAd, .ref pAx, .ref pAy, .int pn])), (pAd, .inl (cI, 32, .inl pd)), (pAx, .inl (cI, 32, .inl px)), (pAy, .inl (cI, 32, .inl py)), (qA, .inr (1, [.ref qAf, .ref qAs])), (qAf, .inl (cI, 64, .inl qf)), (qAs, .inl (cI, 64, .inl qs)), (tA, .inr (0, [.ref tAr, .int u.2.1])), (tAr, .inl (cI, 32, .inl u.1)), (gA, .inr (0, [.ref gAr, .int u.2.2.2])), (gAr, .inl (cI, 32, .inl u.2.2.1))]) := by
  refine mt_i (cc := cX5_restsOfAll) (maxL := 3) (rt := .int) (by decide) rfl (Nat.le_of_ble_eq_true rfl) ?_
  intro p e s m args below meth c Q A R ls hRf hRl hx hb hml hown hts hK hA hP hD hS hl ret
  have hown : s.vm.findClass RX5 = some m.cls := hown
  have hl : lv_has ls 3 [(0, .ref HA)] := hl
  have N4 : ∀  (k : Nat) (tr : Nat → Int32) (ts : Int32) (gr : Nat → Int32) (gs : Int32) (v1 : Int32) (v2 : Int32), wp_X5_restsOfAll_4 px py qf qs K   k tr ts gr gs v1 v2 → ∀ (H : Heap) (locs : List Loc) (ls : Array Slot), va_P D vwCl [(HA, .inr (4, [.ref pA, .ref qA, .ref tA, .ref gA, .ref rA, .ref IA, .ref KA])), (pA, .inr (2, [.ref pAd, .ref pAx, .ref pAy, .int pn])), (pAd, .inl (cI, 32, .inl pd)), (pAx, .inl (cI, 32, .inl px)), (pAy, .inl (cI, 32, .inl py)), (qA, .inr (1, [.ref qAf, .ref qAs])), (qAf, .inl (cI, 64, .inl qf)), (qAs, .inl (cI, 64, .inl qs)), (tA, .inr (0, [.ref tAr, .int ts])), (tAr, .inl (cI, 32, .inl tr)), (gA, .inr (0, [.ref gAr, .int gs])), (gAr, .inl (cI, 32, .inl gr))] H → va_D A [(HA, .inr (4, [.ref pA, .ref qA, .ref tA, .ref gA, .ref rA, .ref IA, .ref KA])), (pA, .inr (2, [.ref pAd, .ref pAx, .ref pAy, .int pn])), (pAd, .inl (cI, 32, .inl pd)), (pAx, .inl (cI, 32, .inl px)), (pAy, .inl (cI, 32, .inl py)), (qA, .inr (1, [.ref qAf, .ref qAs])), (qAf, .inl (cI, 64, .inl qf)), (qAs, .inl (cI, 64, .inl qs)), (tA, .inr (0, [.ref tAr, .int ts])), (tAr, .inl (cI, 32, .inl tr)), (gA, .inr (0, [.ref gAr, .int gs])), (gAr, .inl (cI, 32, .inl gr))] → va_S A s.heap H locs → lv_has ls 3 [(0, .ref HA), (1, .int v1), (2, .int v2)] → W p l e R s m args below meth c H locs 0 0 Q (F0 m 4 ls []) := by
    intro k
    induction k with
    | zero => intro tr ts gr gs v1 v2 hw; exact False.elim hw
    | succ k ih4 =>
      intro tr ts gr gs v1 v2 hw H locs ls hP hD hS hl
      have hw : wp_X5_restsOfAll_4b px py qf qs K (wp_X5_restsOfAll_4 px py qf qs K   k)   tr ts gr gs v1 v2 := hw
      unfold wp_X5_restsOfAll_4b at hw
      generalize wp_X5_restsOfAll_4 px py qf qs K   k = L4 at hw ih4
      refine lv_iload_n hx hb dX5_restsOfAll_4 rfl (lv_at hl 2 rfl) ?_
      refine lv_bipush (v := 63) hx hb dX5_restsOfAll_5 (by decide) ?_
      obtain ⟨hwA, hwB⟩ := hw
      refine lv_icmp_gt (tgt := 43) hx hb dX5_restsOfAll_7 (by decide) (fun cb => ?_) (fun cb => ?_)
      · have hw := hwA cb
        refine lv_iload_n hx hb dX5_restsOfAll_43 rfl (lv_at hl 1 rfl) ?_
        exact ret _ _ _ _ v1 (tr, ts, gr, gs) (vp_nar_int _) hw hP hD hS dX5_restsOfAll_44
      · have hw := hwB cb
        refine lv_aload_n hx hb dX5_restsOfAll_10 rfl (lv_at hl 0 rfl) ?_
        refine va_get (D := D) (ci := 4) (v := .ref qA) (C := RX5) (T := TX5) (N := 7) hx hb hts in_X5_restsOfAll_X5 hown hK hP 0 rfl rfl 1 (by decide) (hts (.fieldLink RX5 19 "LiveHull" "parts" "LLiveHull$Parts;") (List.mem_of_getElem? (i := 1) rfl)) (fun _ h9 => h9) rfl dX5_restsOfAll_11 ?_
        refine lv_iload_n hx hb dX5_restsOfAll_14 rfl (lv_at hl 2 rfl) ?_
        refine cl_Vi (As := [.int v2]) (rest := []) ⟨hx, hb, hml, hown, hts⟩ (c_X2_has l D cI cJ cZ cO qA qAf qAs qf qs v2 _ hw) (cwV 1 hts gX5_restsOfAll_X2_has rfl rfl rfl hd_X2_has ⟨Nat.le_trans (Nat.le_of_ble_eq_true rfl) hRf, Nat.le_trans (Nat.le_of_ble_eq_true rfl) hRl⟩) hK hP hD hS hA [5, 6, 7] [0, 1, 2, 3, 4, 8, 9, 10, 11] rfl (by decide) rfl (by decide) (by decide) 5 1 rfl rfl rfl hl.1 rfl (Nat.le_of_ble_eq_true rfl) dX5_restsOfAll_15 ⟨Nat.zero_le _, Nat.zero_le _⟩ (fun r15 _u H locs hw hP hD hS => ?_)
        try dsimp only at hw
        have hP : va_P D vwCl [(HA, .inr (4, [.ref pA, .ref qA, .ref tA, .ref gA, .ref rA, .ref IA, .ref KA])), (pA, .inr (2, [.ref pAd, .ref pAx, .ref pAy, .int pn])), (pAd, .inl (cI, 32, .inl pd)), (pAx, .inl (cI, 32, .inl px)), (pAy, .inl (cI, 32, .inl py)), (qA, .inr (1, [.ref qAf, .ref qAs])), (qAf, .inl (cI, 64, .inl qf)), (qAs, .inl (cI, 64, .inl qs)), (tA, .inr (0, [.ref tAr, .int ts])), (tAr, .inl (cI, 32, .inl tr)), (gA, .inr (0, [.ref gAr, .int gs])), (gAr, .inl (cI, 32, .inl gr))] H := hP.sub [0, 1, 2, 3, 4, 9, 10, 11, 5, 6, 7, 8] rfl
        have hD : va_D A [(HA, .inr (4, [.ref pA, .ref qA, .ref tA, .ref gA, .ref rA, .ref IA, .ref KA])), (pA, .inr (2, [.ref pAd, .ref pAx, .ref pAy, .int pn])), (pAd, .inl (cI, 32, .inl pd)), (pAx, .inl (cI, 32, .inl px)), (pAy, .inl (cI, 32, .inl py)), (qA, .inr (1, [.ref qAf, .ref qAs])), (qAf, .inl (cI, 64, .inl qf)), (qAs, .inl (cI, 64, .inl qs)), (tA, .inr (0, [.ref tAr, .int ts])), (tAr, .inl (cI, 32, .inl tr)), (gA, .inr (0, [.ref gAr, .int gs])), (gAr, .inl (cI, 32, .inl gr))] := hD.sub [0, 1, 2, 3, 4, 9, 10, 11, 5, 6, 7, 8] (by decide) rfl
        obtain ⟨hwA, hwB⟩ := hw
        refine lv_if_eq (tgt := 37) hx hb dX5_restsOfAll_18 (by decide) (fun cb => ?_) (fun cb => ?_)
        · have hw := hwA cb
          refine lv_iinc (v := (v2 + 1)) (lv' := [(2, .int (v2 + 1)), (0, .ref HA), (1, .int v1)]) hx hb dX5_restsOfAll_37 hl (k := 2) rfl rfl (by decide) rfl (fun ls hl => ?_)
          refine lv_goto (tgt := 4) hx hb dX5_restsOfAll_40 (by decide) ?_
          exact ih4 tr ts gr gs v1 (v2 + 1) hw _ _ _ hP hD hS (lv_sub hl [1, 2, 0] rfl)
        · have hw := hwB cb
          refine lv_iload_n hx hb dX5_restsOfAll_21 rfl (lv_at hl 1 rfl) ?_
          refine lv_aload_n hx hb dX5_restsOfAll_22 rfl (lv_at hl 0 rfl) ?_
          refine lv_iload_n hx hb dX5_restsOfAll_23 rfl (lv_at hl 2 rfl) ?_
          refine lv_iconst (v := 0) hx hb dX5_restsOfAll_24 (by decide) ?_
          refine cl_Vi (As := [.int v2, .int 0]) (rest := [.int v1]) ⟨hx, hb, hml, hown, hts⟩ (c_X5_restOf l D cI cJ cZ cO HA pA pAd pAx pAy qA qAf qAs tA tAr gA gAr rA IA KA pd px py pn qf qs tr ts gr gs v2 0 _ hw) (cwV 2 hts gX5_restsOfAll_X5_restOf rfl rfl rfl hd_X5_restOf ⟨Nat.le_trans (Nat.le_of_ble_eq_true rfl) hRf, Nat.le_trans (Nat.le_of_ble_eq_true rfl) hRl⟩) hK hP hD hS hA [0, 1, 2, 3, 4, 5, 6, 7, 8, 9, 10, 11] [] rfl (by decide) rfl (by decide) (by decide) 0 4 rfl rfl rfl hl.1 rfl (Nat.le_of_ble_eq_true rfl) dX5_restsOfAll_25 ⟨Nat.zero_le _, Nat.zero_le _⟩ (fun r25 u H locs hw hP hD hS => ?_)
          obtain ⟨tr_25, ts_25, gr_25, gs_25⟩ := u
          try dsimp only at hw
          have hP : va_P D vwCl [(HA, .inr (4, [.ref pA, .ref qA, .ref tA, .ref gA, .ref rA, .ref IA, .ref KA])), (pA, .inr (2, [.ref pAd, .ref pAx, .ref pAy, .int pn])), (pAd, .inl (cI, 32, .inl pd)), (pAx, .inl (cI, 32, .inl px)), (pAy, .inl (cI, 32, .inl py)), (qA, .inr (1, [.ref qAf, .ref qAs])), (qAf, .inl (cI, 64, .inl qf)), (qAs, .inl (cI, 64, .inl qs)), (tA, .inr (0, [.ref tAr, .int ts_25])), (tAr, .inl (cI, 32, .inl tr_25)), (gA, .inr (0, [.ref gAr, .int gs_25])), (gAr, .inl (cI, 32, .inl gr_25))] H := hP.sub [0, 1, 2, 3, 4, 5, 6, 7, 8, 9, 10, 11] rfl
          have hD : va_D A [(HA, .inr (4, [.ref pA, .ref qA, .ref tA, .ref gA, .ref rA, .ref IA, .ref KA])), (pA, .inr (2, [.ref pAd, .ref pAx, .ref pAy, .int pn])), (pAd, .inl (cI, 32, .inl pd)), (pAx, .inl (cI, 32, .inl px)), (pAy, .inl (cI, 32, .inl py)), (qA, .inr (1, [.ref qAf, .ref qAs])), (qAf, .inl (cI, 64, .inl qf)), (qAs, .inl (cI, 64, .inl qs)), (tA, .inr (0, [.ref tAr, .int ts_25])), (tAr, .inl (cI, 32, .inl tr_25)), (gA, .inr (0, [.ref gAr, .int gs_25])), (gAr, .inl (cI, 32, .inl gr_25))] := hD.sub [0, 1, 2, 3, 4, 5, 6, 7, 8, 9, 10, 11] (by decide) rfl
          refine lv_aload_n hx hb dX5_restsOfAll_28 rfl (lv_at hl 0 rfl) ?_
          refine lv_iload_n hx hb dX5_restsOfAll_29 rfl (lv_at hl 2 rfl) ?_
          refine lv_iconst (v := 1) hx hb dX5_restsOfAll_30 (by decide) ?_
          refine cl_Vi (As := [.int v2, .int 1]) (rest := [.int r25, .int v1]) ⟨hx, hb, hml, hown, hts⟩ (c_X5_restOf l D cI cJ cZ cO HA pA pAd pAx pAy qA qAf qAs tA tAr gA gAr rA IA KA pd px py pn qf qs tr_25 ts_25 gr_25 gs_25 v2 1 _ hw) (cwV 2 hts gX5_restsOfAll_X5_restOf rfl rfl rfl hd_X5_restOf ⟨Nat.le_trans (Nat.le_of_ble_eq_true rfl) hRf, Nat.le_trans (Nat.le_of_ble_eq_true rfl) hRl⟩) hK hP hD hS hA [0, 1, 2, 3, 4, 5, 6, 7, 8, 9, 10, 11] [] rfl (by decide) rfl (by decide) (by decide) 0 4 rfl rfl rfl hl.1 rfl (Nat.le_of_ble_eq_true rfl) dX5_restsOfAll_31 ⟨Nat.zero_le _, Nat.zero_le _⟩ (fun r31 u H locs hw hP hD hS => ?_)
          obtain ⟨tr_31, ts_31, gr_31, gs_31⟩ := u
          try dsimp only at hw
          have hP : va_P D vwCl [(HA, .inr (4, [.ref pA, .ref qA, .ref tA, .ref gA, .ref rA, .ref IA, .ref KA])), (pA, .inr (2, [.ref pAd, .ref pAx, .ref pAy, .int pn])), (pAd, .inl (cI, 32, .inl pd)), (pAx, .inl (cI, 32, .inl px)), (pAy, .inl (cI, 32, .inl py)), (qA, .inr (1, [.ref qAf, .ref qAs])), (qAf, .inl (cI, 64, .inl qf)), (qAs, .inl (cI, 64, .inl qs)), (tA, .inr (0, [.ref tAr, .int ts_31])), (tAr, .inl (cI, 32, .inl tr_31)), (gA, .inr (0, [.ref gAr, .int gs_31])), (gAr, .inl (cI, 32, .inl gr_31))] H := hP.sub [0, 1, 2, 3, 4, 5, 6, 7, 8, 9, 10, 11] rfl
          have hD : va_D A [(HA, .inr (4, [.ref pA, .ref qA, .ref tA, .ref gA, .ref rA, .ref IA, .ref KA])), (pA, .inr (2, [.ref pAd, .ref pAx, .ref pAy, .int pn])), (pAd, .inl (cI, 32, .inl pd)), (pAx, .inl (cI, 32, .inl px)), (pAy, .inl (cI, 32, .inl py)), (qA, .inr (1, [.ref qAf, .ref qAs])), (qAf, .inl (cI, 64, .inl qf)), (qAs, .inl (cI, 64, .inl qs)), (tA, .inr (0, [.ref tAr, .int ts_31])), (tAr, .inl (cI, 32, .inl tr_31)), (gA, .inr (0, [.ref gAr, .int gs_31])), (gAr, .inl (cI, 32, .inl gr_31))] := hD.sub [0, 1, 2, 3, 4, 5, 6, 7, 8, 9, 10, 11] (by decide) rfl
          refine lv_iadd hx hb dX5_restsOfAll_34 ?_
          refine lv_iadd hx hb dX5_restsOfAll_35 ?_
          refine lv_istore_n (lv' := [(1, .int (v1 + (r25 + r31))), (0, .ref HA), (2, .int v2)]) hx hb dX5_restsOfAll_36 rfl hl (by decide) rfl (fun ls hl => ?_)
          refine lv_iinc (v := (v2 + 1)) (lv' := [(2, .int (v2 + 1)), (1, .int (v1 + (r25 + r31))), (0, .ref HA)]) hx hb dX5_restsOfAll_37 hl (k := 2) rfl rfl (by decide) rfl (fun ls hl => ?_)
          refine lv_goto (tgt := 4) hx hb dX5_restsOfAll_40 (by decide) ?_
          exact ih4 tr_31 ts_31 gr_31 gs_31 (v1 + (r25 + r31)) (v2 + 1) hw _ _ _ hP hD hS (lv_sub hl [2, 1, 0] rfl)
  unfold wp_X5_restsOfAll at hw
  refine lv_iconst (v := 0) hx hb dX5_restsOfAll_0 (by decide) ?_
  refine lv_istore_n (lv' := [(1, .int 0), (0, .ref HA)]) hx hb dX5_restsOfAll_1 rfl hl (by decide) rfl (fun ls hl => ?_)
  refine lv_iconst (v := 2) hx hb dX5_restsOfAll_2 (by decide) ?_
  refine lv_istore_n (lv' := [(2, .int 2), (1, .int 0), (0, .ref HA)]) hx hb dX5_restsOfAll_3 rfl hl (by decide) rfl (fun ls hl => ?_)
  obtain ⟨k, hw⟩ := hw
  exact N4  k tr ts gr gs 0 2 hw _ _ _ hP hD hS (lv_sub hl [2, 1, 0] rfl)
theorem in_X5_gatherRing_X3 : ∀ w ∈ wsX30, w ∈ wsX5_gatherRing := fun _ h => List.mem_cons_of_mem _ (List.mem_append_left _ (List.mem_append_left _ (List.mem_append_right _ h)))
theorem in_X5_gatherRing_X5 : ∀ w ∈ wsX50, w ∈ wsX5_gatherRing := fun _ h => List.mem_cons_of_mem _ (List.mem_append_left _ (List.mem_append_left _ (List.mem_append_left _ (List.mem_append_right _ h))))
theorem hd_X5_gatherRing : yX5_gatherRing.cls = RX5 ∧ yX5_gatherRing.cls ≠ "java/lang/invoke/MethodHandle" ∧ yX5_gatherRing.cls ≠ "java/lang/invoke/VarHandle" ∧ (parseMethodDescriptor yX5_gatherRing.desc).map (fun d => d.parameters.length) = some 0 := by decide +kernel
set_option maxHeartbeats 8000000 in
set_option maxRecDepth 100000 in
theorem c_X5_gatherRing (l : Launch) (D : va_G) (cI cJ cZ cO : ClassId) (HA pA pAd pAx pAy tA tAr rA rAr qA gA IA KA : Nat) (pd : Nat → Int32) (px : Nat → Int32) (py : Nat → Int32) (pn : Int32) (tr : Nat → Int32) (ts : Int32) (rr : Nat → Int32) (rs : Int32)  (K : (Nat → Int32) → Int32 → (Nat → Int32) → Int32 → Prop) (hw : wp_X5_gatherRing px py pn tr ts rr rs K) : Cv l D (tys4 cI cJ cZ cO) yX5_gatherRing wsX5_gatherRing { frames := 3, cells := 0, slots := 0, locals := 84 } [.ref HA] [(HA, .inr (4, [.ref pA, .ref qA, .ref tA, .ref gA, .ref rA, .ref IA, .ref KA])), (pA, .inr (2, [.ref pAd, .ref pAx, .ref pAy, .int pn])), (pAd, .inl (cI, 32, .inl pd)), (pAx, .inl (cI, 32, .inl px)), (pAy, .inl (cI, 32, .inl py)), (tA, .inr (0, [.ref tAr, .int ts])), (tAr, .inl (cI, 32, .inl tr)), (rA, .inr (3, [.ref rAr, .int rs])), (rAr, .inl (cI, 32, .inl rr))] (fun (u : (Nat → Int32) × (Int32) × (Nat → Int32) × (Int32)) => K u.1 u.2.1 u.2.2.1 u.2.2.2) (fun u => [(HA, .inr (4, [.ref pA, .ref qA, .ref tA, .ref gA, .ref rA, .ref IA, .ref KA])), (pA, .inr (2, [.ref pAd, .ref pAx, .ref pAy, .int pn])), (pAd, .inl (cI, 32, .inl pd)), (pAx, .inl (cI, 32, .inl px)), (pAy, .inl (cI, 32, .inl py)), (tA, .inr (0, [.ref tAr, .int u.2.1])), (tAr, .inl (cI, 32, .inl u.1)), (rA, .inr (3, [.ref rAr, .int u.2.2.2])), (rAr, .inl (cI, 32, .inl u.2.2.1))]) := by
  refine mt_v (cc := cX5_gatherRing) (maxL := 1) (by decide) rfl (Nat.le_of_ble_eq_true rfl) ?_
  intro p e s m args below meth c Q A R ls hRf hRl hx hb hml hown hts hK hA hP hD hS hl ret
  have hown : s.vm.findClass RX5 = some m.cls := hown
  have hl : lv_has ls 1 [(0, .ref HA)] := hl
  unfold wp_X5_gatherRing at hw
  refine lv_aload_n hx hb dX5_gatherRing_0 rfl (lv_at hl 0 rfl) ?_
  refine va_get (D := D) (ci := 4) (v := .ref rA) (C := RX5) (T := TX5) (N := 7) hx hb hts in_X5_gatherRing_X5 hown hK hP 0 rfl rfl 4 (by decide) (hts (.fieldLink RX5 36 "LiveHull" "ring" "LLiveHull$Ring;") (List.mem_of_getElem? (i := 1) rfl)) (fun _ h9 => h9) rfl dX5_gatherRing_1 ?_
  refine cl_Vv (As := []) (rest := []) ⟨hx, hb, hml, hown, hts⟩ (c_X4_clear l D cI cJ cZ cO rA rAr rr rs  _ hw) (cwV 0 hts gX5_gatherRing_X4_clear rfl rfl rfl hd_X4_clear ⟨Nat.le_trans (Nat.le_of_ble_eq_true rfl) hRf, Nat.le_trans (Nat.le_of_ble_eq_true rfl) hRl⟩) hK hP hD hS hA [7, 8] [0, 1, 2, 3, 4, 5, 6] rfl (by decide) rfl (by decide) (by decide) 7 3 rfl rfl rfl hl.1 rfl (Nat.le_of_ble_eq_true rfl) dX5_gatherRing_4 ⟨Nat.zero_le _, Nat.zero_le _⟩ (fun rs_4 H locs hw hP hD hS => ?_)
  try dsimp only at hw
  have hP : va_P D vwCl [(HA, .inr (4, [.ref pA, .ref qA, .ref tA, .ref gA, .ref rA, .ref IA, .ref KA])), (pA, .inr (2, [.ref pAd, .ref pAx, .ref pAy, .int pn])), (pAd, .inl (cI, 32, .inl pd)), (pAx, .inl (cI, 32, .inl px)), (pAy, .inl (cI, 32, .inl py)), (tA, .inr (0, [.ref tAr, .int ts])), (tAr, .inl (cI, 32, .inl tr)), (rA, .inr (3, [.ref rAr, .int rs_4])), (rAr, .inl (cI, 32, .inl rr))] H := hP.sub [0, 1, 2, 3, 4, 5, 6, 7, 8] rfl
  have hD : va_D A [(HA, .inr (4, [.ref pA, .ref qA, .ref tA, .ref gA, .ref rA, .ref IA, .ref KA])), (pA, .inr (2, [.ref pAd, .ref pAx, .ref pAy, .int pn])), (pAd, .inl (cI, 32, .inl pd)), (pAx, .inl (cI, 32, .inl px)), (pAy, .inl (cI, 32, .inl py)), (tA, .inr (0, [.ref tAr, .int ts])), (tAr, .inl (cI, 32, .inl tr)), (rA, .inr (3, [.ref rAr, .int rs_4])), (rAr, .inl (cI, 32, .inl rr))] := hD.sub [0, 1, 2, 3, 4, 5, 6, 7, 8] (by decide) rfl
  refine lv_aload_n hx hb dX5_gatherRing_7 rfl (lv_at hl 0 rfl) ?_
  refine va_get (D := D) (ci := 4) (v := .ref tA) (C := RX5) (T := TX5) (N := 7) hx hb hts in_X5_gatherRing_X5 hown hK hP 0 rfl rfl 2 (by decide) (hts (.fieldLink RX5 26 "LiveHull" "traced" "LLiveHull$Chain;") (List.mem_of_getElem? (i := 2) rfl)) (fun _ h9 => h9) rfl dX5_gatherRing_8 ?_
  refine lv_aload_n hx hb dX5_gatherRing_11 rfl (lv_at hl 0 rfl) ?_
  refine va_get (D := D) (ci := 4) (v := .ref pA) (C := RX5) (T := TX5) (N := 7) hx hb hts in_X5_gatherRing_X5 hown hK hP 0 rfl rfl 0 (by decide) (hts (.fieldLink RX5 10 "LiveHull" "points" "LLiveHull$Points;") (List.mem_of_getElem? (i := 3) rfl)) (fun _ h9 => h9) rfl dX5_gatherRing_12 ?_
  refine lv_iconst (v := 0) hx hb dX5_gatherRing_15 (by decide) ?_
  refine lv_aload_n hx hb dX5_gatherRing_16 rfl (lv_at hl 0 rfl) ?_
  refine va_get (D := D) (ci := 4) (v := .ref pA) (C := RX5) (T := TX5) (N := 7) hx hb hts in_X5_gatherRing_X5 hown hK hP 0 rfl rfl 0 (by decide) (hts (.fieldLink RX5 10 "LiveHull" "points" "LLiveHull$Points;") (List.mem_of_getElem? (i := 3) rfl)) (fun _ h9 => h9) rfl dX5_gatherRing_17 ?_
  refine va_get (D := D) (ci := 2) (v := .int pn) (C := RX3) (T := TX3) (N := 4) hx hb hts in_X5_gatherRing_X3 hown hK hP 1 rfl rfl 3 (by decide) (hts (.fieldLink RX5 63 "LiveHull$Points" "count" "I") (List.mem_of_getElem? (i := 4) rfl)) (fun _ h9 => h9) rfl dX5_gatherRing_20 ?_
  refine lv_iconst (v := 1) hx hb dX5_gatherRing_23 (by decide) ?_
  refine cl_Vv (As := [.ref pA, .int 0, .int pn, .int 1]) (rest := []) ⟨hx, hb, hml, hown, hts⟩ (c_X0_trace l D cI cJ cZ cO tA tAr pA pAd pAx pAy tr ts pd px py pn 0 pn 1 _ hw) (cwV 4 hts gX5_gatherRing_X0_trace rfl rfl rfl hd_X0_trace ⟨Nat.le_trans (Nat.le_of_ble_eq_true rfl) hRf, Nat.le_trans (Nat.le_of_ble_eq_true rfl) hRl⟩) hK hP hD hS hA [5, 6, 1, 2, 3, 4] [0, 7, 8] rfl (by decide) rfl (by decide) (by decide) 5 0 rfl rfl rfl hl.1 rfl (Nat.le_of_ble_eq_true rfl) dX5_gatherRing_24 ⟨Nat.zero_le _, Nat.zero_le _⟩ (fun u H locs hw hP hD hS => ?_)
  obtain ⟨tr_24, ts_24⟩ := u
  try dsimp only at hw
  have hP : va_P D vwCl [(HA, .inr (4, [.ref pA, .ref qA, .ref tA, .ref gA, .ref rA, .ref IA, .ref KA])), (pA, .inr (2, [.ref pAd, .ref pAx, .ref pAy, .int pn])), (pAd, .inl (cI, 32, .inl pd)), (pAx, .inl (cI, 32, .inl px)), (pAy, .inl (cI, 32, .inl py)), (tA, .inr (0, [.ref tAr, .int ts_24])), (tAr, .inl (cI, 32, .inl tr_24)), (rA, .inr (3, [.ref rAr, .int rs_4])), (rAr, .inl (cI, 32, .inl rr))] H := hP.sub [0, 5, 6, 7, 8, 3, 4, 1, 2] rfl
  have hD : va_D A [(HA, .inr (4, [.ref pA, .ref qA, .ref tA, .ref gA, .ref rA, .ref IA, .ref KA])), (pA, .inr (2, [.ref pAd, .ref pAx, .ref pAy, .int pn])), (pAd, .inl (cI, 32, .inl pd)), (pAx, .inl (cI, 32, .inl px)), (pAy, .inl (cI, 32, .inl py)), (tA, .inr (0, [.ref tAr, .int ts_24])), (tAr, .inl (cI, 32, .inl tr_24)), (rA, .inr (3, [.ref rAr, .int rs_4])), (rAr, .inl (cI, 32, .inl rr))] := hD.sub [0, 5, 6, 7, 8, 3, 4, 1, 2] (by decide) rfl
  refine lv_aload_n hx hb dX5_gatherRing_27 rfl (lv_at hl 0 rfl) ?_
  refine va_get (D := D) (ci := 4) (v := .ref rA) (C := RX5) (T := TX5) (N := 7) hx hb hts in_X5_gatherRing_X5 hown hK hP 0 rfl rfl 4 (by decide) (hts (.fieldLink RX5 36 "LiveHull" "ring" "LLiveHull$Ring;") (List.mem_of_getElem? (i := 1) rfl)) (fun _ h9 => h9) rfl dX5_gatherRing_28 ?_
  refine lv_aload_n hx hb dX5_gatherRing_31 rfl (lv_at hl 0 rfl) ?_
  refine va_get (D := D) (ci := 4) (v := .ref tA) (C := RX5) (T := TX5) (N := 7) hx hb hts in_X5_gatherRing_X5 hown hK hP 0 rfl rfl 2 (by decide) (hts (.fieldLink RX5 26 "LiveHull" "traced" "LLiveHull$Chain;") (List.mem_of_getElem? (i := 2) rfl)) (fun _ h9 => h9) rfl dX5_gatherRing_32 ?_
  refine cl_Vv (As := [.ref tA]) (rest := []) ⟨hx, hb, hml, hown, hts⟩ (c_X4_takeRightward l D cI cJ cZ cO rA rAr tA tAr rr rs_4 tr_24 ts_24  _ hw) (cwV 1 hts gX5_gatherRing_X4_takeRightward rfl rfl rfl hd_X4_takeRightward ⟨Nat.le_trans (Nat.le_of_ble_eq_true rfl) hRf, Nat.le_trans (Nat.le_of_ble_eq_true rfl) hRl⟩) hK hP hD hS hA [7, 8, 5, 6] [0, 1, 2, 3, 4] rfl (by decide) rfl (by decide) (by decide) 7 3 rfl rfl rfl hl.1 rfl (Nat.le_of_ble_eq_true rfl) dX5_gatherRing_35 ⟨Nat.zero_le _, Nat.zero_le _⟩ (fun u H locs hw hP hD hS => ?_)
  obtain ⟨rr_35, rs_35⟩ := u
  try dsimp only at hw
  have hP : va_P D vwCl [(HA, .inr (4, [.ref pA, .ref qA, .ref tA, .ref gA, .ref rA, .ref IA, .ref KA])), (pA, .inr (2, [.ref pAd, .ref pAx, .ref pAy, .int pn])), (pAd, .inl (cI, 32, .inl pd)), (pAx, .inl (cI, 32, .inl px)), (pAy, .inl (cI, 32, .inl py)), (tA, .inr (0, [.ref tAr, .int ts_24])), (tAr, .inl (cI, 32, .inl tr_24)), (rA, .inr (3, [.ref rAr, .int rs_35])), (rAr, .inl (cI, 32, .inl rr_35))] H := hP.sub [0, 1, 2, 3, 4, 7, 8, 5, 6] rfl
  have hD : va_D A [(HA, .inr (4, [.ref pA, .ref qA, .ref tA, .ref gA, .ref rA, .ref IA, .ref KA])), (pA, .inr (2, [.ref pAd, .ref pAx, .ref pAy, .int pn])), (pAd, .inl (cI, 32, .inl pd)), (pAx, .inl (cI, 32, .inl px)), (pAy, .inl (cI, 32, .inl py)), (tA, .inr (0, [.ref tAr, .int ts_24])), (tAr, .inl (cI, 32, .inl tr_24)), (rA, .inr (3, [.ref rAr, .int rs_35])), (rAr, .inl (cI, 32, .inl rr_35))] := hD.sub [0, 1, 2, 3, 4, 7, 8, 5, 6] (by decide) rfl
  refine lv_aload_n hx hb dX5_gatherRing_38 rfl (lv_at hl 0 rfl) ?_
  refine va_get (D := D) (ci := 4) (v := .ref tA) (C := RX5) (T := TX5) (N := 7) hx hb hts in_X5_gatherRing_X5 hown hK hP 0 rfl rfl 2 (by decide) (hts (.fieldLink RX5 26 "LiveHull" "traced" "LLiveHull$Chain;") (List.mem_of_getElem? (i := 2) rfl)) (fun _ h9 => h9) rfl dX5_gatherRing_39 ?_
  refine lv_aload_n hx hb dX5_gatherRing_42 rfl (lv_at hl 0 rfl) ?_
  refine va_get (D := D) (ci := 4) (v := .ref pA) (C := RX5) (T := TX5) (N := 7) hx hb hts in_X5_gatherRing_X5 hown hK hP 0 rfl rfl 0 (by decide) (hts (.fieldLink RX5 10 "LiveHull" "points" "LLiveHull$Points;") (List.mem_of_getElem? (i := 3) rfl)) (fun _ h9 => h9) rfl dX5_gatherRing_43 ?_
  refine lv_iconst (v := 0) hx hb dX5_gatherRing_46 (by decide) ?_
  refine lv_aload_n hx hb dX5_gatherRing_47 rfl (lv_at hl 0 rfl) ?_
  refine va_get (D := D) (ci := 4) (v := .ref pA) (C := RX5) (T := TX5) (N := 7) hx hb hts in_X5_gatherRing_X5 hown hK hP 0 rfl rfl 0 (by decide) (hts (.fieldLink RX5 10 "LiveHull" "points" "LLiveHull$Points;") (List.mem_of_getElem? (i := 3) rfl)) (fun _ h9 => h9) rfl dX5_gatherRing_48 ?_
  refine va_get (D := D) (ci := 2) (v := .int pn) (C := RX3) (T := TX3) (N := 4) hx hb hts in_X5_gatherRing_X3 hown hK hP 1 rfl rfl 3 (by decide) (hts (.fieldLink RX5 63 "LiveHull$Points" "count" "I") (List.mem_of_getElem? (i := 4) rfl)) (fun _ h9 => h9) rfl dX5_gatherRing_51 ?_
  refine lv_iconst (v := 0) hx hb dX5_gatherRing_54 (by decide) ?_
  refine cl_Vv (As := [.ref pA, .int 0, .int pn, .int 0]) (rest := []) ⟨hx, hb, hml, hown, hts⟩ (c_X0_trace l D cI cJ cZ cO tA tAr pA pAd pAx pAy tr_24 ts_24 pd px py pn 0 pn 0 _ hw) (cwV 4 hts gX5_gatherRing_X0_trace rfl rfl rfl hd_X0_trace ⟨Nat.le_trans (Nat.le_of_ble_eq_true rfl) hRf, Nat.le_trans (Nat.le_of_ble_eq_true rfl) hRl⟩) hK hP hD hS hA [5, 6, 1, 2, 3, 4] [0, 7, 8] rfl (by decide) rfl (by decide) (by decide) 5 0 rfl rfl rfl hl.1 rfl (Nat.le_of_ble_eq_true rfl) dX5_gatherRing_55 ⟨Nat.zero_le _, Nat.zero_le _⟩ (fun u H locs hw hP hD hS => ?_)
  obtain ⟨tr_55, ts_55⟩ := u
  try dsimp only at hw
  have hP : va_P D vwCl [(HA, .inr (4, [.ref pA, .ref qA, .ref tA, .ref gA, .ref rA, .ref IA, .ref KA])), (pA, .inr (2, [.ref pAd, .ref pAx, .ref pAy, .int pn])), (pAd, .inl (cI, 32, .inl pd)), (pAx, .inl (cI, 32, .inl px)), (pAy, .inl (cI, 32, .inl py)), (tA, .inr (0, [.ref tAr, .int ts_55])), (tAr, .inl (cI, 32, .inl tr_55)), (rA, .inr (3, [.ref rAr, .int rs_35])), (rAr, .inl (cI, 32, .inl rr_35))] H := hP.sub [0, 5, 6, 7, 8, 3, 4, 1, 2] rfl
  have hD : va_D A [(HA, .inr (4, [.ref pA, .ref qA, .ref tA, .ref gA, .ref rA, .ref IA, .ref KA])), (pA, .inr (2, [.ref pAd, .ref pAx, .ref pAy, .int pn])), (pAd, .inl (cI, 32, .inl pd)), (pAx, .inl (cI, 32, .inl px)), (pAy, .inl (cI, 32, .inl py)), (tA, .inr (0, [.ref tAr, .int ts_55])), (tAr, .inl (cI, 32, .inl tr_55)), (rA, .inr (3, [.ref rAr, .int rs_35])), (rAr, .inl (cI, 32, .inl rr_35))] := hD.sub [0, 5, 6, 7, 8, 3, 4, 1, 2] (by decide) rfl
  refine lv_aload_n hx hb dX5_gatherRing_58 rfl (lv_at hl 0 rfl) ?_
  refine va_get (D := D) (ci := 4) (v := .ref rA) (C := RX5) (T := TX5) (N := 7) hx hb hts in_X5_gatherRing_X5 hown hK hP 0 rfl rfl 4 (by decide) (hts (.fieldLink RX5 36 "LiveHull" "ring" "LLiveHull$Ring;") (List.mem_of_getElem? (i := 1) rfl)) (fun _ h9 => h9) rfl dX5_gatherRing_59 ?_
  refine lv_aload_n hx hb dX5_gatherRing_62 rfl (lv_at hl 0 rfl) ?_
  refine va_get (D := D) (ci := 4) (v := .ref tA) (C := RX5) (T := TX5) (N := 7) hx hb hts in_X5_gatherRing_X5 hown hK hP 0 rfl rfl 2 (by decide) (hts (.fieldLink RX5 26 "LiveHull" "traced" "LLiveHull$Chain;") (List.mem_of_getElem? (i := 2) rfl)) (fun _ h9 => h9) rfl dX5_gatherRing_63 ?_
  refine cl_Vv (As := [.ref tA]) (rest := []) ⟨hx, hb, hml, hown, hts⟩ (c_X4_takeLeftward l D cI cJ cZ cO rA rAr tA tAr rr_35 rs_35 tr_55 ts_55  _ hw) (cwV 1 hts gX5_gatherRing_X4_takeLeftward rfl rfl rfl hd_X4_takeLeftward ⟨Nat.le_trans (Nat.le_of_ble_eq_true rfl) hRf, Nat.le_trans (Nat.le_of_ble_eq_true rfl) hRl⟩) hK hP hD hS hA [7, 8, 5, 6] [0, 1, 2, 3, 4] rfl (by decide) rfl (by decide) (by decide) 7 3 rfl rfl rfl hl.1 rfl (Nat.le_of_ble_eq_true rfl) dX5_gatherRing_66 ⟨Nat.zero_le _, Nat.zero_le _⟩ (fun u H locs hw hP hD hS => ?_)
  obtain ⟨rr_66, rs_66⟩ := u
  try dsimp only at hw
  have hP : va_P D vwCl [(HA, .inr (4, [.ref pA, .ref qA, .ref tA, .ref gA, .ref rA, .ref IA, .ref KA])), (pA, .inr (2, [.ref pAd, .ref pAx, .ref pAy, .int pn])), (pAd, .inl (cI, 32, .inl pd)), (pAx, .inl (cI, 32, .inl px)), (pAy, .inl (cI, 32, .inl py)), (tA, .inr (0, [.ref tAr, .int ts_55])), (tAr, .inl (cI, 32, .inl tr_55)), (rA, .inr (3, [.ref rAr, .int rs_66])), (rAr, .inl (cI, 32, .inl rr_66))] H := hP.sub [0, 1, 2, 3, 4, 7, 8, 5, 6] rfl
  have hD : va_D A [(HA, .inr (4, [.ref pA, .ref qA, .ref tA, .ref gA, .ref rA, .ref IA, .ref KA])), (pA, .inr (2, [.ref pAd, .ref pAx, .ref pAy, .int pn])), (pAd, .inl (cI, 32, .inl pd)), (pAx, .inl (cI, 32, .inl px)), (pAy, .inl (cI, 32, .inl py)), (tA, .inr (0, [.ref tAr, .int ts_55])), (tAr, .inl (cI, 32, .inl tr_55)), (rA, .inr (3, [.ref rAr, .int rs_66])), (rAr, .inl (cI, 32, .inl rr_66))] := hD.sub [0, 1, 2, 3, 4, 7, 8, 5, 6] (by decide) rfl
  exact ret _ _ _ _ (tr_55, ts_55, rr_66, rs_66) hw hP hD hS dX5_gatherRing_69
theorem in_X5_add_X3 : ∀ w ∈ wsX30, w ∈ wsX5_add := fun _ h => List.mem_cons_of_mem _ (List.mem_append_left _ (List.mem_append_right _ h))
theorem in_X5_add_X5 : ∀ w ∈ wsX50, w ∈ wsX5_add := fun _ h => List.mem_cons_of_mem _ (List.mem_append_left _ (List.mem_append_left _ (List.mem_append_right _ h)))
theorem hd_X5_add : yX5_add.cls = RX5 ∧ yX5_add.cls ≠ "java/lang/invoke/MethodHandle" ∧ yX5_add.cls ≠ "java/lang/invoke/VarHandle" ∧ (parseMethodDescriptor yX5_add.desc).map (fun d => d.parameters.length) = some 2 := by decide +kernel
set_option maxHeartbeats 8000000 in
set_option maxRecDepth 100000 in
theorem c_X5_add (l : Launch) (D : va_G) (cI cJ cZ cO : ClassId) (HA pA pAd pAx pAy qA qAf qAs tA gA rA IA KA : Nat) (pd : Nat → Int32) (px : Nat → Int32) (py : Nat → Int32) (pn : Int32) (qf : Nat → Int32) (qs : Nat → Int32) (v1 : Int32) (v2 : Int32) (K : Int32 → (Nat → Int32) → (Nat → Int32) → (Nat → Int32) → Int32 → (Nat → Int32) → (Nat → Int32) → Prop) (hw : wp_X5_add pd px py pn qf qs v1 v2 K) : Ci l D (tys4 cI cJ cZ cO) yX5_add wsX5_add { frames := 2, cells := 0, slots := 0, locals := 48 } [.ref HA, .int v1, .int v2] [(HA, .inr (4, [.ref pA, .ref qA, .ref tA, .ref gA, .ref rA, .ref IA, .ref KA])), (pA, .inr (2, [.ref pAd, .ref pAx, .ref pAy, .int pn])), (pAd, .inl (cI, 32, .inl pd)), (pAx, .inl (cI, 32, .inl px)), (pAy, .inl (cI, 32, .inl py)), (qA, .inr (1, [.ref qAf, .ref qAs])), (qAf, .inl (cI, 64, .inl qf)), (qAs, .inl (cI, 64, .inl qs))] (fun (r : Int32) (u : (Nat → Int32) × (Nat → Int32) × (Nat → Int32) × (Int32) × (Nat → Int32) × (Nat → Int32)) => K r u.1 u.2.1 u.2.2.1 u.2.2.2.1 u.2.2.2.2.1 u.2.2.2.2.2) (fun u => [(HA, .inr (4, [.ref pA, .ref qA, .ref tA, .ref gA, .ref rA, .ref IA, .ref KA])), (pA, .inr (2, [.ref pAd, .ref pAx, .ref pAy, .int u.2.2.2.1])), (pAd, .inl (cI, 32, .inl u.1)), (pAx, .inl (cI, 32, .inl u.2.1)), (pAy, .inl (cI, 32, .inl u.2.2.1)), (qA, .inr (1, [.ref qAf, .ref qAs])), (qAf, .inl (cI, 64, .inl u.2.2.2.2.1)), (qAs, .inl (cI, 64, .inl u.2.2.2.2.2))]) := by
  refine mt_i (cc := cX5_add) (maxL := 4) (rt := .int) (by decide) rfl (Nat.le_of_ble_eq_true rfl) ?_
  intro p e s m args below meth c Q A R ls hRf hRl hx hb hml hown hts hK hA hP hD hS hl ret
  have hown : s.vm.findClass RX5 = some m.cls := hown
  have hl : lv_has ls 4 [(0, .ref HA), (1, .int v1), (2, .int v2)] := hl
  unfold wp_X5_add at hw
  refine lv_iload_n hx hb dX5_add_0 rfl (lv_at hl 1 rfl) ?_
  refine lv_iload_n hx hb dX5_add_1 rfl (lv_at hl 2 rfl) ?_
  refine cl_Si (As := [.int v1, .int v2]) (rest := []) ⟨hx, hb, hml, hown, hts⟩ (c_X5_isPlace l D cI cJ cZ cO   v1 v2 _ hw) (va_cwS 2 hts gX5_add_X5_isPlace rfl rfl rfl hd_X5_isPlace.2 ⟨Nat.le_trans (Nat.le_of_ble_eq_true rfl) hRf, Nat.le_trans (Nat.le_of_ble_eq_true rfl) hRl⟩) hK hP hD hS hA [] [0, 1, 2, 3, 4, 5, 6, 7] rfl (by decide) rfl (by decide) (by decide) rfl hl.1 rfl (Nat.le_of_ble_eq_true rfl) dX5_add_2 ⟨Nat.zero_le _, Nat.zero_le _⟩ (fun r2 _u H locs hw hP hD hS => ?_)
  try dsimp only at hw
  have hP : va_P D vwCl [(HA, .inr (4, [.ref pA, .ref qA, .ref tA, .ref gA, .ref rA, .ref IA, .ref KA])), (pA, .inr (2, [.ref pAd, .ref pAx, .ref pAy, .int pn])), (pAd, .inl (cI, 32, .inl pd)), (pAx, .inl (cI, 32, .inl px)), (pAy, .inl (cI, 32, .inl py)), (qA, .inr (1, [.ref qAf, .ref qAs])), (qAf, .inl (cI, 64, .inl qf)), (qAs, .inl (cI, 64, .inl qs))] H := hP.sub [0, 1, 2, 3, 4, 5, 6, 7] rfl
  have hD : va_D A [(HA, .inr (4, [.ref pA, .ref qA, .ref tA, .ref gA, .ref rA, .ref IA, .ref KA])), (pA, .inr (2, [.ref pAd, .ref pAx, .ref pAy, .int pn])), (pAd, .inl (cI, 32, .inl pd)), (pAx, .inl (cI, 32, .inl px)), (pAy, .inl (cI, 32, .inl py)), (qA, .inr (1, [.ref qAf, .ref qAs])), (qAf, .inl (cI, 64, .inl qf)), (qAs, .inl (cI, 64, .inl qs))] := hD.sub [0, 1, 2, 3, 4, 5, 6, 7] (by decide) rfl
  obtain ⟨hwA, hwB⟩ := hw
  refine lv_if_ne (tgt := 11) hx hb dX5_add_5 (by decide) (fun cb => ?_) (fun cb => ?_)
  · have hw := hwA cb
    refine lv_aload_n hx hb dX5_add_11 rfl (lv_at hl 0 rfl) ?_
    refine va_get (D := D) (ci := 4) (v := .ref pA) (C := RX5) (T := TX5) (N := 7) hx hb hts in_X5_add_X5 hown hK hP 0 rfl rfl 0 (by decide) (hts (.fieldLink RX5 10 "LiveHull" "points" "LLiveHull$Points;") (List.mem_of_getElem? (i := 1) rfl)) (fun _ h9 => h9) rfl dX5_add_12 ?_
    refine lv_iload_n hx hb dX5_add_15 rfl (lv_at hl 1 rfl) ?_
    refine lv_iload_n hx hb dX5_add_16 rfl (lv_at hl 2 rfl) ?_
    refine cl_Vi (As := [.int v1, .int v2]) (rest := []) ⟨hx, hb, hml, hown, hts⟩ (c_X3_isTaken l D cI cJ cZ cO pA pAd pAx pAy pd px py pn v1 v2 _ hw) (cwV 2 hts gX5_add_X3_isTaken rfl rfl rfl hd_X3_isTaken ⟨Nat.le_trans (Nat.le_of_ble_eq_true rfl) hRf, Nat.le_trans (Nat.le_of_ble_eq_true rfl) hRl⟩) hK hP hD hS hA [1, 2, 3, 4] [0, 5, 6, 7] rfl (by decide) rfl (by decide) (by decide) 1 2 rfl rfl rfl hl.1 rfl (Nat.le_of_ble_eq_true rfl) dX5_add_17 ⟨Nat.zero_le _, Nat.zero_le _⟩ (fun r17 _u H locs hw hP hD hS => ?_)
    try dsimp only at hw
    have hP : va_P D vwCl [(HA, .inr (4, [.ref pA, .ref qA, .ref tA, .ref gA, .ref rA, .ref IA, .ref KA])), (pA, .inr (2, [.ref pAd, .ref pAx, .ref pAy, .int pn])), (pAd, .inl (cI, 32, .inl pd)), (pAx, .inl (cI, 32, .inl px)), (pAy, .inl (cI, 32, .inl py)), (qA, .inr (1, [.ref qAf, .ref qAs])), (qAf, .inl (cI, 64, .inl qf)), (qAs, .inl (cI, 64, .inl qs))] H := hP.sub [0, 4, 5, 6, 7, 1, 2, 3] rfl
    have hD : va_D A [(HA, .inr (4, [.ref pA, .ref qA, .ref tA, .ref gA, .ref rA, .ref IA, .ref KA])), (pA, .inr (2, [.ref pAd, .ref pAx, .ref pAy, .int pn])), (pAd, .inl (cI, 32, .inl pd)), (pAx, .inl (cI, 32, .inl px)), (pAy, .inl (cI, 32, .inl py)), (qA, .inr (1, [.ref qAf, .ref qAs])), (qAf, .inl (cI, 64, .inl qf)), (qAs, .inl (cI, 64, .inl qs))] := hD.sub [0, 4, 5, 6, 7, 1, 2, 3] (by decide) rfl
    obtain ⟨hwA, hwB⟩ := hw
    refine lv_if_eq (tgt := 26) hx hb dX5_add_20 (by decide) (fun cb => ?_) (fun cb => ?_)
    · have hw := hwA cb
      refine lv_aload_n hx hb dX5_add_26 rfl (lv_at hl 0 rfl) ?_
      refine va_get (D := D) (ci := 4) (v := .ref pA) (C := RX5) (T := TX5) (N := 7) hx hb hts in_X5_add_X5 hown hK hP 0 rfl rfl 0 (by decide) (hts (.fieldLink RX5 10 "LiveHull" "points" "LLiveHull$Points;") (List.mem_of_getElem? (i := 1) rfl)) (fun _ h9 => h9) rfl dX5_add_27 ?_
      refine cl_Vi (As := []) (rest := []) ⟨hx, hb, hml, hown, hts⟩ (c_X3_leastFreeId l D cI cJ cZ cO pA pAd pAx pAy pd px py pn  _ hw) (cwV 0 hts gX5_add_X3_leastFreeId rfl rfl rfl hd_X3_leastFreeId ⟨Nat.le_trans (Nat.le_of_ble_eq_true rfl) hRf, Nat.le_trans (Nat.le_of_ble_eq_true rfl) hRl⟩) hK hP hD hS hA [1, 2, 3, 4] [0, 5, 6, 7] rfl (by decide) rfl (by decide) (by decide) 1 2 rfl rfl rfl hl.1 rfl (Nat.le_of_ble_eq_true rfl) dX5_add_30 ⟨Nat.zero_le _, Nat.zero_le _⟩ (fun r30 _u H locs hw hP hD hS => ?_)
      try dsimp only at hw
      have hP : va_P D vwCl [(HA, .inr (4, [.ref pA, .ref qA, .ref tA, .ref gA, .ref rA, .ref IA, .ref KA])), (pA, .inr (2, [.ref pAd, .ref pAx, .ref pAy, .int pn])), (pAd, .inl (cI, 32, .inl pd)), (pAx, .inl (cI, 32, .inl px)), (pAy, .inl (cI, 32, .inl py)), (qA, .inr (1, [.ref qAf, .ref qAs])), (qAf, .inl (cI, 64, .inl qf)), (qAs, .inl (cI, 64, .inl qs))] H := hP.sub [0, 4, 5, 6, 7, 1, 2, 3] rfl
      have hD : va_D A [(HA, .inr (4, [.ref pA, .ref qA, .ref tA, .ref gA, .ref rA, .ref IA, .ref KA])), (pA, .inr (2, [.ref pAd, .ref pAx, .ref pAy, .int pn])), (pAd, .inl (cI, 32, .inl pd)), (pAx, .inl (cI, 32, .inl px)), (pAy, .inl (cI, 32, .inl py)), (qA, .inr (1, [.ref qAf, .ref qAs])), (qAf, .inl (cI, 64, .inl qf)), (qAs, .inl (cI, 64, .inl qs))] := hD.sub [0, 4, 5, 6, 7, 1, 2, 3] (by decide) rfl
      refine lv_istore_n (lv' := [(3, .int r30), (0, .ref HA), (1, .int v1), (2, .int v2)]) hx hb dX5_add_33 rfl hl (by decide) rfl (fun ls hl => ?_)
      refine lv_iload_n hx hb dX5_add_34 rfl (lv_at hl 0 rfl) ?_
      refine lv_bipush (v := (-6)) hx hb dX5_add_35 (by decide) ?_
      obtain ⟨hwA, hwB⟩ := hw
      refine lv_icmp_ne (tgt := 43) hx hb dX5_add_37 (by decide) (fun cb => ?_) (fun cb => ?_)
      · have hw := hwA cb
        refine lv_aload_n hx hb dX5_add_43 rfl (lv_at hl 1 rfl) ?_
        refine va_get (D := D) (ci := 4) (v := .ref pA) (C := RX5) (T := TX5) (N := 7) hx hb hts in_X5_add_X5 hown hK hP 0 rfl rfl 0 (by decide) (hts (.fieldLink RX5 10 "LiveHull" "points" "LLiveHull$Points;") (List.mem_of_getElem? (i := 1) rfl)) (fun _ h9 => h9) rfl dX5_add_44 ?_
        refine lv_iload_n hx hb dX5_add_47 rfl (lv_at hl 0 rfl) ?_
        refine lv_iload_n hx hb dX5_add_48 rfl (lv_at hl 2 rfl) ?_
        refine lv_iload_n hx hb dX5_add_49 rfl (lv_at hl 3 rfl) ?_
        refine cl_Vv (As := [.int r30, .int v1, .int v2]) (rest := []) ⟨hx, hb, hml, hown, hts⟩ (c_X3_insert l D cI cJ cZ cO pA pAd pAx pAy pd px py pn r30 v1 v2 _ hw) (cwV 3 hts gX5_add_X3_insert rfl rfl rfl hd_X3_insert ⟨Nat.le_trans (Nat.le_of_ble_eq_true rfl) hRf, Nat.le_trans (Nat.le_of_ble_eq_true rfl) hRl⟩) hK hP hD hS hA [1, 2, 3, 4] [0, 5, 6, 7] rfl (by decide) rfl (by decide) (by decide) 1 2 rfl rfl rfl hl.1 rfl (Nat.le_of_ble_eq_true rfl) dX5_add_50 ⟨Nat.zero_le _, Nat.zero_le _⟩ (fun u H locs hw hP hD hS => ?_)
        obtain ⟨pd_50, px_50, py_50, pn_50⟩ := u
        try dsimp only at hw
        have hP : va_P D vwCl [(HA, .inr (4, [.ref pA, .ref qA, .ref tA, .ref gA, .ref rA, .ref IA, .ref KA])), (pA, .inr (2, [.ref pAd, .ref pAx, .ref pAy, .int pn_50])), (pAd, .inl (cI, 32, .inl pd_50)), (pAx, .inl (cI, 32, .inl px_50)), (pAy, .inl (cI, 32, .inl py_50)), (qA, .inr (1, [.ref qAf, .ref qAs])), (qAf, .inl (cI, 64, .inl qf)), (qAs, .inl (cI, 64, .inl qs))] H := hP.sub [0, 4, 5, 6, 7, 1, 2, 3] rfl
        have hD : va_D A [(HA, .inr (4, [.ref pA, .ref qA, .ref tA, .ref gA, .ref rA, .ref IA, .ref KA])), (pA, .inr (2, [.ref pAd, .ref pAx, .ref pAy, .int pn_50])), (pAd, .inl (cI, 32, .inl pd_50)), (pAx, .inl (cI, 32, .inl px_50)), (pAy, .inl (cI, 32, .inl py_50)), (qA, .inr (1, [.ref qAf, .ref qAs])), (qAf, .inl (cI, 64, .inl qf)), (qAs, .inl (cI, 64, .inl qs))] := hD.sub [0, 4, 5, 6, 7, 1, 2, 3] (by decide) rfl
        refine lv_aload_n hx hb dX5_add_53 rfl (lv_at hl 1 rfl) ?_
        refine va_get (D := D) (ci := 4) (v := .ref qA) (C := RX5) (T := TX5) (N := 7) hx hb hts in_X5_add_X5 hown hK hP 0 rfl rfl 1 (by decide) (hts (.fieldLink RX5 19 "LiveHull" "parts" "LLiveHull$Parts;") (List.mem_of_getElem? (i := 2) rfl)) (fun _ h9 => h9) rfl dX5_add_54 ?_
        refine lv_aload_n hx hb dX5_add_57 rfl (lv_at hl 1 rfl) ?_
        refine va_get (D := D) (ci := 4) (v := .ref pA) (C := RX5) (T := TX5) (N := 7) hx hb hts in_X5_add_X5 hown hK hP 0 rfl rfl 0 (by decide) (hts (.fieldLink RX5 10 "LiveHull" "points" "LLiveHull$Points;") (List.mem_of_getElem? (i := 1) rfl)) (fun _ h9 => h9) rfl dX5_add_58 ?_
        refine va_get (D := D) (ci := 2) (v := .int pn_50) (C := RX3) (T := TX3) (N := 4) hx hb hts in_X5_add_X3 hown hK hP 1 rfl rfl 3 (by decide) (hts (.fieldLink RX5 63 "LiveHull$Points" "count" "I") (List.mem_of_getElem? (i := 3) rfl)) (fun _ h9 => h9) rfl dX5_add_61 ?_
        refine cl_Vv (As := [.int pn_50]) (rest := []) ⟨hx, hb, hml, hown, hts⟩ (c_X2_split l D cI cJ cZ cO qA qAf qAs qf qs pn_50 _ hw) (cwV 1 hts gX5_add_X2_split rfl rfl rfl hd_X2_split ⟨Nat.le_trans (Nat.le_of_ble_eq_true rfl) hRf, Nat.le_trans (Nat.le_of_ble_eq_true rfl) hRl⟩) hK hP hD hS hA [5, 6, 7] [0, 1, 2, 3, 4] rfl (by decide) rfl (by decide) (by decide) 5 1 rfl rfl rfl hl.1 rfl (Nat.le_of_ble_eq_true rfl) dX5_add_64 ⟨Nat.zero_le _, Nat.zero_le _⟩ (fun u H locs hw hP hD hS => ?_)
        obtain ⟨qf_64, qs_64⟩ := u
        try dsimp only at hw
        have hP : va_P D vwCl [(HA, .inr (4, [.ref pA, .ref qA, .ref tA, .ref gA, .ref rA, .ref IA, .ref KA])), (pA, .inr (2, [.ref pAd, .ref pAx, .ref pAy, .int pn_50])), (pAd, .inl (cI, 32, .inl pd_50)), (pAx, .inl (cI, 32, .inl px_50)), (pAy, .inl (cI, 32, .inl py_50)), (qA, .inr (1, [.ref qAf, .ref qAs])), (qAf, .inl (cI, 64, .inl qf_64)), (qAs, .inl (cI, 64, .inl qs_64))] H := hP.sub [0, 1, 2, 3, 4, 5, 6, 7] rfl
        have hD : va_D A [(HA, .inr (4, [.ref pA, .ref qA, .ref tA, .ref gA, .ref rA, .ref IA, .ref KA])), (pA, .inr (2, [.ref pAd, .ref pAx, .ref pAy, .int pn_50])), (pAd, .inl (cI, 32, .inl pd_50)), (pAx, .inl (cI, 32, .inl px_50)), (pAy, .inl (cI, 32, .inl py_50)), (qA, .inr (1, [.ref qAf, .ref qAs])), (qAf, .inl (cI, 64, .inl qf_64)), (qAs, .inl (cI, 64, .inl qs_64))] := hD.sub [0, 1, 2, 3, 4, 5, 6, 7] (by decide) rfl
        refine lv_iload_n hx hb dX5_add_67 rfl (lv_at hl 0 rfl) ?_
        exact ret _ _ _ _ r30 (pd_50, px_50, py_50, pn_50, qf_64, qs_64) (vp_nar_int _) hw hP hD hS dX5_add_68
      · have hw := hwB cb
        refine lv_bipush (v := (-4)) hx hb dX5_add_40 (by decide) ?_
        exact ret _ _ _ _ (-4) (pd, px, py, pn, qf, qs) (vp_nar_int _) hw hP hD hS dX5_add_42
    · have hw := hwB cb
      refine lv_bipush (v := (-5)) hx hb dX5_add_23 (by decide) ?_
      exact ret _ _ _ _ (-5) (pd, px, py, pn, qf, qs) (vp_nar_int _) hw hP hD hS dX5_add_25
  · have hw := hwB cb
    refine lv_bipush (v := (-2)) hx hb dX5_add_8 (by decide) ?_
    exact ret _ _ _ _ (-2) (pd, px, py, pn, qf, qs) (vp_nar_int _) hw hP hD hS dX5_add_10
theorem in_X5_remove_X3 : ∀ w ∈ wsX30, w ∈ wsX5_remove := fun _ h => List.mem_cons_of_mem _ (List.mem_append_left _ (List.mem_append_right _ h))
theorem in_X5_remove_X5 : ∀ w ∈ wsX50, w ∈ wsX5_remove := fun _ h => List.mem_cons_of_mem _ (List.mem_append_left _ (List.mem_append_left _ (List.mem_append_right _ h)))
theorem hd_X5_remove : yX5_remove.cls = RX5 ∧ yX5_remove.cls ≠ "java/lang/invoke/MethodHandle" ∧ yX5_remove.cls ≠ "java/lang/invoke/VarHandle" ∧ (parseMethodDescriptor yX5_remove.desc).map (fun d => d.parameters.length) = some 1 := by decide +kernel
set_option maxHeartbeats 8000000 in
set_option maxRecDepth 100000 in
theorem c_X5_remove (l : Launch) (D : va_G) (cI cJ cZ cO : ClassId) (HA pA pAd pAx pAy qA qAf qAs tA gA rA IA KA : Nat) (pd : Nat → Int32) (px : Nat → Int32) (py : Nat → Int32) (pn : Int32) (qf : Nat → Int32) (qs : Nat → Int32) (v1 : Int32) (K : Int32 → (Nat → Int32) → (Nat → Int32) → (Nat → Int32) → Int32 → (Nat → Int32) → (Nat → Int32) → Prop) (hw : wp_X5_remove pd px py pn qf qs v1 K) : Ci l D (tys4 cI cJ cZ cO) yX5_remove wsX5_remove { frames := 2, cells := 0, slots := 0, locals := 46 } [.ref HA, .int v1] [(HA, .inr (4, [.ref pA, .ref qA, .ref tA, .ref gA, .ref rA, .ref IA, .ref KA])), (pA, .inr (2, [.ref pAd, .ref pAx, .ref pAy, .int pn])), (pAd, .inl (cI, 32, .inl pd)), (pAx, .inl (cI, 32, .inl px)), (pAy, .inl (cI, 32, .inl py)), (qA, .inr (1, [.ref qAf, .ref qAs])), (qAf, .inl (cI, 64, .inl qf)), (qAs, .inl (cI, 64, .inl qs))] (fun (r : Int32) (u : (Nat → Int32) × (Nat → Int32) × (Nat → Int32) × (Int32) × (Nat → Int32) × (Nat → Int32)) => K r u.1 u.2.1 u.2.2.1 u.2.2.2.1 u.2.2.2.2.1 u.2.2.2.2.2) (fun u => [(HA, .inr (4, [.ref pA, .ref qA, .ref tA, .ref gA, .ref rA, .ref IA, .ref KA])), (pA, .inr (2, [.ref pAd, .ref pAx, .ref pAy, .int u.2.2.2.1])), (pAd, .inl (cI, 32, .inl u.1)), (pAx, .inl (cI, 32, .inl u.2.1)), (pAy, .inl (cI, 32, .inl u.2.2.1)), (qA, .inr (1, [.ref qAf, .ref qAs])), (qAf, .inl (cI, 64, .inl u.2.2.2.2.1)), (qAs, .inl (cI, 64, .inl u.2.2.2.2.2))]) := by
  refine mt_i (cc := cX5_remove) (maxL := 3) (rt := .int) (by decide) rfl (Nat.le_of_ble_eq_true rfl) ?_
  intro p e s m args below meth c Q A R ls hRf hRl hx hb hml hown hts hK hA hP hD hS hl ret
  have hown : s.vm.findClass RX5 = some m.cls := hown
  have hl : lv_has ls 3 [(0, .ref HA), (1, .int v1)] := hl
  unfold wp_X5_remove at hw
  refine lv_aload_n hx hb dX5_remove_0 rfl (lv_at hl 0 rfl) ?_
  refine va_get (D := D) (ci := 4) (v := .ref pA) (C := RX5) (T := TX5) (N := 7) hx hb hts in_X5_remove_X5 hown hK hP 0 rfl rfl 0 (by decide) (hts (.fieldLink RX5 10 "LiveHull" "points" "LLiveHull$Points;") (List.mem_of_getElem? (i := 1) rfl)) (fun _ h9 => h9) rfl dX5_remove_1 ?_
  refine lv_iload_n hx hb dX5_remove_4 rfl (lv_at hl 1 rfl) ?_
  refine cl_Vi (As := [.int v1]) (rest := []) ⟨hx, hb, hml, hown, hts⟩ (c_X3_rankOf l D cI cJ cZ cO pA pAd pAx pAy pd px py pn v1 _ hw) (cwV 1 hts gX5_remove_X3_rankOf rfl rfl rfl hd_X3_rankOf ⟨Nat.le_trans (Nat.le_of_ble_eq_true rfl) hRf, Nat.le_trans (Nat.le_of_ble_eq_true rfl) hRl⟩) hK hP hD hS hA [1, 2, 3, 4] [0, 5, 6, 7] rfl (by decide) rfl (by decide) (by decide) 1 2 rfl rfl rfl hl.1 rfl (Nat.le_of_ble_eq_true rfl) dX5_remove_5 ⟨Nat.zero_le _, Nat.zero_le _⟩ (fun r5 _u H locs hw hP hD hS => ?_)
  try dsimp only at hw
  have hP : va_P D vwCl [(HA, .inr (4, [.ref pA, .ref qA, .ref tA, .ref gA, .ref rA, .ref IA, .ref KA])), (pA, .inr (2, [.ref pAd, .ref pAx, .ref pAy, .int pn])), (pAd, .inl (cI, 32, .inl pd)), (pAx, .inl (cI, 32, .inl px)), (pAy, .inl (cI, 32, .inl py)), (qA, .inr (1, [.ref qAf, .ref qAs])), (qAf, .inl (cI, 64, .inl qf)), (qAs, .inl (cI, 64, .inl qs))] H := hP.sub [0, 4, 5, 6, 7, 1, 2, 3] rfl
  have hD : va_D A [(HA, .inr (4, [.ref pA, .ref qA, .ref tA, .ref gA, .ref rA, .ref IA, .ref KA])), (pA, .inr (2, [.ref pAd, .ref pAx, .ref pAy, .int pn])), (pAd, .inl (cI, 32, .inl pd)), (pAx, .inl (cI, 32, .inl px)), (pAy, .inl (cI, 32, .inl py)), (qA, .inr (1, [.ref qAf, .ref qAs])), (qAf, .inl (cI, 64, .inl qf)), (qAs, .inl (cI, 64, .inl qs))] := hD.sub [0, 4, 5, 6, 7, 1, 2, 3] (by decide) rfl
  refine lv_istore_n (lv' := [(2, .int r5), (0, .ref HA), (1, .int v1)]) hx hb dX5_remove_8 rfl hl (by decide) rfl (fun ls hl => ?_)
  refine lv_iload_n hx hb dX5_remove_9 rfl (lv_at hl 0 rfl) ?_
  refine lv_bipush (v := (-6)) hx hb dX5_remove_10 (by decide) ?_
  obtain ⟨hwA, hwB⟩ := hw
  refine lv_icmp_ne (tgt := 17) hx hb dX5_remove_12 (by decide) (fun cb => ?_) (fun cb => ?_)
  · have hw := hwA cb
    refine lv_aload_n hx hb dX5_remove_17 rfl (lv_at hl 1 rfl) ?_
    refine va_get (D := D) (ci := 4) (v := .ref pA) (C := RX5) (T := TX5) (N := 7) hx hb hts in_X5_remove_X5 hown hK hP 0 rfl rfl 0 (by decide) (hts (.fieldLink RX5 10 "LiveHull" "points" "LLiveHull$Points;") (List.mem_of_getElem? (i := 1) rfl)) (fun _ h9 => h9) rfl dX5_remove_18 ?_
    refine lv_iload_n hx hb dX5_remove_21 rfl (lv_at hl 0 rfl) ?_
    refine cl_Vv (As := [.int r5]) (rest := []) ⟨hx, hb, hml, hown, hts⟩ (c_X3_delete l D cI cJ cZ cO pA pAd pAx pAy pd px py pn r5 _ hw) (cwV 1 hts gX5_remove_X3_delete rfl rfl rfl hd_X3_delete ⟨Nat.le_trans (Nat.le_of_ble_eq_true rfl) hRf, Nat.le_trans (Nat.le_of_ble_eq_true rfl) hRl⟩) hK hP hD hS hA [1, 2, 3, 4] [0, 5, 6, 7] rfl (by decide) rfl (by decide) (by decide) 1 2 rfl rfl rfl hl.1 rfl (Nat.le_of_ble_eq_true rfl) dX5_remove_22 ⟨Nat.zero_le _, Nat.zero_le _⟩ (fun u H locs hw hP hD hS => ?_)
    obtain ⟨pd_22, px_22, py_22, pn_22⟩ := u
    try dsimp only at hw
    have hP : va_P D vwCl [(HA, .inr (4, [.ref pA, .ref qA, .ref tA, .ref gA, .ref rA, .ref IA, .ref KA])), (pA, .inr (2, [.ref pAd, .ref pAx, .ref pAy, .int pn_22])), (pAd, .inl (cI, 32, .inl pd_22)), (pAx, .inl (cI, 32, .inl px_22)), (pAy, .inl (cI, 32, .inl py_22)), (qA, .inr (1, [.ref qAf, .ref qAs])), (qAf, .inl (cI, 64, .inl qf)), (qAs, .inl (cI, 64, .inl qs))] H := hP.sub [0, 4, 5, 6, 7, 1, 2, 3] rfl
    have hD : va_D A [(HA, .inr (4, [.ref pA, .ref qA, .ref tA, .ref gA, .ref rA, .ref IA, .ref KA])), (pA, .inr (2, [.ref pAd, .ref pAx, .ref pAy, .int pn_22])), (pAd, .inl (cI, 32, .inl pd_22)), (pAx, .inl (cI, 32, .inl px_22)), (pAy, .inl (cI, 32, .inl py_22)), (qA, .inr (1, [.ref qAf, .ref qAs])), (qAf, .inl (cI, 64, .inl qf)), (qAs, .inl (cI, 64, .inl qs))] := hD.sub [0, 4, 5, 6, 7, 1, 2, 3] (by decide) rfl
    refine lv_aload_n hx hb dX5_remove_25 rfl (lv_at hl 1 rfl) ?_
    refine va_get (D := D) (ci := 4) (v := .ref qA) (C := RX5) (T := TX5) (N := 7) hx hb hts in_X5_remove_X5 hown hK hP 0 rfl rfl 1 (by decide) (hts (.fieldLink RX5 19 "LiveHull" "parts" "LLiveHull$Parts;") (List.mem_of_getElem? (i := 2) rfl)) (fun _ h9 => h9) rfl dX5_remove_26 ?_
    refine lv_aload_n hx hb dX5_remove_29 rfl (lv_at hl 1 rfl) ?_
    refine va_get (D := D) (ci := 4) (v := .ref pA) (C := RX5) (T := TX5) (N := 7) hx hb hts in_X5_remove_X5 hown hK hP 0 rfl rfl 0 (by decide) (hts (.fieldLink RX5 10 "LiveHull" "points" "LLiveHull$Points;") (List.mem_of_getElem? (i := 1) rfl)) (fun _ h9 => h9) rfl dX5_remove_30 ?_
    refine va_get (D := D) (ci := 2) (v := .int pn_22) (C := RX3) (T := TX3) (N := 4) hx hb hts in_X5_remove_X3 hown hK hP 1 rfl rfl 3 (by decide) (hts (.fieldLink RX5 63 "LiveHull$Points" "count" "I") (List.mem_of_getElem? (i := 3) rfl)) (fun _ h9 => h9) rfl dX5_remove_33 ?_
    refine cl_Vv (As := [.int pn_22]) (rest := []) ⟨hx, hb, hml, hown, hts⟩ (c_X2_split l D cI cJ cZ cO qA qAf qAs qf qs pn_22 _ hw) (cwV 1 hts gX5_remove_X2_split rfl rfl rfl hd_X2_split ⟨Nat.le_trans (Nat.le_of_ble_eq_true rfl) hRf, Nat.le_trans (Nat.le_of_ble_eq_true rfl) hRl⟩) hK hP hD hS hA [5, 6, 7] [0, 1, 2, 3, 4] rfl (by decide) rfl (by decide) (by decide) 5 1 rfl rfl rfl hl.1 rfl (Nat.le_of_ble_eq_true rfl) dX5_remove_36 ⟨Nat.zero_le _, Nat.zero_le _⟩ (fun u H locs hw hP hD hS => ?_)
    obtain ⟨qf_36, qs_36⟩ := u
    try dsimp only at hw
    have hP : va_P D vwCl [(HA, .inr (4, [.ref pA, .ref qA, .ref tA, .ref gA, .ref rA, .ref IA, .ref KA])), (pA, .inr (2, [.ref pAd, .ref pAx, .ref pAy, .int pn_22])), (pAd, .inl (cI, 32, .inl pd_22)), (pAx, .inl (cI, 32, .inl px_22)), (pAy, .inl (cI, 32, .inl py_22)), (qA, .inr (1, [.ref qAf, .ref qAs])), (qAf, .inl (cI, 64, .inl qf_36)), (qAs, .inl (cI, 64, .inl qs_36))] H := hP.sub [0, 1, 2, 3, 4, 5, 6, 7] rfl
    have hD : va_D A [(HA, .inr (4, [.ref pA, .ref qA, .ref tA, .ref gA, .ref rA, .ref IA, .ref KA])), (pA, .inr (2, [.ref pAd, .ref pAx, .ref pAy, .int pn_22])), (pAd, .inl (cI, 32, .inl pd_22)), (pAx, .inl (cI, 32, .inl px_22)), (pAy, .inl (cI, 32, .inl py_22)), (qA, .inr (1, [.ref qAf, .ref qAs])), (qAf, .inl (cI, 64, .inl qf_36)), (qAs, .inl (cI, 64, .inl qs_36))] := hD.sub [0, 1, 2, 3, 4, 5, 6, 7] (by decide) rfl
    refine lv_aload_n hx hb dX5_remove_39 rfl (lv_at hl 1 rfl) ?_
    refine va_get (D := D) (ci := 4) (v := .ref pA) (C := RX5) (T := TX5) (N := 7) hx hb hts in_X5_remove_X5 hown hK hP 0 rfl rfl 0 (by decide) (hts (.fieldLink RX5 10 "LiveHull" "points" "LLiveHull$Points;") (List.mem_of_getElem? (i := 1) rfl)) (fun _ h9 => h9) rfl dX5_remove_40 ?_
    refine va_get (D := D) (ci := 2) (v := .int pn_22) (C := RX3) (T := TX3) (N := 4) hx hb hts in_X5_remove_X3 hown hK hP 1 rfl rfl 3 (by decide) (hts (.fieldLink RX5 63 "LiveHull$Points" "count" "I") (List.mem_of_getElem? (i := 3) rfl)) (fun _ h9 => h9) rfl dX5_remove_43 ?_
    exact ret _ _ _ _ pn_22 (pd_22, px_22, py_22, pn_22, qf_36, qs_36) (vp_nar_int _) hw hP hD hS dX5_remove_46
  · have hw := hwB cb
    refine lv_iconst (v := (-1)) hx hb dX5_remove_15 (by decide) ?_
    exact ret _ _ _ _ (-1) (pd, px, py, pn, qf, qs) (vp_nar_int _) hw hP hD hS dX5_remove_16
theorem in_X5_move_X5 : ∀ w ∈ wsX50, w ∈ wsX5_move := fun _ h => List.mem_cons_of_mem _ (List.mem_append_left _ (List.mem_append_right _ h))
theorem hd_X5_move : yX5_move.cls = RX5 ∧ yX5_move.cls ≠ "java/lang/invoke/MethodHandle" ∧ yX5_move.cls ≠ "java/lang/invoke/VarHandle" ∧ (parseMethodDescriptor yX5_move.desc).map (fun d => d.parameters.length) = some 3 := by decide +kernel
set_option maxHeartbeats 8000000 in
set_option maxRecDepth 100000 in
theorem c_X5_move (l : Launch) (D : va_G) (cI cJ cZ cO : ClassId) (HA pA pAd pAx pAy qA tA gA rA IA KA : Nat) (pd : Nat → Int32) (px : Nat → Int32) (py : Nat → Int32) (pn : Int32) (v1 : Int32) (v2 : Int32) (v3 : Int32) (K : Int32 → (Nat → Int32) → (Nat → Int32) → (Nat → Int32) → Int32 → Prop) (hw : wp_X5_move pd px py pn v1 v2 v3 K) : Ci l D (tys4 cI cJ cZ cO) yX5_move wsX5_move { frames := 2, cells := 0, slots := 0, locals := 48 } [.ref HA, .int v1, .int v2, .int v3] [(HA, .inr (4, [.ref pA, .ref qA, .ref tA, .ref gA, .ref rA, .ref IA, .ref KA])), (pA, .inr (2, [.ref pAd, .ref pAx, .ref pAy, .int pn])), (pAd, .inl (cI, 32, .inl pd)), (pAx, .inl (cI, 32, .inl px)), (pAy, .inl (cI, 32, .inl py))] (fun (r : Int32) (u : (Nat → Int32) × (Nat → Int32) × (Nat → Int32) × (Int32)) => K r u.1 u.2.1 u.2.2.1 u.2.2.2) (fun u => [(HA, .inr (4, [.ref pA, .ref qA, .ref tA, .ref gA, .ref rA, .ref IA, .ref KA])), (pA, .inr (2, [.ref pAd, .ref pAx, .ref pAy, .int u.2.2.2])), (pAd, .inl (cI, 32, .inl u.1)), (pAx, .inl (cI, 32, .inl u.2.1)), (pAy, .inl (cI, 32, .inl u.2.2.1))]) := by
  refine mt_i (cc := cX5_move) (maxL := 5) (rt := .int) (by decide) rfl (Nat.le_of_ble_eq_true rfl) ?_
  intro p e s m args below meth c Q A R ls hRf hRl hx hb hml hown hts hK hA hP hD hS hl ret
  have hown : s.vm.findClass RX5 = some m.cls := hown
  have hl : lv_has ls 5 [(0, .ref HA), (1, .int v1), (2, .int v2), (3, .int v3)] := hl
  unfold wp_X5_move at hw
  refine lv_aload_n hx hb dX5_move_0 rfl (lv_at hl 0 rfl) ?_
  refine va_get (D := D) (ci := 4) (v := .ref pA) (C := RX5) (T := TX5) (N := 7) hx hb hts in_X5_move_X5 hown hK hP 0 rfl rfl 0 (by decide) (hts (.fieldLink RX5 10 "LiveHull" "points" "LLiveHull$Points;") (List.mem_of_getElem? (i := 1) rfl)) (fun _ h9 => h9) rfl dX5_move_1 ?_
  refine lv_iload_n hx hb dX5_move_4 rfl (lv_at hl 1 rfl) ?_
  refine cl_Vi (As := [.int v1]) (rest := []) ⟨hx, hb, hml, hown, hts⟩ (c_X3_rankOf l D cI cJ cZ cO pA pAd pAx pAy pd px py pn v1 _ hw) (cwV 1 hts gX5_move_X3_rankOf rfl rfl rfl hd_X3_rankOf ⟨Nat.le_trans (Nat.le_of_ble_eq_true rfl) hRf, Nat.le_trans (Nat.le_of_ble_eq_true rfl) hRl⟩) hK hP hD hS hA [1, 2, 3, 4] [0] rfl (by decide) rfl (by decide) (by decide) 1 2 rfl rfl rfl hl.1 rfl (Nat.le_of_ble_eq_true rfl) dX5_move_5 ⟨Nat.zero_le _, Nat.zero_le _⟩ (fun r5 _u H locs hw hP hD hS => ?_)
  try dsimp only at hw
  have hP : va_P D vwCl [(HA, .inr (4, [.ref pA, .ref qA, .ref tA, .ref gA, .ref rA, .ref IA, .ref KA])), (pA, .inr (2, [.ref pAd, .ref pAx, .ref pAy, .int pn])), (pAd, .inl (cI, 32, .inl pd)), (pAx, .inl (cI, 32, .inl px)), (pAy, .inl (cI, 32, .inl py))] H := hP.sub [0, 1, 2, 3, 4] rfl
  have hD : va_D A [(HA, .inr (4, [.ref pA, .ref qA, .ref tA, .ref gA, .ref rA, .ref IA, .ref KA])), (pA, .inr (2, [.ref pAd, .ref pAx, .ref pAy, .int pn])), (pAd, .inl (cI, 32, .inl pd)), (pAx, .inl (cI, 32, .inl px)), (pAy, .inl (cI, 32, .inl py))] := hD.sub [0, 1, 2, 3, 4] (by decide) rfl
  refine lv_istore (lv' := [(4, .int r5), (0, .ref HA), (1, .int v1), (2, .int v2), (3, .int v3)]) hx hb dX5_move_8 hl (by decide) rfl (fun ls hl => ?_)
  refine lv_iload hx hb dX5_move_10 (lv_at hl 0 rfl) ?_
  refine lv_bipush (v := (-6)) hx hb dX5_move_12 (by decide) ?_
  obtain ⟨hwA, hwB⟩ := hw
  refine lv_icmp_ne (tgt := 19) hx hb dX5_move_14 (by decide) (fun cb => ?_) (fun cb => ?_)
  · have hw := hwA cb
    refine lv_iload_n hx hb dX5_move_19 rfl (lv_at hl 3 rfl) ?_
    refine lv_iload_n hx hb dX5_move_20 rfl (lv_at hl 4 rfl) ?_
    refine cl_Si (As := [.int v2, .int v3]) (rest := []) ⟨hx, hb, hml, hown, hts⟩ (c_X5_isPlace l D cI cJ cZ cO   v2 v3 _ hw) (va_cwS 2 hts gX5_move_X5_isPlace rfl rfl rfl hd_X5_isPlace.2 ⟨Nat.le_trans (Nat.le_of_ble_eq_true rfl) hRf, Nat.le_trans (Nat.le_of_ble_eq_true rfl) hRl⟩) hK hP hD hS hA [] [0, 1, 2, 3, 4] rfl (by decide) rfl (by decide) (by decide) rfl hl.1 rfl (Nat.le_of_ble_eq_true rfl) dX5_move_21 ⟨Nat.zero_le _, Nat.zero_le _⟩ (fun r21 _u H locs hw hP hD hS => ?_)
    try dsimp only at hw
    have hP : va_P D vwCl [(HA, .inr (4, [.ref pA, .ref qA, .ref tA, .ref gA, .ref rA, .ref IA, .ref KA])), (pA, .inr (2, [.ref pAd, .ref pAx, .ref pAy, .int pn])), (pAd, .inl (cI, 32, .inl pd)), (pAx, .inl (cI, 32, .inl px)), (pAy, .inl (cI, 32, .inl py))] H := hP.sub [0, 1, 2, 3, 4] rfl
    have hD : va_D A [(HA, .inr (4, [.ref pA, .ref qA, .ref tA, .ref gA, .ref rA, .ref IA, .ref KA])), (pA, .inr (2, [.ref pAd, .ref pAx, .ref pAy, .int pn])), (pAd, .inl (cI, 32, .inl pd)), (pAx, .inl (cI, 32, .inl px)), (pAy, .inl (cI, 32, .inl py))] := hD.sub [0, 1, 2, 3, 4] (by decide) rfl
    obtain ⟨hwA, hwB⟩ := hw
    refine lv_if_ne (tgt := 30) hx hb dX5_move_24 (by decide) (fun cb => ?_) (fun cb => ?_)
    · have hw := hwA cb
      refine lv_aload_n hx hb dX5_move_30 rfl (lv_at hl 1 rfl) ?_
      refine va_get (D := D) (ci := 4) (v := .ref pA) (C := RX5) (T := TX5) (N := 7) hx hb hts in_X5_move_X5 hown hK hP 0 rfl rfl 0 (by decide) (hts (.fieldLink RX5 10 "LiveHull" "points" "LLiveHull$Points;") (List.mem_of_getElem? (i := 1) rfl)) (fun _ h9 => h9) rfl dX5_move_31 ?_
      refine lv_iload_n hx hb dX5_move_34 rfl (lv_at hl 3 rfl) ?_
      refine lv_iload_n hx hb dX5_move_35 rfl (lv_at hl 4 rfl) ?_
      refine cl_Vi (As := [.int v2, .int v3]) (rest := []) ⟨hx, hb, hml, hown, hts⟩ (c_X3_isTaken l D cI cJ cZ cO pA pAd pAx pAy pd px py pn v2 v3 _ hw) (cwV 2 hts gX5_move_X3_isTaken rfl rfl rfl hd_X3_isTaken ⟨Nat.le_trans (Nat.le_of_ble_eq_true rfl) hRf, Nat.le_trans (Nat.le_of_ble_eq_true rfl) hRl⟩) hK hP hD hS hA [1, 2, 3, 4] [0] rfl (by decide) rfl (by decide) (by decide) 1 2 rfl rfl rfl hl.1 rfl (Nat.le_of_ble_eq_true rfl) dX5_move_36 ⟨Nat.zero_le _, Nat.zero_le _⟩ (fun r36 _u H locs hw hP hD hS => ?_)
      try dsimp only at hw
      have hP : va_P D vwCl [(HA, .inr (4, [.ref pA, .ref qA, .ref tA, .ref gA, .ref rA, .ref IA, .ref KA])), (pA, .inr (2, [.ref pAd, .ref pAx, .ref pAy, .int pn])), (pAd, .inl (cI, 32, .inl pd)), (pAx, .inl (cI, 32, .inl px)), (pAy, .inl (cI, 32, .inl py))] H := hP.sub [0, 1, 2, 3, 4] rfl
      have hD : va_D A [(HA, .inr (4, [.ref pA, .ref qA, .ref tA, .ref gA, .ref rA, .ref IA, .ref KA])), (pA, .inr (2, [.ref pAd, .ref pAx, .ref pAy, .int pn])), (pAd, .inl (cI, 32, .inl pd)), (pAx, .inl (cI, 32, .inl px)), (pAy, .inl (cI, 32, .inl py))] := hD.sub [0, 1, 2, 3, 4] (by decide) rfl
      obtain ⟨hwA, hwB⟩ := hw
      refine lv_if_eq (tgt := 45) hx hb dX5_move_39 (by decide) (fun cb => ?_) (fun cb => ?_)
      · have hw := hwA cb
        refine lv_aload_n hx hb dX5_move_45 rfl (lv_at hl 1 rfl) ?_
        refine va_get (D := D) (ci := 4) (v := .ref pA) (C := RX5) (T := TX5) (N := 7) hx hb hts in_X5_move_X5 hown hK hP 0 rfl rfl 0 (by decide) (hts (.fieldLink RX5 10 "LiveHull" "points" "LLiveHull$Points;") (List.mem_of_getElem? (i := 1) rfl)) (fun _ h9 => h9) rfl dX5_move_46 ?_
        refine lv_iload hx hb dX5_move_49 (lv_at hl 0 rfl) ?_
        refine cl_Vv (As := [.int r5]) (rest := []) ⟨hx, hb, hml, hown, hts⟩ (c_X3_delete l D cI cJ cZ cO pA pAd pAx pAy pd px py pn r5 _ hw) (cwV 1 hts gX5_move_X3_delete rfl rfl rfl hd_X3_delete ⟨Nat.le_trans (Nat.le_of_ble_eq_true rfl) hRf, Nat.le_trans (Nat.le_of_ble_eq_true rfl) hRl⟩) hK hP hD hS hA [1, 2, 3, 4] [0] rfl (by decide) rfl (by decide) (by decide) 1 2 rfl rfl rfl hl.1 rfl (Nat.le_of_ble_eq_true rfl) dX5_move_51 ⟨Nat.zero_le _, Nat.zero_le _⟩ (fun u H locs hw hP hD hS => ?_)
        obtain ⟨pd_51, px_51, py_51, pn_51⟩ := u
        try dsimp only at hw
        have hP : va_P D vwCl [(HA, .inr (4, [.ref pA, .ref qA, .ref tA, .ref gA, .ref rA, .ref IA, .ref KA])), (pA, .inr (2, [.ref pAd, .ref pAx, .ref pAy, .int pn_51])), (pAd, .inl (cI, 32, .inl pd_51)), (pAx, .inl (cI, 32, .inl px_51)), (pAy, .inl (cI, 32, .inl py_51))] H := hP.sub [0, 1, 2, 3, 4] rfl
        have hD : va_D A [(HA, .inr (4, [.ref pA, .ref qA, .ref tA, .ref gA, .ref rA, .ref IA, .ref KA])), (pA, .inr (2, [.ref pAd, .ref pAx, .ref pAy, .int pn_51])), (pAd, .inl (cI, 32, .inl pd_51)), (pAx, .inl (cI, 32, .inl px_51)), (pAy, .inl (cI, 32, .inl py_51))] := hD.sub [0, 1, 2, 3, 4] (by decide) rfl
        refine lv_aload_n hx hb dX5_move_54 rfl (lv_at hl 1 rfl) ?_
        refine va_get (D := D) (ci := 4) (v := .ref pA) (C := RX5) (T := TX5) (N := 7) hx hb hts in_X5_move_X5 hown hK hP 0 rfl rfl 0 (by decide) (hts (.fieldLink RX5 10 "LiveHull" "points" "LLiveHull$Points;") (List.mem_of_getElem? (i := 1) rfl)) (fun _ h9 => h9) rfl dX5_move_55 ?_
        refine lv_iload_n hx hb dX5_move_58 rfl (lv_at hl 2 rfl) ?_
        refine lv_iload_n hx hb dX5_move_59 rfl (lv_at hl 3 rfl) ?_
        refine lv_iload_n hx hb dX5_move_60 rfl (lv_at hl 4 rfl) ?_
        refine cl_Vv (As := [.int v1, .int v2, .int v3]) (rest := []) ⟨hx, hb, hml, hown, hts⟩ (c_X3_insert l D cI cJ cZ cO pA pAd pAx pAy pd_51 px_51 py_51 pn_51 v1 v2 v3 _ hw) (cwV 3 hts gX5_move_X3_insert rfl rfl rfl hd_X3_insert ⟨Nat.le_trans (Nat.le_of_ble_eq_true rfl) hRf, Nat.le_trans (Nat.le_of_ble_eq_true rfl) hRl⟩) hK hP hD hS hA [1, 2, 3, 4] [0] rfl (by decide) rfl (by decide) (by decide) 1 2 rfl rfl rfl hl.1 rfl (Nat.le_of_ble_eq_true rfl) dX5_move_61 ⟨Nat.zero_le _, Nat.zero_le _⟩ (fun u H locs hw hP hD hS => ?_)
        obtain ⟨pd_61, px_61, py_61, pn_61⟩ := u
        try dsimp only at hw
        have hP : va_P D vwCl [(HA, .inr (4, [.ref pA, .ref qA, .ref tA, .ref gA, .ref rA, .ref IA, .ref KA])), (pA, .inr (2, [.ref pAd, .ref pAx, .ref pAy, .int pn_61])), (pAd, .inl (cI, 32, .inl pd_61)), (pAx, .inl (cI, 32, .inl px_61)), (pAy, .inl (cI, 32, .inl py_61))] H := hP.sub [0, 1, 2, 3, 4] rfl
        have hD : va_D A [(HA, .inr (4, [.ref pA, .ref qA, .ref tA, .ref gA, .ref rA, .ref IA, .ref KA])), (pA, .inr (2, [.ref pAd, .ref pAx, .ref pAy, .int pn_61])), (pAd, .inl (cI, 32, .inl pd_61)), (pAx, .inl (cI, 32, .inl px_61)), (pAy, .inl (cI, 32, .inl py_61))] := hD.sub [0, 1, 2, 3, 4] (by decide) rfl
        refine lv_iconst (v := 1) hx hb dX5_move_64 (by decide) ?_
        exact ret _ _ _ _ 1 (pd_61, px_61, py_61, pn_61) (vp_nar_int _) hw hP hD hS dX5_move_65
      · have hw := hwB cb
        refine lv_bipush (v := (-5)) hx hb dX5_move_42 (by decide) ?_
        exact ret _ _ _ _ (-5) (pd, px, py, pn) (vp_nar_int _) hw hP hD hS dX5_move_44
    · have hw := hwB cb
      refine lv_bipush (v := (-2)) hx hb dX5_move_27 (by decide) ?_
      exact ret _ _ _ _ (-2) (pd, px, py, pn) (vp_nar_int _) hw hP hD hS dX5_move_29
  · have hw := hwB cb
    refine lv_iconst (v := (-1)) hx hb dX5_move_17 (by decide) ?_
    exact ret _ _ _ _ (-1) (pd, px, py, pn) (vp_nar_int _) hw hP hD hS dX5_move_18
theorem in_X5_point_X3 : ∀ w ∈ wsX30, w ∈ wsX5_point := fun _ h => List.mem_cons_of_mem _ (List.mem_append_left _ (List.mem_append_left _ (List.mem_append_left _ (List.mem_append_right _ h))))
theorem in_X5_point_X5 : ∀ w ∈ wsX50, w ∈ wsX5_point := fun _ h => List.mem_cons_of_mem _ (List.mem_append_left _ (List.mem_append_left _ (List.mem_append_left _ (List.mem_append_left _ (List.mem_append_right _ h)))))
theorem hd_X5_point : yX5_point.cls = RX5 ∧ yX5_point.cls ≠ "java/lang/invoke/MethodHandle" ∧ yX5_point.cls ≠ "java/lang/invoke/VarHandle" ∧ (parseMethodDescriptor yX5_point.desc).map (fun d => d.parameters.length) = some 2 := by decide +kernel
set_option maxHeartbeats 8000000 in
set_option maxRecDepth 100000 in
theorem c_X5_point (l : Launch) (D : va_G) (cI cJ cZ cO : ClassId) (HA pA pAd pAx pAy qA qAf qAs tA tAr gA rA IA KA : Nat) (pd : Nat → Int32) (px : Nat → Int32) (py : Nat → Int32) (pn : Int32) (qf : Nat → Int32) (qs : Nat → Int32) (tr : Nat → Int32) (ts : Int32) (v1 : Int32) (v2 : Int32) (K : Int32 → (Nat → Int32) → Int32 → Prop) (hw : wp_X5_point pd px py pn qf qs tr ts v1 v2 K) : Ci l D (tys4 cI cJ cZ cO) yX5_point wsX5_point { frames := 5, cells := 0, slots := 0, locals := 130 } [.ref HA, .int v1, .int v2] [(HA, .inr (4, [.ref pA, .ref qA, .ref tA, .ref gA, .ref rA, .ref IA, .ref KA])), (pA, .inr (2, [.ref pAd, .ref pAx, .ref pAy, .int pn])), (pAd, .inl (cI, 32, .inl pd)), (pAx, .inl (cI, 32, .inl px)), (pAy, .inl (cI, 32, .inl py)), (qA, .inr (1, [.ref qAf, .ref qAs])), (qAf, .inl (cI, 64, .inl qf)), (qAs, .inl (cI, 64, .inl qs)), (tA, .inr (0, [.ref tAr, .int ts])), (tAr, .inl (cI, 32, .inl tr))] (fun (r : Int32) (u : (Nat → Int32) × (Int32)) => K r u.1 u.2) (fun u => [(HA, .inr (4, [.ref pA, .ref qA, .ref tA, .ref gA, .ref rA, .ref IA, .ref KA])), (pA, .inr (2, [.ref pAd, .ref pAx, .ref pAy, .int pn])), (pAd, .inl (cI, 32, .inl pd)), (pAx, .inl (cI, 32, .inl px)), (pAy, .inl (cI, 32, .inl py)), (qA, .inr (1, [.ref qAf, .ref qAs])), (qAf, .inl (cI, 64, .inl qf)), (qAs, .inl (cI, 64, .inl qs)), (tA, .inr (0, [.ref tAr, .int u.2])), (tAr, .inl (cI, 32, .inl u.1))]) := by
  refine mt_i (cc := cX5_point) (maxL := 4) (rt := .int) (by decide) rfl (Nat.le_of_ble_eq_true rfl) ?_
  intro p e s m args below meth c Q A R ls hRf hRl hx hb hml hown hts hK hA hP hD hS hl ret
  have hown : s.vm.findClass RX5 = some m.cls := hown
  have hl : lv_has ls 4 [(0, .ref HA), (1, .int v1), (2, .int v2)] := hl
  unfold wp_X5_point at hw
  refine lv_aload_n hx hb dX5_point_0 rfl (lv_at hl 0 rfl) ?_
  refine va_get (D := D) (ci := 4) (v := .ref pA) (C := RX5) (T := TX5) (N := 7) hx hb hts in_X5_point_X5 hown hK hP 0 rfl rfl 0 (by decide) (hts (.fieldLink RX5 10 "LiveHull" "points" "LLiveHull$Points;") (List.mem_of_getElem? (i := 1) rfl)) (fun _ h9 => h9) rfl dX5_point_1 ?_
  refine lv_iload_n hx hb dX5_point_4 rfl (lv_at hl 1 rfl) ?_
  refine cl_Vi (As := [.int v1]) (rest := []) ⟨hx, hb, hml, hown, hts⟩ (c_X3_rankOf l D cI cJ cZ cO pA pAd pAx pAy pd px py pn v1 _ hw) (cwV 1 hts gX5_point_X3_rankOf rfl rfl rfl hd_X3_rankOf ⟨Nat.le_trans (Nat.le_of_ble_eq_true rfl) hRf, Nat.le_trans (Nat.le_of_ble_eq_true rfl) hRl⟩) hK hP hD hS hA [1, 2, 3, 4] [0, 5, 6, 7, 8, 9] rfl (by decide) rfl (by decide) (by decide) 1 2 rfl rfl rfl hl.1 rfl (Nat.le_of_ble_eq_true rfl) dX5_point_5 ⟨Nat.zero_le _, Nat.zero_le _⟩ (fun r5 _u H locs hw hP hD hS => ?_)
  try dsimp only at hw
  have hP : va_P D vwCl [(HA, .inr (4, [.ref pA, .ref qA, .ref tA, .ref gA, .ref rA, .ref IA, .ref KA])), (pA, .inr (2, [.ref pAd, .ref pAx, .ref pAy, .int pn])), (pAd, .inl (cI, 32, .inl pd)), (pAx, .inl (cI, 32, .inl px)), (pAy, .inl (cI, 32, .inl py)), (qA, .inr (1, [.ref qAf, .ref qAs])), (qAf, .inl (cI, 64, .inl qf)), (qAs, .inl (cI, 64, .inl qs)), (tA, .inr (0, [.ref tAr, .int ts])), (tAr, .inl (cI, 32, .inl tr))] H := hP.sub [0, 6, 7, 8, 9, 1, 2, 3, 4, 5] rfl
  have hD : va_D A [(HA, .inr (4, [.ref pA, .ref qA, .ref tA, .ref gA, .ref rA, .ref IA, .ref KA])), (pA, .inr (2, [.ref pAd, .ref pAx, .ref pAy, .int pn])), (pAd, .inl (cI, 32, .inl pd)), (pAx, .inl (cI, 32, .inl px)), (pAy, .inl (cI, 32, .inl py)), (qA, .inr (1, [.ref qAf, .ref qAs])), (qAf, .inl (cI, 64, .inl qf)), (qAs, .inl (cI, 64, .inl qs)), (tA, .inr (0, [.ref tAr, .int ts])), (tAr, .inl (cI, 32, .inl tr))] := hD.sub [0, 6, 7, 8, 9, 1, 2, 3, 4, 5] (by decide) rfl
  refine lv_istore_n (lv' := [(3, .int r5), (0, .ref HA), (1, .int v1), (2, .int v2)]) hx hb dX5_point_8 rfl hl (by decide) rfl (fun ls hl => ?_)
  refine lv_iload_n hx hb dX5_point_9 rfl (lv_at hl 0 rfl) ?_
  refine lv_bipush (v := (-6)) hx hb dX5_point_10 (by decide) ?_
  obtain ⟨hwA, hwB⟩ := hw
  refine lv_icmp_ne (tgt := 17) hx hb dX5_point_12 (by decide) (fun cb => ?_) (fun cb => ?_)
  · have hw := hwA cb
    refine lv_iload_n hx hb dX5_point_17 rfl (lv_at hl 3 rfl) ?_
    obtain ⟨hwA, hwB⟩ := hw
    by_cases c0 : v2 = 0
    · have hw := hwA c0
      refine lv_tableIn (tgt := 52) hx hb dX5_point_18 (by rw [c0]; decide) (by rw [c0]; decide) (by rw [c0]; rfl) (by decide) ?_
      refine lv_aload_n hx hb dX5_point_52 rfl (lv_at hl 1 rfl) ?_
      refine va_get (D := D) (ci := 4) (v := .ref pA) (C := RX5) (T := TX5) (N := 7) hx hb hts in_X5_point_X5 hown hK hP 0 rfl rfl 0 (by decide) (hts (.fieldLink RX5 10 "LiveHull" "points" "LLiveHull$Points;") (List.mem_of_getElem? (i := 1) rfl)) (fun _ h9 => h9) rfl dX5_point_53 ?_
      refine va_get (D := D) (ci := 2) (v := .ref pAx) (C := RX3) (T := TX3) (N := 4) hx hb hts in_X5_point_X3 hown hK hP 1 rfl rfl 1 (by decide) (hts (.fieldLink RX5 78 "LiveHull$Points" "xs" "[I") (List.mem_of_getElem? (i := 2) rfl)) (fun _ h9 => h9) rfl dX5_point_56 ?_
      refine lv_iload_n hx hb dX5_point_59 rfl (lv_at hl 0 rfl) ?_
      obtain ⟨hi, hw⟩ := hw
      refine va_iald hx hb hK hP 3 0 rfl rfl hi dX5_point_60 ?_
      exact ret _ _ _ _ (px r5.toNatClampNeg) (tr, ts) (vp_nar_int _) hw hP hD hS dX5_point_61
    · have hw := hwB c0
      obtain ⟨hwA, hwB⟩ := hw
      by_cases c1 : v2 = 1
      · have hw := hwA c1
        refine lv_tableIn (tgt := 62) hx hb dX5_point_18 (by rw [c1]; decide) (by rw [c1]; decide) (by rw [c1]; rfl) (by decide) ?_
        refine lv_aload_n hx hb dX5_point_62 rfl (lv_at hl 1 rfl) ?_
        refine va_get (D := D) (ci := 4) (v := .ref pA) (C := RX5) (T := TX5) (N := 7) hx hb hts in_X5_point_X5 hown hK hP 0 rfl rfl 0 (by decide) (hts (.fieldLink RX5 10 "LiveHull" "points" "LLiveHull$Points;") (List.mem_of_getElem? (i := 1) rfl)) (fun _ h9 => h9) rfl dX5_point_63 ?_
        refine va_get (D := D) (ci := 2) (v := .ref pAy) (C := RX3) (T := TX3) (N := 4) hx hb hts in_X5_point_X3 hown hK hP 1 rfl rfl 2 (by decide) (hts (.fieldLink RX5 82 "LiveHull$Points" "ys" "[I") (List.mem_of_getElem? (i := 3) rfl)) (fun _ h9 => h9) rfl dX5_point_66 ?_
        refine lv_iload_n hx hb dX5_point_69 rfl (lv_at hl 0 rfl) ?_
        obtain ⟨hi, hw⟩ := hw
        refine va_iald hx hb hK hP 4 0 rfl rfl hi dX5_point_70 ?_
        exact ret _ _ _ _ (py r5.toNatClampNeg) (tr, ts) (vp_nar_int _) hw hP hD hS dX5_point_71
      · have hw := hwB c1
        obtain ⟨hwA, hwB⟩ := hw
        by_cases c2 : v2 = 2
        · have hw := hwA c2
          refine lv_tableIn (tgt := 72) hx hb dX5_point_18 (by rw [c2]; decide) (by rw [c2]; decide) (by rw [c2]; rfl) (by decide) ?_
          refine lv_iload_n hx hb dX5_point_72 rfl (lv_at hl 0 rfl) ?_
          exact ret _ _ _ _ r5 (tr, ts) (vp_nar_int _) hw hP hD hS dX5_point_73
        · have hw := hwB c2
          obtain ⟨hwA, hwB⟩ := hw
          by_cases c3 : v2 = 3
          · have hw := hwA c3
            refine lv_tableIn (tgt := 74) hx hb dX5_point_18 (by rw [c3]; decide) (by rw [c3]; decide) (by rw [c3]; rfl) (by decide) ?_
            refine lv_aload_n hx hb dX5_point_74 rfl (lv_at hl 1 rfl) ?_
            refine lv_iload_n hx hb dX5_point_75 rfl (lv_at hl 0 rfl) ?_
            refine lv_iconst (v := 0) hx hb dX5_point_76 (by decide) ?_
            refine cl_Vi (As := [.int r5, .int 0]) (rest := []) ⟨hx, hb, hml, hown, hts⟩ (c_X5_topOf l D cI cJ cZ cO HA pA pAd pAx pAy qA qAf qAs tA tAr gA rA IA KA pd px py pn qf qs tr ts r5 0 _ hw) (cwV 2 hts gX5_point_X5_topOf rfl rfl rfl hd_X5_topOf ⟨Nat.le_trans (Nat.le_of_ble_eq_true rfl) hRf, Nat.le_trans (Nat.le_of_ble_eq_true rfl) hRl⟩) hK hP hD hS hA [0, 1, 2, 3, 4, 5, 6, 7, 8, 9] [] rfl (by decide) rfl (by decide) (by decide) 0 4 rfl rfl rfl hl.1 rfl (Nat.le_of_ble_eq_true rfl) dX5_point_77 ⟨Nat.zero_le _, Nat.zero_le _⟩ (fun r77 u H locs hw hP hD hS => ?_)
            obtain ⟨tr_77, ts_77⟩ := u
            try dsimp only at hw
            have hP : va_P D vwCl [(HA, .inr (4, [.ref pA, .ref qA, .ref tA, .ref gA, .ref rA, .ref IA, .ref KA])), (pA, .inr (2, [.ref pAd, .ref pAx, .ref pAy, .int pn])), (pAd, .inl (cI, 32, .inl pd)), (pAx, .inl (cI, 32, .inl px)), (pAy, .inl (cI, 32, .inl py)), (qA, .inr (1, [.ref qAf, .ref qAs])), (qAf, .inl (cI, 64, .inl qf)), (qAs, .inl (cI, 64, .inl qs)), (tA, .inr (0, [.ref tAr, .int ts_77])), (tAr, .inl (cI, 32, .inl tr_77))] H := hP.sub [0, 1, 2, 3, 4, 5, 6, 7, 8, 9] rfl
            have hD : va_D A [(HA, .inr (4, [.ref pA, .ref qA, .ref tA, .ref gA, .ref rA, .ref IA, .ref KA])), (pA, .inr (2, [.ref pAd, .ref pAx, .ref pAy, .int pn])), (pAd, .inl (cI, 32, .inl pd)), (pAx, .inl (cI, 32, .inl px)), (pAy, .inl (cI, 32, .inl py)), (qA, .inr (1, [.ref qAf, .ref qAs])), (qAf, .inl (cI, 64, .inl qf)), (qAs, .inl (cI, 64, .inl qs)), (tA, .inr (0, [.ref tAr, .int ts_77])), (tAr, .inl (cI, 32, .inl tr_77))] := hD.sub [0, 1, 2, 3, 4, 5, 6, 7, 8, 9] (by decide) rfl
            exact ret _ _ _ _ r77 (tr_77, ts_77) (vp_nar_int _) hw hP hD hS dX5_point_80
          · have hw := hwB c3
            obtain ⟨hwA, hwB⟩ := hw
            by_cases c4 : v2 = 4
            · have hw := hwA c4
              refine lv_tableIn (tgt := 81) hx hb dX5_point_18 (by rw [c4]; decide) (by rw [c4]; decide) (by rw [c4]; rfl) (by decide) ?_
              refine lv_aload_n hx hb dX5_point_81 rfl (lv_at hl 1 rfl) ?_
              refine lv_iload_n hx hb dX5_point_82 rfl (lv_at hl 0 rfl) ?_
              refine lv_iconst (v := 1) hx hb dX5_point_83 (by decide) ?_
              refine cl_Vi (As := [.int r5, .int 1]) (rest := []) ⟨hx, hb, hml, hown, hts⟩ (c_X5_topOf l D cI cJ cZ cO HA pA pAd pAx pAy qA qAf qAs tA tAr gA rA IA KA pd px py pn qf qs tr ts r5 1 _ hw) (cwV 2 hts gX5_point_X5_topOf rfl rfl rfl hd_X5_topOf ⟨Nat.le_trans (Nat.le_of_ble_eq_true rfl) hRf, Nat.le_trans (Nat.le_of_ble_eq_true rfl) hRl⟩) hK hP hD hS hA [0, 1, 2, 3, 4, 5, 6, 7, 8, 9] [] rfl (by decide) rfl (by decide) (by decide) 0 4 rfl rfl rfl hl.1 rfl (Nat.le_of_ble_eq_true rfl) dX5_point_84 ⟨Nat.zero_le _, Nat.zero_le _⟩ (fun r84 u H locs hw hP hD hS => ?_)
              obtain ⟨tr_84, ts_84⟩ := u
              try dsimp only at hw
              have hP : va_P D vwCl [(HA, .inr (4, [.ref pA, .ref qA, .ref tA, .ref gA, .ref rA, .ref IA, .ref KA])), (pA, .inr (2, [.ref pAd, .ref pAx, .ref pAy, .int pn])), (pAd, .inl (cI, 32, .inl pd)), (pAx, .inl (cI, 32, .inl px)), (pAy, .inl (cI, 32, .inl py)), (qA, .inr (1, [.ref qAf, .ref qAs])), (qAf, .inl (cI, 64, .inl qf)), (qAs, .inl (cI, 64, .inl qs)), (tA, .inr (0, [.ref tAr, .int ts_84])), (tAr, .inl (cI, 32, .inl tr_84))] H := hP.sub [0, 1, 2, 3, 4, 5, 6, 7, 8, 9] rfl
              have hD : va_D A [(HA, .inr (4, [.ref pA, .ref qA, .ref tA, .ref gA, .ref rA, .ref IA, .ref KA])), (pA, .inr (2, [.ref pAd, .ref pAx, .ref pAy, .int pn])), (pAd, .inl (cI, 32, .inl pd)), (pAx, .inl (cI, 32, .inl px)), (pAy, .inl (cI, 32, .inl py)), (qA, .inr (1, [.ref qAf, .ref qAs])), (qAf, .inl (cI, 64, .inl qf)), (qAs, .inl (cI, 64, .inl qs)), (tA, .inr (0, [.ref tAr, .int ts_84])), (tAr, .inl (cI, 32, .inl tr_84))] := hD.sub [0, 1, 2, 3, 4, 5, 6, 7, 8, 9] (by decide) rfl
              exact ret _ _ _ _ r84 (tr_84, ts_84) (vp_nar_int _) hw hP hD hS dX5_point_87
            · have hw := hwB c4
              refine lv_tableOut (tgt := 88) hx hb dX5_point_18 (by have z0 := lv_neT (a := 0) c0 (by decide); have z1 := lv_neT (a := 1) c1 (by decide); have z2 := lv_neT (a := 2) c2 (by decide); have z3 := lv_neT (a := 3) c3 (by decide); have z4 := lv_neT (a := 4) c4 (by decide); omega) (by decide) ?_
              refine lv_bipush (v := (-2)) hx hb dX5_point_88 (by decide) ?_
              exact ret _ _ _ _ (-2) (tr, ts) (vp_nar_int _) hw hP hD hS dX5_point_90
  · have hw := hwB cb
    refine lv_iconst (v := (-1)) hx hb dX5_point_15 (by decide) ?_
    exact ret _ _ _ _ (-1) (tr, ts) (vp_nar_int _) hw hP hD hS dX5_point_16
theorem in_X5_ranked_X5 : ∀ w ∈ wsX50, w ∈ wsX5_ranked := fun _ h => List.mem_cons_of_mem _ (List.mem_append_left _ (List.mem_append_right _ h))
theorem hd_X5_ranked : yX5_ranked.cls = RX5 ∧ yX5_ranked.cls ≠ "java/lang/invoke/MethodHandle" ∧ yX5_ranked.cls ≠ "java/lang/invoke/VarHandle" ∧ (parseMethodDescriptor yX5_ranked.desc).map (fun d => d.parameters.length) = some 1 := by decide +kernel
set_option maxHeartbeats 8000000 in
set_option maxRecDepth 100000 in
theorem c_X5_ranked (l : Launch) (D : va_G) (cI cJ cZ cO : ClassId) (HA pA pAd pAx pAy qA tA gA rA IA KA : Nat) (pd : Nat → Int32) (px : Nat → Int32) (py : Nat → Int32) (pn : Int32) (v1 : Int32) (K : Int32 → Prop) (hw : wp_X5_ranked pd pn v1 K) : Ci l D (tys4 cI cJ cZ cO) yX5_ranked wsX5_ranked { frames := 1, cells := 0, slots := 0, locals := 21 } [.ref HA, .int v1] [(HA, .inr (4, [.ref pA, .ref qA, .ref tA, .ref gA, .ref rA, .ref IA, .ref KA])), (pA, .inr (2, [.ref pAd, .ref pAx, .ref pAy, .int pn])), (pAd, .inl (cI, 32, .inl pd)), (pAx, .inl (cI, 32, .inl px)), (pAy, .inl (cI, 32, .inl py))] (fun (r : Int32) (_ : Unit) => K r) (fun _ => [(HA, .inr (4, [.ref pA, .ref qA, .ref tA, .ref gA, .ref rA, .ref IA, .ref KA])), (pA, .inr (2, [.ref pAd, .ref pAx, .ref pAy, .int pn])), (pAd, .inl (cI, 32, .inl pd)), (pAx, .inl (cI, 32, .inl px)), (pAy, .inl (cI, 32, .inl py))]) := by
  refine mt_i (cc := cX5_ranked) (maxL := 2) (rt := .int) (by decide) rfl (Nat.le_of_ble_eq_true rfl) ?_
  intro p e s m args below meth c Q A R ls hRf hRl hx hb hml hown hts hK hA hP hD hS hl ret
  have hown : s.vm.findClass RX5 = some m.cls := hown
  have hl : lv_has ls 2 [(0, .ref HA), (1, .int v1)] := hl
  unfold wp_X5_ranked at hw
  refine lv_aload_n hx hb dX5_ranked_0 rfl (lv_at hl 0 rfl) ?_
  refine va_get (D := D) (ci := 4) (v := .ref pA) (C := RX5) (T := TX5) (N := 7) hx hb hts in_X5_ranked_X5 hown hK hP 0 rfl rfl 0 (by decide) (hts (.fieldLink RX5 10 "LiveHull" "points" "LLiveHull$Points;") (List.mem_of_getElem? (i := 1) rfl)) (fun _ h9 => h9) rfl dX5_ranked_1 ?_
  refine lv_iload_n hx hb dX5_ranked_4 rfl (lv_at hl 1 rfl) ?_
  refine cl_Vi (As := [.int v1]) (rest := []) ⟨hx, hb, hml, hown, hts⟩ (c_X3_idAt l D cI cJ cZ cO pA pAd pAx pAy pd px py pn v1 _ hw) (cwV 1 hts gX5_ranked_X3_idAt rfl rfl rfl hd_X3_idAt ⟨Nat.le_trans (Nat.le_of_ble_eq_true rfl) hRf, Nat.le_trans (Nat.le_of_ble_eq_true rfl) hRl⟩) hK hP hD hS hA [1, 2, 3, 4] [0] rfl (by decide) rfl (by decide) (by decide) 1 2 rfl rfl rfl hl.1 rfl (Nat.le_of_ble_eq_true rfl) dX5_ranked_5 ⟨Nat.zero_le _, Nat.zero_le _⟩ (fun r5 _u H locs hw hP hD hS => ?_)
  try dsimp only at hw
  have hP : va_P D vwCl [(HA, .inr (4, [.ref pA, .ref qA, .ref tA, .ref gA, .ref rA, .ref IA, .ref KA])), (pA, .inr (2, [.ref pAd, .ref pAx, .ref pAy, .int pn])), (pAd, .inl (cI, 32, .inl pd)), (pAx, .inl (cI, 32, .inl px)), (pAy, .inl (cI, 32, .inl py))] H := hP.sub [0, 1, 2, 3, 4] rfl
  have hD : va_D A [(HA, .inr (4, [.ref pA, .ref qA, .ref tA, .ref gA, .ref rA, .ref IA, .ref KA])), (pA, .inr (2, [.ref pAd, .ref pAx, .ref pAy, .int pn])), (pAd, .inl (cI, 32, .inl pd)), (pAx, .inl (cI, 32, .inl px)), (pAy, .inl (cI, 32, .inl py))] := hD.sub [0, 1, 2, 3, 4] (by decide) rfl
  exact ret _ _ _ _ r5 () (vp_nar_int _) hw hP hD hS dX5_ranked_8
theorem in_X5_part_X2 : ∀ w ∈ wsX20, w ∈ wsX5_part := fun _ h => List.mem_cons_of_mem _ (List.mem_append_left _ (List.mem_append_left _ (List.mem_append_left _ (List.mem_append_right _ h))))
theorem in_X5_part_X5 : ∀ w ∈ wsX50, w ∈ wsX5_part := fun _ h => List.mem_cons_of_mem _ (List.mem_append_left _ (List.mem_append_left _ (List.mem_append_left _ (List.mem_append_left _ (List.mem_append_right _ h)))))
theorem hd_X5_part : yX5_part.cls = RX5 ∧ yX5_part.cls ≠ "java/lang/invoke/MethodHandle" ∧ yX5_part.cls ≠ "java/lang/invoke/VarHandle" ∧ (parseMethodDescriptor yX5_part.desc).map (fun d => d.parameters.length) = some 2 := by decide +kernel
set_option maxHeartbeats 8000000 in
set_option maxRecDepth 100000 in
theorem c_X5_part (l : Launch) (D : va_G) (cI cJ cZ cO : ClassId) (HA pA pAd pAx pAy qA qAf qAs tA tAr gA gAr rA IA KA : Nat) (pd : Nat → Int32) (px : Nat → Int32) (py : Nat → Int32) (pn : Int32) (qf : Nat → Int32) (qs : Nat → Int32) (tr : Nat → Int32) (ts : Int32) (gr : Nat → Int32) (gs : Int32) (v1 : Int32) (v2 : Int32) (K : Int32 → (Nat → Int32) → Int32 → (Nat → Int32) → Int32 → Prop) (hw : wp_X5_part px py qf qs tr ts gr gs v1 v2 K) : Ci l D (tys4 cI cJ cZ cO) yX5_part wsX5_part { frames := 5, cells := 0, slots := 0, locals := 131 } [.ref HA, .int v1, .int v2] [(HA, .inr (4, [.ref pA, .ref qA, .ref tA, .ref gA, .ref rA, .ref IA, .ref KA])), (pA, .inr (2, [.ref pAd, .ref pAx, .ref pAy, .int pn])), (pAd, .inl (cI, 32, .inl pd)), (pAx, .inl (cI, 32, .inl px)), (pAy, .inl (cI, 32, .inl py)), (qA, .inr (1, [.ref qAf, .ref qAs])), (qAf, .inl (cI, 64, .inl qf)), (qAs, .inl (cI, 64, .inl qs)), (tA, .inr (0, [.ref tAr, .int ts])), (tAr, .inl (cI, 32, .inl tr)), (gA, .inr (0, [.ref gAr, .int gs])), (gAr, .inl (cI, 32, .inl gr))] (fun (r : Int32) (u : (Nat → Int32) × (Int32) × (Nat → Int32) × (Int32)) => K r u.1 u.2.1 u.2.2.1 u.2.2.2) (fun u => [(HA, .inr (4, [.ref pA, .ref qA, .ref tA, .ref gA, .ref rA, .ref IA, .ref KA])), (pA, .inr (2, [.ref pAd, .ref pAx, .ref pAy, .int pn])), (pAd, .inl (cI, 32, .inl pd)), (pAx, .inl (cI, 32, .inl px)), (pAy, .inl (cI, 32, .inl py)), (qA, .inr (1, [.ref qAf, .ref qAs])), (qAf, .inl (cI, 64, .inl qf)), (qAs, .inl (cI, 64, .inl qs)), (tA, .inr (0, [.ref tAr, .int u.2.1])), (tAr, .inl (cI, 32, .inl u.1)), (gA, .inr (0, [.ref gAr, .int u.2.2.2])), (gAr, .inl (cI, 32, .inl u.2.2.1))]) := by
  refine mt_i (cc := cX5_part) (maxL := 3) (rt := .int) (by decide) rfl (Nat.le_of_ble_eq_true rfl) ?_
  intro p e s m args below meth c Q A R ls hRf hRl hx hb hml hown hts hK hA hP hD hS hl ret
  have hown : s.vm.findClass RX5 = some m.cls := hown
  have hl : lv_has ls 3 [(0, .ref HA), (1, .int v1), (2, .int v2)] := hl
  unfold wp_X5_part at hw
  refine lv_aload_n hx hb dX5_part_0 rfl (lv_at hl 0 rfl) ?_
  refine va_get (D := D) (ci := 4) (v := .ref qA) (C := RX5) (T := TX5) (N := 7) hx hb hts in_X5_part_X5 hown hK hP 0 rfl rfl 1 (by decide) (hts (.fieldLink RX5 19 "LiveHull" "parts" "LLiveHull$Parts;") (List.mem_of_getElem? (i := 1) rfl)) (fun _ h9 => h9) rfl dX5_part_1 ?_
  refine lv_iload_n hx hb dX5_part_4 rfl (lv_at hl 1 rfl) ?_
  refine cl_Vi (As := [.int v1]) (rest := []) ⟨hx, hb, hml, hown, hts⟩ (c_X2_has l D cI cJ cZ cO qA qAf qAs qf qs v1 _ hw) (cwV 1 hts gX5_part_X2_has rfl rfl rfl hd_X2_has ⟨Nat.le_trans (Nat.le_of_ble_eq_true rfl) hRf, Nat.le_trans (Nat.le_of_ble_eq_true rfl) hRl⟩) hK hP hD hS hA [5, 6, 7] [0, 1, 2, 3, 4, 8, 9, 10, 11] rfl (by decide) rfl (by decide) (by decide) 5 1 rfl rfl rfl hl.1 rfl (Nat.le_of_ble_eq_true rfl) dX5_part_5 ⟨Nat.zero_le _, Nat.zero_le _⟩ (fun r5 _u H locs hw hP hD hS => ?_)
  try dsimp only at hw
  have hP : va_P D vwCl [(HA, .inr (4, [.ref pA, .ref qA, .ref tA, .ref gA, .ref rA, .ref IA, .ref KA])), (pA, .inr (2, [.ref pAd, .ref pAx, .ref pAy, .int pn])), (pAd, .inl (cI, 32, .inl pd)), (pAx, .inl (cI, 32, .inl px)), (pAy, .inl (cI, 32, .inl py)), (qA, .inr (1, [.ref qAf, .ref qAs])), (qAf, .inl (cI, 64, .inl qf)), (qAs, .inl (cI, 64, .inl qs)), (tA, .inr (0, [.ref tAr, .int ts])), (tAr, .inl (cI, 32, .inl tr)), (gA, .inr (0, [.ref gAr, .int gs])), (gAr, .inl (cI, 32, .inl gr))] H := hP.sub [0, 1, 2, 3, 4, 9, 10, 11, 5, 6, 7, 8] rfl
  have hD : va_D A [(HA, .inr (4, [.ref pA, .ref qA, .ref tA, .ref gA, .ref rA, .ref IA, .ref KA])), (pA, .inr (2, [.ref pAd, .ref pAx, .ref pAy, .int pn])), (pAd, .inl (cI, 32, .inl pd)), (pAx, .inl (cI, 32, .inl px)), (pAy, .inl (cI, 32, .inl py)), (qA, .inr (1, [.ref qAf, .ref qAs])), (qAf, .inl (cI, 64, .inl qf)), (qAs, .inl (cI, 64, .inl qs)), (tA, .inr (0, [.ref tAr, .int ts])), (tAr, .inl (cI, 32, .inl tr)), (gA, .inr (0, [.ref gAr, .int gs])), (gAr, .inl (cI, 32, .inl gr))] := hD.sub [0, 1, 2, 3, 4, 9, 10, 11, 5, 6, 7, 8] (by decide) rfl
  obtain ⟨hwA, hwB⟩ := hw
  refine lv_if_ne (tgt := 13) hx hb dX5_part_8 (by decide) (fun cb => ?_) (fun cb => ?_)
  · have hw := hwA cb
    refine lv_iload_n hx hb dX5_part_13 rfl (lv_at hl 2 rfl) ?_
    obtain ⟨hwA, hwB⟩ := hw
    by_cases c0 : v2 = 0
    · have hw := hwA c0
      refine lv_tableIn (tgt := 52) hx hb dX5_part_14 (by rw [c0]; decide) (by rw [c0]; decide) (by rw [c0]; rfl) (by decide) ?_
      refine lv_aload_n hx hb dX5_part_52 rfl (lv_at hl 0 rfl) ?_
      refine va_get (D := D) (ci := 4) (v := .ref qA) (C := RX5) (T := TX5) (N := 7) hx hb hts in_X5_part_X5 hown hK hP 0 rfl rfl 1 (by decide) (hts (.fieldLink RX5 19 "LiveHull" "parts" "LLiveHull$Parts;") (List.mem_of_getElem? (i := 1) rfl)) (fun _ h9 => h9) rfl dX5_part_53 ?_
      refine va_get (D := D) (ci := 1) (v := .ref qAs) (C := RX2) (T := TX2) (N := 2) hx hb hts in_X5_part_X2 hown hK hP 5 rfl rfl 1 (by decide) (hts (.fieldLink RX5 96 "LiveHull$Parts" "sizes" "[I") (List.mem_of_getElem? (i := 2) rfl)) (fun _ h9 => h9) rfl dX5_part_56 ?_
      refine lv_iload_n hx hb dX5_part_59 rfl (lv_at hl 1 rfl) ?_
      obtain ⟨hi, hw⟩ := hw
      refine va_iald hx hb hK hP 7 0 rfl rfl hi dX5_part_60 ?_
      exact ret _ _ _ _ (qs v1.toNatClampNeg) (tr, ts, gr, gs) (vp_nar_int _) hw hP hD hS dX5_part_61
    · have hw := hwB c0
      obtain ⟨hwA, hwB⟩ := hw
      by_cases c1 : v2 = 1
      · have hw := hwA c1
        refine lv_tableIn (tgt := 62) hx hb dX5_part_14 (by rw [c1]; decide) (by rw [c1]; decide) (by rw [c1]; rfl) (by decide) ?_
        refine lv_aload_n hx hb dX5_part_62 rfl (lv_at hl 0 rfl) ?_
        refine va_get (D := D) (ci := 4) (v := .ref qA) (C := RX5) (T := TX5) (N := 7) hx hb hts in_X5_part_X5 hown hK hP 0 rfl rfl 1 (by decide) (hts (.fieldLink RX5 19 "LiveHull" "parts" "LLiveHull$Parts;") (List.mem_of_getElem? (i := 1) rfl)) (fun _ h9 => h9) rfl dX5_part_63 ?_
        refine va_get (D := D) (ci := 1) (v := .ref qAf) (C := RX2) (T := TX2) (N := 2) hx hb hts in_X5_part_X2 hown hK hP 5 rfl rfl 0 (by decide) (hts (.fieldLink RX5 99 "LiveHull$Parts" "firsts" "[I") (List.mem_of_getElem? (i := 3) rfl)) (fun _ h9 => h9) rfl dX5_part_66 ?_
        refine lv_iload_n hx hb dX5_part_69 rfl (lv_at hl 1 rfl) ?_
        obtain ⟨hi, hw⟩ := hw
        refine va_iald hx hb hK hP 6 0 rfl rfl hi dX5_part_70 ?_
        exact ret _ _ _ _ (qf v1.toNatClampNeg) (tr, ts, gr, gs) (vp_nar_int _) hw hP hD hS dX5_part_71
      · have hw := hwB c1
        obtain ⟨hwA, hwB⟩ := hw
        by_cases c2 : v2 = 2
        · have hw := hwA c2
          refine lv_tableIn (tgt := 72) hx hb dX5_part_14 (by rw [c2]; decide) (by rw [c2]; decide) (by rw [c2]; rfl) (by decide) ?_
          refine lv_aload_n hx hb dX5_part_72 rfl (lv_at hl 0 rfl) ?_
          refine lv_iload_n hx hb dX5_part_73 rfl (lv_at hl 1 rfl) ?_
          refine lv_iconst (v := 0) hx hb dX5_part_74 (by decide) ?_
          refine cl_Vi (As := [.int v1, .int 0]) (rest := []) ⟨hx, hb, hml, hown, hts⟩ (c_X5_cornersOf l D cI cJ cZ cO HA pA pAd pAx pAy qA qAf qAs tA tAr gA rA IA KA pd px py pn qf qs tr ts v1 0 _ hw) (cwV 2 hts gX5_part_X5_cornersOf rfl rfl rfl hd_X5_cornersOf ⟨Nat.le_trans (Nat.le_of_ble_eq_true rfl) hRf, Nat.le_trans (Nat.le_of_ble_eq_true rfl) hRl⟩) hK hP hD hS hA [0, 1, 2, 3, 4, 5, 6, 7, 8, 9] [10, 11] rfl (by decide) rfl (by decide) (by decide) 0 4 rfl rfl rfl hl.1 rfl (Nat.le_of_ble_eq_true rfl) dX5_part_75 ⟨Nat.zero_le _, Nat.zero_le _⟩ (fun r75 u H locs hw hP hD hS => ?_)
          obtain ⟨tr_75, ts_75⟩ := u
          try dsimp only at hw
          have hP : va_P D vwCl [(HA, .inr (4, [.ref pA, .ref qA, .ref tA, .ref gA, .ref rA, .ref IA, .ref KA])), (pA, .inr (2, [.ref pAd, .ref pAx, .ref pAy, .int pn])), (pAd, .inl (cI, 32, .inl pd)), (pAx, .inl (cI, 32, .inl px)), (pAy, .inl (cI, 32, .inl py)), (qA, .inr (1, [.ref qAf, .ref qAs])), (qAf, .inl (cI, 64, .inl qf)), (qAs, .inl (cI, 64, .inl qs)), (tA, .inr (0, [.ref tAr, .int ts_75])), (tAr, .inl (cI, 32, .inl tr_75)), (gA, .inr (0, [.ref gAr, .int gs])), (gAr, .inl (cI, 32, .inl gr))] H := hP.sub [2, 3, 4, 5, 6, 7, 8, 9, 10, 11, 0, 1] rfl
          have hD : va_D A [(HA, .inr (4, [.ref pA, .ref qA, .ref tA, .ref gA, .ref rA, .ref IA, .ref KA])), (pA, .inr (2, [.ref pAd, .ref pAx, .ref pAy, .int pn])), (pAd, .inl (cI, 32, .inl pd)), (pAx, .inl (cI, 32, .inl px)), (pAy, .inl (cI, 32, .inl py)), (qA, .inr (1, [.ref qAf, .ref qAs])), (qAf, .inl (cI, 64, .inl qf)), (qAs, .inl (cI, 64, .inl qs)), (tA, .inr (0, [.ref tAr, .int ts_75])), (tAr, .inl (cI, 32, .inl tr_75)), (gA, .inr (0, [.ref gAr, .int gs])), (gAr, .inl (cI, 32, .inl gr))] := hD.sub [2, 3, 4, 5, 6, 7, 8, 9, 10, 11, 0, 1] (by decide) rfl
          exact ret _ _ _ _ r75 (tr_75, ts_75, gr, gs) (vp_nar_int _) hw hP hD hS dX5_part_78
        · have hw := hwB c2
          obtain ⟨hwA, hwB⟩ := hw
          by_cases c3 : v2 = 3
          · have hw := hwA c3
            refine lv_tableIn (tgt := 79) hx hb dX5_part_14 (by rw [c3]; decide) (by rw [c3]; decide) (by rw [c3]; rfl) (by decide) ?_
            refine lv_aload_n hx hb dX5_part_79 rfl (lv_at hl 0 rfl) ?_
            refine lv_iload_n hx hb dX5_part_80 rfl (lv_at hl 1 rfl) ?_
            refine lv_iconst (v := 1) hx hb dX5_part_81 (by decide) ?_
            refine cl_Vi (As := [.int v1, .int 1]) (rest := []) ⟨hx, hb, hml, hown, hts⟩ (c_X5_cornersOf l D cI cJ cZ cO HA pA pAd pAx pAy qA qAf qAs tA tAr gA rA IA KA pd px py pn qf qs tr ts v1 1 _ hw) (cwV 2 hts gX5_part_X5_cornersOf rfl rfl rfl hd_X5_cornersOf ⟨Nat.le_trans (Nat.le_of_ble_eq_true rfl) hRf, Nat.le_trans (Nat.le_of_ble_eq_true rfl) hRl⟩) hK hP hD hS hA [0, 1, 2, 3, 4, 5, 6, 7, 8, 9] [10, 11] rfl (by decide) rfl (by decide) (by decide) 0 4 rfl rfl rfl hl.1 rfl (Nat.le_of_ble_eq_true rfl) dX5_part_82 ⟨Nat.zero_le _, Nat.zero_le _⟩ (fun r82 u H locs hw hP hD hS => ?_)
            obtain ⟨tr_82, ts_82⟩ := u
            try dsimp only at hw
            have hP : va_P D vwCl [(HA, .inr (4, [.ref pA, .ref qA, .ref tA, .ref gA, .ref rA, .ref IA, .ref KA])), (pA, .inr (2, [.ref pAd, .ref pAx, .ref pAy, .int pn])), (pAd, .inl (cI, 32, .inl pd)), (pAx, .inl (cI, 32, .inl px)), (pAy, .inl (cI, 32, .inl py)), (qA, .inr (1, [.ref qAf, .ref qAs])), (qAf, .inl (cI, 64, .inl qf)), (qAs, .inl (cI, 64, .inl qs)), (tA, .inr (0, [.ref tAr, .int ts_82])), (tAr, .inl (cI, 32, .inl tr_82)), (gA, .inr (0, [.ref gAr, .int gs])), (gAr, .inl (cI, 32, .inl gr))] H := hP.sub [2, 3, 4, 5, 6, 7, 8, 9, 10, 11, 0, 1] rfl
            have hD : va_D A [(HA, .inr (4, [.ref pA, .ref qA, .ref tA, .ref gA, .ref rA, .ref IA, .ref KA])), (pA, .inr (2, [.ref pAd, .ref pAx, .ref pAy, .int pn])), (pAd, .inl (cI, 32, .inl pd)), (pAx, .inl (cI, 32, .inl px)), (pAy, .inl (cI, 32, .inl py)), (qA, .inr (1, [.ref qAf, .ref qAs])), (qAf, .inl (cI, 64, .inl qf)), (qAs, .inl (cI, 64, .inl qs)), (tA, .inr (0, [.ref tAr, .int ts_82])), (tAr, .inl (cI, 32, .inl tr_82)), (gA, .inr (0, [.ref gAr, .int gs])), (gAr, .inl (cI, 32, .inl gr))] := hD.sub [2, 3, 4, 5, 6, 7, 8, 9, 10, 11, 0, 1] (by decide) rfl
            exact ret _ _ _ _ r82 (tr_82, ts_82, gr, gs) (vp_nar_int _) hw hP hD hS dX5_part_85
          · have hw := hwB c3
            obtain ⟨hwA, hwB⟩ := hw
            by_cases c4 : v2 = 4
            · have hw := hwA c4
              refine lv_tableIn (tgt := 86) hx hb dX5_part_14 (by rw [c4]; decide) (by rw [c4]; decide) (by rw [c4]; rfl) (by decide) ?_
              refine lv_iload_n hx hb dX5_part_86 rfl (lv_at hl 1 rfl) ?_
              refine lv_iconst (v := 1) hx hb dX5_part_87 (by decide) ?_
              obtain ⟨hwA, hwB⟩ := hw
              refine lv_icmp_ne (tgt := 96) hx hb dX5_part_88 (by decide) (fun cb => ?_) (fun cb => ?_)
              · have hw := hwA cb
                refine lv_aload_n hx hb dX5_part_96 rfl (lv_at hl 0 rfl) ?_
                refine lv_iload_n hx hb dX5_part_97 rfl (lv_at hl 1 rfl) ?_
                refine lv_iconst (v := 0) hx hb dX5_part_98 (by decide) ?_
                refine cl_Vi (As := [.int v1, .int 0]) (rest := []) ⟨hx, hb, hml, hown, hts⟩ (c_X5_restOf l D cI cJ cZ cO HA pA pAd pAx pAy qA qAf qAs tA tAr gA gAr rA IA KA pd px py pn qf qs tr ts gr gs v1 0 _ hw) (cwV 2 hts gX5_part_X5_restOf rfl rfl rfl hd_X5_restOf ⟨Nat.le_trans (Nat.le_of_ble_eq_true rfl) hRf, Nat.le_trans (Nat.le_of_ble_eq_true rfl) hRl⟩) hK hP hD hS hA [0, 1, 2, 3, 4, 5, 6, 7, 8, 9, 10, 11] [] rfl (by decide) rfl (by decide) (by decide) 0 4 rfl rfl rfl hl.1 rfl (Nat.le_of_ble_eq_true rfl) dX5_part_99 ⟨Nat.zero_le _, Nat.zero_le _⟩ (fun r99 u H locs hw hP hD hS => ?_)
                obtain ⟨tr_99, ts_99, gr_99, gs_99⟩ := u
                try dsimp only at hw
                have hP : va_P D vwCl [(HA, .inr (4, [.ref pA, .ref qA, .ref tA, .ref gA, .ref rA, .ref IA, .ref KA])), (pA, .inr (2, [.ref pAd, .ref pAx, .ref pAy, .int pn])), (pAd, .inl (cI, 32, .inl pd)), (pAx, .inl (cI, 32, .inl px)), (pAy, .inl (cI, 32, .inl py)), (qA, .inr (1, [.ref qAf, .ref qAs])), (qAf, .inl (cI, 64, .inl qf)), (qAs, .inl (cI, 64, .inl qs)), (tA, .inr (0, [.ref tAr, .int ts_99])), (tAr, .inl (cI, 32, .inl tr_99)), (gA, .inr (0, [.ref gAr, .int gs_99])), (gAr, .inl (cI, 32, .inl gr_99))] H := hP.sub [0, 1, 2, 3, 4, 5, 6, 7, 8, 9, 10, 11] rfl
                have hD : va_D A [(HA, .inr (4, [.ref pA, .ref qA, .ref tA, .ref gA, .ref rA, .ref IA, .ref KA])), (pA, .inr (2, [.ref pAd, .ref pAx, .ref pAy, .int pn])), (pAd, .inl (cI, 32, .inl pd)), (pAx, .inl (cI, 32, .inl px)), (pAy, .inl (cI, 32, .inl py)), (qA, .inr (1, [.ref qAf, .ref qAs])), (qAf, .inl (cI, 64, .inl qf)), (qAs, .inl (cI, 64, .inl qs)), (tA, .inr (0, [.ref tAr, .int ts_99])), (tAr, .inl (cI, 32, .inl tr_99)), (gA, .inr (0, [.ref gAr, .int gs_99])), (gAr, .inl (cI, 32, .inl gr_99))] := hD.sub [0, 1, 2, 3, 4, 5, 6, 7, 8, 9, 10, 11] (by decide) rfl
                exact ret _ _ _ _ r99 (tr_99, ts_99, gr_99, gs_99) (vp_nar_int _) hw hP hD hS dX5_part_102
              · have hw := hwB cb
                refine lv_bipush (v := (-6)) hx hb dX5_part_91 (by decide) ?_
                refine lv_goto (tgt := 102) hx hb dX5_part_93 (by decide) ?_
                exact ret _ _ _ _ (-6) (tr, ts, gr, gs) (vp_nar_int _) hw hP hD hS dX5_part_102
            · have hw := hwB c4
              obtain ⟨hwA, hwB⟩ := hw
              by_cases c5 : v2 = 5
              · have hw := hwA c5
                refine lv_tableIn (tgt := 103) hx hb dX5_part_14 (by rw [c5]; decide) (by rw [c5]; decide) (by rw [c5]; rfl) (by decide) ?_
                refine lv_iload_n hx hb dX5_part_103 rfl (lv_at hl 1 rfl) ?_
                refine lv_iconst (v := 1) hx hb dX5_part_104 (by decide) ?_
                obtain ⟨hwA, hwB⟩ := hw
                refine lv_icmp_ne (tgt := 113) hx hb dX5_part_105 (by decide) (fun cb => ?_) (fun cb => ?_)
                · have hw := hwA cb
                  refine lv_aload_n hx hb dX5_part_113 rfl (lv_at hl 0 rfl) ?_
                  refine lv_iload_n hx hb dX5_part_114 rfl (lv_at hl 1 rfl) ?_
                  refine lv_iconst (v := 1) hx hb dX5_part_115 (by decide) ?_
                  refine cl_Vi (As := [.int v1, .int 1]) (rest := []) ⟨hx, hb, hml, hown, hts⟩ (c_X5_restOf l D cI cJ cZ cO HA pA pAd pAx pAy qA qAf qAs tA tAr gA gAr rA IA KA pd px py pn qf qs tr ts gr gs v1 1 _ hw) (cwV 2 hts gX5_part_X5_restOf rfl rfl rfl hd_X5_restOf ⟨Nat.le_trans (Nat.le_of_ble_eq_true rfl) hRf, Nat.le_trans (Nat.le_of_ble_eq_true rfl) hRl⟩) hK hP hD hS hA [0, 1, 2, 3, 4, 5, 6, 7, 8, 9, 10, 11] [] rfl (by decide) rfl (by decide) (by decide) 0 4 rfl rfl rfl hl.1 rfl (Nat.le_of_ble_eq_true rfl) dX5_part_116 ⟨Nat.zero_le _, Nat.zero_le _⟩ (fun r116 u H locs hw hP hD hS => ?_)
                  obtain ⟨tr_116, ts_116, gr_116, gs_116⟩ := u
                  try dsimp only at hw
                  have hP : va_P D vwCl [(HA, .inr (4, [.ref pA, .ref qA, .ref tA, .ref gA, .ref rA, .ref IA, .ref KA])), (pA, .inr (2, [.ref pAd, .ref pAx, .ref pAy, .int pn])), (pAd, .inl (cI, 32, .inl pd)), (pAx, .inl (cI, 32, .inl px)), (pAy, .inl (cI, 32, .inl py)), (qA, .inr (1, [.ref qAf, .ref qAs])), (qAf, .inl (cI, 64, .inl qf)), (qAs, .inl (cI, 64, .inl qs)), (tA, .inr (0, [.ref tAr, .int ts_116])), (tAr, .inl (cI, 32, .inl tr_116)), (gA, .inr (0, [.ref gAr, .int gs_116])), (gAr, .inl (cI, 32, .inl gr_116))] H := hP.sub [0, 1, 2, 3, 4, 5, 6, 7, 8, 9, 10, 11] rfl
                  have hD : va_D A [(HA, .inr (4, [.ref pA, .ref qA, .ref tA, .ref gA, .ref rA, .ref IA, .ref KA])), (pA, .inr (2, [.ref pAd, .ref pAx, .ref pAy, .int pn])), (pAd, .inl (cI, 32, .inl pd)), (pAx, .inl (cI, 32, .inl px)), (pAy, .inl (cI, 32, .inl py)), (qA, .inr (1, [.ref qAf, .ref qAs])), (qAf, .inl (cI, 64, .inl qf)), (qAs, .inl (cI, 64, .inl qs)), (tA, .inr (0, [.ref tAr, .int ts_116])), (tAr, .inl (cI, 32, .inl tr_116)), (gA, .inr (0, [.ref gAr, .int gs_116])), (gAr, .inl (cI, 32, .inl gr_116))] := hD.sub [0, 1, 2, 3, 4, 5, 6, 7, 8, 9, 10, 11] (by decide) rfl
                  exact ret _ _ _ _ r116 (tr_116, ts_116, gr_116, gs_116) (vp_nar_int _) hw hP hD hS dX5_part_119
                · have hw := hwB cb
                  refine lv_bipush (v := (-6)) hx hb dX5_part_108 (by decide) ?_
                  refine lv_goto (tgt := 119) hx hb dX5_part_110 (by decide) ?_
                  exact ret _ _ _ _ (-6) (tr, ts, gr, gs) (vp_nar_int _) hw hP hD hS dX5_part_119
              · have hw := hwB c5
                refine lv_tableOut (tgt := 120) hx hb dX5_part_14 (by have z0 := lv_neT (a := 0) c0 (by decide); have z1 := lv_neT (a := 1) c1 (by decide); have z2 := lv_neT (a := 2) c2 (by decide); have z3 := lv_neT (a := 3) c3 (by decide); have z4 := lv_neT (a := 4) c4 (by decide); have z5 := lv_neT (a := 5) c5 (by decide); omega) (by decide) ?_
                refine lv_bipush (v := (-2)) hx hb dX5_part_120 (by decide) ?_
                exact ret _ _ _ _ (-2) (tr, ts, gr, gs) (vp_nar_int _) hw hP hD hS dX5_part_122
  · have hw := hwB cb
    refine lv_iconst (v := (-1)) hx hb dX5_part_11 (by decide) ?_
    exact ret _ _ _ _ (-1) (tr, ts, gr, gs) (vp_nar_int _) hw hP hD hS dX5_part_12
theorem in_X5_chain_X5 : ∀ w ∈ wsX50, w ∈ wsX5_chain := fun _ h => List.mem_cons_of_mem _ (List.mem_append_left _ (List.mem_append_left _ (List.mem_append_left _ (List.mem_append_left _ (List.mem_append_right _ h)))))
theorem hd_X5_chain : yX5_chain.cls = RX5 ∧ yX5_chain.cls ≠ "java/lang/invoke/MethodHandle" ∧ yX5_chain.cls ≠ "java/lang/invoke/VarHandle" ∧ (parseMethodDescriptor yX5_chain.desc).map (fun d => d.parameters.length) = some 3 := by decide +kernel
set_option maxHeartbeats 8000000 in
set_option maxRecDepth 100000 in
theorem c_X5_chain (l : Launch) (D : va_G) (cI cJ cZ cO : ClassId) (HA pA pAd pAx pAy qA qAf qAs tA tAr gA rA IA KA : Nat) (pd : Nat → Int32) (px : Nat → Int32) (py : Nat → Int32) (pn : Int32) (qf : Nat → Int32) (qs : Nat → Int32) (tr : Nat → Int32) (ts : Int32) (v1 : Int32) (v2 : Int32) (v3 : Int32) (K : Int32 → (Nat → Int32) → Int32 → Prop) (hw : wp_X5_chain pd px py pn qf qs tr ts v1 v2 v3 K) : Ci l D (tys4 cI cJ cZ cO) yX5_chain wsX5_chain { frames := 4, cells := 0, slots := 0, locals := 107 } [.ref HA, .int v1, .int v2, .int v3] [(HA, .inr (4, [.ref pA, .ref qA, .ref tA, .ref gA, .ref rA, .ref IA, .ref KA])), (pA, .inr (2, [.ref pAd, .ref pAx, .ref pAy, .int pn])), (pAd, .inl (cI, 32, .inl pd)), (pAx, .inl (cI, 32, .inl px)), (pAy, .inl (cI, 32, .inl py)), (qA, .inr (1, [.ref qAf, .ref qAs])), (qAf, .inl (cI, 64, .inl qf)), (qAs, .inl (cI, 64, .inl qs)), (tA, .inr (0, [.ref tAr, .int ts])), (tAr, .inl (cI, 32, .inl tr))] (fun (r : Int32) (u : (Nat → Int32) × (Int32)) => K r u.1 u.2) (fun u => [(HA, .inr (4, [.ref pA, .ref qA, .ref tA, .ref gA, .ref rA, .ref IA, .ref KA])), (pA, .inr (2, [.ref pAd, .ref pAx, .ref pAy, .int pn])), (pAd, .inl (cI, 32, .inl pd)), (pAx, .inl (cI, 32, .inl px)), (pAy, .inl (cI, 32, .inl py)), (qA, .inr (1, [.ref qAf, .ref qAs])), (qAf, .inl (cI, 64, .inl qf)), (qAs, .inl (cI, 64, .inl qs)), (tA, .inr (0, [.ref tAr, .int u.2])), (tAr, .inl (cI, 32, .inl u.1))]) := by
  refine mt_i (cc := cX5_chain) (maxL := 4) (rt := .int) (by decide) rfl (Nat.le_of_ble_eq_true rfl) ?_
  intro p e s m args below meth c Q A R ls hRf hRl hx hb hml hown hts hK hA hP hD hS hl ret
  have hown : s.vm.findClass RX5 = some m.cls := hown
  have hl : lv_has ls 4 [(0, .ref HA), (1, .int v1), (2, .int v2), (3, .int v3)] := hl
  unfold wp_X5_chain at hw
  refine lv_aload_n hx hb dX5_chain_0 rfl (lv_at hl 0 rfl) ?_
  refine va_get (D := D) (ci := 4) (v := .ref qA) (C := RX5) (T := TX5) (N := 7) hx hb hts in_X5_chain_X5 hown hK hP 0 rfl rfl 1 (by decide) (hts (.fieldLink RX5 19 "LiveHull" "parts" "LLiveHull$Parts;") (List.mem_of_getElem? (i := 1) rfl)) (fun _ h9 => h9) rfl dX5_chain_1 ?_
  refine lv_iload_n hx hb dX5_chain_4 rfl (lv_at hl 1 rfl) ?_
  refine cl_Vi (As := [.int v1]) (rest := []) ⟨hx, hb, hml, hown, hts⟩ (c_X2_has l D cI cJ cZ cO qA qAf qAs qf qs v1 _ hw) (cwV 1 hts gX5_chain_X2_has rfl rfl rfl hd_X2_has ⟨Nat.le_trans (Nat.le_of_ble_eq_true rfl) hRf, Nat.le_trans (Nat.le_of_ble_eq_true rfl) hRl⟩) hK hP hD hS hA [5, 6, 7] [0, 1, 2, 3, 4, 8, 9] rfl (by decide) rfl (by decide) (by decide) 5 1 rfl rfl rfl hl.1 rfl (Nat.le_of_ble_eq_true rfl) dX5_chain_5 ⟨Nat.zero_le _, Nat.zero_le _⟩ (fun r5 _u H locs hw hP hD hS => ?_)
  try dsimp only at hw
  have hP : va_P D vwCl [(HA, .inr (4, [.ref pA, .ref qA, .ref tA, .ref gA, .ref rA, .ref IA, .ref KA])), (pA, .inr (2, [.ref pAd, .ref pAx, .ref pAy, .int pn])), (pAd, .inl (cI, 32, .inl pd)), (pAx, .inl (cI, 32, .inl px)), (pAy, .inl (cI, 32, .inl py)), (qA, .inr (1, [.ref qAf, .ref qAs])), (qAf, .inl (cI, 64, .inl qf)), (qAs, .inl (cI, 64, .inl qs)), (tA, .inr (0, [.ref tAr, .int ts])), (tAr, .inl (cI, 32, .inl tr))] H := hP.sub [0, 1, 2, 3, 4, 7, 8, 9, 5, 6] rfl
  have hD : va_D A [(HA, .inr (4, [.ref pA, .ref qA, .ref tA, .ref gA, .ref rA, .ref IA, .ref KA])), (pA, .inr (2, [.ref pAd, .ref pAx, .ref pAy, .int pn])), (pAd, .inl (cI, 32, .inl pd)), (pAx, .inl (cI, 32, .inl px)), (pAy, .inl (cI, 32, .inl py)), (qA, .inr (1, [.ref qAf, .ref qAs])), (qAf, .inl (cI, 64, .inl qf)), (qAs, .inl (cI, 64, .inl qs)), (tA, .inr (0, [.ref tAr, .int ts])), (tAr, .inl (cI, 32, .inl tr))] := hD.sub [0, 1, 2, 3, 4, 7, 8, 9, 5, 6] (by decide) rfl
  obtain ⟨hwA, hwB⟩ := hw
  refine lv_if_ne (tgt := 13) hx hb dX5_chain_8 (by decide) (fun cb => ?_) (fun cb => ?_)
  · have hw := hwA cb
    refine lv_iload_n hx hb dX5_chain_13 rfl (lv_at hl 2 rfl) ?_
    refine cl_Si (As := [.int v2]) (rest := []) ⟨hx, hb, hml, hown, hts⟩ (c_X5_isSide l D cI cJ cZ cO   v2 _ hw) (va_cwS 1 hts gX5_chain_X5_isSide rfl rfl rfl hd_X5_isSide.2 ⟨Nat.le_trans (Nat.le_of_ble_eq_true rfl) hRf, Nat.le_trans (Nat.le_of_ble_eq_true rfl) hRl⟩) hK hP hD hS hA [] [0, 1, 2, 3, 4, 5, 6, 7, 8, 9] rfl (by decide) rfl (by decide) (by decide) rfl hl.1 rfl (Nat.le_of_ble_eq_true rfl) dX5_chain_14 ⟨Nat.zero_le _, Nat.zero_le _⟩ (fun r14 _u H locs hw hP hD hS => ?_)
    try dsimp only at hw
    have hP : va_P D vwCl [(HA, .inr (4, [.ref pA, .ref qA, .ref tA, .ref gA, .ref rA, .ref IA, .ref KA])), (pA, .inr (2, [.ref pAd, .ref pAx, .ref pAy, .int pn])), (pAd, .inl (cI, 32, .inl pd)), (pAx, .inl (cI, 32, .inl px)), (pAy, .inl (cI, 32, .inl py)), (qA, .inr (1, [.ref qAf, .ref qAs])), (qAf, .inl (cI, 64, .inl qf)), (qAs, .inl (cI, 64, .inl qs)), (tA, .inr (0, [.ref tAr, .int ts])), (tAr, .inl (cI, 32, .inl tr))] H := hP.sub [0, 1, 2, 3, 4, 5, 6, 7, 8, 9] rfl
    have hD : va_D A [(HA, .inr (4, [.ref pA, .ref qA, .ref tA, .ref gA, .ref rA, .ref IA, .ref KA])), (pA, .inr (2, [.ref pAd, .ref pAx, .ref pAy, .int pn])), (pAd, .inl (cI, 32, .inl pd)), (pAx, .inl (cI, 32, .inl px)), (pAy, .inl (cI, 32, .inl py)), (qA, .inr (1, [.ref qAf, .ref qAs])), (qAf, .inl (cI, 64, .inl qf)), (qAs, .inl (cI, 64, .inl qs)), (tA, .inr (0, [.ref tAr, .int ts])), (tAr, .inl (cI, 32, .inl tr))] := hD.sub [0, 1, 2, 3, 4, 5, 6, 7, 8, 9] (by decide) rfl
    obtain ⟨hwA, hwB⟩ := hw
    refine lv_if_ne (tgt := 23) hx hb dX5_chain_17 (by decide) (fun cb => ?_) (fun cb => ?_)
    · have hw := hwA cb
      refine lv_aload_n hx hb dX5_chain_23 rfl (lv_at hl 0 rfl) ?_
      refine lv_aload_n hx hb dX5_chain_24 rfl (lv_at hl 0 rfl) ?_
      refine va_get (D := D) (ci := 4) (v := .ref tA) (C := RX5) (T := TX5) (N := 7) hx hb hts in_X5_chain_X5 hown hK hP 0 rfl rfl 2 (by decide) (hts (.fieldLink RX5 26 "LiveHull" "traced" "LLiveHull$Chain;") (List.mem_of_getElem? (i := 2) rfl)) (fun _ h9 => h9) rfl dX5_chain_25 ?_
      refine lv_iload_n hx hb dX5_chain_28 rfl (lv_at hl 1 rfl) ?_
      refine lv_iload_n hx hb dX5_chain_29 rfl (lv_at hl 2 rfl) ?_
      refine cl_Vv (As := [.ref tA, .int v1, .int v2]) (rest := []) ⟨hx, hb, hml, hown, hts⟩ (c_X5_trace l D cI cJ cZ cO HA pA pAd pAx pAy qA qAf qAs tA tAr tA gA rA IA KA pd px py pn qf qs tr ts v1 v2 _ hw) (cwV 3 hts gX5_chain_X5_trace rfl rfl rfl hd_X5_trace ⟨Nat.le_trans (Nat.le_of_ble_eq_true rfl) hRf, Nat.le_trans (Nat.le_of_ble_eq_true rfl) hRl⟩) hK hP hD hS hA [0, 1, 2, 3, 4, 5, 6, 7, 8, 9] [] rfl (by decide) rfl (by decide) (by decide) 0 4 rfl rfl rfl hl.1 rfl (Nat.le_of_ble_eq_true rfl) dX5_chain_30 ⟨Nat.zero_le _, Nat.zero_le _⟩ (fun u H locs hw hP hD hS => ?_)
      obtain ⟨tr_30, ts_30⟩ := u
      try dsimp only at hw
      have hP : va_P D vwCl [(HA, .inr (4, [.ref pA, .ref qA, .ref tA, .ref gA, .ref rA, .ref IA, .ref KA])), (pA, .inr (2, [.ref pAd, .ref pAx, .ref pAy, .int pn])), (pAd, .inl (cI, 32, .inl pd)), (pAx, .inl (cI, 32, .inl px)), (pAy, .inl (cI, 32, .inl py)), (qA, .inr (1, [.ref qAf, .ref qAs])), (qAf, .inl (cI, 64, .inl qf)), (qAs, .inl (cI, 64, .inl qs)), (tA, .inr (0, [.ref tAr, .int ts_30])), (tAr, .inl (cI, 32, .inl tr_30))] H := hP.sub [0, 1, 2, 3, 4, 5, 6, 7, 8, 9] rfl
      have hD : va_D A [(HA, .inr (4, [.ref pA, .ref qA, .ref tA, .ref gA, .ref rA, .ref IA, .ref KA])), (pA, .inr (2, [.ref pAd, .ref pAx, .ref pAy, .int pn])), (pAd, .inl (cI, 32, .inl pd)), (pAx, .inl (cI, 32, .inl px)), (pAy, .inl (cI, 32, .inl py)), (qA, .inr (1, [.ref qAf, .ref qAs])), (qAf, .inl (cI, 64, .inl qf)), (qAs, .inl (cI, 64, .inl qs)), (tA, .inr (0, [.ref tAr, .int ts_30])), (tAr, .inl (cI, 32, .inl tr_30))] := hD.sub [0, 1, 2, 3, 4, 5, 6, 7, 8, 9] (by decide) rfl
      refine lv_aload_n hx hb dX5_chain_33 rfl (lv_at hl 0 rfl) ?_
      refine va_get (D := D) (ci := 4) (v := .ref pA) (C := RX5) (T := TX5) (N := 7) hx hb hts in_X5_chain_X5 hown hK hP 0 rfl rfl 0 (by decide) (hts (.fieldLink RX5 10 "LiveHull" "points" "LLiveHull$Points;") (List.mem_of_getElem? (i := 3) rfl)) (fun _ h9 => h9) rfl dX5_chain_34 ?_
      refine lv_aload_n hx hb dX5_chain_37 rfl (lv_at hl 0 rfl) ?_
      refine va_get (D := D) (ci := 4) (v := .ref tA) (C := RX5) (T := TX5) (N := 7) hx hb hts in_X5_chain_X5 hown hK hP 0 rfl rfl 2 (by decide) (hts (.fieldLink RX5 26 "LiveHull" "traced" "LLiveHull$Chain;") (List.mem_of_getElem? (i := 2) rfl)) (fun _ h9 => h9) rfl dX5_chain_38 ?_
      refine lv_iload_n hx hb dX5_chain_41 rfl (lv_at hl 3 rfl) ?_
      refine cl_Ui (As := [.int v3]) (rest := [.ref pA]) ⟨hx, hb, hml, hown, hts⟩ (c_X1_rankAt_X0 l D cI cJ cZ cO tA tAr tr_30 ts_30 v3 _ hw) (va_cwU 1 hts gX5_chain_X1_rankAt_u115X0 rfl rfl rfl rfl (by decide +kernel) ⟨Nat.le_trans (Nat.le_of_ble_eq_true rfl) hRf, Nat.le_trans (Nat.le_of_ble_eq_true rfl) hRl⟩) hK hP hD hS hA [8, 9] [0, 1, 2, 3, 4, 5, 6, 7] rfl (by decide) rfl (by decide) (by decide) 8 0 rfl rfl rfl hl.1 rfl (Nat.le_of_ble_eq_true rfl) dX5_chain_42 ⟨Nat.zero_le _, Nat.zero_le _⟩ (fun r42 _u H locs hw hP hD hS => ?_)
      try dsimp only at hw
      have hP : va_P D vwCl [(HA, .inr (4, [.ref pA, .ref qA, .ref tA, .ref gA, .ref rA, .ref IA, .ref KA])), (pA, .inr (2, [.ref pAd, .ref pAx, .ref pAy, .int pn])), (pAd, .inl (cI, 32, .inl pd)), (pAx, .inl (cI, 32, .inl px)), (pAy, .inl (cI, 32, .inl py)), (qA, .inr (1, [.ref qAf, .ref qAs])), (qAf, .inl (cI, 64, .inl qf)), (qAs, .inl (cI, 64, .inl qs)), (tA, .inr (0, [.ref tAr, .int ts_30])), (tAr, .inl (cI, 32, .inl tr_30))] H := hP.sub [0, 1, 2, 3, 4, 5, 6, 7, 8, 9] rfl
      have hD : va_D A [(HA, .inr (4, [.ref pA, .ref qA, .ref tA, .ref gA, .ref rA, .ref IA, .ref KA])), (pA, .inr (2, [.ref pAd, .ref pAx, .ref pAy, .int pn])), (pAd, .inl (cI, 32, .inl pd)), (pAx, .inl (cI, 32, .inl px)), (pAy, .inl (cI, 32, .inl py)), (qA, .inr (1, [.ref qAf, .ref qAs])), (qAf, .inl (cI, 64, .inl qf)), (qAs, .inl (cI, 64, .inl qs)), (tA, .inr (0, [.ref tAr, .int ts_30])), (tAr, .inl (cI, 32, .inl tr_30))] := hD.sub [0, 1, 2, 3, 4, 5, 6, 7, 8, 9] (by decide) rfl
      refine cl_Vi (As := [.int r42]) (rest := []) ⟨hx, hb, hml, hown, hts⟩ (c_X3_idAt l D cI cJ cZ cO pA pAd pAx pAy pd px py pn r42 _ hw) (cwV 1 hts gX5_chain_X3_idAt rfl rfl rfl hd_X3_idAt ⟨Nat.le_trans (Nat.le_of_ble_eq_true rfl) hRf, Nat.le_trans (Nat.le_of_ble_eq_true rfl) hRl⟩) hK hP hD hS hA [1, 2, 3, 4] [0, 5, 6, 7, 8, 9] rfl (by decide) rfl (by decide) (by decide) 1 2 rfl rfl rfl hl.1 rfl (Nat.le_of_ble_eq_true rfl) dX5_chain_45 ⟨Nat.zero_le _, Nat.zero_le _⟩ (fun r45 _u H locs hw hP hD hS => ?_)
      try dsimp only at hw
      have hP : va_P D vwCl [(HA, .inr (4, [.ref pA, .ref qA, .ref tA, .ref gA, .ref rA, .ref IA, .ref KA])), (pA, .inr (2, [.ref pAd, .ref pAx, .ref pAy, .int pn])), (pAd, .inl (cI, 32, .inl pd)), (pAx, .inl (cI, 32, .inl px)), (pAy, .inl (cI, 32, .inl py)), (qA, .inr (1, [.ref qAf, .ref qAs])), (qAf, .inl (cI, 64, .inl qf)), (qAs, .inl (cI, 64, .inl qs)), (tA, .inr (0, [.ref tAr, .int ts_30])), (tAr, .inl (cI, 32, .inl tr_30))] H := hP.sub [0, 6, 7, 8, 9, 1, 2, 3, 4, 5] rfl
      have hD : va_D A [(HA, .inr (4, [.ref pA, .ref qA, .ref tA, .ref gA, .ref rA, .ref IA, .ref KA])), (pA, .inr (2, [.ref pAd, .ref pAx, .ref pAy, .int pn])), (pAd, .inl (cI, 32, .inl pd)), (pAx, .inl (cI, 32, .inl px)), (pAy, .inl (cI, 32, .inl py)), (qA, .inr (1, [.ref qAf, .ref qAs])), (qAf, .inl (cI, 64, .inl qf)), (qAs, .inl (cI, 64, .inl qs)), (tA, .inr (0, [.ref tAr, .int ts_30])), (tAr, .inl (cI, 32, .inl tr_30))] := hD.sub [0, 6, 7, 8, 9, 1, 2, 3, 4, 5] (by decide) rfl
      exact ret _ _ _ _ r45 (tr_30, ts_30) (vp_nar_int _) hw hP hD hS dX5_chain_48
    · have hw := hwB cb
      refine lv_bipush (v := (-2)) hx hb dX5_chain_20 (by decide) ?_
      exact ret _ _ _ _ (-2) (tr, ts) (vp_nar_int _) hw hP hD hS dX5_chain_22
  · have hw := hwB cb
    refine lv_iconst (v := (-1)) hx hb dX5_chain_11 (by decide) ?_
    exact ret _ _ _ _ (-1) (tr, ts) (vp_nar_int _) hw hP hD hS dX5_chain_12
theorem in_X5_bridge_X2 : ∀ w ∈ wsX20, w ∈ wsX5_bridge := fun _ h => List.mem_cons_of_mem _ (List.mem_append_left _ (List.mem_append_left _ (List.mem_append_left _ (List.mem_append_right _ h))))
theorem in_X5_bridge_X5 : ∀ w ∈ wsX50, w ∈ wsX5_bridge := fun _ h => List.mem_cons_of_mem _ (List.mem_append_left _ (List.mem_append_left _ (List.mem_append_left _ (List.mem_append_left _ (List.mem_append_right _ h)))))
theorem hd_X5_bridge : yX5_bridge.cls = RX5 ∧ yX5_bridge.cls ≠ "java/lang/invoke/MethodHandle" ∧ yX5_bridge.cls ≠ "java/lang/invoke/VarHandle" ∧ (parseMethodDescriptor yX5_bridge.desc).map (fun d => d.parameters.length) = some 3 := by decide +kernel
set_option maxHeartbeats 8000000 in
set_option maxRecDepth 100000 in
theorem c_X5_bridge (l : Launch) (D : va_G) (cI cJ cZ cO : ClassId) (HA pA pAd pAx pAy qA qAf qAs tA tAr gA rA IA KA : Nat) (pd : Nat → Int32) (px : Nat → Int32) (py : Nat → Int32) (pn : Int32) (qf : Nat → Int32) (qs : Nat → Int32) (tr : Nat → Int32) (ts : Int32) (v1 : Int32) (v2 : Int32) (v3 : Int32) (K : Int32 → (Nat → Int32) → Int32 → Prop) (hw : wp_X5_bridge pd px py pn qf qs tr ts v1 v2 v3 K) : Ci l D (tys4 cI cJ cZ cO) yX5_bridge wsX5_bridge { frames := 4, cells := 0, slots := 0, locals := 107 } [.ref HA, .int v1, .int v2, .int v3] [(HA, .inr (4, [.ref pA, .ref qA, .ref tA, .ref gA, .ref rA, .ref IA, .ref KA])), (pA, .inr (2, [.ref pAd, .ref pAx, .ref pAy, .int pn])), (pAd, .inl (cI, 32, .inl pd)), (pAx, .inl (cI, 32, .inl px)), (pAy, .inl (cI, 32, .inl py)), (qA, .inr (1, [.ref qAf, .ref qAs])), (qAf, .inl (cI, 64, .inl qf)), (qAs, .inl (cI, 64, .inl qs)), (tA, .inr (0, [.ref tAr, .int ts])), (tAr, .inl (cI, 32, .inl tr))] (fun (r : Int32) (u : (Nat → Int32) × (Int32)) => K r u.1 u.2) (fun u => [(HA, .inr (4, [.ref pA, .ref qA, .ref tA, .ref gA, .ref rA, .ref IA, .ref KA])), (pA, .inr (2, [.ref pAd, .ref pAx, .ref pAy, .int pn])), (pAd, .inl (cI, 32, .inl pd)), (pAx, .inl (cI, 32, .inl px)), (pAy, .inl (cI, 32, .inl py)), (qA, .inr (1, [.ref qAf, .ref qAs])), (qAf, .inl (cI, 64, .inl qf)), (qAs, .inl (cI, 64, .inl qs)), (tA, .inr (0, [.ref tAr, .int u.2])), (tAr, .inl (cI, 32, .inl u.1))]) := by
  refine mt_i (cc := cX5_bridge) (maxL := 5) (rt := .int) (by decide) rfl (Nat.le_of_ble_eq_true rfl) ?_
  intro p e s m args below meth c Q A R ls hRf hRl hx hb hml hown hts hK hA hP hD hS hl ret
  have hown : s.vm.findClass RX5 = some m.cls := hown
  have hl : lv_has ls 5 [(0, .ref HA), (1, .int v1), (2, .int v2), (3, .int v3)] := hl
  have N100 : ∀ (tr : Nat → Int32) (ts : Int32) (s1 : Int32), wp_X5_bridge_100 pd px py pn qf qs v1 v2 v3 K  tr ts s1 → ∀ (H : Heap) (locs : List Loc) (ls : Array Slot), va_P D vwCl [(HA, .inr (4, [.ref pA, .ref qA, .ref tA, .ref gA, .ref rA, .ref IA, .ref KA])), (pA, .inr (2, [.ref pAd, .ref pAx, .ref pAy, .int pn])), (pAd, .inl (cI, 32, .inl pd)), (pAx, .inl (cI, 32, .inl px)), (pAy, .inl (cI, 32, .inl py)), (qA, .inr (1, [.ref qAf, .ref qAs])), (qAf, .inl (cI, 64, .inl qf)), (qAs, .inl (cI, 64, .inl qs)), (tA, .inr (0, [.ref tAr, .int ts])), (tAr, .inl (cI, 32, .inl tr))] H → va_D A [(HA, .inr (4, [.ref pA, .ref qA, .ref tA, .ref gA, .ref rA, .ref IA, .ref KA])), (pA, .inr (2, [.ref pAd, .ref pAx, .ref pAy, .int pn])), (pAd, .inl (cI, 32, .inl pd)), (pAx, .inl (cI, 32, .inl px)), (pAy, .inl (cI, 32, .inl py)), (qA, .inr (1, [.ref qAf, .ref qAs])), (qAf, .inl (cI, 64, .inl qf)), (qAs, .inl (cI, 64, .inl qs)), (tA, .inr (0, [.ref tAr, .int ts])), (tAr, .inl (cI, 32, .inl tr))] → va_S A s.heap H locs → lv_has ls 5 [(0, .ref HA)] → W p l e R s m args below meth c H locs 0 0 Q (F0 m 100 ls [.int s1, .ref pA]) := by
    intro tr ts s1 hw H locs ls hP hD hS hl
    unfold wp_X5_bridge_100 at hw
    refine cl_Vi (As := [.int s1]) (rest := []) ⟨hx, hb, hml, hown, hts⟩ (c_X3_idAt l D cI cJ cZ cO pA pAd pAx pAy pd px py pn s1 _ hw) (cwV 1 hts gX5_bridge_X3_idAt rfl rfl rfl hd_X3_idAt ⟨Nat.le_trans (Nat.le_of_ble_eq_true rfl) hRf, Nat.le_trans (Nat.le_of_ble_eq_true rfl) hRl⟩) hK hP hD hS hA [1, 2, 3, 4] [0, 5, 6, 7, 8, 9] rfl (by decide) rfl (by decide) (by decide) 1 2 rfl rfl rfl hl.1 rfl (Nat.le_of_ble_eq_true rfl) dX5_bridge_100 ⟨Nat.zero_le _, Nat.zero_le _⟩ (fun r100 _u H locs hw hP hD hS => ?_)
    try dsimp only at hw
    have hP : va_P D vwCl [(HA, .inr (4, [.ref pA, .ref qA, .ref tA, .ref gA, .ref rA, .ref IA, .ref KA])), (pA, .inr (2, [.ref pAd, .ref pAx, .ref pAy, .int pn])), (pAd, .inl (cI, 32, .inl pd)), (pAx, .inl (cI, 32, .inl px)), (pAy, .inl (cI, 32, .inl py)), (qA, .inr (1, [.ref qAf, .ref qAs])), (qAf, .inl (cI, 64, .inl qf)), (qAs, .inl (cI, 64, .inl qs)), (tA, .inr (0, [.ref tAr, .int ts])), (tAr, .inl (cI, 32, .inl tr))] H := hP.sub [0, 6, 7, 8, 9, 1, 2, 3, 4, 5] rfl
    have hD : va_D A [(HA, .inr (4, [.ref pA, .ref qA, .ref tA, .ref gA, .ref rA, .ref IA, .ref KA])), (pA, .inr (2, [.ref pAd, .ref pAx, .ref pAy, .int pn])), (pAd, .inl (cI, 32, .inl pd)), (pAx, .inl (cI, 32, .inl px)), (pAy, .inl (cI, 32, .inl py)), (qA, .inr (1, [.ref qAf, .ref qAs])), (qAf, .inl (cI, 64, .inl qf)), (qAs, .inl (cI, 64, .inl qs)), (tA, .inr (0, [.ref tAr, .int ts])), (tAr, .inl (cI, 32, .inl tr))] := hD.sub [0, 6, 7, 8, 9, 1, 2, 3, 4, 5] (by decide) rfl
    exact ret _ _ _ _ r100 (tr, ts) (vp_nar_int _) hw hP hD hS dX5_bridge_103
  unfold wp_X5_bridge at hw
  refine lv_aload_n hx hb dX5_bridge_0 rfl (lv_at hl 0 rfl) ?_
  refine va_get (D := D) (ci := 4) (v := .ref qA) (C := RX5) (T := TX5) (N := 7) hx hb hts in_X5_bridge_X5 hown hK hP 0 rfl rfl 1 (by decide) (hts (.fieldLink RX5 19 "LiveHull" "parts" "LLiveHull$Parts;") (List.mem_of_getElem? (i := 1) rfl)) (fun _ h9 => h9) rfl dX5_bridge_1 ?_
  refine lv_iload_n hx hb dX5_bridge_4 rfl (lv_at hl 1 rfl) ?_
  refine cl_Vi (As := [.int v1]) (rest := []) ⟨hx, hb, hml, hown, hts⟩ (c_X2_has l D cI cJ cZ cO qA qAf qAs qf qs v1 _ hw) (cwV 1 hts gX5_bridge_X2_has rfl rfl rfl hd_X2_has ⟨Nat.le_trans (Nat.le_of_ble_eq_true rfl) hRf, Nat.le_trans (Nat.le_of_ble_eq_true rfl) hRl⟩) hK hP hD hS hA [5, 6, 7] [0, 1, 2, 3, 4, 8, 9] rfl (by decide) rfl (by decide) (by decide) 5 1 rfl rfl rfl hl.1 rfl (Nat.le_of_ble_eq_true rfl) dX5_bridge_5 ⟨Nat.zero_le _, Nat.zero_le _⟩ (fun r5 _u H locs hw hP hD hS => ?_)
  try dsimp only at hw
  have hP : va_P D vwCl [(HA, .inr (4, [.ref pA, .ref qA, .ref tA, .ref gA, .ref rA, .ref IA, .ref KA])), (pA, .inr (2, [.ref pAd, .ref pAx, .ref pAy, .int pn])), (pAd, .inl (cI, 32, .inl pd)), (pAx, .inl (cI, 32, .inl px)), (pAy, .inl (cI, 32, .inl py)), (qA, .inr (1, [.ref qAf, .ref qAs])), (qAf, .inl (cI, 64, .inl qf)), (qAs, .inl (cI, 64, .inl qs)), (tA, .inr (0, [.ref tAr, .int ts])), (tAr, .inl (cI, 32, .inl tr))] H := hP.sub [0, 1, 2, 3, 4, 7, 8, 9, 5, 6] rfl
  have hD : va_D A [(HA, .inr (4, [.ref pA, .ref qA, .ref tA, .ref gA, .ref rA, .ref IA, .ref KA])), (pA, .inr (2, [.ref pAd, .ref pAx, .ref pAy, .int pn])), (pAd, .inl (cI, 32, .inl pd)), (pAx, .inl (cI, 32, .inl px)), (pAy, .inl (cI, 32, .inl py)), (qA, .inr (1, [.ref qAf, .ref qAs])), (qAf, .inl (cI, 64, .inl qf)), (qAs, .inl (cI, 64, .inl qs)), (tA, .inr (0, [.ref tAr, .int ts])), (tAr, .inl (cI, 32, .inl tr))] := hD.sub [0, 1, 2, 3, 4, 7, 8, 9, 5, 6] (by decide) rfl
  obtain ⟨hwA, hwB⟩ := hw
  refine lv_if_ne (tgt := 13) hx hb dX5_bridge_8 (by decide) (fun cb => ?_) (fun cb => ?_)
  · have hw := hwA cb
    refine lv_aload_n hx hb dX5_bridge_13 rfl (lv_at hl 0 rfl) ?_
    refine va_get (D := D) (ci := 4) (v := .ref qA) (C := RX5) (T := TX5) (N := 7) hx hb hts in_X5_bridge_X5 hown hK hP 0 rfl rfl 1 (by decide) (hts (.fieldLink RX5 19 "LiveHull" "parts" "LLiveHull$Parts;") (List.mem_of_getElem? (i := 1) rfl)) (fun _ h9 => h9) rfl dX5_bridge_14 ?_
    refine lv_iload_n hx hb dX5_bridge_17 rfl (lv_at hl 1 rfl) ?_
    refine cl_Vi (As := [.int v1]) (rest := []) ⟨hx, hb, hml, hown, hts⟩ (c_X2_hasHalves l D cI cJ cZ cO qA qAf qAs qf qs v1 _ hw) (cwV 1 hts gX5_bridge_X2_hasHalves rfl rfl rfl hd_X2_hasHalves ⟨Nat.le_trans (Nat.le_of_ble_eq_true rfl) hRf, Nat.le_trans (Nat.le_of_ble_eq_true rfl) hRl⟩) hK hP hD hS hA [5, 6, 7] [0, 1, 2, 3, 4, 8, 9] rfl (by decide) rfl (by decide) (by decide) 5 1 rfl rfl rfl hl.1 rfl (Nat.le_of_ble_eq_true rfl) dX5_bridge_18 ⟨Nat.zero_le _, Nat.zero_le _⟩ (fun r18 _u H locs hw hP hD hS => ?_)
    try dsimp only at hw
    have hP : va_P D vwCl [(HA, .inr (4, [.ref pA, .ref qA, .ref tA, .ref gA, .ref rA, .ref IA, .ref KA])), (pA, .inr (2, [.ref pAd, .ref pAx, .ref pAy, .int pn])), (pAd, .inl (cI, 32, .inl pd)), (pAx, .inl (cI, 32, .inl px)), (pAy, .inl (cI, 32, .inl py)), (qA, .inr (1, [.ref qAf, .ref qAs])), (qAf, .inl (cI, 64, .inl qf)), (qAs, .inl (cI, 64, .inl qs)), (tA, .inr (0, [.ref tAr, .int ts])), (tAr, .inl (cI, 32, .inl tr))] H := hP.sub [0, 1, 2, 3, 4, 7, 8, 9, 5, 6] rfl
    have hD : va_D A [(HA, .inr (4, [.ref pA, .ref qA, .ref tA, .ref gA, .ref rA, .ref IA, .ref KA])), (pA, .inr (2, [.ref pAd, .ref pAx, .ref pAy, .int pn])), (pAd, .inl (cI, 32, .inl pd)), (pAx, .inl (cI, 32, .inl px)), (pAy, .inl (cI, 32, .inl py)), (qA, .inr (1, [.ref qAf, .ref qAs])), (qAf, .inl (cI, 64, .inl qf)), (qAs, .inl (cI, 64, .inl qs)), (tA, .inr (0, [.ref tAr, .int ts])), (tAr, .inl (cI, 32, .inl tr))] := hD.sub [0, 1, 2, 3, 4, 7, 8, 9, 5, 6] (by decide) rfl
    obtain ⟨hwA, hwB⟩ := hw
    refine lv_if_ne (tgt := 27) hx hb dX5_bridge_21 (by decide) (fun cb => ?_) (fun cb => ?_)
    · have hw := hwA cb
      refine lv_iload_n hx hb dX5_bridge_27 rfl (lv_at hl 2 rfl) ?_
      refine cl_Si (As := [.int v2]) (rest := []) ⟨hx, hb, hml, hown, hts⟩ (c_X5_isSide l D cI cJ cZ cO   v2 _ hw) (va_cwS 1 hts gX5_bridge_X5_isSide rfl rfl rfl hd_X5_isSide.2 ⟨Nat.le_trans (Nat.le_of_ble_eq_true rfl) hRf, Nat.le_trans (Nat.le_of_ble_eq_true rfl) hRl⟩) hK hP hD hS hA [] [0, 1, 2, 3, 4, 5, 6, 7, 8, 9] rfl (by decide) rfl (by decide) (by decide) rfl hl.1 rfl (Nat.le_of_ble_eq_true rfl) dX5_bridge_28 ⟨Nat.zero_le _, Nat.zero_le _⟩ (fun r28 _u H locs hw hP hD hS => ?_)
      try dsimp only at hw
      have hP : va_P D vwCl [(HA, .inr (4, [.ref pA, .ref qA, .ref tA, .ref gA, .ref rA, .ref IA, .ref KA])), (pA, .inr (2, [.ref pAd, .ref pAx, .ref pAy, .int pn])), (pAd, .inl (cI, 32, .inl pd)), (pAx, .inl (cI, 32, .inl px)), (pAy, .inl (cI, 32, .inl py)), (qA, .inr (1, [.ref qAf, .ref qAs])), (qAf, .inl (cI, 64, .inl qf)), (qAs, .inl (cI, 64, .inl qs)), (tA, .inr (0, [.ref tAr, .int ts])), (tAr, .inl (cI, 32, .inl tr))] H := hP.sub [0, 1, 2, 3, 4, 5, 6, 7, 8, 9] rfl
      have hD : va_D A [(HA, .inr (4, [.ref pA, .ref qA, .ref tA, .ref gA, .ref rA, .ref IA, .ref KA])), (pA, .inr (2, [.ref pAd, .ref pAx, .ref pAy, .int pn])), (pAd, .inl (cI, 32, .inl pd)), (pAx, .inl (cI, 32, .inl px)), (pAy, .inl (cI, 32, .inl py)), (qA, .inr (1, [.ref qAf, .ref qAs])), (qAf, .inl (cI, 64, .inl qf)), (qAs, .inl (cI, 64, .inl qs)), (tA, .inr (0, [.ref tAr, .int ts])), (tAr, .inl (cI, 32, .inl tr))] := hD.sub [0, 1, 2, 3, 4, 5, 6, 7, 8, 9] (by decide) rfl
      obtain ⟨hwA, hwB⟩ := hw
      refine lv_if_eq (tgt := 43) hx hb dX5_bridge_31 (by decide) (fun cb => ?_) (fun cb => ?_)
      · have hw := hwA cb
        refine lv_bipush (v := (-2)) hx hb dX5_bridge_43 (by decide) ?_
        exact ret _ _ _ _ (-2) (tr, ts) (vp_nar_int _) hw hP hD hS dX5_bridge_45
      · have hw := hwB cb
        refine lv_iload_n hx hb dX5_bridge_34 rfl (lv_at hl 3 rfl) ?_
        obtain ⟨hwA, hwB⟩ := hw
        refine lv_if_lt (tgt := 43) hx hb dX5_bridge_35 (by decide) (fun cb => ?_) (fun cb => ?_)
        · have hw := hwA cb
          refine lv_bipush (v := (-2)) hx hb dX5_bridge_43 (by decide) ?_
          exact ret _ _ _ _ (-2) (tr, ts) (vp_nar_int _) hw hP hD hS dX5_bridge_45
        · have hw := hwB cb
          refine lv_iload_n hx hb dX5_bridge_38 rfl (lv_at hl 3 rfl) ?_
          refine lv_iconst (v := 1) hx hb dX5_bridge_39 (by decide) ?_
          obtain ⟨hwA, hwB⟩ := hw
          refine lv_icmp_le (tgt := 46) hx hb dX5_bridge_40 (by decide) (fun cb => ?_) (fun cb => ?_)
          · have hw := hwA cb
            refine lv_aload_n hx hb dX5_bridge_46 rfl (lv_at hl 0 rfl) ?_
            refine lv_aload_n hx hb dX5_bridge_47 rfl (lv_at hl 0 rfl) ?_
            refine va_get (D := D) (ci := 4) (v := .ref tA) (C := RX5) (T := TX5) (N := 7) hx hb hts in_X5_bridge_X5 hown hK hP 0 rfl rfl 2 (by decide) (hts (.fieldLink RX5 26 "LiveHull" "traced" "LLiveHull$Chain;") (List.mem_of_getElem? (i := 2) rfl)) (fun _ h9 => h9) rfl dX5_bridge_48 ?_
            refine lv_iload_n hx hb dX5_bridge_51 rfl (lv_at hl 1 rfl) ?_
            refine lv_iload_n hx hb dX5_bridge_52 rfl (lv_at hl 2 rfl) ?_
            refine cl_Vv (As := [.ref tA, .int v1, .int v2]) (rest := []) ⟨hx, hb, hml, hown, hts⟩ (c_X5_trace l D cI cJ cZ cO HA pA pAd pAx pAy qA qAf qAs tA tAr tA gA rA IA KA pd px py pn qf qs tr ts v1 v2 _ hw) (cwV 3 hts gX5_bridge_X5_trace rfl rfl rfl hd_X5_trace ⟨Nat.le_trans (Nat.le_of_ble_eq_true rfl) hRf, Nat.le_trans (Nat.le_of_ble_eq_true rfl) hRl⟩) hK hP hD hS hA [0, 1, 2, 3, 4, 5, 6, 7, 8, 9] [] rfl (by decide) rfl (by decide) (by decide) 0 4 rfl rfl rfl hl.1 rfl (Nat.le_of_ble_eq_true rfl) dX5_bridge_53 ⟨Nat.zero_le _, Nat.zero_le _⟩ (fun u H locs hw hP hD hS => ?_)
            obtain ⟨tr_53, ts_53⟩ := u
            try dsimp only at hw
            have hP : va_P D vwCl [(HA, .inr (4, [.ref pA, .ref qA, .ref tA, .ref gA, .ref rA, .ref IA, .ref KA])), (pA, .inr (2, [.ref pAd, .ref pAx, .ref pAy, .int pn])), (pAd, .inl (cI, 32, .inl pd)), (pAx, .inl (cI, 32, .inl px)), (pAy, .inl (cI, 32, .inl py)), (qA, .inr (1, [.ref qAf, .ref qAs])), (qAf, .inl (cI, 64, .inl qf)), (qAs, .inl (cI, 64, .inl qs)), (tA, .inr (0, [.ref tAr, .int ts_53])), (tAr, .inl (cI, 32, .inl tr_53))] H := hP.sub [0, 1, 2, 3, 4, 5, 6, 7, 8, 9] rfl
            have hD : va_D A [(HA, .inr (4, [.ref pA, .ref qA, .ref tA, .ref gA, .ref rA, .ref IA, .ref KA])), (pA, .inr (2, [.ref pAd, .ref pAx, .ref pAy, .int pn])), (pAd, .inl (cI, 32, .inl pd)), (pAx, .inl (cI, 32, .inl px)), (pAy, .inl (cI, 32, .inl py)), (qA, .inr (1, [.ref qAf, .ref qAs])), (qAf, .inl (cI, 64, .inl qf)), (qAs, .inl (cI, 64, .inl qs)), (tA, .inr (0, [.ref tAr, .int ts_53])), (tAr, .inl (cI, 32, .inl tr_53))] := hD.sub [0, 1, 2, 3, 4, 5, 6, 7, 8, 9] (by decide) rfl
            refine lv_aload_n hx hb dX5_bridge_56 rfl (lv_at hl 0 rfl) ?_
            refine va_get (D := D) (ci := 4) (v := .ref qA) (C := RX5) (T := TX5) (N := 7) hx hb hts in_X5_bridge_X5 hown hK hP 0 rfl rfl 1 (by decide) (hts (.fieldLink RX5 19 "LiveHull" "parts" "LLiveHull$Parts;") (List.mem_of_getElem? (i := 1) rfl)) (fun _ h9 => h9) rfl dX5_bridge_57 ?_
            refine va_get (D := D) (ci := 1) (v := .ref qAf) (C := RX2) (T := TX2) (N := 2) hx hb hts in_X5_bridge_X2 hown hK hP 5 rfl rfl 0 (by decide) (hts (.fieldLink RX5 99 "LiveHull$Parts" "firsts" "[I") (List.mem_of_getElem? (i := 3) rfl)) (fun _ h9 => h9) rfl dX5_bridge_60 ?_
            refine lv_iconst (v := 2) hx hb dX5_bridge_63 (by decide) ?_
            refine lv_iload_n hx hb dX5_bridge_64 rfl (lv_at hl 1 rfl) ?_
            refine lv_imul hx hb dX5_bridge_65 ?_
            refine lv_iconst (v := 1) hx hb dX5_bridge_66 (by decide) ?_
            refine lv_iadd hx hb dX5_bridge_67 ?_
            obtain ⟨hi, hw⟩ := hw
            refine va_iald hx hb hK hP 6 0 rfl rfl hi dX5_bridge_68 ?_
            refine lv_istore (lv' := [(4, .int (qf (((2 : Int32) * v1) + 1).toNatClampNeg)), (0, .ref HA), (1, .int v1), (2, .int v2), (3, .int v3)]) hx hb dX5_bridge_69 hl (by decide) rfl (fun ls hl => ?_)
            refine lv_aload_n hx hb dX5_bridge_71 rfl (lv_at hl 1 rfl) ?_
            refine va_get (D := D) (ci := 4) (v := .ref pA) (C := RX5) (T := TX5) (N := 7) hx hb hts in_X5_bridge_X5 hown hK hP 0 rfl rfl 0 (by decide) (hts (.fieldLink RX5 10 "LiveHull" "points" "LLiveHull$Points;") (List.mem_of_getElem? (i := 4) rfl)) (fun _ h9 => h9) rfl dX5_bridge_72 ?_
            refine lv_iload_n hx hb dX5_bridge_75 rfl (lv_at hl 4 rfl) ?_
            obtain ⟨hwA, hwB⟩ := hw
            refine lv_if_ne (tgt := 91) hx hb dX5_bridge_76 (by decide) (fun cb => ?_) (fun cb => ?_)
            · have hw := hwA cb
              refine lv_aload_n hx hb dX5_bridge_91 rfl (lv_at hl 1 rfl) ?_
              refine va_get (D := D) (ci := 4) (v := .ref tA) (C := RX5) (T := TX5) (N := 7) hx hb hts in_X5_bridge_X5 hown hK hP 0 rfl rfl 2 (by decide) (hts (.fieldLink RX5 26 "LiveHull" "traced" "LLiveHull$Chain;") (List.mem_of_getElem? (i := 2) rfl)) (fun _ h9 => h9) rfl dX5_bridge_92 ?_
              refine lv_iload hx hb dX5_bridge_95 (lv_at hl 0 rfl) ?_
              refine cl_Vi (As := [.int (qf (((2 : Int32) * v1) + 1).toNatClampNeg)]) (rest := [.ref pA]) ⟨hx, hb, hml, hown, hts⟩ (c_X0_firstFrom l D cI cJ cZ cO tA tAr tr_53 ts_53 (qf (((2 : Int32) * v1) + 1).toNatClampNeg) _ hw) (cwV 1 hts gX5_bridge_X0_firstFrom rfl rfl rfl hd_X0_firstFrom ⟨Nat.le_trans (Nat.le_of_ble_eq_true rfl) hRf, Nat.le_trans (Nat.le_of_ble_eq_true rfl) hRl⟩) hK hP hD hS hA [8, 9] [0, 1, 2, 3, 4, 5, 6, 7] rfl (by decide) rfl (by decide) (by decide) 8 0 rfl rfl rfl hl.1 rfl (Nat.le_of_ble_eq_true rfl) dX5_bridge_97 ⟨Nat.zero_le _, Nat.zero_le _⟩ (fun r97 _u H locs hw hP hD hS => ?_)
              try dsimp only at hw
              have hP : va_P D vwCl [(HA, .inr (4, [.ref pA, .ref qA, .ref tA, .ref gA, .ref rA, .ref IA, .ref KA])), (pA, .inr (2, [.ref pAd, .ref pAx, .ref pAy, .int pn])), (pAd, .inl (cI, 32, .inl pd)), (pAx, .inl (cI, 32, .inl px)), (pAy, .inl (cI, 32, .inl py)), (qA, .inr (1, [.ref qAf, .ref qAs])), (qAf, .inl (cI, 64, .inl qf)), (qAs, .inl (cI, 64, .inl qs)), (tA, .inr (0, [.ref tAr, .int ts_53])), (tAr, .inl (cI, 32, .inl tr_53))] H := hP.sub [0, 1, 2, 3, 4, 5, 6, 7, 8, 9] rfl
              have hD : va_D A [(HA, .inr (4, [.ref pA, .ref qA, .ref tA, .ref gA, .ref rA, .ref IA, .ref KA])), (pA, .inr (2, [.ref pAd, .ref pAx, .ref pAy, .int pn])), (pAd, .inl (cI, 32, .inl pd)), (pAx, .inl (cI, 32, .inl px)), (pAy, .inl (cI, 32, .inl py)), (qA, .inr (1, [.ref qAf, .ref qAs])), (qAf, .inl (cI, 64, .inl qf)), (qAs, .inl (cI, 64, .inl qs)), (tA, .inr (0, [.ref tAr, .int ts_53])), (tAr, .inl (cI, 32, .inl tr_53))] := hD.sub [0, 1, 2, 3, 4, 5, 6, 7, 8, 9] (by decide) rfl
              exact N100 tr_53 ts_53 r97 hw _ _ _ hP hD hS (lv_sub hl [1] rfl)
            · have hw := hwB cb
              refine lv_aload_n hx hb dX5_bridge_79 rfl (lv_at hl 1 rfl) ?_
              refine va_get (D := D) (ci := 4) (v := .ref tA) (C := RX5) (T := TX5) (N := 7) hx hb hts in_X5_bridge_X5 hown hK hP 0 rfl rfl 2 (by decide) (hts (.fieldLink RX5 26 "LiveHull" "traced" "LLiveHull$Chain;") (List.mem_of_getElem? (i := 2) rfl)) (fun _ h9 => h9) rfl dX5_bridge_80 ?_
              refine lv_iload hx hb dX5_bridge_83 (lv_at hl 0 rfl) ?_
              refine cl_Vi (As := [.int (qf (((2 : Int32) * v1) + 1).toNatClampNeg)]) (rest := [.ref pA]) ⟨hx, hb, hml, hown, hts⟩ (c_X0_lastBefore l D cI cJ cZ cO tA tAr tr_53 ts_53 (qf (((2 : Int32) * v1) + 1).toNatClampNeg) _ hw) (cwV 1 hts gX5_bridge_X0_lastBefore rfl rfl rfl hd_X0_lastBefore ⟨Nat.le_trans (Nat.le_of_ble_eq_true rfl) hRf, Nat.le_trans (Nat.le_of_ble_eq_true rfl) hRl⟩) hK hP hD hS hA [8, 9] [0, 1, 2, 3, 4, 5, 6, 7] rfl (by decide) rfl (by decide) (by decide) 8 0 rfl rfl rfl hl.1 rfl (Nat.le_of_ble_eq_true rfl) dX5_bridge_85 ⟨Nat.zero_le _, Nat.zero_le _⟩ (fun r85 _u H locs hw hP hD hS => ?_)
              try dsimp only at hw
              have hP : va_P D vwCl [(HA, .inr (4, [.ref pA, .ref qA, .ref tA, .ref gA, .ref rA, .ref IA, .ref KA])), (pA, .inr (2, [.ref pAd, .ref pAx, .ref pAy, .int pn])), (pAd, .inl (cI, 32, .inl pd)), (pAx, .inl (cI, 32, .inl px)), (pAy, .inl (cI, 32, .inl py)), (qA, .inr (1, [.ref qAf, .ref qAs])), (qAf, .inl (cI, 64, .inl qf)), (qAs, .inl (cI, 64, .inl qs)), (tA, .inr (0, [.ref tAr, .int ts_53])), (tAr, .inl (cI, 32, .inl tr_53))] H := hP.sub [0, 1, 2, 3, 4, 5, 6, 7, 8, 9] rfl
              have hD : va_D A [(HA, .inr (4, [.ref pA, .ref qA, .ref tA, .ref gA, .ref rA, .ref IA, .ref KA])), (pA, .inr (2, [.ref pAd, .ref pAx, .ref pAy, .int pn])), (pAd, .inl (cI, 32, .inl pd)), (pAx, .inl (cI, 32, .inl px)), (pAy, .inl (cI, 32, .inl py)), (qA, .inr (1, [.ref qAf, .ref qAs])), (qAf, .inl (cI, 64, .inl qf)), (qAs, .inl (cI, 64, .inl qs)), (tA, .inr (0, [.ref tAr, .int ts_53])), (tAr, .inl (cI, 32, .inl tr_53))] := hD.sub [0, 1, 2, 3, 4, 5, 6, 7, 8, 9] (by decide) rfl
              refine lv_goto (tgt := 100) hx hb dX5_bridge_88 (by decide) ?_
              exact N100 tr_53 ts_53 r85 hw _ _ _ hP hD hS (lv_sub hl [1] rfl)
          · have hw := hwB cb
            refine lv_bipush (v := (-2)) hx hb dX5_bridge_43 (by decide) ?_
            exact ret _ _ _ _ (-2) (tr, ts) (vp_nar_int _) hw hP hD hS dX5_bridge_45
    · have hw := hwB cb
      refine lv_bipush (v := (-5)) hx hb dX5_bridge_24 (by decide) ?_
      exact ret _ _ _ _ (-5) (tr, ts) (vp_nar_int _) hw hP hD hS dX5_bridge_26
  · have hw := hwB cb
    refine lv_iconst (v := (-1)) hx hb dX5_bridge_11 (by decide) ?_
    exact ret _ _ _ _ (-1) (tr, ts) (vp_nar_int _) hw hP hD hS dX5_bridge_12
theorem in_X5_round_X4 : ∀ w ∈ wsX40, w ∈ wsX5_round := fun _ h => List.mem_cons_of_mem _ (List.mem_append_left _ (List.mem_append_right _ h))
theorem in_X5_round_X5 : ∀ w ∈ wsX50, w ∈ wsX5_round := fun _ h => List.mem_cons_of_mem _ (List.mem_append_left _ (List.mem_append_left _ (List.mem_append_left _ (List.mem_append_right _ h))))
theorem hd_X5_round : yX5_round.cls = RX5 ∧ yX5_round.cls ≠ "java/lang/invoke/MethodHandle" ∧ yX5_round.cls ≠ "java/lang/invoke/VarHandle" ∧ (parseMethodDescriptor yX5_round.desc).map (fun d => d.parameters.length) = some 1 := by decide +kernel
set_option maxHeartbeats 8000000 in
set_option maxRecDepth 100000 in
theorem c_X5_round (l : Launch) (D : va_G) (cI cJ cZ cO : ClassId) (HA pA pAd pAx pAy tA tAr rA rAr qA gA IA KA : Nat) (pd : Nat → Int32) (px : Nat → Int32) (py : Nat → Int32) (pn : Int32) (tr : Nat → Int32) (ts : Int32) (rr : Nat → Int32) (rs : Int32) (v1 : Int32) (K : Int32 → (Nat → Int32) → Int32 → (Nat → Int32) → Int32 → Prop) (hw : wp_X5_round pd px py pn tr ts rr rs v1 K) : Ci l D (tys4 cI cJ cZ cO) yX5_round wsX5_round { frames := 4, cells := 0, slots := 0, locals := 104 } [.ref HA, .int v1] [(HA, .inr (4, [.ref pA, .ref qA, .ref tA, .ref gA, .ref rA, .ref IA, .ref KA])), (pA, .inr (2, [.ref pAd, .ref pAx, .ref pAy, .int pn])), (pAd, .inl (cI, 32, .inl pd)), (pAx, .inl (cI, 32, .inl px)), (pAy, .inl (cI, 32, .inl py)), (tA, .inr (0, [.ref tAr, .int ts])), (tAr, .inl (cI, 32, .inl tr)), (rA, .inr (3, [.ref rAr, .int rs])), (rAr, .inl (cI, 32, .inl rr))] (fun (r : Int32) (u : (Nat → Int32) × (Int32) × (Nat → Int32) × (Int32)) => K r u.1 u.2.1 u.2.2.1 u.2.2.2) (fun u => [(HA, .inr (4, [.ref pA, .ref qA, .ref tA, .ref gA, .ref rA, .ref IA, .ref KA])), (pA, .inr (2, [.ref pAd, .ref pAx, .ref pAy, .int pn])), (pAd, .inl (cI, 32, .inl pd)), (pAx, .inl (cI, 32, .inl px)), (pAy, .inl (cI, 32, .inl py)), (tA, .inr (0, [.ref tAr, .int u.2.1])), (tAr, .inl (cI, 32, .inl u.1)), (rA, .inr (3, [.ref rAr, .int u.2.2.2])), (rAr, .inl (cI, 32, .inl u.2.2.1))]) := by
  refine mt_i (cc := cX5_round) (maxL := 2) (rt := .int) (by decide) rfl (Nat.le_of_ble_eq_true rfl) ?_
  intro p e s m args below meth c Q A R ls hRf hRl hx hb hml hown hts hK hA hP hD hS hl ret
  have hown : s.vm.findClass RX5 = some m.cls := hown
  have hl : lv_has ls 2 [(0, .ref HA), (1, .int v1)] := hl
  unfold wp_X5_round at hw
  refine lv_aload_n hx hb dX5_round_0 rfl (lv_at hl 0 rfl) ?_
  refine cl_Vv (As := []) (rest := []) ⟨hx, hb, hml, hown, hts⟩ (c_X5_gatherRing l D cI cJ cZ cO HA pA pAd pAx pAy tA tAr rA rAr qA gA IA KA pd px py pn tr ts rr rs  _ hw) (cwV 0 hts gX5_round_X5_gatherRing rfl rfl rfl hd_X5_gatherRing ⟨Nat.le_trans (Nat.le_of_ble_eq_true rfl) hRf, Nat.le_trans (Nat.le_of_ble_eq_true rfl) hRl⟩) hK hP hD hS hA [0, 1, 2, 3, 4, 5, 6, 7, 8] [] rfl (by decide) rfl (by decide) (by decide) 0 4 rfl rfl rfl hl.1 rfl (Nat.le_of_ble_eq_true rfl) dX5_round_1 ⟨Nat.zero_le _, Nat.zero_le _⟩ (fun u H locs hw hP hD hS => ?_)
  obtain ⟨tr_1, ts_1, rr_1, rs_1⟩ := u
  try dsimp only at hw
  have hP : va_P D vwCl [(HA, .inr (4, [.ref pA, .ref qA, .ref tA, .ref gA, .ref rA, .ref IA, .ref KA])), (pA, .inr (2, [.ref pAd, .ref pAx, .ref pAy, .int pn])), (pAd, .inl (cI, 32, .inl pd)), (pAx, .inl (cI, 32, .inl px)), (pAy, .inl (cI, 32, .inl py)), (tA, .inr (0, [.ref tAr, .int ts_1])), (tAr, .inl (cI, 32, .inl tr_1)), (rA, .inr (3, [.ref rAr, .int rs_1])), (rAr, .inl (cI, 32, .inl rr_1))] H := hP.sub [0, 1, 2, 3, 4, 5, 6, 7, 8] rfl
  have hD : va_D A [(HA, .inr (4, [.ref pA, .ref qA, .ref tA, .ref gA, .ref rA, .ref IA, .ref KA])), (pA, .inr (2, [.ref pAd, .ref pAx, .ref pAy, .int pn])), (pAd, .inl (cI, 32, .inl pd)), (pAx, .inl (cI, 32, .inl px)), (pAy, .inl (cI, 32, .inl py)), (tA, .inr (0, [.ref tAr, .int ts_1])), (tAr, .inl (cI, 32, .inl tr_1)), (rA, .inr (3, [.ref rAr, .int rs_1])), (rAr, .inl (cI, 32, .inl rr_1))] := hD.sub [0, 1, 2, 3, 4, 5, 6, 7, 8] (by decide) rfl
  refine lv_iload_n hx hb dX5_round_4 rfl (lv_at hl 1 rfl) ?_
  refine lv_iconst (v := (-1)) hx hb dX5_round_5 (by decide) ?_
  obtain ⟨hwA, hwB⟩ := hw
  refine lv_icmp_ne (tgt := 19) hx hb dX5_round_6 (by decide) (fun cb => ?_) (fun cb => ?_)
  · have hw := hwA cb
    refine lv_aload_n hx hb dX5_round_19 rfl (lv_at hl 0 rfl) ?_
    refine va_get (D := D) (ci := 4) (v := .ref pA) (C := RX5) (T := TX5) (N := 7) hx hb hts in_X5_round_X5 hown hK hP 0 rfl rfl 0 (by decide) (hts (.fieldLink RX5 10 "LiveHull" "points" "LLiveHull$Points;") (List.mem_of_getElem? (i := 4) rfl)) (fun _ h9 => h9) rfl dX5_round_20 ?_
    refine lv_aload_n hx hb dX5_round_23 rfl (lv_at hl 0 rfl) ?_
    refine va_get (D := D) (ci := 4) (v := .ref rA) (C := RX5) (T := TX5) (N := 7) hx hb hts in_X5_round_X5 hown hK hP 0 rfl rfl 4 (by decide) (hts (.fieldLink RX5 36 "LiveHull" "ring" "LLiveHull$Ring;") (List.mem_of_getElem? (i := 1) rfl)) (fun _ h9 => h9) rfl dX5_round_24 ?_
    refine lv_iload_n hx hb dX5_round_27 rfl (lv_at hl 1 rfl) ?_
    refine cl_Ui (As := [.int v1]) (rest := [.ref pA]) ⟨hx, hb, hml, hown, hts⟩ (c_X1_rankAt_X4 l D cI cJ cZ cO rA rAr rr_1 rs_1 v1 _ hw) (va_cwU 1 hts gX5_round_X1_rankAt_u133X4 rfl rfl rfl rfl (by decide +kernel) ⟨Nat.le_trans (Nat.le_of_ble_eq_true rfl) hRf, Nat.le_trans (Nat.le_of_ble_eq_true rfl) hRl⟩) hK hP hD hS hA [7, 8] [0, 1, 2, 3, 4, 5, 6] rfl (by decide) rfl (by decide) (by decide) 7 3 rfl rfl rfl hl.1 rfl (Nat.le_of_ble_eq_true rfl) dX5_round_28 ⟨Nat.zero_le _, Nat.zero_le _⟩ (fun r28 _u H locs hw hP hD hS => ?_)
    try dsimp only at hw
    have hP : va_P D vwCl [(HA, .inr (4, [.ref pA, .ref qA, .ref tA, .ref gA, .ref rA, .ref IA, .ref KA])), (pA, .inr (2, [.ref pAd, .ref pAx, .ref pAy, .int pn])), (pAd, .inl (cI, 32, .inl pd)), (pAx, .inl (cI, 32, .inl px)), (pAy, .inl (cI, 32, .inl py)), (tA, .inr (0, [.ref tAr, .int ts_1])), (tAr, .inl (cI, 32, .inl tr_1)), (rA, .inr (3, [.ref rAr, .int rs_1])), (rAr, .inl (cI, 32, .inl rr_1))] H := hP.sub [0, 1, 2, 3, 4, 5, 6, 7, 8] rfl
    have hD : va_D A [(HA, .inr (4, [.ref pA, .ref qA, .ref tA, .ref gA, .ref rA, .ref IA, .ref KA])), (pA, .inr (2, [.ref pAd, .ref pAx, .ref pAy, .int pn])), (pAd, .inl (cI, 32, .inl pd)), (pAx, .inl (cI, 32, .inl px)), (pAy, .inl (cI, 32, .inl py)), (tA, .inr (0, [.ref tAr, .int ts_1])), (tAr, .inl (cI, 32, .inl tr_1)), (rA, .inr (3, [.ref rAr, .int rs_1])), (rAr, .inl (cI, 32, .inl rr_1))] := hD.sub [0, 1, 2, 3, 4, 5, 6, 7, 8] (by decide) rfl
    refine cl_Vi (As := [.int r28]) (rest := []) ⟨hx, hb, hml, hown, hts⟩ (c_X3_idAt l D cI cJ cZ cO pA pAd pAx pAy pd px py pn r28 _ hw) (cwV 1 hts gX5_round_X3_idAt rfl rfl rfl hd_X3_idAt ⟨Nat.le_trans (Nat.le_of_ble_eq_true rfl) hRf, Nat.le_trans (Nat.le_of_ble_eq_true rfl) hRl⟩) hK hP hD hS hA [1, 2, 3, 4] [0, 5, 6, 7, 8] rfl (by decide) rfl (by decide) (by decide) 1 2 rfl rfl rfl hl.1 rfl (Nat.le_of_ble_eq_true rfl) dX5_round_31 ⟨Nat.zero_le _, Nat.zero_le _⟩ (fun r31 _u H locs hw hP hD hS => ?_)
    try dsimp only at hw
    have hP : va_P D vwCl [(HA, .inr (4, [.ref pA, .ref qA, .ref tA, .ref gA, .ref rA, .ref IA, .ref KA])), (pA, .inr (2, [.ref pAd, .ref pAx, .ref pAy, .int pn])), (pAd, .inl (cI, 32, .inl pd)), (pAx, .inl (cI, 32, .inl px)), (pAy, .inl (cI, 32, .inl py)), (tA, .inr (0, [.ref tAr, .int ts_1])), (tAr, .inl (cI, 32, .inl tr_1)), (rA, .inr (3, [.ref rAr, .int rs_1])), (rAr, .inl (cI, 32, .inl rr_1))] H := hP.sub [0, 5, 6, 7, 8, 1, 2, 3, 4] rfl
    have hD : va_D A [(HA, .inr (4, [.ref pA, .ref qA, .ref tA, .ref gA, .ref rA, .ref IA, .ref KA])), (pA, .inr (2, [.ref pAd, .ref pAx, .ref pAy, .int pn])), (pAd, .inl (cI, 32, .inl pd)), (pAx, .inl (cI, 32, .inl px)), (pAy, .inl (cI, 32, .inl py)), (tA, .inr (0, [.ref tAr, .int ts_1])), (tAr, .inl (cI, 32, .inl tr_1)), (rA, .inr (3, [.ref rAr, .int rs_1])), (rAr, .inl (cI, 32, .inl rr_1))] := hD.sub [0, 5, 6, 7, 8, 1, 2, 3, 4] (by decide) rfl
    exact ret _ _ _ _ r31 (tr_1, ts_1, rr_1, rs_1) (vp_nar_int _) hw hP hD hS dX5_round_34
  · have hw := hwB cb
    refine lv_aload_n hx hb dX5_round_9 rfl (lv_at hl 0 rfl) ?_
    refine va_get (D := D) (ci := 4) (v := .ref rA) (C := RX5) (T := TX5) (N := 7) hx hb hts in_X5_round_X5 hown hK hP 0 rfl rfl 4 (by decide) (hts (.fieldLink RX5 36 "LiveHull" "ring" "LLiveHull$Ring;") (List.mem_of_getElem? (i := 1) rfl)) (fun _ h9 => h9) rfl dX5_round_10 ?_
    refine va_get (D := D) (ci := 3) (v := .int rs_1) (C := RX4) (T := TX4) (N := 2) hx hb hts in_X5_round_X4 hown hK hP 7 rfl rfl 1 (by decide) (hts (.fieldLink RX5 130 "LiveHull$Ring" "size" "I") (List.mem_of_getElem? (i := 2) rfl)) (fun x9 h9 => u_same (hts (.sameField "LiveHull$Ring" "LiveHull$Corners" "size" "I") (List.mem_of_getElem? (i := 3) rfl)) x9 h9) rfl dX5_round_13 ?_
    refine lv_goto (tgt := 34) hx hb dX5_round_16 (by decide) ?_
    exact ret _ _ _ _ rs_1 (tr_1, ts_1, rr_1, rs_1) (vp_nar_int _) hw hP hD hS dX5_round_34
theorem in_X5_extreme_X3 : ∀ w ∈ wsX30, w ∈ wsX5_extreme := fun _ h => List.mem_cons_of_mem _ (List.mem_append_left _ (List.mem_append_left _ (List.mem_append_right _ h)))
theorem in_X5_extreme_X5 : ∀ w ∈ wsX50, w ∈ wsX5_extreme := fun _ h => List.mem_cons_of_mem _ (List.mem_append_left _ (List.mem_append_left _ (List.mem_append_left _ (List.mem_append_right _ h))))
theorem hd_X5_extreme : yX5_extreme.cls = RX5 ∧ yX5_extreme.cls ≠ "java/lang/invoke/MethodHandle" ∧ yX5_extreme.cls ≠ "java/lang/invoke/VarHandle" ∧ (parseMethodDescriptor yX5_extreme.desc).map (fun d => d.parameters.length) = some 2 := by decide +kernel
set_option maxHeartbeats 8000000 in
set_option maxRecDepth 100000 in
theorem c_X5_extreme (l : Launch) (D : va_G) (cI cJ cZ cO : ClassId) (HA pA pAd pAx pAy tA tAr rA rAr qA gA IA KA : Nat) (pd : Nat → Int32) (px : Nat → Int32) (py : Nat → Int32) (pn : Int32) (tr : Nat → Int32) (ts : Int32) (rr : Nat → Int32) (rs : Int32) (v1 : Int32) (v2 : Int32) (K : Int32 → (Nat → Int32) → Int32 → (Nat → Int32) → Int32 → Prop) (hw : wp_X5_extreme pd px py pn tr ts rr rs v1 v2 K) : Ci l D (tys4 cI cJ cZ cO) yX5_extreme wsX5_extreme { frames := 4, cells := 0, slots := 0, locals := 104 } [.ref HA, .int v1, .int v2] [(HA, .inr (4, [.ref pA, .ref qA, .ref tA, .ref gA, .ref rA, .ref IA, .ref KA])), (pA, .inr (2, [.ref pAd, .ref pAx, .ref pAy, .int pn])), (pAd, .inl (cI, 32, .inl pd)), (pAx, .inl (cI, 32, .inl px)), (pAy, .inl (cI, 32, .inl py)), (tA, .inr (0, [.ref tAr, .int ts])), (tAr, .inl (cI, 32, .inl tr)), (rA, .inr (3, [.ref rAr, .int rs])), (rAr, .inl (cI, 32, .inl rr))] (fun (r : Int32) (u : (Nat → Int32) × (Int32) × (Nat → Int32) × (Int32)) => K r u.1 u.2.1 u.2.2.1 u.2.2.2) (fun u => [(HA, .inr (4, [.ref pA, .ref qA, .ref tA, .ref gA, .ref rA, .ref IA, .ref KA])), (pA, .inr (2, [.ref pAd, .ref pAx, .ref pAy, .int pn])), (pAd, .inl (cI, 32, .inl pd)), (pAx, .inl (cI, 32, .inl px)), (pAy, .inl (cI, 32, .inl py)), (tA, .inr (0, [.ref tAr, .int u.2.1])), (tAr, .inl (cI, 32, .inl u.1)), (rA, .inr (3, [.ref rAr, .int u.2.2.2])), (rAr, .inl (cI, 32, .inl u.2.2.1))]) := by
  refine mt_i (cc := cX5_extreme) (maxL := 3) (rt := .int) (by decide) rfl (Nat.le_of_ble_eq_true rfl) ?_
  intro p e s m args below meth c Q A R ls hRf hRl hx hb hml hown hts hK hA hP hD hS hl ret
  have hown : s.vm.findClass RX5 = some m.cls := hown
  have hl : lv_has ls 3 [(0, .ref HA), (1, .int v1), (2, .int v2)] := hl
  have N32 : ∀ (tr : Nat → Int32) (ts : Int32) (rr : Nat → Int32) (rs : Int32), wp_X5_extreme_32 pd px py pn v1 v2 K  tr ts rr rs → ∀ (H : Heap) (locs : List Loc) (ls : Array Slot), va_P D vwCl [(HA, .inr (4, [.ref pA, .ref qA, .ref tA, .ref gA, .ref rA, .ref IA, .ref KA])), (pA, .inr (2, [.ref pAd, .ref pAx, .ref pAy, .int pn])), (pAd, .inl (cI, 32, .inl pd)), (pAx, .inl (cI, 32, .inl px)), (pAy, .inl (cI, 32, .inl py)), (tA, .inr (0, [.ref tAr, .int ts])), (tAr, .inl (cI, 32, .inl tr)), (rA, .inr (3, [.ref rAr, .int rs])), (rAr, .inl (cI, 32, .inl rr))] H → va_D A [(HA, .inr (4, [.ref pA, .ref qA, .ref tA, .ref gA, .ref rA, .ref IA, .ref KA])), (pA, .inr (2, [.ref pAd, .ref pAx, .ref pAy, .int pn])), (pAd, .inl (cI, 32, .inl pd)), (pAx, .inl (cI, 32, .inl px)), (pAy, .inl (cI, 32, .inl py)), (tA, .inr (0, [.ref tAr, .int ts])), (tAr, .inl (cI, 32, .inl tr)), (rA, .inr (3, [.ref rAr, .int rs])), (rAr, .inl (cI, 32, .inl rr))] → va_S A s.heap H locs → lv_has ls 3 [(0, .ref HA), (1, .int v1), (2, .int v2)] → W p l e R s m args below meth c H locs 0 0 Q (F0 m 32 ls []) := by
    intro tr ts rr rs hw H locs ls hP hD hS hl
    unfold wp_X5_extreme_32 at hw
    refine lv_aload_n hx hb dX5_extreme_32 rfl (lv_at hl 0 rfl) ?_
    refine cl_Vv (As := []) (rest := []) ⟨hx, hb, hml, hown, hts⟩ (c_X5_gatherRing l D cI cJ cZ cO HA pA pAd pAx pAy tA tAr rA rAr qA gA IA KA pd px py pn tr ts rr rs  _ hw) (cwV 0 hts gX5_extreme_X5_gatherRing rfl rfl rfl hd_X5_gatherRing ⟨Nat.le_trans (Nat.le_of_ble_eq_true rfl) hRf, Nat.le_trans (Nat.le_of_ble_eq_true rfl) hRl⟩) hK hP hD hS hA [0, 1, 2, 3, 4, 5, 6, 7, 8] [] rfl (by decide) rfl (by decide) (by decide) 0 4 rfl rfl rfl hl.1 rfl (Nat.le_of_ble_eq_true rfl) dX5_extreme_33 ⟨Nat.zero_le _, Nat.zero_le _⟩ (fun u H locs hw hP hD hS => ?_)
    obtain ⟨tr_33, ts_33, rr_33, rs_33⟩ := u
    try dsimp only at hw
    have hP : va_P D vwCl [(HA, .inr (4, [.ref pA, .ref qA, .ref tA, .ref gA, .ref rA, .ref IA, .ref KA])), (pA, .inr (2, [.ref pAd, .ref pAx, .ref pAy, .int pn])), (pAd, .inl (cI, 32, .inl pd)), (pAx, .inl (cI, 32, .inl px)), (pAy, .inl (cI, 32, .inl py)), (tA, .inr (0, [.ref tAr, .int ts_33])), (tAr, .inl (cI, 32, .inl tr_33)), (rA, .inr (3, [.ref rAr, .int rs_33])), (rAr, .inl (cI, 32, .inl rr_33))] H := hP.sub [0, 1, 2, 3, 4, 5, 6, 7, 8] rfl
    have hD : va_D A [(HA, .inr (4, [.ref pA, .ref qA, .ref tA, .ref gA, .ref rA, .ref IA, .ref KA])), (pA, .inr (2, [.ref pAd, .ref pAx, .ref pAy, .int pn])), (pAd, .inl (cI, 32, .inl pd)), (pAx, .inl (cI, 32, .inl px)), (pAy, .inl (cI, 32, .inl py)), (tA, .inr (0, [.ref tAr, .int ts_33])), (tAr, .inl (cI, 32, .inl tr_33)), (rA, .inr (3, [.ref rAr, .int rs_33])), (rAr, .inl (cI, 32, .inl rr_33))] := hD.sub [0, 1, 2, 3, 4, 5, 6, 7, 8] (by decide) rfl
    refine lv_aload_n hx hb dX5_extreme_36 rfl (lv_at hl 0 rfl) ?_
    refine va_get (D := D) (ci := 4) (v := .ref pA) (C := RX5) (T := TX5) (N := 7) hx hb hts in_X5_extreme_X5 hown hK hP 0 rfl rfl 0 (by decide) (hts (.fieldLink RX5 10 "LiveHull" "points" "LLiveHull$Points;") (List.mem_of_getElem? (i := 1) rfl)) (fun _ h9 => h9) rfl dX5_extreme_37 ?_
    refine lv_aload_n hx hb dX5_extreme_40 rfl (lv_at hl 0 rfl) ?_
    refine va_get (D := D) (ci := 4) (v := .ref rA) (C := RX5) (T := TX5) (N := 7) hx hb hts in_X5_extreme_X5 hown hK hP 0 rfl rfl 4 (by decide) (hts (.fieldLink RX5 36 "LiveHull" "ring" "LLiveHull$Ring;") (List.mem_of_getElem? (i := 3) rfl)) (fun _ h9 => h9) rfl dX5_extreme_41 ?_
    refine lv_aload_n hx hb dX5_extreme_44 rfl (lv_at hl 0 rfl) ?_
    refine va_get (D := D) (ci := 4) (v := .ref pA) (C := RX5) (T := TX5) (N := 7) hx hb hts in_X5_extreme_X5 hown hK hP 0 rfl rfl 0 (by decide) (hts (.fieldLink RX5 10 "LiveHull" "points" "LLiveHull$Points;") (List.mem_of_getElem? (i := 1) rfl)) (fun _ h9 => h9) rfl dX5_extreme_45 ?_
    refine lv_iload_n hx hb dX5_extreme_48 rfl (lv_at hl 1 rfl) ?_
    refine lv_iload_n hx hb dX5_extreme_49 rfl (lv_at hl 2 rfl) ?_
    refine cl_Vi (As := [.ref pA, .int v1, .int v2]) (rest := [.ref pA]) ⟨hx, hb, hml, hown, hts⟩ (c_X4_farthest l D cI cJ cZ cO rA rAr pA pAd pAx pAy rr_33 rs_33 pd px py pn v1 v2 _ hw) (cwV 3 hts gX5_extreme_X4_farthest rfl rfl rfl hd_X4_farthest ⟨Nat.le_trans (Nat.le_of_ble_eq_true rfl) hRf, Nat.le_trans (Nat.le_of_ble_eq_true rfl) hRl⟩) hK hP hD hS hA [7, 8, 1, 2, 3, 4] [0, 5, 6] rfl (by decide) rfl (by decide) (by decide) 7 3 rfl rfl rfl hl.1 rfl (Nat.le_of_ble_eq_true rfl) dX5_extreme_50 ⟨Nat.zero_le _, Nat.zero_le _⟩ (fun r50 _u H locs hw hP hD hS => ?_)
    try dsimp only at hw
    have hP : va_P D vwCl [(HA, .inr (4, [.ref pA, .ref qA, .ref tA, .ref gA, .ref rA, .ref IA, .ref KA])), (pA, .inr (2, [.ref pAd, .ref pAx, .ref pAy, .int pn])), (pAd, .inl (cI, 32, .inl pd)), (pAx, .inl (cI, 32, .inl px)), (pAy, .inl (cI, 32, .inl py)), (tA, .inr (0, [.ref tAr, .int ts_33])), (tAr, .inl (cI, 32, .inl tr_33)), (rA, .inr (3, [.ref rAr, .int rs_33])), (rAr, .inl (cI, 32, .inl rr_33))] H := hP.sub [0, 5, 6, 7, 8, 1, 2, 3, 4] rfl
    have hD : va_D A [(HA, .inr (4, [.ref pA, .ref qA, .ref tA, .ref gA, .ref rA, .ref IA, .ref KA])), (pA, .inr (2, [.ref pAd, .ref pAx, .ref pAy, .int pn])), (pAd, .inl (cI, 32, .inl pd)), (pAx, .inl (cI, 32, .inl px)), (pAy, .inl (cI, 32, .inl py)), (tA, .inr (0, [.ref tAr, .int ts_33])), (tAr, .inl (cI, 32, .inl tr_33)), (rA, .inr (3, [.ref rAr, .int rs_33])), (rAr, .inl (cI, 32, .inl rr_33))] := hD.sub [0, 5, 6, 7, 8, 1, 2, 3, 4] (by decide) rfl
    refine cl_Vi (As := [.int r50]) (rest := []) ⟨hx, hb, hml, hown, hts⟩ (c_X3_idAt l D cI cJ cZ cO pA pAd pAx pAy pd px py pn r50 _ hw) (cwV 1 hts gX5_extreme_X3_idAt rfl rfl rfl hd_X3_idAt ⟨Nat.le_trans (Nat.le_of_ble_eq_true rfl) hRf, Nat.le_trans (Nat.le_of_ble_eq_true rfl) hRl⟩) hK hP hD hS hA [1, 2, 3, 4] [0, 5, 6, 7, 8] rfl (by decide) rfl (by decide) (by decide) 1 2 rfl rfl rfl hl.1 rfl (Nat.le_of_ble_eq_true rfl) dX5_extreme_53 ⟨Nat.zero_le _, Nat.zero_le _⟩ (fun r53 _u H locs hw hP hD hS => ?_)
    try dsimp only at hw
    have hP : va_P D vwCl [(HA, .inr (4, [.ref pA, .ref qA, .ref tA, .ref gA, .ref rA, .ref IA, .ref KA])), (pA, .inr (2, [.ref pAd, .ref pAx, .ref pAy, .int pn])), (pAd, .inl (cI, 32, .inl pd)), (pAx, .inl (cI, 32, .inl px)), (pAy, .inl (cI, 32, .inl py)), (tA, .inr (0, [.ref tAr, .int ts_33])), (tAr, .inl (cI, 32, .inl tr_33)), (rA, .inr (3, [.ref rAr, .int rs_33])), (rAr, .inl (cI, 32, .inl rr_33))] H := hP.sub [0, 5, 6, 7, 8, 1, 2, 3, 4] rfl
    have hD : va_D A [(HA, .inr (4, [.ref pA, .ref qA, .ref tA, .ref gA, .ref rA, .ref IA, .ref KA])), (pA, .inr (2, [.ref pAd, .ref pAx, .ref pAy, .int pn])), (pAd, .inl (cI, 32, .inl pd)), (pAx, .inl (cI, 32, .inl px)), (pAy, .inl (cI, 32, .inl py)), (tA, .inr (0, [.ref tAr, .int ts_33])), (tAr, .inl (cI, 32, .inl tr_33)), (rA, .inr (3, [.ref rAr, .int rs_33])), (rAr, .inl (cI, 32, .inl rr_33))] := hD.sub [0, 5, 6, 7, 8, 1, 2, 3, 4] (by decide) rfl
    exact ret _ _ _ _ r53 (tr_33, ts_33, rr_33, rs_33) (vp_nar_int _) hw hP hD hS dX5_extreme_56
  unfold wp_X5_extreme at hw
  refine lv_iload_n hx hb dX5_extreme_0 rfl (lv_at hl 1 rfl) ?_
  refine lv_iload_n hx hb dX5_extreme_1 rfl (lv_at hl 2 rfl) ?_
  refine cl_Si (As := [.int v1, .int v2]) (rest := []) ⟨hx, hb, hml, hown, hts⟩ (c_X5_isPlace l D cI cJ cZ cO   v1 v2 _ hw) (va_cwS 2 hts gX5_extreme_X5_isPlace rfl rfl rfl hd_X5_isPlace.2 ⟨Nat.le_trans (Nat.le_of_ble_eq_true rfl) hRf, Nat.le_trans (Nat.le_of_ble_eq_true rfl) hRl⟩) hK hP hD hS hA [] [0, 1, 2, 3, 4, 5, 6, 7, 8] rfl (by decide) rfl (by decide) (by decide) rfl hl.1 rfl (Nat.le_of_ble_eq_true rfl) dX5_extreme_2 ⟨Nat.zero_le _, Nat.zero_le _⟩ (fun r2 _u H locs hw hP hD hS => ?_)
  try dsimp only at hw
  have hP : va_P D vwCl [(HA, .inr (4, [.ref pA, .ref qA, .ref tA, .ref gA, .ref rA, .ref IA, .ref KA])), (pA, .inr (2, [.ref pAd, .ref pAx, .ref pAy, .int pn])), (pAd, .inl (cI, 32, .inl pd)), (pAx, .inl (cI, 32, .inl px)), (pAy, .inl (cI, 32, .inl py)), (tA, .inr (0, [.ref tAr, .int ts])), (tAr, .inl (cI, 32, .inl tr)), (rA, .inr (3, [.ref rAr, .int rs])), (rAr, .inl (cI, 32, .inl rr))] H := hP.sub [0, 1, 2, 3, 4, 5, 6, 7, 8] rfl
  have hD : va_D A [(HA, .inr (4, [.ref pA, .ref qA, .ref tA, .ref gA, .ref rA, .ref IA, .ref KA])), (pA, .inr (2, [.ref pAd, .ref pAx, .ref pAy, .int pn])), (pAd, .inl (cI, 32, .inl pd)), (pAx, .inl (cI, 32, .inl px)), (pAy, .inl (cI, 32, .inl py)), (tA, .inr (0, [.ref tAr, .int ts])), (tAr, .inl (cI, 32, .inl tr)), (rA, .inr (3, [.ref rAr, .int rs])), (rAr, .inl (cI, 32, .inl rr))] := hD.sub [0, 1, 2, 3, 4, 5, 6, 7, 8] (by decide) rfl
  obtain ⟨hwA, hwB⟩ := hw
  refine lv_if_ne (tgt := 11) hx hb dX5_extreme_5 (by decide) (fun cb => ?_) (fun cb => ?_)
  · have hw := hwA cb
    refine lv_aload_n hx hb dX5_extreme_11 rfl (lv_at hl 0 rfl) ?_
    refine va_get (D := D) (ci := 4) (v := .ref pA) (C := RX5) (T := TX5) (N := 7) hx hb hts in_X5_extreme_X5 hown hK hP 0 rfl rfl 0 (by decide) (hts (.fieldLink RX5 10 "LiveHull" "points" "LLiveHull$Points;") (List.mem_of_getElem? (i := 1) rfl)) (fun _ h9 => h9) rfl dX5_extreme_12 ?_
    refine va_get (D := D) (ci := 2) (v := .int pn) (C := RX3) (T := TX3) (N := 4) hx hb hts in_X5_extreme_X3 hown hK hP 1 rfl rfl 3 (by decide) (hts (.fieldLink RX5 63 "LiveHull$Points" "count" "I") (List.mem_of_getElem? (i := 2) rfl)) (fun _ h9 => h9) rfl dX5_extreme_15 ?_
    obtain ⟨hwA, hwB⟩ := hw
    refine lv_if_eq (tgt := 29) hx hb dX5_extreme_18 (by decide) (fun cb => ?_) (fun cb => ?_)
    · have hw := hwA cb
      refine lv_bipush (v := (-5)) hx hb dX5_extreme_29 (by decide) ?_
      exact ret _ _ _ _ (-5) (tr, ts, rr, rs) (vp_nar_int _) hw hP hD hS dX5_extreme_31
    · have hw := hwB cb
      refine lv_iload_n hx hb dX5_extreme_21 rfl (lv_at hl 1 rfl) ?_
      obtain ⟨hwA, hwB⟩ := hw
      refine lv_if_ne (tgt := 32) hx hb dX5_extreme_22 (by decide) (fun cb => ?_) (fun cb => ?_)
      · have hw := hwA cb
        exact N32 tr ts rr rs hw _ _ _ hP hD hS (lv_sub hl [0, 1, 2] rfl)
      · have hw := hwB cb
        refine lv_iload_n hx hb dX5_extreme_25 rfl (lv_at hl 2 rfl) ?_
        obtain ⟨hwA, hwB⟩ := hw
        refine lv_if_ne (tgt := 32) hx hb dX5_extreme_26 (by decide) (fun cb => ?_) (fun cb => ?_)
        · have hw := hwA cb
          exact N32 tr ts rr rs hw _ _ _ hP hD hS (lv_sub hl [0, 1, 2] rfl)
        · have hw := hwB cb
          refine lv_bipush (v := (-5)) hx hb dX5_extreme_29 (by decide) ?_
          exact ret _ _ _ _ (-5) (tr, ts, rr, rs) (vp_nar_int _) hw hP hD hS dX5_extreme_31
  · have hw := hwB cb
    refine lv_bipush (v := (-2)) hx hb dX5_extreme_8 (by decide) ?_
    exact ret _ _ _ _ (-2) (tr, ts, rr, rs) (vp_nar_int _) hw hP hD hS dX5_extreme_10
theorem in_X5_where_X5 : ∀ w ∈ wsX50, w ∈ wsX5_where := fun _ h => List.mem_cons_of_mem _ (List.mem_append_left _ (List.mem_append_left _ (List.mem_append_left _ (List.mem_append_right _ h))))
theorem hd_X5_where : yX5_where.cls = RX5 ∧ yX5_where.cls ≠ "java/lang/invoke/MethodHandle" ∧ yX5_where.cls ≠ "java/lang/invoke/VarHandle" ∧ (parseMethodDescriptor yX5_where.desc).map (fun d => d.parameters.length) = some 2 := by decide +kernel
set_option maxHeartbeats 8000000 in
set_option maxRecDepth 100000 in
theorem c_X5_where (l : Launch) (D : va_G) (cI cJ cZ cO : ClassId) (HA pA pAd pAx pAy tA tAr rA rAr qA gA IA KA : Nat) (pd : Nat → Int32) (px : Nat → Int32) (py : Nat → Int32) (pn : Int32) (tr : Nat → Int32) (ts : Int32) (rr : Nat → Int32) (rs : Int32) (v1 : Int32) (v2 : Int32) (K : Int32 → (Nat → Int32) → Int32 → (Nat → Int32) → Int32 → Prop) (hw : wp_X5_where px py pn tr ts rr rs v1 v2 K) : Ci l D (tys4 cI cJ cZ cO) yX5_where wsX5_where { frames := 4, cells := 0, slots := 0, locals := 104 } [.ref HA, .int v1, .int v2] [(HA, .inr (4, [.ref pA, .ref qA, .ref tA, .ref gA, .ref rA, .ref IA, .ref KA])), (pA, .inr (2, [.ref pAd, .ref pAx, .ref pAy, .int pn])), (pAd, .inl (cI, 32, .inl pd)), (pAx, .inl (cI, 32, .inl px)), (pAy, .inl (cI, 32, .inl py)), (tA, .inr (0, [.ref tAr, .int ts])), (tAr, .inl (cI, 32, .inl tr)), (rA, .inr (3, [.ref rAr, .int rs])), (rAr, .inl (cI, 32, .inl rr))] (fun (r : Int32) (u : (Nat → Int32) × (Int32) × (Nat → Int32) × (Int32)) => K r u.1 u.2.1 u.2.2.1 u.2.2.2) (fun u => [(HA, .inr (4, [.ref pA, .ref qA, .ref tA, .ref gA, .ref rA, .ref IA, .ref KA])), (pA, .inr (2, [.ref pAd, .ref pAx, .ref pAy, .int pn])), (pAd, .inl (cI, 32, .inl pd)), (pAx, .inl (cI, 32, .inl px)), (pAy, .inl (cI, 32, .inl py)), (tA, .inr (0, [.ref tAr, .int u.2.1])), (tAr, .inl (cI, 32, .inl u.1)), (rA, .inr (3, [.ref rAr, .int u.2.2.2])), (rAr, .inl (cI, 32, .inl u.2.2.1))]) := by
  refine mt_i (cc := cX5_where) (maxL := 3) (rt := .int) (by decide) rfl (Nat.le_of_ble_eq_true rfl) ?_
  intro p e s m args below meth c Q A R ls hRf hRl hx hb hml hown hts hK hA hP hD hS hl ret
  have hown : s.vm.findClass RX5 = some m.cls := hown
  have hl : lv_has ls 3 [(0, .ref HA), (1, .int v1), (2, .int v2)] := hl
  unfold wp_X5_where at hw
  refine lv_iload_n hx hb dX5_where_0 rfl (lv_at hl 1 rfl) ?_
  refine lv_iload_n hx hb dX5_where_1 rfl (lv_at hl 2 rfl) ?_
  refine cl_Si (As := [.int v1, .int v2]) (rest := []) ⟨hx, hb, hml, hown, hts⟩ (c_X5_isPlace l D cI cJ cZ cO   v1 v2 _ hw) (va_cwS 2 hts gX5_where_X5_isPlace rfl rfl rfl hd_X5_isPlace.2 ⟨Nat.le_trans (Nat.le_of_ble_eq_true rfl) hRf, Nat.le_trans (Nat.le_of_ble_eq_true rfl) hRl⟩) hK hP hD hS hA [] [0, 1, 2, 3, 4, 5, 6, 7, 8] rfl (by decide) rfl (by decide) (by decide) rfl hl.1 rfl (Nat.le_of_ble_eq_true rfl) dX5_where_2 ⟨Nat.zero_le _, Nat.zero_le _⟩ (fun r2 _u H locs hw hP hD hS => ?_)
  try dsimp only at hw
  have hP : va_P D vwCl [(HA, .inr (4, [.ref pA, .ref qA, .ref tA, .ref gA, .ref rA, .ref IA, .ref KA])), (pA, .inr (2, [.ref pAd, .ref pAx, .ref pAy, .int pn])), (pAd, .inl (cI, 32, .inl pd)), (pAx, .inl (cI, 32, .inl px)), (pAy, .inl (cI, 32, .inl py)), (tA, .inr (0, [.ref tAr, .int ts])), (tAr, .inl (cI, 32, .inl tr)), (rA, .inr (3, [.ref rAr, .int rs])), (rAr, .inl (cI, 32, .inl rr))] H := hP.sub [0, 1, 2, 3, 4, 5, 6, 7, 8] rfl
  have hD : va_D A [(HA, .inr (4, [.ref pA, .ref qA, .ref tA, .ref gA, .ref rA, .ref IA, .ref KA])), (pA, .inr (2, [.ref pAd, .ref pAx, .ref pAy, .int pn])), (pAd, .inl (cI, 32, .inl pd)), (pAx, .inl (cI, 32, .inl px)), (pAy, .inl (cI, 32, .inl py)), (tA, .inr (0, [.ref tAr, .int ts])), (tAr, .inl (cI, 32, .inl tr)), (rA, .inr (3, [.ref rAr, .int rs])), (rAr, .inl (cI, 32, .inl rr))] := hD.sub [0, 1, 2, 3, 4, 5, 6, 7, 8] (by decide) rfl
  obtain ⟨hwA, hwB⟩ := hw
  refine lv_if_ne (tgt := 11) hx hb dX5_where_5 (by decide) (fun cb => ?_) (fun cb => ?_)
  · have hw := hwA cb
    refine lv_aload_n hx hb dX5_where_11 rfl (lv_at hl 0 rfl) ?_
    refine cl_Vv (As := []) (rest := []) ⟨hx, hb, hml, hown, hts⟩ (c_X5_gatherRing l D cI cJ cZ cO HA pA pAd pAx pAy tA tAr rA rAr qA gA IA KA pd px py pn tr ts rr rs  _ hw) (cwV 0 hts gX5_where_X5_gatherRing rfl rfl rfl hd_X5_gatherRing ⟨Nat.le_trans (Nat.le_of_ble_eq_true rfl) hRf, Nat.le_trans (Nat.le_of_ble_eq_true rfl) hRl⟩) hK hP hD hS hA [0, 1, 2, 3, 4, 5, 6, 7, 8] [] rfl (by decide) rfl (by decide) (by decide) 0 4 rfl rfl rfl hl.1 rfl (Nat.le_of_ble_eq_true rfl) dX5_where_12 ⟨Nat.zero_le _, Nat.zero_le _⟩ (fun u H locs hw hP hD hS => ?_)
    obtain ⟨tr_12, ts_12, rr_12, rs_12⟩ := u
    try dsimp only at hw
    have hP : va_P D vwCl [(HA, .inr (4, [.ref pA, .ref qA, .ref tA, .ref gA, .ref rA, .ref IA, .ref KA])), (pA, .inr (2, [.ref pAd, .ref pAx, .ref pAy, .int pn])), (pAd, .inl (cI, 32, .inl pd)), (pAx, .inl (cI, 32, .inl px)), (pAy, .inl (cI, 32, .inl py)), (tA, .inr (0, [.ref tAr, .int ts_12])), (tAr, .inl (cI, 32, .inl tr_12)), (rA, .inr (3, [.ref rAr, .int rs_12])), (rAr, .inl (cI, 32, .inl rr_12))] H := hP.sub [0, 1, 2, 3, 4, 5, 6, 7, 8] rfl
    have hD : va_D A [(HA, .inr (4, [.ref pA, .ref qA, .ref tA, .ref gA, .ref rA, .ref IA, .ref KA])), (pA, .inr (2, [.ref pAd, .ref pAx, .ref pAy, .int pn])), (pAd, .inl (cI, 32, .inl pd)), (pAx, .inl (cI, 32, .inl px)), (pAy, .inl (cI, 32, .inl py)), (tA, .inr (0, [.ref tAr, .int ts_12])), (tAr, .inl (cI, 32, .inl tr_12)), (rA, .inr (3, [.ref rAr, .int rs_12])), (rAr, .inl (cI, 32, .inl rr_12))] := hD.sub [0, 1, 2, 3, 4, 5, 6, 7, 8] (by decide) rfl
    refine lv_aload_n hx hb dX5_where_15 rfl (lv_at hl 0 rfl) ?_
    refine va_get (D := D) (ci := 4) (v := .ref rA) (C := RX5) (T := TX5) (N := 7) hx hb hts in_X5_where_X5 hown hK hP 0 rfl rfl 4 (by decide) (hts (.fieldLink RX5 36 "LiveHull" "ring" "LLiveHull$Ring;") (List.mem_of_getElem? (i := 1) rfl)) (fun _ h9 => h9) rfl dX5_where_16 ?_
    refine lv_aload_n hx hb dX5_where_19 rfl (lv_at hl 0 rfl) ?_
    refine va_get (D := D) (ci := 4) (v := .ref pA) (C := RX5) (T := TX5) (N := 7) hx hb hts in_X5_where_X5 hown hK hP 0 rfl rfl 0 (by decide) (hts (.fieldLink RX5 10 "LiveHull" "points" "LLiveHull$Points;") (List.mem_of_getElem? (i := 2) rfl)) (fun _ h9 => h9) rfl dX5_where_20 ?_
    refine lv_iload_n hx hb dX5_where_23 rfl (lv_at hl 1 rfl) ?_
    refine lv_iload_n hx hb dX5_where_24 rfl (lv_at hl 2 rfl) ?_
    refine cl_Vi (As := [.ref pA, .int v1, .int v2]) (rest := []) ⟨hx, hb, hml, hown, hts⟩ (c_X4_locate l D cI cJ cZ cO rA rAr pA pAd pAx pAy rr_12 rs_12 pd px py pn v1 v2 _ hw) (cwV 3 hts gX5_where_X4_locate rfl rfl rfl hd_X4_locate ⟨Nat.le_trans (Nat.le_of_ble_eq_true rfl) hRf, Nat.le_trans (Nat.le_of_ble_eq_true rfl) hRl⟩) hK hP hD hS hA [7, 8, 1, 2, 3, 4] [0, 5, 6] rfl (by decide) rfl (by decide) (by decide) 7 3 rfl rfl rfl hl.1 rfl (Nat.le_of_ble_eq_true rfl) dX5_where_25 ⟨Nat.zero_le _, Nat.zero_le _⟩ (fun r25 _u H locs hw hP hD hS => ?_)
    try dsimp only at hw
    have hP : va_P D vwCl [(HA, .inr (4, [.ref pA, .ref qA, .ref tA, .ref gA, .ref rA, .ref IA, .ref KA])), (pA, .inr (2, [.ref pAd, .ref pAx, .ref pAy, .int pn])), (pAd, .inl (cI, 32, .inl pd)), (pAx, .inl (cI, 32, .inl px)), (pAy, .inl (cI, 32, .inl py)), (tA, .inr (0, [.ref tAr, .int ts_12])), (tAr, .inl (cI, 32, .inl tr_12)), (rA, .inr (3, [.ref rAr, .int rs_12])), (rAr, .inl (cI, 32, .inl rr_12))] H := hP.sub [0, 5, 6, 7, 8, 1, 2, 3, 4] rfl
    have hD : va_D A [(HA, .inr (4, [.ref pA, .ref qA, .ref tA, .ref gA, .ref rA, .ref IA, .ref KA])), (pA, .inr (2, [.ref pAd, .ref pAx, .ref pAy, .int pn])), (pAd, .inl (cI, 32, .inl pd)), (pAx, .inl (cI, 32, .inl px)), (pAy, .inl (cI, 32, .inl py)), (tA, .inr (0, [.ref tAr, .int ts_12])), (tAr, .inl (cI, 32, .inl tr_12)), (rA, .inr (3, [.ref rAr, .int rs_12])), (rAr, .inl (cI, 32, .inl rr_12))] := hD.sub [0, 5, 6, 7, 8, 1, 2, 3, 4] (by decide) rfl
    exact ret _ _ _ _ r25 (tr_12, ts_12, rr_12, rs_12) (vp_nar_int _) hw hP hD hS dX5_where_28
  · have hw := hwB cb
    refine lv_bipush (v := (-2)) hx hb dX5_where_8 (by decide) ?_
    exact ret _ _ _ _ (-2) (tr, ts, rr, rs) (vp_nar_int _) hw hP hD hS dX5_where_10
theorem in_X5_touch_X3 : ∀ w ∈ wsX30, w ∈ wsX5_touch := fun _ h => List.mem_cons_of_mem _ (List.mem_append_left _ (List.mem_append_left _ (List.mem_append_right _ h)))
theorem in_X5_touch_X5 : ∀ w ∈ wsX50, w ∈ wsX5_touch := fun _ h => List.mem_cons_of_mem _ (List.mem_append_left _ (List.mem_append_left _ (List.mem_append_left _ (List.mem_append_right _ h))))
theorem hd_X5_touch : yX5_touch.cls = RX5 ∧ yX5_touch.cls ≠ "java/lang/invoke/MethodHandle" ∧ yX5_touch.cls ≠ "java/lang/invoke/VarHandle" ∧ (parseMethodDescriptor yX5_touch.desc).map (fun d => d.parameters.length) = some 3 := by decide +kernel
set_option maxHeartbeats 8000000 in
set_option maxRecDepth 100000 in
theorem c_X5_touch (l : Launch) (D : va_G) (cI cJ cZ cO : ClassId) (HA pA pAd pAx pAy tA tAr rA rAr qA gA IA KA : Nat) (pd : Nat → Int32) (px : Nat → Int32) (py : Nat → Int32) (pn : Int32) (tr : Nat → Int32) (ts : Int32) (rr : Nat → Int32) (rs : Int32) (v1 : Int32) (v2 : Int32) (v3 : Int32) (K : Int32 → (Nat → Int32) → Int32 → (Nat → Int32) → Int32 → Prop) (hw : wp_X5_touch pd px py pn tr ts rr rs v1 v2 v3 K) : Ci l D (tys4 cI cJ cZ cO) yX5_touch wsX5_touch { frames := 4, cells := 0, slots := 0, locals := 104 } [.ref HA, .int v1, .int v2, .int v3] [(HA, .inr (4, [.ref pA, .ref qA, .ref tA, .ref gA, .ref rA, .ref IA, .ref KA])), (pA, .inr (2, [.ref pAd, .ref pAx, .ref pAy, .int pn])), (pAd, .inl (cI, 32, .inl pd)), (pAx, .inl (cI, 32, .inl px)), (pAy, .inl (cI, 32, .inl py)), (tA, .inr (0, [.ref tAr, .int ts])), (tAr, .inl (cI, 32, .inl tr)), (rA, .inr (3, [.ref rAr, .int rs])), (rAr, .inl (cI, 32, .inl rr))] (fun (r : Int32) (u : (Nat → Int32) × (Int32) × (Nat → Int32) × (Int32)) => K r u.1 u.2.1 u.2.2.1 u.2.2.2) (fun u => [(HA, .inr (4, [.ref pA, .ref qA, .ref tA, .ref gA, .ref rA, .ref IA, .ref KA])), (pA, .inr (2, [.ref pAd, .ref pAx, .ref pAy, .int pn])), (pAd, .inl (cI, 32, .inl pd)), (pAx, .inl (cI, 32, .inl px)), (pAy, .inl (cI, 32, .inl py)), (tA, .inr (0, [.ref tAr, .int u.2.1])), (tAr, .inl (cI, 32, .inl u.1)), (rA, .inr (3, [.ref rAr, .int u.2.2.2])), (rAr, .inl (cI, 32, .inl u.2.2.1))]) := by
  refine mt_i (cc := cX5_touch) (maxL := 4) (rt := .int) (by decide) rfl (Nat.le_of_ble_eq_true rfl) ?_
  intro p e s m args below meth c Q A R ls hRf hRl hx hb hml hown hts hK hA hP hD hS hl ret
  have hown : s.vm.findClass RX5 = some m.cls := hown
  have hl : lv_has ls 4 [(0, .ref HA), (1, .int v1), (2, .int v2), (3, .int v3)] := hl
  unfold wp_X5_touch at hw
  refine lv_iload_n hx hb dX5_touch_0 rfl (lv_at hl 1 rfl) ?_
  refine lv_iload_n hx hb dX5_touch_1 rfl (lv_at hl 2 rfl) ?_
  refine cl_Si (As := [.int v1, .int v2]) (rest := []) ⟨hx, hb, hml, hown, hts⟩ (c_X5_isPlace l D cI cJ cZ cO   v1 v2 _ hw) (va_cwS 2 hts gX5_touch_X5_isPlace rfl rfl rfl hd_X5_isPlace.2 ⟨Nat.le_trans (Nat.le_of_ble_eq_true rfl) hRf, Nat.le_trans (Nat.le_of_ble_eq_true rfl) hRl⟩) hK hP hD hS hA [] [0, 1, 2, 3, 4, 5, 6, 7, 8] rfl (by decide) rfl (by decide) (by decide) rfl hl.1 rfl (Nat.le_of_ble_eq_true rfl) dX5_touch_2 ⟨Nat.zero_le _, Nat.zero_le _⟩ (fun r2 _u H locs hw hP hD hS => ?_)
  try dsimp only at hw
  have hP : va_P D vwCl [(HA, .inr (4, [.ref pA, .ref qA, .ref tA, .ref gA, .ref rA, .ref IA, .ref KA])), (pA, .inr (2, [.ref pAd, .ref pAx, .ref pAy, .int pn])), (pAd, .inl (cI, 32, .inl pd)), (pAx, .inl (cI, 32, .inl px)), (pAy, .inl (cI, 32, .inl py)), (tA, .inr (0, [.ref tAr, .int ts])), (tAr, .inl (cI, 32, .inl tr)), (rA, .inr (3, [.ref rAr, .int rs])), (rAr, .inl (cI, 32, .inl rr))] H := hP.sub [0, 1, 2, 3, 4, 5, 6, 7, 8] rfl
  have hD : va_D A [(HA, .inr (4, [.ref pA, .ref qA, .ref tA, .ref gA, .ref rA, .ref IA, .ref KA])), (pA, .inr (2, [.ref pAd, .ref pAx, .ref pAy, .int pn])), (pAd, .inl (cI, 32, .inl pd)), (pAx, .inl (cI, 32, .inl px)), (pAy, .inl (cI, 32, .inl py)), (tA, .inr (0, [.ref tAr, .int ts])), (tAr, .inl (cI, 32, .inl tr)), (rA, .inr (3, [.ref rAr, .int rs])), (rAr, .inl (cI, 32, .inl rr))] := hD.sub [0, 1, 2, 3, 4, 5, 6, 7, 8] (by decide) rfl
  obtain ⟨hwA, hwB⟩ := hw
  refine lv_if_eq (tgt := 15) hx hb dX5_touch_5 (by decide) (fun cb => ?_) (fun cb => ?_)
  · have hw := hwA cb
    refine lv_bipush (v := (-2)) hx hb dX5_touch_15 (by decide) ?_
    exact ret _ _ _ _ (-2) (tr, ts, rr, rs) (vp_nar_int _) hw hP hD hS dX5_touch_17
  · have hw := hwB cb
    refine lv_iload_n hx hb dX5_touch_8 rfl (lv_at hl 3 rfl) ?_
    refine cl_Si (As := [.int v3]) (rest := []) ⟨hx, hb, hml, hown, hts⟩ (c_X5_isSide l D cI cJ cZ cO   v3 _ hw) (va_cwS 1 hts gX5_touch_X5_isSide rfl rfl rfl hd_X5_isSide.2 ⟨Nat.le_trans (Nat.le_of_ble_eq_true rfl) hRf, Nat.le_trans (Nat.le_of_ble_eq_true rfl) hRl⟩) hK hP hD hS hA [] [0, 1, 2, 3, 4, 5, 6, 7, 8] rfl (by decide) rfl (by decide) (by decide) rfl hl.1 rfl (Nat.le_of_ble_eq_true rfl) dX5_touch_9 ⟨Nat.zero_le _, Nat.zero_le _⟩ (fun r9 _u H locs hw hP hD hS => ?_)
    try dsimp only at hw
    have hP : va_P D vwCl [(HA, .inr (4, [.ref pA, .ref qA, .ref tA, .ref gA, .ref rA, .ref IA, .ref KA])), (pA, .inr (2, [.ref pAd, .ref pAx, .ref pAy, .int pn])), (pAd, .inl (cI, 32, .inl pd)), (pAx, .inl (cI, 32, .inl px)), (pAy, .inl (cI, 32, .inl py)), (tA, .inr (0, [.ref tAr, .int ts])), (tAr, .inl (cI, 32, .inl tr)), (rA, .inr (3, [.ref rAr, .int rs])), (rAr, .inl (cI, 32, .inl rr))] H := hP.sub [0, 1, 2, 3, 4, 5, 6, 7, 8] rfl
    have hD : va_D A [(HA, .inr (4, [.ref pA, .ref qA, .ref tA, .ref gA, .ref rA, .ref IA, .ref KA])), (pA, .inr (2, [.ref pAd, .ref pAx, .ref pAy, .int pn])), (pAd, .inl (cI, 32, .inl pd)), (pAx, .inl (cI, 32, .inl px)), (pAy, .inl (cI, 32, .inl py)), (tA, .inr (0, [.ref tAr, .int ts])), (tAr, .inl (cI, 32, .inl tr)), (rA, .inr (3, [.ref rAr, .int rs])), (rAr, .inl (cI, 32, .inl rr))] := hD.sub [0, 1, 2, 3, 4, 5, 6, 7, 8] (by decide) rfl
    obtain ⟨hwA, hwB⟩ := hw
    refine lv_if_ne (tgt := 18) hx hb dX5_touch_12 (by decide) (fun cb => ?_) (fun cb => ?_)
    · have hw := hwA cb
      refine lv_aload_n hx hb dX5_touch_18 rfl (lv_at hl 0 rfl) ?_
      refine va_get (D := D) (ci := 4) (v := .ref pA) (C := RX5) (T := TX5) (N := 7) hx hb hts in_X5_touch_X5 hown hK hP 0 rfl rfl 0 (by decide) (hts (.fieldLink RX5 10 "LiveHull" "points" "LLiveHull$Points;") (List.mem_of_getElem? (i := 1) rfl)) (fun _ h9 => h9) rfl dX5_touch_19 ?_
      refine va_get (D := D) (ci := 2) (v := .int pn) (C := RX3) (T := TX3) (N := 4) hx hb hts in_X5_touch_X3 hown hK hP 1 rfl rfl 3 (by decide) (hts (.fieldLink RX5 63 "LiveHull$Points" "count" "I") (List.mem_of_getElem? (i := 2) rfl)) (fun _ h9 => h9) rfl dX5_touch_22 ?_
      obtain ⟨hwA, hwB⟩ := hw
      refine lv_if_ne (tgt := 31) hx hb dX5_touch_25 (by decide) (fun cb => ?_) (fun cb => ?_)
      · have hw := hwA cb
        refine lv_aload_n hx hb dX5_touch_31 rfl (lv_at hl 0 rfl) ?_
        refine cl_Vv (As := []) (rest := []) ⟨hx, hb, hml, hown, hts⟩ (c_X5_gatherRing l D cI cJ cZ cO HA pA pAd pAx pAy tA tAr rA rAr qA gA IA KA pd px py pn tr ts rr rs  _ hw) (cwV 0 hts gX5_touch_X5_gatherRing rfl rfl rfl hd_X5_gatherRing ⟨Nat.le_trans (Nat.le_of_ble_eq_true rfl) hRf, Nat.le_trans (Nat.le_of_ble_eq_true rfl) hRl⟩) hK hP hD hS hA [0, 1, 2, 3, 4, 5, 6, 7, 8] [] rfl (by decide) rfl (by decide) (by decide) 0 4 rfl rfl rfl hl.1 rfl (Nat.le_of_ble_eq_true rfl) dX5_touch_32 ⟨Nat.zero_le _, Nat.zero_le _⟩ (fun u H locs hw hP hD hS => ?_)
        obtain ⟨tr_32, ts_32, rr_32, rs_32⟩ := u
        try dsimp only at hw
        have hP : va_P D vwCl [(HA, .inr (4, [.ref pA, .ref qA, .ref tA, .ref gA, .ref rA, .ref IA, .ref KA])), (pA, .inr (2, [.ref pAd, .ref pAx, .ref pAy, .int pn])), (pAd, .inl (cI, 32, .inl pd)), (pAx, .inl (cI, 32, .inl px)), (pAy, .inl (cI, 32, .inl py)), (tA, .inr (0, [.ref tAr, .int ts_32])), (tAr, .inl (cI, 32, .inl tr_32)), (rA, .inr (3, [.ref rAr, .int rs_32])), (rAr, .inl (cI, 32, .inl rr_32))] H := hP.sub [0, 1, 2, 3, 4, 5, 6, 7, 8] rfl
        have hD : va_D A [(HA, .inr (4, [.ref pA, .ref qA, .ref tA, .ref gA, .ref rA, .ref IA, .ref KA])), (pA, .inr (2, [.ref pAd, .ref pAx, .ref pAy, .int pn])), (pAd, .inl (cI, 32, .inl pd)), (pAx, .inl (cI, 32, .inl px)), (pAy, .inl (cI, 32, .inl py)), (tA, .inr (0, [.ref tAr, .int ts_32])), (tAr, .inl (cI, 32, .inl tr_32)), (rA, .inr (3, [.ref rAr, .int rs_32])), (rAr, .inl (cI, 32, .inl rr_32))] := hD.sub [0, 1, 2, 3, 4, 5, 6, 7, 8] (by decide) rfl
        refine lv_aload_n hx hb dX5_touch_35 rfl (lv_at hl 0 rfl) ?_
        refine va_get (D := D) (ci := 4) (v := .ref rA) (C := RX5) (T := TX5) (N := 7) hx hb hts in_X5_touch_X5 hown hK hP 0 rfl rfl 4 (by decide) (hts (.fieldLink RX5 36 "LiveHull" "ring" "LLiveHull$Ring;") (List.mem_of_getElem? (i := 3) rfl)) (fun _ h9 => h9) rfl dX5_touch_36 ?_
        refine lv_aload_n hx hb dX5_touch_39 rfl (lv_at hl 0 rfl) ?_
        refine va_get (D := D) (ci := 4) (v := .ref pA) (C := RX5) (T := TX5) (N := 7) hx hb hts in_X5_touch_X5 hown hK hP 0 rfl rfl 0 (by decide) (hts (.fieldLink RX5 10 "LiveHull" "points" "LLiveHull$Points;") (List.mem_of_getElem? (i := 1) rfl)) (fun _ h9 => h9) rfl dX5_touch_40 ?_
        refine lv_iload_n hx hb dX5_touch_43 rfl (lv_at hl 1 rfl) ?_
        refine lv_iload_n hx hb dX5_touch_44 rfl (lv_at hl 2 rfl) ?_
        refine cl_Vi (As := [.ref pA, .int v1, .int v2]) (rest := []) ⟨hx, hb, hml, hown, hts⟩ (c_X4_locate l D cI cJ cZ cO rA rAr pA pAd pAx pAy rr_32 rs_32 pd px py pn v1 v2 _ hw) (cwV 3 hts gX5_touch_X4_locate rfl rfl rfl hd_X4_locate ⟨Nat.le_trans (Nat.le_of_ble_eq_true rfl) hRf, Nat.le_trans (Nat.le_of_ble_eq_true rfl) hRl⟩) hK hP hD hS hA [7, 8, 1, 2, 3, 4] [0, 5, 6] rfl (by decide) rfl (by decide) (by decide) 7 3 rfl rfl rfl hl.1 rfl (Nat.le_of_ble_eq_true rfl) dX5_touch_45 ⟨Nat.zero_le _, Nat.zero_le _⟩ (fun r45 _u H locs hw hP hD hS => ?_)
        try dsimp only at hw
        have hP : va_P D vwCl [(HA, .inr (4, [.ref pA, .ref qA, .ref tA, .ref gA, .ref rA, .ref IA, .ref KA])), (pA, .inr (2, [.ref pAd, .ref pAx, .ref pAy, .int pn])), (pAd, .inl (cI, 32, .inl pd)), (pAx, .inl (cI, 32, .inl px)), (pAy, .inl (cI, 32, .inl py)), (tA, .inr (0, [.ref tAr, .int ts_32])), (tAr, .inl (cI, 32, .inl tr_32)), (rA, .inr (3, [.ref rAr, .int rs_32])), (rAr, .inl (cI, 32, .inl rr_32))] H := hP.sub [0, 5, 6, 7, 8, 1, 2, 3, 4] rfl
        have hD : va_D A [(HA, .inr (4, [.ref pA, .ref qA, .ref tA, .ref gA, .ref rA, .ref IA, .ref KA])), (pA, .inr (2, [.ref pAd, .ref pAx, .ref pAy, .int pn])), (pAd, .inl (cI, 32, .inl pd)), (pAx, .inl (cI, 32, .inl px)), (pAy, .inl (cI, 32, .inl py)), (tA, .inr (0, [.ref tAr, .int ts_32])), (tAr, .inl (cI, 32, .inl tr_32)), (rA, .inr (3, [.ref rAr, .int rs_32])), (rAr, .inl (cI, 32, .inl rr_32))] := hD.sub [0, 5, 6, 7, 8, 1, 2, 3, 4] (by decide) rfl
        obtain ⟨hwA, hwB⟩ := hw
        refine lv_if_eq (tgt := 54) hx hb dX5_touch_48 (by decide) (fun cb => ?_) (fun cb => ?_)
        · have hw := hwA cb
          refine lv_aload_n hx hb dX5_touch_54 rfl (lv_at hl 0 rfl) ?_
          refine va_get (D := D) (ci := 4) (v := .ref pA) (C := RX5) (T := TX5) (N := 7) hx hb hts in_X5_touch_X5 hown hK hP 0 rfl rfl 0 (by decide) (hts (.fieldLink RX5 10 "LiveHull" "points" "LLiveHull$Points;") (List.mem_of_getElem? (i := 1) rfl)) (fun _ h9 => h9) rfl dX5_touch_55 ?_
          refine lv_aload_n hx hb dX5_touch_58 rfl (lv_at hl 0 rfl) ?_
          refine va_get (D := D) (ci := 4) (v := .ref rA) (C := RX5) (T := TX5) (N := 7) hx hb hts in_X5_touch_X5 hown hK hP 0 rfl rfl 4 (by decide) (hts (.fieldLink RX5 36 "LiveHull" "ring" "LLiveHull$Ring;") (List.mem_of_getElem? (i := 3) rfl)) (fun _ h9 => h9) rfl dX5_touch_59 ?_
          refine lv_aload_n hx hb dX5_touch_62 rfl (lv_at hl 0 rfl) ?_
          refine va_get (D := D) (ci := 4) (v := .ref pA) (C := RX5) (T := TX5) (N := 7) hx hb hts in_X5_touch_X5 hown hK hP 0 rfl rfl 0 (by decide) (hts (.fieldLink RX5 10 "LiveHull" "points" "LLiveHull$Points;") (List.mem_of_getElem? (i := 1) rfl)) (fun _ h9 => h9) rfl dX5_touch_63 ?_
          refine lv_iload_n hx hb dX5_touch_66 rfl (lv_at hl 1 rfl) ?_
          refine lv_iload_n hx hb dX5_touch_67 rfl (lv_at hl 2 rfl) ?_
          refine lv_iload_n hx hb dX5_touch_68 rfl (lv_at hl 3 rfl) ?_
          refine cl_Vi (As := [.ref pA, .int v1, .int v2, .int v3]) (rest := [.ref pA]) ⟨hx, hb, hml, hown, hts⟩ (c_X4_nearestTouching l D cI cJ cZ cO rA rAr pA pAd pAx pAy rr_32 rs_32 pd px py pn v1 v2 v3 _ hw) (cwV 4 hts gX5_touch_X4_nearestTouching rfl rfl rfl hd_X4_nearestTouching ⟨Nat.le_trans (Nat.le_of_ble_eq_true rfl) hRf, Nat.le_trans (Nat.le_of_ble_eq_true rfl) hRl⟩) hK hP hD hS hA [7, 8, 1, 2, 3, 4] [0, 5, 6] rfl (by decide) rfl (by decide) (by decide) 7 3 rfl rfl rfl hl.1 rfl (Nat.le_of_ble_eq_true rfl) dX5_touch_69 ⟨Nat.zero_le _, Nat.zero_le _⟩ (fun r69 _u H locs hw hP hD hS => ?_)
          try dsimp only at hw
          have hP : va_P D vwCl [(HA, .inr (4, [.ref pA, .ref qA, .ref tA, .ref gA, .ref rA, .ref IA, .ref KA])), (pA, .inr (2, [.ref pAd, .ref pAx, .ref pAy, .int pn])), (pAd, .inl (cI, 32, .inl pd)), (pAx, .inl (cI, 32, .inl px)), (pAy, .inl (cI, 32, .inl py)), (tA, .inr (0, [.ref tAr, .int ts_32])), (tAr, .inl (cI, 32, .inl tr_32)), (rA, .inr (3, [.ref rAr, .int rs_32])), (rAr, .inl (cI, 32, .inl rr_32))] H := hP.sub [0, 5, 6, 7, 8, 1, 2, 3, 4] rfl
          have hD : va_D A [(HA, .inr (4, [.ref pA, .ref qA, .ref tA, .ref gA, .ref rA, .ref IA, .ref KA])), (pA, .inr (2, [.ref pAd, .ref pAx, .ref pAy, .int pn])), (pAd, .inl (cI, 32, .inl pd)), (pAx, .inl (cI, 32, .inl px)), (pAy, .inl (cI, 32, .inl py)), (tA, .inr (0, [.ref tAr, .int ts_32])), (tAr, .inl (cI, 32, .inl tr_32)), (rA, .inr (3, [.ref rAr, .int rs_32])), (rAr, .inl (cI, 32, .inl rr_32))] := hD.sub [0, 5, 6, 7, 8, 1, 2, 3, 4] (by decide) rfl
          refine cl_Vi (As := [.int r69]) (rest := []) ⟨hx, hb, hml, hown, hts⟩ (c_X3_idAt l D cI cJ cZ cO pA pAd pAx pAy pd px py pn r69 _ hw) (cwV 1 hts gX5_touch_X3_idAt rfl rfl rfl hd_X3_idAt ⟨Nat.le_trans (Nat.le_of_ble_eq_true rfl) hRf, Nat.le_trans (Nat.le_of_ble_eq_true rfl) hRl⟩) hK hP hD hS hA [1, 2, 3, 4] [0, 5, 6, 7, 8] rfl (by decide) rfl (by decide) (by decide) 1 2 rfl rfl rfl hl.1 rfl (Nat.le_of_ble_eq_true rfl) dX5_touch_72 ⟨Nat.zero_le _, Nat.zero_le _⟩ (fun r72 _u H locs hw hP hD hS => ?_)
          try dsimp only at hw
          have hP : va_P D vwCl [(HA, .inr (4, [.ref pA, .ref qA, .ref tA, .ref gA, .ref rA, .ref IA, .ref KA])), (pA, .inr (2, [.ref pAd, .ref pAx, .ref pAy, .int pn])), (pAd, .inl (cI, 32, .inl pd)), (pAx, .inl (cI, 32, .inl px)), (pAy, .inl (cI, 32, .inl py)), (tA, .inr (0, [.ref tAr, .int ts_32])), (tAr, .inl (cI, 32, .inl tr_32)), (rA, .inr (3, [.ref rAr, .int rs_32])), (rAr, .inl (cI, 32, .inl rr_32))] H := hP.sub [0, 5, 6, 7, 8, 1, 2, 3, 4] rfl
          have hD : va_D A [(HA, .inr (4, [.ref pA, .ref qA, .ref tA, .ref gA, .ref rA, .ref IA, .ref KA])), (pA, .inr (2, [.ref pAd, .ref pAx, .ref pAy, .int pn])), (pAd, .inl (cI, 32, .inl pd)), (pAx, .inl (cI, 32, .inl px)), (pAy, .inl (cI, 32, .inl py)), (tA, .inr (0, [.ref tAr, .int ts_32])), (tAr, .inl (cI, 32, .inl tr_32)), (rA, .inr (3, [.ref rAr, .int rs_32])), (rAr, .inl (cI, 32, .inl rr_32))] := hD.sub [0, 5, 6, 7, 8, 1, 2, 3, 4] (by decide) rfl
          exact ret _ _ _ _ r72 (tr_32, ts_32, rr_32, rs_32) (vp_nar_int _) hw hP hD hS dX5_touch_75
        · have hw := hwB cb
          refine lv_bipush (v := (-3)) hx hb dX5_touch_51 (by decide) ?_
          exact ret _ _ _ _ (-3) (tr_32, ts_32, rr_32, rs_32) (vp_nar_int _) hw hP hD hS dX5_touch_53
      · have hw := hwB cb
        refine lv_bipush (v := (-5)) hx hb dX5_touch_28 (by decide) ?_
        exact ret _ _ _ _ (-5) (tr, ts, rr, rs) (vp_nar_int _) hw hP hD hS dX5_touch_30
    · have hw := hwB cb
      refine lv_bipush (v := (-2)) hx hb dX5_touch_15 (by decide) ?_
      exact ret _ _ _ _ (-2) (tr, ts, rr, rs) (vp_nar_int _) hw hP hD hS dX5_touch_17
theorem in_X5_area_X5 : ∀ w ∈ wsX50, w ∈ wsX5_area := fun _ h => List.mem_cons_of_mem _ (List.mem_append_left _ (List.mem_append_left _ (List.mem_append_left _ (List.mem_append_right _ h))))
theorem hd_X5_area : yX5_area.cls = RX5 ∧ yX5_area.cls ≠ "java/lang/invoke/MethodHandle" ∧ yX5_area.cls ≠ "java/lang/invoke/VarHandle" ∧ (parseMethodDescriptor yX5_area.desc).map (fun d => d.parameters.length) = some 0 := by decide +kernel
set_option maxHeartbeats 8000000 in
set_option maxRecDepth 100000 in
theorem c_X5_area (l : Launch) (D : va_G) (cI cJ cZ cO : ClassId) (HA pA pAd pAx pAy tA tAr rA rAr qA gA IA KA : Nat) (pd : Nat → Int32) (px : Nat → Int32) (py : Nat → Int32) (pn : Int32) (tr : Nat → Int32) (ts : Int32) (rr : Nat → Int32) (rs : Int32)  (K : Int64 → (Nat → Int32) → Int32 → (Nat → Int32) → Int32 → Prop) (hw : wp_X5_area px py pn tr ts rr rs K) : Cl l D (tys4 cI cJ cZ cO) yX5_area wsX5_area { frames := 4, cells := 0, slots := 0, locals := 104 } [.ref HA] [(HA, .inr (4, [.ref pA, .ref qA, .ref tA, .ref gA, .ref rA, .ref IA, .ref KA])), (pA, .inr (2, [.ref pAd, .ref pAx, .ref pAy, .int pn])), (pAd, .inl (cI, 32, .inl pd)), (pAx, .inl (cI, 32, .inl px)), (pAy, .inl (cI, 32, .inl py)), (tA, .inr (0, [.ref tAr, .int ts])), (tAr, .inl (cI, 32, .inl tr)), (rA, .inr (3, [.ref rAr, .int rs])), (rAr, .inl (cI, 32, .inl rr))] (fun (r : Int64) (u : (Nat → Int32) × (Int32) × (Nat → Int32) × (Int32)) => K r u.1 u.2.1 u.2.2.1 u.2.2.2) (fun u => [(HA, .inr (4, [.ref pA, .ref qA, .ref tA, .ref gA, .ref rA, .ref IA, .ref KA])), (pA, .inr (2, [.ref pAd, .ref pAx, .ref pAy, .int pn])), (pAd, .inl (cI, 32, .inl pd)), (pAx, .inl (cI, 32, .inl px)), (pAy, .inl (cI, 32, .inl py)), (tA, .inr (0, [.ref tAr, .int u.2.1])), (tAr, .inl (cI, 32, .inl u.1)), (rA, .inr (3, [.ref rAr, .int u.2.2.2])), (rAr, .inl (cI, 32, .inl u.2.2.1))]) := by
  refine mt_l (cc := cX5_area) (maxL := 1) (by decide) rfl (Nat.le_of_ble_eq_true rfl) ?_
  intro p e s m args below meth c Q A R ls hRf hRl hx hb hml hown hts hK hA hP hD hS hl ret
  have hown : s.vm.findClass RX5 = some m.cls := hown
  have hl : lv_has ls 1 [(0, .ref HA)] := hl
  unfold wp_X5_area at hw
  refine lv_aload_n hx hb dX5_area_0 rfl (lv_at hl 0 rfl) ?_
  refine cl_Vv (As := []) (rest := []) ⟨hx, hb, hml, hown, hts⟩ (c_X5_gatherRing l D cI cJ cZ cO HA pA pAd pAx pAy tA tAr rA rAr qA gA IA KA pd px py pn tr ts rr rs  _ hw) (cwV 0 hts gX5_area_X5_gatherRing rfl rfl rfl hd_X5_gatherRing ⟨Nat.le_trans (Nat.le_of_ble_eq_true rfl) hRf, Nat.le_trans (Nat.le_of_ble_eq_true rfl) hRl⟩) hK hP hD hS hA [0, 1, 2, 3, 4, 5, 6, 7, 8] [] rfl (by decide) rfl (by decide) (by decide) 0 4 rfl rfl rfl hl.1 rfl (Nat.le_of_ble_eq_true rfl) dX5_area_1 ⟨Nat.zero_le _, Nat.zero_le _⟩ (fun u H locs hw hP hD hS => ?_)
  obtain ⟨tr_1, ts_1, rr_1, rs_1⟩ := u
  try dsimp only at hw
  have hP : va_P D vwCl [(HA, .inr (4, [.ref pA, .ref qA, .ref tA, .ref gA, .ref rA, .ref IA, .ref KA])), (pA, .inr (2, [.ref pAd, .ref pAx, .ref pAy, .int pn])), (pAd, .inl (cI, 32, .inl pd)), (pAx, .inl (cI, 32, .inl px)), (pAy, .inl (cI, 32, .inl py)), (tA, .inr (0, [.ref tAr, .int ts_1])), (tAr, .inl (cI, 32, .inl tr_1)), (rA, .inr (3, [.ref rAr, .int rs_1])), (rAr, .inl (cI, 32, .inl rr_1))] H := hP.sub [0, 1, 2, 3, 4, 5, 6, 7, 8] rfl
  have hD : va_D A [(HA, .inr (4, [.ref pA, .ref qA, .ref tA, .ref gA, .ref rA, .ref IA, .ref KA])), (pA, .inr (2, [.ref pAd, .ref pAx, .ref pAy, .int pn])), (pAd, .inl (cI, 32, .inl pd)), (pAx, .inl (cI, 32, .inl px)), (pAy, .inl (cI, 32, .inl py)), (tA, .inr (0, [.ref tAr, .int ts_1])), (tAr, .inl (cI, 32, .inl tr_1)), (rA, .inr (3, [.ref rAr, .int rs_1])), (rAr, .inl (cI, 32, .inl rr_1))] := hD.sub [0, 1, 2, 3, 4, 5, 6, 7, 8] (by decide) rfl
  refine lv_aload_n hx hb dX5_area_4 rfl (lv_at hl 0 rfl) ?_
  refine va_get (D := D) (ci := 4) (v := .ref rA) (C := RX5) (T := TX5) (N := 7) hx hb hts in_X5_area_X5 hown hK hP 0 rfl rfl 4 (by decide) (hts (.fieldLink RX5 36 "LiveHull" "ring" "LLiveHull$Ring;") (List.mem_of_getElem? (i := 1) rfl)) (fun _ h9 => h9) rfl dX5_area_5 ?_
  refine lv_aload_n hx hb dX5_area_8 rfl (lv_at hl 0 rfl) ?_
  refine va_get (D := D) (ci := 4) (v := .ref pA) (C := RX5) (T := TX5) (N := 7) hx hb hts in_X5_area_X5 hown hK hP 0 rfl rfl 0 (by decide) (hts (.fieldLink RX5 10 "LiveHull" "points" "LLiveHull$Points;") (List.mem_of_getElem? (i := 2) rfl)) (fun _ h9 => h9) rfl dX5_area_9 ?_
  refine cl_Vl (As := [.ref pA]) (rest := []) ⟨hx, hb, hml, hown, hts⟩ (c_X4_doubleArea l D cI cJ cZ cO rA rAr pA pAd pAx pAy rr_1 rs_1 pd px py pn  _ hw) (cwV 1 hts gX5_area_X4_doubleArea rfl rfl rfl hd_X4_doubleArea ⟨Nat.le_trans (Nat.le_of_ble_eq_true rfl) hRf, Nat.le_trans (Nat.le_of_ble_eq_true rfl) hRl⟩) hK hP hD hS hA [7, 8, 1, 2, 3, 4] [0, 5, 6] rfl (by decide) rfl (by decide) (by decide) 7 3 rfl rfl rfl hl.1 rfl (Nat.le_of_ble_eq_true rfl) dX5_area_12 ⟨Nat.zero_le _, Nat.zero_le _⟩ (fun r12 _u H locs hw hP hD hS => ?_)
  try dsimp only at hw
  have hP : va_P D vwCl [(HA, .inr (4, [.ref pA, .ref qA, .ref tA, .ref gA, .ref rA, .ref IA, .ref KA])), (pA, .inr (2, [.ref pAd, .ref pAx, .ref pAy, .int pn])), (pAd, .inl (cI, 32, .inl pd)), (pAx, .inl (cI, 32, .inl px)), (pAy, .inl (cI, 32, .inl py)), (tA, .inr (0, [.ref tAr, .int ts_1])), (tAr, .inl (cI, 32, .inl tr_1)), (rA, .inr (3, [.ref rAr, .int rs_1])), (rAr, .inl (cI, 32, .inl rr_1))] H := hP.sub [0, 5, 6, 7, 8, 1, 2, 3, 4] rfl
  have hD : va_D A [(HA, .inr (4, [.ref pA, .ref qA, .ref tA, .ref gA, .ref rA, .ref IA, .ref KA])), (pA, .inr (2, [.ref pAd, .ref pAx, .ref pAy, .int pn])), (pAd, .inl (cI, 32, .inl pd)), (pAx, .inl (cI, 32, .inl px)), (pAy, .inl (cI, 32, .inl py)), (tA, .inr (0, [.ref tAr, .int ts_1])), (tAr, .inl (cI, 32, .inl tr_1)), (rA, .inr (3, [.ref rAr, .int rs_1])), (rAr, .inl (cI, 32, .inl rr_1))] := hD.sub [0, 5, 6, 7, 8, 1, 2, 3, 4] (by decide) rfl
  exact ret _ _ _ _ r12 (tr_1, ts_1, rr_1, rs_1) hw hP hD hS dX5_area_15
theorem in_X5_image_X5 : ∀ w ∈ wsX50, w ∈ wsX5_image := fun _ h => List.mem_cons_of_mem _ (List.mem_append_left _ (List.mem_append_right _ h))
theorem hd_X5_image : yX5_image.cls = RX5 ∧ yX5_image.cls ≠ "java/lang/invoke/MethodHandle" ∧ yX5_image.cls ≠ "java/lang/invoke/VarHandle" ∧ (parseMethodDescriptor yX5_image.desc).map (fun d => d.parameters.length) = some 1 := by decide +kernel
set_option maxHeartbeats 8000000 in
set_option maxRecDepth 100000 in
theorem c_X5_image (l : Launch) (D : va_G) (cI cJ cZ cO : ClassId) (HA pA pAd pAx pAy IA KA uA uAd uAx uAy wA wAd wAx wAy qA tA gA rA : Nat) (pd : Nat → Int32) (px : Nat → Int32) (py : Nat → Int32) (pn : Int32) (kp : Nat → Int32) (ud : Nat → Int32) (ux : Nat → Int32) (uy : Nat → Int32) (un : Int32) (wd : Nat → Int32) (wx : Nat → Int32) (wy : Nat → Int32) (wn : Int32) (v1 : Int32) (K : Int32 → (Nat → Int32) → (Nat → Int32) → (Nat → Int32) → (Nat → Int32) → Int32 → (Nat → Int32) → (Nat → Int32) → (Nat → Int32) → Int32 → Prop) (If : Nat → Option Nat) (If0 : If 0 = some uA) (If1 : If 1 = some wA) (hw : wp_X5_image pd px py pn kp ud ux uy un wd wx wy wn v1 K) : Ci l D (tys4 cI cJ cZ cO) yX5_image wsX5_image { frames := 2, cells := 0, slots := 0, locals := 46 } [.ref HA, .int v1] [(HA, .inr (4, [.ref pA, .ref qA, .ref tA, .ref gA, .ref rA, .ref IA, .ref KA])), (pA, .inr (2, [.ref pAd, .ref pAx, .ref pAy, .int pn])), (pAd, .inl (cI, 32, .inl pd)), (pAx, .inl (cI, 32, .inl px)), (pAy, .inl (cI, 32, .inl py)), (IA, .inl (cO, 2, .inr (.inr (.inr (.inr If))))), (KA, .inl (cZ, 2, .inl kp)), (uA, .inr (2, [.ref uAd, .ref uAx, .ref uAy, .int un])), (uAd, .inl (cI, 32, .inl ud)), (uAx, .inl (cI, 32, .inl ux)), (uAy, .inl (cI, 32, .inl uy)), (wA, .inr (2, [.ref wAd, .ref wAx, .ref wAy, .int wn])), (wAd, .inl (cI, 32, .inl wd)), (wAx, .inl (cI, 32, .inl wx)), (wAy, .inl (cI, 32, .inl wy))] (fun (r : Int32) (u : (Nat → Int32) × (Nat → Int32) × (Nat → Int32) × (Nat → Int32) × (Int32) × (Nat → Int32) × (Nat → Int32) × (Nat → Int32) × (Int32)) => K r u.1 u.2.1 u.2.2.1 u.2.2.2.1 u.2.2.2.2.1 u.2.2.2.2.2.1 u.2.2.2.2.2.2.1 u.2.2.2.2.2.2.2.1 u.2.2.2.2.2.2.2.2) (fun u => [(HA, .inr (4, [.ref pA, .ref qA, .ref tA, .ref gA, .ref rA, .ref IA, .ref KA])), (pA, .inr (2, [.ref pAd, .ref pAx, .ref pAy, .int pn])), (pAd, .inl (cI, 32, .inl pd)), (pAx, .inl (cI, 32, .inl px)), (pAy, .inl (cI, 32, .inl py)), (IA, .inl (cO, 2, .inr (.inr (.inr (.inr If))))), (KA, .inl (cZ, 2, .inl u.1)), (uA, .inr (2, [.ref uAd, .ref uAx, .ref uAy, .int u.2.2.2.2.1])), (uAd, .inl (cI, 32, .inl u.2.1)), (uAx, .inl (cI, 32, .inl u.2.2.1)), (uAy, .inl (cI, 32, .inl u.2.2.2.1)), (wA, .inr (2, [.ref wAd, .ref wAx, .ref wAy, .int u.2.2.2.2.2.2.2.2])), (wAd, .inl (cI, 32, .inl u.2.2.2.2.2.1)), (wAx, .inl (cI, 32, .inl u.2.2.2.2.2.2.1)), (wAy, .inl (cI, 32, .inl u.2.2.2.2.2.2.2.1))]) := by
  refine mt_i (cc := cX5_image) (maxL := 2) (rt := .int) (by decide) rfl (Nat.le_of_ble_eq_true rfl) ?_
  intro p e s m args below meth c Q A R ls hRf hRl hx hb hml hown hts hK hA hP hD hS hl ret
  have hown : s.vm.findClass RX5 = some m.cls := hown
  have hl : lv_has ls 2 [(0, .ref HA), (1, .int v1)] := hl
  unfold wp_X5_image at hw
  refine lv_iload_n hx hb dX5_image_0 rfl (lv_at hl 1 rfl) ?_
  refine cl_Si (As := [.int v1]) (rest := []) ⟨hx, hb, hml, hown, hts⟩ (c_X5_isImage l D cI cJ cZ cO   v1 _ hw) (va_cwS 1 hts gX5_image_X5_isImage rfl rfl rfl hd_X5_isImage.2 ⟨Nat.le_trans (Nat.le_of_ble_eq_true rfl) hRf, Nat.le_trans (Nat.le_of_ble_eq_true rfl) hRl⟩) hK hP hD hS hA [] [0, 1, 2, 3, 4, 5, 6, 7, 8, 9, 10, 11, 12, 13, 14] rfl (by decide) rfl (by decide) (by decide) rfl hl.1 rfl (Nat.le_of_ble_eq_true rfl) dX5_image_1 ⟨Nat.zero_le _, Nat.zero_le _⟩ (fun r1 _u H locs hw hP hD hS => ?_)
  try dsimp only at hw
  have hP : va_P D vwCl [(HA, .inr (4, [.ref pA, .ref qA, .ref tA, .ref gA, .ref rA, .ref IA, .ref KA])), (pA, .inr (2, [.ref pAd, .ref pAx, .ref pAy, .int pn])), (pAd, .inl (cI, 32, .inl pd)), (pAx, .inl (cI, 32, .inl px)), (pAy, .inl (cI, 32, .inl py)), (IA, .inl (cO, 2, .inr (.inr (.inr (.inr If))))), (KA, .inl (cZ, 2, .inl kp)), (uA, .inr (2, [.ref uAd, .ref uAx, .ref uAy, .int un])), (uAd, .inl (cI, 32, .inl ud)), (uAx, .inl (cI, 32, .inl ux)), (uAy, .inl (cI, 32, .inl uy)), (wA, .inr (2, [.ref wAd, .ref wAx, .ref wAy, .int wn])), (wAd, .inl (cI, 32, .inl wd)), (wAx, .inl (cI, 32, .inl wx)), (wAy, .inl (cI, 32, .inl wy))] H := hP.sub [0, 1, 2, 3, 4, 5, 6, 7, 8, 9, 10, 11, 12, 13, 14] rfl
  have hD : va_D A [(HA, .inr (4, [.ref pA, .ref qA, .ref tA, .ref gA, .ref rA, .ref IA, .ref KA])), (pA, .inr (2, [.ref pAd, .ref pAx, .ref pAy, .int pn])), (pAd, .inl (cI, 32, .inl pd)), (pAx, .inl (cI, 32, .inl px)), (pAy, .inl (cI, 32, .inl py)), (IA, .inl (cO, 2, .inr (.inr (.inr (.inr If))))), (KA, .inl (cZ, 2, .inl kp)), (uA, .inr (2, [.ref uAd, .ref uAx, .ref uAy, .int un])), (uAd, .inl (cI, 32, .inl ud)), (uAx, .inl (cI, 32, .inl ux)), (uAy, .inl (cI, 32, .inl uy)), (wA, .inr (2, [.ref wAd, .ref wAx, .ref wAy, .int wn])), (wAd, .inl (cI, 32, .inl wd)), (wAx, .inl (cI, 32, .inl wx)), (wAy, .inl (cI, 32, .inl wy))] := hD.sub [0, 1, 2, 3, 4, 5, 6, 7, 8, 9, 10, 11, 12, 13, 14] (by decide) rfl
  obtain ⟨hwA, hwB⟩ := hw
  refine lv_if_ne (tgt := 10) hx hb dX5_image_4 (by decide) (fun cb => ?_) (fun cb => ?_)
  · have hw := hwA cb
    refine lv_aload_n hx hb dX5_image_10 rfl (lv_at hl 0 rfl) ?_
    refine va_get (D := D) (ci := 4) (v := .ref IA) (C := RX5) (T := TX5) (N := 7) hx hb hts in_X5_image_X5 hown hK hP 0 rfl rfl 5 (by decide) (hts (.fieldLink RX5 40 "LiveHull" "images" "[LLiveHull$Points;") (List.mem_of_getElem? (i := 1) rfl)) (fun _ h9 => h9) rfl dX5_image_11 ?_
    refine lv_iload_n hx hb dX5_image_14 rfl (lv_at hl 1 rfl) ?_
    obtain ⟨hwA, hwB⟩ := hw
    by_cases cz : v1 = 0
    · have hw := hwA cz
      refine va_aldq hx hb hK hP 5 3 rfl rfl (by rw [cz]; unfold vp_in; decide) dX5_image_15 ?_
      rw [show va_rf (If v1.toNatClampNeg) = .ref uA by rw [cz]; show va_rf (If 0) = _; rw [If0]; rfl]
      refine lv_aload_n hx hb dX5_image_16 rfl (lv_at hl 0 rfl) ?_
      refine va_get (D := D) (ci := 4) (v := .ref pA) (C := RX5) (T := TX5) (N := 7) hx hb hts in_X5_image_X5 hown hK hP 0 rfl rfl 0 (by decide) (hts (.fieldLink RX5 10 "LiveHull" "points" "LLiveHull$Points;") (List.mem_of_getElem? (i := 2) rfl)) (fun _ h9 => h9) rfl dX5_image_17 ?_
      refine cl_Vv (As := [.ref pA]) (rest := []) ⟨hx, hb, hml, hown, hts⟩ (c_X3_copyFrom l D cI cJ cZ cO uA uAd uAx uAy pA pAd pAx pAy ud ux uy un pd px py pn  _ hw) (cwV 1 hts gX5_image_X3_copyFrom rfl rfl rfl hd_X3_copyFrom ⟨Nat.le_trans (Nat.le_of_ble_eq_true rfl) hRf, Nat.le_trans (Nat.le_of_ble_eq_true rfl) hRl⟩) hK hP hD hS hA [7, 8, 9, 10, 1, 2, 3, 4] [0, 5, 6, 11, 12, 13, 14] rfl (by decide) rfl (by decide) (by decide) 7 2 rfl rfl rfl hl.1 rfl (Nat.le_of_ble_eq_true rfl) dX5_image_20 ⟨Nat.zero_le _, Nat.zero_le _⟩ (fun u H locs hw hP hD hS => ?_)
      obtain ⟨ud_20, ux_20, uy_20, un_20⟩ := u
      try dsimp only at hw
      have hP : va_P D vwCl [(HA, .inr (4, [.ref pA, .ref qA, .ref tA, .ref gA, .ref rA, .ref IA, .ref KA])), (pA, .inr (2, [.ref pAd, .ref pAx, .ref pAy, .int pn])), (pAd, .inl (cI, 32, .inl pd)), (pAx, .inl (cI, 32, .inl px)), (pAy, .inl (cI, 32, .inl py)), (IA, .inl (cO, 2, .inr (.inr (.inr (.inr If))))), (KA, .inl (cZ, 2, .inl kp)), (uA, .inr (2, [.ref uAd, .ref uAx, .ref uAy, .int un_20])), (uAd, .inl (cI, 32, .inl ud_20)), (uAx, .inl (cI, 32, .inl ux_20)), (uAy, .inl (cI, 32, .inl uy_20)), (wA, .inr (2, [.ref wAd, .ref wAx, .ref wAy, .int wn])), (wAd, .inl (cI, 32, .inl wd)), (wAx, .inl (cI, 32, .inl wx)), (wAy, .inl (cI, 32, .inl wy))] H := hP.sub [0, 11, 12, 13, 14, 1, 2, 7, 8, 9, 10, 3, 4, 5, 6] rfl
      have hD : va_D A [(HA, .inr (4, [.ref pA, .ref qA, .ref tA, .ref gA, .ref rA, .ref IA, .ref KA])), (pA, .inr (2, [.ref pAd, .ref pAx, .ref pAy, .int pn])), (pAd, .inl (cI, 32, .inl pd)), (pAx, .inl (cI, 32, .inl px)), (pAy, .inl (cI, 32, .inl py)), (IA, .inl (cO, 2, .inr (.inr (.inr (.inr If))))), (KA, .inl (cZ, 2, .inl kp)), (uA, .inr (2, [.ref uAd, .ref uAx, .ref uAy, .int un_20])), (uAd, .inl (cI, 32, .inl ud_20)), (uAx, .inl (cI, 32, .inl ux_20)), (uAy, .inl (cI, 32, .inl uy_20)), (wA, .inr (2, [.ref wAd, .ref wAx, .ref wAy, .int wn])), (wAd, .inl (cI, 32, .inl wd)), (wAx, .inl (cI, 32, .inl wx)), (wAy, .inl (cI, 32, .inl wy))] := hD.sub [0, 11, 12, 13, 14, 1, 2, 7, 8, 9, 10, 3, 4, 5, 6] (by decide) rfl
      refine lv_aload_n hx hb dX5_image_23 rfl (lv_at hl 0 rfl) ?_
      refine va_get (D := D) (ci := 4) (v := .ref KA) (C := RX5) (T := TX5) (N := 7) hx hb hts in_X5_image_X5 hown hK hP 0 rfl rfl 6 (by decide) (hts (.fieldLink RX5 44 "LiveHull" "kept" "[Z") (List.mem_of_getElem? (i := 3) rfl)) (fun _ h9 => h9) rfl dX5_image_24 ?_
      refine lv_iload_n hx hb dX5_image_27 rfl (lv_at hl 1 rfl) ?_
      refine lv_iconst (v := 1) hx hb dX5_image_28 (by decide) ?_
      obtain ⟨hi, hw⟩ := hw
      refine va_zast hx hb hK hP hD hS 6 2 rfl rfl hi dX5_image_29 (fun H locs hP hD hS => ?_)
      have hP : va_P D vwCl [(HA, .inr (4, [.ref pA, .ref qA, .ref tA, .ref gA, .ref rA, .ref IA, .ref KA])), (pA, .inr (2, [.ref pAd, .ref pAx, .ref pAy, .int pn])), (pAd, .inl (cI, 32, .inl pd)), (pAx, .inl (cI, 32, .inl px)), (pAy, .inl (cI, 32, .inl py)), (IA, .inl (cO, 2, .inr (.inr (.inr (.inr If))))), (KA, .inl (cZ, 2, .inl (upd kp v1.toNatClampNeg (vp_nar .boolean 1)))), (uA, .inr (2, [.ref uAd, .ref uAx, .ref uAy, .int un_20])), (uAd, .inl (cI, 32, .inl ud_20)), (uAx, .inl (cI, 32, .inl ux_20)), (uAy, .inl (cI, 32, .inl uy_20)), (wA, .inr (2, [.ref wAd, .ref wAx, .ref wAy, .int wn])), (wAd, .inl (cI, 32, .inl wd)), (wAx, .inl (cI, 32, .inl wx)), (wAy, .inl (cI, 32, .inl wy))] H := hP
      have hD : va_D A [(HA, .inr (4, [.ref pA, .ref qA, .ref tA, .ref gA, .ref rA, .ref IA, .ref KA])), (pA, .inr (2, [.ref pAd, .ref pAx, .ref pAy, .int pn])), (pAd, .inl (cI, 32, .inl pd)), (pAx, .inl (cI, 32, .inl px)), (pAy, .inl (cI, 32, .inl py)), (IA, .inl (cO, 2, .inr (.inr (.inr (.inr If))))), (KA, .inl (cZ, 2, .inl (upd kp v1.toNatClampNeg (vp_nar .boolean 1)))), (uA, .inr (2, [.ref uAd, .ref uAx, .ref uAy, .int un_20])), (uAd, .inl (cI, 32, .inl ud_20)), (uAx, .inl (cI, 32, .inl ux_20)), (uAy, .inl (cI, 32, .inl uy_20)), (wA, .inr (2, [.ref wAd, .ref wAx, .ref wAy, .int wn])), (wAd, .inl (cI, 32, .inl wd)), (wAx, .inl (cI, 32, .inl wx)), (wAy, .inl (cI, 32, .inl wy))] := hD
      refine lv_iconst (v := 1) hx hb dX5_image_30 (by decide) ?_
      exact ret _ _ _ _ 1 ((upd kp v1.toNatClampNeg (vp_nar .boolean 1)), ud_20, ux_20, uy_20, un_20, wd, wx, wy, wn) (vp_nar_int _) hw hP hD hS dX5_image_31
    · obtain ⟨cz, hw⟩ := hwB cz
      refine va_aldq hx hb hK hP 5 3 rfl rfl (by rw [cz]; unfold vp_in; decide) dX5_image_15 ?_
      rw [show va_rf (If v1.toNatClampNeg) = .ref wA by rw [cz]; show va_rf (If 1) = _; rw [If1]; rfl]
      refine lv_aload_n hx hb dX5_image_16 rfl (lv_at hl 0 rfl) ?_
      refine va_get (D := D) (ci := 4) (v := .ref pA) (C := RX5) (T := TX5) (N := 7) hx hb hts in_X5_image_X5 hown hK hP 0 rfl rfl 0 (by decide) (hts (.fieldLink RX5 10 "LiveHull" "points" "LLiveHull$Points;") (List.mem_of_getElem? (i := 2) rfl)) (fun _ h9 => h9) rfl dX5_image_17 ?_
      refine cl_Vv (As := [.ref pA]) (rest := []) ⟨hx, hb, hml, hown, hts⟩ (c_X3_copyFrom l D cI cJ cZ cO wA wAd wAx wAy pA pAd pAx pAy wd wx wy wn pd px py pn  _ hw) (cwV 1 hts gX5_image_X3_copyFrom rfl rfl rfl hd_X3_copyFrom ⟨Nat.le_trans (Nat.le_of_ble_eq_true rfl) hRf, Nat.le_trans (Nat.le_of_ble_eq_true rfl) hRl⟩) hK hP hD hS hA [11, 12, 13, 14, 1, 2, 3, 4] [0, 5, 6, 7, 8, 9, 10] rfl (by decide) rfl (by decide) (by decide) 11 2 rfl rfl rfl hl.1 rfl (Nat.le_of_ble_eq_true rfl) dX5_image_20 ⟨Nat.zero_le _, Nat.zero_le _⟩ (fun u H locs hw hP hD hS => ?_)
      obtain ⟨wd_20, wx_20, wy_20, wn_20⟩ := u
      try dsimp only at hw
      have hP : va_P D vwCl [(HA, .inr (4, [.ref pA, .ref qA, .ref tA, .ref gA, .ref rA, .ref IA, .ref KA])), (pA, .inr (2, [.ref pAd, .ref pAx, .ref pAy, .int pn])), (pAd, .inl (cI, 32, .inl pd)), (pAx, .inl (cI, 32, .inl px)), (pAy, .inl (cI, 32, .inl py)), (IA, .inl (cO, 2, .inr (.inr (.inr (.inr If))))), (KA, .inl (cZ, 2, .inl kp)), (uA, .inr (2, [.ref uAd, .ref uAx, .ref uAy, .int un])), (uAd, .inl (cI, 32, .inl ud)), (uAx, .inl (cI, 32, .inl ux)), (uAy, .inl (cI, 32, .inl uy)), (wA, .inr (2, [.ref wAd, .ref wAx, .ref wAy, .int wn_20])), (wAd, .inl (cI, 32, .inl wd_20)), (wAx, .inl (cI, 32, .inl wx_20)), (wAy, .inl (cI, 32, .inl wy_20))] H := hP.sub [0, 11, 12, 13, 14, 1, 2, 3, 4, 5, 6, 7, 8, 9, 10] rfl
      have hD : va_D A [(HA, .inr (4, [.ref pA, .ref qA, .ref tA, .ref gA, .ref rA, .ref IA, .ref KA])), (pA, .inr (2, [.ref pAd, .ref pAx, .ref pAy, .int pn])), (pAd, .inl (cI, 32, .inl pd)), (pAx, .inl (cI, 32, .inl px)), (pAy, .inl (cI, 32, .inl py)), (IA, .inl (cO, 2, .inr (.inr (.inr (.inr If))))), (KA, .inl (cZ, 2, .inl kp)), (uA, .inr (2, [.ref uAd, .ref uAx, .ref uAy, .int un])), (uAd, .inl (cI, 32, .inl ud)), (uAx, .inl (cI, 32, .inl ux)), (uAy, .inl (cI, 32, .inl uy)), (wA, .inr (2, [.ref wAd, .ref wAx, .ref wAy, .int wn_20])), (wAd, .inl (cI, 32, .inl wd_20)), (wAx, .inl (cI, 32, .inl wx_20)), (wAy, .inl (cI, 32, .inl wy_20))] := hD.sub [0, 11, 12, 13, 14, 1, 2, 3, 4, 5, 6, 7, 8, 9, 10] (by decide) rfl
      refine lv_aload_n hx hb dX5_image_23 rfl (lv_at hl 0 rfl) ?_
      refine va_get (D := D) (ci := 4) (v := .ref KA) (C := RX5) (T := TX5) (N := 7) hx hb hts in_X5_image_X5 hown hK hP 0 rfl rfl 6 (by decide) (hts (.fieldLink RX5 44 "LiveHull" "kept" "[Z") (List.mem_of_getElem? (i := 3) rfl)) (fun _ h9 => h9) rfl dX5_image_24 ?_
      refine lv_iload_n hx hb dX5_image_27 rfl (lv_at hl 1 rfl) ?_
      refine lv_iconst (v := 1) hx hb dX5_image_28 (by decide) ?_
      obtain ⟨hi, hw⟩ := hw
      refine va_zast hx hb hK hP hD hS 6 2 rfl rfl hi dX5_image_29 (fun H locs hP hD hS => ?_)
      have hP : va_P D vwCl [(HA, .inr (4, [.ref pA, .ref qA, .ref tA, .ref gA, .ref rA, .ref IA, .ref KA])), (pA, .inr (2, [.ref pAd, .ref pAx, .ref pAy, .int pn])), (pAd, .inl (cI, 32, .inl pd)), (pAx, .inl (cI, 32, .inl px)), (pAy, .inl (cI, 32, .inl py)), (IA, .inl (cO, 2, .inr (.inr (.inr (.inr If))))), (KA, .inl (cZ, 2, .inl (upd kp v1.toNatClampNeg (vp_nar .boolean 1)))), (uA, .inr (2, [.ref uAd, .ref uAx, .ref uAy, .int un])), (uAd, .inl (cI, 32, .inl ud)), (uAx, .inl (cI, 32, .inl ux)), (uAy, .inl (cI, 32, .inl uy)), (wA, .inr (2, [.ref wAd, .ref wAx, .ref wAy, .int wn_20])), (wAd, .inl (cI, 32, .inl wd_20)), (wAx, .inl (cI, 32, .inl wx_20)), (wAy, .inl (cI, 32, .inl wy_20))] H := hP
      have hD : va_D A [(HA, .inr (4, [.ref pA, .ref qA, .ref tA, .ref gA, .ref rA, .ref IA, .ref KA])), (pA, .inr (2, [.ref pAd, .ref pAx, .ref pAy, .int pn])), (pAd, .inl (cI, 32, .inl pd)), (pAx, .inl (cI, 32, .inl px)), (pAy, .inl (cI, 32, .inl py)), (IA, .inl (cO, 2, .inr (.inr (.inr (.inr If))))), (KA, .inl (cZ, 2, .inl (upd kp v1.toNatClampNeg (vp_nar .boolean 1)))), (uA, .inr (2, [.ref uAd, .ref uAx, .ref uAy, .int un])), (uAd, .inl (cI, 32, .inl ud)), (uAx, .inl (cI, 32, .inl ux)), (uAy, .inl (cI, 32, .inl uy)), (wA, .inr (2, [.ref wAd, .ref wAx, .ref wAy, .int wn_20])), (wAd, .inl (cI, 32, .inl wd_20)), (wAx, .inl (cI, 32, .inl wx_20)), (wAy, .inl (cI, 32, .inl wy_20))] := hD
      refine lv_iconst (v := 1) hx hb dX5_image_30 (by decide) ?_
      exact ret _ _ _ _ 1 ((upd kp v1.toNatClampNeg (vp_nar .boolean 1)), ud, ux, uy, un, wd_20, wx_20, wy_20, wn_20) (vp_nar_int _) hw hP hD hS dX5_image_31
  · have hw := hwB cb
    refine lv_bipush (v := (-2)) hx hb dX5_image_7 (by decide) ?_
    exact ret _ _ _ _ (-2) (kp, ud, ux, uy, un, wd, wx, wy, wn) (vp_nar_int _) hw hP hD hS dX5_image_9
theorem in_X5_restore_X3 : ∀ w ∈ wsX30, w ∈ wsX5_restore := fun _ h => List.mem_cons_of_mem _ (List.mem_append_left _ (List.mem_append_right _ h))
theorem in_X5_restore_X5 : ∀ w ∈ wsX50, w ∈ wsX5_restore := fun _ h => List.mem_cons_of_mem _ (List.mem_append_left _ (List.mem_append_left _ (List.mem_append_right _ h)))
theorem hd_X5_restore : yX5_restore.cls = RX5 ∧ yX5_restore.cls ≠ "java/lang/invoke/MethodHandle" ∧ yX5_restore.cls ≠ "java/lang/invoke/VarHandle" ∧ (parseMethodDescriptor yX5_restore.desc).map (fun d => d.parameters.length) = some 1 := by decide +kernel
set_option maxHeartbeats 8000000 in
set_option maxRecDepth 100000 in
theorem c_X5_restore (l : Launch) (D : va_G) (cI cJ cZ cO : ClassId) (HA pA pAd pAx pAy qA qAf qAs IA KA uA uAd uAx uAy wA wAd wAx wAy tA gA rA : Nat) (pd : Nat → Int32) (px : Nat → Int32) (py : Nat → Int32) (pn : Int32) (qf : Nat → Int32) (qs : Nat → Int32) (kp : Nat → Int32) (ud : Nat → Int32) (ux : Nat → Int32) (uy : Nat → Int32) (un : Int32) (wd : Nat → Int32) (wx : Nat → Int32) (wy : Nat → Int32) (wn : Int32) (v1 : Int32) (K : Int32 → (Nat → Int32) → (Nat → Int32) → (Nat → Int32) → Int32 → (Nat → Int32) → (Nat → Int32) → Prop) (If : Nat → Option Nat) (If0 : If 0 = some uA) (If1 : If 1 = some wA) (hw : wp_X5_restore pd px py pn qf qs kp ud ux uy un wd wx wy wn v1 K) : Ci l D (tys4 cI cJ cZ cO) yX5_restore wsX5_restore { frames := 2, cells := 0, slots := 0, locals := 46 } [.ref HA, .int v1] [(HA, .inr (4, [.ref pA, .ref qA, .ref tA, .ref gA, .ref rA, .ref IA, .ref KA])), (pA, .inr (2, [.ref pAd, .ref pAx, .ref pAy, .int pn])), (pAd, .inl (cI, 32, .inl pd)), (pAx, .inl (cI, 32, .inl px)), (pAy, .inl (cI, 32, .inl py)), (qA, .inr (1, [.ref qAf, .ref qAs])), (qAf, .inl (cI, 64, .inl qf)), (qAs, .inl (cI, 64, .inl qs)), (IA, .inl (cO, 2, .inr (.inr (.inr (.inr If))))), (KA, .inl (cZ, 2, .inl kp)), (uA, .inr (2, [.ref uAd, .ref uAx, .ref uAy, .int un])), (uAd, .inl (cI, 32, .inl ud)), (uAx, .inl (cI, 32, .inl ux)), (uAy, .inl (cI, 32, .inl uy)), (wA, .inr (2, [.ref wAd, .ref wAx, .ref wAy, .int wn])), (wAd, .inl (cI, 32, .inl wd)), (wAx, .inl (cI, 32, .inl wx)), (wAy, .inl (cI, 32, .inl wy))] (fun (r : Int32) (u : (Nat → Int32) × (Nat → Int32) × (Nat → Int32) × (Int32) × (Nat → Int32) × (Nat → Int32)) => K r u.1 u.2.1 u.2.2.1 u.2.2.2.1 u.2.2.2.2.1 u.2.2.2.2.2) (fun u => [(HA, .inr (4, [.ref pA, .ref qA, .ref tA, .ref gA, .ref rA, .ref IA, .ref KA])), (pA, .inr (2, [.ref pAd, .ref pAx, .ref pAy, .int u.2.2.2.1])), (pAd, .inl (cI, 32, .inl u.1)), (pAx, .inl (cI, 32, .inl u.2.1)), (pAy, .inl (cI, 32, .inl u.2.2.1)), (qA, .inr (1, [.ref qAf, .ref qAs])), (qAf, .inl (cI, 64, .inl u.2.2.2.2.1)), (qAs, .inl (cI, 64, .inl u.2.2.2.2.2)), (IA, .inl (cO, 2, .inr (.inr (.inr (.inr If))))), (KA, .inl (cZ, 2, .inl kp)), (uA, .inr (2, [.ref uAd, .ref uAx, .ref uAy, .int un])), (uAd, .inl (cI, 32, .inl ud)), (uAx, .inl (cI, 32, .inl ux)), (uAy, .inl (cI, 32, .inl uy)), (wA, .inr (2, [.ref wAd, .ref wAx, .ref wAy, .int wn])), (wAd, .inl (cI, 32, .inl wd)), (wAx, .inl (cI, 32, .inl wx)), (wAy, .inl (cI, 32, .inl wy))]) := by
  refine mt_i (cc := cX5_restore) (maxL := 2) (rt := .int) (by decide) rfl (Nat.le_of_ble_eq_true rfl) ?_
  intro p e s m args below meth c Q A R ls hRf hRl hx hb hml hown hts hK hA hP hD hS hl ret
  have hown : s.vm.findClass RX5 = some m.cls := hown
  have hl : lv_has ls 2 [(0, .ref HA), (1, .int v1)] := hl
  unfold wp_X5_restore at hw
  refine lv_iload_n hx hb dX5_restore_0 rfl (lv_at hl 1 rfl) ?_
  refine cl_Si (As := [.int v1]) (rest := []) ⟨hx, hb, hml, hown, hts⟩ (c_X5_isImage l D cI cJ cZ cO   v1 _ hw) (va_cwS 1 hts gX5_restore_X5_isImage rfl rfl rfl hd_X5_isImage.2 ⟨Nat.le_trans (Nat.le_of_ble_eq_true rfl) hRf, Nat.le_trans (Nat.le_of_ble_eq_true rfl) hRl⟩) hK hP hD hS hA [] [0, 1, 2, 3, 4, 5, 6, 7, 8, 9, 10, 11, 12, 13, 14, 15, 16, 17] rfl (by decide) rfl (by decide) (by decide) rfl hl.1 rfl (Nat.le_of_ble_eq_true rfl) dX5_restore_1 ⟨Nat.zero_le _, Nat.zero_le _⟩ (fun r1 _u H locs hw hP hD hS => ?_)
  try dsimp only at hw
  have hP : va_P D vwCl [(HA, .inr (4, [.ref pA, .ref qA, .ref tA, .ref gA, .ref rA, .ref IA, .ref KA])), (pA, .inr (2, [.ref pAd, .ref pAx, .ref pAy, .int pn])), (pAd, .inl (cI, 32, .inl pd)), (pAx, .inl (cI, 32, .inl px)), (pAy, .inl (cI, 32, .inl py)), (qA, .inr (1, [.ref qAf, .ref qAs])), (qAf, .inl (cI, 64, .inl qf)), (qAs, .inl (cI, 64, .inl qs)), (IA, .inl (cO, 2, .inr (.inr (.inr (.inr If))))), (KA, .inl (cZ, 2, .inl kp)), (uA, .inr (2, [.ref uAd, .ref uAx, .ref uAy, .int un])), (uAd, .inl (cI, 32, .inl ud)), (uAx, .inl (cI, 32, .inl ux)), (uAy, .inl (cI, 32, .inl uy)), (wA, .inr (2, [.ref wAd, .ref wAx, .ref wAy, .int wn])), (wAd, .inl (cI, 32, .inl wd)), (wAx, .inl (cI, 32, .inl wx)), (wAy, .inl (cI, 32, .inl wy))] H := hP.sub [0, 1, 2, 3, 4, 5, 6, 7, 8, 9, 10, 11, 12, 13, 14, 15, 16, 17] rfl
  have hD : va_D A [(HA, .inr (4, [.ref pA, .ref qA, .ref tA, .ref gA, .ref rA, .ref IA, .ref KA])), (pA, .inr (2, [.ref pAd, .ref pAx, .ref pAy, .int pn])), (pAd, .inl (cI, 32, .inl pd)), (pAx, .inl (cI, 32, .inl px)), (pAy, .inl (cI, 32, .inl py)), (qA, .inr (1, [.ref qAf, .ref qAs])), (qAf, .inl (cI, 64, .inl qf)), (qAs, .inl (cI, 64, .inl qs)), (IA, .inl (cO, 2, .inr (.inr (.inr (.inr If))))), (KA, .inl (cZ, 2, .inl kp)), (uA, .inr (2, [.ref uAd, .ref uAx, .ref uAy, .int un])), (uAd, .inl (cI, 32, .inl ud)), (uAx, .inl (cI, 32, .inl ux)), (uAy, .inl (cI, 32, .inl uy)), (wA, .inr (2, [.ref wAd, .ref wAx, .ref wAy, .int wn])), (wAd, .inl (cI, 32, .inl wd)), (wAx, .inl (cI, 32, .inl wx)), (wAy, .inl (cI, 32, .inl wy))] := hD.sub [0, 1, 2, 3, 4, 5, 6, 7, 8, 9, 10, 11, 12, 13, 14, 15, 16, 17] (by decide) rfl
  obtain ⟨hwA, hwB⟩ := hw
  refine lv_if_ne (tgt := 10) hx hb dX5_restore_4 (by decide) (fun cb => ?_) (fun cb => ?_)
  · have hw := hwA cb
    refine lv_aload_n hx hb dX5_restore_10 rfl (lv_at hl 0 rfl) ?_
    refine va_get (D := D) (ci := 4) (v := .ref KA) (C := RX5) (T := TX5) (N := 7) hx hb hts in_X5_restore_X5 hown hK hP 0 rfl rfl 6 (by decide) (hts (.fieldLink RX5 44 "LiveHull" "kept" "[Z") (List.mem_of_getElem? (i := 1) rfl)) (fun _ h9 => h9) rfl dX5_restore_11 ?_
    refine lv_iload_n hx hb dX5_restore_14 rfl (lv_at hl 1 rfl) ?_
    obtain ⟨hi, hw⟩ := hw
    refine va_zald hx hb hK hP 9 2 rfl rfl hi dX5_restore_15 ?_
    obtain ⟨hwA, hwB⟩ := hw
    refine lv_if_ne (tgt := 22) hx hb dX5_restore_16 (by decide) (fun cb => ?_) (fun cb => ?_)
    · have hw := hwA cb
      refine lv_aload_n hx hb dX5_restore_22 rfl (lv_at hl 0 rfl) ?_
      refine va_get (D := D) (ci := 4) (v := .ref pA) (C := RX5) (T := TX5) (N := 7) hx hb hts in_X5_restore_X5 hown hK hP 0 rfl rfl 0 (by decide) (hts (.fieldLink RX5 10 "LiveHull" "points" "LLiveHull$Points;") (List.mem_of_getElem? (i := 2) rfl)) (fun _ h9 => h9) rfl dX5_restore_23 ?_
      refine lv_aload_n hx hb dX5_restore_26 rfl (lv_at hl 0 rfl) ?_
      refine va_get (D := D) (ci := 4) (v := .ref IA) (C := RX5) (T := TX5) (N := 7) hx hb hts in_X5_restore_X5 hown hK hP 0 rfl rfl 5 (by decide) (hts (.fieldLink RX5 40 "LiveHull" "images" "[LLiveHull$Points;") (List.mem_of_getElem? (i := 3) rfl)) (fun _ h9 => h9) rfl dX5_restore_27 ?_
      refine lv_iload_n hx hb dX5_restore_30 rfl (lv_at hl 1 rfl) ?_
      obtain ⟨hwA, hwB⟩ := hw
      by_cases cz : v1 = 0
      · have hw := hwA cz
        refine va_aldq hx hb hK hP 8 3 rfl rfl (by rw [cz]; unfold vp_in; decide) dX5_restore_31 ?_
        rw [show va_rf (If v1.toNatClampNeg) = .ref uA by rw [cz]; show va_rf (If 0) = _; rw [If0]; rfl]
        refine cl_Vv (As := [.ref uA]) (rest := []) ⟨hx, hb, hml, hown, hts⟩ (c_X3_copyFrom l D cI cJ cZ cO pA pAd pAx pAy uA uAd uAx uAy pd px py pn ud ux uy un  _ hw) (cwV 1 hts gX5_restore_X3_copyFrom rfl rfl rfl hd_X3_copyFrom ⟨Nat.le_trans (Nat.le_of_ble_eq_true rfl) hRf, Nat.le_trans (Nat.le_of_ble_eq_true rfl) hRl⟩) hK hP hD hS hA [1, 2, 3, 4, 10, 11, 12, 13] [0, 5, 6, 7, 8, 9, 14, 15, 16, 17] rfl (by decide) rfl (by decide) (by decide) 1 2 rfl rfl rfl hl.1 rfl (Nat.le_of_ble_eq_true rfl) dX5_restore_32 ⟨Nat.zero_le _, Nat.zero_le _⟩ (fun u H locs hw hP hD hS => ?_)
        obtain ⟨pd_32, px_32, py_32, pn_32⟩ := u
        try dsimp only at hw
        have hP : va_P D vwCl [(HA, .inr (4, [.ref pA, .ref qA, .ref tA, .ref gA, .ref rA, .ref IA, .ref KA])), (pA, .inr (2, [.ref pAd, .ref pAx, .ref pAy, .int pn_32])), (pAd, .inl (cI, 32, .inl pd_32)), (pAx, .inl (cI, 32, .inl px_32)), (pAy, .inl (cI, 32, .inl py_32)), (qA, .inr (1, [.ref qAf, .ref qAs])), (qAf, .inl (cI, 64, .inl qf)), (qAs, .inl (cI, 64, .inl qs)), (IA, .inl (cO, 2, .inr (.inr (.inr (.inr If))))), (KA, .inl (cZ, 2, .inl kp)), (uA, .inr (2, [.ref uAd, .ref uAx, .ref uAy, .int un])), (uAd, .inl (cI, 32, .inl ud)), (uAx, .inl (cI, 32, .inl ux)), (uAy, .inl (cI, 32, .inl uy)), (wA, .inr (2, [.ref wAd, .ref wAx, .ref wAy, .int wn])), (wAd, .inl (cI, 32, .inl wd)), (wAx, .inl (cI, 32, .inl wx)), (wAy, .inl (cI, 32, .inl wy))] H := hP.sub [0, 10, 11, 12, 13, 1, 2, 3, 4, 5, 14, 15, 16, 17, 6, 7, 8, 9] rfl
        have hD : va_D A [(HA, .inr (4, [.ref pA, .ref qA, .ref tA, .ref gA, .ref rA, .ref IA, .ref KA])), (pA, .inr (2, [.ref pAd, .ref pAx, .ref pAy, .int pn_32])), (pAd, .inl (cI, 32, .inl pd_32)), (pAx, .inl (cI, 32, .inl px_32)), (pAy, .inl (cI, 32, .inl py_32)), (qA, .inr (1, [.ref qAf, .ref qAs])), (qAf, .inl (cI, 64, .inl qf)), (qAs, .inl (cI, 64, .inl qs)), (IA, .inl (cO, 2, .inr (.inr (.inr (.inr If))))), (KA, .inl (cZ, 2, .inl kp)), (uA, .inr (2, [.ref uAd, .ref uAx, .ref uAy, .int un])), (uAd, .inl (cI, 32, .inl ud)), (uAx, .inl (cI, 32, .inl ux)), (uAy, .inl (cI, 32, .inl uy)), (wA, .inr (2, [.ref wAd, .ref wAx, .ref wAy, .int wn])), (wAd, .inl (cI, 32, .inl wd)), (wAx, .inl (cI, 32, .inl wx)), (wAy, .inl (cI, 32, .inl wy))] := hD.sub [0, 10, 11, 12, 13, 1, 2, 3, 4, 5, 14, 15, 16, 17, 6, 7, 8, 9] (by decide) rfl
        refine lv_aload_n hx hb dX5_restore_35 rfl (lv_at hl 0 rfl) ?_
        refine va_get (D := D) (ci := 4) (v := .ref qA) (C := RX5) (T := TX5) (N := 7) hx hb hts in_X5_restore_X5 hown hK hP 0 rfl rfl 1 (by decide) (hts (.fieldLink RX5 19 "LiveHull" "parts" "LLiveHull$Parts;") (List.mem_of_getElem? (i := 4) rfl)) (fun _ h9 => h9) rfl dX5_restore_36 ?_
        refine lv_aload_n hx hb dX5_restore_39 rfl (lv_at hl 0 rfl) ?_
        refine va_get (D := D) (ci := 4) (v := .ref pA) (C := RX5) (T := TX5) (N := 7) hx hb hts in_X5_restore_X5 hown hK hP 0 rfl rfl 0 (by decide) (hts (.fieldLink RX5 10 "LiveHull" "points" "LLiveHull$Points;") (List.mem_of_getElem? (i := 2) rfl)) (fun _ h9 => h9) rfl dX5_restore_40 ?_
        refine va_get (D := D) (ci := 2) (v := .int pn_32) (C := RX3) (T := TX3) (N := 4) hx hb hts in_X5_restore_X3 hown hK hP 1 rfl rfl 3 (by decide) (hts (.fieldLink RX5 63 "LiveHull$Points" "count" "I") (List.mem_of_getElem? (i := 5) rfl)) (fun _ h9 => h9) rfl dX5_restore_43 ?_
        refine cl_Vv (As := [.int pn_32]) (rest := []) ⟨hx, hb, hml, hown, hts⟩ (c_X2_split l D cI cJ cZ cO qA qAf qAs qf qs pn_32 _ hw) (cwV 1 hts gX5_restore_X2_split rfl rfl rfl hd_X2_split ⟨Nat.le_trans (Nat.le_of_ble_eq_true rfl) hRf, Nat.le_trans (Nat.le_of_ble_eq_true rfl) hRl⟩) hK hP hD hS hA [5, 6, 7] [0, 1, 2, 3, 4, 8, 9, 10, 11, 12, 13, 14, 15, 16, 17] rfl (by decide) rfl (by decide) (by decide) 5 1 rfl rfl rfl hl.1 rfl (Nat.le_of_ble_eq_true rfl) dX5_restore_46 ⟨Nat.zero_le _, Nat.zero_le _⟩ (fun u H locs hw hP hD hS => ?_)
        obtain ⟨qf_46, qs_46⟩ := u
        try dsimp only at hw
        have hP : va_P D vwCl [(HA, .inr (4, [.ref pA, .ref qA, .ref tA, .ref gA, .ref rA, .ref IA, .ref KA])), (pA, .inr (2, [.ref pAd, .ref pAx, .ref pAy, .int pn_32])), (pAd, .inl (cI, 32, .inl pd_32)), (pAx, .inl (cI, 32, .inl px_32)), (pAy, .inl (cI, 32, .inl py_32)), (qA, .inr (1, [.ref qAf, .ref qAs])), (qAf, .inl (cI, 64, .inl qf_46)), (qAs, .inl (cI, 64, .inl qs_46)), (IA, .inl (cO, 2, .inr (.inr (.inr (.inr If))))), (KA, .inl (cZ, 2, .inl kp)), (uA, .inr (2, [.ref uAd, .ref uAx, .ref uAy, .int un])), (uAd, .inl (cI, 32, .inl ud)), (uAx, .inl (cI, 32, .inl ux)), (uAy, .inl (cI, 32, .inl uy)), (wA, .inr (2, [.ref wAd, .ref wAx, .ref wAy, .int wn])), (wAd, .inl (cI, 32, .inl wd)), (wAx, .inl (cI, 32, .inl wx)), (wAy, .inl (cI, 32, .inl wy))] H := hP.sub [0, 1, 2, 3, 4, 15, 16, 17, 5, 6, 7, 8, 9, 10, 11, 12, 13, 14] rfl
        have hD : va_D A [(HA, .inr (4, [.ref pA, .ref qA, .ref tA, .ref gA, .ref rA, .ref IA, .ref KA])), (pA, .inr (2, [.ref pAd, .ref pAx, .ref pAy, .int pn_32])), (pAd, .inl (cI, 32, .inl pd_32)), (pAx, .inl (cI, 32, .inl px_32)), (pAy, .inl (cI, 32, .inl py_32)), (qA, .inr (1, [.ref qAf, .ref qAs])), (qAf, .inl (cI, 64, .inl qf_46)), (qAs, .inl (cI, 64, .inl qs_46)), (IA, .inl (cO, 2, .inr (.inr (.inr (.inr If))))), (KA, .inl (cZ, 2, .inl kp)), (uA, .inr (2, [.ref uAd, .ref uAx, .ref uAy, .int un])), (uAd, .inl (cI, 32, .inl ud)), (uAx, .inl (cI, 32, .inl ux)), (uAy, .inl (cI, 32, .inl uy)), (wA, .inr (2, [.ref wAd, .ref wAx, .ref wAy, .int wn])), (wAd, .inl (cI, 32, .inl wd)), (wAx, .inl (cI, 32, .inl wx)), (wAy, .inl (cI, 32, .inl wy))] := hD.sub [0, 1, 2, 3, 4, 15, 16, 17, 5, 6, 7, 8, 9, 10, 11, 12, 13, 14] (by decide) rfl
        refine lv_iconst (v := 1) hx hb dX5_restore_49 (by decide) ?_
        exact ret _ _ _ _ 1 (pd_32, px_32, py_32, pn_32, qf_46, qs_46) (vp_nar_int _) hw hP hD hS dX5_restore_50
      · obtain ⟨cz, hw⟩ := hwB cz
        refine va_aldq hx hb hK hP 8 3 rfl rfl (by rw [cz]; unfold vp_in; decide) dX5_restore_31 ?_
        rw [show va_rf (If v1.toNatClampNeg) = .ref wA by rw [cz]; show va_rf (If 1) = _; rw [If1]; rfl]
        refine cl_Vv (As := [.ref wA]) (rest := []) ⟨hx, hb, hml, hown, hts⟩ (c_X3_copyFrom l D cI cJ cZ cO pA pAd pAx pAy wA wAd wAx wAy pd px py pn wd wx wy wn  _ hw) (cwV 1 hts gX5_restore_X3_copyFrom rfl rfl rfl hd_X3_copyFrom ⟨Nat.le_trans (Nat.le_of_ble_eq_true rfl) hRf, Nat.le_trans (Nat.le_of_ble_eq_true rfl) hRl⟩) hK hP hD hS hA [1, 2, 3, 4, 14, 15, 16, 17] [0, 5, 6, 7, 8, 9, 10, 11, 12, 13] rfl (by decide) rfl (by decide) (by decide) 1 2 rfl rfl rfl hl.1 rfl (Nat.le_of_ble_eq_true rfl) dX5_restore_32 ⟨Nat.zero_le _, Nat.zero_le _⟩ (fun u H locs hw hP hD hS => ?_)
        obtain ⟨pd_32, px_32, py_32, pn_32⟩ := u
        try dsimp only at hw
        have hP : va_P D vwCl [(HA, .inr (4, [.ref pA, .ref qA, .ref tA, .ref gA, .ref rA, .ref IA, .ref KA])), (pA, .inr (2, [.ref pAd, .ref pAx, .ref pAy, .int pn_32])), (pAd, .inl (cI, 32, .inl pd_32)), (pAx, .inl (cI, 32, .inl px_32)), (pAy, .inl (cI, 32, .inl py_32)), (qA, .inr (1, [.ref qAf, .ref qAs])), (qAf, .inl (cI, 64, .inl qf)), (qAs, .inl (cI, 64, .inl qs)), (IA, .inl (cO, 2, .inr (.inr (.inr (.inr If))))), (KA, .inl (cZ, 2, .inl kp)), (uA, .inr (2, [.ref uAd, .ref uAx, .ref uAy, .int un])), (uAd, .inl (cI, 32, .inl ud)), (uAx, .inl (cI, 32, .inl ux)), (uAy, .inl (cI, 32, .inl uy)), (wA, .inr (2, [.ref wAd, .ref wAx, .ref wAy, .int wn])), (wAd, .inl (cI, 32, .inl wd)), (wAx, .inl (cI, 32, .inl wx)), (wAy, .inl (cI, 32, .inl wy))] H := hP.sub [0, 10, 11, 12, 13, 1, 2, 3, 4, 5, 6, 7, 8, 9, 14, 15, 16, 17] rfl
        have hD : va_D A [(HA, .inr (4, [.ref pA, .ref qA, .ref tA, .ref gA, .ref rA, .ref IA, .ref KA])), (pA, .inr (2, [.ref pAd, .ref pAx, .ref pAy, .int pn_32])), (pAd, .inl (cI, 32, .inl pd_32)), (pAx, .inl (cI, 32, .inl px_32)), (pAy, .inl (cI, 32, .inl py_32)), (qA, .inr (1, [.ref qAf, .ref qAs])), (qAf, .inl (cI, 64, .inl qf)), (qAs, .inl (cI, 64, .inl qs)), (IA, .inl (cO, 2, .inr (.inr (.inr (.inr If))))), (KA, .inl (cZ, 2, .inl kp)), (uA, .inr (2, [.ref uAd, .ref uAx, .ref uAy, .int un])), (uAd, .inl (cI, 32, .inl ud)), (uAx, .inl (cI, 32, .inl ux)), (uAy, .inl (cI, 32, .inl uy)), (wA, .inr (2, [.ref wAd, .ref wAx, .ref wAy, .int wn])), (wAd, .inl (cI, 32, .inl wd)), (wAx, .inl (cI, 32, .inl wx)), (wAy, .inl (cI, 32, .inl wy))] := hD.sub [0, 10, 11, 12, 13, 1, 2, 3, 4, 5, 6, 7, 8, 9, 14, 15, 16, 17] (by decide) rfl
        refine lv_aload_n hx hb dX5_restore_35 rfl (lv_at hl 0 rfl) ?_
        refine va_get (D := D) (ci := 4) (v := .ref qA) (C := RX5) (T := TX5) (N := 7) hx hb hts in_X5_restore_X5 hown hK hP 0 rfl rfl 1 (by decide) (hts (.fieldLink RX5 19 "LiveHull" "parts" "LLiveHull$Parts;") (List.mem_of_getElem? (i := 4) rfl)) (fun _ h9 => h9) rfl dX5_restore_36 ?_
        refine lv_aload_n hx hb dX5_restore_39 rfl (lv_at hl 0 rfl) ?_
        refine va_get (D := D) (ci := 4) (v := .ref pA) (C := RX5) (T := TX5) (N := 7) hx hb hts in_X5_restore_X5 hown hK hP 0 rfl rfl 0 (by decide) (hts (.fieldLink RX5 10 "LiveHull" "points" "LLiveHull$Points;") (List.mem_of_getElem? (i := 2) rfl)) (fun _ h9 => h9) rfl dX5_restore_40 ?_
        refine va_get (D := D) (ci := 2) (v := .int pn_32) (C := RX3) (T := TX3) (N := 4) hx hb hts in_X5_restore_X3 hown hK hP 1 rfl rfl 3 (by decide) (hts (.fieldLink RX5 63 "LiveHull$Points" "count" "I") (List.mem_of_getElem? (i := 5) rfl)) (fun _ h9 => h9) rfl dX5_restore_43 ?_
        refine cl_Vv (As := [.int pn_32]) (rest := []) ⟨hx, hb, hml, hown, hts⟩ (c_X2_split l D cI cJ cZ cO qA qAf qAs qf qs pn_32 _ hw) (cwV 1 hts gX5_restore_X2_split rfl rfl rfl hd_X2_split ⟨Nat.le_trans (Nat.le_of_ble_eq_true rfl) hRf, Nat.le_trans (Nat.le_of_ble_eq_true rfl) hRl⟩) hK hP hD hS hA [5, 6, 7] [0, 1, 2, 3, 4, 8, 9, 10, 11, 12, 13, 14, 15, 16, 17] rfl (by decide) rfl (by decide) (by decide) 5 1 rfl rfl rfl hl.1 rfl (Nat.le_of_ble_eq_true rfl) dX5_restore_46 ⟨Nat.zero_le _, Nat.zero_le _⟩ (fun u H locs hw hP hD hS => ?_)
        obtain ⟨qf_46, qs_46⟩ := u
        try dsimp only at hw
        have hP : va_P D vwCl [(HA, .inr (4, [.ref pA, .ref qA, .ref tA, .ref gA, .ref rA, .ref IA, .ref KA])), (pA, .inr (2, [.ref pAd, .ref pAx, .ref pAy, .int pn_32])), (pAd, .inl (cI, 32, .inl pd_32)), (pAx, .inl (cI, 32, .inl px_32)), (pAy, .inl (cI, 32, .inl py_32)), (qA, .inr (1, [.ref qAf, .ref qAs])), (qAf, .inl (cI, 64, .inl qf_46)), (qAs, .inl (cI, 64, .inl qs_46)), (IA, .inl (cO, 2, .inr (.inr (.inr (.inr If))))), (KA, .inl (cZ, 2, .inl kp)), (uA, .inr (2, [.ref uAd, .ref uAx, .ref uAy, .int un])), (uAd, .inl (cI, 32, .inl ud)), (uAx, .inl (cI, 32, .inl ux)), (uAy, .inl (cI, 32, .inl uy)), (wA, .inr (2, [.ref wAd, .ref wAx, .ref wAy, .int wn])), (wAd, .inl (cI, 32, .inl wd)), (wAx, .inl (cI, 32, .inl wx)), (wAy, .inl (cI, 32, .inl wy))] H := hP.sub [0, 1, 2, 3, 4, 15, 16, 17, 5, 6, 7, 8, 9, 10, 11, 12, 13, 14] rfl
        have hD : va_D A [(HA, .inr (4, [.ref pA, .ref qA, .ref tA, .ref gA, .ref rA, .ref IA, .ref KA])), (pA, .inr (2, [.ref pAd, .ref pAx, .ref pAy, .int pn_32])), (pAd, .inl (cI, 32, .inl pd_32)), (pAx, .inl (cI, 32, .inl px_32)), (pAy, .inl (cI, 32, .inl py_32)), (qA, .inr (1, [.ref qAf, .ref qAs])), (qAf, .inl (cI, 64, .inl qf_46)), (qAs, .inl (cI, 64, .inl qs_46)), (IA, .inl (cO, 2, .inr (.inr (.inr (.inr If))))), (KA, .inl (cZ, 2, .inl kp)), (uA, .inr (2, [.ref uAd, .ref uAx, .ref uAy, .int un])), (uAd, .inl (cI, 32, .inl ud)), (uAx, .inl (cI, 32, .inl ux)), (uAy, .inl (cI, 32, .inl uy)), (wA, .inr (2, [.ref wAd, .ref wAx, .ref wAy, .int wn])), (wAd, .inl (cI, 32, .inl wd)), (wAx, .inl (cI, 32, .inl wx)), (wAy, .inl (cI, 32, .inl wy))] := hD.sub [0, 1, 2, 3, 4, 15, 16, 17, 5, 6, 7, 8, 9, 10, 11, 12, 13, 14] (by decide) rfl
        refine lv_iconst (v := 1) hx hb dX5_restore_49 (by decide) ?_
        exact ret _ _ _ _ 1 (pd_32, px_32, py_32, pn_32, qf_46, qs_46) (vp_nar_int _) hw hP hD hS dX5_restore_50
    · have hw := hwB cb
      refine lv_bipush (v := (-3)) hx hb dX5_restore_19 (by decide) ?_
      exact ret _ _ _ _ (-3) (pd, px, py, pn, qf, qs) (vp_nar_int _) hw hP hD hS dX5_restore_21
  · have hw := hwB cb
    refine lv_bipush (v := (-2)) hx hb dX5_restore_7 (by decide) ?_
    exact ret _ _ _ _ (-2) (pd, px, py, pn, qf, qs) (vp_nar_int _) hw hP hD hS dX5_restore_9
theorem in_X5_told_X3 : ∀ w ∈ wsX30, w ∈ wsX5_told := fun _ h => List.mem_cons_of_mem _ (List.mem_append_left _ (List.mem_append_left _ (List.mem_append_left _ (List.mem_append_right _ h))))
theorem in_X5_told_X5 : ∀ w ∈ wsX50, w ∈ wsX5_told := fun _ h => List.mem_cons_of_mem _ (List.mem_append_left _ (List.mem_append_left _ (List.mem_append_left _ (List.mem_append_left _ (List.mem_append_right _ h)))))
theorem hd_X5_told : yX5_told.cls = RX5 ∧ yX5_told.cls ≠ "java/lang/invoke/MethodHandle" ∧ yX5_told.cls ≠ "java/lang/invoke/VarHandle" ∧ (parseMethodDescriptor yX5_told.desc).map (fun d => d.parameters.length) = some 1 := by decide +kernel
set_option maxHeartbeats 8000000 in
set_option maxRecDepth 100000 in
theorem c_X5_told (l : Launch) (D : va_G) (cI cJ cZ cO : ClassId) (HA pA pAd pAx pAy qA qAf qAs tA tAr gA gAr rA IA KA : Nat) (pd : Nat → Int32) (px : Nat → Int32) (py : Nat → Int32) (pn : Int32) (qf : Nat → Int32) (qs : Nat → Int32) (tr : Nat → Int32) (ts : Int32) (gr : Nat → Int32) (gs : Int32) (v1 : Int32) (K : Int32 → (Nat → Int32) → Int32 → (Nat → Int32) → Int32 → Prop) (hw : wp_X5_told px py pn qf qs tr ts gr gs v1 K) : Ci l D (tys4 cI cJ cZ cO) yX5_told wsX5_told { frames := 6, cells := 0, slots := 0, locals := 153 } [.ref HA, .int v1] [(HA, .inr (4, [.ref pA, .ref qA, .ref tA, .ref gA, .ref rA, .ref IA, .ref KA])), (pA, .inr (2, [.ref pAd, .ref pAx, .ref pAy, .int pn])), (pAd, .inl (cI, 32, .inl pd)), (pAx, .inl (cI, 32, .inl px)), (pAy, .inl (cI, 32, .inl py)), (qA, .inr (1, [.ref qAf, .ref qAs])), (qAf, .inl (cI, 64, .inl qf)), (qAs, .inl (cI, 64, .inl qs)), (tA, .inr (0, [.ref tAr, .int ts])), (tAr, .inl (cI, 32, .inl tr)), (gA, .inr (0, [.ref gAr, .int gs])), (gAr, .inl (cI, 32, .inl gr))] (fun (r : Int32) (u : (Nat → Int32) × (Int32) × (Nat → Int32) × (Int32)) => K r u.1 u.2.1 u.2.2.1 u.2.2.2) (fun u => [(HA, .inr (4, [.ref pA, .ref qA, .ref tA, .ref gA, .ref rA, .ref IA, .ref KA])), (pA, .inr (2, [.ref pAd, .ref pAx, .ref pAy, .int pn])), (pAd, .inl (cI, 32, .inl pd)), (pAx, .inl (cI, 32, .inl px)), (pAy, .inl (cI, 32, .inl py)), (qA, .inr (1, [.ref qAf, .ref qAs])), (qAf, .inl (cI, 64, .inl qf)), (qAs, .inl (cI, 64, .inl qs)), (tA, .inr (0, [.ref tAr, .int u.2.1])), (tAr, .inl (cI, 32, .inl u.1)), (gA, .inr (0, [.ref gAr, .int u.2.2.2])), (gAr, .inl (cI, 32, .inl u.2.2.1))]) := by
  refine mt_i (cc := cX5_told) (maxL := 2) (rt := .int) (by decide) rfl (Nat.le_of_ble_eq_true rfl) ?_
  intro p e s m args below meth c Q A R ls hRf hRl hx hb hml hown hts hK hA hP hD hS hl ret
  have hown : s.vm.findClass RX5 = some m.cls := hown
  have hl : lv_has ls 2 [(0, .ref HA), (1, .int v1)] := hl
  unfold wp_X5_told at hw
  refine lv_iload_n hx hb dX5_told_0 rfl (lv_at hl 1 rfl) ?_
  obtain ⟨hwA, hwB⟩ := hw
  by_cases c0 : v1 = 0
  · have hw := hwA c0
    refine lv_tableIn (tgt := 36) hx hb dX5_told_1 (by rw [c0]; decide) (by rw [c0]; decide) (by rw [c0]; rfl) (by decide) ?_
    refine lv_aload_n hx hb dX5_told_36 rfl (lv_at hl 0 rfl) ?_
    refine va_get (D := D) (ci := 4) (v := .ref pA) (C := RX5) (T := TX5) (N := 7) hx hb hts in_X5_told_X5 hown hK hP 0 rfl rfl 0 (by decide) (hts (.fieldLink RX5 10 "LiveHull" "points" "LLiveHull$Points;") (List.mem_of_getElem? (i := 1) rfl)) (fun _ h9 => h9) rfl dX5_told_37 ?_
    refine va_get (D := D) (ci := 2) (v := .int pn) (C := RX3) (T := TX3) (N := 4) hx hb hts in_X5_told_X3 hown hK hP 1 rfl rfl 3 (by decide) (hts (.fieldLink RX5 63 "LiveHull$Points" "count" "I") (List.mem_of_getElem? (i := 2) rfl)) (fun _ h9 => h9) rfl dX5_told_40 ?_
    exact ret _ _ _ _ pn (tr, ts, gr, gs) (vp_nar_int _) hw hP hD hS dX5_told_43
  · have hw := hwB c0
    obtain ⟨hwA, hwB⟩ := hw
    by_cases c1 : v1 = 1
    · have hw := hwA c1
      refine lv_tableIn (tgt := 44) hx hb dX5_told_1 (by rw [c1]; decide) (by rw [c1]; decide) (by rw [c1]; rfl) (by decide) ?_
      refine lv_aload_n hx hb dX5_told_44 rfl (lv_at hl 0 rfl) ?_
      refine va_get (D := D) (ci := 4) (v := .ref qA) (C := RX5) (T := TX5) (N := 7) hx hb hts in_X5_told_X5 hown hK hP 0 rfl rfl 1 (by decide) (hts (.fieldLink RX5 19 "LiveHull" "parts" "LLiveHull$Parts;") (List.mem_of_getElem? (i := 3) rfl)) (fun _ h9 => h9) rfl dX5_told_45 ?_
      refine cl_Vi (As := []) (rest := []) ⟨hx, hb, hml, hown, hts⟩ (c_X2_howMany l D cI cJ cZ cO qA qAf qAs qf qs  _ hw) (cwV 0 hts gX5_told_X2_howMany rfl rfl rfl hd_X2_howMany ⟨Nat.le_trans (Nat.le_of_ble_eq_true rfl) hRf, Nat.le_trans (Nat.le_of_ble_eq_true rfl) hRl⟩) hK hP hD hS hA [5, 6, 7] [0, 1, 2, 3, 4, 8, 9, 10, 11] rfl (by decide) rfl (by decide) (by decide) 5 1 rfl rfl rfl hl.1 rfl (Nat.le_of_ble_eq_true rfl) dX5_told_48 ⟨Nat.zero_le _, Nat.zero_le _⟩ (fun r48 _u H locs hw hP hD hS => ?_)
      try dsimp only at hw
      have hP : va_P D vwCl [(HA, .inr (4, [.ref pA, .ref qA, .ref tA, .ref gA, .ref rA, .ref IA, .ref KA])), (pA, .inr (2, [.ref pAd, .ref pAx, .ref pAy, .int pn])), (pAd, .inl (cI, 32, .inl pd)), (pAx, .inl (cI, 32, .inl px)), (pAy, .inl (cI, 32, .inl py)), (qA, .inr (1, [.ref qAf, .ref qAs])), (qAf, .inl (cI, 64, .inl qf)), (qAs, .inl (cI, 64, .inl qs)), (tA, .inr (0, [.ref tAr, .int ts])), (tAr, .inl (cI, 32, .inl tr)), (gA, .inr (0, [.ref gAr, .int gs])), (gAr, .inl (cI, 32, .inl gr))] H := hP.sub [0, 1, 2, 3, 4, 9, 10, 11, 5, 6, 7, 8] rfl
      have hD : va_D A [(HA, .inr (4, [.ref pA, .ref qA, .ref tA, .ref gA, .ref rA, .ref IA, .ref KA])), (pA, .inr (2, [.ref pAd, .ref pAx, .ref pAy, .int pn])), (pAd, .inl (cI, 32, .inl pd)), (pAx, .inl (cI, 32, .inl px)), (pAy, .inl (cI, 32, .inl py)), (qA, .inr (1, [.ref qAf, .ref qAs])), (qAf, .inl (cI, 64, .inl qf)), (qAs, .inl (cI, 64, .inl qs)), (tA, .inr (0, [.ref tAr, .int ts])), (tAr, .inl (cI, 32, .inl tr)), (gA, .inr (0, [.ref gAr, .int gs])), (gAr, .inl (cI, 32, .inl gr))] := hD.sub [0, 1, 2, 3, 4, 9, 10, 11, 5, 6, 7, 8] (by decide) rfl
      exact ret _ _ _ _ r48 (tr, ts, gr, gs) (vp_nar_int _) hw hP hD hS dX5_told_51
    · have hw := hwB c1
      obtain ⟨hwA, hwB⟩ := hw
      by_cases c2 : v1 = 2
      · have hw := hwA c2
        refine lv_tableIn (tgt := 52) hx hb dX5_told_1 (by rw [c2]; decide) (by rw [c2]; decide) (by rw [c2]; rfl) (by decide) ?_
        refine lv_aload_n hx hb dX5_told_52 rfl (lv_at hl 0 rfl) ?_
        refine cl_Vi (As := []) (rest := []) ⟨hx, hb, hml, hown, hts⟩ (c_X5_cornersOfAll l D cI cJ cZ cO HA pA pAd pAx pAy qA qAf qAs tA tAr gA rA IA KA pd px py pn qf qs tr ts  _ hw) (cwV 0 hts gX5_told_X5_cornersOfAll rfl rfl rfl hd_X5_cornersOfAll ⟨Nat.le_trans (Nat.le_of_ble_eq_true rfl) hRf, Nat.le_trans (Nat.le_of_ble_eq_true rfl) hRl⟩) hK hP hD hS hA [0, 1, 2, 3, 4, 5, 6, 7, 8, 9] [10, 11] rfl (by decide) rfl (by decide) (by decide) 0 4 rfl rfl rfl hl.1 rfl (Nat.le_of_ble_eq_true rfl) dX5_told_53 ⟨Nat.zero_le _, Nat.zero_le _⟩ (fun r53 u H locs hw hP hD hS => ?_)
        obtain ⟨tr_53, ts_53⟩ := u
        try dsimp only at hw
        have hP : va_P D vwCl [(HA, .inr (4, [.ref pA, .ref qA, .ref tA, .ref gA, .ref rA, .ref IA, .ref KA])), (pA, .inr (2, [.ref pAd, .ref pAx, .ref pAy, .int pn])), (pAd, .inl (cI, 32, .inl pd)), (pAx, .inl (cI, 32, .inl px)), (pAy, .inl (cI, 32, .inl py)), (qA, .inr (1, [.ref qAf, .ref qAs])), (qAf, .inl (cI, 64, .inl qf)), (qAs, .inl (cI, 64, .inl qs)), (tA, .inr (0, [.ref tAr, .int ts_53])), (tAr, .inl (cI, 32, .inl tr_53)), (gA, .inr (0, [.ref gAr, .int gs])), (gAr, .inl (cI, 32, .inl gr))] H := hP.sub [2, 3, 4, 5, 6, 7, 8, 9, 10, 11, 0, 1] rfl
        have hD : va_D A [(HA, .inr (4, [.ref pA, .ref qA, .ref tA, .ref gA, .ref rA, .ref IA, .ref KA])), (pA, .inr (2, [.ref pAd, .ref pAx, .ref pAy, .int pn])), (pAd, .inl (cI, 32, .inl pd)), (pAx, .inl (cI, 32, .inl px)), (pAy, .inl (cI, 32, .inl py)), (qA, .inr (1, [.ref qAf, .ref qAs])), (qAf, .inl (cI, 64, .inl qf)), (qAs, .inl (cI, 64, .inl qs)), (tA, .inr (0, [.ref tAr, .int ts_53])), (tAr, .inl (cI, 32, .inl tr_53)), (gA, .inr (0, [.ref gAr, .int gs])), (gAr, .inl (cI, 32, .inl gr))] := hD.sub [2, 3, 4, 5, 6, 7, 8, 9, 10, 11, 0, 1] (by decide) rfl
        exact ret _ _ _ _ r53 (tr_53, ts_53, gr, gs) (vp_nar_int _) hw hP hD hS dX5_told_56
      · have hw := hwB c2
        obtain ⟨hwA, hwB⟩ := hw
        by_cases c3 : v1 = 3
        · have hw := hwA c3
          refine lv_tableIn (tgt := 57) hx hb dX5_told_1 (by rw [c3]; decide) (by rw [c3]; decide) (by rw [c3]; rfl) (by decide) ?_
          refine lv_aload_n hx hb dX5_told_57 rfl (lv_at hl 0 rfl) ?_
          refine cl_Vi (As := []) (rest := []) ⟨hx, hb, hml, hown, hts⟩ (c_X5_restsOfAll l D cI cJ cZ cO HA pA pAd pAx pAy qA qAf qAs tA tAr gA gAr rA IA KA pd px py pn qf qs tr ts gr gs  _ hw) (cwV 0 hts gX5_told_X5_restsOfAll rfl rfl rfl hd_X5_restsOfAll ⟨Nat.le_trans (Nat.le_of_ble_eq_true rfl) hRf, Nat.le_trans (Nat.le_of_ble_eq_true rfl) hRl⟩) hK hP hD hS hA [0, 1, 2, 3, 4, 5, 6, 7, 8, 9, 10, 11] [] rfl (by decide) rfl (by decide) (by decide) 0 4 rfl rfl rfl hl.1 rfl (Nat.le_of_ble_eq_true rfl) dX5_told_58 ⟨Nat.zero_le _, Nat.zero_le _⟩ (fun r58 u H locs hw hP hD hS => ?_)
          obtain ⟨tr_58, ts_58, gr_58, gs_58⟩ := u
          try dsimp only at hw
          have hP : va_P D vwCl [(HA, .inr (4, [.ref pA, .ref qA, .ref tA, .ref gA, .ref rA, .ref IA, .ref KA])), (pA, .inr (2, [.ref pAd, .ref pAx, .ref pAy, .int pn])), (pAd, .inl (cI, 32, .inl pd)), (pAx, .inl (cI, 32, .inl px)), (pAy, .inl (cI, 32, .inl py)), (qA, .inr (1, [.ref qAf, .ref qAs])), (qAf, .inl (cI, 64, .inl qf)), (qAs, .inl (cI, 64, .inl qs)), (tA, .inr (0, [.ref tAr, .int ts_58])), (tAr, .inl (cI, 32, .inl tr_58)), (gA, .inr (0, [.ref gAr, .int gs_58])), (gAr, .inl (cI, 32, .inl gr_58))] H := hP.sub [0, 1, 2, 3, 4, 5, 6, 7, 8, 9, 10, 11] rfl
          have hD : va_D A [(HA, .inr (4, [.ref pA, .ref qA, .ref tA, .ref gA, .ref rA, .ref IA, .ref KA])), (pA, .inr (2, [.ref pAd, .ref pAx, .ref pAy, .int pn])), (pAd, .inl (cI, 32, .inl pd)), (pAx, .inl (cI, 32, .inl px)), (pAy, .inl (cI, 32, .inl py)), (qA, .inr (1, [.ref qAf, .ref qAs])), (qAf, .inl (cI, 64, .inl qf)), (qAs, .inl (cI, 64, .inl qs)), (tA, .inr (0, [.ref tAr, .int ts_58])), (tAr, .inl (cI, 32, .inl tr_58)), (gA, .inr (0, [.ref gAr, .int gs_58])), (gAr, .inl (cI, 32, .inl gr_58))] := hD.sub [0, 1, 2, 3, 4, 5, 6, 7, 8, 9, 10, 11] (by decide) rfl
          exact ret _ _ _ _ r58 (tr_58, ts_58, gr_58, gs_58) (vp_nar_int _) hw hP hD hS dX5_told_61
        · have hw := hwB c3
          obtain ⟨hwA, hwB⟩ := hw
          by_cases c4 : v1 = 4
          · have hw := hwA c4
            refine lv_tableIn (tgt := 62) hx hb dX5_told_1 (by rw [c4]; decide) (by rw [c4]; decide) (by rw [c4]; rfl) (by decide) ?_
            refine lv_aload_n hx hb dX5_told_62 rfl (lv_at hl 0 rfl) ?_
            refine va_get (D := D) (ci := 4) (v := .ref qA) (C := RX5) (T := TX5) (N := 7) hx hb hts in_X5_told_X5 hown hK hP 0 rfl rfl 1 (by decide) (hts (.fieldLink RX5 19 "LiveHull" "parts" "LLiveHull$Parts;") (List.mem_of_getElem? (i := 3) rfl)) (fun _ h9 => h9) rfl dX5_told_63 ?_
            refine cl_Vi (As := []) (rest := []) ⟨hx, hb, hml, hown, hts⟩ (c_X2_greatestDepth l D cI cJ cZ cO qA qAf qAs qf qs  _ hw) (cwV 0 hts gX5_told_X2_greatestDepth rfl rfl rfl hd_X2_greatestDepth ⟨Nat.le_trans (Nat.le_of_ble_eq_true rfl) hRf, Nat.le_trans (Nat.le_of_ble_eq_true rfl) hRl⟩) hK hP hD hS hA [5, 6, 7] [0, 1, 2, 3, 4, 8, 9, 10, 11] rfl (by decide) rfl (by decide) (by decide) 5 1 rfl rfl rfl hl.1 rfl (Nat.le_of_ble_eq_true rfl) dX5_told_66 ⟨Nat.zero_le _, Nat.zero_le _⟩ (fun r66 _u H locs hw hP hD hS => ?_)
            try dsimp only at hw
            have hP : va_P D vwCl [(HA, .inr (4, [.ref pA, .ref qA, .ref tA, .ref gA, .ref rA, .ref IA, .ref KA])), (pA, .inr (2, [.ref pAd, .ref pAx, .ref pAy, .int pn])), (pAd, .inl (cI, 32, .inl pd)), (pAx, .inl (cI, 32, .inl px)), (pAy, .inl (cI, 32, .inl py)), (qA, .inr (1, [.ref qAf, .ref qAs])), (qAf, .inl (cI, 64, .inl qf)), (qAs, .inl (cI, 64, .inl qs)), (tA, .inr (0, [.ref tAr, .int ts])), (tAr, .inl (cI, 32, .inl tr)), (gA, .inr (0, [.ref gAr, .int gs])), (gAr, .inl (cI, 32, .inl gr))] H := hP.sub [0, 1, 2, 3, 4, 9, 10, 11, 5, 6, 7, 8] rfl
            have hD : va_D A [(HA, .inr (4, [.ref pA, .ref qA, .ref tA, .ref gA, .ref rA, .ref IA, .ref KA])), (pA, .inr (2, [.ref pAd, .ref pAx, .ref pAy, .int pn])), (pAd, .inl (cI, 32, .inl pd)), (pAx, .inl (cI, 32, .inl px)), (pAy, .inl (cI, 32, .inl py)), (qA, .inr (1, [.ref qAf, .ref qAs])), (qAf, .inl (cI, 64, .inl qf)), (qAs, .inl (cI, 64, .inl qs)), (tA, .inr (0, [.ref tAr, .int ts])), (tAr, .inl (cI, 32, .inl tr)), (gA, .inr (0, [.ref gAr, .int gs])), (gAr, .inl (cI, 32, .inl gr))] := hD.sub [0, 1, 2, 3, 4, 9, 10, 11, 5, 6, 7, 8] (by decide) rfl
            exact ret _ _ _ _ r66 (tr, ts, gr, gs) (vp_nar_int _) hw hP hD hS dX5_told_69
          · have hw := hwB c4
            refine lv_tableOut (tgt := 70) hx hb dX5_told_1 (by have z0 := lv_neT (a := 0) c0 (by decide); have z1 := lv_neT (a := 1) c1 (by decide); have z2 := lv_neT (a := 2) c2 (by decide); have z3 := lv_neT (a := 3) c3 (by decide); have z4 := lv_neT (a := 4) c4 (by decide); omega) (by decide) ?_
            refine lv_bipush (v := (-2)) hx hb dX5_told_70 (by decide) ?_
            exact ret _ _ _ _ (-2) (tr, ts, gr, gs) (vp_nar_int _) hw hP hD hS dX5_told_72
