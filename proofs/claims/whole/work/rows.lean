section
-- ===== PART A: goes FIRST, ahead of the names: the tables' words, and 'selects' of the private methods out of them =====
/-- a private method of a class that the tables say can be made, by its rows of tables_1 -/
def lw_okq (q : MethodName × Nat) : Prop := (q.1.cls ≠ "java/lang/invoke/MethodHandle" ∧ q.1.cls ≠ "java/lang/invoke/VarHandle") ∧ Cond.instantiable q.1.cls q.2 ∈ tables_1 ∧ Cond.privateMethod q.1 ∈ tables_1 ∧ Cond.instanceMethod q.1 ∈ tables_1
theorem lw_p0 : lw_okq (⟨"LiveHull$Points", "isBefore", "(III)Z"⟩, 4) := ⟨⟨by decide +kernel, by decide +kernel⟩, List.mem_of_getElem? (i := 18) (by decide +kernel), List.mem_of_getElem? (i := 151) (by decide +kernel), List.mem_of_getElem? (i := 152) (by decide +kernel)⟩
theorem lw_p1 : lw_okq (⟨"LiveHull$Points", "setRow", "(IIII)V"⟩, 4) := ⟨⟨by decide +kernel, by decide +kernel⟩, List.mem_of_getElem? (i := 18) (by decide +kernel), List.mem_of_getElem? (i := 155) (by decide +kernel), List.mem_of_getElem? (i := 156) (by decide +kernel)⟩
theorem lw_p2 : lw_okq (⟨"LiveHull$Parts", "splitPart", "(I)V"⟩, 2) := ⟨⟨by decide +kernel, by decide +kernel⟩, List.mem_of_getElem? (i := 45) (by decide +kernel), List.mem_of_getElem? (i := 163) (by decide +kernel), List.mem_of_getElem? (i := 164) (by decide +kernel)⟩
theorem lw_p3 : lw_okq (⟨"LiveHull", "topOf", "(II)I"⟩, 7) := ⟨⟨by decide +kernel, by decide +kernel⟩, List.mem_of_getElem? (i := 10) (by decide +kernel), List.mem_of_getElem? (i := 184) (by decide +kernel), List.mem_of_getElem? (i := 185) (by decide +kernel)⟩
theorem lw_p4 : lw_okq (⟨"LiveHull", "trace", "(LLiveHull$Chain;II)V"⟩, 7) := ⟨⟨by decide +kernel, by decide +kernel⟩, List.mem_of_getElem? (i := 10) (by decide +kernel), List.mem_of_getElem? (i := 196) (by decide +kernel), List.mem_of_getElem? (i := 197) (by decide +kernel)⟩
theorem lw_p5 : lw_okq (⟨"LiveHull$Chain", "isOverLast", "(LLiveHull$Points;I)Z"⟩, 2) := ⟨⟨by decide +kernel, by decide +kernel⟩, List.mem_of_getElem? (i := 60) (by decide +kernel), List.mem_of_getElem? (i := 204) (by decide +kernel), List.mem_of_getElem? (i := 205) (by decide +kernel)⟩
theorem lw_p6 : lw_okq (⟨"LiveHull$Chain", "lastStays", "(LLiveHull$Points;II)Z"⟩, 2) := ⟨⟨by decide +kernel, by decide +kernel⟩, List.mem_of_getElem? (i := 60) (by decide +kernel), List.mem_of_getElem? (i := 208) (by decide +kernel), List.mem_of_getElem? (i := 209) (by decide +kernel)⟩
theorem lw_p7 : lw_okq (⟨"LiveHull", "cornersOf", "(II)I"⟩, 7) := ⟨⟨by decide +kernel, by decide +kernel⟩, List.mem_of_getElem? (i := 10) (by decide +kernel), List.mem_of_getElem? (i := 244) (by decide +kernel), List.mem_of_getElem? (i := 245) (by decide +kernel)⟩
theorem lw_p8 : lw_okq (⟨"LiveHull", "restOf", "(II)I"⟩, 7) := ⟨⟨by decide +kernel, by decide +kernel⟩, List.mem_of_getElem? (i := 10) (by decide +kernel), List.mem_of_getElem? (i := 248) (by decide +kernel), List.mem_of_getElem? (i := 249) (by decide +kernel)⟩
theorem lw_p9 : lw_okq (⟨"LiveHull", "gatherRing", "()V"⟩, 7) := ⟨⟨by decide +kernel, by decide +kernel⟩, List.mem_of_getElem? (i := 10) (by decide +kernel), List.mem_of_getElem? (i := 285) (by decide +kernel), List.mem_of_getElem? (i := 286) (by decide +kernel)⟩
theorem lw_p10 : lw_okq (⟨"LiveHull$Ring", "takeOnce", "(I)V"⟩, 2) := ⟨⟨by decide +kernel, by decide +kernel⟩, List.mem_of_getElem? (i := 89) (by decide +kernel), List.mem_of_getElem? (i := 297) (by decide +kernel), List.mem_of_getElem? (i := 298) (by decide +kernel)⟩
theorem lw_p11 : lw_okq (⟨"LiveHull$Ring", "isAtCorner", "(LLiveHull$Points;II)Z"⟩, 2) := ⟨⟨by decide +kernel, by decide +kernel⟩, List.mem_of_getElem? (i := 89) (by decide +kernel), List.mem_of_getElem? (i := 337) (by decide +kernel), List.mem_of_getElem? (i := 338) (by decide +kernel)⟩
theorem lw_p12 : lw_okq (⟨"LiveHull$Ring", "isTouching", "(LLiveHull$Points;IIII)Z"⟩, 2) := ⟨⟨by decide +kernel, by decide +kernel⟩, List.mem_of_getElem? (i := 89) (by decide +kernel), List.mem_of_getElem? (i := 361) (by decide +kernel), List.mem_of_getElem? (i := 362) (by decide +kernel)⟩
theorem lw_p13 : lw_okq (⟨"LiveHull", "cornersOfAll", "()I"⟩, 7) := ⟨⟨by decide +kernel, by decide +kernel⟩, List.mem_of_getElem? (i := 10) (by decide +kernel), List.mem_of_getElem? (i := 403) (by decide +kernel), List.mem_of_getElem? (i := 404) (by decide +kernel)⟩
theorem lw_p14 : lw_okq (⟨"LiveHull", "restsOfAll", "()I"⟩, 7) := ⟨⟨by decide +kernel, by decide +kernel⟩, List.mem_of_getElem? (i := 10) (by decide +kernel), List.mem_of_getElem? (i := 407) (by decide +kernel), List.mem_of_getElem? (i := 408) (by decide +kernel)⟩
theorem lw_p15 : lw_okq (⟨"LiveHullModel", "isTaken", "(II)Z"⟩, 16) := ⟨⟨by decide +kernel, by decide +kernel⟩, List.mem_of_getElem? (i := 416) (by decide +kernel), List.mem_of_getElem? (i := 484) (by decide +kernel), List.mem_of_getElem? (i := 485) (by decide +kernel)⟩
def lw_privs_1 : List (MethodName × Nat) := [(⟨"LiveHull$Points", "isBefore", "(III)Z"⟩, 4), (⟨"LiveHull$Points", "setRow", "(IIII)V"⟩, 4), (⟨"LiveHull$Parts", "splitPart", "(I)V"⟩, 2), (⟨"LiveHull", "topOf", "(II)I"⟩, 7), (⟨"LiveHull", "trace", "(LLiveHull$Chain;II)V"⟩, 7), (⟨"LiveHull$Chain", "isOverLast", "(LLiveHull$Points;I)Z"⟩, 2), (⟨"LiveHull$Chain", "lastStays", "(LLiveHull$Points;II)Z"⟩, 2), (⟨"LiveHull", "cornersOf", "(II)I"⟩, 7), (⟨"LiveHull", "restOf", "(II)I"⟩, 7), (⟨"LiveHull", "gatherRing", "()V"⟩, 7), (⟨"LiveHull$Ring", "takeOnce", "(I)V"⟩, 2), (⟨"LiveHull$Ring", "isAtCorner", "(LLiveHull$Points;II)Z"⟩, 2), (⟨"LiveHull$Ring", "isTouching", "(LLiveHull$Points;IIII)Z"⟩, 2), (⟨"LiveHull", "cornersOfAll", "()I"⟩, 7), (⟨"LiveHull", "restsOfAll", "()I"⟩, 7), (⟨"LiveHullModel", "isTaken", "(II)Z"⟩, 16)]
theorem lw_r1 : ∀ q ∈ lw_privs_1, lw_okq q := List.forall_mem_cons.mpr ⟨lw_p0, List.forall_mem_cons.mpr ⟨lw_p1, List.forall_mem_cons.mpr ⟨lw_p2, List.forall_mem_cons.mpr ⟨lw_p3, List.forall_mem_cons.mpr ⟨lw_p4, List.forall_mem_cons.mpr ⟨lw_p5, List.forall_mem_cons.mpr ⟨lw_p6, List.forall_mem_cons.mpr ⟨lw_p7, List.forall_mem_cons.mpr ⟨lw_p8, List.forall_mem_cons.mpr ⟨lw_p9, List.forall_mem_cons.mpr ⟨lw_p10, List.forall_mem_cons.mpr ⟨lw_p11, List.forall_mem_cons.mpr ⟨lw_p12, List.forall_mem_cons.mpr ⟨lw_p13, List.forall_mem_cons.mpr ⟨lw_p14, List.forall_mem_cons.mpr ⟨lw_p15, fun _ h => absurd h List.not_mem_nil⟩⟩⟩⟩⟩⟩⟩⟩⟩⟩⟩⟩⟩⟩⟩⟩
theorem lw_p16 : lw_okq (⟨"LiveHullModel", "isPoint", "(I)Z"⟩, 16) := ⟨⟨by decide +kernel, by decide +kernel⟩, List.mem_of_getElem? (i := 416) (by decide +kernel), List.mem_of_getElem? (i := 492) (by decide +kernel), List.mem_of_getElem? (i := 493) (by decide +kernel)⟩
theorem lw_p17 : lw_okq (⟨"LiveHullModel", "layRanks", "()V"⟩, 16) := ⟨⟨by decide +kernel, by decide +kernel⟩, List.mem_of_getElem? (i := 416) (by decide +kernel), List.mem_of_getElem? (i := 504) (by decide +kernel), List.mem_of_getElem? (i := 505) (by decide +kernel)⟩
theorem lw_p18 : lw_okq (⟨"LiveHullModel", "topOf", "(II)I"⟩, 16) := ⟨⟨by decide +kernel, by decide +kernel⟩, List.mem_of_getElem? (i := 416) (by decide +kernel), List.mem_of_getElem? (i := 508) (by decide +kernel), List.mem_of_getElem? (i := 509) (by decide +kernel)⟩
theorem lw_p19 : lw_okq (⟨"LiveHullModel", "chainSet", "(II)J"⟩, 16) := ⟨⟨by decide +kernel, by decide +kernel⟩, List.mem_of_getElem? (i := 416) (by decide +kernel), List.mem_of_getElem? (i := 512) (by decide +kernel), List.mem_of_getElem? (i := 513) (by decide +kernel)⟩
theorem lw_p20 : lw_okq (⟨"LiveHullModel", "layPart", "(I)Z"⟩, 16) := ⟨⟨by decide +kernel, by decide +kernel⟩, List.mem_of_getElem? (i := 416) (by decide +kernel), List.mem_of_getElem? (i := 516) (by decide +kernel), List.mem_of_getElem? (i := 517) (by decide +kernel)⟩
theorem lw_p21 : lw_okq (⟨"LiveHullModel", "layChain", "(I)V"⟩, 16) := ⟨⟨by decide +kernel, by decide +kernel⟩, List.mem_of_getElem? (i := 416) (by decide +kernel), List.mem_of_getElem? (i := 520) (by decide +kernel), List.mem_of_getElem? (i := 521) (by decide +kernel)⟩
theorem lw_p22 : lw_okq (⟨"LiveHullModel", "bend", "(III)J"⟩, 16) := ⟨⟨by decide +kernel, by decide +kernel⟩, List.mem_of_getElem? (i := 416) (by decide +kernel), List.mem_of_getElem? (i := 524) (by decide +kernel), List.mem_of_getElem? (i := 525) (by decide +kernel)⟩
theorem lw_p23 : lw_okq (⟨"LiveHullModel", "cornerSet", "()J"⟩, 16) := ⟨⟨by decide +kernel, by decide +kernel⟩, List.mem_of_getElem? (i := 416) (by decide +kernel), List.mem_of_getElem? (i := 531) (by decide +kernel), List.mem_of_getElem? (i := 532) (by decide +kernel)⟩
theorem lw_p24 : lw_okq (⟨"LiveHullModel", "restOf", "(II)I"⟩, 16) := ⟨⟨by decide +kernel, by decide +kernel⟩, List.mem_of_getElem? (i := 416) (by decide +kernel), List.mem_of_getElem? (i := 546) (by decide +kernel), List.mem_of_getElem? (i := 547) (by decide +kernel)⟩
theorem lw_p25 : lw_okq (⟨"LiveHullModel", "layRound", "()V"⟩, 16) := ⟨⟨by decide +kernel, by decide +kernel⟩, List.mem_of_getElem? (i := 416) (by decide +kernel), List.mem_of_getElem? (i := 563) (by decide +kernel), List.mem_of_getElem? (i := 564) (by decide +kernel)⟩
theorem lw_p26 : lw_okq (⟨"LiveHullModel", "ringUp", "(I)V"⟩, 16) := ⟨⟨by decide +kernel, by decide +kernel⟩, List.mem_of_getElem? (i := 416) (by decide +kernel), List.mem_of_getElem? (i := 567) (by decide +kernel), List.mem_of_getElem? (i := 568) (by decide +kernel)⟩
theorem lw_p27 : lw_okq (⟨"LiveHullModel", "whereOf", "(II)I"⟩, 16) := ⟨⟨by decide +kernel, by decide +kernel⟩, List.mem_of_getElem? (i := 416) (by decide +kernel), List.mem_of_getElem? (i := 579) (by decide +kernel), List.mem_of_getElem? (i := 580) (by decide +kernel)⟩
theorem lw_p28 : lw_okq (⟨"LiveHullModel", "square", "(III)J"⟩, 16) := ⟨⟨by decide +kernel, by decide +kernel⟩, List.mem_of_getElem? (i := 416) (by decide +kernel), List.mem_of_getElem? (i := 590) (by decide +kernel), List.mem_of_getElem? (i := 591) (by decide +kernel)⟩
def lw_privs_2 : List (MethodName × Nat) := [(⟨"LiveHullModel", "isPoint", "(I)Z"⟩, 16), (⟨"LiveHullModel", "layRanks", "()V"⟩, 16), (⟨"LiveHullModel", "topOf", "(II)I"⟩, 16), (⟨"LiveHullModel", "chainSet", "(II)J"⟩, 16), (⟨"LiveHullModel", "layPart", "(I)Z"⟩, 16), (⟨"LiveHullModel", "layChain", "(I)V"⟩, 16), (⟨"LiveHullModel", "bend", "(III)J"⟩, 16), (⟨"LiveHullModel", "cornerSet", "()J"⟩, 16), (⟨"LiveHullModel", "restOf", "(II)I"⟩, 16), (⟨"LiveHullModel", "layRound", "()V"⟩, 16), (⟨"LiveHullModel", "ringUp", "(I)V"⟩, 16), (⟨"LiveHullModel", "whereOf", "(II)I"⟩, 16), (⟨"LiveHullModel", "square", "(III)J"⟩, 16)]
theorem lw_r2 : ∀ q ∈ lw_privs_2, lw_okq q := List.forall_mem_cons.mpr ⟨lw_p16, List.forall_mem_cons.mpr ⟨lw_p17, List.forall_mem_cons.mpr ⟨lw_p18, List.forall_mem_cons.mpr ⟨lw_p19, List.forall_mem_cons.mpr ⟨lw_p20, List.forall_mem_cons.mpr ⟨lw_p21, List.forall_mem_cons.mpr ⟨lw_p22, List.forall_mem_cons.mpr ⟨lw_p23, List.forall_mem_cons.mpr ⟨lw_p24, List.forall_mem_cons.mpr ⟨lw_p25, List.forall_mem_cons.mpr ⟨lw_p26, List.forall_mem_cons.mpr ⟨lw_p27, List.forall_mem_cons.mpr ⟨lw_p28, fun _ h => absurd h List.not_mem_nil⟩⟩⟩⟩⟩⟩⟩⟩⟩⟩⟩⟩⟩
def lw_privs : List (MethodName × Nat) := lw_privs_1 ++ (lw_privs_2)
def lw_tbl : List Cond := k2_sels lw_privs ++ tables_1
theorem lw_privs_ok : ∀ q ∈ lw_privs, lw_okq q := by
  show ∀ q ∈ lw_privs_1 ++ (lw_privs_2), lw_okq q
  exact List.forall_mem_append.mpr ⟨lw_r1, lw_r2⟩
end
section
/-! ===== BEGIN words of one list among another's, by their places ===== -/
theorem goodIn_r {big : List Cond} (ws : List Cond) (ps : List Nat) (hp : ws = ps.filterMap (fun i => big[i]?)) (h : ws.all goodWord = true) : GoodIn big ws := by
  intro w hw
  have h1 := List.all_eq_true.mp h w hw
  rw [hp] at hw
  obtain ⟨i, -, hi⟩ := List.mem_filterMap.mp hw
  have hm : w ∈ big := by first | exact List.mem_of_getElem? hi | exact List.getElem?_mem hi
  exact ⟨hm, good_of_word h1⟩
theorem goodIn_app {big a b : List Cond} (ha : GoodIn big a) (hb : GoodIn big b) : GoodIn big (a ++ b) := fun w h => (List.mem_append.mp h).elim (ha w) (hb w)
theorem goodIn_ca {big a b : List Cond} {c : Cond} (ha : GoodIn big (c :: a)) (hb : GoodIn big b) : GoodIn big (c :: (a ++ b)) := fun w h => (List.mem_cons.mp h).elim (fun e => ha w (List.mem_cons.mpr (Or.inl e))) (fun h => (List.mem_append.mp h).elim (fun h => ha w (List.mem_cons.mpr (Or.inr h))) (hb w))
theorem goodIn_sub {big ws : List Cond} (hm : ∀ w ∈ ws, w ∈ big) (h : ws.all goodWord = true) : GoodIn big ws := fun w hw => ⟨hm w hw, good_of_word (List.all_eq_true.mp h w hw)⟩
/-! ===== END ===== -/

/-! ===== BEGIN printed: names, fields, word lists, decode rows ===== -/
def RX0 : String := "LiveHull$Chain"
def TX0 : u_T := fun k => match k with
  | 0 => ("LiveHull$Corners", "ranks", "[I", true)
  | _ => ("LiveHull$Corners", "size", "I", false)
def tyX0 : Nat → FieldType := fun k => match k with
  | 0 => .array .int
  | _ => .int
abbrev wsX00 : List Cond := u_ws RX0 TX0 2
theorem nmX0 : ∀ a, a < 2 → ∀ b, b < 2 → a ≠ b → (TX0 a).2.1 ≠ (TX0 b).2.1 := by decide +kernel
theorem tyX0_ok : ∀ k, k < 2 → parseFieldDescriptor (TX0 k).2.2.1 = some (tyX0 k) := by decide +kernel
abbrev cX0_init : ByteArray := prog_2_method_1_code
def yX0_init : MethodName := ⟨RX0, "<init>", "()V"⟩
abbrev cX0_trace : ByteArray := prog_2_method_2_code
def yX0_trace : MethodName := ⟨RX0, "trace", "(LLiveHull$Points;III)V"⟩
abbrev cX0_isOverLast : ByteArray := prog_2_method_3_code
def yX0_isOverLast : MethodName := ⟨RX0, "isOverLast", "(LLiveHull$Points;I)Z"⟩
abbrev cX0_lastStays : ByteArray := prog_2_method_4_code
def yX0_lastStays : MethodName := ⟨RX0, "lastStays", "(LLiveHull$Points;II)Z"⟩
abbrev cX0_lastBefore : ByteArray := prog_2_method_5_code
def yX0_lastBefore : MethodName := ⟨RX0, "lastBefore", "(I)I"⟩
abbrev cX0_firstFrom : ByteArray := prog_2_method_6_code
def yX0_firstFrom : MethodName := ⟨RX0, "firstFrom", "(I)I"⟩
def RX1 : String := "LiveHull$Corners"
def TX1 : u_T := fun k => match k with
  | _ => ("", "", "", false)
def tyX1 : Nat → FieldType := fun k => match k with
  | _ => .int
abbrev wsX10 : List Cond := u_ws RX1 TX1 0
theorem nmX1 : ∀ a, a < 0 → ∀ b, b < 0 → a ≠ b → (TX1 a).2.1 ≠ (TX1 b).2.1 := by decide +kernel
theorem tyX1_ok : ∀ k, k < 0 → parseFieldDescriptor (TX1 k).2.2.1 = some (tyX1 k) := by decide +kernel
abbrev cX1_init : ByteArray := prog_3_method_1_code
def yX1_init : MethodName := ⟨RX1, "<init>", "()V"⟩
abbrev cX1_rankAt : ByteArray := prog_3_method_2_code
def yX1_rankAt : MethodName := ⟨RX1, "rankAt", "(I)I"⟩
abbrev cX1_has : ByteArray := prog_3_method_3_code
def yX1_has : MethodName := ⟨RX1, "has", "(I)Z"⟩
abbrev cX1_append : ByteArray := prog_3_method_4_code
def yX1_append : MethodName := ⟨RX1, "append", "(I)V"⟩
def RX2 : String := "LiveHull$Parts"
def TX2 : u_T := fun k => match k with
  | 0 => ("LiveHull$Parts", "firsts", "[I", true)
  | _ => ("LiveHull$Parts", "sizes", "[I", true)
def tyX2 : Nat → FieldType := fun k => match k with
  | 0 => .array .int
  | _ => .array .int
abbrev wsX20 : List Cond := u_ws RX2 TX2 2
theorem nmX2 : ∀ a, a < 2 → ∀ b, b < 2 → a ≠ b → (TX2 a).2.1 ≠ (TX2 b).2.1 := by decide +kernel
theorem tyX2_ok : ∀ k, k < 2 → parseFieldDescriptor (TX2 k).2.2.1 = some (tyX2 k) := by decide +kernel
abbrev cX2_init : ByteArray := prog_4_method_1_code
def yX2_init : MethodName := ⟨RX2, "<init>", "()V"⟩
abbrev cX2_split : ByteArray := prog_4_method_2_code
def yX2_split : MethodName := ⟨RX2, "split", "(I)V"⟩
abbrev cX2_splitPart : ByteArray := prog_4_method_3_code
def yX2_splitPart : MethodName := ⟨RX2, "splitPart", "(I)V"⟩
abbrev cX2_has : ByteArray := prog_4_method_4_code
def yX2_has : MethodName := ⟨RX2, "has", "(I)Z"⟩
abbrev cX2_hasHalves : ByteArray := prog_4_method_5_code
def yX2_hasHalves : MethodName := ⟨RX2, "hasHalves", "(I)Z"⟩
abbrev cX2_holds : ByteArray := prog_4_method_6_code
def yX2_holds : MethodName := ⟨RX2, "holds", "(II)Z"⟩
abbrev cX2_howMany : ByteArray := prog_4_method_7_code
def yX2_howMany : MethodName := ⟨RX2, "howMany", "()I"⟩
abbrev cX2_greatestDepth : ByteArray := prog_4_method_8_code
def yX2_greatestDepth : MethodName := ⟨RX2, "greatestDepth", "()I"⟩
abbrev cX2_depthOf : ByteArray := prog_4_method_9_code
def yX2_depthOf : MethodName := ⟨RX2, "depthOf", "(I)I"⟩
def RX3 : String := "LiveHull$Points"
def TX3 : u_T := fun k => match k with
  | 0 => ("LiveHull$Points", "ids", "[I", true)
  | 1 => ("LiveHull$Points", "xs", "[I", true)
  | 2 => ("LiveHull$Points", "ys", "[I", true)
  | _ => ("LiveHull$Points", "count", "I", false)
def tyX3 : Nat → FieldType := fun k => match k with
  | 0 => .array .int
  | 1 => .array .int
  | 2 => .array .int
  | _ => .int
abbrev wsX30 : List Cond := u_ws RX3 TX3 4
theorem nmX3 : ∀ a, a < 4 → ∀ b, b < 4 → a ≠ b → (TX3 a).2.1 ≠ (TX3 b).2.1 := by decide +kernel
theorem tyX3_ok : ∀ k, k < 4 → parseFieldDescriptor (TX3 k).2.2.1 = some (tyX3 k) := by decide +kernel
abbrev cX3_init : ByteArray := prog_5_method_1_code
def yX3_init : MethodName := ⟨RX3, "<init>", "()V"⟩
abbrev cX3_idAt : ByteArray := prog_5_method_2_code
def yX3_idAt : MethodName := ⟨RX3, "idAt", "(I)I"⟩
abbrev cX3_rankOf : ByteArray := prog_5_method_3_code
def yX3_rankOf : MethodName := ⟨RX3, "rankOf", "(I)I"⟩
abbrev cX3_isTaken : ByteArray := prog_5_method_4_code
def yX3_isTaken : MethodName := ⟨RX3, "isTaken", "(II)Z"⟩
abbrev cX3_isAt : ByteArray := prog_5_method_5_code
def yX3_isAt : MethodName := ⟨RX3, "isAt", "(III)Z"⟩
abbrev cX3_leastFreeId : ByteArray := prog_5_method_6_code
def yX3_leastFreeId : MethodName := ⟨RX3, "leastFreeId", "()I"⟩
abbrev cX3_insert : ByteArray := prog_5_method_7_code
def yX3_insert : MethodName := ⟨RX3, "insert", "(III)V"⟩
abbrev cX3_delete : ByteArray := prog_5_method_8_code
def yX3_delete : MethodName := ⟨RX3, "delete", "(I)V"⟩
abbrev cX3_copyFrom : ByteArray := prog_5_method_9_code
def yX3_copyFrom : MethodName := ⟨RX3, "copyFrom", "(LLiveHull$Points;)V"⟩
abbrev cX3_isBefore : ByteArray := prog_5_method_10_code
def yX3_isBefore : MethodName := ⟨RX3, "isBefore", "(III)Z"⟩
abbrev cX3_setRow : ByteArray := prog_5_method_11_code
def yX3_setRow : MethodName := ⟨RX3, "setRow", "(IIII)V"⟩
abbrev cX3_turn : ByteArray := prog_5_method_12_code
def yX3_turn : MethodName := ⟨RX3, "turn", "(IIII)J"⟩
abbrev cX3_isBoxed : ByteArray := prog_5_method_13_code
def yX3_isBoxed : MethodName := ⟨RX3, "isBoxed", "(IIII)Z"⟩
abbrev cX3_reach : ByteArray := prog_5_method_14_code
def yX3_reach : MethodName := ⟨RX3, "reach", "(III)J"⟩
abbrev cX3_squaredDistance : ByteArray := prog_5_method_15_code
def yX3_squaredDistance : MethodName := ⟨RX3, "squaredDistance", "(III)J"⟩
def RX4 : String := "LiveHull$Ring"
def TX4 : u_T := fun k => match k with
  | 0 => ("LiveHull$Corners", "ranks", "[I", true)
  | _ => ("LiveHull$Corners", "size", "I", false)
def tyX4 : Nat → FieldType := fun k => match k with
  | 0 => .array .int
  | _ => .int
abbrev wsX40 : List Cond := u_ws RX4 TX4 2
theorem nmX4 : ∀ a, a < 2 → ∀ b, b < 2 → a ≠ b → (TX4 a).2.1 ≠ (TX4 b).2.1 := by decide +kernel
theorem tyX4_ok : ∀ k, k < 2 → parseFieldDescriptor (TX4 k).2.2.1 = some (tyX4 k) := by decide +kernel
abbrev cX4_init : ByteArray := prog_6_method_1_code
def yX4_init : MethodName := ⟨RX4, "<init>", "()V"⟩
abbrev cX4_clear : ByteArray := prog_6_method_2_code
def yX4_clear : MethodName := ⟨RX4, "clear", "()V"⟩
abbrev cX4_takeRightward : ByteArray := prog_6_method_3_code
def yX4_takeRightward : MethodName := ⟨RX4, "takeRightward", "(LLiveHull$Chain;)V"⟩
abbrev cX4_takeLeftward : ByteArray := prog_6_method_4_code
def yX4_takeLeftward : MethodName := ⟨RX4, "takeLeftward", "(LLiveHull$Chain;)V"⟩
abbrev cX4_takeOnce : ByteArray := prog_6_method_5_code
def yX4_takeOnce : MethodName := ⟨RX4, "takeOnce", "(I)V"⟩
abbrev cX4_farthest : ByteArray := prog_6_method_6_code
def yX4_farthest : MethodName := ⟨RX4, "farthest", "(LLiveHull$Points;II)I"⟩
abbrev cX4_isFarther : ByteArray := prog_6_method_7_code
def yX4_isFarther : MethodName := ⟨RX4, "isFarther", "(LLiveHull$Points;IIII)Z"⟩
abbrev cX4_locate : ByteArray := prog_6_method_8_code
def yX4_locate : MethodName := ⟨RX4, "locate", "(LLiveHull$Points;II)I"⟩
abbrev cX4_isAtCorner : ByteArray := prog_6_method_9_code
def yX4_isAtCorner : MethodName := ⟨RX4, "isAtCorner", "(LLiveHull$Points;II)Z"⟩
abbrev cX4_nearestTouching : ByteArray := prog_6_method_10_code
def yX4_nearestTouching : MethodName := ⟨RX4, "nearestTouching", "(LLiveHull$Points;III)I"⟩
abbrev cX4_isTouching : ByteArray := prog_6_method_11_code
def yX4_isTouching : MethodName := ⟨RX4, "isTouching", "(LLiveHull$Points;IIII)Z"⟩
abbrev cX4_isNearer : ByteArray := prog_6_method_12_code
def yX4_isNearer : MethodName := ⟨RX4, "isNearer", "(LLiveHull$Points;IIII)Z"⟩
abbrev cX4_doubleArea : ByteArray := prog_6_method_13_code
def yX4_doubleArea : MethodName := ⟨RX4, "doubleArea", "(LLiveHull$Points;)J"⟩
def RX5 : String := "LiveHull"
def TX5 : u_T := fun k => match k with
  | 0 => ("LiveHull", "points", "LLiveHull$Points;", true)
  | 1 => ("LiveHull", "parts", "LLiveHull$Parts;", true)
  | 2 => ("LiveHull", "traced", "LLiveHull$Chain;", true)
  | 3 => ("LiveHull", "tracedGreater", "LLiveHull$Chain;", true)
  | 4 => ("LiveHull", "ring", "LLiveHull$Ring;", true)
  | 5 => ("LiveHull", "images", "[LLiveHull$Points;", true)
  | _ => ("LiveHull", "kept", "[Z", true)
def tyX5 : Nat → FieldType := fun k => match k with
  | 0 => .object "LiveHull$Points"
  | 1 => .object "LiveHull$Parts"
  | 2 => .object "LiveHull$Chain"
  | 3 => .object "LiveHull$Chain"
  | 4 => .object "LiveHull$Ring"
  | 5 => .array (.object "LiveHull$Points")
  | _ => .array .boolean
abbrev wsX50 : List Cond := u_ws RX5 TX5 7
theorem nmX5 : ∀ a, a < 7 → ∀ b, b < 7 → a ≠ b → (TX5 a).2.1 ≠ (TX5 b).2.1 := by decide +kernel
theorem tyX5_ok : ∀ k, k < 7 → parseFieldDescriptor (TX5 k).2.2.1 = some (tyX5 k) := by decide +kernel
abbrev cX5_init : ByteArray := prog_1_method_1_code
def yX5_init : MethodName := ⟨RX5, "<init>", "()V"⟩
abbrev cX5_add : ByteArray := prog_1_method_2_code
def yX5_add : MethodName := ⟨RX5, "add", "(II)I"⟩
abbrev cX5_remove : ByteArray := prog_1_method_3_code
def yX5_remove : MethodName := ⟨RX5, "remove", "(I)I"⟩
abbrev cX5_move : ByteArray := prog_1_method_4_code
def yX5_move : MethodName := ⟨RX5, "move", "(III)I"⟩
abbrev cX5_point : ByteArray := prog_1_method_5_code
def yX5_point : MethodName := ⟨RX5, "point", "(II)I"⟩
abbrev cX5_ranked : ByteArray := prog_1_method_6_code
def yX5_ranked : MethodName := ⟨RX5, "ranked", "(I)I"⟩
abbrev cX5_part : ByteArray := prog_1_method_7_code
def yX5_part : MethodName := ⟨RX5, "part", "(II)I"⟩
abbrev cX5_chain : ByteArray := prog_1_method_8_code
def yX5_chain : MethodName := ⟨RX5, "chain", "(III)I"⟩
abbrev cX5_bridge : ByteArray := prog_1_method_9_code
def yX5_bridge : MethodName := ⟨RX5, "bridge", "(III)I"⟩
abbrev cX5_round : ByteArray := prog_1_method_10_code
def yX5_round : MethodName := ⟨RX5, "round", "(I)I"⟩
abbrev cX5_extreme : ByteArray := prog_1_method_11_code
def yX5_extreme : MethodName := ⟨RX5, "extreme", "(II)I"⟩
abbrev cX5_where : ByteArray := prog_1_method_12_code
def yX5_where : MethodName := ⟨RX5, "where", "(II)I"⟩
abbrev cX5_touch : ByteArray := prog_1_method_13_code
def yX5_touch : MethodName := ⟨RX5, "touch", "(III)I"⟩
abbrev cX5_area : ByteArray := prog_1_method_14_code
def yX5_area : MethodName := ⟨RX5, "area", "()J"⟩
abbrev cX5_image : ByteArray := prog_1_method_15_code
def yX5_image : MethodName := ⟨RX5, "image", "(I)I"⟩
abbrev cX5_restore : ByteArray := prog_1_method_16_code
def yX5_restore : MethodName := ⟨RX5, "restore", "(I)I"⟩
abbrev cX5_told : ByteArray := prog_1_method_17_code
def yX5_told : MethodName := ⟨RX5, "told", "(I)I"⟩
abbrev cX5_isPlace : ByteArray := prog_1_method_18_code
def yX5_isPlace : MethodName := ⟨RX5, "isPlace", "(II)Z"⟩
abbrev cX5_isSide : ByteArray := prog_1_method_19_code
def yX5_isSide : MethodName := ⟨RX5, "isSide", "(I)Z"⟩
abbrev cX5_isImage : ByteArray := prog_1_method_20_code
def yX5_isImage : MethodName := ⟨RX5, "isImage", "(I)Z"⟩
abbrev cX5_trace : ByteArray := prog_1_method_21_code
def yX5_trace : MethodName := ⟨RX5, "trace", "(LLiveHull$Chain;II)V"⟩
abbrev cX5_cornersOf : ByteArray := prog_1_method_22_code
def yX5_cornersOf : MethodName := ⟨RX5, "cornersOf", "(II)I"⟩
abbrev cX5_restOf : ByteArray := prog_1_method_23_code
def yX5_restOf : MethodName := ⟨RX5, "restOf", "(II)I"⟩
abbrev cX5_topOf : ByteArray := prog_1_method_24_code
def yX5_topOf : MethodName := ⟨RX5, "topOf", "(II)I"⟩
abbrev cX5_cornersOfAll : ByteArray := prog_1_method_25_code
def yX5_cornersOfAll : MethodName := ⟨RX5, "cornersOfAll", "()I"⟩
abbrev cX5_restsOfAll : ByteArray := prog_1_method_26_code
def yX5_restsOfAll : MethodName := ⟨RX5, "restsOfAll", "()I"⟩
abbrev cX5_gatherRing : ByteArray := prog_1_method_27_code
def yX5_gatherRing : MethodName := ⟨RX5, "gatherRing", "()V"⟩
def RX6 : String := "LiveHullModel"
def TX6 : u_T := fun k => match k with
  | 0 => ("LiveHullModel", "xs", "[I", true)
  | 1 => ("LiveHullModel", "ys", "[I", true)
  | 2 => ("LiveHullModel", "is", "[Z", true)
  | 3 => ("LiveHullModel", "many", "I", false)
  | 4 => ("LiveHullModel", "ranks", "[I", true)
  | 5 => ("LiveHullModel", "rankOf", "[I", true)
  | 6 => ("LiveHullModel", "from", "I", false)
  | 7 => ("LiveHullModel", "to", "I", false)
  | 8 => ("LiveHullModel", "depth", "I", false)
  | 9 => ("LiveHullModel", "corner", "[I", true)
  | 10 => ("LiveHullModel", "corners", "I", false)
  | 11 => ("LiveHullModel", "ring", "[I", true)
  | 12 => ("LiveHullModel", "rings", "I", false)
  | 13 => ("LiveHullModel", "image", "[I", true)
  | 14 => ("LiveHullModel", "imageSet", "[J", true)
  | _ => ("LiveHullModel", "isKept", "[Z", true)
def tyX6 : Nat → FieldType := fun k => match k with
  | 0 => .array .int
  | 1 => .array .int
  | 2 => .array .boolean
  | 3 => .int
  | 4 => .array .int
  | 5 => .array .int
  | 6 => .int
  | 7 => .int
  | 8 => .int
  | 9 => .array .int
  | 10 => .int
  | 11 => .array .int
  | 12 => .int
  | 13 => .array .int
  | 14 => .array .long
  | _ => .array .boolean
abbrev wsX60 : List Cond := u_ws RX6 TX6 16
theorem nmX6 : ∀ a, a < 16 → ∀ b, b < 16 → a ≠ b → (TX6 a).2.1 ≠ (TX6 b).2.1 := by decide +kernel
theorem tyX6_ok : ∀ k, k < 16 → parseFieldDescriptor (TX6 k).2.2.1 = some (tyX6 k) := by decide +kernel
abbrev cX6_init : ByteArray := prog_8_method_1_code
def yX6_init : MethodName := ⟨RX6, "<init>", "()V"⟩
abbrev cX6_in : ByteArray := prog_8_method_2_code
def yX6_in : MethodName := ⟨RX6, "in", "(III)Z"⟩
abbrev cX6_isPlace : ByteArray := prog_8_method_3_code
def yX6_isPlace : MethodName := ⟨RX6, "isPlace", "(II)Z"⟩
abbrev cX6_isPoint : ByteArray := prog_8_method_4_code
def yX6_isPoint : MethodName := ⟨RX6, "isPoint", "(I)Z"⟩
abbrev cX6_isTaken : ByteArray := prog_8_method_5_code
def yX6_isTaken : MethodName := ⟨RX6, "isTaken", "(II)Z"⟩
abbrev cX6_add : ByteArray := prog_8_method_6_code
def yX6_add : MethodName := ⟨RX6, "add", "(II)I"⟩
abbrev cX6_remove : ByteArray := prog_8_method_7_code
def yX6_remove : MethodName := ⟨RX6, "remove", "(I)I"⟩
abbrev cX6_move : ByteArray := prog_8_method_8_code
def yX6_move : MethodName := ⟨RX6, "move", "(III)I"⟩
abbrev cX6_layRanks : ByteArray := prog_8_method_9_code
def yX6_layRanks : MethodName := ⟨RX6, "layRanks", "()V"⟩
abbrev cX6_layPart : ByteArray := prog_8_method_10_code
def yX6_layPart : MethodName := ⟨RX6, "layPart", "(I)Z"⟩
abbrev cX6_cross : ByteArray := prog_8_method_11_code
def yX6_cross : MethodName := ⟨RX6, "cross", "(JJJJJJ)J"⟩
abbrev cX6_bend : ByteArray := prog_8_method_12_code
def yX6_bend : MethodName := ⟨RX6, "bend", "(III)J"⟩
abbrev cX6_layChain : ByteArray := prog_8_method_13_code
def yX6_layChain : MethodName := ⟨RX6, "layChain", "(I)V"⟩
abbrev cX6_cornerSet : ByteArray := prog_8_method_14_code
def yX6_cornerSet : MethodName := ⟨RX6, "cornerSet", "()J"⟩
abbrev cX6_chainSet : ByteArray := prog_8_method_15_code
def yX6_chainSet : MethodName := ⟨RX6, "chainSet", "(II)J"⟩
abbrev cX6_bits : ByteArray := prog_8_method_16_code
def yX6_bits : MethodName := ⟨RX6, "bits", "(J)I"⟩
abbrev cX6_restOf : ByteArray := prog_8_method_17_code
def yX6_restOf : MethodName := ⟨RX6, "restOf", "(II)I"⟩
abbrev cX6_topOf : ByteArray := prog_8_method_18_code
def yX6_topOf : MethodName := ⟨RX6, "topOf", "(II)I"⟩
abbrev cX6_point : ByteArray := prog_8_method_19_code
def yX6_point : MethodName := ⟨RX6, "point", "(II)I"⟩
abbrev cX6_ranked : ByteArray := prog_8_method_20_code
def yX6_ranked : MethodName := ⟨RX6, "ranked", "(I)I"⟩
abbrev cX6_part : ByteArray := prog_8_method_21_code
def yX6_part : MethodName := ⟨RX6, "part", "(II)I"⟩
abbrev cX6_chain : ByteArray := prog_8_method_22_code
def yX6_chain : MethodName := ⟨RX6, "chain", "(III)I"⟩
abbrev cX6_bridge : ByteArray := prog_8_method_23_code
def yX6_bridge : MethodName := ⟨RX6, "bridge", "(III)I"⟩
abbrev cX6_ringUp : ByteArray := prog_8_method_24_code
def yX6_ringUp : MethodName := ⟨RX6, "ringUp", "(I)V"⟩
abbrev cX6_layRound : ByteArray := prog_8_method_25_code
def yX6_layRound : MethodName := ⟨RX6, "layRound", "()V"⟩
abbrev cX6_round : ByteArray := prog_8_method_26_code
def yX6_round : MethodName := ⟨RX6, "round", "(I)I"⟩
abbrev cX6_extreme : ByteArray := prog_8_method_27_code
def yX6_extreme : MethodName := ⟨RX6, "extreme", "(II)I"⟩
abbrev cX6_isBetween : ByteArray := prog_8_method_28_code
def yX6_isBetween : MethodName := ⟨RX6, "isBetween", "(III)Z"⟩
abbrev cX6_whereOf : ByteArray := prog_8_method_29_code
def yX6_whereOf : MethodName := ⟨RX6, "whereOf", "(II)I"⟩
abbrev cX6_where : ByteArray := prog_8_method_30_code
def yX6_where : MethodName := ⟨RX6, "where", "(II)I"⟩
abbrev cX6_square : ByteArray := prog_8_method_31_code
def yX6_square : MethodName := ⟨RX6, "square", "(III)J"⟩
abbrev cX6_touch : ByteArray := prog_8_method_32_code
def yX6_touch : MethodName := ⟨RX6, "touch", "(III)I"⟩
abbrev cX6_area : ByteArray := prog_8_method_33_code
def yX6_area : MethodName := ⟨RX6, "area", "()J"⟩
abbrev cX6_image : ByteArray := prog_8_method_34_code
def yX6_image : MethodName := ⟨RX6, "image", "(I)I"⟩
abbrev cX6_restore : ByteArray := prog_8_method_35_code
def yX6_restore : MethodName := ⟨RX6, "restore", "(I)I"⟩
abbrev cX6_told : ByteArray := prog_8_method_36_code
def yX6_told : MethodName := ⟨RX6, "told", "(I)I"⟩
def RJ9 : String := "java/lang/Math"
def TJ9 : u_T := fun k => match k with
  | _ => ("", "", "", false)
def tyJ9 : Nat → FieldType := fun k => match k with
  | _ => .int
abbrev wsJ90 : List Cond := u_ws RJ9 TJ9 0
theorem nmJ9 : ∀ a, a < 0 → ∀ b, b < 0 → a ≠ b → (TJ9 a).2.1 ≠ (TJ9 b).2.1 := by decide +kernel
theorem tyJ9_ok : ∀ k, k < 0 → parseFieldDescriptor (TJ9 k).2.2.1 = some (tyJ9 k) := by decide +kernel
abbrev cJ9_max_7cf53 : ByteArray := prog_9_method_65_code
def yJ9_max_7cf53 : MethodName := ⟨RJ9, "max", "(II)I"⟩
abbrev cJ9_min_7cf53 : ByteArray := prog_9_method_69_code
def yJ9_min_7cf53 : MethodName := ⟨RJ9, "min", "(II)I"⟩
def RL : String := "LiveHullLaw"
abbrev cL_law : ByteArray := code
def yL_law : MethodName := ⟨RL, "law", "([I)Z"⟩
def wsX1_init : List Cond := .code yX1_init cX1_init 1 none :: ([.methodLink RX1 3 objectInit, .instanceMethod objectInit, .code objectInit ⟨#[0xb1]⟩ 1 none, .arrayClass .int, .fieldLink RX1 9 "LiveHull$Corners" "ranks" "[I", .fieldLink RX1 15 "LiveHull$Corners" "size" "I"] ++ wsX00 ++ wsX40)
def wsX0_init : List Cond := .code yX0_init cX0_init 1 none :: ([.instanceMethod yX1_init, .initialized RX1, .code yX1_init cX1_init 1 none, .methodLink RX1 3 objectInit, .instanceMethod objectInit, .code objectInit ⟨#[0xb1]⟩ 1 none, .arrayClass .int, .fieldLink RX1 9 "LiveHull$Corners" "ranks" "[I", .fieldLink RX1 15 "LiveHull$Corners" "size" "I"] ++ wsX00 ++ wsX40)
def wsX0_isOverLast : List Cond := .code yX0_isOverLast cX0_isOverLast 3 (some .boolean) :: ([.fieldLink RX0 9 "LiveHull$Chain" "size" "I", .sameField "LiveHull$Chain" "LiveHull$Corners" "size" "I", .fieldLink RX0 27 "LiveHull$Points" "xs" "[I", .fieldLink RX0 33 "LiveHull$Chain" "ranks" "[I", .sameField "LiveHull$Chain" "LiveHull$Corners" "ranks" "[I"] ++ wsX00 ++ wsX40 ++ wsX30)
def wsX3_turn : List Cond := .code yX3_turn cX3_turn 13 (some .long) :: ([.fieldLink RX3 15 "LiveHull$Points" "xs" "[I", .fieldLink RX3 18 "LiveHull$Points" "ys" "[I"] ++ wsX30)
def wsX0_lastStays : List Cond := .code yX0_lastStays cX0_lastStays 8 (some .boolean) :: ([.fieldLink RX0 9 "LiveHull$Chain" "size" "I", .sameField "LiveHull$Chain" "LiveHull$Corners" "size" "I", .fieldLink RX0 27 "LiveHull$Points" "xs" "[I", .fieldLink RX0 36 "LiveHull$Points" "ys" "[I", .fieldLink RX0 33 "LiveHull$Chain" "ranks" "[I", .sameField "LiveHull$Chain" "LiveHull$Corners" "ranks" "[I", .methodLink RX0 15 yX0_isOverLast, .instanceMethod yX0_isOverLast, .selects RX0 yX0_isOverLast yX0_isOverLast, .initialized RX0, .code yX0_isOverLast cX0_isOverLast 3 (some .boolean), .methodLink RX0 39 yX3_turn, .instanceMethod yX3_turn, .selects RX3 yX3_turn yX3_turn, .initialized RX3, .code yX3_turn cX3_turn 13 (some .long), .fieldLink RX3 15 "LiveHull$Points" "xs" "[I", .fieldLink RX3 18 "LiveHull$Points" "ys" "[I"] ++ wsX00 ++ wsX40 ++ wsX30)
def wsX1_append : List Cond := .code yX1_append cX1_append 2 none :: ([.fieldLink RX1 15 "LiveHull$Corners" "size" "I", .fieldLink RX1 9 "LiveHull$Corners" "ranks" "[I"] ++ wsX00 ++ wsX40)
def wsX0_trace_r1 : List Cond := [Cond.fieldLink RX0 9 "LiveHull$Chain" "size" "I", Cond.sameField "LiveHull$Chain" "LiveHull$Corners" "size" "I", Cond.methodLink RX0 15 yX0_isOverLast, Cond.instanceMethod yX0_isOverLast, Cond.selects RX0 yX0_isOverLast yX0_isOverLast, Cond.initialized RX0, Cond.code yX0_isOverLast cX0_isOverLast 3 (some .boolean), Cond.fieldLink RX0 27 "LiveHull$Points" "xs" "[I", Cond.fieldLink RX0 33 "LiveHull$Chain" "ranks" "[I", Cond.sameField "LiveHull$Chain" "LiveHull$Corners" "ranks" "[I", Cond.methodLink RX0 19 yX0_lastStays, Cond.instanceMethod yX0_lastStays, Cond.selects RX0 yX0_lastStays yX0_lastStays, Cond.code yX0_lastStays cX0_lastStays 8 (some .boolean), Cond.fieldLink RX0 36 "LiveHull$Points" "ys" "[I", Cond.methodLink RX0 39 yX3_turn, Cond.instanceMethod yX3_turn, Cond.selects RX3 yX3_turn yX3_turn, Cond.initialized RX3, Cond.code yX3_turn cX3_turn 13 (some .long), Cond.fieldLink RX3 15 "LiveHull$Points" "xs" "[I", Cond.fieldLink RX3 18 "LiveHull$Points" "ys" "[I", Cond.methodLink RX0 23 ⟨"LiveHull$Chain", "append", "(I)V"⟩, Cond.sameMethod "LiveHull$Chain" "LiveHull$Corners" "append" "(I)V"]
def wsX0_trace_r2 : List Cond := [Cond.selects RX0 ⟨"LiveHull$Chain", "append", "(I)V"⟩ yX1_append, Cond.instanceMethod yX1_append, Cond.initialized RX1, Cond.code yX1_append cX1_append 2 none, Cond.fieldLink RX1 15 "LiveHull$Corners" "size" "I", Cond.fieldLink RX1 9 "LiveHull$Corners" "ranks" "[I"]
def wsX0_trace : List Cond := .code yX0_trace cX0_trace 6 none :: ((wsX0_trace_r1 ++ wsX0_trace_r2) ++ wsX00 ++ wsX40 ++ wsX30)
def wsX0_lastBefore : List Cond := .code yX0_lastBefore cX0_lastBefore 3 (some .int) :: ([.fieldLink RX0 9 "LiveHull$Chain" "size" "I", .sameField "LiveHull$Chain" "LiveHull$Corners" "size" "I", .fieldLink RX0 33 "LiveHull$Chain" "ranks" "[I", .sameField "LiveHull$Chain" "LiveHull$Corners" "ranks" "[I"] ++ wsX00 ++ wsX40)
def wsX0_firstFrom : List Cond := .code yX0_firstFrom cX0_firstFrom 3 (some .int) :: ([.fieldLink RX0 9 "LiveHull$Chain" "size" "I", .sameField "LiveHull$Chain" "LiveHull$Corners" "size" "I", .fieldLink RX0 33 "LiveHull$Chain" "ranks" "[I", .sameField "LiveHull$Chain" "LiveHull$Corners" "ranks" "[I"] ++ wsX00 ++ wsX40)
def wsX1_rankAt : List Cond := .code yX1_rankAt cX1_rankAt 2 (some .int) :: ([.fieldLink RX1 15 "LiveHull$Corners" "size" "I", .fieldLink RX1 9 "LiveHull$Corners" "ranks" "[I"] ++ wsX00 ++ wsX40)
def wsX1_has : List Cond := .code yX1_has cX1_has 3 (some .boolean) :: ([.fieldLink RX1 15 "LiveHull$Corners" "size" "I", .fieldLink RX1 9 "LiveHull$Corners" "ranks" "[I"] ++ wsX00 ++ wsX40)
def wsX2_init : List Cond := .code yX2_init cX2_init 1 none :: ([.methodLink RX2 3 objectInit, .instanceMethod objectInit, .code objectInit ⟨#[0xb1]⟩ 1 none, .arrayClass .int, .fieldLink RX2 9 "LiveHull$Parts" "firsts" "[I", .fieldLink RX2 15 "LiveHull$Parts" "sizes" "[I"] ++ wsX20)
def wsX2_splitPart : List Cond := .code yX2_splitPart cX2_splitPart 5 none :: ([.fieldLink RX2 15 "LiveHull$Parts" "sizes" "[I", .fieldLink RX2 9 "LiveHull$Parts" "firsts" "[I"] ++ wsX20)
def wsX2_split : List Cond := .code yX2_split cX2_split 3 none :: ([.fieldLink RX2 9 "LiveHull$Parts" "firsts" "[I", .fieldLink RX2 15 "LiveHull$Parts" "sizes" "[I", .methodLink RX2 18 yX2_splitPart, .instanceMethod yX2_splitPart, .selects RX2 yX2_splitPart yX2_splitPart, .initialized RX2, .code yX2_splitPart cX2_splitPart 5 none] ++ wsX20)
def wsX2_has : List Cond := .code yX2_has cX2_has 2 (some .boolean) :: ([.fieldLink RX2 15 "LiveHull$Parts" "sizes" "[I"] ++ wsX20)
def wsX2_hasHalves : List Cond := .code yX2_hasHalves cX2_hasHalves 2 (some .boolean) :: ([.fieldLink RX2 15 "LiveHull$Parts" "sizes" "[I", .methodLink RX2 22 yX2_has, .instanceMethod yX2_has, .selects RX2 yX2_has yX2_has, .initialized RX2, .code yX2_has cX2_has 2 (some .boolean)] ++ wsX20)
def wsX2_holds : List Cond := .code yX2_holds cX2_holds 3 (some .boolean) :: ([.fieldLink RX2 9 "LiveHull$Parts" "firsts" "[I", .fieldLink RX2 15 "LiveHull$Parts" "sizes" "[I", .methodLink RX2 22 yX2_has, .instanceMethod yX2_has, .selects RX2 yX2_has yX2_has, .initialized RX2, .code yX2_has cX2_has 2 (some .boolean)] ++ wsX20)
def wsX2_howMany : List Cond := .code yX2_howMany cX2_howMany 3 (some .int) :: ([.methodLink RX2 22 yX2_has, .instanceMethod yX2_has, .selects RX2 yX2_has yX2_has, .initialized RX2, .code yX2_has cX2_has 2 (some .boolean), .fieldLink RX2 15 "LiveHull$Parts" "sizes" "[I"] ++ wsX20)
def wsX2_depthOf : List Cond := .code yX2_depthOf cX2_depthOf 3 (some .int) :: ([])
def wsX2_greatestDepth : List Cond := .code yX2_greatestDepth cX2_greatestDepth 2 (some .int) :: ([.methodLink RX2 22 yX2_has, .instanceMethod yX2_has, .selects RX2 yX2_has yX2_has, .initialized RX2, .code yX2_has cX2_has 2 (some .boolean), .fieldLink RX2 15 "LiveHull$Parts" "sizes" "[I", .methodLink RX2 26 yX2_depthOf, .static yX2_depthOf, .code yX2_depthOf cX2_depthOf 3 (some .int)] ++ wsX20)
def wsX3_init : List Cond := .code yX3_init cX3_init 1 none :: ([.methodLink RX3 3 objectInit, .instanceMethod objectInit, .code objectInit ⟨#[0xb1]⟩ 1 none, .arrayClass .int, .fieldLink RX3 9 "LiveHull$Points" "ids" "[I", .fieldLink RX3 15 "LiveHull$Points" "xs" "[I", .fieldLink RX3 18 "LiveHull$Points" "ys" "[I", .fieldLink RX3 21 "LiveHull$Points" "count" "I"] ++ wsX30)
def wsX3_idAt : List Cond := .code yX3_idAt cX3_idAt 2 (some .int) :: ([.fieldLink RX3 21 "LiveHull$Points" "count" "I", .fieldLink RX3 9 "LiveHull$Points" "ids" "[I"] ++ wsX30)
def wsX3_rankOf : List Cond := .code yX3_rankOf cX3_rankOf 3 (some .int) :: ([.fieldLink RX3 21 "LiveHull$Points" "count" "I", .fieldLink RX3 9 "LiveHull$Points" "ids" "[I"] ++ wsX30)
def wsX3_isAt : List Cond := .code yX3_isAt cX3_isAt 4 (some .boolean) :: ([.fieldLink RX3 15 "LiveHull$Points" "xs" "[I", .fieldLink RX3 18 "LiveHull$Points" "ys" "[I"] ++ wsX30)
def wsX3_isTaken : List Cond := .code yX3_isTaken cX3_isTaken 4 (some .boolean) :: ([.fieldLink RX3 21 "LiveHull$Points" "count" "I", .methodLink RX3 25 yX3_isAt, .instanceMethod yX3_isAt, .selects RX3 yX3_isAt yX3_isAt, .initialized RX3, .code yX3_isAt cX3_isAt 4 (some .boolean), .fieldLink RX3 15 "LiveHull$Points" "xs" "[I", .fieldLink RX3 18 "LiveHull$Points" "ys" "[I"] ++ wsX30)
def wsX3_leastFreeId : List Cond := .code yX3_leastFreeId cX3_leastFreeId 2 (some .int) :: ([.methodLink RX3 29 yX3_rankOf, .instanceMethod yX3_rankOf, .selects RX3 yX3_rankOf yX3_rankOf, .initialized RX3, .code yX3_rankOf cX3_rankOf 3 (some .int), .fieldLink RX3 21 "LiveHull$Points" "count" "I", .fieldLink RX3 9 "LiveHull$Points" "ids" "[I"] ++ wsX30)
def wsX3_isBefore : List Cond := .code yX3_isBefore cX3_isBefore 4 (some .boolean) :: ([.fieldLink RX3 15 "LiveHull$Points" "xs" "[I", .fieldLink RX3 18 "LiveHull$Points" "ys" "[I"] ++ wsX30)
def wsX3_setRow : List Cond := .code yX3_setRow cX3_setRow 5 none :: ([.fieldLink RX3 9 "LiveHull$Points" "ids" "[I", .fieldLink RX3 15 "LiveHull$Points" "xs" "[I", .fieldLink RX3 18 "LiveHull$Points" "ys" "[I"] ++ wsX30)
def wsX3_insert : List Cond := .code yX3_insert cX3_insert 5 none :: ([.fieldLink RX3 21 "LiveHull$Points" "count" "I", .fieldLink RX3 9 "LiveHull$Points" "ids" "[I", .fieldLink RX3 15 "LiveHull$Points" "xs" "[I", .fieldLink RX3 18 "LiveHull$Points" "ys" "[I", .methodLink RX3 33 yX3_isBefore, .instanceMethod yX3_isBefore, .selects RX3 yX3_isBefore yX3_isBefore, .initialized RX3, .code yX3_isBefore cX3_isBefore 4 (some .boolean), .methodLink RX3 36 yX3_setRow, .instanceMethod yX3_setRow, .selects RX3 yX3_setRow yX3_setRow, .code yX3_setRow cX3_setRow 5 none] ++ wsX30)
def wsX3_delete : List Cond := .code yX3_delete cX3_delete 3 none :: ([.fieldLink RX3 21 "LiveHull$Points" "count" "I", .fieldLink RX3 9 "LiveHull$Points" "ids" "[I", .fieldLink RX3 15 "LiveHull$Points" "xs" "[I", .fieldLink RX3 18 "LiveHull$Points" "ys" "[I", .methodLink RX3 36 yX3_setRow, .instanceMethod yX3_setRow, .selects RX3 yX3_setRow yX3_setRow, .initialized RX3, .code yX3_setRow cX3_setRow 5 none] ++ wsX30)
def wsX3_copyFrom : List Cond := .code yX3_copyFrom cX3_copyFrom 3 none :: ([.fieldLink RX3 21 "LiveHull$Points" "count" "I", .fieldLink RX3 9 "LiveHull$Points" "ids" "[I", .fieldLink RX3 15 "LiveHull$Points" "xs" "[I", .fieldLink RX3 18 "LiveHull$Points" "ys" "[I", .methodLink RX3 36 yX3_setRow, .instanceMethod yX3_setRow, .selects RX3 yX3_setRow yX3_setRow, .initialized RX3, .code yX3_setRow cX3_setRow 5 none] ++ wsX30)
def wsX3_isBoxed : List Cond := .code yX3_isBoxed cX3_isBoxed 5 (some .boolean) :: ([.fieldLink RX3 15 "LiveHull$Points" "xs" "[I", .methodLink RX3 40 Lib.Math.min.name, .static Lib.Math.min.name, .initialized "java/lang/Math", .code Lib.Math.min.name Lib.Math.min.code 2 (some .int), .methodLink RX3 46 Lib.Math.max.name, .static Lib.Math.max.name, .code Lib.Math.max.name Lib.Math.max.code 2 (some .int), .fieldLink RX3 18 "LiveHull$Points" "ys" "[I"] ++ wsX30)
def wsX3_reach : List Cond := .code yX3_reach cX3_reach 4 (some .long) :: ([.fieldLink RX3 15 "LiveHull$Points" "xs" "[I", .fieldLink RX3 18 "LiveHull$Points" "ys" "[I"] ++ wsX30)
def wsX3_squaredDistance : List Cond := .code yX3_squaredDistance cX3_squaredDistance 8 (some .long) :: ([.fieldLink RX3 15 "LiveHull$Points" "xs" "[I", .fieldLink RX3 18 "LiveHull$Points" "ys" "[I"] ++ wsX30)
def wsX4_init : List Cond := .code yX4_init cX4_init 1 none :: ([.instanceMethod yX1_init, .initialized RX1, .code yX1_init cX1_init 1 none, .methodLink RX1 3 objectInit, .instanceMethod objectInit, .code objectInit ⟨#[0xb1]⟩ 1 none, .arrayClass .int, .fieldLink RX1 9 "LiveHull$Corners" "ranks" "[I", .fieldLink RX1 15 "LiveHull$Corners" "size" "I"] ++ wsX00 ++ wsX40)
def wsX4_clear : List Cond := .code yX4_clear cX4_clear 1 none :: ([.fieldLink RX4 9 "LiveHull$Ring" "size" "I", .sameField "LiveHull$Ring" "LiveHull$Corners" "size" "I"] ++ wsX00 ++ wsX40)
def wsX4_takeOnce : List Cond := .code yX4_takeOnce cX4_takeOnce 2 none :: ([.methodLink RX4 26 ⟨"LiveHull$Ring", "has", "(I)Z"⟩, .sameMethod "LiveHull$Ring" "LiveHull$Corners" "has" "(I)Z", .selects RX4 ⟨"LiveHull$Ring", "has", "(I)Z"⟩ yX1_has, .instanceMethod yX1_has, .initialized RX1, .code yX1_has cX1_has 3 (some .boolean), .fieldLink RX1 15 "LiveHull$Corners" "size" "I", .fieldLink RX1 9 "LiveHull$Corners" "ranks" "[I", .methodLink RX4 30 ⟨"LiveHull$Ring", "append", "(I)V"⟩, .sameMethod "LiveHull$Ring" "LiveHull$Corners" "append" "(I)V", .selects RX4 ⟨"LiveHull$Ring", "append", "(I)V"⟩ yX1_append, .instanceMethod yX1_append, .code yX1_append cX1_append 2 none] ++ wsX00 ++ wsX40)
def wsX4_takeRightward : List Cond := .code yX4_takeRightward cX4_takeRightward 3 none :: ([.fieldLink RX4 15 "LiveHull$Chain" "size" "I", .sameField "LiveHull$Chain" "LiveHull$Corners" "size" "I", .fieldLink RX4 18 "LiveHull$Chain" "ranks" "[I", .sameField "LiveHull$Chain" "LiveHull$Corners" "ranks" "[I", .methodLink RX4 22 yX4_takeOnce, .instanceMethod yX4_takeOnce, .selects RX4 yX4_takeOnce yX4_takeOnce, .initialized RX4, .code yX4_takeOnce cX4_takeOnce 2 none, .methodLink RX4 26 ⟨"LiveHull$Ring", "has", "(I)Z"⟩, .sameMethod "LiveHull$Ring" "LiveHull$Corners" "has" "(I)Z", .selects RX4 ⟨"LiveHull$Ring", "has", "(I)Z"⟩ yX1_has, .instanceMethod yX1_has, .initialized RX1, .code yX1_has cX1_has 3 (some .boolean), .fieldLink RX1 15 "LiveHull$Corners" "size" "I", .fieldLink RX1 9 "LiveHull$Corners" "ranks" "[I", .methodLink RX4 30 ⟨"LiveHull$Ring", "append", "(I)V"⟩, .sameMethod "LiveHull$Ring" "LiveHull$Corners" "append" "(I)V", .selects RX4 ⟨"LiveHull$Ring", "append", "(I)V"⟩ yX1_append, .instanceMethod yX1_append, .code yX1_append cX1_append 2 none] ++ wsX00 ++ wsX40)
def wsX4_takeLeftward : List Cond := .code yX4_takeLeftward cX4_takeLeftward 3 none :: ([.fieldLink RX4 15 "LiveHull$Chain" "size" "I", .sameField "LiveHull$Chain" "LiveHull$Corners" "size" "I", .fieldLink RX4 18 "LiveHull$Chain" "ranks" "[I", .sameField "LiveHull$Chain" "LiveHull$Corners" "ranks" "[I", .methodLink RX4 22 yX4_takeOnce, .instanceMethod yX4_takeOnce, .selects RX4 yX4_takeOnce yX4_takeOnce, .initialized RX4, .code yX4_takeOnce cX4_takeOnce 2 none, .methodLink RX4 26 ⟨"LiveHull$Ring", "has", "(I)Z"⟩, .sameMethod "LiveHull$Ring" "LiveHull$Corners" "has" "(I)Z", .selects RX4 ⟨"LiveHull$Ring", "has", "(I)Z"⟩ yX1_has, .instanceMethod yX1_has, .initialized RX1, .code yX1_has cX1_has 3 (some .boolean), .fieldLink RX1 15 "LiveHull$Corners" "size" "I", .fieldLink RX1 9 "LiveHull$Corners" "ranks" "[I", .methodLink RX4 30 ⟨"LiveHull$Ring", "append", "(I)V"⟩, .sameMethod "LiveHull$Ring" "LiveHull$Corners" "append" "(I)V", .selects RX4 ⟨"LiveHull$Ring", "append", "(I)V"⟩ yX1_append, .instanceMethod yX1_append, .code yX1_append cX1_append 2 none] ++ wsX00 ++ wsX40)
def wsX4_isFarther : List Cond := .code yX4_isFarther cX4_isFarther 9 (some .boolean) :: ([.methodLink RX4 38 yX3_reach, .instanceMethod yX3_reach, .selects RX3 yX3_reach yX3_reach, .initialized RX3, .code yX3_reach cX3_reach 4 (some .long), .fieldLink RX3 15 "LiveHull$Points" "xs" "[I", .fieldLink RX3 18 "LiveHull$Points" "ys" "[I"] ++ wsX30)
def wsX4_farthest : List Cond := .code yX4_farthest cX4_farthest 6 (some .int) :: ([.fieldLink RX4 9 "LiveHull$Ring" "size" "I", .sameField "LiveHull$Ring" "LiveHull$Corners" "size" "I", .fieldLink RX4 33 "LiveHull$Ring" "ranks" "[I", .sameField "LiveHull$Ring" "LiveHull$Corners" "ranks" "[I", .methodLink RX4 34 yX4_isFarther, .static yX4_isFarther, .initialized RX4, .code yX4_isFarther cX4_isFarther 9 (some .boolean), .methodLink RX4 38 yX3_reach, .instanceMethod yX3_reach, .selects RX3 yX3_reach yX3_reach, .initialized RX3, .code yX3_reach cX3_reach 4 (some .long), .fieldLink RX3 15 "LiveHull$Points" "xs" "[I", .fieldLink RX3 18 "LiveHull$Points" "ys" "[I"] ++ wsX00 ++ wsX40 ++ wsX30)
def wsX4_isAtCorner : List Cond := .code yX4_isAtCorner cX4_isAtCorner 5 (some .boolean) :: ([.fieldLink RX4 9 "LiveHull$Ring" "size" "I", .sameField "LiveHull$Ring" "LiveHull$Corners" "size" "I", .fieldLink RX4 33 "LiveHull$Ring" "ranks" "[I", .sameField "LiveHull$Ring" "LiveHull$Corners" "ranks" "[I", .methodLink RX4 56 yX3_isAt, .instanceMethod yX3_isAt, .selects RX3 yX3_isAt yX3_isAt, .initialized RX3, .code yX3_isAt cX3_isAt 4 (some .boolean), .fieldLink RX3 15 "LiveHull$Points" "xs" "[I", .fieldLink RX3 18 "LiveHull$Points" "ys" "[I"] ++ wsX00 ++ wsX40 ++ wsX30)
def wsX4_locate_r1 : List Cond := [Cond.fieldLink RX4 9 "LiveHull$Ring" "size" "I", Cond.sameField "LiveHull$Ring" "LiveHull$Corners" "size" "I", Cond.fieldLink RX4 33 "LiveHull$Ring" "ranks" "[I", Cond.sameField "LiveHull$Ring" "LiveHull$Corners" "ranks" "[I", Cond.methodLink RX4 44 yX4_isAtCorner, Cond.instanceMethod yX4_isAtCorner, Cond.selects RX4 yX4_isAtCorner yX4_isAtCorner, Cond.initialized RX4, Cond.code yX4_isAtCorner cX4_isAtCorner 5 (some .boolean), Cond.methodLink RX4 56 yX3_isAt, Cond.instanceMethod yX3_isAt, Cond.selects RX3 yX3_isAt yX3_isAt, Cond.initialized RX3, Cond.code yX3_isAt cX3_isAt 4 (some .boolean), Cond.fieldLink RX3 15 "LiveHull$Points" "xs" "[I", Cond.fieldLink RX3 18 "LiveHull$Points" "ys" "[I", Cond.methodLink RX4 48 yX3_turn, Cond.instanceMethod yX3_turn, Cond.selects RX3 yX3_turn yX3_turn, Cond.code yX3_turn cX3_turn 13 (some .long), Cond.methodLink RX4 52 yX3_isBoxed, Cond.instanceMethod yX3_isBoxed, Cond.selects RX3 yX3_isBoxed yX3_isBoxed, Cond.code yX3_isBoxed cX3_isBoxed 5 (some .boolean)]
def wsX4_locate_r2 : List Cond := [Cond.methodLink RX3 40 Lib.Math.min.name, Cond.static Lib.Math.min.name, Cond.initialized "java/lang/Math", Cond.code Lib.Math.min.name Lib.Math.min.code 2 (some .int), Cond.methodLink RX3 46 Lib.Math.max.name, Cond.static Lib.Math.max.name, Cond.code Lib.Math.max.name Lib.Math.max.code 2 (some .int)]
def wsX4_locate : List Cond := .code yX4_locate cX4_locate 9 (some .int) :: ((wsX4_locate_r1 ++ wsX4_locate_r2) ++ wsX00 ++ wsX40 ++ wsX30)
def wsX4_isTouching : List Cond := .code yX4_isTouching cX4_isTouching 9 (some .boolean) :: ([.fieldLink RX4 9 "LiveHull$Ring" "size" "I", .sameField "LiveHull$Ring" "LiveHull$Corners" "size" "I", .fieldLink RX4 33 "LiveHull$Ring" "ranks" "[I", .sameField "LiveHull$Ring" "LiveHull$Corners" "ranks" "[I", .methodLink RX4 48 yX3_turn, .instanceMethod yX3_turn, .selects RX3 yX3_turn yX3_turn, .initialized RX3, .code yX3_turn cX3_turn 13 (some .long), .fieldLink RX3 15 "LiveHull$Points" "xs" "[I", .fieldLink RX3 18 "LiveHull$Points" "ys" "[I"] ++ wsX00 ++ wsX40 ++ wsX30)
def wsX4_isNearer : List Cond := .code yX4_isNearer cX4_isNearer 5 (some .boolean) :: ([.methodLink RX4 66 yX3_squaredDistance, .instanceMethod yX3_squaredDistance, .selects RX3 yX3_squaredDistance yX3_squaredDistance, .initialized RX3, .code yX3_squaredDistance cX3_squaredDistance 8 (some .long), .fieldLink RX3 15 "LiveHull$Points" "xs" "[I", .fieldLink RX3 18 "LiveHull$Points" "ys" "[I"] ++ wsX30)
def wsX4_nearestTouching : List Cond := .code yX4_nearestTouching cX4_nearestTouching 8 (some .int) :: ([.fieldLink RX4 9 "LiveHull$Ring" "size" "I", .sameField "LiveHull$Ring" "LiveHull$Corners" "size" "I", .fieldLink RX4 33 "LiveHull$Ring" "ranks" "[I", .sameField "LiveHull$Ring" "LiveHull$Corners" "ranks" "[I", .methodLink RX4 60 yX4_isTouching, .instanceMethod yX4_isTouching, .selects RX4 yX4_isTouching yX4_isTouching, .initialized RX4, .code yX4_isTouching cX4_isTouching 9 (some .boolean), .methodLink RX4 48 yX3_turn, .instanceMethod yX3_turn, .selects RX3 yX3_turn yX3_turn, .initialized RX3, .code yX3_turn cX3_turn 13 (some .long), .fieldLink RX3 15 "LiveHull$Points" "xs" "[I", .fieldLink RX3 18 "LiveHull$Points" "ys" "[I", .methodLink RX4 63 yX4_isNearer, .static yX4_isNearer, .code yX4_isNearer cX4_isNearer 5 (some .boolean), .methodLink RX4 66 yX3_squaredDistance, .instanceMethod yX3_squaredDistance, .selects RX3 yX3_squaredDistance yX3_squaredDistance, .code yX3_squaredDistance cX3_squaredDistance 8 (some .long)] ++ wsX00 ++ wsX40 ++ wsX30)
def wsX4_doubleArea : List Cond := .code yX4_doubleArea cX4_doubleArea 6 (some .long) :: ([.fieldLink RX4 9 "LiveHull$Ring" "size" "I", .sameField "LiveHull$Ring" "LiveHull$Corners" "size" "I", .fieldLink RX4 33 "LiveHull$Ring" "ranks" "[I", .sameField "LiveHull$Ring" "LiveHull$Corners" "ranks" "[I", .fieldLink RX4 69 "LiveHull$Points" "xs" "[I", .fieldLink RX4 72 "LiveHull$Points" "ys" "[I", .methodLink RX4 48 yX3_turn, .instanceMethod yX3_turn, .selects RX3 yX3_turn yX3_turn, .initialized RX3, .code yX3_turn cX3_turn 13 (some .long), .fieldLink RX3 15 "LiveHull$Points" "xs" "[I", .fieldLink RX3 18 "LiveHull$Points" "ys" "[I"] ++ wsX00 ++ wsX40 ++ wsX30)
def wsX5_init_r1 : List Cond := [Cond.methodLink RX5 1 objectInit, Cond.instanceMethod objectInit, Cond.code objectInit ⟨#[0xb1]⟩ 1 none, Cond.classLink RX5 7 RX3, Cond.instantiable RX3 4, Cond.initialized RX3, Cond.fieldLink RX5 10 "LiveHull" "points" "LLiveHull$Points;", Cond.classLink RX5 16 RX2, Cond.instantiable RX2 2, Cond.initialized RX2, Cond.fieldLink RX5 19 "LiveHull" "parts" "LLiveHull$Parts;", Cond.classLink RX5 23 RX0, Cond.instantiable RX0 2, Cond.initialized RX0, Cond.fieldLink RX5 26 "LiveHull" "traced" "LLiveHull$Chain;", Cond.fieldLink RX5 30 "LiveHull" "tracedGreater" "LLiveHull$Chain;", Cond.classLink RX5 33 RX4, Cond.instantiable RX4 2, Cond.initialized RX4, Cond.fieldLink RX5 36 "LiveHull" "ring" "LLiveHull$Ring;", Cond.fieldLink RX5 40 "LiveHull" "images" "[LLiveHull$Points;", Cond.arrayClass .boolean, Cond.fieldLink RX5 44 "LiveHull" "kept" "[Z", Cond.instanceMethod yX3_init]
def wsX5_init_r2 : List Cond := [Cond.code yX3_init cX3_init 1 none, Cond.methodLink RX3 3 objectInit, Cond.arrayClass .int, Cond.fieldLink RX3 9 "LiveHull$Points" "ids" "[I", Cond.fieldLink RX3 15 "LiveHull$Points" "xs" "[I", Cond.fieldLink RX3 18 "LiveHull$Points" "ys" "[I", Cond.fieldLink RX3 21 "LiveHull$Points" "count" "I", Cond.instanceMethod yX2_init, Cond.code yX2_init cX2_init 1 none, Cond.methodLink RX2 3 objectInit, Cond.fieldLink RX2 9 "LiveHull$Parts" "firsts" "[I", Cond.fieldLink RX2 15 "LiveHull$Parts" "sizes" "[I", Cond.instanceMethod yX0_init, Cond.code yX0_init cX0_init 1 none, Cond.instanceMethod yX1_init, Cond.initialized RX1, Cond.code yX1_init cX1_init 1 none, Cond.methodLink RX1 3 objectInit, Cond.fieldLink RX1 9 "LiveHull$Corners" "ranks" "[I", Cond.fieldLink RX1 15 "LiveHull$Corners" "size" "I", Cond.instanceMethod yX4_init, Cond.code yX4_init cX4_init 1 none]
def wsX5_init : List Cond := .code yX5_init cX5_init 1 none :: ((wsX5_init_r1 ++ wsX5_init_r2) ++ wsX30 ++ wsX50 ++ wsX20 ++ wsX00 ++ wsX40)
def wsX5_isPlace : List Cond := .code yX5_isPlace cX5_isPlace 2 (some .boolean) :: ([.constant RX5 168 (-1000000000), .constant RX5 169 (1000000000)])
def wsX5_add_r1 : List Cond := [Cond.fieldLink RX5 10 "LiveHull" "points" "LLiveHull$Points;", Cond.fieldLink RX5 19 "LiveHull" "parts" "LLiveHull$Parts;", Cond.fieldLink RX5 63 "LiveHull$Points" "count" "I", Cond.methodLink RX5 48 yX5_isPlace, Cond.static yX5_isPlace, Cond.initialized RX5, Cond.code yX5_isPlace cX5_isPlace 2 (some .boolean), Cond.constant RX5 168 (-1000000000), Cond.constant RX5 169 (1000000000), Cond.methodLink RX5 52 yX3_isTaken, Cond.instanceMethod yX3_isTaken, Cond.selects RX3 yX3_isTaken yX3_isTaken, Cond.initialized RX3, Cond.code yX3_isTaken cX3_isTaken 4 (some .boolean), Cond.fieldLink RX3 21 "LiveHull$Points" "count" "I", Cond.methodLink RX3 25 yX3_isAt, Cond.instanceMethod yX3_isAt, Cond.selects RX3 yX3_isAt yX3_isAt, Cond.code yX3_isAt cX3_isAt 4 (some .boolean), Cond.fieldLink RX3 15 "LiveHull$Points" "xs" "[I", Cond.fieldLink RX3 18 "LiveHull$Points" "ys" "[I", Cond.methodLink RX5 55 yX3_leastFreeId, Cond.instanceMethod yX3_leastFreeId, Cond.selects RX3 yX3_leastFreeId yX3_leastFreeId]
def wsX5_add_r2 : List Cond := [Cond.code yX3_leastFreeId cX3_leastFreeId 2 (some .int), Cond.methodLink RX3 29 yX3_rankOf, Cond.instanceMethod yX3_rankOf, Cond.selects RX3 yX3_rankOf yX3_rankOf, Cond.code yX3_rankOf cX3_rankOf 3 (some .int), Cond.fieldLink RX3 9 "LiveHull$Points" "ids" "[I", Cond.methodLink RX5 59 yX3_insert, Cond.instanceMethod yX3_insert, Cond.selects RX3 yX3_insert yX3_insert, Cond.code yX3_insert cX3_insert 5 none, Cond.methodLink RX3 33 yX3_isBefore, Cond.instanceMethod yX3_isBefore, Cond.selects RX3 yX3_isBefore yX3_isBefore, Cond.code yX3_isBefore cX3_isBefore 4 (some .boolean), Cond.methodLink RX3 36 yX3_setRow, Cond.instanceMethod yX3_setRow, Cond.selects RX3 yX3_setRow yX3_setRow, Cond.code yX3_setRow cX3_setRow 5 none, Cond.methodLink RX5 67 yX2_split, Cond.instanceMethod yX2_split, Cond.selects RX2 yX2_split yX2_split, Cond.initialized RX2, Cond.code yX2_split cX2_split 3 none, Cond.fieldLink RX2 9 "LiveHull$Parts" "firsts" "[I"]
def wsX5_add_r3 : List Cond := [Cond.fieldLink RX2 15 "LiveHull$Parts" "sizes" "[I", Cond.methodLink RX2 18 yX2_splitPart, Cond.instanceMethod yX2_splitPart, Cond.selects RX2 yX2_splitPart yX2_splitPart, Cond.code yX2_splitPart cX2_splitPart 5 none]
def wsX5_add : List Cond := .code yX5_add cX5_add 4 (some .int) :: ((wsX5_add_r1 ++ (wsX5_add_r2 ++ wsX5_add_r3)) ++ wsX50 ++ wsX30 ++ wsX20)
def wsX5_remove_r1 : List Cond := [Cond.fieldLink RX5 10 "LiveHull" "points" "LLiveHull$Points;", Cond.fieldLink RX5 19 "LiveHull" "parts" "LLiveHull$Parts;", Cond.fieldLink RX5 63 "LiveHull$Points" "count" "I", Cond.methodLink RX5 71 yX3_rankOf, Cond.instanceMethod yX3_rankOf, Cond.selects RX3 yX3_rankOf yX3_rankOf, Cond.initialized RX3, Cond.code yX3_rankOf cX3_rankOf 3 (some .int), Cond.fieldLink RX3 21 "LiveHull$Points" "count" "I", Cond.fieldLink RX3 9 "LiveHull$Points" "ids" "[I", Cond.methodLink RX5 75 yX3_delete, Cond.instanceMethod yX3_delete, Cond.selects RX3 yX3_delete yX3_delete, Cond.code yX3_delete cX3_delete 3 none, Cond.fieldLink RX3 15 "LiveHull$Points" "xs" "[I", Cond.fieldLink RX3 18 "LiveHull$Points" "ys" "[I", Cond.methodLink RX3 36 yX3_setRow, Cond.instanceMethod yX3_setRow, Cond.selects RX3 yX3_setRow yX3_setRow, Cond.code yX3_setRow cX3_setRow 5 none, Cond.methodLink RX5 67 yX2_split, Cond.instanceMethod yX2_split, Cond.selects RX2 yX2_split yX2_split, Cond.initialized RX2]
def wsX5_remove_r2 : List Cond := [Cond.code yX2_split cX2_split 3 none, Cond.fieldLink RX2 9 "LiveHull$Parts" "firsts" "[I", Cond.fieldLink RX2 15 "LiveHull$Parts" "sizes" "[I", Cond.methodLink RX2 18 yX2_splitPart, Cond.instanceMethod yX2_splitPart, Cond.selects RX2 yX2_splitPart yX2_splitPart, Cond.code yX2_splitPart cX2_splitPart 5 none]
def wsX5_remove : List Cond := .code yX5_remove cX5_remove 3 (some .int) :: ((wsX5_remove_r1 ++ wsX5_remove_r2) ++ wsX50 ++ wsX30 ++ wsX20)
def wsX5_move_r1 : List Cond := [Cond.fieldLink RX5 10 "LiveHull" "points" "LLiveHull$Points;", Cond.methodLink RX5 71 yX3_rankOf, Cond.instanceMethod yX3_rankOf, Cond.selects RX3 yX3_rankOf yX3_rankOf, Cond.initialized RX3, Cond.code yX3_rankOf cX3_rankOf 3 (some .int), Cond.fieldLink RX3 21 "LiveHull$Points" "count" "I", Cond.fieldLink RX3 9 "LiveHull$Points" "ids" "[I", Cond.methodLink RX5 48 yX5_isPlace, Cond.static yX5_isPlace, Cond.initialized RX5, Cond.code yX5_isPlace cX5_isPlace 2 (some .boolean), Cond.constant RX5 168 (-1000000000), Cond.constant RX5 169 (1000000000), Cond.methodLink RX5 52 yX3_isTaken, Cond.instanceMethod yX3_isTaken, Cond.selects RX3 yX3_isTaken yX3_isTaken, Cond.code yX3_isTaken cX3_isTaken 4 (some .boolean), Cond.methodLink RX3 25 yX3_isAt, Cond.instanceMethod yX3_isAt, Cond.selects RX3 yX3_isAt yX3_isAt, Cond.code yX3_isAt cX3_isAt 4 (some .boolean), Cond.fieldLink RX3 15 "LiveHull$Points" "xs" "[I", Cond.fieldLink RX3 18 "LiveHull$Points" "ys" "[I"]
def wsX5_move_r2 : List Cond := [Cond.methodLink RX5 75 yX3_delete, Cond.instanceMethod yX3_delete, Cond.selects RX3 yX3_delete yX3_delete, Cond.code yX3_delete cX3_delete 3 none, Cond.methodLink RX3 36 yX3_setRow, Cond.instanceMethod yX3_setRow, Cond.selects RX3 yX3_setRow yX3_setRow, Cond.code yX3_setRow cX3_setRow 5 none, Cond.methodLink RX5 59 yX3_insert, Cond.instanceMethod yX3_insert, Cond.selects RX3 yX3_insert yX3_insert, Cond.code yX3_insert cX3_insert 5 none, Cond.methodLink RX3 33 yX3_isBefore, Cond.instanceMethod yX3_isBefore, Cond.selects RX3 yX3_isBefore yX3_isBefore, Cond.code yX3_isBefore cX3_isBefore 4 (some .boolean)]
def wsX5_move : List Cond := .code yX5_move cX5_move 5 (some .int) :: ((wsX5_move_r1 ++ wsX5_move_r2) ++ wsX50 ++ wsX30)
def wsX5_trace_r1 : List Cond := [Cond.fieldLink RX5 10 "LiveHull" "points" "LLiveHull$Points;", Cond.fieldLink RX5 19 "LiveHull" "parts" "LLiveHull$Parts;", Cond.fieldLink RX5 99 "LiveHull$Parts" "firsts" "[I", Cond.fieldLink RX5 96 "LiveHull$Parts" "sizes" "[I", Cond.methodLink RX5 170 yX0_trace, Cond.instanceMethod yX0_trace, Cond.selects RX0 yX0_trace yX0_trace, Cond.initialized RX0, Cond.code yX0_trace cX0_trace 6 none, Cond.fieldLink RX0 9 "LiveHull$Chain" "size" "I", Cond.sameField "LiveHull$Chain" "LiveHull$Corners" "size" "I", Cond.methodLink RX0 15 yX0_isOverLast, Cond.instanceMethod yX0_isOverLast, Cond.selects RX0 yX0_isOverLast yX0_isOverLast, Cond.code yX0_isOverLast cX0_isOverLast 3 (some .boolean), Cond.fieldLink RX0 27 "LiveHull$Points" "xs" "[I", Cond.fieldLink RX0 33 "LiveHull$Chain" "ranks" "[I", Cond.sameField "LiveHull$Chain" "LiveHull$Corners" "ranks" "[I", Cond.methodLink RX0 19 yX0_lastStays, Cond.instanceMethod yX0_lastStays, Cond.selects RX0 yX0_lastStays yX0_lastStays, Cond.code yX0_lastStays cX0_lastStays 8 (some .boolean), Cond.fieldLink RX0 36 "LiveHull$Points" "ys" "[I", Cond.methodLink RX0 39 yX3_turn]
def wsX5_trace_r2 : List Cond := [Cond.instanceMethod yX3_turn, Cond.selects RX3 yX3_turn yX3_turn, Cond.initialized RX3, Cond.code yX3_turn cX3_turn 13 (some .long), Cond.fieldLink RX3 15 "LiveHull$Points" "xs" "[I", Cond.fieldLink RX3 18 "LiveHull$Points" "ys" "[I", Cond.methodLink RX0 23 ⟨"LiveHull$Chain", "append", "(I)V"⟩, Cond.sameMethod "LiveHull$Chain" "LiveHull$Corners" "append" "(I)V", Cond.selects RX0 ⟨"LiveHull$Chain", "append", "(I)V"⟩ yX1_append, Cond.instanceMethod yX1_append, Cond.initialized RX1, Cond.code yX1_append cX1_append 2 none, Cond.fieldLink RX1 15 "LiveHull$Corners" "size" "I", Cond.fieldLink RX1 9 "LiveHull$Corners" "ranks" "[I"]
def wsX5_trace : List Cond := .code yX5_trace cX5_trace 4 none :: ((wsX5_trace_r1 ++ wsX5_trace_r2) ++ wsX50 ++ wsX20 ++ wsX00 ++ wsX40 ++ wsX30)
def wsX5_topOf_r1 : List Cond := [Cond.fieldLink RX5 19 "LiveHull" "parts" "LLiveHull$Parts;", Cond.fieldLink RX5 26 "LiveHull" "traced" "LLiveHull$Chain;", Cond.methodLink RX5 178 yX2_holds, Cond.instanceMethod yX2_holds, Cond.selects RX2 yX2_holds yX2_holds, Cond.initialized RX2, Cond.code yX2_holds cX2_holds 3 (some .boolean), Cond.fieldLink RX2 9 "LiveHull$Parts" "firsts" "[I", Cond.fieldLink RX2 15 "LiveHull$Parts" "sizes" "[I", Cond.methodLink RX2 22 yX2_has, Cond.instanceMethod yX2_has, Cond.selects RX2 yX2_has yX2_has, Cond.code yX2_has cX2_has 2 (some .boolean), Cond.methodLink RX5 111 yX5_trace, Cond.instanceMethod yX5_trace, Cond.selects RX5 yX5_trace yX5_trace, Cond.initialized RX5, Cond.code yX5_trace cX5_trace 4 none, Cond.fieldLink RX5 10 "LiveHull" "points" "LLiveHull$Points;", Cond.fieldLink RX5 99 "LiveHull$Parts" "firsts" "[I", Cond.fieldLink RX5 96 "LiveHull$Parts" "sizes" "[I", Cond.methodLink RX5 170 yX0_trace, Cond.instanceMethod yX0_trace, Cond.selects RX0 yX0_trace yX0_trace]
def wsX5_topOf_r2 : List Cond := [Cond.initialized RX0, Cond.code yX0_trace cX0_trace 6 none, Cond.fieldLink RX0 9 "LiveHull$Chain" "size" "I", Cond.sameField "LiveHull$Chain" "LiveHull$Corners" "size" "I", Cond.methodLink RX0 15 yX0_isOverLast, Cond.instanceMethod yX0_isOverLast, Cond.selects RX0 yX0_isOverLast yX0_isOverLast, Cond.code yX0_isOverLast cX0_isOverLast 3 (some .boolean), Cond.fieldLink RX0 27 "LiveHull$Points" "xs" "[I", Cond.fieldLink RX0 33 "LiveHull$Chain" "ranks" "[I", Cond.sameField "LiveHull$Chain" "LiveHull$Corners" "ranks" "[I", Cond.methodLink RX0 19 yX0_lastStays, Cond.instanceMethod yX0_lastStays, Cond.selects RX0 yX0_lastStays yX0_lastStays, Cond.code yX0_lastStays cX0_lastStays 8 (some .boolean), Cond.fieldLink RX0 36 "LiveHull$Points" "ys" "[I", Cond.methodLink RX0 39 yX3_turn, Cond.instanceMethod yX3_turn, Cond.selects RX3 yX3_turn yX3_turn, Cond.initialized RX3, Cond.code yX3_turn cX3_turn 13 (some .long), Cond.fieldLink RX3 15 "LiveHull$Points" "xs" "[I", Cond.fieldLink RX3 18 "LiveHull$Points" "ys" "[I", Cond.methodLink RX0 23 ⟨"LiveHull$Chain", "append", "(I)V"⟩]
def wsX5_topOf_r3 : List Cond := [Cond.sameMethod "LiveHull$Chain" "LiveHull$Corners" "append" "(I)V", Cond.selects RX0 ⟨"LiveHull$Chain", "append", "(I)V"⟩ yX1_append, Cond.instanceMethod yX1_append, Cond.initialized RX1, Cond.code yX1_append cX1_append 2 none, Cond.fieldLink RX1 15 "LiveHull$Corners" "size" "I", Cond.fieldLink RX1 9 "LiveHull$Corners" "ranks" "[I", Cond.methodLink RX5 177 ⟨"LiveHull$Chain", "has", "(I)Z"⟩, Cond.sameMethod "LiveHull$Chain" "LiveHull$Corners" "has" "(I)Z", Cond.selects RX0 ⟨"LiveHull$Chain", "has", "(I)Z"⟩ yX1_has, Cond.instanceMethod yX1_has, Cond.code yX1_has cX1_has 3 (some .boolean), Cond.methodLink RX5 181 yX2_depthOf, Cond.static yX2_depthOf, Cond.code yX2_depthOf cX2_depthOf 3 (some .int)]
def wsX5_topOf : List Cond := .code yX5_topOf cX5_topOf 4 (some .int) :: ((wsX5_topOf_r1 ++ (wsX5_topOf_r2 ++ wsX5_topOf_r3)) ++ wsX50 ++ wsX20 ++ wsX00 ++ wsX40 ++ wsX30)
def wsX5_point_r1 : List Cond := [Cond.fieldLink RX5 10 "LiveHull" "points" "LLiveHull$Points;", Cond.fieldLink RX5 78 "LiveHull$Points" "xs" "[I", Cond.fieldLink RX5 82 "LiveHull$Points" "ys" "[I", Cond.methodLink RX5 71 yX3_rankOf, Cond.instanceMethod yX3_rankOf, Cond.selects RX3 yX3_rankOf yX3_rankOf, Cond.initialized RX3, Cond.code yX3_rankOf cX3_rankOf 3 (some .int), Cond.fieldLink RX3 21 "LiveHull$Points" "count" "I", Cond.fieldLink RX3 9 "LiveHull$Points" "ids" "[I", Cond.methodLink RX5 85 yX5_topOf, Cond.instanceMethod yX5_topOf, Cond.selects RX5 yX5_topOf yX5_topOf, Cond.initialized RX5, Cond.code yX5_topOf cX5_topOf 4 (some .int), Cond.fieldLink RX5 19 "LiveHull" "parts" "LLiveHull$Parts;", Cond.fieldLink RX5 26 "LiveHull" "traced" "LLiveHull$Chain;", Cond.methodLink RX5 178 yX2_holds, Cond.instanceMethod yX2_holds, Cond.selects RX2 yX2_holds yX2_holds, Cond.initialized RX2, Cond.code yX2_holds cX2_holds 3 (some .boolean), Cond.fieldLink RX2 9 "LiveHull$Parts" "firsts" "[I", Cond.fieldLink RX2 15 "LiveHull$Parts" "sizes" "[I"]
def wsX5_point_r2 : List Cond := [Cond.methodLink RX2 22 yX2_has, Cond.instanceMethod yX2_has, Cond.selects RX2 yX2_has yX2_has, Cond.code yX2_has cX2_has 2 (some .boolean), Cond.methodLink RX5 111 yX5_trace, Cond.instanceMethod yX5_trace, Cond.selects RX5 yX5_trace yX5_trace, Cond.code yX5_trace cX5_trace 4 none, Cond.fieldLink RX5 99 "LiveHull$Parts" "firsts" "[I", Cond.fieldLink RX5 96 "LiveHull$Parts" "sizes" "[I", Cond.methodLink RX5 170 yX0_trace, Cond.instanceMethod yX0_trace, Cond.selects RX0 yX0_trace yX0_trace, Cond.initialized RX0, Cond.code yX0_trace cX0_trace 6 none, Cond.fieldLink RX0 9 "LiveHull$Chain" "size" "I", Cond.sameField "LiveHull$Chain" "LiveHull$Corners" "size" "I", Cond.methodLink RX0 15 yX0_isOverLast, Cond.instanceMethod yX0_isOverLast, Cond.selects RX0 yX0_isOverLast yX0_isOverLast, Cond.code yX0_isOverLast cX0_isOverLast 3 (some .boolean), Cond.fieldLink RX0 27 "LiveHull$Points" "xs" "[I", Cond.fieldLink RX0 33 "LiveHull$Chain" "ranks" "[I", Cond.sameField "LiveHull$Chain" "LiveHull$Corners" "ranks" "[I"]
def wsX5_point_r3 : List Cond := [Cond.methodLink RX0 19 yX0_lastStays, Cond.instanceMethod yX0_lastStays, Cond.selects RX0 yX0_lastStays yX0_lastStays, Cond.code yX0_lastStays cX0_lastStays 8 (some .boolean), Cond.fieldLink RX0 36 "LiveHull$Points" "ys" "[I", Cond.methodLink RX0 39 yX3_turn, Cond.instanceMethod yX3_turn, Cond.selects RX3 yX3_turn yX3_turn, Cond.code yX3_turn cX3_turn 13 (some .long), Cond.fieldLink RX3 15 "LiveHull$Points" "xs" "[I", Cond.fieldLink RX3 18 "LiveHull$Points" "ys" "[I", Cond.methodLink RX0 23 ⟨"LiveHull$Chain", "append", "(I)V"⟩, Cond.sameMethod "LiveHull$Chain" "LiveHull$Corners" "append" "(I)V", Cond.selects RX0 ⟨"LiveHull$Chain", "append", "(I)V"⟩ yX1_append, Cond.instanceMethod yX1_append, Cond.initialized RX1, Cond.code yX1_append cX1_append 2 none, Cond.fieldLink RX1 15 "LiveHull$Corners" "size" "I", Cond.fieldLink RX1 9 "LiveHull$Corners" "ranks" "[I", Cond.methodLink RX5 177 ⟨"LiveHull$Chain", "has", "(I)Z"⟩, Cond.sameMethod "LiveHull$Chain" "LiveHull$Corners" "has" "(I)Z", Cond.selects RX0 ⟨"LiveHull$Chain", "has", "(I)Z"⟩ yX1_has, Cond.instanceMethod yX1_has, Cond.code yX1_has cX1_has 3 (some .boolean)]
def wsX5_point_r4 : List Cond := [Cond.methodLink RX5 181 yX2_depthOf, Cond.static yX2_depthOf, Cond.code yX2_depthOf cX2_depthOf 3 (some .int)]
def wsX5_point : List Cond := .code yX5_point cX5_point 4 (some .int) :: ((wsX5_point_r1 ++ (wsX5_point_r2 ++ (wsX5_point_r3 ++ wsX5_point_r4))) ++ wsX50 ++ wsX30 ++ wsX20 ++ wsX00 ++ wsX40)
def wsX5_ranked : List Cond := .code yX5_ranked cX5_ranked 2 (some .int) :: ([.fieldLink RX5 10 "LiveHull" "points" "LLiveHull$Points;", .methodLink RX5 89 yX3_idAt, .instanceMethod yX3_idAt, .selects RX3 yX3_idAt yX3_idAt, .initialized RX3, .code yX3_idAt cX3_idAt 2 (some .int), .fieldLink RX3 21 "LiveHull$Points" "count" "I", .fieldLink RX3 9 "LiveHull$Points" "ids" "[I"] ++ wsX50 ++ wsX30)
def wsX5_cornersOf_r1 : List Cond := [Cond.fieldLink RX5 26 "LiveHull" "traced" "LLiveHull$Chain;", Cond.fieldLink RX5 173 "LiveHull$Chain" "size" "I", Cond.sameField "LiveHull$Chain" "LiveHull$Corners" "size" "I", Cond.methodLink RX5 111 yX5_trace, Cond.instanceMethod yX5_trace, Cond.selects RX5 yX5_trace yX5_trace, Cond.initialized RX5, Cond.code yX5_trace cX5_trace 4 none, Cond.fieldLink RX5 10 "LiveHull" "points" "LLiveHull$Points;", Cond.fieldLink RX5 19 "LiveHull" "parts" "LLiveHull$Parts;", Cond.fieldLink RX5 99 "LiveHull$Parts" "firsts" "[I", Cond.fieldLink RX5 96 "LiveHull$Parts" "sizes" "[I", Cond.methodLink RX5 170 yX0_trace, Cond.instanceMethod yX0_trace, Cond.selects RX0 yX0_trace yX0_trace, Cond.initialized RX0, Cond.code yX0_trace cX0_trace 6 none, Cond.fieldLink RX0 9 "LiveHull$Chain" "size" "I", Cond.methodLink RX0 15 yX0_isOverLast, Cond.instanceMethod yX0_isOverLast, Cond.selects RX0 yX0_isOverLast yX0_isOverLast, Cond.code yX0_isOverLast cX0_isOverLast 3 (some .boolean), Cond.fieldLink RX0 27 "LiveHull$Points" "xs" "[I", Cond.fieldLink RX0 33 "LiveHull$Chain" "ranks" "[I"]
def wsX5_cornersOf_r2 : List Cond := [Cond.sameField "LiveHull$Chain" "LiveHull$Corners" "ranks" "[I", Cond.methodLink RX0 19 yX0_lastStays, Cond.instanceMethod yX0_lastStays, Cond.selects RX0 yX0_lastStays yX0_lastStays, Cond.code yX0_lastStays cX0_lastStays 8 (some .boolean), Cond.fieldLink RX0 36 "LiveHull$Points" "ys" "[I", Cond.methodLink RX0 39 yX3_turn, Cond.instanceMethod yX3_turn, Cond.selects RX3 yX3_turn yX3_turn, Cond.initialized RX3, Cond.code yX3_turn cX3_turn 13 (some .long), Cond.fieldLink RX3 15 "LiveHull$Points" "xs" "[I", Cond.fieldLink RX3 18 "LiveHull$Points" "ys" "[I", Cond.methodLink RX0 23 ⟨"LiveHull$Chain", "append", "(I)V"⟩, Cond.sameMethod "LiveHull$Chain" "LiveHull$Corners" "append" "(I)V", Cond.selects RX0 ⟨"LiveHull$Chain", "append", "(I)V"⟩ yX1_append, Cond.instanceMethod yX1_append, Cond.initialized RX1, Cond.code yX1_append cX1_append 2 none, Cond.fieldLink RX1 15 "LiveHull$Corners" "size" "I", Cond.fieldLink RX1 9 "LiveHull$Corners" "ranks" "[I"]
def wsX5_cornersOf : List Cond := .code yX5_cornersOf cX5_cornersOf 3 (some .int) :: ((wsX5_cornersOf_r1 ++ wsX5_cornersOf_r2) ++ wsX50 ++ wsX00 ++ wsX40 ++ wsX20 ++ wsX30)
def wsX5_restOf_r1 : List Cond := [Cond.fieldLink RX5 26 "LiveHull" "traced" "LLiveHull$Chain;", Cond.fieldLink RX5 30 "LiveHull" "tracedGreater" "LLiveHull$Chain;", Cond.fieldLink RX5 173 "LiveHull$Chain" "size" "I", Cond.sameField "LiveHull$Chain" "LiveHull$Corners" "size" "I", Cond.fieldLink RX5 174 "LiveHull$Chain" "ranks" "[I", Cond.sameField "LiveHull$Chain" "LiveHull$Corners" "ranks" "[I", Cond.methodLink RX5 111 yX5_trace, Cond.instanceMethod yX5_trace, Cond.selects RX5 yX5_trace yX5_trace, Cond.initialized RX5, Cond.code yX5_trace cX5_trace 4 none, Cond.fieldLink RX5 10 "LiveHull" "points" "LLiveHull$Points;", Cond.fieldLink RX5 19 "LiveHull" "parts" "LLiveHull$Parts;", Cond.fieldLink RX5 99 "LiveHull$Parts" "firsts" "[I", Cond.fieldLink RX5 96 "LiveHull$Parts" "sizes" "[I", Cond.methodLink RX5 170 yX0_trace, Cond.instanceMethod yX0_trace, Cond.selects RX0 yX0_trace yX0_trace, Cond.initialized RX0, Cond.code yX0_trace cX0_trace 6 none, Cond.fieldLink RX0 9 "LiveHull$Chain" "size" "I", Cond.methodLink RX0 15 yX0_isOverLast, Cond.instanceMethod yX0_isOverLast, Cond.selects RX0 yX0_isOverLast yX0_isOverLast]
def wsX5_restOf_r2 : List Cond := [Cond.code yX0_isOverLast cX0_isOverLast 3 (some .boolean), Cond.fieldLink RX0 27 "LiveHull$Points" "xs" "[I", Cond.fieldLink RX0 33 "LiveHull$Chain" "ranks" "[I", Cond.methodLink RX0 19 yX0_lastStays, Cond.instanceMethod yX0_lastStays, Cond.selects RX0 yX0_lastStays yX0_lastStays, Cond.code yX0_lastStays cX0_lastStays 8 (some .boolean), Cond.fieldLink RX0 36 "LiveHull$Points" "ys" "[I", Cond.methodLink RX0 39 yX3_turn, Cond.instanceMethod yX3_turn, Cond.selects RX3 yX3_turn yX3_turn, Cond.initialized RX3, Cond.code yX3_turn cX3_turn 13 (some .long), Cond.fieldLink RX3 15 "LiveHull$Points" "xs" "[I", Cond.fieldLink RX3 18 "LiveHull$Points" "ys" "[I", Cond.methodLink RX0 23 ⟨"LiveHull$Chain", "append", "(I)V"⟩, Cond.sameMethod "LiveHull$Chain" "LiveHull$Corners" "append" "(I)V", Cond.selects RX0 ⟨"LiveHull$Chain", "append", "(I)V"⟩ yX1_append, Cond.instanceMethod yX1_append, Cond.initialized RX1, Cond.code yX1_append cX1_append 2 none, Cond.fieldLink RX1 15 "LiveHull$Corners" "size" "I", Cond.fieldLink RX1 9 "LiveHull$Corners" "ranks" "[I", Cond.methodLink RX5 177 ⟨"LiveHull$Chain", "has", "(I)Z"⟩]
def wsX5_restOf_r3 : List Cond := [Cond.sameMethod "LiveHull$Chain" "LiveHull$Corners" "has" "(I)Z", Cond.selects RX0 ⟨"LiveHull$Chain", "has", "(I)Z"⟩ yX1_has, Cond.instanceMethod yX1_has, Cond.code yX1_has cX1_has 3 (some .boolean)]
def wsX5_restOf : List Cond := .code yX5_restOf cX5_restOf 5 (some .int) :: ((wsX5_restOf_r1 ++ (wsX5_restOf_r2 ++ wsX5_restOf_r3)) ++ wsX50 ++ wsX00 ++ wsX40 ++ wsX20 ++ wsX30)
def wsX5_part_r1 : List Cond := [Cond.fieldLink RX5 19 "LiveHull" "parts" "LLiveHull$Parts;", Cond.fieldLink RX5 96 "LiveHull$Parts" "sizes" "[I", Cond.fieldLink RX5 99 "LiveHull$Parts" "firsts" "[I", Cond.methodLink RX5 92 yX2_has, Cond.instanceMethod yX2_has, Cond.selects RX2 yX2_has yX2_has, Cond.initialized RX2, Cond.code yX2_has cX2_has 2 (some .boolean), Cond.fieldLink RX2 15 "LiveHull$Parts" "sizes" "[I", Cond.methodLink RX5 102 yX5_cornersOf, Cond.instanceMethod yX5_cornersOf, Cond.selects RX5 yX5_cornersOf yX5_cornersOf, Cond.initialized RX5, Cond.code yX5_cornersOf cX5_cornersOf 3 (some .int), Cond.fieldLink RX5 26 "LiveHull" "traced" "LLiveHull$Chain;", Cond.fieldLink RX5 173 "LiveHull$Chain" "size" "I", Cond.sameField "LiveHull$Chain" "LiveHull$Corners" "size" "I", Cond.methodLink RX5 111 yX5_trace, Cond.instanceMethod yX5_trace, Cond.selects RX5 yX5_trace yX5_trace, Cond.code yX5_trace cX5_trace 4 none, Cond.fieldLink RX5 10 "LiveHull" "points" "LLiveHull$Points;", Cond.methodLink RX5 170 yX0_trace, Cond.instanceMethod yX0_trace]
def wsX5_part_r2 : List Cond := [Cond.selects RX0 yX0_trace yX0_trace, Cond.initialized RX0, Cond.code yX0_trace cX0_trace 6 none, Cond.fieldLink RX0 9 "LiveHull$Chain" "size" "I", Cond.methodLink RX0 15 yX0_isOverLast, Cond.instanceMethod yX0_isOverLast, Cond.selects RX0 yX0_isOverLast yX0_isOverLast, Cond.code yX0_isOverLast cX0_isOverLast 3 (some .boolean), Cond.fieldLink RX0 27 "LiveHull$Points" "xs" "[I", Cond.fieldLink RX0 33 "LiveHull$Chain" "ranks" "[I", Cond.sameField "LiveHull$Chain" "LiveHull$Corners" "ranks" "[I", Cond.methodLink RX0 19 yX0_lastStays, Cond.instanceMethod yX0_lastStays, Cond.selects RX0 yX0_lastStays yX0_lastStays, Cond.code yX0_lastStays cX0_lastStays 8 (some .boolean), Cond.fieldLink RX0 36 "LiveHull$Points" "ys" "[I", Cond.methodLink RX0 39 yX3_turn, Cond.instanceMethod yX3_turn, Cond.selects RX3 yX3_turn yX3_turn, Cond.initialized RX3, Cond.code yX3_turn cX3_turn 13 (some .long), Cond.fieldLink RX3 15 "LiveHull$Points" "xs" "[I", Cond.fieldLink RX3 18 "LiveHull$Points" "ys" "[I", Cond.methodLink RX0 23 ⟨"LiveHull$Chain", "append", "(I)V"⟩]
def wsX5_part_r3 : List Cond := [Cond.sameMethod "LiveHull$Chain" "LiveHull$Corners" "append" "(I)V", Cond.selects RX0 ⟨"LiveHull$Chain", "append", "(I)V"⟩ yX1_append, Cond.instanceMethod yX1_append, Cond.initialized RX1, Cond.code yX1_append cX1_append 2 none, Cond.fieldLink RX1 15 "LiveHull$Corners" "size" "I", Cond.fieldLink RX1 9 "LiveHull$Corners" "ranks" "[I", Cond.methodLink RX5 105 yX5_restOf, Cond.instanceMethod yX5_restOf, Cond.selects RX5 yX5_restOf yX5_restOf, Cond.code yX5_restOf cX5_restOf 5 (some .int), Cond.fieldLink RX5 30 "LiveHull" "tracedGreater" "LLiveHull$Chain;", Cond.fieldLink RX5 174 "LiveHull$Chain" "ranks" "[I", Cond.methodLink RX5 177 ⟨"LiveHull$Chain", "has", "(I)Z"⟩, Cond.sameMethod "LiveHull$Chain" "LiveHull$Corners" "has" "(I)Z", Cond.selects RX0 ⟨"LiveHull$Chain", "has", "(I)Z"⟩ yX1_has, Cond.instanceMethod yX1_has, Cond.code yX1_has cX1_has 3 (some .boolean)]
def wsX5_part : List Cond := .code yX5_part cX5_part 3 (some .int) :: ((wsX5_part_r1 ++ (wsX5_part_r2 ++ wsX5_part_r3)) ++ wsX50 ++ wsX20 ++ wsX00 ++ wsX40 ++ wsX30)
def wsX5_isSide : List Cond := .code yX5_isSide cX5_isSide 1 (some .boolean) :: ([])
def wsX5_chain_r1 : List Cond := [Cond.fieldLink RX5 19 "LiveHull" "parts" "LLiveHull$Parts;", Cond.fieldLink RX5 26 "LiveHull" "traced" "LLiveHull$Chain;", Cond.fieldLink RX5 10 "LiveHull" "points" "LLiveHull$Points;", Cond.methodLink RX5 92 yX2_has, Cond.instanceMethod yX2_has, Cond.selects RX2 yX2_has yX2_has, Cond.initialized RX2, Cond.code yX2_has cX2_has 2 (some .boolean), Cond.fieldLink RX2 15 "LiveHull$Parts" "sizes" "[I", Cond.methodLink RX5 108 yX5_isSide, Cond.static yX5_isSide, Cond.initialized RX5, Cond.code yX5_isSide cX5_isSide 1 (some .boolean), Cond.methodLink RX5 111 yX5_trace, Cond.instanceMethod yX5_trace, Cond.selects RX5 yX5_trace yX5_trace, Cond.code yX5_trace cX5_trace 4 none, Cond.fieldLink RX5 99 "LiveHull$Parts" "firsts" "[I", Cond.fieldLink RX5 96 "LiveHull$Parts" "sizes" "[I", Cond.methodLink RX5 170 yX0_trace, Cond.instanceMethod yX0_trace, Cond.selects RX0 yX0_trace yX0_trace, Cond.initialized RX0, Cond.code yX0_trace cX0_trace 6 none]
def wsX5_chain_r2 : List Cond := [Cond.fieldLink RX0 9 "LiveHull$Chain" "size" "I", Cond.sameField "LiveHull$Chain" "LiveHull$Corners" "size" "I", Cond.methodLink RX0 15 yX0_isOverLast, Cond.instanceMethod yX0_isOverLast, Cond.selects RX0 yX0_isOverLast yX0_isOverLast, Cond.code yX0_isOverLast cX0_isOverLast 3 (some .boolean), Cond.fieldLink RX0 27 "LiveHull$Points" "xs" "[I", Cond.fieldLink RX0 33 "LiveHull$Chain" "ranks" "[I", Cond.sameField "LiveHull$Chain" "LiveHull$Corners" "ranks" "[I", Cond.methodLink RX0 19 yX0_lastStays, Cond.instanceMethod yX0_lastStays, Cond.selects RX0 yX0_lastStays yX0_lastStays, Cond.code yX0_lastStays cX0_lastStays 8 (some .boolean), Cond.fieldLink RX0 36 "LiveHull$Points" "ys" "[I", Cond.methodLink RX0 39 yX3_turn, Cond.instanceMethod yX3_turn, Cond.selects RX3 yX3_turn yX3_turn, Cond.initialized RX3, Cond.code yX3_turn cX3_turn 13 (some .long), Cond.fieldLink RX3 15 "LiveHull$Points" "xs" "[I", Cond.fieldLink RX3 18 "LiveHull$Points" "ys" "[I", Cond.methodLink RX0 23 ⟨"LiveHull$Chain", "append", "(I)V"⟩, Cond.sameMethod "LiveHull$Chain" "LiveHull$Corners" "append" "(I)V", Cond.selects RX0 ⟨"LiveHull$Chain", "append", "(I)V"⟩ yX1_append]
def wsX5_chain_r3 : List Cond := [Cond.instanceMethod yX1_append, Cond.initialized RX1, Cond.code yX1_append cX1_append 2 none, Cond.fieldLink RX1 15 "LiveHull$Corners" "size" "I", Cond.fieldLink RX1 9 "LiveHull$Corners" "ranks" "[I", Cond.methodLink RX5 115 ⟨"LiveHull$Chain", "rankAt", "(I)I"⟩, Cond.sameMethod "LiveHull$Chain" "LiveHull$Corners" "rankAt" "(I)I", Cond.selects RX0 ⟨"LiveHull$Chain", "rankAt", "(I)I"⟩ yX1_rankAt, Cond.instanceMethod yX1_rankAt, Cond.code yX1_rankAt cX1_rankAt 2 (some .int), Cond.methodLink RX5 89 yX3_idAt, Cond.instanceMethod yX3_idAt, Cond.selects RX3 yX3_idAt yX3_idAt, Cond.code yX3_idAt cX3_idAt 2 (some .int), Cond.fieldLink RX3 21 "LiveHull$Points" "count" "I", Cond.fieldLink RX3 9 "LiveHull$Points" "ids" "[I"]
def wsX5_chain : List Cond := .code yX5_chain cX5_chain 4 (some .int) :: ((wsX5_chain_r1 ++ (wsX5_chain_r2 ++ wsX5_chain_r3)) ++ wsX50 ++ wsX20 ++ wsX00 ++ wsX40 ++ wsX30)
def wsX5_bridge_r1 : List Cond := [Cond.fieldLink RX5 19 "LiveHull" "parts" "LLiveHull$Parts;", Cond.fieldLink RX5 26 "LiveHull" "traced" "LLiveHull$Chain;", Cond.fieldLink RX5 99 "LiveHull$Parts" "firsts" "[I", Cond.fieldLink RX5 10 "LiveHull" "points" "LLiveHull$Points;", Cond.methodLink RX5 92 yX2_has, Cond.instanceMethod yX2_has, Cond.selects RX2 yX2_has yX2_has, Cond.initialized RX2, Cond.code yX2_has cX2_has 2 (some .boolean), Cond.fieldLink RX2 15 "LiveHull$Parts" "sizes" "[I", Cond.methodLink RX5 118 yX2_hasHalves, Cond.instanceMethod yX2_hasHalves, Cond.selects RX2 yX2_hasHalves yX2_hasHalves, Cond.code yX2_hasHalves cX2_hasHalves 2 (some .boolean), Cond.methodLink RX2 22 yX2_has, Cond.methodLink RX5 108 yX5_isSide, Cond.static yX5_isSide, Cond.initialized RX5, Cond.code yX5_isSide cX5_isSide 1 (some .boolean), Cond.methodLink RX5 111 yX5_trace, Cond.instanceMethod yX5_trace, Cond.selects RX5 yX5_trace yX5_trace, Cond.code yX5_trace cX5_trace 4 none, Cond.fieldLink RX5 96 "LiveHull$Parts" "sizes" "[I"]
def wsX5_bridge_r2 : List Cond := [Cond.methodLink RX5 170 yX0_trace, Cond.instanceMethod yX0_trace, Cond.selects RX0 yX0_trace yX0_trace, Cond.initialized RX0, Cond.code yX0_trace cX0_trace 6 none, Cond.fieldLink RX0 9 "LiveHull$Chain" "size" "I", Cond.sameField "LiveHull$Chain" "LiveHull$Corners" "size" "I", Cond.methodLink RX0 15 yX0_isOverLast, Cond.instanceMethod yX0_isOverLast, Cond.selects RX0 yX0_isOverLast yX0_isOverLast, Cond.code yX0_isOverLast cX0_isOverLast 3 (some .boolean), Cond.fieldLink RX0 27 "LiveHull$Points" "xs" "[I", Cond.fieldLink RX0 33 "LiveHull$Chain" "ranks" "[I", Cond.sameField "LiveHull$Chain" "LiveHull$Corners" "ranks" "[I", Cond.methodLink RX0 19 yX0_lastStays, Cond.instanceMethod yX0_lastStays, Cond.selects RX0 yX0_lastStays yX0_lastStays, Cond.code yX0_lastStays cX0_lastStays 8 (some .boolean), Cond.fieldLink RX0 36 "LiveHull$Points" "ys" "[I", Cond.methodLink RX0 39 yX3_turn, Cond.instanceMethod yX3_turn, Cond.selects RX3 yX3_turn yX3_turn, Cond.initialized RX3, Cond.code yX3_turn cX3_turn 13 (some .long)]
def wsX5_bridge_r3 : List Cond := [Cond.fieldLink RX3 15 "LiveHull$Points" "xs" "[I", Cond.fieldLink RX3 18 "LiveHull$Points" "ys" "[I", Cond.methodLink RX0 23 ⟨"LiveHull$Chain", "append", "(I)V"⟩, Cond.sameMethod "LiveHull$Chain" "LiveHull$Corners" "append" "(I)V", Cond.selects RX0 ⟨"LiveHull$Chain", "append", "(I)V"⟩ yX1_append, Cond.instanceMethod yX1_append, Cond.initialized RX1, Cond.code yX1_append cX1_append 2 none, Cond.fieldLink RX1 15 "LiveHull$Corners" "size" "I", Cond.fieldLink RX1 9 "LiveHull$Corners" "ranks" "[I", Cond.methodLink RX5 121 yX0_lastBefore, Cond.instanceMethod yX0_lastBefore, Cond.selects RX0 yX0_lastBefore yX0_lastBefore, Cond.code yX0_lastBefore cX0_lastBefore 3 (some .int), Cond.methodLink RX5 124 yX0_firstFrom, Cond.instanceMethod yX0_firstFrom, Cond.selects RX0 yX0_firstFrom yX0_firstFrom, Cond.code yX0_firstFrom cX0_firstFrom 3 (some .int), Cond.methodLink RX5 89 yX3_idAt, Cond.instanceMethod yX3_idAt, Cond.selects RX3 yX3_idAt yX3_idAt, Cond.code yX3_idAt cX3_idAt 2 (some .int), Cond.fieldLink RX3 21 "LiveHull$Points" "count" "I", Cond.fieldLink RX3 9 "LiveHull$Points" "ids" "[I"]
def wsX5_bridge : List Cond := .code yX5_bridge cX5_bridge 5 (some .int) :: ((wsX5_bridge_r1 ++ (wsX5_bridge_r2 ++ wsX5_bridge_r3)) ++ wsX50 ++ wsX20 ++ wsX00 ++ wsX40 ++ wsX30)
def wsX5_gatherRing_r1 : List Cond := [Cond.fieldLink RX5 36 "LiveHull" "ring" "LLiveHull$Ring;", Cond.fieldLink RX5 26 "LiveHull" "traced" "LLiveHull$Chain;", Cond.fieldLink RX5 10 "LiveHull" "points" "LLiveHull$Points;", Cond.fieldLink RX5 63 "LiveHull$Points" "count" "I", Cond.methodLink RX5 184 yX4_clear, Cond.instanceMethod yX4_clear, Cond.selects RX4 yX4_clear yX4_clear, Cond.initialized RX4, Cond.code yX4_clear cX4_clear 1 none, Cond.fieldLink RX4 9 "LiveHull$Ring" "size" "I", Cond.sameField "LiveHull$Ring" "LiveHull$Corners" "size" "I", Cond.methodLink RX5 170 yX0_trace, Cond.instanceMethod yX0_trace, Cond.selects RX0 yX0_trace yX0_trace, Cond.initialized RX0, Cond.code yX0_trace cX0_trace 6 none, Cond.fieldLink RX0 9 "LiveHull$Chain" "size" "I", Cond.sameField "LiveHull$Chain" "LiveHull$Corners" "size" "I", Cond.methodLink RX0 15 yX0_isOverLast, Cond.instanceMethod yX0_isOverLast, Cond.selects RX0 yX0_isOverLast yX0_isOverLast, Cond.code yX0_isOverLast cX0_isOverLast 3 (some .boolean), Cond.fieldLink RX0 27 "LiveHull$Points" "xs" "[I", Cond.fieldLink RX0 33 "LiveHull$Chain" "ranks" "[I"]
def wsX5_gatherRing_r2 : List Cond := [Cond.sameField "LiveHull$Chain" "LiveHull$Corners" "ranks" "[I", Cond.methodLink RX0 19 yX0_lastStays, Cond.instanceMethod yX0_lastStays, Cond.selects RX0 yX0_lastStays yX0_lastStays, Cond.code yX0_lastStays cX0_lastStays 8 (some .boolean), Cond.fieldLink RX0 36 "LiveHull$Points" "ys" "[I", Cond.methodLink RX0 39 yX3_turn, Cond.instanceMethod yX3_turn, Cond.selects RX3 yX3_turn yX3_turn, Cond.initialized RX3, Cond.code yX3_turn cX3_turn 13 (some .long), Cond.fieldLink RX3 15 "LiveHull$Points" "xs" "[I", Cond.fieldLink RX3 18 "LiveHull$Points" "ys" "[I", Cond.methodLink RX0 23 ⟨"LiveHull$Chain", "append", "(I)V"⟩, Cond.sameMethod "LiveHull$Chain" "LiveHull$Corners" "append" "(I)V", Cond.selects RX0 ⟨"LiveHull$Chain", "append", "(I)V"⟩ yX1_append, Cond.instanceMethod yX1_append, Cond.initialized RX1, Cond.code yX1_append cX1_append 2 none, Cond.fieldLink RX1 15 "LiveHull$Corners" "size" "I", Cond.fieldLink RX1 9 "LiveHull$Corners" "ranks" "[I", Cond.methodLink RX5 187 yX4_takeRightward, Cond.instanceMethod yX4_takeRightward, Cond.selects RX4 yX4_takeRightward yX4_takeRightward]
def wsX5_gatherRing_r3 : List Cond := [Cond.code yX4_takeRightward cX4_takeRightward 3 none, Cond.fieldLink RX4 15 "LiveHull$Chain" "size" "I", Cond.fieldLink RX4 18 "LiveHull$Chain" "ranks" "[I", Cond.methodLink RX4 22 yX4_takeOnce, Cond.instanceMethod yX4_takeOnce, Cond.selects RX4 yX4_takeOnce yX4_takeOnce, Cond.code yX4_takeOnce cX4_takeOnce 2 none, Cond.methodLink RX4 26 ⟨"LiveHull$Ring", "has", "(I)Z"⟩, Cond.sameMethod "LiveHull$Ring" "LiveHull$Corners" "has" "(I)Z", Cond.selects RX4 ⟨"LiveHull$Ring", "has", "(I)Z"⟩ yX1_has, Cond.instanceMethod yX1_has, Cond.code yX1_has cX1_has 3 (some .boolean), Cond.methodLink RX4 30 ⟨"LiveHull$Ring", "append", "(I)V"⟩, Cond.sameMethod "LiveHull$Ring" "LiveHull$Corners" "append" "(I)V", Cond.selects RX4 ⟨"LiveHull$Ring", "append", "(I)V"⟩ yX1_append, Cond.methodLink RX5 191 yX4_takeLeftward, Cond.instanceMethod yX4_takeLeftward, Cond.selects RX4 yX4_takeLeftward yX4_takeLeftward, Cond.code yX4_takeLeftward cX4_takeLeftward 3 none]
def wsX5_gatherRing : List Cond := .code yX5_gatherRing cX5_gatherRing 1 none :: ((wsX5_gatherRing_r1 ++ (wsX5_gatherRing_r2 ++ wsX5_gatherRing_r3)) ++ wsX50 ++ wsX30 ++ wsX00 ++ wsX40)
def wsX5_round_r1 : List Cond := [Cond.fieldLink RX5 36 "LiveHull" "ring" "LLiveHull$Ring;", Cond.fieldLink RX5 130 "LiveHull$Ring" "size" "I", Cond.sameField "LiveHull$Ring" "LiveHull$Corners" "size" "I", Cond.fieldLink RX5 10 "LiveHull" "points" "LLiveHull$Points;", Cond.methodLink RX5 127 yX5_gatherRing, Cond.instanceMethod yX5_gatherRing, Cond.selects RX5 yX5_gatherRing yX5_gatherRing, Cond.initialized RX5, Cond.code yX5_gatherRing cX5_gatherRing 1 none, Cond.fieldLink RX5 26 "LiveHull" "traced" "LLiveHull$Chain;", Cond.fieldLink RX5 63 "LiveHull$Points" "count" "I", Cond.methodLink RX5 184 yX4_clear, Cond.instanceMethod yX4_clear, Cond.selects RX4 yX4_clear yX4_clear, Cond.initialized RX4, Cond.code yX4_clear cX4_clear 1 none, Cond.fieldLink RX4 9 "LiveHull$Ring" "size" "I", Cond.methodLink RX5 170 yX0_trace, Cond.instanceMethod yX0_trace, Cond.selects RX0 yX0_trace yX0_trace, Cond.initialized RX0, Cond.code yX0_trace cX0_trace 6 none, Cond.fieldLink RX0 9 "LiveHull$Chain" "size" "I", Cond.sameField "LiveHull$Chain" "LiveHull$Corners" "size" "I"]
def wsX5_round_r2 : List Cond := [Cond.methodLink RX0 15 yX0_isOverLast, Cond.instanceMethod yX0_isOverLast, Cond.selects RX0 yX0_isOverLast yX0_isOverLast, Cond.code yX0_isOverLast cX0_isOverLast 3 (some .boolean), Cond.fieldLink RX0 27 "LiveHull$Points" "xs" "[I", Cond.fieldLink RX0 33 "LiveHull$Chain" "ranks" "[I", Cond.sameField "LiveHull$Chain" "LiveHull$Corners" "ranks" "[I", Cond.methodLink RX0 19 yX0_lastStays, Cond.instanceMethod yX0_lastStays, Cond.selects RX0 yX0_lastStays yX0_lastStays, Cond.code yX0_lastStays cX0_lastStays 8 (some .boolean), Cond.fieldLink RX0 36 "LiveHull$Points" "ys" "[I", Cond.methodLink RX0 39 yX3_turn, Cond.instanceMethod yX3_turn, Cond.selects RX3 yX3_turn yX3_turn, Cond.initialized RX3, Cond.code yX3_turn cX3_turn 13 (some .long), Cond.fieldLink RX3 15 "LiveHull$Points" "xs" "[I", Cond.fieldLink RX3 18 "LiveHull$Points" "ys" "[I", Cond.methodLink RX0 23 ⟨"LiveHull$Chain", "append", "(I)V"⟩, Cond.sameMethod "LiveHull$Chain" "LiveHull$Corners" "append" "(I)V", Cond.selects RX0 ⟨"LiveHull$Chain", "append", "(I)V"⟩ yX1_append, Cond.instanceMethod yX1_append, Cond.initialized RX1]
def wsX5_round_r3 : List Cond := [Cond.code yX1_append cX1_append 2 none, Cond.fieldLink RX1 15 "LiveHull$Corners" "size" "I", Cond.fieldLink RX1 9 "LiveHull$Corners" "ranks" "[I", Cond.methodLink RX5 187 yX4_takeRightward, Cond.instanceMethod yX4_takeRightward, Cond.selects RX4 yX4_takeRightward yX4_takeRightward, Cond.code yX4_takeRightward cX4_takeRightward 3 none, Cond.fieldLink RX4 15 "LiveHull$Chain" "size" "I", Cond.fieldLink RX4 18 "LiveHull$Chain" "ranks" "[I", Cond.methodLink RX4 22 yX4_takeOnce, Cond.instanceMethod yX4_takeOnce, Cond.selects RX4 yX4_takeOnce yX4_takeOnce, Cond.code yX4_takeOnce cX4_takeOnce 2 none, Cond.methodLink RX4 26 ⟨"LiveHull$Ring", "has", "(I)Z"⟩, Cond.sameMethod "LiveHull$Ring" "LiveHull$Corners" "has" "(I)Z", Cond.selects RX4 ⟨"LiveHull$Ring", "has", "(I)Z"⟩ yX1_has, Cond.instanceMethod yX1_has, Cond.code yX1_has cX1_has 3 (some .boolean), Cond.methodLink RX4 30 ⟨"LiveHull$Ring", "append", "(I)V"⟩, Cond.sameMethod "LiveHull$Ring" "LiveHull$Corners" "append" "(I)V", Cond.selects RX4 ⟨"LiveHull$Ring", "append", "(I)V"⟩ yX1_append, Cond.methodLink RX5 191 yX4_takeLeftward, Cond.instanceMethod yX4_takeLeftward, Cond.selects RX4 yX4_takeLeftward yX4_takeLeftward]
def wsX5_round_r4 : List Cond := [Cond.code yX4_takeLeftward cX4_takeLeftward 3 none, Cond.methodLink RX5 133 ⟨"LiveHull$Ring", "rankAt", "(I)I"⟩, Cond.sameMethod "LiveHull$Ring" "LiveHull$Corners" "rankAt" "(I)I", Cond.selects RX4 ⟨"LiveHull$Ring", "rankAt", "(I)I"⟩ yX1_rankAt, Cond.instanceMethod yX1_rankAt, Cond.code yX1_rankAt cX1_rankAt 2 (some .int), Cond.methodLink RX5 89 yX3_idAt, Cond.instanceMethod yX3_idAt, Cond.selects RX3 yX3_idAt yX3_idAt, Cond.code yX3_idAt cX3_idAt 2 (some .int), Cond.fieldLink RX3 21 "LiveHull$Points" "count" "I", Cond.fieldLink RX3 9 "LiveHull$Points" "ids" "[I"]
def wsX5_round : List Cond := .code yX5_round cX5_round 2 (some .int) :: ((wsX5_round_r1 ++ (wsX5_round_r2 ++ (wsX5_round_r3 ++ wsX5_round_r4))) ++ wsX50 ++ wsX00 ++ wsX40 ++ wsX30)
def wsX5_extreme_r1 : List Cond := [Cond.fieldLink RX5 10 "LiveHull" "points" "LLiveHull$Points;", Cond.fieldLink RX5 63 "LiveHull$Points" "count" "I", Cond.fieldLink RX5 36 "LiveHull" "ring" "LLiveHull$Ring;", Cond.methodLink RX5 48 yX5_isPlace, Cond.static yX5_isPlace, Cond.initialized RX5, Cond.code yX5_isPlace cX5_isPlace 2 (some .boolean), Cond.constant RX5 168 (-1000000000), Cond.constant RX5 169 (1000000000), Cond.methodLink RX5 127 yX5_gatherRing, Cond.instanceMethod yX5_gatherRing, Cond.selects RX5 yX5_gatherRing yX5_gatherRing, Cond.code yX5_gatherRing cX5_gatherRing 1 none, Cond.fieldLink RX5 26 "LiveHull" "traced" "LLiveHull$Chain;", Cond.methodLink RX5 184 yX4_clear, Cond.instanceMethod yX4_clear, Cond.selects RX4 yX4_clear yX4_clear, Cond.initialized RX4, Cond.code yX4_clear cX4_clear 1 none, Cond.fieldLink RX4 9 "LiveHull$Ring" "size" "I", Cond.sameField "LiveHull$Ring" "LiveHull$Corners" "size" "I", Cond.methodLink RX5 170 yX0_trace, Cond.instanceMethod yX0_trace, Cond.selects RX0 yX0_trace yX0_trace]
def wsX5_extreme_r2 : List Cond := [Cond.initialized RX0, Cond.code yX0_trace cX0_trace 6 none, Cond.fieldLink RX0 9 "LiveHull$Chain" "size" "I", Cond.sameField "LiveHull$Chain" "LiveHull$Corners" "size" "I", Cond.methodLink RX0 15 yX0_isOverLast, Cond.instanceMethod yX0_isOverLast, Cond.selects RX0 yX0_isOverLast yX0_isOverLast, Cond.code yX0_isOverLast cX0_isOverLast 3 (some .boolean), Cond.fieldLink RX0 27 "LiveHull$Points" "xs" "[I", Cond.fieldLink RX0 33 "LiveHull$Chain" "ranks" "[I", Cond.sameField "LiveHull$Chain" "LiveHull$Corners" "ranks" "[I", Cond.methodLink RX0 19 yX0_lastStays, Cond.instanceMethod yX0_lastStays, Cond.selects RX0 yX0_lastStays yX0_lastStays, Cond.code yX0_lastStays cX0_lastStays 8 (some .boolean), Cond.fieldLink RX0 36 "LiveHull$Points" "ys" "[I", Cond.methodLink RX0 39 yX3_turn, Cond.instanceMethod yX3_turn, Cond.selects RX3 yX3_turn yX3_turn, Cond.initialized RX3, Cond.code yX3_turn cX3_turn 13 (some .long), Cond.fieldLink RX3 15 "LiveHull$Points" "xs" "[I", Cond.fieldLink RX3 18 "LiveHull$Points" "ys" "[I", Cond.methodLink RX0 23 ⟨"LiveHull$Chain", "append", "(I)V"⟩]
def wsX5_extreme_r3 : List Cond := [Cond.sameMethod "LiveHull$Chain" "LiveHull$Corners" "append" "(I)V", Cond.selects RX0 ⟨"LiveHull$Chain", "append", "(I)V"⟩ yX1_append, Cond.instanceMethod yX1_append, Cond.initialized RX1, Cond.code yX1_append cX1_append 2 none, Cond.fieldLink RX1 15 "LiveHull$Corners" "size" "I", Cond.fieldLink RX1 9 "LiveHull$Corners" "ranks" "[I", Cond.methodLink RX5 187 yX4_takeRightward, Cond.instanceMethod yX4_takeRightward, Cond.selects RX4 yX4_takeRightward yX4_takeRightward, Cond.code yX4_takeRightward cX4_takeRightward 3 none, Cond.fieldLink RX4 15 "LiveHull$Chain" "size" "I", Cond.fieldLink RX4 18 "LiveHull$Chain" "ranks" "[I", Cond.methodLink RX4 22 yX4_takeOnce, Cond.instanceMethod yX4_takeOnce, Cond.selects RX4 yX4_takeOnce yX4_takeOnce, Cond.code yX4_takeOnce cX4_takeOnce 2 none, Cond.methodLink RX4 26 ⟨"LiveHull$Ring", "has", "(I)Z"⟩, Cond.sameMethod "LiveHull$Ring" "LiveHull$Corners" "has" "(I)Z", Cond.selects RX4 ⟨"LiveHull$Ring", "has", "(I)Z"⟩ yX1_has, Cond.instanceMethod yX1_has, Cond.code yX1_has cX1_has 3 (some .boolean), Cond.methodLink RX4 30 ⟨"LiveHull$Ring", "append", "(I)V"⟩, Cond.sameMethod "LiveHull$Ring" "LiveHull$Corners" "append" "(I)V"]
def wsX5_extreme_r4 : List Cond := [Cond.selects RX4 ⟨"LiveHull$Ring", "append", "(I)V"⟩ yX1_append, Cond.methodLink RX5 191 yX4_takeLeftward, Cond.instanceMethod yX4_takeLeftward, Cond.selects RX4 yX4_takeLeftward yX4_takeLeftward, Cond.code yX4_takeLeftward cX4_takeLeftward 3 none, Cond.methodLink RX5 134 yX4_farthest, Cond.instanceMethod yX4_farthest, Cond.selects RX4 yX4_farthest yX4_farthest, Cond.code yX4_farthest cX4_farthest 6 (some .int), Cond.fieldLink RX4 33 "LiveHull$Ring" "ranks" "[I", Cond.sameField "LiveHull$Ring" "LiveHull$Corners" "ranks" "[I", Cond.methodLink RX4 34 yX4_isFarther, Cond.static yX4_isFarther, Cond.code yX4_isFarther cX4_isFarther 9 (some .boolean), Cond.methodLink RX4 38 yX3_reach, Cond.instanceMethod yX3_reach, Cond.selects RX3 yX3_reach yX3_reach, Cond.code yX3_reach cX3_reach 4 (some .long), Cond.methodLink RX5 89 yX3_idAt, Cond.instanceMethod yX3_idAt, Cond.selects RX3 yX3_idAt yX3_idAt, Cond.code yX3_idAt cX3_idAt 2 (some .int), Cond.fieldLink RX3 21 "LiveHull$Points" "count" "I", Cond.fieldLink RX3 9 "LiveHull$Points" "ids" "[I"]
def wsX5_extreme : List Cond := .code yX5_extreme cX5_extreme 3 (some .int) :: ((wsX5_extreme_r1 ++ (wsX5_extreme_r2 ++ (wsX5_extreme_r3 ++ wsX5_extreme_r4))) ++ wsX50 ++ wsX30 ++ wsX00 ++ wsX40)
def wsX5_where_r1 : List Cond := [Cond.fieldLink RX5 36 "LiveHull" "ring" "LLiveHull$Ring;", Cond.fieldLink RX5 10 "LiveHull" "points" "LLiveHull$Points;", Cond.methodLink RX5 48 yX5_isPlace, Cond.static yX5_isPlace, Cond.initialized RX5, Cond.code yX5_isPlace cX5_isPlace 2 (some .boolean), Cond.constant RX5 168 (-1000000000), Cond.constant RX5 169 (1000000000), Cond.methodLink RX5 127 yX5_gatherRing, Cond.instanceMethod yX5_gatherRing, Cond.selects RX5 yX5_gatherRing yX5_gatherRing, Cond.code yX5_gatherRing cX5_gatherRing 1 none, Cond.fieldLink RX5 26 "LiveHull" "traced" "LLiveHull$Chain;", Cond.fieldLink RX5 63 "LiveHull$Points" "count" "I", Cond.methodLink RX5 184 yX4_clear, Cond.instanceMethod yX4_clear, Cond.selects RX4 yX4_clear yX4_clear, Cond.initialized RX4, Cond.code yX4_clear cX4_clear 1 none, Cond.fieldLink RX4 9 "LiveHull$Ring" "size" "I", Cond.sameField "LiveHull$Ring" "LiveHull$Corners" "size" "I", Cond.methodLink RX5 170 yX0_trace, Cond.instanceMethod yX0_trace, Cond.selects RX0 yX0_trace yX0_trace]
def wsX5_where_r2 : List Cond := [Cond.initialized RX0, Cond.code yX0_trace cX0_trace 6 none, Cond.fieldLink RX0 9 "LiveHull$Chain" "size" "I", Cond.sameField "LiveHull$Chain" "LiveHull$Corners" "size" "I", Cond.methodLink RX0 15 yX0_isOverLast, Cond.instanceMethod yX0_isOverLast, Cond.selects RX0 yX0_isOverLast yX0_isOverLast, Cond.code yX0_isOverLast cX0_isOverLast 3 (some .boolean), Cond.fieldLink RX0 27 "LiveHull$Points" "xs" "[I", Cond.fieldLink RX0 33 "LiveHull$Chain" "ranks" "[I", Cond.sameField "LiveHull$Chain" "LiveHull$Corners" "ranks" "[I", Cond.methodLink RX0 19 yX0_lastStays, Cond.instanceMethod yX0_lastStays, Cond.selects RX0 yX0_lastStays yX0_lastStays, Cond.code yX0_lastStays cX0_lastStays 8 (some .boolean), Cond.fieldLink RX0 36 "LiveHull$Points" "ys" "[I", Cond.methodLink RX0 39 yX3_turn, Cond.instanceMethod yX3_turn, Cond.selects RX3 yX3_turn yX3_turn, Cond.initialized RX3, Cond.code yX3_turn cX3_turn 13 (some .long), Cond.fieldLink RX3 15 "LiveHull$Points" "xs" "[I", Cond.fieldLink RX3 18 "LiveHull$Points" "ys" "[I", Cond.methodLink RX0 23 ⟨"LiveHull$Chain", "append", "(I)V"⟩]
def wsX5_where_r3 : List Cond := [Cond.sameMethod "LiveHull$Chain" "LiveHull$Corners" "append" "(I)V", Cond.selects RX0 ⟨"LiveHull$Chain", "append", "(I)V"⟩ yX1_append, Cond.instanceMethod yX1_append, Cond.initialized RX1, Cond.code yX1_append cX1_append 2 none, Cond.fieldLink RX1 15 "LiveHull$Corners" "size" "I", Cond.fieldLink RX1 9 "LiveHull$Corners" "ranks" "[I", Cond.methodLink RX5 187 yX4_takeRightward, Cond.instanceMethod yX4_takeRightward, Cond.selects RX4 yX4_takeRightward yX4_takeRightward, Cond.code yX4_takeRightward cX4_takeRightward 3 none, Cond.fieldLink RX4 15 "LiveHull$Chain" "size" "I", Cond.fieldLink RX4 18 "LiveHull$Chain" "ranks" "[I", Cond.methodLink RX4 22 yX4_takeOnce, Cond.instanceMethod yX4_takeOnce, Cond.selects RX4 yX4_takeOnce yX4_takeOnce, Cond.code yX4_takeOnce cX4_takeOnce 2 none, Cond.methodLink RX4 26 ⟨"LiveHull$Ring", "has", "(I)Z"⟩, Cond.sameMethod "LiveHull$Ring" "LiveHull$Corners" "has" "(I)Z", Cond.selects RX4 ⟨"LiveHull$Ring", "has", "(I)Z"⟩ yX1_has, Cond.instanceMethod yX1_has, Cond.code yX1_has cX1_has 3 (some .boolean), Cond.methodLink RX4 30 ⟨"LiveHull$Ring", "append", "(I)V"⟩, Cond.sameMethod "LiveHull$Ring" "LiveHull$Corners" "append" "(I)V"]
def wsX5_where_r4 : List Cond := [Cond.selects RX4 ⟨"LiveHull$Ring", "append", "(I)V"⟩ yX1_append, Cond.methodLink RX5 191 yX4_takeLeftward, Cond.instanceMethod yX4_takeLeftward, Cond.selects RX4 yX4_takeLeftward yX4_takeLeftward, Cond.code yX4_takeLeftward cX4_takeLeftward 3 none, Cond.methodLink RX5 138 yX4_locate, Cond.instanceMethod yX4_locate, Cond.selects RX4 yX4_locate yX4_locate, Cond.code yX4_locate cX4_locate 9 (some .int), Cond.fieldLink RX4 33 "LiveHull$Ring" "ranks" "[I", Cond.sameField "LiveHull$Ring" "LiveHull$Corners" "ranks" "[I", Cond.methodLink RX4 44 yX4_isAtCorner, Cond.instanceMethod yX4_isAtCorner, Cond.selects RX4 yX4_isAtCorner yX4_isAtCorner, Cond.code yX4_isAtCorner cX4_isAtCorner 5 (some .boolean), Cond.methodLink RX4 56 yX3_isAt, Cond.instanceMethod yX3_isAt, Cond.selects RX3 yX3_isAt yX3_isAt, Cond.code yX3_isAt cX3_isAt 4 (some .boolean), Cond.methodLink RX4 48 yX3_turn, Cond.methodLink RX4 52 yX3_isBoxed, Cond.instanceMethod yX3_isBoxed, Cond.selects RX3 yX3_isBoxed yX3_isBoxed, Cond.code yX3_isBoxed cX3_isBoxed 5 (some .boolean)]
def wsX5_where_r5 : List Cond := [Cond.methodLink RX3 40 Lib.Math.min.name, Cond.static Lib.Math.min.name, Cond.initialized "java/lang/Math", Cond.code Lib.Math.min.name Lib.Math.min.code 2 (some .int), Cond.methodLink RX3 46 Lib.Math.max.name, Cond.static Lib.Math.max.name, Cond.code Lib.Math.max.name Lib.Math.max.code 2 (some .int)]
def wsX5_where : List Cond := .code yX5_where cX5_where 3 (some .int) :: ((wsX5_where_r1 ++ (wsX5_where_r2 ++ (wsX5_where_r3 ++ (wsX5_where_r4 ++ wsX5_where_r5)))) ++ wsX50 ++ wsX30 ++ wsX00 ++ wsX40)
def wsX5_touch_r1 : List Cond := [Cond.fieldLink RX5 10 "LiveHull" "points" "LLiveHull$Points;", Cond.fieldLink RX5 63 "LiveHull$Points" "count" "I", Cond.fieldLink RX5 36 "LiveHull" "ring" "LLiveHull$Ring;", Cond.methodLink RX5 48 yX5_isPlace, Cond.static yX5_isPlace, Cond.initialized RX5, Cond.code yX5_isPlace cX5_isPlace 2 (some .boolean), Cond.constant RX5 168 (-1000000000), Cond.constant RX5 169 (1000000000), Cond.methodLink RX5 108 yX5_isSide, Cond.static yX5_isSide, Cond.code yX5_isSide cX5_isSide 1 (some .boolean), Cond.methodLink RX5 127 yX5_gatherRing, Cond.instanceMethod yX5_gatherRing, Cond.selects RX5 yX5_gatherRing yX5_gatherRing, Cond.code yX5_gatherRing cX5_gatherRing 1 none, Cond.fieldLink RX5 26 "LiveHull" "traced" "LLiveHull$Chain;", Cond.methodLink RX5 184 yX4_clear, Cond.instanceMethod yX4_clear, Cond.selects RX4 yX4_clear yX4_clear, Cond.initialized RX4, Cond.code yX4_clear cX4_clear 1 none, Cond.fieldLink RX4 9 "LiveHull$Ring" "size" "I", Cond.sameField "LiveHull$Ring" "LiveHull$Corners" "size" "I"]
def wsX5_touch_r2 : List Cond := [Cond.methodLink RX5 170 yX0_trace, Cond.instanceMethod yX0_trace, Cond.selects RX0 yX0_trace yX0_trace, Cond.initialized RX0, Cond.code yX0_trace cX0_trace 6 none, Cond.fieldLink RX0 9 "LiveHull$Chain" "size" "I", Cond.sameField "LiveHull$Chain" "LiveHull$Corners" "size" "I", Cond.methodLink RX0 15 yX0_isOverLast, Cond.instanceMethod yX0_isOverLast, Cond.selects RX0 yX0_isOverLast yX0_isOverLast, Cond.code yX0_isOverLast cX0_isOverLast 3 (some .boolean), Cond.fieldLink RX0 27 "LiveHull$Points" "xs" "[I", Cond.fieldLink RX0 33 "LiveHull$Chain" "ranks" "[I", Cond.sameField "LiveHull$Chain" "LiveHull$Corners" "ranks" "[I", Cond.methodLink RX0 19 yX0_lastStays, Cond.instanceMethod yX0_lastStays, Cond.selects RX0 yX0_lastStays yX0_lastStays, Cond.code yX0_lastStays cX0_lastStays 8 (some .boolean), Cond.fieldLink RX0 36 "LiveHull$Points" "ys" "[I", Cond.methodLink RX0 39 yX3_turn, Cond.instanceMethod yX3_turn, Cond.selects RX3 yX3_turn yX3_turn, Cond.initialized RX3, Cond.code yX3_turn cX3_turn 13 (some .long)]
def wsX5_touch_r3 : List Cond := [Cond.fieldLink RX3 15 "LiveHull$Points" "xs" "[I", Cond.fieldLink RX3 18 "LiveHull$Points" "ys" "[I", Cond.methodLink RX0 23 ⟨"LiveHull$Chain", "append", "(I)V"⟩, Cond.sameMethod "LiveHull$Chain" "LiveHull$Corners" "append" "(I)V", Cond.selects RX0 ⟨"LiveHull$Chain", "append", "(I)V"⟩ yX1_append, Cond.instanceMethod yX1_append, Cond.initialized RX1, Cond.code yX1_append cX1_append 2 none, Cond.fieldLink RX1 15 "LiveHull$Corners" "size" "I", Cond.fieldLink RX1 9 "LiveHull$Corners" "ranks" "[I", Cond.methodLink RX5 187 yX4_takeRightward, Cond.instanceMethod yX4_takeRightward, Cond.selects RX4 yX4_takeRightward yX4_takeRightward, Cond.code yX4_takeRightward cX4_takeRightward 3 none, Cond.fieldLink RX4 15 "LiveHull$Chain" "size" "I", Cond.fieldLink RX4 18 "LiveHull$Chain" "ranks" "[I", Cond.methodLink RX4 22 yX4_takeOnce, Cond.instanceMethod yX4_takeOnce, Cond.selects RX4 yX4_takeOnce yX4_takeOnce, Cond.code yX4_takeOnce cX4_takeOnce 2 none, Cond.methodLink RX4 26 ⟨"LiveHull$Ring", "has", "(I)Z"⟩, Cond.sameMethod "LiveHull$Ring" "LiveHull$Corners" "has" "(I)Z", Cond.selects RX4 ⟨"LiveHull$Ring", "has", "(I)Z"⟩ yX1_has, Cond.instanceMethod yX1_has]
def wsX5_touch_r4 : List Cond := [Cond.code yX1_has cX1_has 3 (some .boolean), Cond.methodLink RX4 30 ⟨"LiveHull$Ring", "append", "(I)V"⟩, Cond.sameMethod "LiveHull$Ring" "LiveHull$Corners" "append" "(I)V", Cond.selects RX4 ⟨"LiveHull$Ring", "append", "(I)V"⟩ yX1_append, Cond.methodLink RX5 191 yX4_takeLeftward, Cond.instanceMethod yX4_takeLeftward, Cond.selects RX4 yX4_takeLeftward yX4_takeLeftward, Cond.code yX4_takeLeftward cX4_takeLeftward 3 none, Cond.methodLink RX5 138 yX4_locate, Cond.instanceMethod yX4_locate, Cond.selects RX4 yX4_locate yX4_locate, Cond.code yX4_locate cX4_locate 9 (some .int), Cond.fieldLink RX4 33 "LiveHull$Ring" "ranks" "[I", Cond.sameField "LiveHull$Ring" "LiveHull$Corners" "ranks" "[I", Cond.methodLink RX4 44 yX4_isAtCorner, Cond.instanceMethod yX4_isAtCorner, Cond.selects RX4 yX4_isAtCorner yX4_isAtCorner, Cond.code yX4_isAtCorner cX4_isAtCorner 5 (some .boolean), Cond.methodLink RX4 56 yX3_isAt, Cond.instanceMethod yX3_isAt, Cond.selects RX3 yX3_isAt yX3_isAt, Cond.code yX3_isAt cX3_isAt 4 (some .boolean), Cond.methodLink RX4 48 yX3_turn, Cond.methodLink RX4 52 yX3_isBoxed]
def wsX5_touch_r5 : List Cond := [Cond.instanceMethod yX3_isBoxed, Cond.selects RX3 yX3_isBoxed yX3_isBoxed, Cond.code yX3_isBoxed cX3_isBoxed 5 (some .boolean), Cond.methodLink RX3 40 Lib.Math.min.name, Cond.static Lib.Math.min.name, Cond.initialized "java/lang/Math", Cond.code Lib.Math.min.name Lib.Math.min.code 2 (some .int), Cond.methodLink RX3 46 Lib.Math.max.name, Cond.static Lib.Math.max.name, Cond.code Lib.Math.max.name Lib.Math.max.code 2 (some .int), Cond.methodLink RX5 141 yX4_nearestTouching, Cond.instanceMethod yX4_nearestTouching, Cond.selects RX4 yX4_nearestTouching yX4_nearestTouching, Cond.code yX4_nearestTouching cX4_nearestTouching 8 (some .int), Cond.methodLink RX4 60 yX4_isTouching, Cond.instanceMethod yX4_isTouching, Cond.selects RX4 yX4_isTouching yX4_isTouching, Cond.code yX4_isTouching cX4_isTouching 9 (some .boolean), Cond.methodLink RX4 63 yX4_isNearer, Cond.static yX4_isNearer, Cond.code yX4_isNearer cX4_isNearer 5 (some .boolean), Cond.methodLink RX4 66 yX3_squaredDistance, Cond.instanceMethod yX3_squaredDistance, Cond.selects RX3 yX3_squaredDistance yX3_squaredDistance]
def wsX5_touch_r6 : List Cond := [Cond.code yX3_squaredDistance cX3_squaredDistance 8 (some .long), Cond.methodLink RX5 89 yX3_idAt, Cond.instanceMethod yX3_idAt, Cond.selects RX3 yX3_idAt yX3_idAt, Cond.code yX3_idAt cX3_idAt 2 (some .int), Cond.fieldLink RX3 21 "LiveHull$Points" "count" "I", Cond.fieldLink RX3 9 "LiveHull$Points" "ids" "[I"]
def wsX5_touch : List Cond := .code yX5_touch cX5_touch 4 (some .int) :: ((wsX5_touch_r1 ++ (wsX5_touch_r2 ++ (wsX5_touch_r3 ++ (wsX5_touch_r4 ++ (wsX5_touch_r5 ++ wsX5_touch_r6))))) ++ wsX50 ++ wsX30 ++ wsX00 ++ wsX40)
def wsX5_area_r1 : List Cond := [Cond.fieldLink RX5 36 "LiveHull" "ring" "LLiveHull$Ring;", Cond.fieldLink RX5 10 "LiveHull" "points" "LLiveHull$Points;", Cond.methodLink RX5 127 yX5_gatherRing, Cond.instanceMethod yX5_gatherRing, Cond.selects RX5 yX5_gatherRing yX5_gatherRing, Cond.initialized RX5, Cond.code yX5_gatherRing cX5_gatherRing 1 none, Cond.fieldLink RX5 26 "LiveHull" "traced" "LLiveHull$Chain;", Cond.fieldLink RX5 63 "LiveHull$Points" "count" "I", Cond.methodLink RX5 184 yX4_clear, Cond.instanceMethod yX4_clear, Cond.selects RX4 yX4_clear yX4_clear, Cond.initialized RX4, Cond.code yX4_clear cX4_clear 1 none, Cond.fieldLink RX4 9 "LiveHull$Ring" "size" "I", Cond.sameField "LiveHull$Ring" "LiveHull$Corners" "size" "I", Cond.methodLink RX5 170 yX0_trace, Cond.instanceMethod yX0_trace, Cond.selects RX0 yX0_trace yX0_trace, Cond.initialized RX0, Cond.code yX0_trace cX0_trace 6 none, Cond.fieldLink RX0 9 "LiveHull$Chain" "size" "I", Cond.sameField "LiveHull$Chain" "LiveHull$Corners" "size" "I", Cond.methodLink RX0 15 yX0_isOverLast]
def wsX5_area_r2 : List Cond := [Cond.instanceMethod yX0_isOverLast, Cond.selects RX0 yX0_isOverLast yX0_isOverLast, Cond.code yX0_isOverLast cX0_isOverLast 3 (some .boolean), Cond.fieldLink RX0 27 "LiveHull$Points" "xs" "[I", Cond.fieldLink RX0 33 "LiveHull$Chain" "ranks" "[I", Cond.sameField "LiveHull$Chain" "LiveHull$Corners" "ranks" "[I", Cond.methodLink RX0 19 yX0_lastStays, Cond.instanceMethod yX0_lastStays, Cond.selects RX0 yX0_lastStays yX0_lastStays, Cond.code yX0_lastStays cX0_lastStays 8 (some .boolean), Cond.fieldLink RX0 36 "LiveHull$Points" "ys" "[I", Cond.methodLink RX0 39 yX3_turn, Cond.instanceMethod yX3_turn, Cond.selects RX3 yX3_turn yX3_turn, Cond.initialized RX3, Cond.code yX3_turn cX3_turn 13 (some .long), Cond.fieldLink RX3 15 "LiveHull$Points" "xs" "[I", Cond.fieldLink RX3 18 "LiveHull$Points" "ys" "[I", Cond.methodLink RX0 23 ⟨"LiveHull$Chain", "append", "(I)V"⟩, Cond.sameMethod "LiveHull$Chain" "LiveHull$Corners" "append" "(I)V", Cond.selects RX0 ⟨"LiveHull$Chain", "append", "(I)V"⟩ yX1_append, Cond.instanceMethod yX1_append, Cond.initialized RX1, Cond.code yX1_append cX1_append 2 none]
def wsX5_area_r3 : List Cond := [Cond.fieldLink RX1 15 "LiveHull$Corners" "size" "I", Cond.fieldLink RX1 9 "LiveHull$Corners" "ranks" "[I", Cond.methodLink RX5 187 yX4_takeRightward, Cond.instanceMethod yX4_takeRightward, Cond.selects RX4 yX4_takeRightward yX4_takeRightward, Cond.code yX4_takeRightward cX4_takeRightward 3 none, Cond.fieldLink RX4 15 "LiveHull$Chain" "size" "I", Cond.fieldLink RX4 18 "LiveHull$Chain" "ranks" "[I", Cond.methodLink RX4 22 yX4_takeOnce, Cond.instanceMethod yX4_takeOnce, Cond.selects RX4 yX4_takeOnce yX4_takeOnce, Cond.code yX4_takeOnce cX4_takeOnce 2 none, Cond.methodLink RX4 26 ⟨"LiveHull$Ring", "has", "(I)Z"⟩, Cond.sameMethod "LiveHull$Ring" "LiveHull$Corners" "has" "(I)Z", Cond.selects RX4 ⟨"LiveHull$Ring", "has", "(I)Z"⟩ yX1_has, Cond.instanceMethod yX1_has, Cond.code yX1_has cX1_has 3 (some .boolean), Cond.methodLink RX4 30 ⟨"LiveHull$Ring", "append", "(I)V"⟩, Cond.sameMethod "LiveHull$Ring" "LiveHull$Corners" "append" "(I)V", Cond.selects RX4 ⟨"LiveHull$Ring", "append", "(I)V"⟩ yX1_append, Cond.methodLink RX5 191 yX4_takeLeftward, Cond.instanceMethod yX4_takeLeftward, Cond.selects RX4 yX4_takeLeftward yX4_takeLeftward, Cond.code yX4_takeLeftward cX4_takeLeftward 3 none]
def wsX5_area_r4 : List Cond := [Cond.methodLink RX5 145 yX4_doubleArea, Cond.instanceMethod yX4_doubleArea, Cond.selects RX4 yX4_doubleArea yX4_doubleArea, Cond.code yX4_doubleArea cX4_doubleArea 6 (some .long), Cond.fieldLink RX4 33 "LiveHull$Ring" "ranks" "[I", Cond.sameField "LiveHull$Ring" "LiveHull$Corners" "ranks" "[I", Cond.fieldLink RX4 69 "LiveHull$Points" "xs" "[I", Cond.fieldLink RX4 72 "LiveHull$Points" "ys" "[I", Cond.methodLink RX4 48 yX3_turn]
def wsX5_area : List Cond := .code yX5_area cX5_area 1 (some .long) :: ((wsX5_area_r1 ++ (wsX5_area_r2 ++ (wsX5_area_r3 ++ wsX5_area_r4))) ++ wsX50 ++ wsX30 ++ wsX00 ++ wsX40)
def wsX5_isImage : List Cond := .code yX5_isImage cX5_isImage 1 (some .boolean) :: ([])
def wsX5_image : List Cond := .code yX5_image cX5_image 2 (some .int) :: ([.fieldLink RX5 40 "LiveHull" "images" "[LLiveHull$Points;", .fieldLink RX5 10 "LiveHull" "points" "LLiveHull$Points;", .fieldLink RX5 44 "LiveHull" "kept" "[Z", .methodLink RX5 149 yX5_isImage, .static yX5_isImage, .initialized RX5, .code yX5_isImage cX5_isImage 1 (some .boolean), .methodLink RX5 152 yX3_copyFrom, .instanceMethod yX3_copyFrom, .selects RX3 yX3_copyFrom yX3_copyFrom, .initialized RX3, .code yX3_copyFrom cX3_copyFrom 3 none, .fieldLink RX3 21 "LiveHull$Points" "count" "I", .fieldLink RX3 9 "LiveHull$Points" "ids" "[I", .fieldLink RX3 15 "LiveHull$Points" "xs" "[I", .fieldLink RX3 18 "LiveHull$Points" "ys" "[I", .methodLink RX3 36 yX3_setRow, .instanceMethod yX3_setRow, .selects RX3 yX3_setRow yX3_setRow, .code yX3_setRow cX3_setRow 5 none] ++ wsX50 ++ wsX30)
def wsX5_restore_r1 : List Cond := [Cond.fieldLink RX5 44 "LiveHull" "kept" "[Z", Cond.fieldLink RX5 10 "LiveHull" "points" "LLiveHull$Points;", Cond.fieldLink RX5 40 "LiveHull" "images" "[LLiveHull$Points;", Cond.fieldLink RX5 19 "LiveHull" "parts" "LLiveHull$Parts;", Cond.fieldLink RX5 63 "LiveHull$Points" "count" "I", Cond.methodLink RX5 149 yX5_isImage, Cond.static yX5_isImage, Cond.initialized RX5, Cond.code yX5_isImage cX5_isImage 1 (some .boolean), Cond.methodLink RX5 152 yX3_copyFrom, Cond.instanceMethod yX3_copyFrom, Cond.selects RX3 yX3_copyFrom yX3_copyFrom, Cond.initialized RX3, Cond.code yX3_copyFrom cX3_copyFrom 3 none, Cond.fieldLink RX3 21 "LiveHull$Points" "count" "I", Cond.fieldLink RX3 9 "LiveHull$Points" "ids" "[I", Cond.fieldLink RX3 15 "LiveHull$Points" "xs" "[I", Cond.fieldLink RX3 18 "LiveHull$Points" "ys" "[I", Cond.methodLink RX3 36 yX3_setRow, Cond.instanceMethod yX3_setRow, Cond.selects RX3 yX3_setRow yX3_setRow, Cond.code yX3_setRow cX3_setRow 5 none, Cond.methodLink RX5 67 yX2_split, Cond.instanceMethod yX2_split]
def wsX5_restore_r2 : List Cond := [Cond.selects RX2 yX2_split yX2_split, Cond.initialized RX2, Cond.code yX2_split cX2_split 3 none, Cond.fieldLink RX2 9 "LiveHull$Parts" "firsts" "[I", Cond.fieldLink RX2 15 "LiveHull$Parts" "sizes" "[I", Cond.methodLink RX2 18 yX2_splitPart, Cond.instanceMethod yX2_splitPart, Cond.selects RX2 yX2_splitPart yX2_splitPart, Cond.code yX2_splitPart cX2_splitPart 5 none]
def wsX5_restore : List Cond := .code yX5_restore cX5_restore 2 (some .int) :: ((wsX5_restore_r1 ++ wsX5_restore_r2) ++ wsX50 ++ wsX30 ++ wsX20)
def wsX5_cornersOfAll_r1 : List Cond := [Cond.fieldLink RX5 19 "LiveHull" "parts" "LLiveHull$Parts;", Cond.methodLink RX5 92 yX2_has, Cond.instanceMethod yX2_has, Cond.selects RX2 yX2_has yX2_has, Cond.initialized RX2, Cond.code yX2_has cX2_has 2 (some .boolean), Cond.fieldLink RX2 15 "LiveHull$Parts" "sizes" "[I", Cond.methodLink RX5 102 yX5_cornersOf, Cond.instanceMethod yX5_cornersOf, Cond.selects RX5 yX5_cornersOf yX5_cornersOf, Cond.initialized RX5, Cond.code yX5_cornersOf cX5_cornersOf 3 (some .int), Cond.fieldLink RX5 26 "LiveHull" "traced" "LLiveHull$Chain;", Cond.fieldLink RX5 173 "LiveHull$Chain" "size" "I", Cond.sameField "LiveHull$Chain" "LiveHull$Corners" "size" "I", Cond.methodLink RX5 111 yX5_trace, Cond.instanceMethod yX5_trace, Cond.selects RX5 yX5_trace yX5_trace, Cond.code yX5_trace cX5_trace 4 none, Cond.fieldLink RX5 10 "LiveHull" "points" "LLiveHull$Points;", Cond.fieldLink RX5 99 "LiveHull$Parts" "firsts" "[I", Cond.fieldLink RX5 96 "LiveHull$Parts" "sizes" "[I", Cond.methodLink RX5 170 yX0_trace, Cond.instanceMethod yX0_trace]
def wsX5_cornersOfAll_r2 : List Cond := [Cond.selects RX0 yX0_trace yX0_trace, Cond.initialized RX0, Cond.code yX0_trace cX0_trace 6 none, Cond.fieldLink RX0 9 "LiveHull$Chain" "size" "I", Cond.methodLink RX0 15 yX0_isOverLast, Cond.instanceMethod yX0_isOverLast, Cond.selects RX0 yX0_isOverLast yX0_isOverLast, Cond.code yX0_isOverLast cX0_isOverLast 3 (some .boolean), Cond.fieldLink RX0 27 "LiveHull$Points" "xs" "[I", Cond.fieldLink RX0 33 "LiveHull$Chain" "ranks" "[I", Cond.sameField "LiveHull$Chain" "LiveHull$Corners" "ranks" "[I", Cond.methodLink RX0 19 yX0_lastStays, Cond.instanceMethod yX0_lastStays, Cond.selects RX0 yX0_lastStays yX0_lastStays, Cond.code yX0_lastStays cX0_lastStays 8 (some .boolean), Cond.fieldLink RX0 36 "LiveHull$Points" "ys" "[I", Cond.methodLink RX0 39 yX3_turn, Cond.instanceMethod yX3_turn, Cond.selects RX3 yX3_turn yX3_turn, Cond.initialized RX3, Cond.code yX3_turn cX3_turn 13 (some .long), Cond.fieldLink RX3 15 "LiveHull$Points" "xs" "[I", Cond.fieldLink RX3 18 "LiveHull$Points" "ys" "[I", Cond.methodLink RX0 23 ⟨"LiveHull$Chain", "append", "(I)V"⟩]
def wsX5_cornersOfAll_r3 : List Cond := [Cond.sameMethod "LiveHull$Chain" "LiveHull$Corners" "append" "(I)V", Cond.selects RX0 ⟨"LiveHull$Chain", "append", "(I)V"⟩ yX1_append, Cond.instanceMethod yX1_append, Cond.initialized RX1, Cond.code yX1_append cX1_append 2 none, Cond.fieldLink RX1 15 "LiveHull$Corners" "size" "I", Cond.fieldLink RX1 9 "LiveHull$Corners" "ranks" "[I"]
def wsX5_cornersOfAll : List Cond := .code yX5_cornersOfAll cX5_cornersOfAll 3 (some .int) :: ((wsX5_cornersOfAll_r1 ++ (wsX5_cornersOfAll_r2 ++ wsX5_cornersOfAll_r3)) ++ wsX50 ++ wsX20 ++ wsX00 ++ wsX40 ++ wsX30)
def wsX5_restsOfAll_r1 : List Cond := [Cond.fieldLink RX5 19 "LiveHull" "parts" "LLiveHull$Parts;", Cond.methodLink RX5 92 yX2_has, Cond.instanceMethod yX2_has, Cond.selects RX2 yX2_has yX2_has, Cond.initialized RX2, Cond.code yX2_has cX2_has 2 (some .boolean), Cond.fieldLink RX2 15 "LiveHull$Parts" "sizes" "[I", Cond.methodLink RX5 105 yX5_restOf, Cond.instanceMethod yX5_restOf, Cond.selects RX5 yX5_restOf yX5_restOf, Cond.initialized RX5, Cond.code yX5_restOf cX5_restOf 5 (some .int), Cond.fieldLink RX5 26 "LiveHull" "traced" "LLiveHull$Chain;", Cond.fieldLink RX5 30 "LiveHull" "tracedGreater" "LLiveHull$Chain;", Cond.fieldLink RX5 173 "LiveHull$Chain" "size" "I", Cond.sameField "LiveHull$Chain" "LiveHull$Corners" "size" "I", Cond.fieldLink RX5 174 "LiveHull$Chain" "ranks" "[I", Cond.sameField "LiveHull$Chain" "LiveHull$Corners" "ranks" "[I", Cond.methodLink RX5 111 yX5_trace, Cond.instanceMethod yX5_trace, Cond.selects RX5 yX5_trace yX5_trace, Cond.code yX5_trace cX5_trace 4 none, Cond.fieldLink RX5 10 "LiveHull" "points" "LLiveHull$Points;", Cond.fieldLink RX5 99 "LiveHull$Parts" "firsts" "[I"]
def wsX5_restsOfAll_r2 : List Cond := [Cond.fieldLink RX5 96 "LiveHull$Parts" "sizes" "[I", Cond.methodLink RX5 170 yX0_trace, Cond.instanceMethod yX0_trace, Cond.selects RX0 yX0_trace yX0_trace, Cond.initialized RX0, Cond.code yX0_trace cX0_trace 6 none, Cond.fieldLink RX0 9 "LiveHull$Chain" "size" "I", Cond.methodLink RX0 15 yX0_isOverLast, Cond.instanceMethod yX0_isOverLast, Cond.selects RX0 yX0_isOverLast yX0_isOverLast, Cond.code yX0_isOverLast cX0_isOverLast 3 (some .boolean), Cond.fieldLink RX0 27 "LiveHull$Points" "xs" "[I", Cond.fieldLink RX0 33 "LiveHull$Chain" "ranks" "[I", Cond.methodLink RX0 19 yX0_lastStays, Cond.instanceMethod yX0_lastStays, Cond.selects RX0 yX0_lastStays yX0_lastStays, Cond.code yX0_lastStays cX0_lastStays 8 (some .boolean), Cond.fieldLink RX0 36 "LiveHull$Points" "ys" "[I", Cond.methodLink RX0 39 yX3_turn, Cond.instanceMethod yX3_turn, Cond.selects RX3 yX3_turn yX3_turn, Cond.initialized RX3, Cond.code yX3_turn cX3_turn 13 (some .long), Cond.fieldLink RX3 15 "LiveHull$Points" "xs" "[I"]
def wsX5_restsOfAll_r3 : List Cond := [Cond.fieldLink RX3 18 "LiveHull$Points" "ys" "[I", Cond.methodLink RX0 23 ⟨"LiveHull$Chain", "append", "(I)V"⟩, Cond.sameMethod "LiveHull$Chain" "LiveHull$Corners" "append" "(I)V", Cond.selects RX0 ⟨"LiveHull$Chain", "append", "(I)V"⟩ yX1_append, Cond.instanceMethod yX1_append, Cond.initialized RX1, Cond.code yX1_append cX1_append 2 none, Cond.fieldLink RX1 15 "LiveHull$Corners" "size" "I", Cond.fieldLink RX1 9 "LiveHull$Corners" "ranks" "[I", Cond.methodLink RX5 177 ⟨"LiveHull$Chain", "has", "(I)Z"⟩, Cond.sameMethod "LiveHull$Chain" "LiveHull$Corners" "has" "(I)Z", Cond.selects RX0 ⟨"LiveHull$Chain", "has", "(I)Z"⟩ yX1_has, Cond.instanceMethod yX1_has, Cond.code yX1_has cX1_has 3 (some .boolean)]
def wsX5_restsOfAll : List Cond := .code yX5_restsOfAll cX5_restsOfAll 3 (some .int) :: ((wsX5_restsOfAll_r1 ++ (wsX5_restsOfAll_r2 ++ wsX5_restsOfAll_r3)) ++ wsX50 ++ wsX20 ++ wsX00 ++ wsX40 ++ wsX30)
def wsX5_told_r1 : List Cond := [Cond.fieldLink RX5 10 "LiveHull" "points" "LLiveHull$Points;", Cond.fieldLink RX5 63 "LiveHull$Points" "count" "I", Cond.fieldLink RX5 19 "LiveHull" "parts" "LLiveHull$Parts;", Cond.methodLink RX5 156 yX2_howMany, Cond.instanceMethod yX2_howMany, Cond.selects RX2 yX2_howMany yX2_howMany, Cond.initialized RX2, Cond.code yX2_howMany cX2_howMany 3 (some .int), Cond.methodLink RX2 22 yX2_has, Cond.instanceMethod yX2_has, Cond.selects RX2 yX2_has yX2_has, Cond.code yX2_has cX2_has 2 (some .boolean), Cond.fieldLink RX2 15 "LiveHull$Parts" "sizes" "[I", Cond.methodLink RX5 159 yX5_cornersOfAll, Cond.instanceMethod yX5_cornersOfAll, Cond.selects RX5 yX5_cornersOfAll yX5_cornersOfAll, Cond.initialized RX5, Cond.code yX5_cornersOfAll cX5_cornersOfAll 3 (some .int), Cond.methodLink RX5 92 yX2_has, Cond.methodLink RX5 102 yX5_cornersOf, Cond.instanceMethod yX5_cornersOf, Cond.selects RX5 yX5_cornersOf yX5_cornersOf, Cond.code yX5_cornersOf cX5_cornersOf 3 (some .int), Cond.fieldLink RX5 26 "LiveHull" "traced" "LLiveHull$Chain;"]
def wsX5_told_r2 : List Cond := [Cond.fieldLink RX5 173 "LiveHull$Chain" "size" "I", Cond.sameField "LiveHull$Chain" "LiveHull$Corners" "size" "I", Cond.methodLink RX5 111 yX5_trace, Cond.instanceMethod yX5_trace, Cond.selects RX5 yX5_trace yX5_trace, Cond.code yX5_trace cX5_trace 4 none, Cond.fieldLink RX5 99 "LiveHull$Parts" "firsts" "[I", Cond.fieldLink RX5 96 "LiveHull$Parts" "sizes" "[I", Cond.methodLink RX5 170 yX0_trace, Cond.instanceMethod yX0_trace, Cond.selects RX0 yX0_trace yX0_trace, Cond.initialized RX0, Cond.code yX0_trace cX0_trace 6 none, Cond.fieldLink RX0 9 "LiveHull$Chain" "size" "I", Cond.methodLink RX0 15 yX0_isOverLast, Cond.instanceMethod yX0_isOverLast, Cond.selects RX0 yX0_isOverLast yX0_isOverLast, Cond.code yX0_isOverLast cX0_isOverLast 3 (some .boolean), Cond.fieldLink RX0 27 "LiveHull$Points" "xs" "[I", Cond.fieldLink RX0 33 "LiveHull$Chain" "ranks" "[I", Cond.sameField "LiveHull$Chain" "LiveHull$Corners" "ranks" "[I", Cond.methodLink RX0 19 yX0_lastStays, Cond.instanceMethod yX0_lastStays, Cond.selects RX0 yX0_lastStays yX0_lastStays]
def wsX5_told_r3 : List Cond := [Cond.code yX0_lastStays cX0_lastStays 8 (some .boolean), Cond.fieldLink RX0 36 "LiveHull$Points" "ys" "[I", Cond.methodLink RX0 39 yX3_turn, Cond.instanceMethod yX3_turn, Cond.selects RX3 yX3_turn yX3_turn, Cond.initialized RX3, Cond.code yX3_turn cX3_turn 13 (some .long), Cond.fieldLink RX3 15 "LiveHull$Points" "xs" "[I", Cond.fieldLink RX3 18 "LiveHull$Points" "ys" "[I", Cond.methodLink RX0 23 ⟨"LiveHull$Chain", "append", "(I)V"⟩, Cond.sameMethod "LiveHull$Chain" "LiveHull$Corners" "append" "(I)V", Cond.selects RX0 ⟨"LiveHull$Chain", "append", "(I)V"⟩ yX1_append, Cond.instanceMethod yX1_append, Cond.initialized RX1, Cond.code yX1_append cX1_append 2 none, Cond.fieldLink RX1 15 "LiveHull$Corners" "size" "I", Cond.fieldLink RX1 9 "LiveHull$Corners" "ranks" "[I", Cond.methodLink RX5 162 yX5_restsOfAll, Cond.instanceMethod yX5_restsOfAll, Cond.selects RX5 yX5_restsOfAll yX5_restsOfAll, Cond.code yX5_restsOfAll cX5_restsOfAll 3 (some .int), Cond.methodLink RX5 105 yX5_restOf, Cond.instanceMethod yX5_restOf, Cond.selects RX5 yX5_restOf yX5_restOf]
def wsX5_told_r4 : List Cond := [Cond.code yX5_restOf cX5_restOf 5 (some .int), Cond.fieldLink RX5 30 "LiveHull" "tracedGreater" "LLiveHull$Chain;", Cond.fieldLink RX5 174 "LiveHull$Chain" "ranks" "[I", Cond.methodLink RX5 177 ⟨"LiveHull$Chain", "has", "(I)Z"⟩, Cond.sameMethod "LiveHull$Chain" "LiveHull$Corners" "has" "(I)Z", Cond.selects RX0 ⟨"LiveHull$Chain", "has", "(I)Z"⟩ yX1_has, Cond.instanceMethod yX1_has, Cond.code yX1_has cX1_has 3 (some .boolean), Cond.methodLink RX5 165 yX2_greatestDepth, Cond.instanceMethod yX2_greatestDepth, Cond.selects RX2 yX2_greatestDepth yX2_greatestDepth, Cond.code yX2_greatestDepth cX2_greatestDepth 2 (some .int), Cond.methodLink RX2 26 yX2_depthOf, Cond.static yX2_depthOf, Cond.code yX2_depthOf cX2_depthOf 3 (some .int)]
def wsX5_told : List Cond := .code yX5_told cX5_told 2 (some .int) :: ((wsX5_told_r1 ++ (wsX5_told_r2 ++ (wsX5_told_r3 ++ wsX5_told_r4))) ++ wsX50 ++ wsX30 ++ wsX20 ++ wsX00 ++ wsX40)
def wsX6_init : List Cond := .code yX6_init cX6_init 1 none :: ([.methodLink RX6 1 objectInit, .instanceMethod objectInit, .code objectInit ⟨#[0xb1]⟩ 1 none, .arrayClass .int, .fieldLink RX6 7 "LiveHullModel" "xs" "[I", .fieldLink RX6 13 "LiveHullModel" "ys" "[I", .arrayClass .boolean, .fieldLink RX6 16 "LiveHullModel" "is" "[Z", .fieldLink RX6 20 "LiveHullModel" "ranks" "[I", .fieldLink RX6 23 "LiveHullModel" "rankOf" "[I", .fieldLink RX6 26 "LiveHullModel" "corner" "[I", .fieldLink RX6 29 "LiveHullModel" "ring" "[I", .fieldLink RX6 32 "LiveHullModel" "image" "[I", .arrayClass .long, .fieldLink RX6 35 "LiveHullModel" "imageSet" "[J", .fieldLink RX6 39 "LiveHullModel" "isKept" "[Z"] ++ wsX60)
def wsX6_in : List Cond := .code yX6_in cX6_in 3 (some .boolean) :: ([])
def wsX6_isPlace : List Cond := .code yX6_isPlace cX6_isPlace 2 (some .boolean) :: ([.constant RX6 42 (-1000000000), .constant RX6 43 (1000000000), .methodLink RX6 44 yX6_in, .static yX6_in, .initialized RX6, .code yX6_in cX6_in 3 (some .boolean)])
def wsX6_isPoint : List Cond := .code yX6_isPoint cX6_isPoint 2 (some .boolean) :: ([.fieldLink RX6 16 "LiveHullModel" "is" "[Z", .methodLink RX6 44 yX6_in, .static yX6_in, .initialized RX6, .code yX6_in cX6_in 3 (some .boolean)] ++ wsX60)
def wsX6_isTaken : List Cond := .code yX6_isTaken cX6_isTaken 5 (some .boolean) :: ([.fieldLink RX6 16 "LiveHullModel" "is" "[Z", .fieldLink RX6 7 "LiveHullModel" "xs" "[I", .fieldLink RX6 13 "LiveHullModel" "ys" "[I"] ++ wsX60)
def wsX6_add : List Cond := .code yX6_add cX6_add 4 (some .int) :: ([.fieldLink RX6 55 "LiveHullModel" "many" "I", .fieldLink RX6 16 "LiveHullModel" "is" "[Z", .fieldLink RX6 7 "LiveHullModel" "xs" "[I", .fieldLink RX6 13 "LiveHullModel" "ys" "[I", .methodLink RX6 48 yX6_isPlace, .static yX6_isPlace, .initialized RX6, .code yX6_isPlace cX6_isPlace 2 (some .boolean), .constant RX6 42 (-1000000000), .constant RX6 43 (1000000000), .methodLink RX6 44 yX6_in, .static yX6_in, .code yX6_in cX6_in 3 (some .boolean), .methodLink RX6 52 yX6_isTaken, .instanceMethod yX6_isTaken, .selects RX6 yX6_isTaken yX6_isTaken, .code yX6_isTaken cX6_isTaken 5 (some .boolean)] ++ wsX60)
def wsX6_remove : List Cond := .code yX6_remove cX6_remove 2 (some .int) :: ([.fieldLink RX6 16 "LiveHullModel" "is" "[Z", .fieldLink RX6 55 "LiveHullModel" "many" "I", .methodLink RX6 59 yX6_isPoint, .instanceMethod yX6_isPoint, .selects RX6 yX6_isPoint yX6_isPoint, .initialized RX6, .code yX6_isPoint cX6_isPoint 2 (some .boolean), .methodLink RX6 44 yX6_in, .static yX6_in, .code yX6_in cX6_in 3 (some .boolean)] ++ wsX60)
def wsX6_move : List Cond := .code yX6_move cX6_move 4 (some .int) :: ([.fieldLink RX6 7 "LiveHullModel" "xs" "[I", .fieldLink RX6 13 "LiveHullModel" "ys" "[I", .methodLink RX6 59 yX6_isPoint, .instanceMethod yX6_isPoint, .selects RX6 yX6_isPoint yX6_isPoint, .initialized RX6, .code yX6_isPoint cX6_isPoint 2 (some .boolean), .fieldLink RX6 16 "LiveHullModel" "is" "[Z", .methodLink RX6 44 yX6_in, .static yX6_in, .code yX6_in cX6_in 3 (some .boolean), .methodLink RX6 48 yX6_isPlace, .static yX6_isPlace, .code yX6_isPlace cX6_isPlace 2 (some .boolean), .constant RX6 42 (-1000000000), .constant RX6 43 (1000000000), .methodLink RX6 52 yX6_isTaken, .instanceMethod yX6_isTaken, .selects RX6 yX6_isTaken yX6_isTaken, .code yX6_isTaken cX6_isTaken 5 (some .boolean)] ++ wsX60)
def wsX6_layRanks : List Cond := .code yX6_layRanks cX6_layRanks 4 none :: ([.fieldLink RX6 16 "LiveHullModel" "is" "[Z", .fieldLink RX6 7 "LiveHullModel" "xs" "[I", .fieldLink RX6 20 "LiveHullModel" "ranks" "[I", .fieldLink RX6 13 "LiveHullModel" "ys" "[I", .fieldLink RX6 23 "LiveHullModel" "rankOf" "[I"] ++ wsX60)
def wsX6_layPart : List Cond := .code yX6_layPart cX6_layPart 5 (some .boolean) :: ([.fieldLink RX6 55 "LiveHullModel" "many" "I", .fieldLink RX6 66 "LiveHullModel" "from" "I", .fieldLink RX6 69 "LiveHullModel" "to" "I", .fieldLink RX6 72 "LiveHullModel" "depth" "I", .methodLink RX6 63 yX6_layRanks, .instanceMethod yX6_layRanks, .selects RX6 yX6_layRanks yX6_layRanks, .initialized RX6, .code yX6_layRanks cX6_layRanks 4 none, .fieldLink RX6 16 "LiveHullModel" "is" "[Z", .fieldLink RX6 7 "LiveHullModel" "xs" "[I", .fieldLink RX6 20 "LiveHullModel" "ranks" "[I", .fieldLink RX6 13 "LiveHullModel" "ys" "[I", .fieldLink RX6 23 "LiveHullModel" "rankOf" "[I", .methodLink RX6 44 yX6_in, .static yX6_in, .code yX6_in cX6_in 3 (some .boolean)] ++ wsX60)
def wsX6_cross : List Cond := .code yX6_cross cX6_cross 12 (some .long) :: ([])
def wsX6_bend : List Cond := .code yX6_bend cX6_bend 4 (some .long) :: ([.fieldLink RX6 7 "LiveHullModel" "xs" "[I", .fieldLink RX6 13 "LiveHullModel" "ys" "[I", .methodLink RX6 75 yX6_cross, .static yX6_cross, .initialized RX6, .code yX6_cross cX6_cross 12 (some .long)] ++ wsX60)
def wsX6_layChain : List Cond := .code yX6_layChain cX6_layChain 5 none :: ([.fieldLink RX6 79 "LiveHullModel" "corners" "I", .fieldLink RX6 66 "LiveHullModel" "from" "I", .fieldLink RX6 69 "LiveHullModel" "to" "I", .fieldLink RX6 20 "LiveHullModel" "ranks" "[I", .fieldLink RX6 7 "LiveHullModel" "xs" "[I", .fieldLink RX6 26 "LiveHullModel" "corner" "[I", .methodLink RX6 82 yX6_bend, .instanceMethod yX6_bend, .selects RX6 yX6_bend yX6_bend, .initialized RX6, .code yX6_bend cX6_bend 4 (some .long), .fieldLink RX6 13 "LiveHullModel" "ys" "[I", .methodLink RX6 75 yX6_cross, .static yX6_cross, .code yX6_cross cX6_cross 12 (some .long)] ++ wsX60)
def wsX6_cornerSet : List Cond := .code yX6_cornerSet cX6_cornerSet 4 (some .long) :: ([.fieldLink RX6 79 "LiveHullModel" "corners" "I", .fieldLink RX6 26 "LiveHullModel" "corner" "[I"] ++ wsX60)
def wsX6_chainSet_r1 : List Cond := [Cond.methodLink RX6 86 yX6_layPart, Cond.instanceMethod yX6_layPart, Cond.selects RX6 yX6_layPart yX6_layPart, Cond.initialized RX6, Cond.code yX6_layPart cX6_layPart 5 (some .boolean), Cond.fieldLink RX6 55 "LiveHullModel" "many" "I", Cond.fieldLink RX6 66 "LiveHullModel" "from" "I", Cond.fieldLink RX6 69 "LiveHullModel" "to" "I", Cond.fieldLink RX6 72 "LiveHullModel" "depth" "I", Cond.methodLink RX6 63 yX6_layRanks, Cond.instanceMethod yX6_layRanks, Cond.selects RX6 yX6_layRanks yX6_layRanks, Cond.code yX6_layRanks cX6_layRanks 4 none, Cond.fieldLink RX6 16 "LiveHullModel" "is" "[Z", Cond.fieldLink RX6 7 "LiveHullModel" "xs" "[I", Cond.fieldLink RX6 20 "LiveHullModel" "ranks" "[I", Cond.fieldLink RX6 13 "LiveHullModel" "ys" "[I", Cond.fieldLink RX6 23 "LiveHullModel" "rankOf" "[I", Cond.methodLink RX6 44 yX6_in, Cond.static yX6_in, Cond.code yX6_in cX6_in 3 (some .boolean), Cond.methodLink RX6 89 yX6_layChain, Cond.instanceMethod yX6_layChain, Cond.selects RX6 yX6_layChain yX6_layChain]
def wsX6_chainSet_r2 : List Cond := [Cond.code yX6_layChain cX6_layChain 5 none, Cond.fieldLink RX6 79 "LiveHullModel" "corners" "I", Cond.fieldLink RX6 26 "LiveHullModel" "corner" "[I", Cond.methodLink RX6 82 yX6_bend, Cond.instanceMethod yX6_bend, Cond.selects RX6 yX6_bend yX6_bend, Cond.code yX6_bend cX6_bend 4 (some .long), Cond.methodLink RX6 75 yX6_cross, Cond.static yX6_cross, Cond.code yX6_cross cX6_cross 12 (some .long), Cond.methodLink RX6 93 yX6_cornerSet, Cond.instanceMethod yX6_cornerSet, Cond.selects RX6 yX6_cornerSet yX6_cornerSet, Cond.code yX6_cornerSet cX6_cornerSet 4 (some .long)]
def wsX6_chainSet : List Cond := .code yX6_chainSet cX6_chainSet 3 (some .long) :: ((wsX6_chainSet_r1 ++ wsX6_chainSet_r2) ++ wsX60)
def wsX6_bits : List Cond := .code yX6_bits cX6_bits 4 (some .int) :: ([])
def wsX6_restOf_r1 : List Cond := [Cond.constantLong RX6 101 (-1), Cond.methodLink RX6 97 yX6_chainSet, Cond.instanceMethod yX6_chainSet, Cond.selects RX6 yX6_chainSet yX6_chainSet, Cond.initialized RX6, Cond.code yX6_chainSet cX6_chainSet 3 (some .long), Cond.methodLink RX6 86 yX6_layPart, Cond.instanceMethod yX6_layPart, Cond.selects RX6 yX6_layPart yX6_layPart, Cond.code yX6_layPart cX6_layPart 5 (some .boolean), Cond.fieldLink RX6 55 "LiveHullModel" "many" "I", Cond.fieldLink RX6 66 "LiveHullModel" "from" "I", Cond.fieldLink RX6 69 "LiveHullModel" "to" "I", Cond.fieldLink RX6 72 "LiveHullModel" "depth" "I", Cond.methodLink RX6 63 yX6_layRanks, Cond.instanceMethod yX6_layRanks, Cond.selects RX6 yX6_layRanks yX6_layRanks, Cond.code yX6_layRanks cX6_layRanks 4 none, Cond.fieldLink RX6 16 "LiveHullModel" "is" "[Z", Cond.fieldLink RX6 7 "LiveHullModel" "xs" "[I", Cond.fieldLink RX6 20 "LiveHullModel" "ranks" "[I", Cond.fieldLink RX6 13 "LiveHullModel" "ys" "[I", Cond.fieldLink RX6 23 "LiveHullModel" "rankOf" "[I", Cond.methodLink RX6 44 yX6_in]
def wsX6_restOf_r2 : List Cond := [Cond.static yX6_in, Cond.code yX6_in cX6_in 3 (some .boolean), Cond.methodLink RX6 89 yX6_layChain, Cond.instanceMethod yX6_layChain, Cond.selects RX6 yX6_layChain yX6_layChain, Cond.code yX6_layChain cX6_layChain 5 none, Cond.fieldLink RX6 79 "LiveHullModel" "corners" "I", Cond.fieldLink RX6 26 "LiveHullModel" "corner" "[I", Cond.methodLink RX6 82 yX6_bend, Cond.instanceMethod yX6_bend, Cond.selects RX6 yX6_bend yX6_bend, Cond.code yX6_bend cX6_bend 4 (some .long), Cond.methodLink RX6 75 yX6_cross, Cond.static yX6_cross, Cond.code yX6_cross cX6_cross 12 (some .long), Cond.methodLink RX6 93 yX6_cornerSet, Cond.instanceMethod yX6_cornerSet, Cond.selects RX6 yX6_cornerSet yX6_cornerSet, Cond.code yX6_cornerSet cX6_cornerSet 4 (some .long), Cond.methodLink RX6 103 yX6_bits, Cond.static yX6_bits, Cond.code yX6_bits cX6_bits 4 (some .int)]
def wsX6_restOf : List Cond := .code yX6_restOf cX6_restOf 3 (some .int) :: ((wsX6_restOf_r1 ++ wsX6_restOf_r2) ++ wsX60)
def wsX6_topOf_r1 : List Cond := [Cond.fieldLink RX6 72 "LiveHullModel" "depth" "I", Cond.methodLink RX6 97 yX6_chainSet, Cond.instanceMethod yX6_chainSet, Cond.selects RX6 yX6_chainSet yX6_chainSet, Cond.initialized RX6, Cond.code yX6_chainSet cX6_chainSet 3 (some .long), Cond.methodLink RX6 86 yX6_layPart, Cond.instanceMethod yX6_layPart, Cond.selects RX6 yX6_layPart yX6_layPart, Cond.code yX6_layPart cX6_layPart 5 (some .boolean), Cond.fieldLink RX6 55 "LiveHullModel" "many" "I", Cond.fieldLink RX6 66 "LiveHullModel" "from" "I", Cond.fieldLink RX6 69 "LiveHullModel" "to" "I", Cond.methodLink RX6 63 yX6_layRanks, Cond.instanceMethod yX6_layRanks, Cond.selects RX6 yX6_layRanks yX6_layRanks, Cond.code yX6_layRanks cX6_layRanks 4 none, Cond.fieldLink RX6 16 "LiveHullModel" "is" "[Z", Cond.fieldLink RX6 7 "LiveHullModel" "xs" "[I", Cond.fieldLink RX6 20 "LiveHullModel" "ranks" "[I", Cond.fieldLink RX6 13 "LiveHullModel" "ys" "[I", Cond.fieldLink RX6 23 "LiveHullModel" "rankOf" "[I", Cond.methodLink RX6 44 yX6_in, Cond.static yX6_in]
def wsX6_topOf_r2 : List Cond := [Cond.code yX6_in cX6_in 3 (some .boolean), Cond.methodLink RX6 89 yX6_layChain, Cond.instanceMethod yX6_layChain, Cond.selects RX6 yX6_layChain yX6_layChain, Cond.code yX6_layChain cX6_layChain 5 none, Cond.fieldLink RX6 79 "LiveHullModel" "corners" "I", Cond.fieldLink RX6 26 "LiveHullModel" "corner" "[I", Cond.methodLink RX6 82 yX6_bend, Cond.instanceMethod yX6_bend, Cond.selects RX6 yX6_bend yX6_bend, Cond.code yX6_bend cX6_bend 4 (some .long), Cond.methodLink RX6 75 yX6_cross, Cond.static yX6_cross, Cond.code yX6_cross cX6_cross 12 (some .long), Cond.methodLink RX6 93 yX6_cornerSet, Cond.instanceMethod yX6_cornerSet, Cond.selects RX6 yX6_cornerSet yX6_cornerSet, Cond.code yX6_cornerSet cX6_cornerSet 4 (some .long)]
def wsX6_topOf : List Cond := .code yX6_topOf cX6_topOf 5 (some .int) :: ((wsX6_topOf_r1 ++ wsX6_topOf_r2) ++ wsX60)
def wsX6_point_r1 : List Cond := [Cond.fieldLink RX6 7 "LiveHullModel" "xs" "[I", Cond.fieldLink RX6 13 "LiveHullModel" "ys" "[I", Cond.fieldLink RX6 23 "LiveHullModel" "rankOf" "[I", Cond.methodLink RX6 59 yX6_isPoint, Cond.instanceMethod yX6_isPoint, Cond.selects RX6 yX6_isPoint yX6_isPoint, Cond.initialized RX6, Cond.code yX6_isPoint cX6_isPoint 2 (some .boolean), Cond.fieldLink RX6 16 "LiveHullModel" "is" "[Z", Cond.methodLink RX6 44 yX6_in, Cond.static yX6_in, Cond.code yX6_in cX6_in 3 (some .boolean), Cond.methodLink RX6 63 yX6_layRanks, Cond.instanceMethod yX6_layRanks, Cond.selects RX6 yX6_layRanks yX6_layRanks, Cond.code yX6_layRanks cX6_layRanks 4 none, Cond.fieldLink RX6 20 "LiveHullModel" "ranks" "[I", Cond.methodLink RX6 107 yX6_topOf, Cond.instanceMethod yX6_topOf, Cond.selects RX6 yX6_topOf yX6_topOf, Cond.code yX6_topOf cX6_topOf 5 (some .int), Cond.fieldLink RX6 72 "LiveHullModel" "depth" "I", Cond.methodLink RX6 97 yX6_chainSet, Cond.instanceMethod yX6_chainSet]
def wsX6_point_r2 : List Cond := [Cond.selects RX6 yX6_chainSet yX6_chainSet, Cond.code yX6_chainSet cX6_chainSet 3 (some .long), Cond.methodLink RX6 86 yX6_layPart, Cond.instanceMethod yX6_layPart, Cond.selects RX6 yX6_layPart yX6_layPart, Cond.code yX6_layPart cX6_layPart 5 (some .boolean), Cond.fieldLink RX6 55 "LiveHullModel" "many" "I", Cond.fieldLink RX6 66 "LiveHullModel" "from" "I", Cond.fieldLink RX6 69 "LiveHullModel" "to" "I", Cond.methodLink RX6 89 yX6_layChain, Cond.instanceMethod yX6_layChain, Cond.selects RX6 yX6_layChain yX6_layChain, Cond.code yX6_layChain cX6_layChain 5 none, Cond.fieldLink RX6 79 "LiveHullModel" "corners" "I", Cond.fieldLink RX6 26 "LiveHullModel" "corner" "[I", Cond.methodLink RX6 82 yX6_bend, Cond.instanceMethod yX6_bend, Cond.selects RX6 yX6_bend yX6_bend, Cond.code yX6_bend cX6_bend 4 (some .long), Cond.methodLink RX6 75 yX6_cross, Cond.static yX6_cross, Cond.code yX6_cross cX6_cross 12 (some .long), Cond.methodLink RX6 93 yX6_cornerSet, Cond.instanceMethod yX6_cornerSet]
def wsX6_point_r3 : List Cond := [Cond.selects RX6 yX6_cornerSet yX6_cornerSet, Cond.code yX6_cornerSet cX6_cornerSet 4 (some .long)]
def wsX6_point : List Cond := .code yX6_point cX6_point 3 (some .int) :: ((wsX6_point_r1 ++ (wsX6_point_r2 ++ wsX6_point_r3)) ++ wsX60)
def wsX6_ranked : List Cond := .code yX6_ranked cX6_ranked 2 (some .int) :: ([.fieldLink RX6 55 "LiveHullModel" "many" "I", .fieldLink RX6 20 "LiveHullModel" "ranks" "[I", .methodLink RX6 63 yX6_layRanks, .instanceMethod yX6_layRanks, .selects RX6 yX6_layRanks yX6_layRanks, .initialized RX6, .code yX6_layRanks cX6_layRanks 4 none, .fieldLink RX6 16 "LiveHullModel" "is" "[Z", .fieldLink RX6 7 "LiveHullModel" "xs" "[I", .fieldLink RX6 13 "LiveHullModel" "ys" "[I", .fieldLink RX6 23 "LiveHullModel" "rankOf" "[I", .methodLink RX6 44 yX6_in, .static yX6_in, .code yX6_in cX6_in 3 (some .boolean)] ++ wsX60)
def wsX6_part_r1 : List Cond := [Cond.fieldLink RX6 69 "LiveHullModel" "to" "I", Cond.fieldLink RX6 66 "LiveHullModel" "from" "I", Cond.methodLink RX6 86 yX6_layPart, Cond.instanceMethod yX6_layPart, Cond.selects RX6 yX6_layPart yX6_layPart, Cond.initialized RX6, Cond.code yX6_layPart cX6_layPart 5 (some .boolean), Cond.fieldLink RX6 55 "LiveHullModel" "many" "I", Cond.fieldLink RX6 72 "LiveHullModel" "depth" "I", Cond.methodLink RX6 63 yX6_layRanks, Cond.instanceMethod yX6_layRanks, Cond.selects RX6 yX6_layRanks yX6_layRanks, Cond.code yX6_layRanks cX6_layRanks 4 none, Cond.fieldLink RX6 16 "LiveHullModel" "is" "[Z", Cond.fieldLink RX6 7 "LiveHullModel" "xs" "[I", Cond.fieldLink RX6 20 "LiveHullModel" "ranks" "[I", Cond.fieldLink RX6 13 "LiveHullModel" "ys" "[I", Cond.fieldLink RX6 23 "LiveHullModel" "rankOf" "[I", Cond.methodLink RX6 44 yX6_in, Cond.static yX6_in, Cond.code yX6_in cX6_in 3 (some .boolean), Cond.methodLink RX6 97 yX6_chainSet, Cond.instanceMethod yX6_chainSet, Cond.selects RX6 yX6_chainSet yX6_chainSet]
def wsX6_part_r2 : List Cond := [Cond.code yX6_chainSet cX6_chainSet 3 (some .long), Cond.methodLink RX6 89 yX6_layChain, Cond.instanceMethod yX6_layChain, Cond.selects RX6 yX6_layChain yX6_layChain, Cond.code yX6_layChain cX6_layChain 5 none, Cond.fieldLink RX6 79 "LiveHullModel" "corners" "I", Cond.fieldLink RX6 26 "LiveHullModel" "corner" "[I", Cond.methodLink RX6 82 yX6_bend, Cond.instanceMethod yX6_bend, Cond.selects RX6 yX6_bend yX6_bend, Cond.code yX6_bend cX6_bend 4 (some .long), Cond.methodLink RX6 75 yX6_cross, Cond.static yX6_cross, Cond.code yX6_cross cX6_cross 12 (some .long), Cond.methodLink RX6 93 yX6_cornerSet, Cond.instanceMethod yX6_cornerSet, Cond.selects RX6 yX6_cornerSet yX6_cornerSet, Cond.code yX6_cornerSet cX6_cornerSet 4 (some .long), Cond.methodLink RX6 103 yX6_bits, Cond.static yX6_bits, Cond.code yX6_bits cX6_bits 4 (some .int), Cond.methodLink RX6 111 yX6_restOf, Cond.instanceMethod yX6_restOf, Cond.selects RX6 yX6_restOf yX6_restOf]
def wsX6_part_r3 : List Cond := [Cond.code yX6_restOf cX6_restOf 3 (some .int), Cond.constantLong RX6 101 (-1)]
def wsX6_part : List Cond := .code yX6_part cX6_part 3 (some .int) :: ((wsX6_part_r1 ++ (wsX6_part_r2 ++ wsX6_part_r3)) ++ wsX60)
def wsX6_chain_r1 : List Cond := [Cond.fieldLink RX6 79 "LiveHullModel" "corners" "I", Cond.fieldLink RX6 26 "LiveHullModel" "corner" "[I", Cond.methodLink RX6 86 yX6_layPart, Cond.instanceMethod yX6_layPart, Cond.selects RX6 yX6_layPart yX6_layPart, Cond.initialized RX6, Cond.code yX6_layPart cX6_layPart 5 (some .boolean), Cond.fieldLink RX6 55 "LiveHullModel" "many" "I", Cond.fieldLink RX6 66 "LiveHullModel" "from" "I", Cond.fieldLink RX6 69 "LiveHullModel" "to" "I", Cond.fieldLink RX6 72 "LiveHullModel" "depth" "I", Cond.methodLink RX6 63 yX6_layRanks, Cond.instanceMethod yX6_layRanks, Cond.selects RX6 yX6_layRanks yX6_layRanks, Cond.code yX6_layRanks cX6_layRanks 4 none, Cond.fieldLink RX6 16 "LiveHullModel" "is" "[Z", Cond.fieldLink RX6 7 "LiveHullModel" "xs" "[I", Cond.fieldLink RX6 20 "LiveHullModel" "ranks" "[I", Cond.fieldLink RX6 13 "LiveHullModel" "ys" "[I", Cond.fieldLink RX6 23 "LiveHullModel" "rankOf" "[I", Cond.methodLink RX6 44 yX6_in, Cond.static yX6_in, Cond.code yX6_in cX6_in 3 (some .boolean), Cond.methodLink RX6 89 yX6_layChain]
def wsX6_chain_r2 : List Cond := [Cond.instanceMethod yX6_layChain, Cond.selects RX6 yX6_layChain yX6_layChain, Cond.code yX6_layChain cX6_layChain 5 none, Cond.methodLink RX6 82 yX6_bend, Cond.instanceMethod yX6_bend, Cond.selects RX6 yX6_bend yX6_bend, Cond.code yX6_bend cX6_bend 4 (some .long), Cond.methodLink RX6 75 yX6_cross, Cond.static yX6_cross, Cond.code yX6_cross cX6_cross 12 (some .long)]
def wsX6_chain : List Cond := .code yX6_chain cX6_chain 4 (some .int) :: ((wsX6_chain_r1 ++ wsX6_chain_r2) ++ wsX60)
def wsX6_bridge_r1 : List Cond := [Cond.fieldLink RX6 69 "LiveHullModel" "to" "I", Cond.fieldLink RX6 66 "LiveHullModel" "from" "I", Cond.fieldLink RX6 79 "LiveHullModel" "corners" "I", Cond.fieldLink RX6 23 "LiveHullModel" "rankOf" "[I", Cond.fieldLink RX6 26 "LiveHullModel" "corner" "[I", Cond.methodLink RX6 86 yX6_layPart, Cond.instanceMethod yX6_layPart, Cond.selects RX6 yX6_layPart yX6_layPart, Cond.initialized RX6, Cond.code yX6_layPart cX6_layPart 5 (some .boolean), Cond.fieldLink RX6 55 "LiveHullModel" "many" "I", Cond.fieldLink RX6 72 "LiveHullModel" "depth" "I", Cond.methodLink RX6 63 yX6_layRanks, Cond.instanceMethod yX6_layRanks, Cond.selects RX6 yX6_layRanks yX6_layRanks, Cond.code yX6_layRanks cX6_layRanks 4 none, Cond.fieldLink RX6 16 "LiveHullModel" "is" "[Z", Cond.fieldLink RX6 7 "LiveHullModel" "xs" "[I", Cond.fieldLink RX6 20 "LiveHullModel" "ranks" "[I", Cond.fieldLink RX6 13 "LiveHullModel" "ys" "[I", Cond.methodLink RX6 44 yX6_in, Cond.static yX6_in, Cond.code yX6_in cX6_in 3 (some .boolean), Cond.methodLink RX6 89 yX6_layChain]
def wsX6_bridge_r2 : List Cond := [Cond.instanceMethod yX6_layChain, Cond.selects RX6 yX6_layChain yX6_layChain, Cond.code yX6_layChain cX6_layChain 5 none, Cond.methodLink RX6 82 yX6_bend, Cond.instanceMethod yX6_bend, Cond.selects RX6 yX6_bend yX6_bend, Cond.code yX6_bend cX6_bend 4 (some .long), Cond.methodLink RX6 75 yX6_cross, Cond.static yX6_cross, Cond.code yX6_cross cX6_cross 12 (some .long)]
def wsX6_bridge : List Cond := .code yX6_bridge cX6_bridge 8 (some .int) :: ((wsX6_bridge_r1 ++ wsX6_bridge_r2) ++ wsX60)
def wsX6_ringUp : List Cond := .code yX6_ringUp cX6_ringUp 4 none :: ([.fieldLink RX6 114 "LiveHullModel" "rings" "I", .fieldLink RX6 29 "LiveHullModel" "ring" "[I"] ++ wsX60)
def wsX6_layRound_r1 : List Cond := [Cond.fieldLink RX6 114 "LiveHullModel" "rings" "I", Cond.fieldLink RX6 79 "LiveHullModel" "corners" "I", Cond.fieldLink RX6 26 "LiveHullModel" "corner" "[I", Cond.methodLink RX6 86 yX6_layPart, Cond.instanceMethod yX6_layPart, Cond.selects RX6 yX6_layPart yX6_layPart, Cond.initialized RX6, Cond.code yX6_layPart cX6_layPart 5 (some .boolean), Cond.fieldLink RX6 55 "LiveHullModel" "many" "I", Cond.fieldLink RX6 66 "LiveHullModel" "from" "I", Cond.fieldLink RX6 69 "LiveHullModel" "to" "I", Cond.fieldLink RX6 72 "LiveHullModel" "depth" "I", Cond.methodLink RX6 63 yX6_layRanks, Cond.instanceMethod yX6_layRanks, Cond.selects RX6 yX6_layRanks yX6_layRanks, Cond.code yX6_layRanks cX6_layRanks 4 none, Cond.fieldLink RX6 16 "LiveHullModel" "is" "[Z", Cond.fieldLink RX6 7 "LiveHullModel" "xs" "[I", Cond.fieldLink RX6 20 "LiveHullModel" "ranks" "[I", Cond.fieldLink RX6 13 "LiveHullModel" "ys" "[I", Cond.fieldLink RX6 23 "LiveHullModel" "rankOf" "[I", Cond.methodLink RX6 44 yX6_in, Cond.static yX6_in, Cond.code yX6_in cX6_in 3 (some .boolean)]
def wsX6_layRound_r2 : List Cond := [Cond.methodLink RX6 89 yX6_layChain, Cond.instanceMethod yX6_layChain, Cond.selects RX6 yX6_layChain yX6_layChain, Cond.code yX6_layChain cX6_layChain 5 none, Cond.methodLink RX6 82 yX6_bend, Cond.instanceMethod yX6_bend, Cond.selects RX6 yX6_bend yX6_bend, Cond.code yX6_bend cX6_bend 4 (some .long), Cond.methodLink RX6 75 yX6_cross, Cond.static yX6_cross, Cond.code yX6_cross cX6_cross 12 (some .long), Cond.methodLink RX6 117 yX6_ringUp, Cond.instanceMethod yX6_ringUp, Cond.selects RX6 yX6_ringUp yX6_ringUp, Cond.code yX6_ringUp cX6_ringUp 4 none, Cond.fieldLink RX6 29 "LiveHullModel" "ring" "[I"]
def wsX6_layRound : List Cond := .code yX6_layRound cX6_layRound 2 none :: ((wsX6_layRound_r1 ++ wsX6_layRound_r2) ++ wsX60)
def wsX6_round_r1 : List Cond := [Cond.fieldLink RX6 114 "LiveHullModel" "rings" "I", Cond.fieldLink RX6 29 "LiveHullModel" "ring" "[I", Cond.methodLink RX6 120 yX6_layRound, Cond.instanceMethod yX6_layRound, Cond.selects RX6 yX6_layRound yX6_layRound, Cond.initialized RX6, Cond.code yX6_layRound cX6_layRound 2 none, Cond.fieldLink RX6 79 "LiveHullModel" "corners" "I", Cond.fieldLink RX6 26 "LiveHullModel" "corner" "[I", Cond.methodLink RX6 86 yX6_layPart, Cond.instanceMethod yX6_layPart, Cond.selects RX6 yX6_layPart yX6_layPart, Cond.code yX6_layPart cX6_layPart 5 (some .boolean), Cond.fieldLink RX6 55 "LiveHullModel" "many" "I", Cond.fieldLink RX6 66 "LiveHullModel" "from" "I", Cond.fieldLink RX6 69 "LiveHullModel" "to" "I", Cond.fieldLink RX6 72 "LiveHullModel" "depth" "I", Cond.methodLink RX6 63 yX6_layRanks, Cond.instanceMethod yX6_layRanks, Cond.selects RX6 yX6_layRanks yX6_layRanks, Cond.code yX6_layRanks cX6_layRanks 4 none, Cond.fieldLink RX6 16 "LiveHullModel" "is" "[Z", Cond.fieldLink RX6 7 "LiveHullModel" "xs" "[I", Cond.fieldLink RX6 20 "LiveHullModel" "ranks" "[I"]
def wsX6_round_r2 : List Cond := [Cond.fieldLink RX6 13 "LiveHullModel" "ys" "[I", Cond.fieldLink RX6 23 "LiveHullModel" "rankOf" "[I", Cond.methodLink RX6 44 yX6_in, Cond.static yX6_in, Cond.code yX6_in cX6_in 3 (some .boolean), Cond.methodLink RX6 89 yX6_layChain, Cond.instanceMethod yX6_layChain, Cond.selects RX6 yX6_layChain yX6_layChain, Cond.code yX6_layChain cX6_layChain 5 none, Cond.methodLink RX6 82 yX6_bend, Cond.instanceMethod yX6_bend, Cond.selects RX6 yX6_bend yX6_bend, Cond.code yX6_bend cX6_bend 4 (some .long), Cond.methodLink RX6 75 yX6_cross, Cond.static yX6_cross, Cond.code yX6_cross cX6_cross 12 (some .long), Cond.methodLink RX6 117 yX6_ringUp, Cond.instanceMethod yX6_ringUp, Cond.selects RX6 yX6_ringUp yX6_ringUp, Cond.code yX6_ringUp cX6_ringUp 4 none]
def wsX6_round : List Cond := .code yX6_round cX6_round 2 (some .int) :: ((wsX6_round_r1 ++ wsX6_round_r2) ++ wsX60)
def wsX6_extreme_r1 : List Cond := [Cond.fieldLink RX6 55 "LiveHullModel" "many" "I", Cond.fieldLink RX6 29 "LiveHullModel" "ring" "[I", Cond.fieldLink RX6 114 "LiveHullModel" "rings" "I", Cond.fieldLink RX6 7 "LiveHullModel" "xs" "[I", Cond.fieldLink RX6 13 "LiveHullModel" "ys" "[I", Cond.fieldLink RX6 23 "LiveHullModel" "rankOf" "[I", Cond.methodLink RX6 48 yX6_isPlace, Cond.static yX6_isPlace, Cond.initialized RX6, Cond.code yX6_isPlace cX6_isPlace 2 (some .boolean), Cond.constant RX6 42 (-1000000000), Cond.constant RX6 43 (1000000000), Cond.methodLink RX6 44 yX6_in, Cond.static yX6_in, Cond.code yX6_in cX6_in 3 (some .boolean), Cond.methodLink RX6 120 yX6_layRound, Cond.instanceMethod yX6_layRound, Cond.selects RX6 yX6_layRound yX6_layRound, Cond.code yX6_layRound cX6_layRound 2 none, Cond.fieldLink RX6 79 "LiveHullModel" "corners" "I", Cond.fieldLink RX6 26 "LiveHullModel" "corner" "[I", Cond.methodLink RX6 86 yX6_layPart, Cond.instanceMethod yX6_layPart, Cond.selects RX6 yX6_layPart yX6_layPart]
def wsX6_extreme_r2 : List Cond := [Cond.code yX6_layPart cX6_layPart 5 (some .boolean), Cond.fieldLink RX6 66 "LiveHullModel" "from" "I", Cond.fieldLink RX6 69 "LiveHullModel" "to" "I", Cond.fieldLink RX6 72 "LiveHullModel" "depth" "I", Cond.methodLink RX6 63 yX6_layRanks, Cond.instanceMethod yX6_layRanks, Cond.selects RX6 yX6_layRanks yX6_layRanks, Cond.code yX6_layRanks cX6_layRanks 4 none, Cond.fieldLink RX6 16 "LiveHullModel" "is" "[Z", Cond.fieldLink RX6 20 "LiveHullModel" "ranks" "[I", Cond.methodLink RX6 89 yX6_layChain, Cond.instanceMethod yX6_layChain, Cond.selects RX6 yX6_layChain yX6_layChain, Cond.code yX6_layChain cX6_layChain 5 none, Cond.methodLink RX6 82 yX6_bend, Cond.instanceMethod yX6_bend, Cond.selects RX6 yX6_bend yX6_bend, Cond.code yX6_bend cX6_bend 4 (some .long), Cond.methodLink RX6 75 yX6_cross, Cond.static yX6_cross, Cond.code yX6_cross cX6_cross 12 (some .long), Cond.methodLink RX6 117 yX6_ringUp, Cond.instanceMethod yX6_ringUp, Cond.selects RX6 yX6_ringUp yX6_ringUp]
def wsX6_extreme_r3 : List Cond := [Cond.code yX6_ringUp cX6_ringUp 4 none]
def wsX6_extreme : List Cond := .code yX6_extreme cX6_extreme 8 (some .int) :: ((wsX6_extreme_r1 ++ (wsX6_extreme_r2 ++ wsX6_extreme_r3)) ++ wsX60)
def wsX6_isBetween : List Cond := .code yX6_isBetween cX6_isBetween 3 (some .boolean) :: ([.methodLink RX6 44 yX6_in, .static yX6_in, .initialized RX6, .code yX6_in cX6_in 3 (some .boolean)])
def wsX6_whereOf_r1 : List Cond := [Cond.fieldLink RX6 114 "LiveHullModel" "rings" "I", Cond.fieldLink RX6 29 "LiveHullModel" "ring" "[I", Cond.fieldLink RX6 7 "LiveHullModel" "xs" "[I", Cond.fieldLink RX6 13 "LiveHullModel" "ys" "[I", Cond.methodLink RX6 120 yX6_layRound, Cond.instanceMethod yX6_layRound, Cond.selects RX6 yX6_layRound yX6_layRound, Cond.initialized RX6, Cond.code yX6_layRound cX6_layRound 2 none, Cond.fieldLink RX6 79 "LiveHullModel" "corners" "I", Cond.fieldLink RX6 26 "LiveHullModel" "corner" "[I", Cond.methodLink RX6 86 yX6_layPart, Cond.instanceMethod yX6_layPart, Cond.selects RX6 yX6_layPart yX6_layPart, Cond.code yX6_layPart cX6_layPart 5 (some .boolean), Cond.fieldLink RX6 55 "LiveHullModel" "many" "I", Cond.fieldLink RX6 66 "LiveHullModel" "from" "I", Cond.fieldLink RX6 69 "LiveHullModel" "to" "I", Cond.fieldLink RX6 72 "LiveHullModel" "depth" "I", Cond.methodLink RX6 63 yX6_layRanks, Cond.instanceMethod yX6_layRanks, Cond.selects RX6 yX6_layRanks yX6_layRanks, Cond.code yX6_layRanks cX6_layRanks 4 none, Cond.fieldLink RX6 16 "LiveHullModel" "is" "[Z"]
def wsX6_whereOf_r2 : List Cond := [Cond.fieldLink RX6 20 "LiveHullModel" "ranks" "[I", Cond.fieldLink RX6 23 "LiveHullModel" "rankOf" "[I", Cond.methodLink RX6 44 yX6_in, Cond.static yX6_in, Cond.code yX6_in cX6_in 3 (some .boolean), Cond.methodLink RX6 89 yX6_layChain, Cond.instanceMethod yX6_layChain, Cond.selects RX6 yX6_layChain yX6_layChain, Cond.code yX6_layChain cX6_layChain 5 none, Cond.methodLink RX6 82 yX6_bend, Cond.instanceMethod yX6_bend, Cond.selects RX6 yX6_bend yX6_bend, Cond.code yX6_bend cX6_bend 4 (some .long), Cond.methodLink RX6 75 yX6_cross, Cond.static yX6_cross, Cond.code yX6_cross cX6_cross 12 (some .long), Cond.methodLink RX6 117 yX6_ringUp, Cond.instanceMethod yX6_ringUp, Cond.selects RX6 yX6_ringUp yX6_ringUp, Cond.code yX6_ringUp cX6_ringUp 4 none, Cond.methodLink RX6 123 yX6_isBetween, Cond.static yX6_isBetween, Cond.code yX6_isBetween cX6_isBetween 3 (some .boolean)]
def wsX6_whereOf : List Cond := .code yX6_whereOf cX6_whereOf 10 (some .int) :: ((wsX6_whereOf_r1 ++ wsX6_whereOf_r2) ++ wsX60)
def wsX6_where_r1 : List Cond := [Cond.methodLink RX6 48 yX6_isPlace, Cond.static yX6_isPlace, Cond.initialized RX6, Cond.code yX6_isPlace cX6_isPlace 2 (some .boolean), Cond.constant RX6 42 (-1000000000), Cond.constant RX6 43 (1000000000), Cond.methodLink RX6 44 yX6_in, Cond.static yX6_in, Cond.code yX6_in cX6_in 3 (some .boolean), Cond.methodLink RX6 126 yX6_whereOf, Cond.instanceMethod yX6_whereOf, Cond.selects RX6 yX6_whereOf yX6_whereOf, Cond.code yX6_whereOf cX6_whereOf 10 (some .int), Cond.fieldLink RX6 114 "LiveHullModel" "rings" "I", Cond.fieldLink RX6 29 "LiveHullModel" "ring" "[I", Cond.fieldLink RX6 7 "LiveHullModel" "xs" "[I", Cond.fieldLink RX6 13 "LiveHullModel" "ys" "[I", Cond.methodLink RX6 120 yX6_layRound, Cond.instanceMethod yX6_layRound, Cond.selects RX6 yX6_layRound yX6_layRound, Cond.code yX6_layRound cX6_layRound 2 none, Cond.fieldLink RX6 79 "LiveHullModel" "corners" "I", Cond.fieldLink RX6 26 "LiveHullModel" "corner" "[I", Cond.methodLink RX6 86 yX6_layPart]
def wsX6_where_r2 : List Cond := [Cond.instanceMethod yX6_layPart, Cond.selects RX6 yX6_layPart yX6_layPart, Cond.code yX6_layPart cX6_layPart 5 (some .boolean), Cond.fieldLink RX6 55 "LiveHullModel" "many" "I", Cond.fieldLink RX6 66 "LiveHullModel" "from" "I", Cond.fieldLink RX6 69 "LiveHullModel" "to" "I", Cond.fieldLink RX6 72 "LiveHullModel" "depth" "I", Cond.methodLink RX6 63 yX6_layRanks, Cond.instanceMethod yX6_layRanks, Cond.selects RX6 yX6_layRanks yX6_layRanks, Cond.code yX6_layRanks cX6_layRanks 4 none, Cond.fieldLink RX6 16 "LiveHullModel" "is" "[Z", Cond.fieldLink RX6 20 "LiveHullModel" "ranks" "[I", Cond.fieldLink RX6 23 "LiveHullModel" "rankOf" "[I", Cond.methodLink RX6 89 yX6_layChain, Cond.instanceMethod yX6_layChain, Cond.selects RX6 yX6_layChain yX6_layChain, Cond.code yX6_layChain cX6_layChain 5 none, Cond.methodLink RX6 82 yX6_bend, Cond.instanceMethod yX6_bend, Cond.selects RX6 yX6_bend yX6_bend, Cond.code yX6_bend cX6_bend 4 (some .long), Cond.methodLink RX6 75 yX6_cross, Cond.static yX6_cross]
def wsX6_where_r3 : List Cond := [Cond.code yX6_cross cX6_cross 12 (some .long), Cond.methodLink RX6 117 yX6_ringUp, Cond.instanceMethod yX6_ringUp, Cond.selects RX6 yX6_ringUp yX6_ringUp, Cond.code yX6_ringUp cX6_ringUp 4 none, Cond.methodLink RX6 123 yX6_isBetween, Cond.static yX6_isBetween, Cond.code yX6_isBetween cX6_isBetween 3 (some .boolean)]
def wsX6_where : List Cond := .code yX6_where cX6_where 3 (some .int) :: ((wsX6_where_r1 ++ (wsX6_where_r2 ++ wsX6_where_r3)) ++ wsX60)
def wsX6_square : List Cond := .code yX6_square cX6_square 8 (some .long) :: ([.fieldLink RX6 7 "LiveHullModel" "xs" "[I", .fieldLink RX6 13 "LiveHullModel" "ys" "[I"] ++ wsX60)
def wsX6_touch_r1 : List Cond := [Cond.fieldLink RX6 55 "LiveHullModel" "many" "I", Cond.fieldLink RX6 114 "LiveHullModel" "rings" "I", Cond.fieldLink RX6 29 "LiveHullModel" "ring" "[I", Cond.fieldLink RX6 7 "LiveHullModel" "xs" "[I", Cond.fieldLink RX6 13 "LiveHullModel" "ys" "[I", Cond.methodLink RX6 48 yX6_isPlace, Cond.static yX6_isPlace, Cond.initialized RX6, Cond.code yX6_isPlace cX6_isPlace 2 (some .boolean), Cond.constant RX6 42 (-1000000000), Cond.constant RX6 43 (1000000000), Cond.methodLink RX6 44 yX6_in, Cond.static yX6_in, Cond.code yX6_in cX6_in 3 (some .boolean), Cond.methodLink RX6 126 yX6_whereOf, Cond.instanceMethod yX6_whereOf, Cond.selects RX6 yX6_whereOf yX6_whereOf, Cond.code yX6_whereOf cX6_whereOf 10 (some .int), Cond.methodLink RX6 120 yX6_layRound, Cond.instanceMethod yX6_layRound, Cond.selects RX6 yX6_layRound yX6_layRound, Cond.code yX6_layRound cX6_layRound 2 none, Cond.fieldLink RX6 79 "LiveHullModel" "corners" "I", Cond.fieldLink RX6 26 "LiveHullModel" "corner" "[I"]
def wsX6_touch_r2 : List Cond := [Cond.methodLink RX6 86 yX6_layPart, Cond.instanceMethod yX6_layPart, Cond.selects RX6 yX6_layPart yX6_layPart, Cond.code yX6_layPart cX6_layPart 5 (some .boolean), Cond.fieldLink RX6 66 "LiveHullModel" "from" "I", Cond.fieldLink RX6 69 "LiveHullModel" "to" "I", Cond.fieldLink RX6 72 "LiveHullModel" "depth" "I", Cond.methodLink RX6 63 yX6_layRanks, Cond.instanceMethod yX6_layRanks, Cond.selects RX6 yX6_layRanks yX6_layRanks, Cond.code yX6_layRanks cX6_layRanks 4 none, Cond.fieldLink RX6 16 "LiveHullModel" "is" "[Z", Cond.fieldLink RX6 20 "LiveHullModel" "ranks" "[I", Cond.fieldLink RX6 23 "LiveHullModel" "rankOf" "[I", Cond.methodLink RX6 89 yX6_layChain, Cond.instanceMethod yX6_layChain, Cond.selects RX6 yX6_layChain yX6_layChain, Cond.code yX6_layChain cX6_layChain 5 none, Cond.methodLink RX6 82 yX6_bend, Cond.instanceMethod yX6_bend, Cond.selects RX6 yX6_bend yX6_bend, Cond.code yX6_bend cX6_bend 4 (some .long), Cond.methodLink RX6 75 yX6_cross, Cond.static yX6_cross]
def wsX6_touch_r3 : List Cond := [Cond.code yX6_cross cX6_cross 12 (some .long), Cond.methodLink RX6 117 yX6_ringUp, Cond.instanceMethod yX6_ringUp, Cond.selects RX6 yX6_ringUp yX6_ringUp, Cond.code yX6_ringUp cX6_ringUp 4 none, Cond.methodLink RX6 123 yX6_isBetween, Cond.static yX6_isBetween, Cond.code yX6_isBetween cX6_isBetween 3 (some .boolean), Cond.methodLink RX6 129 yX6_square, Cond.instanceMethod yX6_square, Cond.selects RX6 yX6_square yX6_square, Cond.code yX6_square cX6_square 8 (some .long)]
def wsX6_touch : List Cond := .code yX6_touch cX6_touch 11 (some .int) :: ((wsX6_touch_r1 ++ (wsX6_touch_r2 ++ wsX6_touch_r3)) ++ wsX60)
def wsX6_area_r1 : List Cond := [Cond.fieldLink RX6 114 "LiveHullModel" "rings" "I", Cond.fieldLink RX6 29 "LiveHullModel" "ring" "[I", Cond.methodLink RX6 120 yX6_layRound, Cond.instanceMethod yX6_layRound, Cond.selects RX6 yX6_layRound yX6_layRound, Cond.initialized RX6, Cond.code yX6_layRound cX6_layRound 2 none, Cond.fieldLink RX6 79 "LiveHullModel" "corners" "I", Cond.fieldLink RX6 26 "LiveHullModel" "corner" "[I", Cond.methodLink RX6 86 yX6_layPart, Cond.instanceMethod yX6_layPart, Cond.selects RX6 yX6_layPart yX6_layPart, Cond.code yX6_layPart cX6_layPart 5 (some .boolean), Cond.fieldLink RX6 55 "LiveHullModel" "many" "I", Cond.fieldLink RX6 66 "LiveHullModel" "from" "I", Cond.fieldLink RX6 69 "LiveHullModel" "to" "I", Cond.fieldLink RX6 72 "LiveHullModel" "depth" "I", Cond.methodLink RX6 63 yX6_layRanks, Cond.instanceMethod yX6_layRanks, Cond.selects RX6 yX6_layRanks yX6_layRanks, Cond.code yX6_layRanks cX6_layRanks 4 none, Cond.fieldLink RX6 16 "LiveHullModel" "is" "[Z", Cond.fieldLink RX6 7 "LiveHullModel" "xs" "[I", Cond.fieldLink RX6 20 "LiveHullModel" "ranks" "[I"]
def wsX6_area_r2 : List Cond := [Cond.fieldLink RX6 13 "LiveHullModel" "ys" "[I", Cond.fieldLink RX6 23 "LiveHullModel" "rankOf" "[I", Cond.methodLink RX6 44 yX6_in, Cond.static yX6_in, Cond.code yX6_in cX6_in 3 (some .boolean), Cond.methodLink RX6 89 yX6_layChain, Cond.instanceMethod yX6_layChain, Cond.selects RX6 yX6_layChain yX6_layChain, Cond.code yX6_layChain cX6_layChain 5 none, Cond.methodLink RX6 82 yX6_bend, Cond.instanceMethod yX6_bend, Cond.selects RX6 yX6_bend yX6_bend, Cond.code yX6_bend cX6_bend 4 (some .long), Cond.methodLink RX6 75 yX6_cross, Cond.static yX6_cross, Cond.code yX6_cross cX6_cross 12 (some .long), Cond.methodLink RX6 117 yX6_ringUp, Cond.instanceMethod yX6_ringUp, Cond.selects RX6 yX6_ringUp yX6_ringUp, Cond.code yX6_ringUp cX6_ringUp 4 none]
def wsX6_area : List Cond := .code yX6_area cX6_area 4 (some .long) :: ((wsX6_area_r1 ++ wsX6_area_r2) ++ wsX60)
def wsX6_image : List Cond := .code yX6_image cX6_image 3 (some .int) :: ([.fieldLink RX6 35 "LiveHullModel" "imageSet" "[J", .fieldLink RX6 32 "LiveHullModel" "image" "[I", .fieldLink RX6 7 "LiveHullModel" "xs" "[I", .fieldLink RX6 13 "LiveHullModel" "ys" "[I", .fieldLink RX6 16 "LiveHullModel" "is" "[Z", .fieldLink RX6 39 "LiveHullModel" "isKept" "[Z", .methodLink RX6 44 yX6_in, .static yX6_in, .initialized RX6, .code yX6_in cX6_in 3 (some .boolean)] ++ wsX60)
def wsX6_restore : List Cond := .code yX6_restore cX6_restore 3 (some .int) :: ([.fieldLink RX6 39 "LiveHullModel" "isKept" "[Z", .fieldLink RX6 55 "LiveHullModel" "many" "I", .fieldLink RX6 7 "LiveHullModel" "xs" "[I", .fieldLink RX6 32 "LiveHullModel" "image" "[I", .fieldLink RX6 13 "LiveHullModel" "ys" "[I", .fieldLink RX6 16 "LiveHullModel" "is" "[Z", .fieldLink RX6 35 "LiveHullModel" "imageSet" "[J", .methodLink RX6 44 yX6_in, .static yX6_in, .initialized RX6, .code yX6_in cX6_in 3 (some .boolean)] ++ wsX60)
def wsX6_told_r1 : List Cond := [Cond.fieldLink RX6 72 "LiveHullModel" "depth" "I", Cond.fieldLink RX6 55 "LiveHullModel" "many" "I", Cond.methodLink RX6 44 yX6_in, Cond.static yX6_in, Cond.initialized RX6, Cond.code yX6_in cX6_in 3 (some .boolean), Cond.methodLink RX6 86 yX6_layPart, Cond.instanceMethod yX6_layPart, Cond.selects RX6 yX6_layPart yX6_layPart, Cond.code yX6_layPart cX6_layPart 5 (some .boolean), Cond.fieldLink RX6 66 "LiveHullModel" "from" "I", Cond.fieldLink RX6 69 "LiveHullModel" "to" "I", Cond.methodLink RX6 63 yX6_layRanks, Cond.instanceMethod yX6_layRanks, Cond.selects RX6 yX6_layRanks yX6_layRanks, Cond.code yX6_layRanks cX6_layRanks 4 none, Cond.fieldLink RX6 16 "LiveHullModel" "is" "[Z", Cond.fieldLink RX6 7 "LiveHullModel" "xs" "[I", Cond.fieldLink RX6 20 "LiveHullModel" "ranks" "[I", Cond.fieldLink RX6 13 "LiveHullModel" "ys" "[I", Cond.fieldLink RX6 23 "LiveHullModel" "rankOf" "[I", Cond.methodLink RX6 97 yX6_chainSet, Cond.instanceMethod yX6_chainSet, Cond.selects RX6 yX6_chainSet yX6_chainSet]
def wsX6_told_r2 : List Cond := [Cond.code yX6_chainSet cX6_chainSet 3 (some .long), Cond.methodLink RX6 89 yX6_layChain, Cond.instanceMethod yX6_layChain, Cond.selects RX6 yX6_layChain yX6_layChain, Cond.code yX6_layChain cX6_layChain 5 none, Cond.fieldLink RX6 79 "LiveHullModel" "corners" "I", Cond.fieldLink RX6 26 "LiveHullModel" "corner" "[I", Cond.methodLink RX6 82 yX6_bend, Cond.instanceMethod yX6_bend, Cond.selects RX6 yX6_bend yX6_bend, Cond.code yX6_bend cX6_bend 4 (some .long), Cond.methodLink RX6 75 yX6_cross, Cond.static yX6_cross, Cond.code yX6_cross cX6_cross 12 (some .long), Cond.methodLink RX6 93 yX6_cornerSet, Cond.instanceMethod yX6_cornerSet, Cond.selects RX6 yX6_cornerSet yX6_cornerSet, Cond.code yX6_cornerSet cX6_cornerSet 4 (some .long), Cond.methodLink RX6 103 yX6_bits, Cond.static yX6_bits, Cond.code yX6_bits cX6_bits 4 (some .int), Cond.methodLink RX6 111 yX6_restOf, Cond.instanceMethod yX6_restOf, Cond.selects RX6 yX6_restOf yX6_restOf]
def wsX6_told_r3 : List Cond := [Cond.code yX6_restOf cX6_restOf 3 (some .int), Cond.constantLong RX6 101 (-1)]
def wsX6_told : List Cond := .code yX6_told cX6_told 8 (some .int) :: ((wsX6_told_r1 ++ (wsX6_told_r2 ++ wsX6_told_r3)) ++ wsX60)
def wsJ9_max_7cf53 : List Cond := .code yJ9_max_7cf53 cJ9_max_7cf53 2 (some .int) :: ([])
def wsJ9_min_7cf53 : List Cond := .code yJ9_min_7cf53 cJ9_min_7cf53 2 (some .int) :: ([])
def wsL_law_r1 : List Cond := [Cond.classLink RL 7 RX5, Cond.instantiable RX5 7, Cond.initialized RX5, Cond.classLink RL 10 RX6, Cond.instantiable RX6 16, Cond.initialized RX6, Cond.methodLink RL 9 yX5_init, Cond.instanceMethod yX5_init, Cond.code yX5_init cX5_init 1 none, Cond.methodLink RX5 1 objectInit, Cond.instanceMethod objectInit, Cond.code objectInit ⟨#[0xb1]⟩ 1 none, Cond.classLink RX5 7 RX3, Cond.instantiable RX3 4, Cond.initialized RX3, Cond.fieldLink RX5 10 "LiveHull" "points" "LLiveHull$Points;", Cond.classLink RX5 16 RX2, Cond.instantiable RX2 2, Cond.initialized RX2, Cond.fieldLink RX5 19 "LiveHull" "parts" "LLiveHull$Parts;", Cond.classLink RX5 23 RX0, Cond.instantiable RX0 2, Cond.initialized RX0, Cond.fieldLink RX5 26 "LiveHull" "traced" "LLiveHull$Chain;"]
def wsL_law_r2 : List Cond := [Cond.fieldLink RX5 30 "LiveHull" "tracedGreater" "LLiveHull$Chain;", Cond.classLink RX5 33 RX4, Cond.instantiable RX4 2, Cond.initialized RX4, Cond.fieldLink RX5 36 "LiveHull" "ring" "LLiveHull$Ring;", Cond.fieldLink RX5 40 "LiveHull" "images" "[LLiveHull$Points;", Cond.arrayClass .boolean, Cond.fieldLink RX5 44 "LiveHull" "kept" "[Z", Cond.instanceMethod yX3_init, Cond.code yX3_init cX3_init 1 none, Cond.methodLink RX3 3 objectInit, Cond.arrayClass .int, Cond.fieldLink RX3 9 "LiveHull$Points" "ids" "[I", Cond.fieldLink RX3 15 "LiveHull$Points" "xs" "[I", Cond.fieldLink RX3 18 "LiveHull$Points" "ys" "[I", Cond.fieldLink RX3 21 "LiveHull$Points" "count" "I", Cond.instanceMethod yX2_init, Cond.code yX2_init cX2_init 1 none, Cond.methodLink RX2 3 objectInit, Cond.fieldLink RX2 9 "LiveHull$Parts" "firsts" "[I", Cond.fieldLink RX2 15 "LiveHull$Parts" "sizes" "[I", Cond.instanceMethod yX0_init, Cond.code yX0_init cX0_init 1 none, Cond.instanceMethod yX1_init]
def wsL_law_r3 : List Cond := [Cond.initialized RX1, Cond.code yX1_init cX1_init 1 none, Cond.methodLink RX1 3 objectInit, Cond.fieldLink RX1 9 "LiveHull$Corners" "ranks" "[I", Cond.fieldLink RX1 15 "LiveHull$Corners" "size" "I", Cond.instanceMethod yX4_init, Cond.code yX4_init cX4_init 1 none, Cond.methodLink RL 12 yX6_init, Cond.instanceMethod yX6_init, Cond.code yX6_init cX6_init 1 none, Cond.methodLink RX6 1 objectInit, Cond.fieldLink RX6 7 "LiveHullModel" "xs" "[I", Cond.fieldLink RX6 13 "LiveHullModel" "ys" "[I", Cond.fieldLink RX6 16 "LiveHullModel" "is" "[Z", Cond.fieldLink RX6 20 "LiveHullModel" "ranks" "[I", Cond.fieldLink RX6 23 "LiveHullModel" "rankOf" "[I", Cond.fieldLink RX6 26 "LiveHullModel" "corner" "[I", Cond.fieldLink RX6 29 "LiveHullModel" "ring" "[I", Cond.fieldLink RX6 32 "LiveHullModel" "image" "[I", Cond.arrayClass .long, Cond.fieldLink RX6 35 "LiveHullModel" "imageSet" "[J", Cond.fieldLink RX6 39 "LiveHullModel" "isKept" "[Z", Cond.methodLink RL 13 yX5_add, Cond.instanceMethod yX5_add]
def wsL_law_r4 : List Cond := [Cond.selects RX5 yX5_add yX5_add, Cond.code yX5_add cX5_add 4 (some .int), Cond.fieldLink RX5 63 "LiveHull$Points" "count" "I", Cond.methodLink RX5 48 yX5_isPlace, Cond.static yX5_isPlace, Cond.code yX5_isPlace cX5_isPlace 2 (some .boolean), Cond.constant RX5 168 (-1000000000), Cond.constant RX5 169 (1000000000), Cond.methodLink RX5 52 yX3_isTaken, Cond.instanceMethod yX3_isTaken, Cond.selects RX3 yX3_isTaken yX3_isTaken, Cond.code yX3_isTaken cX3_isTaken 4 (some .boolean), Cond.methodLink RX3 25 yX3_isAt, Cond.instanceMethod yX3_isAt, Cond.selects RX3 yX3_isAt yX3_isAt, Cond.code yX3_isAt cX3_isAt 4 (some .boolean), Cond.methodLink RX5 55 yX3_leastFreeId, Cond.instanceMethod yX3_leastFreeId, Cond.selects RX3 yX3_leastFreeId yX3_leastFreeId, Cond.code yX3_leastFreeId cX3_leastFreeId 2 (some .int), Cond.methodLink RX3 29 yX3_rankOf, Cond.instanceMethod yX3_rankOf, Cond.selects RX3 yX3_rankOf yX3_rankOf, Cond.code yX3_rankOf cX3_rankOf 3 (some .int)]
def wsL_law_r5 : List Cond := [Cond.methodLink RX5 59 yX3_insert, Cond.instanceMethod yX3_insert, Cond.selects RX3 yX3_insert yX3_insert, Cond.code yX3_insert cX3_insert 5 none, Cond.methodLink RX3 33 yX3_isBefore, Cond.instanceMethod yX3_isBefore, Cond.selects RX3 yX3_isBefore yX3_isBefore, Cond.code yX3_isBefore cX3_isBefore 4 (some .boolean), Cond.methodLink RX3 36 yX3_setRow, Cond.instanceMethod yX3_setRow, Cond.selects RX3 yX3_setRow yX3_setRow, Cond.code yX3_setRow cX3_setRow 5 none, Cond.methodLink RX5 67 yX2_split, Cond.instanceMethod yX2_split, Cond.selects RX2 yX2_split yX2_split, Cond.code yX2_split cX2_split 3 none, Cond.methodLink RX2 18 yX2_splitPart, Cond.instanceMethod yX2_splitPart, Cond.selects RX2 yX2_splitPart yX2_splitPart, Cond.code yX2_splitPart cX2_splitPart 5 none, Cond.methodLink RL 17 yX6_add, Cond.instanceMethod yX6_add, Cond.selects RX6 yX6_add yX6_add, Cond.code yX6_add cX6_add 4 (some .int)]
def wsL_law_r6 : List Cond := [Cond.fieldLink RX6 55 "LiveHullModel" "many" "I", Cond.methodLink RX6 48 yX6_isPlace, Cond.static yX6_isPlace, Cond.code yX6_isPlace cX6_isPlace 2 (some .boolean), Cond.constant RX6 42 (-1000000000), Cond.constant RX6 43 (1000000000), Cond.methodLink RX6 44 yX6_in, Cond.static yX6_in, Cond.code yX6_in cX6_in 3 (some .boolean), Cond.methodLink RX6 52 yX6_isTaken, Cond.instanceMethod yX6_isTaken, Cond.selects RX6 yX6_isTaken yX6_isTaken, Cond.code yX6_isTaken cX6_isTaken 5 (some .boolean), Cond.methodLink RL 18 yX5_remove, Cond.instanceMethod yX5_remove, Cond.selects RX5 yX5_remove yX5_remove, Cond.code yX5_remove cX5_remove 3 (some .int), Cond.methodLink RX5 71 yX3_rankOf, Cond.methodLink RX5 75 yX3_delete, Cond.instanceMethod yX3_delete, Cond.selects RX3 yX3_delete yX3_delete, Cond.code yX3_delete cX3_delete 3 none, Cond.methodLink RL 22 yX6_remove, Cond.instanceMethod yX6_remove]
def wsL_law_r7 : List Cond := [Cond.selects RX6 yX6_remove yX6_remove, Cond.code yX6_remove cX6_remove 2 (some .int), Cond.methodLink RX6 59 yX6_isPoint, Cond.instanceMethod yX6_isPoint, Cond.selects RX6 yX6_isPoint yX6_isPoint, Cond.code yX6_isPoint cX6_isPoint 2 (some .boolean), Cond.methodLink RL 23 yX5_move, Cond.instanceMethod yX5_move, Cond.selects RX5 yX5_move yX5_move, Cond.code yX5_move cX5_move 5 (some .int), Cond.methodLink RL 27 yX6_move, Cond.instanceMethod yX6_move, Cond.selects RX6 yX6_move yX6_move, Cond.code yX6_move cX6_move 4 (some .int), Cond.methodLink RL 28 yX5_point, Cond.instanceMethod yX5_point, Cond.selects RX5 yX5_point yX5_point, Cond.code yX5_point cX5_point 4 (some .int), Cond.fieldLink RX5 78 "LiveHull$Points" "xs" "[I", Cond.fieldLink RX5 82 "LiveHull$Points" "ys" "[I", Cond.methodLink RX5 85 yX5_topOf, Cond.instanceMethod yX5_topOf, Cond.selects RX5 yX5_topOf yX5_topOf, Cond.code yX5_topOf cX5_topOf 4 (some .int)]
def wsL_law_r8 : List Cond := [Cond.methodLink RX5 178 yX2_holds, Cond.instanceMethod yX2_holds, Cond.selects RX2 yX2_holds yX2_holds, Cond.code yX2_holds cX2_holds 3 (some .boolean), Cond.methodLink RX2 22 yX2_has, Cond.instanceMethod yX2_has, Cond.selects RX2 yX2_has yX2_has, Cond.code yX2_has cX2_has 2 (some .boolean), Cond.methodLink RX5 111 yX5_trace, Cond.instanceMethod yX5_trace, Cond.selects RX5 yX5_trace yX5_trace, Cond.code yX5_trace cX5_trace 4 none, Cond.fieldLink RX5 99 "LiveHull$Parts" "firsts" "[I", Cond.fieldLink RX5 96 "LiveHull$Parts" "sizes" "[I", Cond.methodLink RX5 170 yX0_trace, Cond.instanceMethod yX0_trace, Cond.selects RX0 yX0_trace yX0_trace, Cond.code yX0_trace cX0_trace 6 none, Cond.fieldLink RX0 9 "LiveHull$Chain" "size" "I", Cond.sameField "LiveHull$Chain" "LiveHull$Corners" "size" "I", Cond.methodLink RX0 15 yX0_isOverLast, Cond.instanceMethod yX0_isOverLast, Cond.selects RX0 yX0_isOverLast yX0_isOverLast, Cond.code yX0_isOverLast cX0_isOverLast 3 (some .boolean)]
def wsL_law_r9 : List Cond := [Cond.fieldLink RX0 27 "LiveHull$Points" "xs" "[I", Cond.fieldLink RX0 33 "LiveHull$Chain" "ranks" "[I", Cond.sameField "LiveHull$Chain" "LiveHull$Corners" "ranks" "[I", Cond.methodLink RX0 19 yX0_lastStays, Cond.instanceMethod yX0_lastStays, Cond.selects RX0 yX0_lastStays yX0_lastStays, Cond.code yX0_lastStays cX0_lastStays 8 (some .boolean), Cond.fieldLink RX0 36 "LiveHull$Points" "ys" "[I", Cond.methodLink RX0 39 yX3_turn, Cond.instanceMethod yX3_turn, Cond.selects RX3 yX3_turn yX3_turn, Cond.code yX3_turn cX3_turn 13 (some .long), Cond.methodLink RX0 23 ⟨"LiveHull$Chain", "append", "(I)V"⟩, Cond.sameMethod "LiveHull$Chain" "LiveHull$Corners" "append" "(I)V", Cond.selects RX0 ⟨"LiveHull$Chain", "append", "(I)V"⟩ yX1_append, Cond.instanceMethod yX1_append, Cond.code yX1_append cX1_append 2 none, Cond.methodLink RX5 177 ⟨"LiveHull$Chain", "has", "(I)Z"⟩, Cond.sameMethod "LiveHull$Chain" "LiveHull$Corners" "has" "(I)Z", Cond.selects RX0 ⟨"LiveHull$Chain", "has", "(I)Z"⟩ yX1_has, Cond.instanceMethod yX1_has, Cond.code yX1_has cX1_has 3 (some .boolean), Cond.methodLink RX5 181 yX2_depthOf, Cond.static yX2_depthOf]
def wsL_law_r10 : List Cond := [Cond.code yX2_depthOf cX2_depthOf 3 (some .int), Cond.methodLink RL 31 yX6_point, Cond.instanceMethod yX6_point, Cond.selects RX6 yX6_point yX6_point, Cond.code yX6_point cX6_point 3 (some .int), Cond.methodLink RX6 63 yX6_layRanks, Cond.instanceMethod yX6_layRanks, Cond.selects RX6 yX6_layRanks yX6_layRanks, Cond.code yX6_layRanks cX6_layRanks 4 none, Cond.methodLink RX6 107 yX6_topOf, Cond.instanceMethod yX6_topOf, Cond.selects RX6 yX6_topOf yX6_topOf, Cond.code yX6_topOf cX6_topOf 5 (some .int), Cond.fieldLink RX6 72 "LiveHullModel" "depth" "I", Cond.methodLink RX6 97 yX6_chainSet, Cond.instanceMethod yX6_chainSet, Cond.selects RX6 yX6_chainSet yX6_chainSet, Cond.code yX6_chainSet cX6_chainSet 3 (some .long), Cond.methodLink RX6 86 yX6_layPart, Cond.instanceMethod yX6_layPart, Cond.selects RX6 yX6_layPart yX6_layPart, Cond.code yX6_layPart cX6_layPart 5 (some .boolean), Cond.fieldLink RX6 66 "LiveHullModel" "from" "I", Cond.fieldLink RX6 69 "LiveHullModel" "to" "I"]
def wsL_law_r11 : List Cond := [Cond.methodLink RX6 89 yX6_layChain, Cond.instanceMethod yX6_layChain, Cond.selects RX6 yX6_layChain yX6_layChain, Cond.code yX6_layChain cX6_layChain 5 none, Cond.fieldLink RX6 79 "LiveHullModel" "corners" "I", Cond.methodLink RX6 82 yX6_bend, Cond.instanceMethod yX6_bend, Cond.selects RX6 yX6_bend yX6_bend, Cond.code yX6_bend cX6_bend 4 (some .long), Cond.methodLink RX6 75 yX6_cross, Cond.static yX6_cross, Cond.code yX6_cross cX6_cross 12 (some .long), Cond.methodLink RX6 93 yX6_cornerSet, Cond.instanceMethod yX6_cornerSet, Cond.selects RX6 yX6_cornerSet yX6_cornerSet, Cond.code yX6_cornerSet cX6_cornerSet 4 (some .long), Cond.methodLink RL 32 yX5_ranked, Cond.instanceMethod yX5_ranked, Cond.selects RX5 yX5_ranked yX5_ranked, Cond.code yX5_ranked cX5_ranked 2 (some .int), Cond.methodLink RX5 89 yX3_idAt, Cond.instanceMethod yX3_idAt, Cond.selects RX3 yX3_idAt yX3_idAt, Cond.code yX3_idAt cX3_idAt 2 (some .int)]
def wsL_law_r12 : List Cond := [Cond.methodLink RL 35 yX6_ranked, Cond.instanceMethod yX6_ranked, Cond.selects RX6 yX6_ranked yX6_ranked, Cond.code yX6_ranked cX6_ranked 2 (some .int), Cond.methodLink RL 36 yX5_part, Cond.instanceMethod yX5_part, Cond.selects RX5 yX5_part yX5_part, Cond.code yX5_part cX5_part 3 (some .int), Cond.methodLink RX5 92 yX2_has, Cond.methodLink RX5 102 yX5_cornersOf, Cond.instanceMethod yX5_cornersOf, Cond.selects RX5 yX5_cornersOf yX5_cornersOf, Cond.code yX5_cornersOf cX5_cornersOf 3 (some .int), Cond.fieldLink RX5 173 "LiveHull$Chain" "size" "I", Cond.methodLink RX5 105 yX5_restOf, Cond.instanceMethod yX5_restOf, Cond.selects RX5 yX5_restOf yX5_restOf, Cond.code yX5_restOf cX5_restOf 5 (some .int), Cond.fieldLink RX5 174 "LiveHull$Chain" "ranks" "[I", Cond.methodLink RL 39 yX6_part, Cond.instanceMethod yX6_part, Cond.selects RX6 yX6_part yX6_part, Cond.code yX6_part cX6_part 3 (some .int), Cond.methodLink RX6 103 yX6_bits]
def wsL_law_r13 : List Cond := [Cond.static yX6_bits, Cond.code yX6_bits cX6_bits 4 (some .int), Cond.methodLink RX6 111 yX6_restOf, Cond.instanceMethod yX6_restOf, Cond.selects RX6 yX6_restOf yX6_restOf, Cond.code yX6_restOf cX6_restOf 3 (some .int), Cond.constantLong RX6 101 (-1), Cond.methodLink RL 40 yX5_chain, Cond.instanceMethod yX5_chain, Cond.selects RX5 yX5_chain yX5_chain, Cond.code yX5_chain cX5_chain 4 (some .int), Cond.methodLink RX5 108 yX5_isSide, Cond.static yX5_isSide, Cond.code yX5_isSide cX5_isSide 1 (some .boolean), Cond.methodLink RX5 115 ⟨"LiveHull$Chain", "rankAt", "(I)I"⟩, Cond.sameMethod "LiveHull$Chain" "LiveHull$Corners" "rankAt" "(I)I", Cond.selects RX0 ⟨"LiveHull$Chain", "rankAt", "(I)I"⟩ yX1_rankAt, Cond.instanceMethod yX1_rankAt, Cond.code yX1_rankAt cX1_rankAt 2 (some .int), Cond.methodLink RL 43 yX6_chain, Cond.instanceMethod yX6_chain, Cond.selects RX6 yX6_chain yX6_chain, Cond.code yX6_chain cX6_chain 4 (some .int), Cond.methodLink RL 44 yX5_bridge]
def wsL_law_r14 : List Cond := [Cond.instanceMethod yX5_bridge, Cond.selects RX5 yX5_bridge yX5_bridge, Cond.code yX5_bridge cX5_bridge 5 (some .int), Cond.methodLink RX5 118 yX2_hasHalves, Cond.instanceMethod yX2_hasHalves, Cond.selects RX2 yX2_hasHalves yX2_hasHalves, Cond.code yX2_hasHalves cX2_hasHalves 2 (some .boolean), Cond.methodLink RX5 121 yX0_lastBefore, Cond.instanceMethod yX0_lastBefore, Cond.selects RX0 yX0_lastBefore yX0_lastBefore, Cond.code yX0_lastBefore cX0_lastBefore 3 (some .int), Cond.methodLink RX5 124 yX0_firstFrom, Cond.instanceMethod yX0_firstFrom, Cond.selects RX0 yX0_firstFrom yX0_firstFrom, Cond.code yX0_firstFrom cX0_firstFrom 3 (some .int), Cond.methodLink RL 47 yX6_bridge, Cond.instanceMethod yX6_bridge, Cond.selects RX6 yX6_bridge yX6_bridge, Cond.code yX6_bridge cX6_bridge 8 (some .int), Cond.methodLink RL 48 yX5_round, Cond.instanceMethod yX5_round, Cond.selects RX5 yX5_round yX5_round, Cond.code yX5_round cX5_round 2 (some .int), Cond.fieldLink RX5 130 "LiveHull$Ring" "size" "I"]
def wsL_law_r15 : List Cond := [Cond.sameField "LiveHull$Ring" "LiveHull$Corners" "size" "I", Cond.methodLink RX5 127 yX5_gatherRing, Cond.instanceMethod yX5_gatherRing, Cond.selects RX5 yX5_gatherRing yX5_gatherRing, Cond.code yX5_gatherRing cX5_gatherRing 1 none, Cond.methodLink RX5 184 yX4_clear, Cond.instanceMethod yX4_clear, Cond.selects RX4 yX4_clear yX4_clear, Cond.code yX4_clear cX4_clear 1 none, Cond.fieldLink RX4 9 "LiveHull$Ring" "size" "I", Cond.methodLink RX5 187 yX4_takeRightward, Cond.instanceMethod yX4_takeRightward, Cond.selects RX4 yX4_takeRightward yX4_takeRightward, Cond.code yX4_takeRightward cX4_takeRightward 3 none, Cond.fieldLink RX4 15 "LiveHull$Chain" "size" "I", Cond.fieldLink RX4 18 "LiveHull$Chain" "ranks" "[I", Cond.methodLink RX4 22 yX4_takeOnce, Cond.instanceMethod yX4_takeOnce, Cond.selects RX4 yX4_takeOnce yX4_takeOnce, Cond.code yX4_takeOnce cX4_takeOnce 2 none, Cond.methodLink RX4 26 ⟨"LiveHull$Ring", "has", "(I)Z"⟩, Cond.sameMethod "LiveHull$Ring" "LiveHull$Corners" "has" "(I)Z", Cond.selects RX4 ⟨"LiveHull$Ring", "has", "(I)Z"⟩ yX1_has, Cond.methodLink RX4 30 ⟨"LiveHull$Ring", "append", "(I)V"⟩]
def wsL_law_r16 : List Cond := [Cond.sameMethod "LiveHull$Ring" "LiveHull$Corners" "append" "(I)V", Cond.selects RX4 ⟨"LiveHull$Ring", "append", "(I)V"⟩ yX1_append, Cond.methodLink RX5 191 yX4_takeLeftward, Cond.instanceMethod yX4_takeLeftward, Cond.selects RX4 yX4_takeLeftward yX4_takeLeftward, Cond.code yX4_takeLeftward cX4_takeLeftward 3 none, Cond.methodLink RX5 133 ⟨"LiveHull$Ring", "rankAt", "(I)I"⟩, Cond.sameMethod "LiveHull$Ring" "LiveHull$Corners" "rankAt" "(I)I", Cond.selects RX4 ⟨"LiveHull$Ring", "rankAt", "(I)I"⟩ yX1_rankAt, Cond.methodLink RL 51 yX6_round, Cond.instanceMethod yX6_round, Cond.selects RX6 yX6_round yX6_round, Cond.code yX6_round cX6_round 2 (some .int), Cond.fieldLink RX6 114 "LiveHullModel" "rings" "I", Cond.methodLink RX6 120 yX6_layRound, Cond.instanceMethod yX6_layRound, Cond.selects RX6 yX6_layRound yX6_layRound, Cond.code yX6_layRound cX6_layRound 2 none, Cond.methodLink RX6 117 yX6_ringUp, Cond.instanceMethod yX6_ringUp, Cond.selects RX6 yX6_ringUp yX6_ringUp, Cond.code yX6_ringUp cX6_ringUp 4 none, Cond.methodLink RL 52 yX5_extreme, Cond.instanceMethod yX5_extreme]
def wsL_law_r17 : List Cond := [Cond.selects RX5 yX5_extreme yX5_extreme, Cond.code yX5_extreme cX5_extreme 3 (some .int), Cond.methodLink RX5 134 yX4_farthest, Cond.instanceMethod yX4_farthest, Cond.selects RX4 yX4_farthest yX4_farthest, Cond.code yX4_farthest cX4_farthest 6 (some .int), Cond.fieldLink RX4 33 "LiveHull$Ring" "ranks" "[I", Cond.sameField "LiveHull$Ring" "LiveHull$Corners" "ranks" "[I", Cond.methodLink RX4 34 yX4_isFarther, Cond.static yX4_isFarther, Cond.code yX4_isFarther cX4_isFarther 9 (some .boolean), Cond.methodLink RX4 38 yX3_reach, Cond.instanceMethod yX3_reach, Cond.selects RX3 yX3_reach yX3_reach, Cond.code yX3_reach cX3_reach 4 (some .long), Cond.methodLink RL 55 yX6_extreme, Cond.instanceMethod yX6_extreme, Cond.selects RX6 yX6_extreme yX6_extreme, Cond.code yX6_extreme cX6_extreme 8 (some .int), Cond.methodLink RL 56 yX5_where, Cond.instanceMethod yX5_where, Cond.selects RX5 yX5_where yX5_where, Cond.code yX5_where cX5_where 3 (some .int), Cond.methodLink RX5 138 yX4_locate]
def wsL_law_r18 : List Cond := [Cond.instanceMethod yX4_locate, Cond.selects RX4 yX4_locate yX4_locate, Cond.code yX4_locate cX4_locate 9 (some .int), Cond.methodLink RX4 44 yX4_isAtCorner, Cond.instanceMethod yX4_isAtCorner, Cond.selects RX4 yX4_isAtCorner yX4_isAtCorner, Cond.code yX4_isAtCorner cX4_isAtCorner 5 (some .boolean), Cond.methodLink RX4 56 yX3_isAt, Cond.methodLink RX4 48 yX3_turn, Cond.methodLink RX4 52 yX3_isBoxed, Cond.instanceMethod yX3_isBoxed, Cond.selects RX3 yX3_isBoxed yX3_isBoxed, Cond.code yX3_isBoxed cX3_isBoxed 5 (some .boolean), Cond.methodLink RX3 40 Lib.Math.min.name, Cond.static Lib.Math.min.name, Cond.initialized "java/lang/Math", Cond.code Lib.Math.min.name Lib.Math.min.code 2 (some .int), Cond.methodLink RX3 46 Lib.Math.max.name, Cond.static Lib.Math.max.name, Cond.code Lib.Math.max.name Lib.Math.max.code 2 (some .int), Cond.methodLink RL 59 yX6_where, Cond.instanceMethod yX6_where, Cond.selects RX6 yX6_where yX6_where, Cond.code yX6_where cX6_where 3 (some .int)]
def wsL_law_r19 : List Cond := [Cond.methodLink RX6 126 yX6_whereOf, Cond.instanceMethod yX6_whereOf, Cond.selects RX6 yX6_whereOf yX6_whereOf, Cond.code yX6_whereOf cX6_whereOf 10 (some .int), Cond.methodLink RX6 123 yX6_isBetween, Cond.static yX6_isBetween, Cond.code yX6_isBetween cX6_isBetween 3 (some .boolean), Cond.methodLink RL 60 yX5_touch, Cond.instanceMethod yX5_touch, Cond.selects RX5 yX5_touch yX5_touch, Cond.code yX5_touch cX5_touch 4 (some .int), Cond.methodLink RX5 141 yX4_nearestTouching, Cond.instanceMethod yX4_nearestTouching, Cond.selects RX4 yX4_nearestTouching yX4_nearestTouching, Cond.code yX4_nearestTouching cX4_nearestTouching 8 (some .int), Cond.methodLink RX4 60 yX4_isTouching, Cond.instanceMethod yX4_isTouching, Cond.selects RX4 yX4_isTouching yX4_isTouching, Cond.code yX4_isTouching cX4_isTouching 9 (some .boolean), Cond.methodLink RX4 63 yX4_isNearer, Cond.static yX4_isNearer, Cond.code yX4_isNearer cX4_isNearer 5 (some .boolean), Cond.methodLink RX4 66 yX3_squaredDistance, Cond.instanceMethod yX3_squaredDistance]
def wsL_law_r20 : List Cond := [Cond.selects RX3 yX3_squaredDistance yX3_squaredDistance, Cond.code yX3_squaredDistance cX3_squaredDistance 8 (some .long), Cond.methodLink RL 63 yX6_touch, Cond.instanceMethod yX6_touch, Cond.selects RX6 yX6_touch yX6_touch, Cond.code yX6_touch cX6_touch 11 (some .int), Cond.methodLink RX6 129 yX6_square, Cond.instanceMethod yX6_square, Cond.selects RX6 yX6_square yX6_square, Cond.code yX6_square cX6_square 8 (some .long), Cond.methodLink RL 64 yX5_area, Cond.instanceMethod yX5_area, Cond.selects RX5 yX5_area yX5_area, Cond.code yX5_area cX5_area 1 (some .long), Cond.methodLink RX5 145 yX4_doubleArea, Cond.instanceMethod yX4_doubleArea, Cond.selects RX4 yX4_doubleArea yX4_doubleArea, Cond.code yX4_doubleArea cX4_doubleArea 6 (some .long), Cond.fieldLink RX4 69 "LiveHull$Points" "xs" "[I", Cond.fieldLink RX4 72 "LiveHull$Points" "ys" "[I", Cond.methodLink RL 68 yX6_area, Cond.instanceMethod yX6_area, Cond.selects RX6 yX6_area yX6_area, Cond.code yX6_area cX6_area 4 (some .long)]
def wsL_law_r21 : List Cond := [Cond.methodLink RL 69 yX5_image, Cond.instanceMethod yX5_image, Cond.selects RX5 yX5_image yX5_image, Cond.code yX5_image cX5_image 2 (some .int), Cond.methodLink RX5 149 yX5_isImage, Cond.static yX5_isImage, Cond.code yX5_isImage cX5_isImage 1 (some .boolean), Cond.methodLink RX5 152 yX3_copyFrom, Cond.instanceMethod yX3_copyFrom, Cond.selects RX3 yX3_copyFrom yX3_copyFrom, Cond.code yX3_copyFrom cX3_copyFrom 3 none, Cond.methodLink RL 72 yX6_image, Cond.instanceMethod yX6_image, Cond.selects RX6 yX6_image yX6_image, Cond.code yX6_image cX6_image 3 (some .int), Cond.methodLink RL 73 yX5_restore, Cond.instanceMethod yX5_restore, Cond.selects RX5 yX5_restore yX5_restore, Cond.code yX5_restore cX5_restore 2 (some .int), Cond.methodLink RL 76 yX6_restore, Cond.instanceMethod yX6_restore, Cond.selects RX6 yX6_restore yX6_restore, Cond.code yX6_restore cX6_restore 3 (some .int), Cond.methodLink RL 77 yX5_told]
def wsL_law_r22 : List Cond := [Cond.instanceMethod yX5_told, Cond.selects RX5 yX5_told yX5_told, Cond.code yX5_told cX5_told 2 (some .int), Cond.methodLink RX5 156 yX2_howMany, Cond.instanceMethod yX2_howMany, Cond.selects RX2 yX2_howMany yX2_howMany, Cond.code yX2_howMany cX2_howMany 3 (some .int), Cond.methodLink RX5 159 yX5_cornersOfAll, Cond.instanceMethod yX5_cornersOfAll, Cond.selects RX5 yX5_cornersOfAll yX5_cornersOfAll, Cond.code yX5_cornersOfAll cX5_cornersOfAll 3 (some .int), Cond.methodLink RX5 162 yX5_restsOfAll, Cond.instanceMethod yX5_restsOfAll, Cond.selects RX5 yX5_restsOfAll yX5_restsOfAll, Cond.code yX5_restsOfAll cX5_restsOfAll 3 (some .int), Cond.methodLink RX5 165 yX2_greatestDepth, Cond.instanceMethod yX2_greatestDepth, Cond.selects RX2 yX2_greatestDepth yX2_greatestDepth, Cond.code yX2_greatestDepth cX2_greatestDepth 2 (some .int), Cond.methodLink RX2 26 yX2_depthOf, Cond.methodLink RL 80 yX6_told, Cond.instanceMethod yX6_told, Cond.selects RX6 yX6_told yX6_told, Cond.code yX6_told cX6_told 8 (some .int)]
def wsL_law : List Cond := (wsL_law_r1 ++ (wsL_law_r2 ++ (wsL_law_r3 ++ (wsL_law_r4 ++ (wsL_law_r5 ++ (wsL_law_r6 ++ (wsL_law_r7 ++ (wsL_law_r8 ++ (wsL_law_r9 ++ (wsL_law_r10 ++ (wsL_law_r11 ++ (wsL_law_r12 ++ (wsL_law_r13 ++ (wsL_law_r14 ++ (wsL_law_r15 ++ (wsL_law_r16 ++ (wsL_law_r17 ++ (wsL_law_r18 ++ (wsL_law_r19 ++ (wsL_law_r20 ++ (wsL_law_r21 ++ wsL_law_r22))))))))))))))))))))) ++ wsX50 ++ wsX60 ++ wsX30 ++ wsX20 ++ wsX00 ++ wsX40 ++ ([] : List Cond)
abbrev vwCl : List vw_C := [(RX0, TX0, 2), (RX2, TX2, 2), (RX3, TX3, 4), (RX4, TX4, 2), (RX5, TX5, 7), (RX6, TX6, 16)]
end
section
set_option maxRecDepth 20000 in
theorem ggX0_init_X1_init : GoodIn wsX0_init wsX1_init := goodIn_r _ [3, 4, 5, 6, 7, 8, 9, 10, 11, 12, 13] (by decide +kernel) (by decide +kernel)
set_option maxRecDepth 20000 in
theorem gX0_init_X1_init_n3 : GoodIn wsX0_init (wsX1_init) := ggX0_init_X1_init
theorem dX0_init_0 : decode cX0_init 0 = .ok (.aload_n 0, 1) := by decide +kernel
theorem dX0_init_1 : decode cX0_init 1 = .ok (.invokespecial 3, 3) := by decide +kernel
theorem dX0_init_4 : decode cX0_init 4 = .ok (.return_, 1) := by decide +kernel
set_option maxRecDepth 20000 in
theorem ggX0_trace_X0_isOverLast : GoodIn wsX0_trace wsX0_isOverLast := goodIn_r _ [7, 1, 2, 8, 9, 10, 31, 32, 33, 34, 35, 36, 37, 38] (by decide +kernel) (by decide +kernel)
set_option maxRecDepth 20000 in
theorem gX0_trace_X0_isOverLast : GoodIn wsX0_trace (wsV RX0 15 RX0 yX0_isOverLast wsX0_isOverLast) := goodIn_app (goodIn_of _ (by decide +kernel)) ggX0_trace_X0_isOverLast
set_option maxRecDepth 20000 in
theorem ggX0_trace_X0_lastStays : GoodIn wsX0_trace wsX0_lastStays := goodIn_r _ [14, 1, 2, 8, 15, 9, 10, 3, 4, 5, 6, 7, 16, 17, 18, 19, 20, 21, 22, 31, 32, 33, 34, 35, 36, 37, 38] (by decide +kernel) (by decide +kernel)
set_option maxRecDepth 20000 in
theorem gX0_trace_X0_lastStays : GoodIn wsX0_trace (wsV RX0 19 RX0 yX0_lastStays wsX0_lastStays) := goodIn_app (goodIn_of _ (by decide +kernel)) ggX0_trace_X0_lastStays
set_option maxRecDepth 20000 in
theorem ggX0_trace_X1_append : GoodIn wsX0_trace wsX1_append := goodIn_r _ [28, 29, 30, 31, 32, 33, 34] (by decide +kernel) (by decide +kernel)
set_option maxRecDepth 20000 in
theorem gX0_trace_X1_append_u23X0 : GoodIn wsX0_trace (va_wsU RX0 23 RX0 "LiveHull$Corners" ⟨"LiveHull$Chain", "append", "(I)V"⟩ yX1_append wsX1_append) := goodIn_app (goodIn_of _ (by decide +kernel)) ggX0_trace_X1_append
theorem dX0_trace_0 : decode cX0_trace 0 = .ok (.aload_n 0, 1) := by decide +kernel
theorem dX0_trace_1 : decode cX0_trace 1 = .ok (.iconst 0, 1) := by decide +kernel
theorem dX0_trace_2 : decode cX0_trace 2 = .ok (.putfield 9, 3) := by decide +kernel
theorem dX0_trace_5 : decode cX0_trace 5 = .ok (.iload_n 2, 1) := by decide +kernel
theorem dX0_trace_6 : decode cX0_trace 6 = .ok (.istore 5, 2) := by decide +kernel
theorem dX0_trace_8 : decode cX0_trace 8 = .ok (.iload 5, 2) := by decide +kernel
theorem dX0_trace_10 : decode cX0_trace 10 = .ok (.iload_n 2, 1) := by decide +kernel
theorem dX0_trace_11 : decode cX0_trace 11 = .ok (.iload_n 3, 1) := by decide +kernel
theorem dX0_trace_12 : decode cX0_trace 12 = .ok (.iadd, 1) := by decide +kernel
theorem dX0_trace_13 : decode cX0_trace 13 = .ok (.if_icmp .ge 66, 3) := by decide +kernel
theorem dX0_trace_16 : decode cX0_trace 16 = .ok (.iload 4, 2) := by decide +kernel
theorem dX0_trace_18 : decode cX0_trace 18 = .ok (.iconst 1, 1) := by decide +kernel
theorem dX0_trace_19 : decode cX0_trace 19 = .ok (.if_icmp .ne 16, 3) := by decide +kernel
theorem dX0_trace_22 : decode cX0_trace 22 = .ok (.aload_n 0, 1) := by decide +kernel
theorem dX0_trace_23 : decode cX0_trace 23 = .ok (.aload_n 1, 1) := by decide +kernel
theorem dX0_trace_24 : decode cX0_trace 24 = .ok (.iload 5, 2) := by decide +kernel
theorem dX0_trace_26 : decode cX0_trace 26 = .ok (.invokevirtual 15, 3) := by decide +kernel
theorem dX0_trace_29 : decode cX0_trace 29 = .ok (.ifCond .eq 6, 3) := by decide +kernel
theorem dX0_trace_32 : decode cX0_trace 32 = .ok (.goto 41, 3) := by decide +kernel
theorem dX0_trace_35 : decode cX0_trace 35 = .ok (.aload_n 0, 1) := by decide +kernel
theorem dX0_trace_36 : decode cX0_trace 36 = .ok (.getfield 9, 3) := by decide +kernel
theorem dX0_trace_39 : decode cX0_trace 39 = .ok (.ifCond .le 28, 3) := by decide +kernel
theorem dX0_trace_42 : decode cX0_trace 42 = .ok (.aload_n 0, 1) := by decide +kernel
theorem dX0_trace_43 : decode cX0_trace 43 = .ok (.aload_n 1, 1) := by decide +kernel
theorem dX0_trace_44 : decode cX0_trace 44 = .ok (.iload 5, 2) := by decide +kernel
theorem dX0_trace_46 : decode cX0_trace 46 = .ok (.iload 4, 2) := by decide +kernel
theorem dX0_trace_48 : decode cX0_trace 48 = .ok (.invokevirtual 19, 3) := by decide +kernel
theorem dX0_trace_51 : decode cX0_trace 51 = .ok (.ifCond .ne 16, 3) := by decide +kernel
theorem dX0_trace_54 : decode cX0_trace 54 = .ok (.aload_n 0, 1) := by decide +kernel
theorem dX0_trace_55 : decode cX0_trace 55 = .ok (.dup, 1) := by decide +kernel
theorem dX0_trace_56 : decode cX0_trace 56 = .ok (.getfield 9, 3) := by decide +kernel
theorem dX0_trace_59 : decode cX0_trace 59 = .ok (.iconst 1, 1) := by decide +kernel
theorem dX0_trace_60 : decode cX0_trace 60 = .ok (.isub, 1) := by decide +kernel
theorem dX0_trace_61 : decode cX0_trace 61 = .ok (.putfield 9, 3) := by decide +kernel
theorem dX0_trace_64 : decode cX0_trace 64 = .ok (.goto (-29), 3) := by decide +kernel
theorem dX0_trace_67 : decode cX0_trace 67 = .ok (.aload_n 0, 1) := by decide +kernel
theorem dX0_trace_68 : decode cX0_trace 68 = .ok (.iload 5, 2) := by decide +kernel
theorem dX0_trace_70 : decode cX0_trace 70 = .ok (.invokevirtual 23, 3) := by decide +kernel
theorem dX0_trace_73 : decode cX0_trace 73 = .ok (.iinc 5 1, 3) := by decide +kernel
theorem dX0_trace_76 : decode cX0_trace 76 = .ok (.goto (-68), 3) := by decide +kernel
theorem dX0_trace_79 : decode cX0_trace 79 = .ok (.return_, 1) := by decide +kernel
theorem dX0_isOverLast_0 : decode cX0_isOverLast 0 = .ok (.aload_n 0, 1) := by decide +kernel
theorem dX0_isOverLast_1 : decode cX0_isOverLast 1 = .ok (.getfield 9, 3) := by decide +kernel
theorem dX0_isOverLast_4 : decode cX0_isOverLast 4 = .ok (.ifCond .le 32, 3) := by decide +kernel
theorem dX0_isOverLast_7 : decode cX0_isOverLast 7 = .ok (.aload_n 1, 1) := by decide +kernel
theorem dX0_isOverLast_8 : decode cX0_isOverLast 8 = .ok (.getfield 27, 3) := by decide +kernel
theorem dX0_isOverLast_11 : decode cX0_isOverLast 11 = .ok (.aload_n 0, 1) := by decide +kernel
theorem dX0_isOverLast_12 : decode cX0_isOverLast 12 = .ok (.getfield 33, 3) := by decide +kernel
theorem dX0_isOverLast_15 : decode cX0_isOverLast 15 = .ok (.aload_n 0, 1) := by decide +kernel
theorem dX0_isOverLast_16 : decode cX0_isOverLast 16 = .ok (.getfield 9, 3) := by decide +kernel
theorem dX0_isOverLast_19 : decode cX0_isOverLast 19 = .ok (.iconst 1, 1) := by decide +kernel
theorem dX0_isOverLast_20 : decode cX0_isOverLast 20 = .ok (.isub, 1) := by decide +kernel
theorem dX0_isOverLast_21 : decode cX0_isOverLast 21 = .ok (.iaload, 1) := by decide +kernel
theorem dX0_isOverLast_22 : decode cX0_isOverLast 22 = .ok (.iaload, 1) := by decide +kernel
theorem dX0_isOverLast_23 : decode cX0_isOverLast 23 = .ok (.aload_n 1, 1) := by decide +kernel
theorem dX0_isOverLast_24 : decode cX0_isOverLast 24 = .ok (.getfield 27, 3) := by decide +kernel
theorem dX0_isOverLast_27 : decode cX0_isOverLast 27 = .ok (.iload_n 2, 1) := by decide +kernel
theorem dX0_isOverLast_28 : decode cX0_isOverLast 28 = .ok (.iaload, 1) := by decide +kernel
theorem dX0_isOverLast_29 : decode cX0_isOverLast 29 = .ok (.if_icmp .ne 7, 3) := by decide +kernel
theorem dX0_isOverLast_32 : decode cX0_isOverLast 32 = .ok (.iconst 1, 1) := by decide +kernel
theorem dX0_isOverLast_33 : decode cX0_isOverLast 33 = .ok (.goto 4, 3) := by decide +kernel
theorem dX0_isOverLast_36 : decode cX0_isOverLast 36 = .ok (.iconst 0, 1) := by decide +kernel
theorem dX0_isOverLast_37 : decode cX0_isOverLast 37 = .ok (.ireturn, 1) := by decide +kernel
set_option maxRecDepth 20000 in
theorem ggX0_lastStays_X0_isOverLast : GoodIn wsX0_lastStays wsX0_isOverLast := goodIn_r _ [11, 1, 2, 3, 5, 6, 19, 20, 21, 22, 23, 24, 25, 26] (by decide +kernel) (by decide +kernel)
set_option maxRecDepth 20000 in
theorem gX0_lastStays_X0_isOverLast : GoodIn wsX0_lastStays (wsV RX0 15 RX0 yX0_isOverLast wsX0_isOverLast) := goodIn_app (goodIn_of _ (by decide +kernel)) ggX0_lastStays_X0_isOverLast
set_option maxRecDepth 20000 in
theorem ggX0_lastStays_X3_turn : GoodIn wsX0_lastStays wsX3_turn := goodIn_r _ [16, 17, 18, 23, 24, 25, 26] (by decide +kernel) (by decide +kernel)
set_option maxRecDepth 20000 in
theorem gX0_lastStays_X3_turn : GoodIn wsX0_lastStays (wsV RX0 39 RX3 yX3_turn wsX3_turn) := goodIn_app (goodIn_of _ (by decide +kernel)) ggX0_lastStays_X3_turn
theorem dX0_lastStays_0 : decode cX0_lastStays 0 = .ok (.aload_n 0, 1) := by decide +kernel
theorem dX0_lastStays_1 : decode cX0_lastStays 1 = .ok (.aload_n 1, 1) := by decide +kernel
theorem dX0_lastStays_2 : decode cX0_lastStays 2 = .ok (.iload_n 2, 1) := by decide +kernel
theorem dX0_lastStays_3 : decode cX0_lastStays 3 = .ok (.invokevirtual 15, 3) := by decide +kernel
theorem dX0_lastStays_6 : decode cX0_lastStays 6 = .ok (.ifCond .eq 5, 3) := by decide +kernel
theorem dX0_lastStays_9 : decode cX0_lastStays 9 = .ok (.iconst 0, 1) := by decide +kernel
theorem dX0_lastStays_10 : decode cX0_lastStays 10 = .ok (.ireturn, 1) := by decide +kernel
theorem dX0_lastStays_11 : decode cX0_lastStays 11 = .ok (.aload_n 0, 1) := by decide +kernel
theorem dX0_lastStays_12 : decode cX0_lastStays 12 = .ok (.getfield 9, 3) := by decide +kernel
theorem dX0_lastStays_15 : decode cX0_lastStays 15 = .ok (.iconst 2, 1) := by decide +kernel
theorem dX0_lastStays_16 : decode cX0_lastStays 16 = .ok (.if_icmp .ge 5, 3) := by decide +kernel
theorem dX0_lastStays_19 : decode cX0_lastStays 19 = .ok (.iconst 1, 1) := by decide +kernel
theorem dX0_lastStays_20 : decode cX0_lastStays 20 = .ok (.ireturn, 1) := by decide +kernel
theorem dX0_lastStays_21 : decode cX0_lastStays 21 = .ok (.aload_n 1, 1) := by decide +kernel
theorem dX0_lastStays_22 : decode cX0_lastStays 22 = .ok (.getfield 27, 3) := by decide +kernel
theorem dX0_lastStays_25 : decode cX0_lastStays 25 = .ok (.iload_n 2, 1) := by decide +kernel
theorem dX0_lastStays_26 : decode cX0_lastStays 26 = .ok (.iaload, 1) := by decide +kernel
theorem dX0_lastStays_27 : decode cX0_lastStays 27 = .ok (.istore 4, 2) := by decide +kernel
theorem dX0_lastStays_29 : decode cX0_lastStays 29 = .ok (.aload_n 1, 1) := by decide +kernel
theorem dX0_lastStays_30 : decode cX0_lastStays 30 = .ok (.getfield 36, 3) := by decide +kernel
theorem dX0_lastStays_33 : decode cX0_lastStays 33 = .ok (.iload_n 2, 1) := by decide +kernel
theorem dX0_lastStays_34 : decode cX0_lastStays 34 = .ok (.iaload, 1) := by decide +kernel
theorem dX0_lastStays_35 : decode cX0_lastStays 35 = .ok (.istore 5, 2) := by decide +kernel
theorem dX0_lastStays_37 : decode cX0_lastStays 37 = .ok (.aload_n 1, 1) := by decide +kernel
theorem dX0_lastStays_38 : decode cX0_lastStays 38 = .ok (.aload_n 0, 1) := by decide +kernel
theorem dX0_lastStays_39 : decode cX0_lastStays 39 = .ok (.getfield 33, 3) := by decide +kernel
theorem dX0_lastStays_42 : decode cX0_lastStays 42 = .ok (.aload_n 0, 1) := by decide +kernel
theorem dX0_lastStays_43 : decode cX0_lastStays 43 = .ok (.getfield 9, 3) := by decide +kernel
theorem dX0_lastStays_46 : decode cX0_lastStays 46 = .ok (.iconst 2, 1) := by decide +kernel
theorem dX0_lastStays_47 : decode cX0_lastStays 47 = .ok (.isub, 1) := by decide +kernel
theorem dX0_lastStays_48 : decode cX0_lastStays 48 = .ok (.iaload, 1) := by decide +kernel
theorem dX0_lastStays_49 : decode cX0_lastStays 49 = .ok (.aload_n 0, 1) := by decide +kernel
theorem dX0_lastStays_50 : decode cX0_lastStays 50 = .ok (.getfield 33, 3) := by decide +kernel
theorem dX0_lastStays_53 : decode cX0_lastStays 53 = .ok (.aload_n 0, 1) := by decide +kernel
theorem dX0_lastStays_54 : decode cX0_lastStays 54 = .ok (.getfield 9, 3) := by decide +kernel
theorem dX0_lastStays_57 : decode cX0_lastStays 57 = .ok (.iconst 1, 1) := by decide +kernel
theorem dX0_lastStays_58 : decode cX0_lastStays 58 = .ok (.isub, 1) := by decide +kernel
theorem dX0_lastStays_59 : decode cX0_lastStays 59 = .ok (.iaload, 1) := by decide +kernel
theorem dX0_lastStays_60 : decode cX0_lastStays 60 = .ok (.iload 4, 2) := by decide +kernel
theorem dX0_lastStays_62 : decode cX0_lastStays 62 = .ok (.iload 5, 2) := by decide +kernel
theorem dX0_lastStays_64 : decode cX0_lastStays 64 = .ok (.invokevirtual 39, 3) := by decide +kernel
theorem dX0_lastStays_67 : decode cX0_lastStays 67 = .ok (.lstore 6, 2) := by decide +kernel
theorem dX0_lastStays_69 : decode cX0_lastStays 69 = .ok (.iload_n 3, 1) := by decide +kernel
theorem dX0_lastStays_70 : decode cX0_lastStays 70 = .ok (.ifCond .ne 18, 3) := by decide +kernel
theorem dX0_lastStays_73 : decode cX0_lastStays 73 = .ok (.lload 6, 2) := by decide +kernel
theorem dX0_lastStays_75 : decode cX0_lastStays 75 = .ok (.lconst 0, 1) := by decide +kernel
theorem dX0_lastStays_76 : decode cX0_lastStays 76 = .ok (.lcmp, 1) := by decide +kernel
theorem dX0_lastStays_77 : decode cX0_lastStays 77 = .ok (.ifCond .ge 7, 3) := by decide +kernel
theorem dX0_lastStays_80 : decode cX0_lastStays 80 = .ok (.iconst 1, 1) := by decide +kernel
theorem dX0_lastStays_81 : decode cX0_lastStays 81 = .ok (.goto 19, 3) := by decide +kernel
theorem dX0_lastStays_84 : decode cX0_lastStays 84 = .ok (.iconst 0, 1) := by decide +kernel
theorem dX0_lastStays_85 : decode cX0_lastStays 85 = .ok (.goto 15, 3) := by decide +kernel
theorem dX0_lastStays_88 : decode cX0_lastStays 88 = .ok (.lload 6, 2) := by decide +kernel
theorem dX0_lastStays_90 : decode cX0_lastStays 90 = .ok (.lconst 0, 1) := by decide +kernel
theorem dX0_lastStays_91 : decode cX0_lastStays 91 = .ok (.lcmp, 1) := by decide +kernel
theorem dX0_lastStays_92 : decode cX0_lastStays 92 = .ok (.ifCond .le 7, 3) := by decide +kernel
theorem dX0_lastStays_95 : decode cX0_lastStays 95 = .ok (.iconst 1, 1) := by decide +kernel
theorem dX0_lastStays_96 : decode cX0_lastStays 96 = .ok (.goto 4, 3) := by decide +kernel
theorem dX0_lastStays_99 : decode cX0_lastStays 99 = .ok (.iconst 0, 1) := by decide +kernel
theorem dX0_lastStays_100 : decode cX0_lastStays 100 = .ok (.ireturn, 1) := by decide +kernel
theorem dX0_lastBefore_0 : decode cX0_lastBefore 0 = .ok (.aload_n 0, 1) := by decide +kernel
theorem dX0_lastBefore_1 : decode cX0_lastBefore 1 = .ok (.getfield 9, 3) := by decide +kernel
theorem dX0_lastBefore_4 : decode cX0_lastBefore 4 = .ok (.iconst 1, 1) := by decide +kernel
theorem dX0_lastBefore_5 : decode cX0_lastBefore 5 = .ok (.isub, 1) := by decide +kernel
theorem dX0_lastBefore_6 : decode cX0_lastBefore 6 = .ok (.istore_n 2, 1) := by decide +kernel
theorem dX0_lastBefore_7 : decode cX0_lastBefore 7 = .ok (.iload_n 2, 1) := by decide +kernel
theorem dX0_lastBefore_8 : decode cX0_lastBefore 8 = .ok (.ifCond .lt 26, 3) := by decide +kernel
theorem dX0_lastBefore_11 : decode cX0_lastBefore 11 = .ok (.aload_n 0, 1) := by decide +kernel
theorem dX0_lastBefore_12 : decode cX0_lastBefore 12 = .ok (.getfield 33, 3) := by decide +kernel
theorem dX0_lastBefore_15 : decode cX0_lastBefore 15 = .ok (.iload_n 2, 1) := by decide +kernel
theorem dX0_lastBefore_16 : decode cX0_lastBefore 16 = .ok (.iaload, 1) := by decide +kernel
theorem dX0_lastBefore_17 : decode cX0_lastBefore 17 = .ok (.iload_n 1, 1) := by decide +kernel
theorem dX0_lastBefore_18 : decode cX0_lastBefore 18 = .ok (.if_icmp .ge 10, 3) := by decide +kernel
theorem dX0_lastBefore_21 : decode cX0_lastBefore 21 = .ok (.aload_n 0, 1) := by decide +kernel
theorem dX0_lastBefore_22 : decode cX0_lastBefore 22 = .ok (.getfield 33, 3) := by decide +kernel
theorem dX0_lastBefore_25 : decode cX0_lastBefore 25 = .ok (.iload_n 2, 1) := by decide +kernel
theorem dX0_lastBefore_26 : decode cX0_lastBefore 26 = .ok (.iaload, 1) := by decide +kernel
theorem dX0_lastBefore_27 : decode cX0_lastBefore 27 = .ok (.ireturn, 1) := by decide +kernel
theorem dX0_lastBefore_28 : decode cX0_lastBefore 28 = .ok (.iinc 2 (-1), 3) := by decide +kernel
theorem dX0_lastBefore_31 : decode cX0_lastBefore 31 = .ok (.goto (-24), 3) := by decide +kernel
theorem dX0_lastBefore_34 : decode cX0_lastBefore 34 = .ok (.bipush (-6), 2) := by decide +kernel
theorem dX0_lastBefore_36 : decode cX0_lastBefore 36 = .ok (.ireturn, 1) := by decide +kernel
theorem dX0_firstFrom_0 : decode cX0_firstFrom 0 = .ok (.iconst 0, 1) := by decide +kernel
theorem dX0_firstFrom_1 : decode cX0_firstFrom 1 = .ok (.istore_n 2, 1) := by decide +kernel
theorem dX0_firstFrom_2 : decode cX0_firstFrom 2 = .ok (.iload_n 2, 1) := by decide +kernel
theorem dX0_firstFrom_3 : decode cX0_firstFrom 3 = .ok (.aload_n 0, 1) := by decide +kernel
theorem dX0_firstFrom_4 : decode cX0_firstFrom 4 = .ok (.getfield 9, 3) := by decide +kernel
theorem dX0_firstFrom_7 : decode cX0_firstFrom 7 = .ok (.if_icmp .ge 26, 3) := by decide +kernel
theorem dX0_firstFrom_10 : decode cX0_firstFrom 10 = .ok (.aload_n 0, 1) := by decide +kernel
theorem dX0_firstFrom_11 : decode cX0_firstFrom 11 = .ok (.getfield 33, 3) := by decide +kernel
theorem dX0_firstFrom_14 : decode cX0_firstFrom 14 = .ok (.iload_n 2, 1) := by decide +kernel
theorem dX0_firstFrom_15 : decode cX0_firstFrom 15 = .ok (.iaload, 1) := by decide +kernel
theorem dX0_firstFrom_16 : decode cX0_firstFrom 16 = .ok (.iload_n 1, 1) := by decide +kernel
theorem dX0_firstFrom_17 : decode cX0_firstFrom 17 = .ok (.if_icmp .lt 10, 3) := by decide +kernel
theorem dX0_firstFrom_20 : decode cX0_firstFrom 20 = .ok (.aload_n 0, 1) := by decide +kernel
theorem dX0_firstFrom_21 : decode cX0_firstFrom 21 = .ok (.getfield 33, 3) := by decide +kernel
theorem dX0_firstFrom_24 : decode cX0_firstFrom 24 = .ok (.iload_n 2, 1) := by decide +kernel
theorem dX0_firstFrom_25 : decode cX0_firstFrom 25 = .ok (.iaload, 1) := by decide +kernel
theorem dX0_firstFrom_26 : decode cX0_firstFrom 26 = .ok (.ireturn, 1) := by decide +kernel
theorem dX0_firstFrom_27 : decode cX0_firstFrom 27 = .ok (.iinc 2 1, 3) := by decide +kernel
theorem dX0_firstFrom_30 : decode cX0_firstFrom 30 = .ok (.goto (-28), 3) := by decide +kernel
theorem dX0_firstFrom_33 : decode cX0_firstFrom 33 = .ok (.bipush (-6), 2) := by decide +kernel
theorem dX0_firstFrom_35 : decode cX0_firstFrom 35 = .ok (.ireturn, 1) := by decide +kernel
theorem dX1_init_0 : decode cX1_init 0 = .ok (.aload_n 0, 1) := by decide +kernel
theorem dX1_init_1 : decode cX1_init 1 = .ok (.invokespecial 3, 3) := by decide +kernel
theorem dX1_init_4 : decode cX1_init 4 = .ok (.aload_n 0, 1) := by decide +kernel
theorem dX1_init_5 : decode cX1_init 5 = .ok (.bipush 32, 2) := by decide +kernel
theorem dX1_init_7 : decode cX1_init 7 = .ok (.newarray .int, 2) := by decide +kernel
theorem dX1_init_9 : decode cX1_init 9 = .ok (.putfield 9, 3) := by decide +kernel
theorem dX1_init_12 : decode cX1_init 12 = .ok (.aload_n 0, 1) := by decide +kernel
theorem dX1_init_13 : decode cX1_init 13 = .ok (.iconst 0, 1) := by decide +kernel
theorem dX1_init_14 : decode cX1_init 14 = .ok (.putfield 15, 3) := by decide +kernel
theorem dX1_init_17 : decode cX1_init 17 = .ok (.return_, 1) := by decide +kernel
theorem dX1_rankAt_0 : decode cX1_rankAt 0 = .ok (.iload_n 1, 1) := by decide +kernel
theorem dX1_rankAt_1 : decode cX1_rankAt 1 = .ok (.ifCond .lt 20, 3) := by decide +kernel
theorem dX1_rankAt_4 : decode cX1_rankAt 4 = .ok (.iload_n 1, 1) := by decide +kernel
theorem dX1_rankAt_5 : decode cX1_rankAt 5 = .ok (.aload_n 0, 1) := by decide +kernel
theorem dX1_rankAt_6 : decode cX1_rankAt 6 = .ok (.getfield 15, 3) := by decide +kernel
theorem dX1_rankAt_9 : decode cX1_rankAt 9 = .ok (.if_icmp .ge 12, 3) := by decide +kernel
theorem dX1_rankAt_12 : decode cX1_rankAt 12 = .ok (.aload_n 0, 1) := by decide +kernel
theorem dX1_rankAt_13 : decode cX1_rankAt 13 = .ok (.getfield 9, 3) := by decide +kernel
theorem dX1_rankAt_16 : decode cX1_rankAt 16 = .ok (.iload_n 1, 1) := by decide +kernel
theorem dX1_rankAt_17 : decode cX1_rankAt 17 = .ok (.iaload, 1) := by decide +kernel
theorem dX1_rankAt_18 : decode cX1_rankAt 18 = .ok (.goto 5, 3) := by decide +kernel
theorem dX1_rankAt_21 : decode cX1_rankAt 21 = .ok (.bipush (-6), 2) := by decide +kernel
theorem dX1_rankAt_23 : decode cX1_rankAt 23 = .ok (.ireturn, 1) := by decide +kernel
theorem dX1_has_0 : decode cX1_has 0 = .ok (.iconst 0, 1) := by decide +kernel
theorem dX1_has_1 : decode cX1_has 1 = .ok (.istore_n 2, 1) := by decide +kernel
theorem dX1_has_2 : decode cX1_has 2 = .ok (.iload_n 2, 1) := by decide +kernel
theorem dX1_has_3 : decode cX1_has 3 = .ok (.aload_n 0, 1) := by decide +kernel
theorem dX1_has_4 : decode cX1_has 4 = .ok (.getfield 15, 3) := by decide +kernel
theorem dX1_has_7 : decode cX1_has 7 = .ok (.if_icmp .ge 21, 3) := by decide +kernel
theorem dX1_has_10 : decode cX1_has 10 = .ok (.aload_n 0, 1) := by decide +kernel
theorem dX1_has_11 : decode cX1_has 11 = .ok (.getfield 9, 3) := by decide +kernel
theorem dX1_has_14 : decode cX1_has 14 = .ok (.iload_n 2, 1) := by decide +kernel
theorem dX1_has_15 : decode cX1_has 15 = .ok (.iaload, 1) := by decide +kernel
theorem dX1_has_16 : decode cX1_has 16 = .ok (.iload_n 1, 1) := by decide +kernel
theorem dX1_has_17 : decode cX1_has 17 = .ok (.if_icmp .ne 5, 3) := by decide +kernel
theorem dX1_has_20 : decode cX1_has 20 = .ok (.iconst 1, 1) := by decide +kernel
theorem dX1_has_21 : decode cX1_has 21 = .ok (.ireturn, 1) := by decide +kernel
theorem dX1_has_22 : decode cX1_has 22 = .ok (.iinc 2 1, 3) := by decide +kernel
theorem dX1_has_25 : decode cX1_has 25 = .ok (.goto (-23), 3) := by decide +kernel
theorem dX1_has_28 : decode cX1_has 28 = .ok (.iconst 0, 1) := by decide +kernel
theorem dX1_has_29 : decode cX1_has 29 = .ok (.ireturn, 1) := by decide +kernel
theorem dX1_append_0 : decode cX1_append 0 = .ok (.aload_n 0, 1) := by decide +kernel
theorem dX1_append_1 : decode cX1_append 1 = .ok (.getfield 15, 3) := by decide +kernel
theorem dX1_append_4 : decode cX1_append 4 = .ok (.bipush 32, 2) := by decide +kernel
theorem dX1_append_6 : decode cX1_append 6 = .ok (.if_icmp .ge 23, 3) := by decide +kernel
theorem dX1_append_9 : decode cX1_append 9 = .ok (.aload_n 0, 1) := by decide +kernel
theorem dX1_append_10 : decode cX1_append 10 = .ok (.getfield 9, 3) := by decide +kernel
theorem dX1_append_13 : decode cX1_append 13 = .ok (.aload_n 0, 1) := by decide +kernel
theorem dX1_append_14 : decode cX1_append 14 = .ok (.getfield 15, 3) := by decide +kernel
theorem dX1_append_17 : decode cX1_append 17 = .ok (.iload_n 1, 1) := by decide +kernel
theorem dX1_append_18 : decode cX1_append 18 = .ok (.iastore, 1) := by decide +kernel
theorem dX1_append_19 : decode cX1_append 19 = .ok (.aload_n 0, 1) := by decide +kernel
theorem dX1_append_20 : decode cX1_append 20 = .ok (.dup, 1) := by decide +kernel
theorem dX1_append_21 : decode cX1_append 21 = .ok (.getfield 15, 3) := by decide +kernel
theorem dX1_append_24 : decode cX1_append 24 = .ok (.iconst 1, 1) := by decide +kernel
theorem dX1_append_25 : decode cX1_append 25 = .ok (.iadd, 1) := by decide +kernel
theorem dX1_append_26 : decode cX1_append 26 = .ok (.putfield 15, 3) := by decide +kernel
theorem dX1_append_29 : decode cX1_append 29 = .ok (.return_, 1) := by decide +kernel
theorem dX2_init_0 : decode cX2_init 0 = .ok (.aload_n 0, 1) := by decide +kernel
theorem dX2_init_1 : decode cX2_init 1 = .ok (.invokespecial 3, 3) := by decide +kernel
theorem dX2_init_4 : decode cX2_init 4 = .ok (.aload_n 0, 1) := by decide +kernel
theorem dX2_init_5 : decode cX2_init 5 = .ok (.bipush 64, 2) := by decide +kernel
theorem dX2_init_7 : decode cX2_init 7 = .ok (.newarray .int, 2) := by decide +kernel
theorem dX2_init_9 : decode cX2_init 9 = .ok (.putfield 9, 3) := by decide +kernel
theorem dX2_init_12 : decode cX2_init 12 = .ok (.aload_n 0, 1) := by decide +kernel
theorem dX2_init_13 : decode cX2_init 13 = .ok (.bipush 64, 2) := by decide +kernel
theorem dX2_init_15 : decode cX2_init 15 = .ok (.newarray .int, 2) := by decide +kernel
theorem dX2_init_17 : decode cX2_init 17 = .ok (.putfield 15, 3) := by decide +kernel
theorem dX2_init_20 : decode cX2_init 20 = .ok (.return_, 1) := by decide +kernel
set_option maxRecDepth 20000 in
theorem ggX2_split_X2_splitPart : GoodIn wsX2_split wsX2_splitPart := goodIn_r _ [7, 2, 1, 8, 9] (by decide +kernel) (by decide +kernel)
set_option maxRecDepth 20000 in
theorem gX2_split_X2_splitPart : GoodIn wsX2_split (wsV RX2 18 RX2 yX2_splitPart wsX2_splitPart) := goodIn_app (goodIn_of _ (by decide +kernel)) ggX2_split_X2_splitPart
theorem dX2_split_0 : decode cX2_split 0 = .ok (.aload_n 0, 1) := by decide +kernel
theorem dX2_split_1 : decode cX2_split 1 = .ok (.getfield 9, 3) := by decide +kernel
theorem dX2_split_4 : decode cX2_split 4 = .ok (.iconst 1, 1) := by decide +kernel
theorem dX2_split_5 : decode cX2_split 5 = .ok (.iconst 0, 1) := by decide +kernel
theorem dX2_split_6 : decode cX2_split 6 = .ok (.iastore, 1) := by decide +kernel
theorem dX2_split_7 : decode cX2_split 7 = .ok (.aload_n 0, 1) := by decide +kernel
theorem dX2_split_8 : decode cX2_split 8 = .ok (.getfield 15, 3) := by decide +kernel
theorem dX2_split_11 : decode cX2_split 11 = .ok (.iconst 1, 1) := by decide +kernel
theorem dX2_split_12 : decode cX2_split 12 = .ok (.iload_n 1, 1) := by decide +kernel
theorem dX2_split_13 : decode cX2_split 13 = .ok (.iastore, 1) := by decide +kernel
theorem dX2_split_14 : decode cX2_split 14 = .ok (.iconst 1, 1) := by decide +kernel
theorem dX2_split_15 : decode cX2_split 15 = .ok (.istore_n 2, 1) := by decide +kernel
theorem dX2_split_16 : decode cX2_split 16 = .ok (.iconst 2, 1) := by decide +kernel
theorem dX2_split_17 : decode cX2_split 17 = .ok (.iload_n 2, 1) := by decide +kernel
theorem dX2_split_18 : decode cX2_split 18 = .ok (.imul, 1) := by decide +kernel
theorem dX2_split_19 : decode cX2_split 19 = .ok (.iconst 1, 1) := by decide +kernel
theorem dX2_split_20 : decode cX2_split 20 = .ok (.iadd, 1) := by decide +kernel
theorem dX2_split_21 : decode cX2_split 21 = .ok (.bipush 63, 2) := by decide +kernel
theorem dX2_split_23 : decode cX2_split 23 = .ok (.if_icmp .gt 14, 3) := by decide +kernel
theorem dX2_split_26 : decode cX2_split 26 = .ok (.aload_n 0, 1) := by decide +kernel
theorem dX2_split_27 : decode cX2_split 27 = .ok (.iload_n 2, 1) := by decide +kernel
theorem dX2_split_28 : decode cX2_split 28 = .ok (.invokevirtual 18, 3) := by decide +kernel
theorem dX2_split_31 : decode cX2_split 31 = .ok (.iinc 2 1, 3) := by decide +kernel
theorem dX2_split_34 : decode cX2_split 34 = .ok (.goto (-18), 3) := by decide +kernel
theorem dX2_split_37 : decode cX2_split 37 = .ok (.return_, 1) := by decide +kernel
theorem dX2_splitPart_0 : decode cX2_splitPart 0 = .ok (.aload_n 0, 1) := by decide +kernel
theorem dX2_splitPart_1 : decode cX2_splitPart 1 = .ok (.getfield 15, 3) := by decide +kernel
theorem dX2_splitPart_4 : decode cX2_splitPart 4 = .ok (.iload_n 1, 1) := by decide +kernel
theorem dX2_splitPart_5 : decode cX2_splitPart 5 = .ok (.iaload, 1) := by decide +kernel
theorem dX2_splitPart_6 : decode cX2_splitPart 6 = .ok (.istore_n 2, 1) := by decide +kernel
theorem dX2_splitPart_7 : decode cX2_splitPart 7 = .ok (.iload_n 2, 1) := by decide +kernel
theorem dX2_splitPart_8 : decode cX2_splitPart 8 = .ok (.iconst 1, 1) := by decide +kernel
theorem dX2_splitPart_9 : decode cX2_splitPart 9 = .ok (.if_icmp .le 7, 3) := by decide +kernel
theorem dX2_splitPart_12 : decode cX2_splitPart 12 = .ok (.iconst 1, 1) := by decide +kernel
theorem dX2_splitPart_13 : decode cX2_splitPart 13 = .ok (.goto 4, 3) := by decide +kernel
theorem dX2_splitPart_16 : decode cX2_splitPart 16 = .ok (.iconst 0, 1) := by decide +kernel
theorem dX2_splitPart_17 : decode cX2_splitPart 17 = .ok (.istore_n 3, 1) := by decide +kernel
theorem dX2_splitPart_18 : decode cX2_splitPart 18 = .ok (.iload_n 2, 1) := by decide +kernel
theorem dX2_splitPart_19 : decode cX2_splitPart 19 = .ok (.iconst 1, 1) := by decide +kernel
theorem dX2_splitPart_20 : decode cX2_splitPart 20 = .ok (.iadd, 1) := by decide +kernel
theorem dX2_splitPart_21 : decode cX2_splitPart 21 = .ok (.iconst 2, 1) := by decide +kernel
theorem dX2_splitPart_22 : decode cX2_splitPart 22 = .ok (.idiv, 1) := by decide +kernel
theorem dX2_splitPart_23 : decode cX2_splitPart 23 = .ok (.istore 4, 2) := by decide +kernel
theorem dX2_splitPart_25 : decode cX2_splitPart 25 = .ok (.aload_n 0, 1) := by decide +kernel
theorem dX2_splitPart_26 : decode cX2_splitPart 26 = .ok (.getfield 9, 3) := by decide +kernel
theorem dX2_splitPart_29 : decode cX2_splitPart 29 = .ok (.iconst 2, 1) := by decide +kernel
theorem dX2_splitPart_30 : decode cX2_splitPart 30 = .ok (.iload_n 1, 1) := by decide +kernel
theorem dX2_splitPart_31 : decode cX2_splitPart 31 = .ok (.imul, 1) := by decide +kernel
theorem dX2_splitPart_32 : decode cX2_splitPart 32 = .ok (.aload_n 0, 1) := by decide +kernel
theorem dX2_splitPart_33 : decode cX2_splitPart 33 = .ok (.getfield 9, 3) := by decide +kernel
theorem dX2_splitPart_36 : decode cX2_splitPart 36 = .ok (.iload_n 1, 1) := by decide +kernel
theorem dX2_splitPart_37 : decode cX2_splitPart 37 = .ok (.iaload, 1) := by decide +kernel
theorem dX2_splitPart_38 : decode cX2_splitPart 38 = .ok (.iastore, 1) := by decide +kernel
theorem dX2_splitPart_39 : decode cX2_splitPart 39 = .ok (.aload_n 0, 1) := by decide +kernel
theorem dX2_splitPart_40 : decode cX2_splitPart 40 = .ok (.getfield 15, 3) := by decide +kernel
theorem dX2_splitPart_43 : decode cX2_splitPart 43 = .ok (.iconst 2, 1) := by decide +kernel
theorem dX2_splitPart_44 : decode cX2_splitPart 44 = .ok (.iload_n 1, 1) := by decide +kernel
theorem dX2_splitPart_45 : decode cX2_splitPart 45 = .ok (.imul, 1) := by decide +kernel
theorem dX2_splitPart_46 : decode cX2_splitPart 46 = .ok (.iload_n 3, 1) := by decide +kernel
theorem dX2_splitPart_47 : decode cX2_splitPart 47 = .ok (.ifCond .eq 8, 3) := by decide +kernel
theorem dX2_splitPart_50 : decode cX2_splitPart 50 = .ok (.iload 4, 2) := by decide +kernel
theorem dX2_splitPart_52 : decode cX2_splitPart 52 = .ok (.goto 4, 3) := by decide +kernel
theorem dX2_splitPart_55 : decode cX2_splitPart 55 = .ok (.iconst 0, 1) := by decide +kernel
theorem dX2_splitPart_56 : decode cX2_splitPart 56 = .ok (.iastore, 1) := by decide +kernel
theorem dX2_splitPart_57 : decode cX2_splitPart 57 = .ok (.aload_n 0, 1) := by decide +kernel
theorem dX2_splitPart_58 : decode cX2_splitPart 58 = .ok (.getfield 9, 3) := by decide +kernel
theorem dX2_splitPart_61 : decode cX2_splitPart 61 = .ok (.iconst 2, 1) := by decide +kernel
theorem dX2_splitPart_62 : decode cX2_splitPart 62 = .ok (.iload_n 1, 1) := by decide +kernel
theorem dX2_splitPart_63 : decode cX2_splitPart 63 = .ok (.imul, 1) := by decide +kernel
theorem dX2_splitPart_64 : decode cX2_splitPart 64 = .ok (.iconst 1, 1) := by decide +kernel
theorem dX2_splitPart_65 : decode cX2_splitPart 65 = .ok (.iadd, 1) := by decide +kernel
theorem dX2_splitPart_66 : decode cX2_splitPart 66 = .ok (.aload_n 0, 1) := by decide +kernel
theorem dX2_splitPart_67 : decode cX2_splitPart 67 = .ok (.getfield 9, 3) := by decide +kernel
theorem dX2_splitPart_70 : decode cX2_splitPart 70 = .ok (.iload_n 1, 1) := by decide +kernel
theorem dX2_splitPart_71 : decode cX2_splitPart 71 = .ok (.iaload, 1) := by decide +kernel
theorem dX2_splitPart_72 : decode cX2_splitPart 72 = .ok (.iload 4, 2) := by decide +kernel
theorem dX2_splitPart_74 : decode cX2_splitPart 74 = .ok (.iadd, 1) := by decide +kernel
theorem dX2_splitPart_75 : decode cX2_splitPart 75 = .ok (.iastore, 1) := by decide +kernel
theorem dX2_splitPart_76 : decode cX2_splitPart 76 = .ok (.aload_n 0, 1) := by decide +kernel
theorem dX2_splitPart_77 : decode cX2_splitPart 77 = .ok (.getfield 15, 3) := by decide +kernel
theorem dX2_splitPart_80 : decode cX2_splitPart 80 = .ok (.iconst 2, 1) := by decide +kernel
theorem dX2_splitPart_81 : decode cX2_splitPart 81 = .ok (.iload_n 1, 1) := by decide +kernel
theorem dX2_splitPart_82 : decode cX2_splitPart 82 = .ok (.imul, 1) := by decide +kernel
theorem dX2_splitPart_83 : decode cX2_splitPart 83 = .ok (.iconst 1, 1) := by decide +kernel
theorem dX2_splitPart_84 : decode cX2_splitPart 84 = .ok (.iadd, 1) := by decide +kernel
theorem dX2_splitPart_85 : decode cX2_splitPart 85 = .ok (.iload_n 3, 1) := by decide +kernel
theorem dX2_splitPart_86 : decode cX2_splitPart 86 = .ok (.ifCond .eq 10, 3) := by decide +kernel
theorem dX2_splitPart_89 : decode cX2_splitPart 89 = .ok (.iload_n 2, 1) := by decide +kernel
theorem dX2_splitPart_90 : decode cX2_splitPart 90 = .ok (.iload 4, 2) := by decide +kernel
theorem dX2_splitPart_92 : decode cX2_splitPart 92 = .ok (.isub, 1) := by decide +kernel
theorem dX2_splitPart_93 : decode cX2_splitPart 93 = .ok (.goto 4, 3) := by decide +kernel
theorem dX2_splitPart_96 : decode cX2_splitPart 96 = .ok (.iconst 0, 1) := by decide +kernel
theorem dX2_splitPart_97 : decode cX2_splitPart 97 = .ok (.iastore, 1) := by decide +kernel
theorem dX2_splitPart_98 : decode cX2_splitPart 98 = .ok (.return_, 1) := by decide +kernel
theorem dX2_has_0 : decode cX2_has 0 = .ok (.iload_n 1, 1) := by decide +kernel
theorem dX2_has_1 : decode cX2_has 1 = .ok (.iconst 1, 1) := by decide +kernel
theorem dX2_has_2 : decode cX2_has 2 = .ok (.if_icmp .lt 22, 3) := by decide +kernel
theorem dX2_has_5 : decode cX2_has 5 = .ok (.iload_n 1, 1) := by decide +kernel
theorem dX2_has_6 : decode cX2_has 6 = .ok (.bipush 63, 2) := by decide +kernel
theorem dX2_has_8 : decode cX2_has 8 = .ok (.if_icmp .gt 16, 3) := by decide +kernel
theorem dX2_has_11 : decode cX2_has 11 = .ok (.aload_n 0, 1) := by decide +kernel
theorem dX2_has_12 : decode cX2_has 12 = .ok (.getfield 15, 3) := by decide +kernel
theorem dX2_has_15 : decode cX2_has 15 = .ok (.iload_n 1, 1) := by decide +kernel
theorem dX2_has_16 : decode cX2_has 16 = .ok (.iaload, 1) := by decide +kernel
theorem dX2_has_17 : decode cX2_has 17 = .ok (.ifCond .le 7, 3) := by decide +kernel
theorem dX2_has_20 : decode cX2_has 20 = .ok (.iconst 1, 1) := by decide +kernel
theorem dX2_has_21 : decode cX2_has 21 = .ok (.goto 4, 3) := by decide +kernel
theorem dX2_has_24 : decode cX2_has 24 = .ok (.iconst 0, 1) := by decide +kernel
theorem dX2_has_25 : decode cX2_has 25 = .ok (.ireturn, 1) := by decide +kernel
set_option maxRecDepth 20000 in
theorem ggX2_hasHalves_X2_has : GoodIn wsX2_hasHalves wsX2_has := goodIn_r _ [6, 1, 7, 8] (by decide +kernel) (by decide +kernel)
set_option maxRecDepth 20000 in
theorem gX2_hasHalves_X2_has : GoodIn wsX2_hasHalves (wsV RX2 22 RX2 yX2_has wsX2_has) := goodIn_app (goodIn_of _ (by decide +kernel)) ggX2_hasHalves_X2_has
theorem dX2_hasHalves_0 : decode cX2_hasHalves 0 = .ok (.aload_n 0, 1) := by decide +kernel
theorem dX2_hasHalves_1 : decode cX2_hasHalves 1 = .ok (.iload_n 1, 1) := by decide +kernel
theorem dX2_hasHalves_2 : decode cX2_hasHalves 2 = .ok (.invokevirtual 22, 3) := by decide +kernel
theorem dX2_hasHalves_5 : decode cX2_hasHalves 5 = .ok (.ifCond .eq 23, 3) := by decide +kernel
theorem dX2_hasHalves_8 : decode cX2_hasHalves 8 = .ok (.iload_n 1, 1) := by decide +kernel
theorem dX2_hasHalves_9 : decode cX2_hasHalves 9 = .ok (.bipush 31, 2) := by decide +kernel
theorem dX2_hasHalves_11 : decode cX2_hasHalves 11 = .ok (.if_icmp .gt 17, 3) := by decide +kernel
theorem dX2_hasHalves_14 : decode cX2_hasHalves 14 = .ok (.aload_n 0, 1) := by decide +kernel
theorem dX2_hasHalves_15 : decode cX2_hasHalves 15 = .ok (.getfield 15, 3) := by decide +kernel
theorem dX2_hasHalves_18 : decode cX2_hasHalves 18 = .ok (.iload_n 1, 1) := by decide +kernel
theorem dX2_hasHalves_19 : decode cX2_hasHalves 19 = .ok (.iaload, 1) := by decide +kernel
theorem dX2_hasHalves_20 : decode cX2_hasHalves 20 = .ok (.iconst 1, 1) := by decide +kernel
theorem dX2_hasHalves_21 : decode cX2_hasHalves 21 = .ok (.if_icmp .le 7, 3) := by decide +kernel
theorem dX2_hasHalves_24 : decode cX2_hasHalves 24 = .ok (.iconst 1, 1) := by decide +kernel
theorem dX2_hasHalves_25 : decode cX2_hasHalves 25 = .ok (.goto 4, 3) := by decide +kernel
theorem dX2_hasHalves_28 : decode cX2_hasHalves 28 = .ok (.iconst 0, 1) := by decide +kernel
theorem dX2_hasHalves_29 : decode cX2_hasHalves 29 = .ok (.ireturn, 1) := by decide +kernel
set_option maxRecDepth 20000 in
theorem ggX2_holds_X2_has : GoodIn wsX2_holds wsX2_has := goodIn_r _ [7, 2, 8, 9] (by decide +kernel) (by decide +kernel)
set_option maxRecDepth 20000 in
theorem gX2_holds_X2_has : GoodIn wsX2_holds (wsV RX2 22 RX2 yX2_has wsX2_has) := goodIn_app (goodIn_of _ (by decide +kernel)) ggX2_holds_X2_has
theorem dX2_holds_0 : decode cX2_holds 0 = .ok (.aload_n 0, 1) := by decide +kernel
theorem dX2_holds_1 : decode cX2_holds 1 = .ok (.iload_n 1, 1) := by decide +kernel
theorem dX2_holds_2 : decode cX2_holds 2 = .ok (.invokevirtual 22, 3) := by decide +kernel
theorem dX2_holds_5 : decode cX2_holds 5 = .ok (.ifCond .eq 34, 3) := by decide +kernel
theorem dX2_holds_8 : decode cX2_holds 8 = .ok (.iload_n 2, 1) := by decide +kernel
theorem dX2_holds_9 : decode cX2_holds 9 = .ok (.aload_n 0, 1) := by decide +kernel
theorem dX2_holds_10 : decode cX2_holds 10 = .ok (.getfield 9, 3) := by decide +kernel
theorem dX2_holds_13 : decode cX2_holds 13 = .ok (.iload_n 1, 1) := by decide +kernel
theorem dX2_holds_14 : decode cX2_holds 14 = .ok (.iaload, 1) := by decide +kernel
theorem dX2_holds_15 : decode cX2_holds 15 = .ok (.if_icmp .lt 24, 3) := by decide +kernel
theorem dX2_holds_18 : decode cX2_holds 18 = .ok (.iload_n 2, 1) := by decide +kernel
theorem dX2_holds_19 : decode cX2_holds 19 = .ok (.aload_n 0, 1) := by decide +kernel
theorem dX2_holds_20 : decode cX2_holds 20 = .ok (.getfield 9, 3) := by decide +kernel
theorem dX2_holds_23 : decode cX2_holds 23 = .ok (.iload_n 1, 1) := by decide +kernel
theorem dX2_holds_24 : decode cX2_holds 24 = .ok (.iaload, 1) := by decide +kernel
theorem dX2_holds_25 : decode cX2_holds 25 = .ok (.aload_n 0, 1) := by decide +kernel
theorem dX2_holds_26 : decode cX2_holds 26 = .ok (.getfield 15, 3) := by decide +kernel
theorem dX2_holds_29 : decode cX2_holds 29 = .ok (.iload_n 1, 1) := by decide +kernel
theorem dX2_holds_30 : decode cX2_holds 30 = .ok (.iaload, 1) := by decide +kernel
theorem dX2_holds_31 : decode cX2_holds 31 = .ok (.iadd, 1) := by decide +kernel
theorem dX2_holds_32 : decode cX2_holds 32 = .ok (.if_icmp .ge 7, 3) := by decide +kernel
theorem dX2_holds_35 : decode cX2_holds 35 = .ok (.iconst 1, 1) := by decide +kernel
theorem dX2_holds_36 : decode cX2_holds 36 = .ok (.goto 4, 3) := by decide +kernel
theorem dX2_holds_39 : decode cX2_holds 39 = .ok (.iconst 0, 1) := by decide +kernel
theorem dX2_holds_40 : decode cX2_holds 40 = .ok (.ireturn, 1) := by decide +kernel
set_option maxRecDepth 20000 in
theorem ggX2_howMany_X2_has : GoodIn wsX2_howMany wsX2_has := goodIn_r _ [5, 6, 7, 8] (by decide +kernel) (by decide +kernel)
set_option maxRecDepth 20000 in
theorem gX2_howMany_X2_has : GoodIn wsX2_howMany (wsV RX2 22 RX2 yX2_has wsX2_has) := goodIn_app (goodIn_of _ (by decide +kernel)) ggX2_howMany_X2_has
theorem dX2_howMany_0 : decode cX2_howMany 0 = .ok (.iconst 0, 1) := by decide +kernel
theorem dX2_howMany_1 : decode cX2_howMany 1 = .ok (.istore_n 1, 1) := by decide +kernel
theorem dX2_howMany_2 : decode cX2_howMany 2 = .ok (.iconst 1, 1) := by decide +kernel
theorem dX2_howMany_3 : decode cX2_howMany 3 = .ok (.istore_n 2, 1) := by decide +kernel
theorem dX2_howMany_4 : decode cX2_howMany 4 = .ok (.iload_n 2, 1) := by decide +kernel
theorem dX2_howMany_5 : decode cX2_howMany 5 = .ok (.bipush 63, 2) := by decide +kernel
theorem dX2_howMany_7 : decode cX2_howMany 7 = .ok (.if_icmp .gt 20, 3) := by decide +kernel
theorem dX2_howMany_10 : decode cX2_howMany 10 = .ok (.aload_n 0, 1) := by decide +kernel
theorem dX2_howMany_11 : decode cX2_howMany 11 = .ok (.iload_n 2, 1) := by decide +kernel
theorem dX2_howMany_12 : decode cX2_howMany 12 = .ok (.invokevirtual 22, 3) := by decide +kernel
theorem dX2_howMany_15 : decode cX2_howMany 15 = .ok (.ifCond .eq 6, 3) := by decide +kernel
theorem dX2_howMany_18 : decode cX2_howMany 18 = .ok (.iinc 1 1, 3) := by decide +kernel
theorem dX2_howMany_21 : decode cX2_howMany 21 = .ok (.iinc 2 1, 3) := by decide +kernel
theorem dX2_howMany_24 : decode cX2_howMany 24 = .ok (.goto (-20), 3) := by decide +kernel
theorem dX2_howMany_27 : decode cX2_howMany 27 = .ok (.iload_n 1, 1) := by decide +kernel
theorem dX2_howMany_28 : decode cX2_howMany 28 = .ok (.ireturn, 1) := by decide +kernel
set_option maxRecDepth 20000 in
theorem ggX2_greatestDepth_X2_has : GoodIn wsX2_greatestDepth wsX2_has := goodIn_r _ [5, 6, 10, 11] (by decide +kernel) (by decide +kernel)
set_option maxRecDepth 20000 in
theorem gX2_greatestDepth_X2_has : GoodIn wsX2_greatestDepth (wsV RX2 22 RX2 yX2_has wsX2_has) := goodIn_app (goodIn_of _ (by decide +kernel)) ggX2_greatestDepth_X2_has
set_option maxRecDepth 20000 in
theorem ggX2_greatestDepth_X2_depthOf : GoodIn wsX2_greatestDepth wsX2_depthOf := goodIn_r _ [9] (by decide +kernel) (by decide +kernel)
set_option maxRecDepth 20000 in
theorem gX2_greatestDepth_X2_depthOf : GoodIn wsX2_greatestDepth (va_wsS RX2 26 yX2_depthOf wsX2_depthOf) := goodIn_app (goodIn_of _ (by decide +kernel)) ggX2_greatestDepth_X2_depthOf
theorem dX2_greatestDepth_0 : decode cX2_greatestDepth 0 = .ok (.bipush 63, 2) := by decide +kernel
theorem dX2_greatestDepth_2 : decode cX2_greatestDepth 2 = .ok (.istore_n 1, 1) := by decide +kernel
theorem dX2_greatestDepth_3 : decode cX2_greatestDepth 3 = .ok (.iload_n 1, 1) := by decide +kernel
theorem dX2_greatestDepth_4 : decode cX2_greatestDepth 4 = .ok (.iconst 1, 1) := by decide +kernel
theorem dX2_greatestDepth_5 : decode cX2_greatestDepth 5 = .ok (.if_icmp .lt 22, 3) := by decide +kernel
theorem dX2_greatestDepth_8 : decode cX2_greatestDepth 8 = .ok (.aload_n 0, 1) := by decide +kernel
theorem dX2_greatestDepth_9 : decode cX2_greatestDepth 9 = .ok (.iload_n 1, 1) := by decide +kernel
theorem dX2_greatestDepth_10 : decode cX2_greatestDepth 10 = .ok (.invokevirtual 22, 3) := by decide +kernel
theorem dX2_greatestDepth_13 : decode cX2_greatestDepth 13 = .ok (.ifCond .eq 8, 3) := by decide +kernel
theorem dX2_greatestDepth_16 : decode cX2_greatestDepth 16 = .ok (.iload_n 1, 1) := by decide +kernel
theorem dX2_greatestDepth_17 : decode cX2_greatestDepth 17 = .ok (.invokestatic 26, 3) := by decide +kernel
theorem dX2_greatestDepth_20 : decode cX2_greatestDepth 20 = .ok (.ireturn, 1) := by decide +kernel
theorem dX2_greatestDepth_21 : decode cX2_greatestDepth 21 = .ok (.iinc 1 (-1), 3) := by decide +kernel
theorem dX2_greatestDepth_24 : decode cX2_greatestDepth 24 = .ok (.goto (-21), 3) := by decide +kernel
theorem dX2_greatestDepth_27 : decode cX2_greatestDepth 27 = .ok (.bipush (-6), 2) := by decide +kernel
theorem dX2_greatestDepth_29 : decode cX2_greatestDepth 29 = .ok (.ireturn, 1) := by decide +kernel
theorem dX2_depthOf_0 : decode cX2_depthOf 0 = .ok (.iconst 0, 1) := by decide +kernel
theorem dX2_depthOf_1 : decode cX2_depthOf 1 = .ok (.istore_n 1, 1) := by decide +kernel
theorem dX2_depthOf_2 : decode cX2_depthOf 2 = .ok (.iload_n 0, 1) := by decide +kernel
theorem dX2_depthOf_3 : decode cX2_depthOf 3 = .ok (.iconst 2, 1) := by decide +kernel
theorem dX2_depthOf_4 : decode cX2_depthOf 4 = .ok (.idiv, 1) := by decide +kernel
theorem dX2_depthOf_5 : decode cX2_depthOf 5 = .ok (.istore_n 2, 1) := by decide +kernel
theorem dX2_depthOf_6 : decode cX2_depthOf 6 = .ok (.iload_n 2, 1) := by decide +kernel
theorem dX2_depthOf_7 : decode cX2_depthOf 7 = .ok (.iconst 1, 1) := by decide +kernel
theorem dX2_depthOf_8 : decode cX2_depthOf 8 = .ok (.if_icmp .lt 13, 3) := by decide +kernel
theorem dX2_depthOf_11 : decode cX2_depthOf 11 = .ok (.iinc 1 1, 3) := by decide +kernel
theorem dX2_depthOf_14 : decode cX2_depthOf 14 = .ok (.iload_n 2, 1) := by decide +kernel
theorem dX2_depthOf_15 : decode cX2_depthOf 15 = .ok (.iconst 2, 1) := by decide +kernel
theorem dX2_depthOf_16 : decode cX2_depthOf 16 = .ok (.idiv, 1) := by decide +kernel
theorem dX2_depthOf_17 : decode cX2_depthOf 17 = .ok (.istore_n 2, 1) := by decide +kernel
theorem dX2_depthOf_18 : decode cX2_depthOf 18 = .ok (.goto (-12), 3) := by decide +kernel
theorem dX2_depthOf_21 : decode cX2_depthOf 21 = .ok (.iload_n 1, 1) := by decide +kernel
theorem dX2_depthOf_22 : decode cX2_depthOf 22 = .ok (.ireturn, 1) := by decide +kernel
theorem dX3_init_0 : decode cX3_init 0 = .ok (.aload_n 0, 1) := by decide +kernel
theorem dX3_init_1 : decode cX3_init 1 = .ok (.invokespecial 3, 3) := by decide +kernel
theorem dX3_init_4 : decode cX3_init 4 = .ok (.aload_n 0, 1) := by decide +kernel
theorem dX3_init_5 : decode cX3_init 5 = .ok (.bipush 32, 2) := by decide +kernel
theorem dX3_init_7 : decode cX3_init 7 = .ok (.newarray .int, 2) := by decide +kernel
theorem dX3_init_9 : decode cX3_init 9 = .ok (.putfield 9, 3) := by decide +kernel
theorem dX3_init_12 : decode cX3_init 12 = .ok (.aload_n 0, 1) := by decide +kernel
theorem dX3_init_13 : decode cX3_init 13 = .ok (.bipush 32, 2) := by decide +kernel
theorem dX3_init_15 : decode cX3_init 15 = .ok (.newarray .int, 2) := by decide +kernel
theorem dX3_init_17 : decode cX3_init 17 = .ok (.putfield 15, 3) := by decide +kernel
theorem dX3_init_20 : decode cX3_init 20 = .ok (.aload_n 0, 1) := by decide +kernel
theorem dX3_init_21 : decode cX3_init 21 = .ok (.bipush 32, 2) := by decide +kernel
theorem dX3_init_23 : decode cX3_init 23 = .ok (.newarray .int, 2) := by decide +kernel
theorem dX3_init_25 : decode cX3_init 25 = .ok (.putfield 18, 3) := by decide +kernel
theorem dX3_init_28 : decode cX3_init 28 = .ok (.aload_n 0, 1) := by decide +kernel
theorem dX3_init_29 : decode cX3_init 29 = .ok (.iconst 0, 1) := by decide +kernel
theorem dX3_init_30 : decode cX3_init 30 = .ok (.putfield 21, 3) := by decide +kernel
theorem dX3_init_33 : decode cX3_init 33 = .ok (.return_, 1) := by decide +kernel
theorem dX3_idAt_0 : decode cX3_idAt 0 = .ok (.iload_n 1, 1) := by decide +kernel
theorem dX3_idAt_1 : decode cX3_idAt 1 = .ok (.ifCond .lt 20, 3) := by decide +kernel
theorem dX3_idAt_4 : decode cX3_idAt 4 = .ok (.iload_n 1, 1) := by decide +kernel
theorem dX3_idAt_5 : decode cX3_idAt 5 = .ok (.aload_n 0, 1) := by decide +kernel
theorem dX3_idAt_6 : decode cX3_idAt 6 = .ok (.getfield 21, 3) := by decide +kernel
theorem dX3_idAt_9 : decode cX3_idAt 9 = .ok (.if_icmp .ge 12, 3) := by decide +kernel
theorem dX3_idAt_12 : decode cX3_idAt 12 = .ok (.aload_n 0, 1) := by decide +kernel
theorem dX3_idAt_13 : decode cX3_idAt 13 = .ok (.getfield 9, 3) := by decide +kernel
theorem dX3_idAt_16 : decode cX3_idAt 16 = .ok (.iload_n 1, 1) := by decide +kernel
theorem dX3_idAt_17 : decode cX3_idAt 17 = .ok (.iaload, 1) := by decide +kernel
theorem dX3_idAt_18 : decode cX3_idAt 18 = .ok (.goto 5, 3) := by decide +kernel
theorem dX3_idAt_21 : decode cX3_idAt 21 = .ok (.bipush (-6), 2) := by decide +kernel
theorem dX3_idAt_23 : decode cX3_idAt 23 = .ok (.ireturn, 1) := by decide +kernel
theorem dX3_rankOf_0 : decode cX3_rankOf 0 = .ok (.iconst 0, 1) := by decide +kernel
theorem dX3_rankOf_1 : decode cX3_rankOf 1 = .ok (.istore_n 2, 1) := by decide +kernel
theorem dX3_rankOf_2 : decode cX3_rankOf 2 = .ok (.iload_n 2, 1) := by decide +kernel
theorem dX3_rankOf_3 : decode cX3_rankOf 3 = .ok (.aload_n 0, 1) := by decide +kernel
theorem dX3_rankOf_4 : decode cX3_rankOf 4 = .ok (.getfield 21, 3) := by decide +kernel
theorem dX3_rankOf_7 : decode cX3_rankOf 7 = .ok (.if_icmp .ge 21, 3) := by decide +kernel
theorem dX3_rankOf_10 : decode cX3_rankOf 10 = .ok (.aload_n 0, 1) := by decide +kernel
theorem dX3_rankOf_11 : decode cX3_rankOf 11 = .ok (.getfield 9, 3) := by decide +kernel
theorem dX3_rankOf_14 : decode cX3_rankOf 14 = .ok (.iload_n 2, 1) := by decide +kernel
theorem dX3_rankOf_15 : decode cX3_rankOf 15 = .ok (.iaload, 1) := by decide +kernel
theorem dX3_rankOf_16 : decode cX3_rankOf 16 = .ok (.iload_n 1, 1) := by decide +kernel
theorem dX3_rankOf_17 : decode cX3_rankOf 17 = .ok (.if_icmp .ne 5, 3) := by decide +kernel
theorem dX3_rankOf_20 : decode cX3_rankOf 20 = .ok (.iload_n 2, 1) := by decide +kernel
theorem dX3_rankOf_21 : decode cX3_rankOf 21 = .ok (.ireturn, 1) := by decide +kernel
theorem dX3_rankOf_22 : decode cX3_rankOf 22 = .ok (.iinc 2 1, 3) := by decide +kernel
theorem dX3_rankOf_25 : decode cX3_rankOf 25 = .ok (.goto (-23), 3) := by decide +kernel
theorem dX3_rankOf_28 : decode cX3_rankOf 28 = .ok (.bipush (-6), 2) := by decide +kernel
theorem dX3_rankOf_30 : decode cX3_rankOf 30 = .ok (.ireturn, 1) := by decide +kernel
set_option maxRecDepth 20000 in
theorem ggX3_isTaken_X3_isAt : GoodIn wsX3_isTaken wsX3_isAt := goodIn_r _ [6, 7, 8, 9, 10, 11, 12] (by decide +kernel) (by decide +kernel)
set_option maxRecDepth 20000 in
theorem gX3_isTaken_X3_isAt : GoodIn wsX3_isTaken (wsV RX3 25 RX3 yX3_isAt wsX3_isAt) := goodIn_app (goodIn_of _ (by decide +kernel)) ggX3_isTaken_X3_isAt
theorem dX3_isTaken_0 : decode cX3_isTaken 0 = .ok (.iconst 0, 1) := by decide +kernel
theorem dX3_isTaken_1 : decode cX3_isTaken 1 = .ok (.istore_n 3, 1) := by decide +kernel
theorem dX3_isTaken_2 : decode cX3_isTaken 2 = .ok (.iload_n 3, 1) := by decide +kernel
theorem dX3_isTaken_3 : decode cX3_isTaken 3 = .ok (.aload_n 0, 1) := by decide +kernel
theorem dX3_isTaken_4 : decode cX3_isTaken 4 = .ok (.getfield 21, 3) := by decide +kernel
theorem dX3_isTaken_7 : decode cX3_isTaken 7 = .ok (.if_icmp .ge 21, 3) := by decide +kernel
theorem dX3_isTaken_10 : decode cX3_isTaken 10 = .ok (.aload_n 0, 1) := by decide +kernel
theorem dX3_isTaken_11 : decode cX3_isTaken 11 = .ok (.iload_n 3, 1) := by decide +kernel
theorem dX3_isTaken_12 : decode cX3_isTaken 12 = .ok (.iload_n 1, 1) := by decide +kernel
theorem dX3_isTaken_13 : decode cX3_isTaken 13 = .ok (.iload_n 2, 1) := by decide +kernel
theorem dX3_isTaken_14 : decode cX3_isTaken 14 = .ok (.invokevirtual 25, 3) := by decide +kernel
theorem dX3_isTaken_17 : decode cX3_isTaken 17 = .ok (.ifCond .eq 5, 3) := by decide +kernel
theorem dX3_isTaken_20 : decode cX3_isTaken 20 = .ok (.iconst 1, 1) := by decide +kernel
theorem dX3_isTaken_21 : decode cX3_isTaken 21 = .ok (.ireturn, 1) := by decide +kernel
theorem dX3_isTaken_22 : decode cX3_isTaken 22 = .ok (.iinc 3 1, 3) := by decide +kernel
theorem dX3_isTaken_25 : decode cX3_isTaken 25 = .ok (.goto (-23), 3) := by decide +kernel
theorem dX3_isTaken_28 : decode cX3_isTaken 28 = .ok (.iconst 0, 1) := by decide +kernel
theorem dX3_isTaken_29 : decode cX3_isTaken 29 = .ok (.ireturn, 1) := by decide +kernel
theorem dX3_isAt_0 : decode cX3_isAt 0 = .ok (.aload_n 0, 1) := by decide +kernel
theorem dX3_isAt_1 : decode cX3_isAt 1 = .ok (.getfield 15, 3) := by decide +kernel
theorem dX3_isAt_4 : decode cX3_isAt 4 = .ok (.iload_n 1, 1) := by decide +kernel
theorem dX3_isAt_5 : decode cX3_isAt 5 = .ok (.iaload, 1) := by decide +kernel
theorem dX3_isAt_6 : decode cX3_isAt 6 = .ok (.iload_n 2, 1) := by decide +kernel
theorem dX3_isAt_7 : decode cX3_isAt 7 = .ok (.if_icmp .ne 17, 3) := by decide +kernel
theorem dX3_isAt_10 : decode cX3_isAt 10 = .ok (.aload_n 0, 1) := by decide +kernel
theorem dX3_isAt_11 : decode cX3_isAt 11 = .ok (.getfield 18, 3) := by decide +kernel
theorem dX3_isAt_14 : decode cX3_isAt 14 = .ok (.iload_n 1, 1) := by decide +kernel
theorem dX3_isAt_15 : decode cX3_isAt 15 = .ok (.iaload, 1) := by decide +kernel
theorem dX3_isAt_16 : decode cX3_isAt 16 = .ok (.iload_n 3, 1) := by decide +kernel
theorem dX3_isAt_17 : decode cX3_isAt 17 = .ok (.if_icmp .ne 7, 3) := by decide +kernel
theorem dX3_isAt_20 : decode cX3_isAt 20 = .ok (.iconst 1, 1) := by decide +kernel
theorem dX3_isAt_21 : decode cX3_isAt 21 = .ok (.goto 4, 3) := by decide +kernel
theorem dX3_isAt_24 : decode cX3_isAt 24 = .ok (.iconst 0, 1) := by decide +kernel
theorem dX3_isAt_25 : decode cX3_isAt 25 = .ok (.ireturn, 1) := by decide +kernel
set_option maxRecDepth 20000 in
theorem ggX3_leastFreeId_X3_rankOf : GoodIn wsX3_leastFreeId wsX3_rankOf := goodIn_r _ [5, 6, 7, 8, 9, 10, 11] (by decide +kernel) (by decide +kernel)
set_option maxRecDepth 20000 in
theorem gX3_leastFreeId_X3_rankOf : GoodIn wsX3_leastFreeId (wsV RX3 29 RX3 yX3_rankOf wsX3_rankOf) := goodIn_app (goodIn_of _ (by decide +kernel)) ggX3_leastFreeId_X3_rankOf
theorem dX3_leastFreeId_0 : decode cX3_leastFreeId 0 = .ok (.iconst 0, 1) := by decide +kernel
theorem dX3_leastFreeId_1 : decode cX3_leastFreeId 1 = .ok (.istore_n 1, 1) := by decide +kernel
theorem dX3_leastFreeId_2 : decode cX3_leastFreeId 2 = .ok (.iload_n 1, 1) := by decide +kernel
theorem dX3_leastFreeId_3 : decode cX3_leastFreeId 3 = .ok (.bipush 32, 2) := by decide +kernel
theorem dX3_leastFreeId_5 : decode cX3_leastFreeId 5 = .ok (.if_icmp .ge 21, 3) := by decide +kernel
theorem dX3_leastFreeId_8 : decode cX3_leastFreeId 8 = .ok (.aload_n 0, 1) := by decide +kernel
theorem dX3_leastFreeId_9 : decode cX3_leastFreeId 9 = .ok (.iload_n 1, 1) := by decide +kernel
theorem dX3_leastFreeId_10 : decode cX3_leastFreeId 10 = .ok (.invokevirtual 29, 3) := by decide +kernel
theorem dX3_leastFreeId_13 : decode cX3_leastFreeId 13 = .ok (.bipush (-6), 2) := by decide +kernel
theorem dX3_leastFreeId_15 : decode cX3_leastFreeId 15 = .ok (.if_icmp .ne 5, 3) := by decide +kernel
theorem dX3_leastFreeId_18 : decode cX3_leastFreeId 18 = .ok (.iload_n 1, 1) := by decide +kernel
theorem dX3_leastFreeId_19 : decode cX3_leastFreeId 19 = .ok (.ireturn, 1) := by decide +kernel
theorem dX3_leastFreeId_20 : decode cX3_leastFreeId 20 = .ok (.iinc 1 1, 3) := by decide +kernel
theorem dX3_leastFreeId_23 : decode cX3_leastFreeId 23 = .ok (.goto (-21), 3) := by decide +kernel
theorem dX3_leastFreeId_26 : decode cX3_leastFreeId 26 = .ok (.bipush (-6), 2) := by decide +kernel
theorem dX3_leastFreeId_28 : decode cX3_leastFreeId 28 = .ok (.ireturn, 1) := by decide +kernel
set_option maxRecDepth 20000 in
theorem ggX3_insert_X3_isBefore : GoodIn wsX3_insert wsX3_isBefore := goodIn_r _ [9, 3, 4, 14, 15, 16, 17] (by decide +kernel) (by decide +kernel)
set_option maxRecDepth 20000 in
theorem gX3_insert_X3_isBefore : GoodIn wsX3_insert (wsV RX3 33 RX3 yX3_isBefore wsX3_isBefore) := goodIn_app (goodIn_of _ (by decide +kernel)) ggX3_insert_X3_isBefore
set_option maxRecDepth 20000 in
theorem ggX3_insert_X3_setRow : GoodIn wsX3_insert wsX3_setRow := goodIn_r _ [13, 2, 3, 4, 14, 15, 16, 17] (by decide +kernel) (by decide +kernel)
set_option maxRecDepth 20000 in
theorem gX3_insert_X3_setRow : GoodIn wsX3_insert (wsV RX3 36 RX3 yX3_setRow wsX3_setRow) := goodIn_app (goodIn_of _ (by decide +kernel)) ggX3_insert_X3_setRow
theorem dX3_insert_0 : decode cX3_insert 0 = .ok (.aload_n 0, 1) := by decide +kernel
theorem dX3_insert_1 : decode cX3_insert 1 = .ok (.getfield 21, 3) := by decide +kernel
theorem dX3_insert_4 : decode cX3_insert 4 = .ok (.bipush 32, 2) := by decide +kernel
theorem dX3_insert_6 : decode cX3_insert 6 = .ok (.if_icmp .lt 4, 3) := by decide +kernel
theorem dX3_insert_9 : decode cX3_insert 9 = .ok (.return_, 1) := by decide +kernel
theorem dX3_insert_10 : decode cX3_insert 10 = .ok (.aload_n 0, 1) := by decide +kernel
theorem dX3_insert_11 : decode cX3_insert 11 = .ok (.getfield 21, 3) := by decide +kernel
theorem dX3_insert_14 : decode cX3_insert 14 = .ok (.istore 4, 2) := by decide +kernel
theorem dX3_insert_16 : decode cX3_insert 16 = .ok (.iload 4, 2) := by decide +kernel
theorem dX3_insert_18 : decode cX3_insert 18 = .ok (.ifCond .le 55, 3) := by decide +kernel
theorem dX3_insert_21 : decode cX3_insert 21 = .ok (.aload_n 0, 1) := by decide +kernel
theorem dX3_insert_22 : decode cX3_insert 22 = .ok (.iload_n 2, 1) := by decide +kernel
theorem dX3_insert_23 : decode cX3_insert 23 = .ok (.iload_n 3, 1) := by decide +kernel
theorem dX3_insert_24 : decode cX3_insert 24 = .ok (.iload 4, 2) := by decide +kernel
theorem dX3_insert_26 : decode cX3_insert 26 = .ok (.iconst 1, 1) := by decide +kernel
theorem dX3_insert_27 : decode cX3_insert 27 = .ok (.isub, 1) := by decide +kernel
theorem dX3_insert_28 : decode cX3_insert 28 = .ok (.invokevirtual 33, 3) := by decide +kernel
theorem dX3_insert_31 : decode cX3_insert 31 = .ok (.ifCond .eq 42, 3) := by decide +kernel
theorem dX3_insert_34 : decode cX3_insert 34 = .ok (.aload_n 0, 1) := by decide +kernel
theorem dX3_insert_35 : decode cX3_insert 35 = .ok (.iload 4, 2) := by decide +kernel
theorem dX3_insert_37 : decode cX3_insert 37 = .ok (.aload_n 0, 1) := by decide +kernel
theorem dX3_insert_38 : decode cX3_insert 38 = .ok (.getfield 9, 3) := by decide +kernel
theorem dX3_insert_41 : decode cX3_insert 41 = .ok (.iload 4, 2) := by decide +kernel
theorem dX3_insert_43 : decode cX3_insert 43 = .ok (.iconst 1, 1) := by decide +kernel
theorem dX3_insert_44 : decode cX3_insert 44 = .ok (.isub, 1) := by decide +kernel
theorem dX3_insert_45 : decode cX3_insert 45 = .ok (.iaload, 1) := by decide +kernel
theorem dX3_insert_46 : decode cX3_insert 46 = .ok (.aload_n 0, 1) := by decide +kernel
theorem dX3_insert_47 : decode cX3_insert 47 = .ok (.getfield 15, 3) := by decide +kernel
theorem dX3_insert_50 : decode cX3_insert 50 = .ok (.iload 4, 2) := by decide +kernel
theorem dX3_insert_52 : decode cX3_insert 52 = .ok (.iconst 1, 1) := by decide +kernel
theorem dX3_insert_53 : decode cX3_insert 53 = .ok (.isub, 1) := by decide +kernel
theorem dX3_insert_54 : decode cX3_insert 54 = .ok (.iaload, 1) := by decide +kernel
theorem dX3_insert_55 : decode cX3_insert 55 = .ok (.aload_n 0, 1) := by decide +kernel
theorem dX3_insert_56 : decode cX3_insert 56 = .ok (.getfield 18, 3) := by decide +kernel
theorem dX3_insert_59 : decode cX3_insert 59 = .ok (.iload 4, 2) := by decide +kernel
theorem dX3_insert_61 : decode cX3_insert 61 = .ok (.iconst 1, 1) := by decide +kernel
theorem dX3_insert_62 : decode cX3_insert 62 = .ok (.isub, 1) := by decide +kernel
theorem dX3_insert_63 : decode cX3_insert 63 = .ok (.iaload, 1) := by decide +kernel
theorem dX3_insert_64 : decode cX3_insert 64 = .ok (.invokevirtual 36, 3) := by decide +kernel
theorem dX3_insert_67 : decode cX3_insert 67 = .ok (.iinc 4 (-1), 3) := by decide +kernel
theorem dX3_insert_70 : decode cX3_insert 70 = .ok (.goto (-54), 3) := by decide +kernel
theorem dX3_insert_73 : decode cX3_insert 73 = .ok (.aload_n 0, 1) := by decide +kernel
theorem dX3_insert_74 : decode cX3_insert 74 = .ok (.iload 4, 2) := by decide +kernel
theorem dX3_insert_76 : decode cX3_insert 76 = .ok (.iload_n 1, 1) := by decide +kernel
theorem dX3_insert_77 : decode cX3_insert 77 = .ok (.iload_n 2, 1) := by decide +kernel
theorem dX3_insert_78 : decode cX3_insert 78 = .ok (.iload_n 3, 1) := by decide +kernel
theorem dX3_insert_79 : decode cX3_insert 79 = .ok (.invokevirtual 36, 3) := by decide +kernel
theorem dX3_insert_82 : decode cX3_insert 82 = .ok (.aload_n 0, 1) := by decide +kernel
theorem dX3_insert_83 : decode cX3_insert 83 = .ok (.dup, 1) := by decide +kernel
theorem dX3_insert_84 : decode cX3_insert 84 = .ok (.getfield 21, 3) := by decide +kernel
theorem dX3_insert_87 : decode cX3_insert 87 = .ok (.iconst 1, 1) := by decide +kernel
theorem dX3_insert_88 : decode cX3_insert 88 = .ok (.iadd, 1) := by decide +kernel
theorem dX3_insert_89 : decode cX3_insert 89 = .ok (.putfield 21, 3) := by decide +kernel
theorem dX3_insert_92 : decode cX3_insert 92 = .ok (.return_, 1) := by decide +kernel
set_option maxRecDepth 20000 in
theorem ggX3_delete_X3_setRow : GoodIn wsX3_delete wsX3_setRow := goodIn_r _ [9, 2, 3, 4, 10, 11, 12, 13] (by decide +kernel) (by decide +kernel)
set_option maxRecDepth 20000 in
theorem gX3_delete_X3_setRow : GoodIn wsX3_delete (wsV RX3 36 RX3 yX3_setRow wsX3_setRow) := goodIn_app (goodIn_of _ (by decide +kernel)) ggX3_delete_X3_setRow
theorem dX3_delete_0 : decode cX3_delete 0 = .ok (.iload_n 1, 1) := by decide +kernel
theorem dX3_delete_1 : decode cX3_delete 1 = .ok (.ifCond .lt 11, 3) := by decide +kernel
theorem dX3_delete_4 : decode cX3_delete 4 = .ok (.iload_n 1, 1) := by decide +kernel
theorem dX3_delete_5 : decode cX3_delete 5 = .ok (.aload_n 0, 1) := by decide +kernel
theorem dX3_delete_6 : decode cX3_delete 6 = .ok (.getfield 21, 3) := by decide +kernel
theorem dX3_delete_9 : decode cX3_delete 9 = .ok (.if_icmp .lt 4, 3) := by decide +kernel
theorem dX3_delete_12 : decode cX3_delete 12 = .ok (.return_, 1) := by decide +kernel
theorem dX3_delete_13 : decode cX3_delete 13 = .ok (.iload_n 1, 1) := by decide +kernel
theorem dX3_delete_14 : decode cX3_delete 14 = .ok (.iconst 1, 1) := by decide +kernel
theorem dX3_delete_15 : decode cX3_delete 15 = .ok (.iadd, 1) := by decide +kernel
theorem dX3_delete_16 : decode cX3_delete 16 = .ok (.istore_n 2, 1) := by decide +kernel
theorem dX3_delete_17 : decode cX3_delete 17 = .ok (.iload_n 2, 1) := by decide +kernel
theorem dX3_delete_18 : decode cX3_delete 18 = .ok (.aload_n 0, 1) := by decide +kernel
theorem dX3_delete_19 : decode cX3_delete 19 = .ok (.getfield 21, 3) := by decide +kernel
theorem dX3_delete_22 : decode cX3_delete 22 = .ok (.if_icmp .ge 34, 3) := by decide +kernel
theorem dX3_delete_25 : decode cX3_delete 25 = .ok (.aload_n 0, 1) := by decide +kernel
theorem dX3_delete_26 : decode cX3_delete 26 = .ok (.iload_n 2, 1) := by decide +kernel
theorem dX3_delete_27 : decode cX3_delete 27 = .ok (.iconst 1, 1) := by decide +kernel
theorem dX3_delete_28 : decode cX3_delete 28 = .ok (.isub, 1) := by decide +kernel
theorem dX3_delete_29 : decode cX3_delete 29 = .ok (.aload_n 0, 1) := by decide +kernel
theorem dX3_delete_30 : decode cX3_delete 30 = .ok (.getfield 9, 3) := by decide +kernel
theorem dX3_delete_33 : decode cX3_delete 33 = .ok (.iload_n 2, 1) := by decide +kernel
theorem dX3_delete_34 : decode cX3_delete 34 = .ok (.iaload, 1) := by decide +kernel
theorem dX3_delete_35 : decode cX3_delete 35 = .ok (.aload_n 0, 1) := by decide +kernel
theorem dX3_delete_36 : decode cX3_delete 36 = .ok (.getfield 15, 3) := by decide +kernel
theorem dX3_delete_39 : decode cX3_delete 39 = .ok (.iload_n 2, 1) := by decide +kernel
theorem dX3_delete_40 : decode cX3_delete 40 = .ok (.iaload, 1) := by decide +kernel
theorem dX3_delete_41 : decode cX3_delete 41 = .ok (.aload_n 0, 1) := by decide +kernel
theorem dX3_delete_42 : decode cX3_delete 42 = .ok (.getfield 18, 3) := by decide +kernel
theorem dX3_delete_45 : decode cX3_delete 45 = .ok (.iload_n 2, 1) := by decide +kernel
theorem dX3_delete_46 : decode cX3_delete 46 = .ok (.iaload, 1) := by decide +kernel
theorem dX3_delete_47 : decode cX3_delete 47 = .ok (.invokevirtual 36, 3) := by decide +kernel
theorem dX3_delete_50 : decode cX3_delete 50 = .ok (.iinc 2 1, 3) := by decide +kernel
theorem dX3_delete_53 : decode cX3_delete 53 = .ok (.goto (-36), 3) := by decide +kernel
theorem dX3_delete_56 : decode cX3_delete 56 = .ok (.aload_n 0, 1) := by decide +kernel
theorem dX3_delete_57 : decode cX3_delete 57 = .ok (.dup, 1) := by decide +kernel
theorem dX3_delete_58 : decode cX3_delete 58 = .ok (.getfield 21, 3) := by decide +kernel
theorem dX3_delete_61 : decode cX3_delete 61 = .ok (.iconst 1, 1) := by decide +kernel
theorem dX3_delete_62 : decode cX3_delete 62 = .ok (.isub, 1) := by decide +kernel
theorem dX3_delete_63 : decode cX3_delete 63 = .ok (.putfield 21, 3) := by decide +kernel
theorem dX3_delete_66 : decode cX3_delete 66 = .ok (.return_, 1) := by decide +kernel
set_option maxRecDepth 20000 in
theorem ggX3_copyFrom_X3_setRow : GoodIn wsX3_copyFrom wsX3_setRow := goodIn_r _ [9, 2, 3, 4, 10, 11, 12, 13] (by decide +kernel) (by decide +kernel)
set_option maxRecDepth 20000 in
theorem gX3_copyFrom_X3_setRow : GoodIn wsX3_copyFrom (wsV RX3 36 RX3 yX3_setRow wsX3_setRow) := goodIn_app (goodIn_of _ (by decide +kernel)) ggX3_copyFrom_X3_setRow
theorem dX3_copyFrom_0 : decode cX3_copyFrom 0 = .ok (.iconst 0, 1) := by decide +kernel
theorem dX3_copyFrom_1 : decode cX3_copyFrom 1 = .ok (.istore_n 2, 1) := by decide +kernel
theorem dX3_copyFrom_2 : decode cX3_copyFrom 2 = .ok (.iload_n 2, 1) := by decide +kernel
theorem dX3_copyFrom_3 : decode cX3_copyFrom 3 = .ok (.aload_n 1, 1) := by decide +kernel
theorem dX3_copyFrom_4 : decode cX3_copyFrom 4 = .ok (.getfield 21, 3) := by decide +kernel
theorem dX3_copyFrom_7 : decode cX3_copyFrom 7 = .ok (.if_icmp .ge 32, 3) := by decide +kernel
theorem dX3_copyFrom_10 : decode cX3_copyFrom 10 = .ok (.aload_n 0, 1) := by decide +kernel
theorem dX3_copyFrom_11 : decode cX3_copyFrom 11 = .ok (.iload_n 2, 1) := by decide +kernel
theorem dX3_copyFrom_12 : decode cX3_copyFrom 12 = .ok (.aload_n 1, 1) := by decide +kernel
theorem dX3_copyFrom_13 : decode cX3_copyFrom 13 = .ok (.getfield 9, 3) := by decide +kernel
theorem dX3_copyFrom_16 : decode cX3_copyFrom 16 = .ok (.iload_n 2, 1) := by decide +kernel
theorem dX3_copyFrom_17 : decode cX3_copyFrom 17 = .ok (.iaload, 1) := by decide +kernel
theorem dX3_copyFrom_18 : decode cX3_copyFrom 18 = .ok (.aload_n 1, 1) := by decide +kernel
theorem dX3_copyFrom_19 : decode cX3_copyFrom 19 = .ok (.getfield 15, 3) := by decide +kernel
theorem dX3_copyFrom_22 : decode cX3_copyFrom 22 = .ok (.iload_n 2, 1) := by decide +kernel
theorem dX3_copyFrom_23 : decode cX3_copyFrom 23 = .ok (.iaload, 1) := by decide +kernel
theorem dX3_copyFrom_24 : decode cX3_copyFrom 24 = .ok (.aload_n 1, 1) := by decide +kernel
theorem dX3_copyFrom_25 : decode cX3_copyFrom 25 = .ok (.getfield 18, 3) := by decide +kernel
theorem dX3_copyFrom_28 : decode cX3_copyFrom 28 = .ok (.iload_n 2, 1) := by decide +kernel
theorem dX3_copyFrom_29 : decode cX3_copyFrom 29 = .ok (.iaload, 1) := by decide +kernel
theorem dX3_copyFrom_30 : decode cX3_copyFrom 30 = .ok (.invokevirtual 36, 3) := by decide +kernel
theorem dX3_copyFrom_33 : decode cX3_copyFrom 33 = .ok (.iinc 2 1, 3) := by decide +kernel
theorem dX3_copyFrom_36 : decode cX3_copyFrom 36 = .ok (.goto (-34), 3) := by decide +kernel
theorem dX3_copyFrom_39 : decode cX3_copyFrom 39 = .ok (.aload_n 0, 1) := by decide +kernel
theorem dX3_copyFrom_40 : decode cX3_copyFrom 40 = .ok (.aload_n 1, 1) := by decide +kernel
theorem dX3_copyFrom_41 : decode cX3_copyFrom 41 = .ok (.getfield 21, 3) := by decide +kernel
theorem dX3_copyFrom_44 : decode cX3_copyFrom 44 = .ok (.putfield 21, 3) := by decide +kernel
theorem dX3_copyFrom_47 : decode cX3_copyFrom 47 = .ok (.return_, 1) := by decide +kernel
theorem dX3_isBefore_0 : decode cX3_isBefore 0 = .ok (.iload_n 1, 1) := by decide +kernel
theorem dX3_isBefore_1 : decode cX3_isBefore 1 = .ok (.aload_n 0, 1) := by decide +kernel
theorem dX3_isBefore_2 : decode cX3_isBefore 2 = .ok (.getfield 15, 3) := by decide +kernel
theorem dX3_isBefore_5 : decode cX3_isBefore 5 = .ok (.iload_n 3, 1) := by decide +kernel
theorem dX3_isBefore_6 : decode cX3_isBefore 6 = .ok (.iaload, 1) := by decide +kernel
theorem dX3_isBefore_7 : decode cX3_isBefore 7 = .ok (.if_icmp .lt 23, 3) := by decide +kernel
theorem dX3_isBefore_10 : decode cX3_isBefore 10 = .ok (.iload_n 1, 1) := by decide +kernel
theorem dX3_isBefore_11 : decode cX3_isBefore 11 = .ok (.aload_n 0, 1) := by decide +kernel
theorem dX3_isBefore_12 : decode cX3_isBefore 12 = .ok (.getfield 15, 3) := by decide +kernel
theorem dX3_isBefore_15 : decode cX3_isBefore 15 = .ok (.iload_n 3, 1) := by decide +kernel
theorem dX3_isBefore_16 : decode cX3_isBefore 16 = .ok (.iaload, 1) := by decide +kernel
theorem dX3_isBefore_17 : decode cX3_isBefore 17 = .ok (.if_icmp .ne 17, 3) := by decide +kernel
theorem dX3_isBefore_20 : decode cX3_isBefore 20 = .ok (.iload_n 2, 1) := by decide +kernel
theorem dX3_isBefore_21 : decode cX3_isBefore 21 = .ok (.aload_n 0, 1) := by decide +kernel
theorem dX3_isBefore_22 : decode cX3_isBefore 22 = .ok (.getfield 18, 3) := by decide +kernel
theorem dX3_isBefore_25 : decode cX3_isBefore 25 = .ok (.iload_n 3, 1) := by decide +kernel
theorem dX3_isBefore_26 : decode cX3_isBefore 26 = .ok (.iaload, 1) := by decide +kernel
theorem dX3_isBefore_27 : decode cX3_isBefore 27 = .ok (.if_icmp .ge 7, 3) := by decide +kernel
theorem dX3_isBefore_30 : decode cX3_isBefore 30 = .ok (.iconst 1, 1) := by decide +kernel
theorem dX3_isBefore_31 : decode cX3_isBefore 31 = .ok (.goto 4, 3) := by decide +kernel
theorem dX3_isBefore_34 : decode cX3_isBefore 34 = .ok (.iconst 0, 1) := by decide +kernel
theorem dX3_isBefore_35 : decode cX3_isBefore 35 = .ok (.ireturn, 1) := by decide +kernel
theorem dX3_setRow_0 : decode cX3_setRow 0 = .ok (.aload_n 0, 1) := by decide +kernel
theorem dX3_setRow_1 : decode cX3_setRow 1 = .ok (.getfield 9, 3) := by decide +kernel
theorem dX3_setRow_4 : decode cX3_setRow 4 = .ok (.iload_n 1, 1) := by decide +kernel
theorem dX3_setRow_5 : decode cX3_setRow 5 = .ok (.iload_n 2, 1) := by decide +kernel
theorem dX3_setRow_6 : decode cX3_setRow 6 = .ok (.iastore, 1) := by decide +kernel
theorem dX3_setRow_7 : decode cX3_setRow 7 = .ok (.aload_n 0, 1) := by decide +kernel
theorem dX3_setRow_8 : decode cX3_setRow 8 = .ok (.getfield 15, 3) := by decide +kernel
theorem dX3_setRow_11 : decode cX3_setRow 11 = .ok (.iload_n 1, 1) := by decide +kernel
theorem dX3_setRow_12 : decode cX3_setRow 12 = .ok (.iload_n 3, 1) := by decide +kernel
theorem dX3_setRow_13 : decode cX3_setRow 13 = .ok (.iastore, 1) := by decide +kernel
theorem dX3_setRow_14 : decode cX3_setRow 14 = .ok (.aload_n 0, 1) := by decide +kernel
theorem dX3_setRow_15 : decode cX3_setRow 15 = .ok (.getfield 18, 3) := by decide +kernel
theorem dX3_setRow_18 : decode cX3_setRow 18 = .ok (.iload_n 1, 1) := by decide +kernel
theorem dX3_setRow_19 : decode cX3_setRow 19 = .ok (.iload 4, 2) := by decide +kernel
theorem dX3_setRow_21 : decode cX3_setRow 21 = .ok (.iastore, 1) := by decide +kernel
theorem dX3_setRow_22 : decode cX3_setRow 22 = .ok (.return_, 1) := by decide +kernel
theorem dX3_turn_0 : decode cX3_turn 0 = .ok (.aload_n 0, 1) := by decide +kernel
theorem dX3_turn_1 : decode cX3_turn 1 = .ok (.getfield 15, 3) := by decide +kernel
theorem dX3_turn_4 : decode cX3_turn 4 = .ok (.iload_n 2, 1) := by decide +kernel
theorem dX3_turn_5 : decode cX3_turn 5 = .ok (.iaload, 1) := by decide +kernel
theorem dX3_turn_6 : decode cX3_turn 6 = .ok (.i2l, 1) := by decide +kernel
theorem dX3_turn_7 : decode cX3_turn 7 = .ok (.aload_n 0, 1) := by decide +kernel
theorem dX3_turn_8 : decode cX3_turn 8 = .ok (.getfield 15, 3) := by decide +kernel
theorem dX3_turn_11 : decode cX3_turn 11 = .ok (.iload_n 1, 1) := by decide +kernel
theorem dX3_turn_12 : decode cX3_turn 12 = .ok (.iaload, 1) := by decide +kernel
theorem dX3_turn_13 : decode cX3_turn 13 = .ok (.i2l, 1) := by decide +kernel
theorem dX3_turn_14 : decode cX3_turn 14 = .ok (.lsub, 1) := by decide +kernel
theorem dX3_turn_15 : decode cX3_turn 15 = .ok (.lstore 5, 2) := by decide +kernel
theorem dX3_turn_17 : decode cX3_turn 17 = .ok (.aload_n 0, 1) := by decide +kernel
theorem dX3_turn_18 : decode cX3_turn 18 = .ok (.getfield 18, 3) := by decide +kernel
theorem dX3_turn_21 : decode cX3_turn 21 = .ok (.iload_n 2, 1) := by decide +kernel
theorem dX3_turn_22 : decode cX3_turn 22 = .ok (.iaload, 1) := by decide +kernel
theorem dX3_turn_23 : decode cX3_turn 23 = .ok (.i2l, 1) := by decide +kernel
theorem dX3_turn_24 : decode cX3_turn 24 = .ok (.aload_n 0, 1) := by decide +kernel
theorem dX3_turn_25 : decode cX3_turn 25 = .ok (.getfield 18, 3) := by decide +kernel
theorem dX3_turn_28 : decode cX3_turn 28 = .ok (.iload_n 1, 1) := by decide +kernel
theorem dX3_turn_29 : decode cX3_turn 29 = .ok (.iaload, 1) := by decide +kernel
theorem dX3_turn_30 : decode cX3_turn 30 = .ok (.i2l, 1) := by decide +kernel
theorem dX3_turn_31 : decode cX3_turn 31 = .ok (.lsub, 1) := by decide +kernel
theorem dX3_turn_32 : decode cX3_turn 32 = .ok (.lstore 7, 2) := by decide +kernel
theorem dX3_turn_34 : decode cX3_turn 34 = .ok (.iload_n 3, 1) := by decide +kernel
theorem dX3_turn_35 : decode cX3_turn 35 = .ok (.i2l, 1) := by decide +kernel
theorem dX3_turn_36 : decode cX3_turn 36 = .ok (.aload_n 0, 1) := by decide +kernel
theorem dX3_turn_37 : decode cX3_turn 37 = .ok (.getfield 15, 3) := by decide +kernel
theorem dX3_turn_40 : decode cX3_turn 40 = .ok (.iload_n 1, 1) := by decide +kernel
theorem dX3_turn_41 : decode cX3_turn 41 = .ok (.iaload, 1) := by decide +kernel
theorem dX3_turn_42 : decode cX3_turn 42 = .ok (.i2l, 1) := by decide +kernel
theorem dX3_turn_43 : decode cX3_turn 43 = .ok (.lsub, 1) := by decide +kernel
theorem dX3_turn_44 : decode cX3_turn 44 = .ok (.lstore 9, 2) := by decide +kernel
theorem dX3_turn_46 : decode cX3_turn 46 = .ok (.iload 4, 2) := by decide +kernel
theorem dX3_turn_48 : decode cX3_turn 48 = .ok (.i2l, 1) := by decide +kernel
theorem dX3_turn_49 : decode cX3_turn 49 = .ok (.aload_n 0, 1) := by decide +kernel
theorem dX3_turn_50 : decode cX3_turn 50 = .ok (.getfield 18, 3) := by decide +kernel
theorem dX3_turn_53 : decode cX3_turn 53 = .ok (.iload_n 1, 1) := by decide +kernel
theorem dX3_turn_54 : decode cX3_turn 54 = .ok (.iaload, 1) := by decide +kernel
theorem dX3_turn_55 : decode cX3_turn 55 = .ok (.i2l, 1) := by decide +kernel
theorem dX3_turn_56 : decode cX3_turn 56 = .ok (.lsub, 1) := by decide +kernel
theorem dX3_turn_57 : decode cX3_turn 57 = .ok (.lstore 11, 2) := by decide +kernel
theorem dX3_turn_59 : decode cX3_turn 59 = .ok (.lload 5, 2) := by decide +kernel
theorem dX3_turn_61 : decode cX3_turn 61 = .ok (.lload 11, 2) := by decide +kernel
theorem dX3_turn_63 : decode cX3_turn 63 = .ok (.lmul, 1) := by decide +kernel
theorem dX3_turn_64 : decode cX3_turn 64 = .ok (.lload 7, 2) := by decide +kernel
theorem dX3_turn_66 : decode cX3_turn 66 = .ok (.lload 9, 2) := by decide +kernel
theorem dX3_turn_68 : decode cX3_turn 68 = .ok (.lmul, 1) := by decide +kernel
theorem dX3_turn_69 : decode cX3_turn 69 = .ok (.lsub, 1) := by decide +kernel
theorem dX3_turn_70 : decode cX3_turn 70 = .ok (.lreturn, 1) := by decide +kernel
theorem dX3_isBoxed_0 : decode cX3_isBoxed 0 = .ok (.iload_n 3, 1) := by decide +kernel
theorem dX3_isBoxed_1 : decode cX3_isBoxed 1 = .ok (.aload_n 0, 1) := by decide +kernel
theorem dX3_isBoxed_2 : decode cX3_isBoxed 2 = .ok (.getfield 15, 3) := by decide +kernel
theorem dX3_isBoxed_5 : decode cX3_isBoxed 5 = .ok (.iload_n 1, 1) := by decide +kernel
theorem dX3_isBoxed_6 : decode cX3_isBoxed 6 = .ok (.iaload, 1) := by decide +kernel
theorem dX3_isBoxed_7 : decode cX3_isBoxed 7 = .ok (.aload_n 0, 1) := by decide +kernel
theorem dX3_isBoxed_8 : decode cX3_isBoxed 8 = .ok (.getfield 15, 3) := by decide +kernel
theorem dX3_isBoxed_11 : decode cX3_isBoxed 11 = .ok (.iload_n 2, 1) := by decide +kernel
theorem dX3_isBoxed_12 : decode cX3_isBoxed 12 = .ok (.iaload, 1) := by decide +kernel
theorem dX3_isBoxed_13 : decode cX3_isBoxed 13 = .ok (.invokestatic 40, 3) := by decide +kernel
theorem dX3_isBoxed_16 : decode cX3_isBoxed 16 = .ok (.if_icmp .lt 66, 3) := by decide +kernel
theorem dX3_isBoxed_19 : decode cX3_isBoxed 19 = .ok (.iload_n 3, 1) := by decide +kernel
theorem dX3_isBoxed_20 : decode cX3_isBoxed 20 = .ok (.aload_n 0, 1) := by decide +kernel
theorem dX3_isBoxed_21 : decode cX3_isBoxed 21 = .ok (.getfield 15, 3) := by decide +kernel
theorem dX3_isBoxed_24 : decode cX3_isBoxed 24 = .ok (.iload_n 1, 1) := by decide +kernel
theorem dX3_isBoxed_25 : decode cX3_isBoxed 25 = .ok (.iaload, 1) := by decide +kernel
theorem dX3_isBoxed_26 : decode cX3_isBoxed 26 = .ok (.aload_n 0, 1) := by decide +kernel
theorem dX3_isBoxed_27 : decode cX3_isBoxed 27 = .ok (.getfield 15, 3) := by decide +kernel
theorem dX3_isBoxed_30 : decode cX3_isBoxed 30 = .ok (.iload_n 2, 1) := by decide +kernel
theorem dX3_isBoxed_31 : decode cX3_isBoxed 31 = .ok (.iaload, 1) := by decide +kernel
theorem dX3_isBoxed_32 : decode cX3_isBoxed 32 = .ok (.invokestatic 46, 3) := by decide +kernel
theorem dX3_isBoxed_35 : decode cX3_isBoxed 35 = .ok (.if_icmp .gt 47, 3) := by decide +kernel
theorem dX3_isBoxed_38 : decode cX3_isBoxed 38 = .ok (.iload 4, 2) := by decide +kernel
theorem dX3_isBoxed_40 : decode cX3_isBoxed 40 = .ok (.aload_n 0, 1) := by decide +kernel
theorem dX3_isBoxed_41 : decode cX3_isBoxed 41 = .ok (.getfield 18, 3) := by decide +kernel
theorem dX3_isBoxed_44 : decode cX3_isBoxed 44 = .ok (.iload_n 1, 1) := by decide +kernel
theorem dX3_isBoxed_45 : decode cX3_isBoxed 45 = .ok (.iaload, 1) := by decide +kernel
theorem dX3_isBoxed_46 : decode cX3_isBoxed 46 = .ok (.aload_n 0, 1) := by decide +kernel
theorem dX3_isBoxed_47 : decode cX3_isBoxed 47 = .ok (.getfield 18, 3) := by decide +kernel
theorem dX3_isBoxed_50 : decode cX3_isBoxed 50 = .ok (.iload_n 2, 1) := by decide +kernel
theorem dX3_isBoxed_51 : decode cX3_isBoxed 51 = .ok (.iaload, 1) := by decide +kernel
theorem dX3_isBoxed_52 : decode cX3_isBoxed 52 = .ok (.invokestatic 40, 3) := by decide +kernel
theorem dX3_isBoxed_55 : decode cX3_isBoxed 55 = .ok (.if_icmp .lt 27, 3) := by decide +kernel
theorem dX3_isBoxed_58 : decode cX3_isBoxed 58 = .ok (.iload 4, 2) := by decide +kernel
theorem dX3_isBoxed_60 : decode cX3_isBoxed 60 = .ok (.aload_n 0, 1) := by decide +kernel
theorem dX3_isBoxed_61 : decode cX3_isBoxed 61 = .ok (.getfield 18, 3) := by decide +kernel
theorem dX3_isBoxed_64 : decode cX3_isBoxed 64 = .ok (.iload_n 1, 1) := by decide +kernel
theorem dX3_isBoxed_65 : decode cX3_isBoxed 65 = .ok (.iaload, 1) := by decide +kernel
theorem dX3_isBoxed_66 : decode cX3_isBoxed 66 = .ok (.aload_n 0, 1) := by decide +kernel
theorem dX3_isBoxed_67 : decode cX3_isBoxed 67 = .ok (.getfield 18, 3) := by decide +kernel
theorem dX3_isBoxed_70 : decode cX3_isBoxed 70 = .ok (.iload_n 2, 1) := by decide +kernel
theorem dX3_isBoxed_71 : decode cX3_isBoxed 71 = .ok (.iaload, 1) := by decide +kernel
theorem dX3_isBoxed_72 : decode cX3_isBoxed 72 = .ok (.invokestatic 46, 3) := by decide +kernel
theorem dX3_isBoxed_75 : decode cX3_isBoxed 75 = .ok (.if_icmp .gt 7, 3) := by decide +kernel
theorem dX3_isBoxed_78 : decode cX3_isBoxed 78 = .ok (.iconst 1, 1) := by decide +kernel
theorem dX3_isBoxed_79 : decode cX3_isBoxed 79 = .ok (.goto 4, 3) := by decide +kernel
theorem dX3_isBoxed_82 : decode cX3_isBoxed 82 = .ok (.iconst 0, 1) := by decide +kernel
theorem dX3_isBoxed_83 : decode cX3_isBoxed 83 = .ok (.ireturn, 1) := by decide +kernel
theorem dX3_reach_0 : decode cX3_reach 0 = .ok (.iload_n 2, 1) := by decide +kernel
theorem dX3_reach_1 : decode cX3_reach 1 = .ok (.i2l, 1) := by decide +kernel
theorem dX3_reach_2 : decode cX3_reach 2 = .ok (.aload_n 0, 1) := by decide +kernel
theorem dX3_reach_3 : decode cX3_reach 3 = .ok (.getfield 15, 3) := by decide +kernel
theorem dX3_reach_6 : decode cX3_reach 6 = .ok (.iload_n 1, 1) := by decide +kernel
theorem dX3_reach_7 : decode cX3_reach 7 = .ok (.iaload, 1) := by decide +kernel
theorem dX3_reach_8 : decode cX3_reach 8 = .ok (.i2l, 1) := by decide +kernel
theorem dX3_reach_9 : decode cX3_reach 9 = .ok (.lmul, 1) := by decide +kernel
theorem dX3_reach_10 : decode cX3_reach 10 = .ok (.iload_n 3, 1) := by decide +kernel
theorem dX3_reach_11 : decode cX3_reach 11 = .ok (.i2l, 1) := by decide +kernel
theorem dX3_reach_12 : decode cX3_reach 12 = .ok (.aload_n 0, 1) := by decide +kernel
theorem dX3_reach_13 : decode cX3_reach 13 = .ok (.getfield 18, 3) := by decide +kernel
theorem dX3_reach_16 : decode cX3_reach 16 = .ok (.iload_n 1, 1) := by decide +kernel
theorem dX3_reach_17 : decode cX3_reach 17 = .ok (.iaload, 1) := by decide +kernel
theorem dX3_reach_18 : decode cX3_reach 18 = .ok (.i2l, 1) := by decide +kernel
theorem dX3_reach_19 : decode cX3_reach 19 = .ok (.lmul, 1) := by decide +kernel
theorem dX3_reach_20 : decode cX3_reach 20 = .ok (.ladd, 1) := by decide +kernel
theorem dX3_reach_21 : decode cX3_reach 21 = .ok (.lreturn, 1) := by decide +kernel
theorem dX3_squaredDistance_0 : decode cX3_squaredDistance 0 = .ok (.iload_n 2, 1) := by decide +kernel
theorem dX3_squaredDistance_1 : decode cX3_squaredDistance 1 = .ok (.i2l, 1) := by decide +kernel
theorem dX3_squaredDistance_2 : decode cX3_squaredDistance 2 = .ok (.aload_n 0, 1) := by decide +kernel
theorem dX3_squaredDistance_3 : decode cX3_squaredDistance 3 = .ok (.getfield 15, 3) := by decide +kernel
theorem dX3_squaredDistance_6 : decode cX3_squaredDistance 6 = .ok (.iload_n 1, 1) := by decide +kernel
theorem dX3_squaredDistance_7 : decode cX3_squaredDistance 7 = .ok (.iaload, 1) := by decide +kernel
theorem dX3_squaredDistance_8 : decode cX3_squaredDistance 8 = .ok (.i2l, 1) := by decide +kernel
theorem dX3_squaredDistance_9 : decode cX3_squaredDistance 9 = .ok (.lsub, 1) := by decide +kernel
theorem dX3_squaredDistance_10 : decode cX3_squaredDistance 10 = .ok (.lstore 4, 2) := by decide +kernel
theorem dX3_squaredDistance_12 : decode cX3_squaredDistance 12 = .ok (.iload_n 3, 1) := by decide +kernel
theorem dX3_squaredDistance_13 : decode cX3_squaredDistance 13 = .ok (.i2l, 1) := by decide +kernel
theorem dX3_squaredDistance_14 : decode cX3_squaredDistance 14 = .ok (.aload_n 0, 1) := by decide +kernel
theorem dX3_squaredDistance_15 : decode cX3_squaredDistance 15 = .ok (.getfield 18, 3) := by decide +kernel
theorem dX3_squaredDistance_18 : decode cX3_squaredDistance 18 = .ok (.iload_n 1, 1) := by decide +kernel
theorem dX3_squaredDistance_19 : decode cX3_squaredDistance 19 = .ok (.iaload, 1) := by decide +kernel
theorem dX3_squaredDistance_20 : decode cX3_squaredDistance 20 = .ok (.i2l, 1) := by decide +kernel
theorem dX3_squaredDistance_21 : decode cX3_squaredDistance 21 = .ok (.lsub, 1) := by decide +kernel
theorem dX3_squaredDistance_22 : decode cX3_squaredDistance 22 = .ok (.lstore 6, 2) := by decide +kernel
theorem dX3_squaredDistance_24 : decode cX3_squaredDistance 24 = .ok (.lload 4, 2) := by decide +kernel
theorem dX3_squaredDistance_26 : decode cX3_squaredDistance 26 = .ok (.lload 4, 2) := by decide +kernel
theorem dX3_squaredDistance_28 : decode cX3_squaredDistance 28 = .ok (.lmul, 1) := by decide +kernel
theorem dX3_squaredDistance_29 : decode cX3_squaredDistance 29 = .ok (.lload 6, 2) := by decide +kernel
theorem dX3_squaredDistance_31 : decode cX3_squaredDistance 31 = .ok (.lload 6, 2) := by decide +kernel
theorem dX3_squaredDistance_33 : decode cX3_squaredDistance 33 = .ok (.lmul, 1) := by decide +kernel
theorem dX3_squaredDistance_34 : decode cX3_squaredDistance 34 = .ok (.ladd, 1) := by decide +kernel
theorem dX3_squaredDistance_35 : decode cX3_squaredDistance 35 = .ok (.lreturn, 1) := by decide +kernel
set_option maxRecDepth 20000 in
theorem ggX4_init_X1_init : GoodIn wsX4_init wsX1_init := goodIn_r _ [3, 4, 5, 6, 7, 8, 9, 10, 11, 12, 13] (by decide +kernel) (by decide +kernel)
set_option maxRecDepth 20000 in
theorem gX4_init_X1_init_n3 : GoodIn wsX4_init (wsX1_init) := ggX4_init_X1_init
theorem dX4_init_0 : decode cX4_init 0 = .ok (.aload_n 0, 1) := by decide +kernel
theorem dX4_init_1 : decode cX4_init 1 = .ok (.invokespecial 3, 3) := by decide +kernel
theorem dX4_init_4 : decode cX4_init 4 = .ok (.return_, 1) := by decide +kernel
theorem dX4_clear_0 : decode cX4_clear 0 = .ok (.aload_n 0, 1) := by decide +kernel
theorem dX4_clear_1 : decode cX4_clear 1 = .ok (.iconst 0, 1) := by decide +kernel
theorem dX4_clear_2 : decode cX4_clear 2 = .ok (.putfield 9, 3) := by decide +kernel
theorem dX4_clear_5 : decode cX4_clear 5 = .ok (.return_, 1) := by decide +kernel
set_option maxRecDepth 20000 in
theorem ggX4_takeRightward_X4_takeOnce : GoodIn wsX4_takeRightward wsX4_takeOnce := goodIn_r _ [9, 10, 11, 12, 13, 14, 15, 16, 17, 18, 19, 20, 21, 22, 23, 24, 25, 26] (by decide +kernel) (by decide +kernel)
set_option maxRecDepth 20000 in
theorem gX4_takeRightward_X4_takeOnce : GoodIn wsX4_takeRightward (wsV RX4 22 RX4 yX4_takeOnce wsX4_takeOnce) := goodIn_app (goodIn_of _ (by decide +kernel)) ggX4_takeRightward_X4_takeOnce
theorem dX4_takeRightward_0 : decode cX4_takeRightward 0 = .ok (.iconst 0, 1) := by decide +kernel
theorem dX4_takeRightward_1 : decode cX4_takeRightward 1 = .ok (.istore_n 2, 1) := by decide +kernel
theorem dX4_takeRightward_2 : decode cX4_takeRightward 2 = .ok (.iload_n 2, 1) := by decide +kernel
theorem dX4_takeRightward_3 : decode cX4_takeRightward 3 = .ok (.aload_n 1, 1) := by decide +kernel
theorem dX4_takeRightward_4 : decode cX4_takeRightward 4 = .ok (.getfield 15, 3) := by decide +kernel
theorem dX4_takeRightward_7 : decode cX4_takeRightward 7 = .ok (.if_icmp .ge 19, 3) := by decide +kernel
theorem dX4_takeRightward_10 : decode cX4_takeRightward 10 = .ok (.aload_n 0, 1) := by decide +kernel
theorem dX4_takeRightward_11 : decode cX4_takeRightward 11 = .ok (.aload_n 1, 1) := by decide +kernel
theorem dX4_takeRightward_12 : decode cX4_takeRightward 12 = .ok (.getfield 18, 3) := by decide +kernel
theorem dX4_takeRightward_15 : decode cX4_takeRightward 15 = .ok (.iload_n 2, 1) := by decide +kernel
theorem dX4_takeRightward_16 : decode cX4_takeRightward 16 = .ok (.iaload, 1) := by decide +kernel
theorem dX4_takeRightward_17 : decode cX4_takeRightward 17 = .ok (.invokevirtual 22, 3) := by decide +kernel
theorem dX4_takeRightward_20 : decode cX4_takeRightward 20 = .ok (.iinc 2 1, 3) := by decide +kernel
theorem dX4_takeRightward_23 : decode cX4_takeRightward 23 = .ok (.goto (-21), 3) := by decide +kernel
theorem dX4_takeRightward_26 : decode cX4_takeRightward 26 = .ok (.return_, 1) := by decide +kernel
set_option maxRecDepth 20000 in
theorem ggX4_takeLeftward_X4_takeOnce : GoodIn wsX4_takeLeftward wsX4_takeOnce := goodIn_r _ [9, 10, 11, 12, 13, 14, 15, 16, 17, 18, 19, 20, 21, 22, 23, 24, 25, 26] (by decide +kernel) (by decide +kernel)
set_option maxRecDepth 20000 in
theorem gX4_takeLeftward_X4_takeOnce : GoodIn wsX4_takeLeftward (wsV RX4 22 RX4 yX4_takeOnce wsX4_takeOnce) := goodIn_app (goodIn_of _ (by decide +kernel)) ggX4_takeLeftward_X4_takeOnce
theorem dX4_takeLeftward_0 : decode cX4_takeLeftward 0 = .ok (.aload_n 1, 1) := by decide +kernel
theorem dX4_takeLeftward_1 : decode cX4_takeLeftward 1 = .ok (.getfield 15, 3) := by decide +kernel
theorem dX4_takeLeftward_4 : decode cX4_takeLeftward 4 = .ok (.iconst 1, 1) := by decide +kernel
theorem dX4_takeLeftward_5 : decode cX4_takeLeftward 5 = .ok (.isub, 1) := by decide +kernel
theorem dX4_takeLeftward_6 : decode cX4_takeLeftward 6 = .ok (.istore_n 2, 1) := by decide +kernel
theorem dX4_takeLeftward_7 : decode cX4_takeLeftward 7 = .ok (.iload_n 2, 1) := by decide +kernel
theorem dX4_takeLeftward_8 : decode cX4_takeLeftward 8 = .ok (.ifCond .lt 19, 3) := by decide +kernel
theorem dX4_takeLeftward_11 : decode cX4_takeLeftward 11 = .ok (.aload_n 0, 1) := by decide +kernel
theorem dX4_takeLeftward_12 : decode cX4_takeLeftward 12 = .ok (.aload_n 1, 1) := by decide +kernel
theorem dX4_takeLeftward_13 : decode cX4_takeLeftward 13 = .ok (.getfield 18, 3) := by decide +kernel
theorem dX4_takeLeftward_16 : decode cX4_takeLeftward 16 = .ok (.iload_n 2, 1) := by decide +kernel
theorem dX4_takeLeftward_17 : decode cX4_takeLeftward 17 = .ok (.iaload, 1) := by decide +kernel
theorem dX4_takeLeftward_18 : decode cX4_takeLeftward 18 = .ok (.invokevirtual 22, 3) := by decide +kernel
theorem dX4_takeLeftward_21 : decode cX4_takeLeftward 21 = .ok (.iinc 2 (-1), 3) := by decide +kernel
theorem dX4_takeLeftward_24 : decode cX4_takeLeftward 24 = .ok (.goto (-17), 3) := by decide +kernel
theorem dX4_takeLeftward_27 : decode cX4_takeLeftward 27 = .ok (.return_, 1) := by decide +kernel
set_option maxRecDepth 20000 in
theorem ggX4_takeOnce_X1_has : GoodIn wsX4_takeOnce wsX1_has := goodIn_r _ [6, 7, 8, 14, 15, 16, 17] (by decide +kernel) (by decide +kernel)
set_option maxRecDepth 20000 in
theorem gX4_takeOnce_X1_has_u26X4 : GoodIn wsX4_takeOnce (va_wsU RX4 26 RX4 "LiveHull$Corners" ⟨"LiveHull$Ring", "has", "(I)Z"⟩ yX1_has wsX1_has) := goodIn_app (goodIn_of _ (by decide +kernel)) ggX4_takeOnce_X1_has
set_option maxRecDepth 20000 in
theorem ggX4_takeOnce_X1_append : GoodIn wsX4_takeOnce wsX1_append := goodIn_r _ [13, 7, 8, 14, 15, 16, 17] (by decide +kernel) (by decide +kernel)
set_option maxRecDepth 20000 in
theorem gX4_takeOnce_X1_append_u30X4 : GoodIn wsX4_takeOnce (va_wsU RX4 30 RX4 "LiveHull$Corners" ⟨"LiveHull$Ring", "append", "(I)V"⟩ yX1_append wsX1_append) := goodIn_app (goodIn_of _ (by decide +kernel)) ggX4_takeOnce_X1_append
theorem dX4_takeOnce_0 : decode cX4_takeOnce 0 = .ok (.aload_n 0, 1) := by decide +kernel
theorem dX4_takeOnce_1 : decode cX4_takeOnce 1 = .ok (.iload_n 1, 1) := by decide +kernel
theorem dX4_takeOnce_2 : decode cX4_takeOnce 2 = .ok (.invokevirtual 26, 3) := by decide +kernel
theorem dX4_takeOnce_5 : decode cX4_takeOnce 5 = .ok (.ifCond .ne 8, 3) := by decide +kernel
theorem dX4_takeOnce_8 : decode cX4_takeOnce 8 = .ok (.aload_n 0, 1) := by decide +kernel
theorem dX4_takeOnce_9 : decode cX4_takeOnce 9 = .ok (.iload_n 1, 1) := by decide +kernel
theorem dX4_takeOnce_10 : decode cX4_takeOnce 10 = .ok (.invokevirtual 30, 3) := by decide +kernel
theorem dX4_takeOnce_13 : decode cX4_takeOnce 13 = .ok (.return_, 1) := by decide +kernel
set_option maxRecDepth 20000 in
theorem ggX4_farthest_X4_isFarther : GoodIn wsX4_farthest wsX4_isFarther := goodIn_r _ [8, 9, 10, 11, 12, 13, 14, 15, 20, 21, 22, 23] (by decide +kernel) (by decide +kernel)
set_option maxRecDepth 20000 in
theorem gX4_farthest_X4_isFarther : GoodIn wsX4_farthest (va_wsS RX4 34 yX4_isFarther wsX4_isFarther) := goodIn_app (goodIn_of _ (by decide +kernel)) ggX4_farthest_X4_isFarther
theorem dX4_farthest_0 : decode cX4_farthest 0 = .ok (.bipush (-6), 2) := by decide +kernel
theorem dX4_farthest_2 : decode cX4_farthest 2 = .ok (.istore 4, 2) := by decide +kernel
theorem dX4_farthest_4 : decode cX4_farthest 4 = .ok (.iconst 0, 1) := by decide +kernel
theorem dX4_farthest_5 : decode cX4_farthest 5 = .ok (.istore 5, 2) := by decide +kernel
theorem dX4_farthest_7 : decode cX4_farthest 7 = .ok (.iload 5, 2) := by decide +kernel
theorem dX4_farthest_9 : decode cX4_farthest 9 = .ok (.aload_n 0, 1) := by decide +kernel
theorem dX4_farthest_10 : decode cX4_farthest 10 = .ok (.getfield 9, 3) := by decide +kernel
theorem dX4_farthest_13 : decode cX4_farthest 13 = .ok (.if_icmp .ge 43, 3) := by decide +kernel
theorem dX4_farthest_16 : decode cX4_farthest 16 = .ok (.iload 4, 2) := by decide +kernel
theorem dX4_farthest_18 : decode cX4_farthest 18 = .ok (.bipush (-6), 2) := by decide +kernel
theorem dX4_farthest_20 : decode cX4_farthest 20 = .ok (.if_icmp .eq 21, 3) := by decide +kernel
theorem dX4_farthest_23 : decode cX4_farthest 23 = .ok (.aload_n 1, 1) := by decide +kernel
theorem dX4_farthest_24 : decode cX4_farthest 24 = .ok (.aload_n 0, 1) := by decide +kernel
theorem dX4_farthest_25 : decode cX4_farthest 25 = .ok (.getfield 33, 3) := by decide +kernel
theorem dX4_farthest_28 : decode cX4_farthest 28 = .ok (.iload 5, 2) := by decide +kernel
theorem dX4_farthest_30 : decode cX4_farthest 30 = .ok (.iaload, 1) := by decide +kernel
theorem dX4_farthest_31 : decode cX4_farthest 31 = .ok (.iload 4, 2) := by decide +kernel
theorem dX4_farthest_33 : decode cX4_farthest 33 = .ok (.iload_n 2, 1) := by decide +kernel
theorem dX4_farthest_34 : decode cX4_farthest 34 = .ok (.iload_n 3, 1) := by decide +kernel
theorem dX4_farthest_35 : decode cX4_farthest 35 = .ok (.invokestatic 34, 3) := by decide +kernel
theorem dX4_farthest_38 : decode cX4_farthest 38 = .ok (.ifCond .eq 12, 3) := by decide +kernel
theorem dX4_farthest_41 : decode cX4_farthest 41 = .ok (.aload_n 0, 1) := by decide +kernel
theorem dX4_farthest_42 : decode cX4_farthest 42 = .ok (.getfield 33, 3) := by decide +kernel
theorem dX4_farthest_45 : decode cX4_farthest 45 = .ok (.iload 5, 2) := by decide +kernel
theorem dX4_farthest_47 : decode cX4_farthest 47 = .ok (.iaload, 1) := by decide +kernel
theorem dX4_farthest_48 : decode cX4_farthest 48 = .ok (.istore 4, 2) := by decide +kernel
theorem dX4_farthest_50 : decode cX4_farthest 50 = .ok (.iinc 5 1, 3) := by decide +kernel
theorem dX4_farthest_53 : decode cX4_farthest 53 = .ok (.goto (-46), 3) := by decide +kernel
theorem dX4_farthest_56 : decode cX4_farthest 56 = .ok (.iload 4, 2) := by decide +kernel
theorem dX4_farthest_58 : decode cX4_farthest 58 = .ok (.ireturn, 1) := by decide +kernel
set_option maxRecDepth 20000 in
theorem ggX4_isFarther_X3_reach : GoodIn wsX4_isFarther wsX3_reach := goodIn_r _ [5, 6, 7, 8, 9, 10, 11] (by decide +kernel) (by decide +kernel)
set_option maxRecDepth 20000 in
theorem gX4_isFarther_X3_reach : GoodIn wsX4_isFarther (wsV RX4 38 RX3 yX3_reach wsX3_reach) := goodIn_app (goodIn_of _ (by decide +kernel)) ggX4_isFarther_X3_reach
theorem dX4_isFarther_0 : decode cX4_isFarther 0 = .ok (.aload_n 0, 1) := by decide +kernel
theorem dX4_isFarther_1 : decode cX4_isFarther 1 = .ok (.iload_n 1, 1) := by decide +kernel
theorem dX4_isFarther_2 : decode cX4_isFarther 2 = .ok (.iload_n 3, 1) := by decide +kernel
theorem dX4_isFarther_3 : decode cX4_isFarther 3 = .ok (.iload 4, 2) := by decide +kernel
theorem dX4_isFarther_5 : decode cX4_isFarther 5 = .ok (.invokevirtual 38, 3) := by decide +kernel
theorem dX4_isFarther_8 : decode cX4_isFarther 8 = .ok (.lstore 5, 2) := by decide +kernel
theorem dX4_isFarther_10 : decode cX4_isFarther 10 = .ok (.aload_n 0, 1) := by decide +kernel
theorem dX4_isFarther_11 : decode cX4_isFarther 11 = .ok (.iload_n 2, 1) := by decide +kernel
theorem dX4_isFarther_12 : decode cX4_isFarther 12 = .ok (.iload_n 3, 1) := by decide +kernel
theorem dX4_isFarther_13 : decode cX4_isFarther 13 = .ok (.iload 4, 2) := by decide +kernel
theorem dX4_isFarther_15 : decode cX4_isFarther 15 = .ok (.invokevirtual 38, 3) := by decide +kernel
theorem dX4_isFarther_18 : decode cX4_isFarther 18 = .ok (.lstore 7, 2) := by decide +kernel
theorem dX4_isFarther_20 : decode cX4_isFarther 20 = .ok (.lload 5, 2) := by decide +kernel
theorem dX4_isFarther_22 : decode cX4_isFarther 22 = .ok (.lload 7, 2) := by decide +kernel
theorem dX4_isFarther_24 : decode cX4_isFarther 24 = .ok (.lcmp, 1) := by decide +kernel
theorem dX4_isFarther_25 : decode cX4_isFarther 25 = .ok (.ifCond .gt 16, 3) := by decide +kernel
theorem dX4_isFarther_28 : decode cX4_isFarther 28 = .ok (.lload 5, 2) := by decide +kernel
theorem dX4_isFarther_30 : decode cX4_isFarther 30 = .ok (.lload 7, 2) := by decide +kernel
theorem dX4_isFarther_32 : decode cX4_isFarther 32 = .ok (.lcmp, 1) := by decide +kernel
theorem dX4_isFarther_33 : decode cX4_isFarther 33 = .ok (.ifCond .ne 12, 3) := by decide +kernel
theorem dX4_isFarther_36 : decode cX4_isFarther 36 = .ok (.iload_n 1, 1) := by decide +kernel
theorem dX4_isFarther_37 : decode cX4_isFarther 37 = .ok (.iload_n 2, 1) := by decide +kernel
theorem dX4_isFarther_38 : decode cX4_isFarther 38 = .ok (.if_icmp .ge 7, 3) := by decide +kernel
theorem dX4_isFarther_41 : decode cX4_isFarther 41 = .ok (.iconst 1, 1) := by decide +kernel
theorem dX4_isFarther_42 : decode cX4_isFarther 42 = .ok (.goto 4, 3) := by decide +kernel
theorem dX4_isFarther_45 : decode cX4_isFarther 45 = .ok (.iconst 0, 1) := by decide +kernel
theorem dX4_isFarther_46 : decode cX4_isFarther 46 = .ok (.ireturn, 1) := by decide +kernel
set_option maxRecDepth 20000 in
theorem ggX4_locate_X4_isAtCorner : GoodIn wsX4_locate wsX4_isAtCorner := goodIn_r _ [9, 1, 2, 3, 4, 10, 11, 12, 13, 14, 15, 16, 32, 33, 34, 35, 36, 37, 38, 39] (by decide +kernel) (by decide +kernel)
set_option maxRecDepth 20000 in
theorem gX4_locate_X4_isAtCorner : GoodIn wsX4_locate (wsV RX4 44 RX4 yX4_isAtCorner wsX4_isAtCorner) := goodIn_app (goodIn_of _ (by decide +kernel)) ggX4_locate_X4_isAtCorner
set_option maxRecDepth 20000 in
theorem ggX4_locate_X3_turn : GoodIn wsX4_locate wsX3_turn := goodIn_r _ [20, 15, 16, 36, 37, 38, 39] (by decide +kernel) (by decide +kernel)
set_option maxRecDepth 20000 in
theorem gX4_locate_X3_turn : GoodIn wsX4_locate (wsV RX4 48 RX3 yX3_turn wsX3_turn) := goodIn_app (goodIn_of _ (by decide +kernel)) ggX4_locate_X3_turn
set_option maxRecDepth 20000 in
theorem ggX4_locate_X3_isBoxed : GoodIn wsX4_locate wsX3_isBoxed := goodIn_r _ [24, 15, 25, 26, 27, 28, 29, 30, 31, 16, 36, 37, 38, 39] (by decide +kernel) (by decide +kernel)
set_option maxRecDepth 20000 in
theorem gX4_locate_X3_isBoxed : GoodIn wsX4_locate (wsV RX4 52 RX3 yX3_isBoxed wsX3_isBoxed) := goodIn_app (goodIn_of _ (by decide +kernel)) ggX4_locate_X3_isBoxed
theorem dX4_locate_0 : decode cX4_locate 0 = .ok (.aload_n 0, 1) := by decide +kernel
theorem dX4_locate_1 : decode cX4_locate 1 = .ok (.aload_n 1, 1) := by decide +kernel
theorem dX4_locate_2 : decode cX4_locate 2 = .ok (.iload_n 2, 1) := by decide +kernel
theorem dX4_locate_3 : decode cX4_locate 3 = .ok (.iload_n 3, 1) := by decide +kernel
theorem dX4_locate_4 : decode cX4_locate 4 = .ok (.invokevirtual 44, 3) := by decide +kernel
theorem dX4_locate_7 : decode cX4_locate 7 = .ok (.ifCond .eq 5, 3) := by decide +kernel
theorem dX4_locate_10 : decode cX4_locate 10 = .ok (.iconst 1, 1) := by decide +kernel
theorem dX4_locate_11 : decode cX4_locate 11 = .ok (.ireturn, 1) := by decide +kernel
theorem dX4_locate_12 : decode cX4_locate 12 = .ok (.iconst 0, 1) := by decide +kernel
theorem dX4_locate_13 : decode cX4_locate 13 = .ok (.istore 4, 2) := by decide +kernel
theorem dX4_locate_15 : decode cX4_locate 15 = .ok (.iload 4, 2) := by decide +kernel
theorem dX4_locate_17 : decode cX4_locate 17 = .ok (.aload_n 0, 1) := by decide +kernel
theorem dX4_locate_18 : decode cX4_locate 18 = .ok (.getfield 9, 3) := by decide +kernel
theorem dX4_locate_21 : decode cX4_locate 21 = .ok (.if_icmp .ge 96, 3) := by decide +kernel
theorem dX4_locate_24 : decode cX4_locate 24 = .ok (.aload_n 0, 1) := by decide +kernel
theorem dX4_locate_25 : decode cX4_locate 25 = .ok (.getfield 33, 3) := by decide +kernel
theorem dX4_locate_28 : decode cX4_locate 28 = .ok (.iload 4, 2) := by decide +kernel
theorem dX4_locate_30 : decode cX4_locate 30 = .ok (.iaload, 1) := by decide +kernel
theorem dX4_locate_31 : decode cX4_locate 31 = .ok (.istore 5, 2) := by decide +kernel
theorem dX4_locate_33 : decode cX4_locate 33 = .ok (.iload 4, 2) := by decide +kernel
theorem dX4_locate_35 : decode cX4_locate 35 = .ok (.iconst 1, 1) := by decide +kernel
theorem dX4_locate_36 : decode cX4_locate 36 = .ok (.iadd, 1) := by decide +kernel
theorem dX4_locate_37 : decode cX4_locate 37 = .ok (.aload_n 0, 1) := by decide +kernel
theorem dX4_locate_38 : decode cX4_locate 38 = .ok (.getfield 9, 3) := by decide +kernel
theorem dX4_locate_41 : decode cX4_locate 41 = .ok (.if_icmp .ge 15, 3) := by decide +kernel
theorem dX4_locate_44 : decode cX4_locate 44 = .ok (.aload_n 0, 1) := by decide +kernel
theorem dX4_locate_45 : decode cX4_locate 45 = .ok (.getfield 33, 3) := by decide +kernel
theorem dX4_locate_48 : decode cX4_locate 48 = .ok (.iload 4, 2) := by decide +kernel
theorem dX4_locate_50 : decode cX4_locate 50 = .ok (.iconst 1, 1) := by decide +kernel
theorem dX4_locate_51 : decode cX4_locate 51 = .ok (.iadd, 1) := by decide +kernel
theorem dX4_locate_52 : decode cX4_locate 52 = .ok (.iaload, 1) := by decide +kernel
theorem dX4_locate_53 : decode cX4_locate 53 = .ok (.goto 9, 3) := by decide +kernel
theorem dX4_locate_56 : decode cX4_locate 56 = .ok (.aload_n 0, 1) := by decide +kernel
theorem dX4_locate_57 : decode cX4_locate 57 = .ok (.getfield 33, 3) := by decide +kernel
theorem dX4_locate_60 : decode cX4_locate 60 = .ok (.iconst 0, 1) := by decide +kernel
theorem dX4_locate_61 : decode cX4_locate 61 = .ok (.iaload, 1) := by decide +kernel
theorem dX4_locate_62 : decode cX4_locate 62 = .ok (.istore 6, 2) := by decide +kernel
theorem dX4_locate_64 : decode cX4_locate 64 = .ok (.aload_n 1, 1) := by decide +kernel
theorem dX4_locate_65 : decode cX4_locate 65 = .ok (.iload 5, 2) := by decide +kernel
theorem dX4_locate_67 : decode cX4_locate 67 = .ok (.iload 6, 2) := by decide +kernel
theorem dX4_locate_69 : decode cX4_locate 69 = .ok (.iload_n 2, 1) := by decide +kernel
theorem dX4_locate_70 : decode cX4_locate 70 = .ok (.iload_n 3, 1) := by decide +kernel
theorem dX4_locate_71 : decode cX4_locate 71 = .ok (.invokevirtual 48, 3) := by decide +kernel
theorem dX4_locate_74 : decode cX4_locate 74 = .ok (.lstore 7, 2) := by decide +kernel
theorem dX4_locate_76 : decode cX4_locate 76 = .ok (.lload 7, 2) := by decide +kernel
theorem dX4_locate_78 : decode cX4_locate 78 = .ok (.lconst 0, 1) := by decide +kernel
theorem dX4_locate_79 : decode cX4_locate 79 = .ok (.lcmp, 1) := by decide +kernel
theorem dX4_locate_80 : decode cX4_locate 80 = .ok (.ifCond .ge 5, 3) := by decide +kernel
theorem dX4_locate_83 : decode cX4_locate 83 = .ok (.iconst 0, 1) := by decide +kernel
theorem dX4_locate_84 : decode cX4_locate 84 = .ok (.ireturn, 1) := by decide +kernel
theorem dX4_locate_85 : decode cX4_locate 85 = .ok (.lload 7, 2) := by decide +kernel
theorem dX4_locate_87 : decode cX4_locate 87 = .ok (.lconst 0, 1) := by decide +kernel
theorem dX4_locate_88 : decode cX4_locate 88 = .ok (.lcmp, 1) := by decide +kernel
theorem dX4_locate_89 : decode cX4_locate 89 = .ok (.ifCond .ne 22, 3) := by decide +kernel
theorem dX4_locate_92 : decode cX4_locate 92 = .ok (.aload_n 1, 1) := by decide +kernel
theorem dX4_locate_93 : decode cX4_locate 93 = .ok (.iload 5, 2) := by decide +kernel
theorem dX4_locate_95 : decode cX4_locate 95 = .ok (.iload 6, 2) := by decide +kernel
theorem dX4_locate_97 : decode cX4_locate 97 = .ok (.iload_n 2, 1) := by decide +kernel
theorem dX4_locate_98 : decode cX4_locate 98 = .ok (.iload_n 3, 1) := by decide +kernel
theorem dX4_locate_99 : decode cX4_locate 99 = .ok (.invokevirtual 52, 3) := by decide +kernel
theorem dX4_locate_102 : decode cX4_locate 102 = .ok (.ifCond .eq 7, 3) := by decide +kernel
theorem dX4_locate_105 : decode cX4_locate 105 = .ok (.iconst 2, 1) := by decide +kernel
theorem dX4_locate_106 : decode cX4_locate 106 = .ok (.goto 4, 3) := by decide +kernel
theorem dX4_locate_109 : decode cX4_locate 109 = .ok (.iconst 0, 1) := by decide +kernel
theorem dX4_locate_110 : decode cX4_locate 110 = .ok (.ireturn, 1) := by decide +kernel
theorem dX4_locate_111 : decode cX4_locate 111 = .ok (.iinc 4 1, 3) := by decide +kernel
theorem dX4_locate_114 : decode cX4_locate 114 = .ok (.goto (-99), 3) := by decide +kernel
theorem dX4_locate_117 : decode cX4_locate 117 = .ok (.aload_n 0, 1) := by decide +kernel
theorem dX4_locate_118 : decode cX4_locate 118 = .ok (.getfield 9, 3) := by decide +kernel
theorem dX4_locate_121 : decode cX4_locate 121 = .ok (.ifCond .ne 7, 3) := by decide +kernel
theorem dX4_locate_124 : decode cX4_locate 124 = .ok (.iconst 0, 1) := by decide +kernel
theorem dX4_locate_125 : decode cX4_locate 125 = .ok (.goto 4, 3) := by decide +kernel
theorem dX4_locate_128 : decode cX4_locate 128 = .ok (.iconst 3, 1) := by decide +kernel
theorem dX4_locate_129 : decode cX4_locate 129 = .ok (.ireturn, 1) := by decide +kernel
set_option maxRecDepth 20000 in
theorem ggX4_isAtCorner_X3_isAt : GoodIn wsX4_isAtCorner wsX3_isAt := goodIn_r _ [9, 10, 11, 16, 17, 18, 19] (by decide +kernel) (by decide +kernel)
set_option maxRecDepth 20000 in
theorem gX4_isAtCorner_X3_isAt : GoodIn wsX4_isAtCorner (wsV RX4 56 RX3 yX3_isAt wsX3_isAt) := goodIn_app (goodIn_of _ (by decide +kernel)) ggX4_isAtCorner_X3_isAt
theorem dX4_isAtCorner_0 : decode cX4_isAtCorner 0 = .ok (.iconst 0, 1) := by decide +kernel
theorem dX4_isAtCorner_1 : decode cX4_isAtCorner 1 = .ok (.istore 4, 2) := by decide +kernel
theorem dX4_isAtCorner_3 : decode cX4_isAtCorner 3 = .ok (.iload 4, 2) := by decide +kernel
theorem dX4_isAtCorner_5 : decode cX4_isAtCorner 5 = .ok (.aload_n 0, 1) := by decide +kernel
theorem dX4_isAtCorner_6 : decode cX4_isAtCorner 6 = .ok (.getfield 9, 3) := by decide +kernel
theorem dX4_isAtCorner_9 : decode cX4_isAtCorner 9 = .ok (.if_icmp .ge 27, 3) := by decide +kernel
theorem dX4_isAtCorner_12 : decode cX4_isAtCorner 12 = .ok (.aload_n 1, 1) := by decide +kernel
theorem dX4_isAtCorner_13 : decode cX4_isAtCorner 13 = .ok (.aload_n 0, 1) := by decide +kernel
theorem dX4_isAtCorner_14 : decode cX4_isAtCorner 14 = .ok (.getfield 33, 3) := by decide +kernel
theorem dX4_isAtCorner_17 : decode cX4_isAtCorner 17 = .ok (.iload 4, 2) := by decide +kernel
theorem dX4_isAtCorner_19 : decode cX4_isAtCorner 19 = .ok (.iaload, 1) := by decide +kernel
theorem dX4_isAtCorner_20 : decode cX4_isAtCorner 20 = .ok (.iload_n 2, 1) := by decide +kernel
theorem dX4_isAtCorner_21 : decode cX4_isAtCorner 21 = .ok (.iload_n 3, 1) := by decide +kernel
theorem dX4_isAtCorner_22 : decode cX4_isAtCorner 22 = .ok (.invokevirtual 56, 3) := by decide +kernel
theorem dX4_isAtCorner_25 : decode cX4_isAtCorner 25 = .ok (.ifCond .eq 5, 3) := by decide +kernel
theorem dX4_isAtCorner_28 : decode cX4_isAtCorner 28 = .ok (.iconst 1, 1) := by decide +kernel
theorem dX4_isAtCorner_29 : decode cX4_isAtCorner 29 = .ok (.ireturn, 1) := by decide +kernel
theorem dX4_isAtCorner_30 : decode cX4_isAtCorner 30 = .ok (.iinc 4 1, 3) := by decide +kernel
theorem dX4_isAtCorner_33 : decode cX4_isAtCorner 33 = .ok (.goto (-30), 3) := by decide +kernel
theorem dX4_isAtCorner_36 : decode cX4_isAtCorner 36 = .ok (.iconst 0, 1) := by decide +kernel
theorem dX4_isAtCorner_37 : decode cX4_isAtCorner 37 = .ok (.ireturn, 1) := by decide +kernel
set_option maxRecDepth 20000 in
theorem ggX4_nearestTouching_X4_isTouching : GoodIn wsX4_nearestTouching wsX4_isTouching := goodIn_r _ [9, 1, 2, 3, 4, 10, 11, 12, 13, 14, 15, 16, 24, 25, 26, 27, 28, 29, 30, 31] (by decide +kernel) (by decide +kernel)
set_option maxRecDepth 20000 in
theorem gX4_nearestTouching_X4_isTouching : GoodIn wsX4_nearestTouching (wsV RX4 60 RX4 yX4_isTouching wsX4_isTouching) := goodIn_app (goodIn_of _ (by decide +kernel)) ggX4_nearestTouching_X4_isTouching
set_option maxRecDepth 20000 in
theorem ggX4_nearestTouching_X4_isNearer : GoodIn wsX4_nearestTouching wsX4_isNearer := goodIn_r _ [19, 20, 21, 22, 13, 23, 15, 16, 28, 29, 30, 31] (by decide +kernel) (by decide +kernel)
set_option maxRecDepth 20000 in
theorem gX4_nearestTouching_X4_isNearer : GoodIn wsX4_nearestTouching (va_wsS RX4 63 yX4_isNearer wsX4_isNearer) := goodIn_app (goodIn_of _ (by decide +kernel)) ggX4_nearestTouching_X4_isNearer
theorem dX4_nearestTouching_0 : decode cX4_nearestTouching 0 = .ok (.bipush (-6), 2) := by decide +kernel
theorem dX4_nearestTouching_2 : decode cX4_nearestTouching 2 = .ok (.istore 5, 2) := by decide +kernel
theorem dX4_nearestTouching_4 : decode cX4_nearestTouching 4 = .ok (.iconst 0, 1) := by decide +kernel
theorem dX4_nearestTouching_5 : decode cX4_nearestTouching 5 = .ok (.istore 6, 2) := by decide +kernel
theorem dX4_nearestTouching_7 : decode cX4_nearestTouching 7 = .ok (.iload 6, 2) := by decide +kernel
theorem dX4_nearestTouching_9 : decode cX4_nearestTouching 9 = .ok (.aload_n 0, 1) := by decide +kernel
theorem dX4_nearestTouching_10 : decode cX4_nearestTouching 10 = .ok (.getfield 9, 3) := by decide +kernel
theorem dX4_nearestTouching_13 : decode cX4_nearestTouching 13 = .ok (.if_icmp .ge 56, 3) := by decide +kernel
theorem dX4_nearestTouching_16 : decode cX4_nearestTouching 16 = .ok (.aload_n 0, 1) := by decide +kernel
theorem dX4_nearestTouching_17 : decode cX4_nearestTouching 17 = .ok (.getfield 33, 3) := by decide +kernel
theorem dX4_nearestTouching_20 : decode cX4_nearestTouching 20 = .ok (.iload 6, 2) := by decide +kernel
theorem dX4_nearestTouching_22 : decode cX4_nearestTouching 22 = .ok (.iaload, 1) := by decide +kernel
theorem dX4_nearestTouching_23 : decode cX4_nearestTouching 23 = .ok (.istore 7, 2) := by decide +kernel
theorem dX4_nearestTouching_25 : decode cX4_nearestTouching 25 = .ok (.aload_n 0, 1) := by decide +kernel
theorem dX4_nearestTouching_26 : decode cX4_nearestTouching 26 = .ok (.aload_n 1, 1) := by decide +kernel
theorem dX4_nearestTouching_27 : decode cX4_nearestTouching 27 = .ok (.iload 7, 2) := by decide +kernel
theorem dX4_nearestTouching_29 : decode cX4_nearestTouching 29 = .ok (.iload_n 2, 1) := by decide +kernel
theorem dX4_nearestTouching_30 : decode cX4_nearestTouching 30 = .ok (.iload_n 3, 1) := by decide +kernel
theorem dX4_nearestTouching_31 : decode cX4_nearestTouching 31 = .ok (.iload 4, 2) := by decide +kernel
theorem dX4_nearestTouching_33 : decode cX4_nearestTouching 33 = .ok (.invokevirtual 60, 3) := by decide +kernel
theorem dX4_nearestTouching_36 : decode cX4_nearestTouching 36 = .ok (.ifCond .eq 27, 3) := by decide +kernel
theorem dX4_nearestTouching_39 : decode cX4_nearestTouching 39 = .ok (.iload 5, 2) := by decide +kernel
theorem dX4_nearestTouching_41 : decode cX4_nearestTouching 41 = .ok (.bipush (-6), 2) := by decide +kernel
theorem dX4_nearestTouching_43 : decode cX4_nearestTouching 43 = .ok (.if_icmp .eq 16, 3) := by decide +kernel
theorem dX4_nearestTouching_46 : decode cX4_nearestTouching 46 = .ok (.aload_n 1, 1) := by decide +kernel
theorem dX4_nearestTouching_47 : decode cX4_nearestTouching 47 = .ok (.iload 7, 2) := by decide +kernel
theorem dX4_nearestTouching_49 : decode cX4_nearestTouching 49 = .ok (.iload 5, 2) := by decide +kernel
theorem dX4_nearestTouching_51 : decode cX4_nearestTouching 51 = .ok (.iload_n 2, 1) := by decide +kernel
theorem dX4_nearestTouching_52 : decode cX4_nearestTouching 52 = .ok (.iload_n 3, 1) := by decide +kernel
theorem dX4_nearestTouching_53 : decode cX4_nearestTouching 53 = .ok (.invokestatic 63, 3) := by decide +kernel
theorem dX4_nearestTouching_56 : decode cX4_nearestTouching 56 = .ok (.ifCond .eq 7, 3) := by decide +kernel
theorem dX4_nearestTouching_59 : decode cX4_nearestTouching 59 = .ok (.iload 7, 2) := by decide +kernel
theorem dX4_nearestTouching_61 : decode cX4_nearestTouching 61 = .ok (.istore 5, 2) := by decide +kernel
theorem dX4_nearestTouching_63 : decode cX4_nearestTouching 63 = .ok (.iinc 6 1, 3) := by decide +kernel
theorem dX4_nearestTouching_66 : decode cX4_nearestTouching 66 = .ok (.goto (-59), 3) := by decide +kernel
theorem dX4_nearestTouching_69 : decode cX4_nearestTouching 69 = .ok (.iload 5, 2) := by decide +kernel
theorem dX4_nearestTouching_71 : decode cX4_nearestTouching 71 = .ok (.ireturn, 1) := by decide +kernel
set_option maxRecDepth 20000 in
theorem ggX4_isTouching_X3_turn : GoodIn wsX4_isTouching wsX3_turn := goodIn_r _ [9, 10, 11, 16, 17, 18, 19] (by decide +kernel) (by decide +kernel)
set_option maxRecDepth 20000 in
theorem gX4_isTouching_X3_turn : GoodIn wsX4_isTouching (wsV RX4 48 RX3 yX3_turn wsX3_turn) := goodIn_app (goodIn_of _ (by decide +kernel)) ggX4_isTouching_X3_turn
theorem dX4_isTouching_0 : decode cX4_isTouching 0 = .ok (.iconst 0, 1) := by decide +kernel
theorem dX4_isTouching_1 : decode cX4_isTouching 1 = .ok (.istore 6, 2) := by decide +kernel
theorem dX4_isTouching_3 : decode cX4_isTouching 3 = .ok (.iload 6, 2) := by decide +kernel
theorem dX4_isTouching_5 : decode cX4_isTouching 5 = .ok (.aload_n 0, 1) := by decide +kernel
theorem dX4_isTouching_6 : decode cX4_isTouching 6 = .ok (.getfield 9, 3) := by decide +kernel
theorem dX4_isTouching_9 : decode cX4_isTouching 9 = .ok (.if_icmp .ge 50, 3) := by decide +kernel
theorem dX4_isTouching_12 : decode cX4_isTouching 12 = .ok (.aload_n 1, 1) := by decide +kernel
theorem dX4_isTouching_13 : decode cX4_isTouching 13 = .ok (.iload_n 2, 1) := by decide +kernel
theorem dX4_isTouching_14 : decode cX4_isTouching 14 = .ok (.aload_n 0, 1) := by decide +kernel
theorem dX4_isTouching_15 : decode cX4_isTouching 15 = .ok (.getfield 33, 3) := by decide +kernel
theorem dX4_isTouching_18 : decode cX4_isTouching 18 = .ok (.iload 6, 2) := by decide +kernel
theorem dX4_isTouching_20 : decode cX4_isTouching 20 = .ok (.iaload, 1) := by decide +kernel
theorem dX4_isTouching_21 : decode cX4_isTouching 21 = .ok (.iload_n 3, 1) := by decide +kernel
theorem dX4_isTouching_22 : decode cX4_isTouching 22 = .ok (.iload 4, 2) := by decide +kernel
theorem dX4_isTouching_24 : decode cX4_isTouching 24 = .ok (.invokevirtual 48, 3) := by decide +kernel
theorem dX4_isTouching_27 : decode cX4_isTouching 27 = .ok (.lstore 7, 2) := by decide +kernel
theorem dX4_isTouching_29 : decode cX4_isTouching 29 = .ok (.iload 5, 2) := by decide +kernel
theorem dX4_isTouching_31 : decode cX4_isTouching 31 = .ok (.ifCond .ne 13, 3) := by decide +kernel
theorem dX4_isTouching_34 : decode cX4_isTouching 34 = .ok (.lload 7, 2) := by decide +kernel
theorem dX4_isTouching_36 : decode cX4_isTouching 36 = .ok (.lconst 0, 1) := by decide +kernel
theorem dX4_isTouching_37 : decode cX4_isTouching 37 = .ok (.lcmp, 1) := by decide +kernel
theorem dX4_isTouching_38 : decode cX4_isTouching 38 = .ok (.ifCond .ge 15, 3) := by decide +kernel
theorem dX4_isTouching_41 : decode cX4_isTouching 41 = .ok (.goto 10, 3) := by decide +kernel
theorem dX4_isTouching_44 : decode cX4_isTouching 44 = .ok (.lload 7, 2) := by decide +kernel
theorem dX4_isTouching_46 : decode cX4_isTouching 46 = .ok (.lconst 0, 1) := by decide +kernel
theorem dX4_isTouching_47 : decode cX4_isTouching 47 = .ok (.lcmp, 1) := by decide +kernel
theorem dX4_isTouching_48 : decode cX4_isTouching 48 = .ok (.ifCond .le 5, 3) := by decide +kernel
theorem dX4_isTouching_51 : decode cX4_isTouching 51 = .ok (.iconst 0, 1) := by decide +kernel
theorem dX4_isTouching_52 : decode cX4_isTouching 52 = .ok (.ireturn, 1) := by decide +kernel
theorem dX4_isTouching_53 : decode cX4_isTouching 53 = .ok (.iinc 6 1, 3) := by decide +kernel
theorem dX4_isTouching_56 : decode cX4_isTouching 56 = .ok (.goto (-53), 3) := by decide +kernel
theorem dX4_isTouching_59 : decode cX4_isTouching 59 = .ok (.iconst 1, 1) := by decide +kernel
theorem dX4_isTouching_60 : decode cX4_isTouching 60 = .ok (.ireturn, 1) := by decide +kernel
set_option maxRecDepth 20000 in
theorem ggX4_isNearer_X3_squaredDistance : GoodIn wsX4_isNearer wsX3_squaredDistance := goodIn_r _ [5, 6, 7, 8, 9, 10, 11] (by decide +kernel) (by decide +kernel)
set_option maxRecDepth 20000 in
theorem gX4_isNearer_X3_squaredDistance : GoodIn wsX4_isNearer (wsV RX4 66 RX3 yX3_squaredDistance wsX3_squaredDistance) := goodIn_app (goodIn_of _ (by decide +kernel)) ggX4_isNearer_X3_squaredDistance
theorem dX4_isNearer_0 : decode cX4_isNearer 0 = .ok (.aload_n 0, 1) := by decide +kernel
theorem dX4_isNearer_1 : decode cX4_isNearer 1 = .ok (.iload_n 1, 1) := by decide +kernel
theorem dX4_isNearer_2 : decode cX4_isNearer 2 = .ok (.iload_n 3, 1) := by decide +kernel
theorem dX4_isNearer_3 : decode cX4_isNearer 3 = .ok (.iload 4, 2) := by decide +kernel
theorem dX4_isNearer_5 : decode cX4_isNearer 5 = .ok (.invokevirtual 66, 3) := by decide +kernel
theorem dX4_isNearer_8 : decode cX4_isNearer 8 = .ok (.aload_n 0, 1) := by decide +kernel
theorem dX4_isNearer_9 : decode cX4_isNearer 9 = .ok (.iload_n 2, 1) := by decide +kernel
theorem dX4_isNearer_10 : decode cX4_isNearer 10 = .ok (.iload_n 3, 1) := by decide +kernel
theorem dX4_isNearer_11 : decode cX4_isNearer 11 = .ok (.iload 4, 2) := by decide +kernel
theorem dX4_isNearer_13 : decode cX4_isNearer 13 = .ok (.invokevirtual 66, 3) := by decide +kernel
theorem dX4_isNearer_16 : decode cX4_isNearer 16 = .ok (.lcmp, 1) := by decide +kernel
theorem dX4_isNearer_17 : decode cX4_isNearer 17 = .ok (.ifCond .ge 7, 3) := by decide +kernel
theorem dX4_isNearer_20 : decode cX4_isNearer 20 = .ok (.iconst 1, 1) := by decide +kernel
theorem dX4_isNearer_21 : decode cX4_isNearer 21 = .ok (.goto 4, 3) := by decide +kernel
theorem dX4_isNearer_24 : decode cX4_isNearer 24 = .ok (.iconst 0, 1) := by decide +kernel
theorem dX4_isNearer_25 : decode cX4_isNearer 25 = .ok (.ireturn, 1) := by decide +kernel
set_option maxRecDepth 20000 in
theorem ggX4_doubleArea_X3_turn : GoodIn wsX4_doubleArea wsX3_turn := goodIn_r _ [11, 12, 13, 18, 19, 20, 21] (by decide +kernel) (by decide +kernel)
set_option maxRecDepth 20000 in
theorem gX4_doubleArea_X3_turn : GoodIn wsX4_doubleArea (wsV RX4 48 RX3 yX3_turn wsX3_turn) := goodIn_app (goodIn_of _ (by decide +kernel)) ggX4_doubleArea_X3_turn
theorem dX4_doubleArea_0 : decode cX4_doubleArea 0 = .ok (.lconst 0, 1) := by decide +kernel
theorem dX4_doubleArea_1 : decode cX4_doubleArea 1 = .ok (.lstore_n 2, 1) := by decide +kernel
theorem dX4_doubleArea_2 : decode cX4_doubleArea 2 = .ok (.iconst 1, 1) := by decide +kernel
theorem dX4_doubleArea_3 : decode cX4_doubleArea 3 = .ok (.istore 4, 2) := by decide +kernel
theorem dX4_doubleArea_5 : decode cX4_doubleArea 5 = .ok (.iload 4, 2) := by decide +kernel
theorem dX4_doubleArea_7 : decode cX4_doubleArea 7 = .ok (.iconst 1, 1) := by decide +kernel
theorem dX4_doubleArea_8 : decode cX4_doubleArea 8 = .ok (.iadd, 1) := by decide +kernel
theorem dX4_doubleArea_9 : decode cX4_doubleArea 9 = .ok (.aload_n 0, 1) := by decide +kernel
theorem dX4_doubleArea_10 : decode cX4_doubleArea 10 = .ok (.getfield 9, 3) := by decide +kernel
theorem dX4_doubleArea_13 : decode cX4_doubleArea 13 = .ok (.if_icmp .ge 54, 3) := by decide +kernel
theorem dX4_doubleArea_16 : decode cX4_doubleArea 16 = .ok (.aload_n 0, 1) := by decide +kernel
theorem dX4_doubleArea_17 : decode cX4_doubleArea 17 = .ok (.getfield 33, 3) := by decide +kernel
theorem dX4_doubleArea_20 : decode cX4_doubleArea 20 = .ok (.iload 4, 2) := by decide +kernel
theorem dX4_doubleArea_22 : decode cX4_doubleArea 22 = .ok (.iconst 1, 1) := by decide +kernel
theorem dX4_doubleArea_23 : decode cX4_doubleArea 23 = .ok (.iadd, 1) := by decide +kernel
theorem dX4_doubleArea_24 : decode cX4_doubleArea 24 = .ok (.iaload, 1) := by decide +kernel
theorem dX4_doubleArea_25 : decode cX4_doubleArea 25 = .ok (.istore 5, 2) := by decide +kernel
theorem dX4_doubleArea_27 : decode cX4_doubleArea 27 = .ok (.lload_n 2, 1) := by decide +kernel
theorem dX4_doubleArea_28 : decode cX4_doubleArea 28 = .ok (.aload_n 1, 1) := by decide +kernel
theorem dX4_doubleArea_29 : decode cX4_doubleArea 29 = .ok (.aload_n 0, 1) := by decide +kernel
theorem dX4_doubleArea_30 : decode cX4_doubleArea 30 = .ok (.getfield 33, 3) := by decide +kernel
theorem dX4_doubleArea_33 : decode cX4_doubleArea 33 = .ok (.iconst 0, 1) := by decide +kernel
theorem dX4_doubleArea_34 : decode cX4_doubleArea 34 = .ok (.iaload, 1) := by decide +kernel
theorem dX4_doubleArea_35 : decode cX4_doubleArea 35 = .ok (.aload_n 0, 1) := by decide +kernel
theorem dX4_doubleArea_36 : decode cX4_doubleArea 36 = .ok (.getfield 33, 3) := by decide +kernel
theorem dX4_doubleArea_39 : decode cX4_doubleArea 39 = .ok (.iload 4, 2) := by decide +kernel
theorem dX4_doubleArea_41 : decode cX4_doubleArea 41 = .ok (.iaload, 1) := by decide +kernel
theorem dX4_doubleArea_42 : decode cX4_doubleArea 42 = .ok (.aload_n 1, 1) := by decide +kernel
theorem dX4_doubleArea_43 : decode cX4_doubleArea 43 = .ok (.getfield 69, 3) := by decide +kernel
theorem dX4_doubleArea_46 : decode cX4_doubleArea 46 = .ok (.iload 5, 2) := by decide +kernel
theorem dX4_doubleArea_48 : decode cX4_doubleArea 48 = .ok (.iaload, 1) := by decide +kernel
theorem dX4_doubleArea_49 : decode cX4_doubleArea 49 = .ok (.aload_n 1, 1) := by decide +kernel
theorem dX4_doubleArea_50 : decode cX4_doubleArea 50 = .ok (.getfield 72, 3) := by decide +kernel
theorem dX4_doubleArea_53 : decode cX4_doubleArea 53 = .ok (.iload 5, 2) := by decide +kernel
theorem dX4_doubleArea_55 : decode cX4_doubleArea 55 = .ok (.iaload, 1) := by decide +kernel
theorem dX4_doubleArea_56 : decode cX4_doubleArea 56 = .ok (.invokevirtual 48, 3) := by decide +kernel
theorem dX4_doubleArea_59 : decode cX4_doubleArea 59 = .ok (.ladd, 1) := by decide +kernel
theorem dX4_doubleArea_60 : decode cX4_doubleArea 60 = .ok (.lstore_n 2, 1) := by decide +kernel
theorem dX4_doubleArea_61 : decode cX4_doubleArea 61 = .ok (.iinc 4 1, 3) := by decide +kernel
theorem dX4_doubleArea_64 : decode cX4_doubleArea 64 = .ok (.goto (-59), 3) := by decide +kernel
theorem dX4_doubleArea_67 : decode cX4_doubleArea 67 = .ok (.lload_n 2, 1) := by decide +kernel
theorem dX4_doubleArea_68 : decode cX4_doubleArea 68 = .ok (.lreturn, 1) := by decide +kernel
set_option maxRecDepth 20000 in
theorem ggX5_init_X3_init : GoodIn wsX5_init wsX3_init := goodIn_r _ [25, 26, 2, 3, 27, 28, 29, 30, 31, 47, 48, 49, 50] (by decide +kernel) (by decide +kernel)
set_option maxRecDepth 20000 in
theorem gX5_init_X3_init_n9 : GoodIn wsX5_init (wsX3_init) := ggX5_init_X3_init
set_option maxRecDepth 20000 in
theorem ggX5_init_X2_init : GoodIn wsX5_init wsX2_init := goodIn_r _ [33, 34, 2, 3, 27, 35, 36, 58, 59] (by decide +kernel) (by decide +kernel)
set_option maxRecDepth 20000 in
theorem gX5_init_X2_init_n18 : GoodIn wsX5_init (wsX2_init) := ggX5_init_X2_init
set_option maxRecDepth 20000 in
theorem ggX5_init_X0_init : GoodIn wsX5_init wsX0_init := goodIn_r _ [38, 39, 40, 41, 42, 2, 3, 27, 43, 44, 60, 61, 62, 63] (by decide +kernel) (by decide +kernel)
set_option maxRecDepth 20000 in
theorem gX5_init_X0_init_n25 : GoodIn wsX5_init (wsX0_init) := ggX5_init_X0_init
set_option maxRecDepth 20000 in
theorem ggX5_init_X4_init : GoodIn wsX5_init wsX4_init := goodIn_r _ [46, 39, 40, 41, 42, 2, 3, 27, 43, 44, 60, 61, 62, 63] (by decide +kernel) (by decide +kernel)
set_option maxRecDepth 20000 in
theorem gX5_init_X4_init_n35 : GoodIn wsX5_init (wsX4_init) := ggX5_init_X4_init
theorem dX5_init_0 : decode cX5_init 0 = .ok (.aload_n 0, 1) := by decide +kernel
theorem dX5_init_1 : decode cX5_init 1 = .ok (.invokespecial 1, 3) := by decide +kernel
theorem dX5_init_4 : decode cX5_init 4 = .ok (.aload_n 0, 1) := by decide +kernel
theorem dX5_init_5 : decode cX5_init 5 = .ok (.new 7, 3) := by decide +kernel
theorem dX5_init_8 : decode cX5_init 8 = .ok (.dup, 1) := by decide +kernel
theorem dX5_init_9 : decode cX5_init 9 = .ok (.invokespecial 9, 3) := by decide +kernel
theorem dX5_init_12 : decode cX5_init 12 = .ok (.putfield 10, 3) := by decide +kernel
theorem dX5_init_15 : decode cX5_init 15 = .ok (.aload_n 0, 1) := by decide +kernel
theorem dX5_init_16 : decode cX5_init 16 = .ok (.new 16, 3) := by decide +kernel
theorem dX5_init_19 : decode cX5_init 19 = .ok (.dup, 1) := by decide +kernel
theorem dX5_init_20 : decode cX5_init 20 = .ok (.invokespecial 18, 3) := by decide +kernel
theorem dX5_init_23 : decode cX5_init 23 = .ok (.putfield 19, 3) := by decide +kernel
theorem dX5_init_26 : decode cX5_init 26 = .ok (.aload_n 0, 1) := by decide +kernel
theorem dX5_init_27 : decode cX5_init 27 = .ok (.new 23, 3) := by decide +kernel
theorem dX5_init_30 : decode cX5_init 30 = .ok (.dup, 1) := by decide +kernel
theorem dX5_init_31 : decode cX5_init 31 = .ok (.invokespecial 25, 3) := by decide +kernel
theorem dX5_init_34 : decode cX5_init 34 = .ok (.putfield 26, 3) := by decide +kernel
theorem dX5_init_37 : decode cX5_init 37 = .ok (.aload_n 0, 1) := by decide +kernel
theorem dX5_init_38 : decode cX5_init 38 = .ok (.new 23, 3) := by decide +kernel
theorem dX5_init_41 : decode cX5_init 41 = .ok (.dup, 1) := by decide +kernel
theorem dX5_init_42 : decode cX5_init 42 = .ok (.invokespecial 25, 3) := by decide +kernel
theorem dX5_init_45 : decode cX5_init 45 = .ok (.putfield 30, 3) := by decide +kernel
theorem dX5_init_48 : decode cX5_init 48 = .ok (.aload_n 0, 1) := by decide +kernel
theorem dX5_init_49 : decode cX5_init 49 = .ok (.new 33, 3) := by decide +kernel
theorem dX5_init_52 : decode cX5_init 52 = .ok (.dup, 1) := by decide +kernel
theorem dX5_init_53 : decode cX5_init 53 = .ok (.invokespecial 35, 3) := by decide +kernel
theorem dX5_init_56 : decode cX5_init 56 = .ok (.putfield 36, 3) := by decide +kernel
theorem dX5_init_59 : decode cX5_init 59 = .ok (.aload_n 0, 1) := by decide +kernel
theorem dX5_init_60 : decode cX5_init 60 = .ok (.iconst 2, 1) := by decide +kernel
theorem dX5_init_61 : decode cX5_init 61 = .ok (.anewarray 7, 3) := by decide +kernel
theorem dX5_init_64 : decode cX5_init 64 = .ok (.dup, 1) := by decide +kernel
theorem dX5_init_65 : decode cX5_init 65 = .ok (.iconst 0, 1) := by decide +kernel
theorem dX5_init_66 : decode cX5_init 66 = .ok (.new 7, 3) := by decide +kernel
theorem dX5_init_69 : decode cX5_init 69 = .ok (.dup, 1) := by decide +kernel
theorem dX5_init_70 : decode cX5_init 70 = .ok (.invokespecial 9, 3) := by decide +kernel
theorem dX5_init_73 : decode cX5_init 73 = .ok (.aastore, 1) := by decide +kernel
theorem dX5_init_74 : decode cX5_init 74 = .ok (.dup, 1) := by decide +kernel
theorem dX5_init_75 : decode cX5_init 75 = .ok (.iconst 1, 1) := by decide +kernel
theorem dX5_init_76 : decode cX5_init 76 = .ok (.new 7, 3) := by decide +kernel
theorem dX5_init_79 : decode cX5_init 79 = .ok (.dup, 1) := by decide +kernel
theorem dX5_init_80 : decode cX5_init 80 = .ok (.invokespecial 9, 3) := by decide +kernel
theorem dX5_init_83 : decode cX5_init 83 = .ok (.aastore, 1) := by decide +kernel
theorem dX5_init_84 : decode cX5_init 84 = .ok (.putfield 40, 3) := by decide +kernel
theorem dX5_init_87 : decode cX5_init 87 = .ok (.aload_n 0, 1) := by decide +kernel
theorem dX5_init_88 : decode cX5_init 88 = .ok (.iconst 2, 1) := by decide +kernel
theorem dX5_init_89 : decode cX5_init 89 = .ok (.newarray .boolean, 2) := by decide +kernel
theorem dX5_init_91 : decode cX5_init 91 = .ok (.putfield 44, 3) := by decide +kernel
theorem dX5_init_94 : decode cX5_init 94 = .ok (.return_, 1) := by decide +kernel
set_option maxRecDepth 20000 in
theorem ggX5_add_X5_isPlace : GoodIn wsX5_add wsX5_isPlace := goodIn_r _ [7, 8, 9] (by decide +kernel) (by decide +kernel)
set_option maxRecDepth 20000 in
theorem gX5_add_X5_isPlace : GoodIn wsX5_add (va_wsS RX5 48 yX5_isPlace wsX5_isPlace) := goodIn_app (goodIn_of _ (by decide +kernel)) ggX5_add_X5_isPlace
set_option maxRecDepth 20000 in
theorem ggX5_add_X3_isTaken : GoodIn wsX5_add wsX3_isTaken := goodIn_r _ [14, 15, 16, 17, 18, 13, 19, 20, 21, 61, 62, 63, 64] (by decide +kernel) (by decide +kernel)
set_option maxRecDepth 20000 in
theorem gX5_add_X3_isTaken : GoodIn wsX5_add (wsV RX5 52 RX3 yX3_isTaken wsX3_isTaken) := goodIn_app (goodIn_of _ (by decide +kernel)) ggX5_add_X3_isTaken
set_option maxRecDepth 20000 in
theorem ggX5_add_X3_leastFreeId : GoodIn wsX5_add wsX3_leastFreeId := goodIn_r _ [25, 26, 27, 28, 13, 29, 15, 30, 61, 62, 63, 64] (by decide +kernel) (by decide +kernel)
set_option maxRecDepth 20000 in
theorem gX5_add_X3_leastFreeId : GoodIn wsX5_add (wsV RX5 55 RX3 yX3_leastFreeId wsX3_leastFreeId) := goodIn_app (goodIn_of _ (by decide +kernel)) ggX5_add_X3_leastFreeId
set_option maxRecDepth 20000 in
theorem ggX5_add_X3_insert : GoodIn wsX5_add wsX3_insert := goodIn_r _ [34, 15, 30, 20, 21, 35, 36, 37, 13, 38, 39, 40, 41, 42, 61, 62, 63, 64] (by decide +kernel) (by decide +kernel)
set_option maxRecDepth 20000 in
theorem gX5_add_X3_insert : GoodIn wsX5_add (wsV RX5 59 RX3 yX3_insert wsX3_insert) := goodIn_app (goodIn_of _ (by decide +kernel)) ggX5_add_X3_insert
set_option maxRecDepth 20000 in
theorem ggX5_add_X2_split : GoodIn wsX5_add wsX2_split := goodIn_r _ [47, 48, 49, 50, 51, 52, 46, 53, 65, 66] (by decide +kernel) (by decide +kernel)
set_option maxRecDepth 20000 in
theorem gX5_add_X2_split : GoodIn wsX5_add (wsV RX5 67 RX2 yX2_split wsX2_split) := goodIn_app (goodIn_of _ (by decide +kernel)) ggX5_add_X2_split
theorem dX5_add_0 : decode cX5_add 0 = .ok (.iload_n 1, 1) := by decide +kernel
theorem dX5_add_1 : decode cX5_add 1 = .ok (.iload_n 2, 1) := by decide +kernel
theorem dX5_add_2 : decode cX5_add 2 = .ok (.invokestatic 48, 3) := by decide +kernel
theorem dX5_add_5 : decode cX5_add 5 = .ok (.ifCond .ne 6, 3) := by decide +kernel
theorem dX5_add_8 : decode cX5_add 8 = .ok (.bipush (-2), 2) := by decide +kernel
theorem dX5_add_10 : decode cX5_add 10 = .ok (.ireturn, 1) := by decide +kernel
theorem dX5_add_11 : decode cX5_add 11 = .ok (.aload_n 0, 1) := by decide +kernel
theorem dX5_add_12 : decode cX5_add 12 = .ok (.getfield 10, 3) := by decide +kernel
theorem dX5_add_15 : decode cX5_add 15 = .ok (.iload_n 1, 1) := by decide +kernel
theorem dX5_add_16 : decode cX5_add 16 = .ok (.iload_n 2, 1) := by decide +kernel
theorem dX5_add_17 : decode cX5_add 17 = .ok (.invokevirtual 52, 3) := by decide +kernel
theorem dX5_add_20 : decode cX5_add 20 = .ok (.ifCond .eq 6, 3) := by decide +kernel
theorem dX5_add_23 : decode cX5_add 23 = .ok (.bipush (-5), 2) := by decide +kernel
theorem dX5_add_25 : decode cX5_add 25 = .ok (.ireturn, 1) := by decide +kernel
theorem dX5_add_26 : decode cX5_add 26 = .ok (.aload_n 0, 1) := by decide +kernel
theorem dX5_add_27 : decode cX5_add 27 = .ok (.getfield 10, 3) := by decide +kernel
theorem dX5_add_30 : decode cX5_add 30 = .ok (.invokevirtual 55, 3) := by decide +kernel
theorem dX5_add_33 : decode cX5_add 33 = .ok (.istore_n 3, 1) := by decide +kernel
theorem dX5_add_34 : decode cX5_add 34 = .ok (.iload_n 3, 1) := by decide +kernel
theorem dX5_add_35 : decode cX5_add 35 = .ok (.bipush (-6), 2) := by decide +kernel
theorem dX5_add_37 : decode cX5_add 37 = .ok (.if_icmp .ne 6, 3) := by decide +kernel
theorem dX5_add_40 : decode cX5_add 40 = .ok (.bipush (-4), 2) := by decide +kernel
theorem dX5_add_42 : decode cX5_add 42 = .ok (.ireturn, 1) := by decide +kernel
theorem dX5_add_43 : decode cX5_add 43 = .ok (.aload_n 0, 1) := by decide +kernel
theorem dX5_add_44 : decode cX5_add 44 = .ok (.getfield 10, 3) := by decide +kernel
theorem dX5_add_47 : decode cX5_add 47 = .ok (.iload_n 3, 1) := by decide +kernel
theorem dX5_add_48 : decode cX5_add 48 = .ok (.iload_n 1, 1) := by decide +kernel
theorem dX5_add_49 : decode cX5_add 49 = .ok (.iload_n 2, 1) := by decide +kernel
theorem dX5_add_50 : decode cX5_add 50 = .ok (.invokevirtual 59, 3) := by decide +kernel
theorem dX5_add_53 : decode cX5_add 53 = .ok (.aload_n 0, 1) := by decide +kernel
theorem dX5_add_54 : decode cX5_add 54 = .ok (.getfield 19, 3) := by decide +kernel
theorem dX5_add_57 : decode cX5_add 57 = .ok (.aload_n 0, 1) := by decide +kernel
theorem dX5_add_58 : decode cX5_add 58 = .ok (.getfield 10, 3) := by decide +kernel
theorem dX5_add_61 : decode cX5_add 61 = .ok (.getfield 63, 3) := by decide +kernel
theorem dX5_add_64 : decode cX5_add 64 = .ok (.invokevirtual 67, 3) := by decide +kernel
theorem dX5_add_67 : decode cX5_add 67 = .ok (.iload_n 3, 1) := by decide +kernel
theorem dX5_add_68 : decode cX5_add 68 = .ok (.ireturn, 1) := by decide +kernel
set_option maxRecDepth 20000 in
theorem ggX5_remove_X3_rankOf : GoodIn wsX5_remove wsX3_rankOf := goodIn_r _ [8, 9, 10, 39, 40, 41, 42] (by decide +kernel) (by decide +kernel)
set_option maxRecDepth 20000 in
theorem gX5_remove_X3_rankOf : GoodIn wsX5_remove (wsV RX5 71 RX3 yX3_rankOf wsX3_rankOf) := goodIn_app (goodIn_of _ (by decide +kernel)) ggX5_remove_X3_rankOf
set_option maxRecDepth 20000 in
theorem ggX5_remove_X3_delete : GoodIn wsX5_remove wsX3_delete := goodIn_r _ [14, 9, 10, 15, 16, 17, 18, 19, 7, 20, 39, 40, 41, 42] (by decide +kernel) (by decide +kernel)
set_option maxRecDepth 20000 in
theorem gX5_remove_X3_delete : GoodIn wsX5_remove (wsV RX5 75 RX3 yX3_delete wsX3_delete) := goodIn_app (goodIn_of _ (by decide +kernel)) ggX5_remove_X3_delete
set_option maxRecDepth 20000 in
theorem ggX5_remove_X2_split : GoodIn wsX5_remove wsX2_split := goodIn_r _ [25, 26, 27, 28, 29, 30, 24, 31, 43, 44] (by decide +kernel) (by decide +kernel)
set_option maxRecDepth 20000 in
theorem gX5_remove_X2_split : GoodIn wsX5_remove (wsV RX5 67 RX2 yX2_split wsX2_split) := goodIn_app (goodIn_of _ (by decide +kernel)) ggX5_remove_X2_split
theorem dX5_remove_0 : decode cX5_remove 0 = .ok (.aload_n 0, 1) := by decide +kernel
theorem dX5_remove_1 : decode cX5_remove 1 = .ok (.getfield 10, 3) := by decide +kernel
theorem dX5_remove_4 : decode cX5_remove 4 = .ok (.iload_n 1, 1) := by decide +kernel
theorem dX5_remove_5 : decode cX5_remove 5 = .ok (.invokevirtual 71, 3) := by decide +kernel
theorem dX5_remove_8 : decode cX5_remove 8 = .ok (.istore_n 2, 1) := by decide +kernel
theorem dX5_remove_9 : decode cX5_remove 9 = .ok (.iload_n 2, 1) := by decide +kernel
theorem dX5_remove_10 : decode cX5_remove 10 = .ok (.bipush (-6), 2) := by decide +kernel
theorem dX5_remove_12 : decode cX5_remove 12 = .ok (.if_icmp .ne 5, 3) := by decide +kernel
theorem dX5_remove_15 : decode cX5_remove 15 = .ok (.iconst (-1), 1) := by decide +kernel
theorem dX5_remove_16 : decode cX5_remove 16 = .ok (.ireturn, 1) := by decide +kernel
theorem dX5_remove_17 : decode cX5_remove 17 = .ok (.aload_n 0, 1) := by decide +kernel
theorem dX5_remove_18 : decode cX5_remove 18 = .ok (.getfield 10, 3) := by decide +kernel
theorem dX5_remove_21 : decode cX5_remove 21 = .ok (.iload_n 2, 1) := by decide +kernel
theorem dX5_remove_22 : decode cX5_remove 22 = .ok (.invokevirtual 75, 3) := by decide +kernel
theorem dX5_remove_25 : decode cX5_remove 25 = .ok (.aload_n 0, 1) := by decide +kernel
theorem dX5_remove_26 : decode cX5_remove 26 = .ok (.getfield 19, 3) := by decide +kernel
theorem dX5_remove_29 : decode cX5_remove 29 = .ok (.aload_n 0, 1) := by decide +kernel
theorem dX5_remove_30 : decode cX5_remove 30 = .ok (.getfield 10, 3) := by decide +kernel
theorem dX5_remove_33 : decode cX5_remove 33 = .ok (.getfield 63, 3) := by decide +kernel
theorem dX5_remove_36 : decode cX5_remove 36 = .ok (.invokevirtual 67, 3) := by decide +kernel
theorem dX5_remove_39 : decode cX5_remove 39 = .ok (.aload_n 0, 1) := by decide +kernel
theorem dX5_remove_40 : decode cX5_remove 40 = .ok (.getfield 10, 3) := by decide +kernel
theorem dX5_remove_43 : decode cX5_remove 43 = .ok (.getfield 63, 3) := by decide +kernel
theorem dX5_remove_46 : decode cX5_remove 46 = .ok (.ireturn, 1) := by decide +kernel
set_option maxRecDepth 20000 in
theorem ggX5_move_X3_rankOf : GoodIn wsX5_move wsX3_rankOf := goodIn_r _ [6, 7, 8, 48, 49, 50, 51] (by decide +kernel) (by decide +kernel)
set_option maxRecDepth 20000 in
theorem gX5_move_X3_rankOf : GoodIn wsX5_move (wsV RX5 71 RX3 yX3_rankOf wsX3_rankOf) := goodIn_app (goodIn_of _ (by decide +kernel)) ggX5_move_X3_rankOf
set_option maxRecDepth 20000 in
theorem ggX5_move_X5_isPlace : GoodIn wsX5_move wsX5_isPlace := goodIn_r _ [12, 13, 14] (by decide +kernel) (by decide +kernel)
set_option maxRecDepth 20000 in
theorem gX5_move_X5_isPlace : GoodIn wsX5_move (va_wsS RX5 48 yX5_isPlace wsX5_isPlace) := goodIn_app (goodIn_of _ (by decide +kernel)) ggX5_move_X5_isPlace
set_option maxRecDepth 20000 in
theorem ggX5_move_X3_isTaken : GoodIn wsX5_move wsX3_isTaken := goodIn_r _ [18, 7, 19, 20, 21, 5, 22, 23, 24, 48, 49, 50, 51] (by decide +kernel) (by decide +kernel)
set_option maxRecDepth 20000 in
theorem gX5_move_X3_isTaken : GoodIn wsX5_move (wsV RX5 52 RX3 yX3_isTaken wsX3_isTaken) := goodIn_app (goodIn_of _ (by decide +kernel)) ggX5_move_X3_isTaken
set_option maxRecDepth 20000 in
theorem ggX5_move_X3_delete : GoodIn wsX5_move wsX3_delete := goodIn_r _ [28, 7, 8, 23, 24, 29, 30, 31, 5, 32, 48, 49, 50, 51] (by decide +kernel) (by decide +kernel)
set_option maxRecDepth 20000 in
theorem gX5_move_X3_delete : GoodIn wsX5_move (wsV RX5 75 RX3 yX3_delete wsX3_delete) := goodIn_app (goodIn_of _ (by decide +kernel)) ggX5_move_X3_delete
set_option maxRecDepth 20000 in
theorem ggX5_move_X3_insert : GoodIn wsX5_move wsX3_insert := goodIn_r _ [36, 7, 8, 23, 24, 37, 38, 39, 5, 40, 29, 30, 31, 32, 48, 49, 50, 51] (by decide +kernel) (by decide +kernel)
set_option maxRecDepth 20000 in
theorem gX5_move_X3_insert : GoodIn wsX5_move (wsV RX5 59 RX3 yX3_insert wsX3_insert) := goodIn_app (goodIn_of _ (by decide +kernel)) ggX5_move_X3_insert
theorem dX5_move_0 : decode cX5_move 0 = .ok (.aload_n 0, 1) := by decide +kernel
theorem dX5_move_1 : decode cX5_move 1 = .ok (.getfield 10, 3) := by decide +kernel
theorem dX5_move_4 : decode cX5_move 4 = .ok (.iload_n 1, 1) := by decide +kernel
theorem dX5_move_5 : decode cX5_move 5 = .ok (.invokevirtual 71, 3) := by decide +kernel
theorem dX5_move_8 : decode cX5_move 8 = .ok (.istore 4, 2) := by decide +kernel
theorem dX5_move_10 : decode cX5_move 10 = .ok (.iload 4, 2) := by decide +kernel
theorem dX5_move_12 : decode cX5_move 12 = .ok (.bipush (-6), 2) := by decide +kernel
theorem dX5_move_14 : decode cX5_move 14 = .ok (.if_icmp .ne 5, 3) := by decide +kernel
theorem dX5_move_17 : decode cX5_move 17 = .ok (.iconst (-1), 1) := by decide +kernel
theorem dX5_move_18 : decode cX5_move 18 = .ok (.ireturn, 1) := by decide +kernel
theorem dX5_move_19 : decode cX5_move 19 = .ok (.iload_n 2, 1) := by decide +kernel
theorem dX5_move_20 : decode cX5_move 20 = .ok (.iload_n 3, 1) := by decide +kernel
theorem dX5_move_21 : decode cX5_move 21 = .ok (.invokestatic 48, 3) := by decide +kernel
theorem dX5_move_24 : decode cX5_move 24 = .ok (.ifCond .ne 6, 3) := by decide +kernel
theorem dX5_move_27 : decode cX5_move 27 = .ok (.bipush (-2), 2) := by decide +kernel
theorem dX5_move_29 : decode cX5_move 29 = .ok (.ireturn, 1) := by decide +kernel
theorem dX5_move_30 : decode cX5_move 30 = .ok (.aload_n 0, 1) := by decide +kernel
theorem dX5_move_31 : decode cX5_move 31 = .ok (.getfield 10, 3) := by decide +kernel
theorem dX5_move_34 : decode cX5_move 34 = .ok (.iload_n 2, 1) := by decide +kernel
theorem dX5_move_35 : decode cX5_move 35 = .ok (.iload_n 3, 1) := by decide +kernel
theorem dX5_move_36 : decode cX5_move 36 = .ok (.invokevirtual 52, 3) := by decide +kernel
end
section
theorem dX5_move_39 : decode cX5_move 39 = .ok (.ifCond .eq 6, 3) := by decide +kernel
theorem dX5_move_42 : decode cX5_move 42 = .ok (.bipush (-5), 2) := by decide +kernel
theorem dX5_move_44 : decode cX5_move 44 = .ok (.ireturn, 1) := by decide +kernel
theorem dX5_move_45 : decode cX5_move 45 = .ok (.aload_n 0, 1) := by decide +kernel
theorem dX5_move_46 : decode cX5_move 46 = .ok (.getfield 10, 3) := by decide +kernel
theorem dX5_move_49 : decode cX5_move 49 = .ok (.iload 4, 2) := by decide +kernel
theorem dX5_move_51 : decode cX5_move 51 = .ok (.invokevirtual 75, 3) := by decide +kernel
theorem dX5_move_54 : decode cX5_move 54 = .ok (.aload_n 0, 1) := by decide +kernel
theorem dX5_move_55 : decode cX5_move 55 = .ok (.getfield 10, 3) := by decide +kernel
theorem dX5_move_58 : decode cX5_move 58 = .ok (.iload_n 1, 1) := by decide +kernel
theorem dX5_move_59 : decode cX5_move 59 = .ok (.iload_n 2, 1) := by decide +kernel
theorem dX5_move_60 : decode cX5_move 60 = .ok (.iload_n 3, 1) := by decide +kernel
theorem dX5_move_61 : decode cX5_move 61 = .ok (.invokevirtual 59, 3) := by decide +kernel
theorem dX5_move_64 : decode cX5_move 64 = .ok (.iconst 1, 1) := by decide +kernel
theorem dX5_move_65 : decode cX5_move 65 = .ok (.ireturn, 1) := by decide +kernel
set_option maxRecDepth 20000 in
theorem ggX5_point_X3_rankOf : GoodIn wsX5_point wsX3_rankOf := goodIn_r _ [8, 9, 10, 83, 84, 85, 86] (by decide +kernel) (by decide +kernel)
set_option maxRecDepth 20000 in
theorem gX5_point_X3_rankOf : GoodIn wsX5_point (wsV RX5 71 RX3 yX3_rankOf wsX3_rankOf) := goodIn_app (goodIn_of _ (by decide +kernel)) ggX5_point_X3_rankOf
set_option maxRecDepth 20000 in
theorem ggX5_point_X5_topOf : GoodIn wsX5_point wsX5_topOf := goodIn_r _ [15, 16, 17, 18, 19, 20, 21, 22, 23, 24, 25, 26, 27, 28, 29, 30, 31, 14, 32, 1, 33, 34, 35, 36, 37, 38, 39, 40, 41, 42, 43, 44, 45, 46, 47, 48, 49, 50, 51, 52, 53, 54, 55, 56, 7, 57, 58, 59, 60, 61, 62, 63, 64, 65, 66, 67, 68, 69, 70, 71, 72, 73, 74, 75, 76, 77, 78, 79, 80, 81, 82, 87, 88, 89, 90, 91, 92, 83, 84, 85, 86] (by decide +kernel) (by decide +kernel)
set_option maxRecDepth 20000 in
theorem gX5_point_X5_topOf : GoodIn wsX5_point (wsV RX5 85 RX5 yX5_topOf wsX5_topOf) := goodIn_app (goodIn_of _ (by decide +kernel)) ggX5_point_X5_topOf
theorem dX5_point_0 : decode cX5_point 0 = .ok (.aload_n 0, 1) := by decide +kernel
theorem dX5_point_1 : decode cX5_point 1 = .ok (.getfield 10, 3) := by decide +kernel
theorem dX5_point_4 : decode cX5_point 4 = .ok (.iload_n 1, 1) := by decide +kernel
theorem dX5_point_5 : decode cX5_point 5 = .ok (.invokevirtual 71, 3) := by decide +kernel
theorem dX5_point_8 : decode cX5_point 8 = .ok (.istore_n 3, 1) := by decide +kernel
theorem dX5_point_9 : decode cX5_point 9 = .ok (.iload_n 3, 1) := by decide +kernel
theorem dX5_point_10 : decode cX5_point 10 = .ok (.bipush (-6), 2) := by decide +kernel
theorem dX5_point_12 : decode cX5_point 12 = .ok (.if_icmp .ne 5, 3) := by decide +kernel
theorem dX5_point_15 : decode cX5_point 15 = .ok (.iconst (-1), 1) := by decide +kernel
theorem dX5_point_16 : decode cX5_point 16 = .ok (.ireturn, 1) := by decide +kernel
theorem dX5_point_17 : decode cX5_point 17 = .ok (.iload_n 2, 1) := by decide +kernel
theorem dX5_point_18 : decode cX5_point 18 = .ok (.tableswitch 70 0 4 #[34, 44, 54, 56, 63], 34) := by decide +kernel
theorem dX5_point_52 : decode cX5_point 52 = .ok (.aload_n 0, 1) := by decide +kernel
theorem dX5_point_53 : decode cX5_point 53 = .ok (.getfield 10, 3) := by decide +kernel
theorem dX5_point_56 : decode cX5_point 56 = .ok (.getfield 78, 3) := by decide +kernel
theorem dX5_point_59 : decode cX5_point 59 = .ok (.iload_n 3, 1) := by decide +kernel
theorem dX5_point_60 : decode cX5_point 60 = .ok (.iaload, 1) := by decide +kernel
theorem dX5_point_61 : decode cX5_point 61 = .ok (.ireturn, 1) := by decide +kernel
theorem dX5_point_62 : decode cX5_point 62 = .ok (.aload_n 0, 1) := by decide +kernel
theorem dX5_point_63 : decode cX5_point 63 = .ok (.getfield 10, 3) := by decide +kernel
theorem dX5_point_66 : decode cX5_point 66 = .ok (.getfield 82, 3) := by decide +kernel
theorem dX5_point_69 : decode cX5_point 69 = .ok (.iload_n 3, 1) := by decide +kernel
theorem dX5_point_70 : decode cX5_point 70 = .ok (.iaload, 1) := by decide +kernel
theorem dX5_point_71 : decode cX5_point 71 = .ok (.ireturn, 1) := by decide +kernel
theorem dX5_point_72 : decode cX5_point 72 = .ok (.iload_n 3, 1) := by decide +kernel
theorem dX5_point_73 : decode cX5_point 73 = .ok (.ireturn, 1) := by decide +kernel
theorem dX5_point_74 : decode cX5_point 74 = .ok (.aload_n 0, 1) := by decide +kernel
theorem dX5_point_75 : decode cX5_point 75 = .ok (.iload_n 3, 1) := by decide +kernel
theorem dX5_point_76 : decode cX5_point 76 = .ok (.iconst 0, 1) := by decide +kernel
theorem dX5_point_77 : decode cX5_point 77 = .ok (.invokevirtual 85, 3) := by decide +kernel
theorem dX5_point_80 : decode cX5_point 80 = .ok (.ireturn, 1) := by decide +kernel
theorem dX5_point_81 : decode cX5_point 81 = .ok (.aload_n 0, 1) := by decide +kernel
theorem dX5_point_82 : decode cX5_point 82 = .ok (.iload_n 3, 1) := by decide +kernel
theorem dX5_point_83 : decode cX5_point 83 = .ok (.iconst 1, 1) := by decide +kernel
theorem dX5_point_84 : decode cX5_point 84 = .ok (.invokevirtual 85, 3) := by decide +kernel
theorem dX5_point_87 : decode cX5_point 87 = .ok (.ireturn, 1) := by decide +kernel
theorem dX5_point_88 : decode cX5_point 88 = .ok (.bipush (-2), 2) := by decide +kernel
theorem dX5_point_90 : decode cX5_point 90 = .ok (.ireturn, 1) := by decide +kernel
set_option maxRecDepth 20000 in
theorem ggX5_ranked_X3_idAt : GoodIn wsX5_ranked wsX3_idAt := goodIn_r _ [6, 7, 8, 16, 17, 18, 19] (by decide +kernel) (by decide +kernel)
set_option maxRecDepth 20000 in
theorem gX5_ranked_X3_idAt : GoodIn wsX5_ranked (wsV RX5 89 RX3 yX3_idAt wsX3_idAt) := goodIn_app (goodIn_of _ (by decide +kernel)) ggX5_ranked_X3_idAt
theorem dX5_ranked_0 : decode cX5_ranked 0 = .ok (.aload_n 0, 1) := by decide +kernel
theorem dX5_ranked_1 : decode cX5_ranked 1 = .ok (.getfield 10, 3) := by decide +kernel
theorem dX5_ranked_4 : decode cX5_ranked 4 = .ok (.iload_n 1, 1) := by decide +kernel
theorem dX5_ranked_5 : decode cX5_ranked 5 = .ok (.invokevirtual 89, 3) := by decide +kernel
theorem dX5_ranked_8 : decode cX5_ranked 8 = .ok (.ireturn, 1) := by decide +kernel
set_option maxRecDepth 20000 in
theorem ggX5_part_X2_has : GoodIn wsX5_part wsX2_has := goodIn_r _ [8, 9, 74, 75] (by decide +kernel) (by decide +kernel)
set_option maxRecDepth 20000 in
theorem gX5_part_X2_has : GoodIn wsX5_part (wsV RX5 92 RX2 yX2_has wsX2_has) := goodIn_app (goodIn_of _ (by decide +kernel)) ggX5_part_X2_has
set_option maxRecDepth 20000 in
theorem ggX5_part_X5_cornersOf : GoodIn wsX5_part wsX5_cornersOf := goodIn_r _ [14, 15, 16, 17, 18, 19, 20, 13, 21, 22, 1, 3, 2, 23, 24, 25, 26, 27, 28, 29, 30, 31, 32, 33, 34, 35, 36, 37, 38, 39, 40, 41, 42, 43, 44, 45, 46, 47, 48, 49, 50, 51, 52, 53, 54, 55, 67, 68, 69, 70, 71, 72, 73, 76, 77, 78, 79, 74, 75, 80, 81, 82, 83] (by decide +kernel) (by decide +kernel)
set_option maxRecDepth 20000 in
theorem gX5_part_X5_cornersOf : GoodIn wsX5_part (wsV RX5 102 RX5 yX5_cornersOf wsX5_cornersOf) := goodIn_app (goodIn_of _ (by decide +kernel)) ggX5_part_X5_cornersOf
set_option maxRecDepth 20000 in
theorem ggX5_part_X5_restOf : GoodIn wsX5_part wsX5_restOf := goodIn_r _ [59, 15, 60, 16, 17, 61, 35, 18, 19, 20, 13, 21, 22, 1, 3, 2, 23, 24, 25, 26, 27, 28, 29, 30, 31, 32, 33, 34, 36, 37, 38, 39, 40, 41, 42, 43, 44, 45, 46, 47, 48, 49, 50, 51, 52, 53, 54, 55, 62, 63, 64, 65, 66, 67, 68, 69, 70, 71, 72, 73, 76, 77, 78, 79, 74, 75, 80, 81, 82, 83] (by decide +kernel) (by decide +kernel)
set_option maxRecDepth 20000 in
theorem gX5_part_X5_restOf : GoodIn wsX5_part (wsV RX5 105 RX5 yX5_restOf wsX5_restOf) := goodIn_app (goodIn_of _ (by decide +kernel)) ggX5_part_X5_restOf
theorem dX5_part_0 : decode cX5_part 0 = .ok (.aload_n 0, 1) := by decide +kernel
theorem dX5_part_1 : decode cX5_part 1 = .ok (.getfield 19, 3) := by decide +kernel
theorem dX5_part_4 : decode cX5_part 4 = .ok (.iload_n 1, 1) := by decide +kernel
theorem dX5_part_5 : decode cX5_part 5 = .ok (.invokevirtual 92, 3) := by decide +kernel
theorem dX5_part_8 : decode cX5_part 8 = .ok (.ifCond .ne 5, 3) := by decide +kernel
theorem dX5_part_11 : decode cX5_part 11 = .ok (.iconst (-1), 1) := by decide +kernel
theorem dX5_part_12 : decode cX5_part 12 = .ok (.ireturn, 1) := by decide +kernel
theorem dX5_part_13 : decode cX5_part 13 = .ok (.iload_n 2, 1) := by decide +kernel
theorem dX5_part_14 : decode cX5_part 14 = .ok (.tableswitch 106 0 5 #[38, 48, 58, 65, 72, 89], 38) := by decide +kernel
theorem dX5_part_52 : decode cX5_part 52 = .ok (.aload_n 0, 1) := by decide +kernel
theorem dX5_part_53 : decode cX5_part 53 = .ok (.getfield 19, 3) := by decide +kernel
theorem dX5_part_56 : decode cX5_part 56 = .ok (.getfield 96, 3) := by decide +kernel
theorem dX5_part_59 : decode cX5_part 59 = .ok (.iload_n 1, 1) := by decide +kernel
theorem dX5_part_60 : decode cX5_part 60 = .ok (.iaload, 1) := by decide +kernel
theorem dX5_part_61 : decode cX5_part 61 = .ok (.ireturn, 1) := by decide +kernel
theorem dX5_part_62 : decode cX5_part 62 = .ok (.aload_n 0, 1) := by decide +kernel
theorem dX5_part_63 : decode cX5_part 63 = .ok (.getfield 19, 3) := by decide +kernel
theorem dX5_part_66 : decode cX5_part 66 = .ok (.getfield 99, 3) := by decide +kernel
theorem dX5_part_69 : decode cX5_part 69 = .ok (.iload_n 1, 1) := by decide +kernel
theorem dX5_part_70 : decode cX5_part 70 = .ok (.iaload, 1) := by decide +kernel
theorem dX5_part_71 : decode cX5_part 71 = .ok (.ireturn, 1) := by decide +kernel
theorem dX5_part_72 : decode cX5_part 72 = .ok (.aload_n 0, 1) := by decide +kernel
theorem dX5_part_73 : decode cX5_part 73 = .ok (.iload_n 1, 1) := by decide +kernel
theorem dX5_part_74 : decode cX5_part 74 = .ok (.iconst 0, 1) := by decide +kernel
theorem dX5_part_75 : decode cX5_part 75 = .ok (.invokevirtual 102, 3) := by decide +kernel
theorem dX5_part_78 : decode cX5_part 78 = .ok (.ireturn, 1) := by decide +kernel
theorem dX5_part_79 : decode cX5_part 79 = .ok (.aload_n 0, 1) := by decide +kernel
theorem dX5_part_80 : decode cX5_part 80 = .ok (.iload_n 1, 1) := by decide +kernel
theorem dX5_part_81 : decode cX5_part 81 = .ok (.iconst 1, 1) := by decide +kernel
theorem dX5_part_82 : decode cX5_part 82 = .ok (.invokevirtual 102, 3) := by decide +kernel
theorem dX5_part_85 : decode cX5_part 85 = .ok (.ireturn, 1) := by decide +kernel
theorem dX5_part_86 : decode cX5_part 86 = .ok (.iload_n 1, 1) := by decide +kernel
theorem dX5_part_87 : decode cX5_part 87 = .ok (.iconst 1, 1) := by decide +kernel
theorem dX5_part_88 : decode cX5_part 88 = .ok (.if_icmp .ne 8, 3) := by decide +kernel
theorem dX5_part_91 : decode cX5_part 91 = .ok (.bipush (-6), 2) := by decide +kernel
theorem dX5_part_93 : decode cX5_part 93 = .ok (.goto 9, 3) := by decide +kernel
theorem dX5_part_96 : decode cX5_part 96 = .ok (.aload_n 0, 1) := by decide +kernel
theorem dX5_part_97 : decode cX5_part 97 = .ok (.iload_n 1, 1) := by decide +kernel
theorem dX5_part_98 : decode cX5_part 98 = .ok (.iconst 0, 1) := by decide +kernel
theorem dX5_part_99 : decode cX5_part 99 = .ok (.invokevirtual 105, 3) := by decide +kernel
theorem dX5_part_102 : decode cX5_part 102 = .ok (.ireturn, 1) := by decide +kernel
theorem dX5_part_103 : decode cX5_part 103 = .ok (.iload_n 1, 1) := by decide +kernel
theorem dX5_part_104 : decode cX5_part 104 = .ok (.iconst 1, 1) := by decide +kernel
theorem dX5_part_105 : decode cX5_part 105 = .ok (.if_icmp .ne 8, 3) := by decide +kernel
theorem dX5_part_108 : decode cX5_part 108 = .ok (.bipush (-6), 2) := by decide +kernel
theorem dX5_part_110 : decode cX5_part 110 = .ok (.goto 9, 3) := by decide +kernel
theorem dX5_part_113 : decode cX5_part 113 = .ok (.aload_n 0, 1) := by decide +kernel
theorem dX5_part_114 : decode cX5_part 114 = .ok (.iload_n 1, 1) := by decide +kernel
theorem dX5_part_115 : decode cX5_part 115 = .ok (.iconst 1, 1) := by decide +kernel
theorem dX5_part_116 : decode cX5_part 116 = .ok (.invokevirtual 105, 3) := by decide +kernel
theorem dX5_part_119 : decode cX5_part 119 = .ok (.ireturn, 1) := by decide +kernel
theorem dX5_part_120 : decode cX5_part 120 = .ok (.bipush (-2), 2) := by decide +kernel
theorem dX5_part_122 : decode cX5_part 122 = .ok (.ireturn, 1) := by decide +kernel
set_option maxRecDepth 20000 in
theorem ggX5_chain_X2_has : GoodIn wsX5_chain wsX2_has := goodIn_r _ [8, 9, 72, 73] (by decide +kernel) (by decide +kernel)
set_option maxRecDepth 20000 in
theorem gX5_chain_X2_has : GoodIn wsX5_chain (wsV RX5 92 RX2 yX2_has wsX2_has) := goodIn_app (goodIn_of _ (by decide +kernel)) ggX5_chain_X2_has
set_option maxRecDepth 20000 in
theorem ggX5_chain_X5_isSide : GoodIn wsX5_chain wsX5_isSide := goodIn_r _ [13] (by decide +kernel) (by decide +kernel)
set_option maxRecDepth 20000 in
theorem gX5_chain_X5_isSide : GoodIn wsX5_chain (va_wsS RX5 108 yX5_isSide wsX5_isSide) := goodIn_app (goodIn_of _ (by decide +kernel)) ggX5_chain_X5_isSide
set_option maxRecDepth 20000 in
theorem ggX5_chain_X5_trace : GoodIn wsX5_chain wsX5_trace := goodIn_r _ [17, 3, 1, 18, 19, 20, 21, 22, 23, 24, 25, 26, 27, 28, 29, 30, 31, 32, 33, 34, 35, 36, 37, 38, 39, 40, 41, 42, 43, 44, 45, 46, 47, 48, 49, 50, 51, 52, 53, 65, 66, 67, 68, 69, 70, 71, 72, 73, 74, 75, 76, 77, 78, 79, 80, 81] (by decide +kernel) (by decide +kernel)
set_option maxRecDepth 20000 in
theorem gX5_chain_X5_trace : GoodIn wsX5_chain (wsV RX5 111 RX5 yX5_trace wsX5_trace) := goodIn_app (goodIn_of _ (by decide +kernel)) ggX5_chain_X5_trace
set_option maxRecDepth 20000 in
theorem ggX5_chain_X1_rankAt : GoodIn wsX5_chain wsX1_rankAt := goodIn_r _ [58, 52, 53, 74, 75, 76, 77] (by decide +kernel) (by decide +kernel)
set_option maxRecDepth 20000 in
theorem gX5_chain_X1_rankAt_u115X0 : GoodIn wsX5_chain (va_wsU RX5 115 RX0 "LiveHull$Corners" ⟨"LiveHull$Chain", "rankAt", "(I)I"⟩ yX1_rankAt wsX1_rankAt) := goodIn_app (goodIn_of _ (by decide +kernel)) ggX5_chain_X1_rankAt
set_option maxRecDepth 20000 in
theorem ggX5_chain_X3_idAt : GoodIn wsX5_chain wsX3_idAt := goodIn_r _ [62, 63, 64, 78, 79, 80, 81] (by decide +kernel) (by decide +kernel)
set_option maxRecDepth 20000 in
theorem gX5_chain_X3_idAt : GoodIn wsX5_chain (wsV RX5 89 RX3 yX3_idAt wsX3_idAt) := goodIn_app (goodIn_of _ (by decide +kernel)) ggX5_chain_X3_idAt
theorem dX5_chain_0 : decode cX5_chain 0 = .ok (.aload_n 0, 1) := by decide +kernel
theorem dX5_chain_1 : decode cX5_chain 1 = .ok (.getfield 19, 3) := by decide +kernel
theorem dX5_chain_4 : decode cX5_chain 4 = .ok (.iload_n 1, 1) := by decide +kernel
theorem dX5_chain_5 : decode cX5_chain 5 = .ok (.invokevirtual 92, 3) := by decide +kernel
theorem dX5_chain_8 : decode cX5_chain 8 = .ok (.ifCond .ne 5, 3) := by decide +kernel
theorem dX5_chain_11 : decode cX5_chain 11 = .ok (.iconst (-1), 1) := by decide +kernel
theorem dX5_chain_12 : decode cX5_chain 12 = .ok (.ireturn, 1) := by decide +kernel
theorem dX5_chain_13 : decode cX5_chain 13 = .ok (.iload_n 2, 1) := by decide +kernel
theorem dX5_chain_14 : decode cX5_chain 14 = .ok (.invokestatic 108, 3) := by decide +kernel
theorem dX5_chain_17 : decode cX5_chain 17 = .ok (.ifCond .ne 6, 3) := by decide +kernel
theorem dX5_chain_20 : decode cX5_chain 20 = .ok (.bipush (-2), 2) := by decide +kernel
theorem dX5_chain_22 : decode cX5_chain 22 = .ok (.ireturn, 1) := by decide +kernel
theorem dX5_chain_23 : decode cX5_chain 23 = .ok (.aload_n 0, 1) := by decide +kernel
theorem dX5_chain_24 : decode cX5_chain 24 = .ok (.aload_n 0, 1) := by decide +kernel
theorem dX5_chain_25 : decode cX5_chain 25 = .ok (.getfield 26, 3) := by decide +kernel
theorem dX5_chain_28 : decode cX5_chain 28 = .ok (.iload_n 1, 1) := by decide +kernel
theorem dX5_chain_29 : decode cX5_chain 29 = .ok (.iload_n 2, 1) := by decide +kernel
theorem dX5_chain_30 : decode cX5_chain 30 = .ok (.invokevirtual 111, 3) := by decide +kernel
theorem dX5_chain_33 : decode cX5_chain 33 = .ok (.aload_n 0, 1) := by decide +kernel
theorem dX5_chain_34 : decode cX5_chain 34 = .ok (.getfield 10, 3) := by decide +kernel
theorem dX5_chain_37 : decode cX5_chain 37 = .ok (.aload_n 0, 1) := by decide +kernel
theorem dX5_chain_38 : decode cX5_chain 38 = .ok (.getfield 26, 3) := by decide +kernel
theorem dX5_chain_41 : decode cX5_chain 41 = .ok (.iload_n 3, 1) := by decide +kernel
theorem dX5_chain_42 : decode cX5_chain 42 = .ok (.invokevirtual 115, 3) := by decide +kernel
theorem dX5_chain_45 : decode cX5_chain 45 = .ok (.invokevirtual 89, 3) := by decide +kernel
theorem dX5_chain_48 : decode cX5_chain 48 = .ok (.ireturn, 1) := by decide +kernel
set_option maxRecDepth 20000 in
theorem ggX5_bridge_X2_has : GoodIn wsX5_bridge wsX2_has := goodIn_r _ [9, 10, 80, 81] (by decide +kernel) (by decide +kernel)
set_option maxRecDepth 20000 in
theorem gX5_bridge_X2_has : GoodIn wsX5_bridge (wsV RX5 92 RX2 yX2_has wsX2_has) := goodIn_app (goodIn_of _ (by decide +kernel)) ggX5_bridge_X2_has
set_option maxRecDepth 20000 in
theorem ggX5_bridge_X2_hasHalves : GoodIn wsX5_bridge wsX2_hasHalves := goodIn_r _ [14, 10, 15, 6, 7, 8, 9, 80, 81] (by decide +kernel) (by decide +kernel)
set_option maxRecDepth 20000 in
theorem gX5_bridge_X2_hasHalves : GoodIn wsX5_bridge (wsV RX5 118 RX2 yX2_hasHalves wsX2_hasHalves) := goodIn_app (goodIn_of _ (by decide +kernel)) ggX5_bridge_X2_hasHalves
set_option maxRecDepth 20000 in
theorem ggX5_bridge_X5_isSide : GoodIn wsX5_bridge wsX5_isSide := goodIn_r _ [19] (by decide +kernel) (by decide +kernel)
set_option maxRecDepth 20000 in
theorem gX5_bridge_X5_isSide : GoodIn wsX5_bridge (va_wsS RX5 108 yX5_isSide wsX5_isSide) := goodIn_app (goodIn_of _ (by decide +kernel)) ggX5_bridge_X5_isSide
set_option maxRecDepth 20000 in
theorem ggX5_bridge_X5_trace : GoodIn wsX5_bridge wsX5_trace := goodIn_r _ [23, 4, 1, 3, 24, 25, 26, 27, 28, 29, 30, 31, 32, 33, 34, 35, 36, 37, 38, 39, 40, 41, 42, 43, 44, 45, 46, 47, 48, 49, 50, 51, 52, 53, 54, 55, 56, 57, 58, 73, 74, 75, 76, 77, 78, 79, 80, 81, 82, 83, 84, 85, 86, 87, 88, 89] (by decide +kernel) (by decide +kernel)
set_option maxRecDepth 20000 in
theorem gX5_bridge_X5_trace : GoodIn wsX5_bridge (wsV RX5 111 RX5 yX5_trace wsX5_trace) := goodIn_app (goodIn_of _ (by decide +kernel)) ggX5_bridge_X5_trace
set_option maxRecDepth 20000 in
theorem ggX5_bridge_X0_lastBefore : GoodIn wsX5_bridge wsX0_lastBefore := goodIn_r _ [62, 30, 31, 37, 38, 82, 83, 84, 85] (by decide +kernel) (by decide +kernel)
set_option maxRecDepth 20000 in
theorem gX5_bridge_X0_lastBefore : GoodIn wsX5_bridge (wsV RX5 121 RX0 yX0_lastBefore wsX0_lastBefore) := goodIn_app (goodIn_of _ (by decide +kernel)) ggX5_bridge_X0_lastBefore
set_option maxRecDepth 20000 in
theorem ggX5_bridge_X0_firstFrom : GoodIn wsX5_bridge wsX0_firstFrom := goodIn_r _ [66, 30, 31, 37, 38, 82, 83, 84, 85] (by decide +kernel) (by decide +kernel)
set_option maxRecDepth 20000 in
theorem gX5_bridge_X0_firstFrom : GoodIn wsX5_bridge (wsV RX5 124 RX0 yX0_firstFrom wsX0_firstFrom) := goodIn_app (goodIn_of _ (by decide +kernel)) ggX5_bridge_X0_firstFrom
set_option maxRecDepth 20000 in
theorem ggX5_bridge_X3_idAt : GoodIn wsX5_bridge wsX3_idAt := goodIn_r _ [70, 71, 72, 86, 87, 88, 89] (by decide +kernel) (by decide +kernel)
set_option maxRecDepth 20000 in
theorem gX5_bridge_X3_idAt : GoodIn wsX5_bridge (wsV RX5 89 RX3 yX3_idAt wsX3_idAt) := goodIn_app (goodIn_of _ (by decide +kernel)) ggX5_bridge_X3_idAt
theorem dX5_bridge_0 : decode cX5_bridge 0 = .ok (.aload_n 0, 1) := by decide +kernel
theorem dX5_bridge_1 : decode cX5_bridge 1 = .ok (.getfield 19, 3) := by decide +kernel
theorem dX5_bridge_4 : decode cX5_bridge 4 = .ok (.iload_n 1, 1) := by decide +kernel
theorem dX5_bridge_5 : decode cX5_bridge 5 = .ok (.invokevirtual 92, 3) := by decide +kernel
theorem dX5_bridge_8 : decode cX5_bridge 8 = .ok (.ifCond .ne 5, 3) := by decide +kernel
theorem dX5_bridge_11 : decode cX5_bridge 11 = .ok (.iconst (-1), 1) := by decide +kernel
theorem dX5_bridge_12 : decode cX5_bridge 12 = .ok (.ireturn, 1) := by decide +kernel
theorem dX5_bridge_13 : decode cX5_bridge 13 = .ok (.aload_n 0, 1) := by decide +kernel
theorem dX5_bridge_14 : decode cX5_bridge 14 = .ok (.getfield 19, 3) := by decide +kernel
theorem dX5_bridge_17 : decode cX5_bridge 17 = .ok (.iload_n 1, 1) := by decide +kernel
theorem dX5_bridge_18 : decode cX5_bridge 18 = .ok (.invokevirtual 118, 3) := by decide +kernel
theorem dX5_bridge_21 : decode cX5_bridge 21 = .ok (.ifCond .ne 6, 3) := by decide +kernel
theorem dX5_bridge_24 : decode cX5_bridge 24 = .ok (.bipush (-5), 2) := by decide +kernel
theorem dX5_bridge_26 : decode cX5_bridge 26 = .ok (.ireturn, 1) := by decide +kernel
theorem dX5_bridge_27 : decode cX5_bridge 27 = .ok (.iload_n 2, 1) := by decide +kernel
theorem dX5_bridge_28 : decode cX5_bridge 28 = .ok (.invokestatic 108, 3) := by decide +kernel
theorem dX5_bridge_31 : decode cX5_bridge 31 = .ok (.ifCond .eq 12, 3) := by decide +kernel
theorem dX5_bridge_34 : decode cX5_bridge 34 = .ok (.iload_n 3, 1) := by decide +kernel
theorem dX5_bridge_35 : decode cX5_bridge 35 = .ok (.ifCond .lt 8, 3) := by decide +kernel
theorem dX5_bridge_38 : decode cX5_bridge 38 = .ok (.iload_n 3, 1) := by decide +kernel
theorem dX5_bridge_39 : decode cX5_bridge 39 = .ok (.iconst 1, 1) := by decide +kernel
theorem dX5_bridge_40 : decode cX5_bridge 40 = .ok (.if_icmp .le 6, 3) := by decide +kernel
theorem dX5_bridge_43 : decode cX5_bridge 43 = .ok (.bipush (-2), 2) := by decide +kernel
theorem dX5_bridge_45 : decode cX5_bridge 45 = .ok (.ireturn, 1) := by decide +kernel
theorem dX5_bridge_46 : decode cX5_bridge 46 = .ok (.aload_n 0, 1) := by decide +kernel
theorem dX5_bridge_47 : decode cX5_bridge 47 = .ok (.aload_n 0, 1) := by decide +kernel
theorem dX5_bridge_48 : decode cX5_bridge 48 = .ok (.getfield 26, 3) := by decide +kernel
theorem dX5_bridge_51 : decode cX5_bridge 51 = .ok (.iload_n 1, 1) := by decide +kernel
theorem dX5_bridge_52 : decode cX5_bridge 52 = .ok (.iload_n 2, 1) := by decide +kernel
theorem dX5_bridge_53 : decode cX5_bridge 53 = .ok (.invokevirtual 111, 3) := by decide +kernel
theorem dX5_bridge_56 : decode cX5_bridge 56 = .ok (.aload_n 0, 1) := by decide +kernel
theorem dX5_bridge_57 : decode cX5_bridge 57 = .ok (.getfield 19, 3) := by decide +kernel
theorem dX5_bridge_60 : decode cX5_bridge 60 = .ok (.getfield 99, 3) := by decide +kernel
theorem dX5_bridge_63 : decode cX5_bridge 63 = .ok (.iconst 2, 1) := by decide +kernel
theorem dX5_bridge_64 : decode cX5_bridge 64 = .ok (.iload_n 1, 1) := by decide +kernel
theorem dX5_bridge_65 : decode cX5_bridge 65 = .ok (.imul, 1) := by decide +kernel
theorem dX5_bridge_66 : decode cX5_bridge 66 = .ok (.iconst 1, 1) := by decide +kernel
theorem dX5_bridge_67 : decode cX5_bridge 67 = .ok (.iadd, 1) := by decide +kernel
theorem dX5_bridge_68 : decode cX5_bridge 68 = .ok (.iaload, 1) := by decide +kernel
theorem dX5_bridge_69 : decode cX5_bridge 69 = .ok (.istore 4, 2) := by decide +kernel
theorem dX5_bridge_71 : decode cX5_bridge 71 = .ok (.aload_n 0, 1) := by decide +kernel
theorem dX5_bridge_72 : decode cX5_bridge 72 = .ok (.getfield 10, 3) := by decide +kernel
theorem dX5_bridge_75 : decode cX5_bridge 75 = .ok (.iload_n 3, 1) := by decide +kernel
theorem dX5_bridge_76 : decode cX5_bridge 76 = .ok (.ifCond .ne 15, 3) := by decide +kernel
theorem dX5_bridge_79 : decode cX5_bridge 79 = .ok (.aload_n 0, 1) := by decide +kernel
theorem dX5_bridge_80 : decode cX5_bridge 80 = .ok (.getfield 26, 3) := by decide +kernel
theorem dX5_bridge_83 : decode cX5_bridge 83 = .ok (.iload 4, 2) := by decide +kernel
theorem dX5_bridge_85 : decode cX5_bridge 85 = .ok (.invokevirtual 121, 3) := by decide +kernel
theorem dX5_bridge_88 : decode cX5_bridge 88 = .ok (.goto 12, 3) := by decide +kernel
theorem dX5_bridge_91 : decode cX5_bridge 91 = .ok (.aload_n 0, 1) := by decide +kernel
theorem dX5_bridge_92 : decode cX5_bridge 92 = .ok (.getfield 26, 3) := by decide +kernel
theorem dX5_bridge_95 : decode cX5_bridge 95 = .ok (.iload 4, 2) := by decide +kernel
theorem dX5_bridge_97 : decode cX5_bridge 97 = .ok (.invokevirtual 124, 3) := by decide +kernel
theorem dX5_bridge_100 : decode cX5_bridge 100 = .ok (.invokevirtual 89, 3) := by decide +kernel
theorem dX5_bridge_103 : decode cX5_bridge 103 = .ok (.ireturn, 1) := by decide +kernel
set_option maxRecDepth 20000 in
theorem ggX5_round_X5_gatherRing : GoodIn wsX5_round wsX5_gatherRing := goodIn_r _ [9, 1, 10, 4, 11, 12, 13, 14, 15, 16, 17, 3, 18, 19, 20, 21, 22, 23, 24, 25, 26, 27, 28, 29, 30, 31, 32, 33, 34, 35, 36, 37, 38, 39, 40, 41, 42, 43, 44, 45, 46, 47, 48, 49, 50, 51, 52, 53, 54, 55, 56, 57, 58, 59, 60, 61, 62, 63, 64, 65, 66, 67, 68, 69, 70, 71, 72, 73, 85, 86, 87, 88, 89, 90, 91, 96, 97, 98, 99, 92, 93, 94, 95] (by decide +kernel) (by decide +kernel)
set_option maxRecDepth 20000 in
theorem gX5_round_X5_gatherRing : GoodIn wsX5_round (wsV RX5 127 RX5 yX5_gatherRing wsX5_gatherRing) := goodIn_app (goodIn_of _ (by decide +kernel)) ggX5_round_X5_gatherRing
set_option maxRecDepth 20000 in
theorem ggX5_round_X1_rankAt : GoodIn wsX5_round wsX1_rankAt := goodIn_r _ [78, 50, 51, 92, 93, 94, 95] (by decide +kernel) (by decide +kernel)
set_option maxRecDepth 20000 in
theorem gX5_round_X1_rankAt_u133X4 : GoodIn wsX5_round (va_wsU RX5 133 RX4 "LiveHull$Corners" ⟨"LiveHull$Ring", "rankAt", "(I)I"⟩ yX1_rankAt wsX1_rankAt) := goodIn_app (goodIn_of _ (by decide +kernel)) ggX5_round_X1_rankAt
set_option maxRecDepth 20000 in
theorem ggX5_round_X3_idAt : GoodIn wsX5_round wsX3_idAt := goodIn_r _ [82, 83, 84, 96, 97, 98, 99] (by decide +kernel) (by decide +kernel)
set_option maxRecDepth 20000 in
theorem gX5_round_X3_idAt : GoodIn wsX5_round (wsV RX5 89 RX3 yX3_idAt wsX3_idAt) := goodIn_app (goodIn_of _ (by decide +kernel)) ggX5_round_X3_idAt
theorem dX5_round_0 : decode cX5_round 0 = .ok (.aload_n 0, 1) := by decide +kernel
theorem dX5_round_1 : decode cX5_round 1 = .ok (.invokevirtual 127, 3) := by decide +kernel
theorem dX5_round_4 : decode cX5_round 4 = .ok (.iload_n 1, 1) := by decide +kernel
theorem dX5_round_5 : decode cX5_round 5 = .ok (.iconst (-1), 1) := by decide +kernel
theorem dX5_round_6 : decode cX5_round 6 = .ok (.if_icmp .ne 13, 3) := by decide +kernel
theorem dX5_round_9 : decode cX5_round 9 = .ok (.aload_n 0, 1) := by decide +kernel
theorem dX5_round_10 : decode cX5_round 10 = .ok (.getfield 36, 3) := by decide +kernel
theorem dX5_round_13 : decode cX5_round 13 = .ok (.getfield 130, 3) := by decide +kernel
theorem dX5_round_16 : decode cX5_round 16 = .ok (.goto 18, 3) := by decide +kernel
theorem dX5_round_19 : decode cX5_round 19 = .ok (.aload_n 0, 1) := by decide +kernel
theorem dX5_round_20 : decode cX5_round 20 = .ok (.getfield 10, 3) := by decide +kernel
theorem dX5_round_23 : decode cX5_round 23 = .ok (.aload_n 0, 1) := by decide +kernel
theorem dX5_round_24 : decode cX5_round 24 = .ok (.getfield 36, 3) := by decide +kernel
theorem dX5_round_27 : decode cX5_round 27 = .ok (.iload_n 1, 1) := by decide +kernel
theorem dX5_round_28 : decode cX5_round 28 = .ok (.invokevirtual 133, 3) := by decide +kernel
theorem dX5_round_31 : decode cX5_round 31 = .ok (.invokevirtual 89, 3) := by decide +kernel
theorem dX5_round_34 : decode cX5_round 34 = .ok (.ireturn, 1) := by decide +kernel
set_option maxRecDepth 20000 in
theorem ggX5_extreme_X5_isPlace : GoodIn wsX5_extreme wsX5_isPlace := goodIn_r _ [7, 8, 9] (by decide +kernel) (by decide +kernel)
set_option maxRecDepth 20000 in
theorem gX5_extreme_X5_isPlace : GoodIn wsX5_extreme (va_wsS RX5 48 yX5_isPlace wsX5_isPlace) := goodIn_app (goodIn_of _ (by decide +kernel)) ggX5_extreme_X5_isPlace
set_option maxRecDepth 20000 in
theorem ggX5_extreme_X5_gatherRing : GoodIn wsX5_extreme wsX5_gatherRing := goodIn_r _ [13, 3, 14, 1, 2, 15, 16, 17, 18, 19, 20, 21, 22, 23, 24, 25, 26, 27, 28, 29, 30, 31, 32, 33, 34, 35, 36, 37, 38, 39, 40, 41, 42, 43, 44, 45, 46, 47, 48, 49, 50, 51, 52, 53, 54, 55, 56, 57, 58, 59, 60, 61, 62, 63, 64, 65, 66, 67, 68, 69, 70, 71, 72, 73, 74, 75, 76, 77, 97, 98, 99, 100, 101, 102, 103, 104, 105, 106, 107, 108, 109, 110, 111] (by decide +kernel) (by decide +kernel)
set_option maxRecDepth 20000 in
theorem gX5_extreme_X5_gatherRing : GoodIn wsX5_extreme (wsV RX5 127 RX5 yX5_gatherRing wsX5_gatherRing) := goodIn_app (goodIn_of _ (by decide +kernel)) ggX5_extreme_X5_gatherRing
set_option maxRecDepth 20000 in
theorem ggX5_extreme_X4_farthest : GoodIn wsX5_extreme wsX4_farthest := goodIn_r _ [81, 20, 21, 82, 83, 84, 85, 18, 86, 87, 88, 89, 44, 90, 46, 47, 108, 109, 110, 111, 104, 105, 106, 107] (by decide +kernel) (by decide +kernel)
set_option maxRecDepth 20000 in
theorem gX5_extreme_X4_farthest : GoodIn wsX5_extreme (wsV RX5 134 RX4 yX4_farthest wsX4_farthest) := goodIn_app (goodIn_of _ (by decide +kernel)) ggX5_extreme_X4_farthest
set_option maxRecDepth 20000 in
theorem ggX5_extreme_X3_idAt : GoodIn wsX5_extreme wsX3_idAt := goodIn_r _ [94, 95, 96, 104, 105, 106, 107] (by decide +kernel) (by decide +kernel)
set_option maxRecDepth 20000 in
theorem gX5_extreme_X3_idAt : GoodIn wsX5_extreme (wsV RX5 89 RX3 yX3_idAt wsX3_idAt) := goodIn_app (goodIn_of _ (by decide +kernel)) ggX5_extreme_X3_idAt
theorem dX5_extreme_0 : decode cX5_extreme 0 = .ok (.iload_n 1, 1) := by decide +kernel
theorem dX5_extreme_1 : decode cX5_extreme 1 = .ok (.iload_n 2, 1) := by decide +kernel
theorem dX5_extreme_2 : decode cX5_extreme 2 = .ok (.invokestatic 48, 3) := by decide +kernel
theorem dX5_extreme_5 : decode cX5_extreme 5 = .ok (.ifCond .ne 6, 3) := by decide +kernel
theorem dX5_extreme_8 : decode cX5_extreme 8 = .ok (.bipush (-2), 2) := by decide +kernel
theorem dX5_extreme_10 : decode cX5_extreme 10 = .ok (.ireturn, 1) := by decide +kernel
theorem dX5_extreme_11 : decode cX5_extreme 11 = .ok (.aload_n 0, 1) := by decide +kernel
theorem dX5_extreme_12 : decode cX5_extreme 12 = .ok (.getfield 10, 3) := by decide +kernel
theorem dX5_extreme_15 : decode cX5_extreme 15 = .ok (.getfield 63, 3) := by decide +kernel
theorem dX5_extreme_18 : decode cX5_extreme 18 = .ok (.ifCond .eq 11, 3) := by decide +kernel
theorem dX5_extreme_21 : decode cX5_extreme 21 = .ok (.iload_n 1, 1) := by decide +kernel
theorem dX5_extreme_22 : decode cX5_extreme 22 = .ok (.ifCond .ne 10, 3) := by decide +kernel
theorem dX5_extreme_25 : decode cX5_extreme 25 = .ok (.iload_n 2, 1) := by decide +kernel
theorem dX5_extreme_26 : decode cX5_extreme 26 = .ok (.ifCond .ne 6, 3) := by decide +kernel
theorem dX5_extreme_29 : decode cX5_extreme 29 = .ok (.bipush (-5), 2) := by decide +kernel
theorem dX5_extreme_31 : decode cX5_extreme 31 = .ok (.ireturn, 1) := by decide +kernel
theorem dX5_extreme_32 : decode cX5_extreme 32 = .ok (.aload_n 0, 1) := by decide +kernel
theorem dX5_extreme_33 : decode cX5_extreme 33 = .ok (.invokevirtual 127, 3) := by decide +kernel
theorem dX5_extreme_36 : decode cX5_extreme 36 = .ok (.aload_n 0, 1) := by decide +kernel
theorem dX5_extreme_37 : decode cX5_extreme 37 = .ok (.getfield 10, 3) := by decide +kernel
theorem dX5_extreme_40 : decode cX5_extreme 40 = .ok (.aload_n 0, 1) := by decide +kernel
theorem dX5_extreme_41 : decode cX5_extreme 41 = .ok (.getfield 36, 3) := by decide +kernel
theorem dX5_extreme_44 : decode cX5_extreme 44 = .ok (.aload_n 0, 1) := by decide +kernel
theorem dX5_extreme_45 : decode cX5_extreme 45 = .ok (.getfield 10, 3) := by decide +kernel
theorem dX5_extreme_48 : decode cX5_extreme 48 = .ok (.iload_n 1, 1) := by decide +kernel
theorem dX5_extreme_49 : decode cX5_extreme 49 = .ok (.iload_n 2, 1) := by decide +kernel
theorem dX5_extreme_50 : decode cX5_extreme 50 = .ok (.invokevirtual 134, 3) := by decide +kernel
theorem dX5_extreme_53 : decode cX5_extreme 53 = .ok (.invokevirtual 89, 3) := by decide +kernel
theorem dX5_extreme_56 : decode cX5_extreme 56 = .ok (.ireturn, 1) := by decide +kernel
set_option maxRecDepth 20000 in
theorem ggX5_where_X5_isPlace : GoodIn wsX5_where wsX5_isPlace := goodIn_r _ [6, 7, 8] (by decide +kernel) (by decide +kernel)
set_option maxRecDepth 20000 in
theorem gX5_where_X5_isPlace : GoodIn wsX5_where (va_wsS RX5 48 yX5_isPlace wsX5_isPlace) := goodIn_app (goodIn_of _ (by decide +kernel)) ggX5_where_X5_isPlace
set_option maxRecDepth 20000 in
theorem ggX5_where_X5_gatherRing : GoodIn wsX5_where wsX5_gatherRing := goodIn_r _ [12, 1, 13, 2, 14, 15, 16, 17, 18, 19, 20, 21, 22, 23, 24, 25, 26, 27, 28, 29, 30, 31, 32, 33, 34, 35, 36, 37, 38, 39, 40, 41, 42, 43, 44, 45, 46, 47, 48, 49, 50, 51, 52, 53, 54, 55, 56, 57, 58, 59, 60, 61, 62, 63, 64, 65, 66, 67, 68, 69, 70, 71, 72, 73, 74, 75, 76, 77, 104, 105, 106, 107, 108, 109, 110, 111, 112, 113, 114, 115, 116, 117, 118] (by decide +kernel) (by decide +kernel)
set_option maxRecDepth 20000 in
theorem gX5_where_X5_gatherRing : GoodIn wsX5_where (wsV RX5 127 RX5 yX5_gatherRing wsX5_gatherRing) := goodIn_app (goodIn_of _ (by decide +kernel)) ggX5_where_X5_gatherRing
set_option maxRecDepth 20000 in
theorem ggX5_where_X4_locate : GoodIn wsX5_where wsX4_locate := goodIn_r _ [81, 20, 21, 82, 83, 84, 85, 86, 18, 87, 88, 89, 90, 44, 91, 46, 47, 92, 42, 43, 45, 93, 94, 95, 96, 97, 98, 99, 100, 101, 102, 103, 115, 116, 117, 118, 111, 112, 113, 114] (by decide +kernel) (by decide +kernel)
set_option maxRecDepth 20000 in
theorem gX5_where_X4_locate : GoodIn wsX5_where (wsV RX5 138 RX4 yX4_locate wsX4_locate) := goodIn_app (goodIn_of _ (by decide +kernel)) ggX5_where_X4_locate
theorem dX5_where_0 : decode cX5_where 0 = .ok (.iload_n 1, 1) := by decide +kernel
theorem dX5_where_1 : decode cX5_where 1 = .ok (.iload_n 2, 1) := by decide +kernel
theorem dX5_where_2 : decode cX5_where 2 = .ok (.invokestatic 48, 3) := by decide +kernel
theorem dX5_where_5 : decode cX5_where 5 = .ok (.ifCond .ne 6, 3) := by decide +kernel
theorem dX5_where_8 : decode cX5_where 8 = .ok (.bipush (-2), 2) := by decide +kernel
theorem dX5_where_10 : decode cX5_where 10 = .ok (.ireturn, 1) := by decide +kernel
theorem dX5_where_11 : decode cX5_where 11 = .ok (.aload_n 0, 1) := by decide +kernel
theorem dX5_where_12 : decode cX5_where 12 = .ok (.invokevirtual 127, 3) := by decide +kernel
theorem dX5_where_15 : decode cX5_where 15 = .ok (.aload_n 0, 1) := by decide +kernel
theorem dX5_where_16 : decode cX5_where 16 = .ok (.getfield 36, 3) := by decide +kernel
theorem dX5_where_19 : decode cX5_where 19 = .ok (.aload_n 0, 1) := by decide +kernel
theorem dX5_where_20 : decode cX5_where 20 = .ok (.getfield 10, 3) := by decide +kernel
theorem dX5_where_23 : decode cX5_where 23 = .ok (.iload_n 1, 1) := by decide +kernel
theorem dX5_where_24 : decode cX5_where 24 = .ok (.iload_n 2, 1) := by decide +kernel
theorem dX5_where_25 : decode cX5_where 25 = .ok (.invokevirtual 138, 3) := by decide +kernel
theorem dX5_where_28 : decode cX5_where 28 = .ok (.ireturn, 1) := by decide +kernel
set_option maxRecDepth 20000 in
theorem ggX5_touch_X5_isPlace : GoodIn wsX5_touch wsX5_isPlace := goodIn_r _ [7, 8, 9] (by decide +kernel) (by decide +kernel)
set_option maxRecDepth 20000 in
theorem gX5_touch_X5_isPlace : GoodIn wsX5_touch (va_wsS RX5 48 yX5_isPlace wsX5_isPlace) := goodIn_app (goodIn_of _ (by decide +kernel)) ggX5_touch_X5_isPlace
set_option maxRecDepth 20000 in
theorem ggX5_touch_X5_isSide : GoodIn wsX5_touch wsX5_isSide := goodIn_r _ [12] (by decide +kernel) (by decide +kernel)
set_option maxRecDepth 20000 in
theorem gX5_touch_X5_isSide : GoodIn wsX5_touch (va_wsS RX5 108 yX5_isSide wsX5_isSide) := goodIn_app (goodIn_of _ (by decide +kernel)) ggX5_touch_X5_isSide
set_option maxRecDepth 20000 in
theorem ggX5_touch_X5_gatherRing : GoodIn wsX5_touch wsX5_gatherRing := goodIn_r _ [16, 3, 17, 1, 2, 18, 19, 20, 21, 22, 23, 24, 25, 26, 27, 28, 29, 30, 31, 32, 33, 34, 35, 36, 37, 38, 39, 40, 41, 42, 43, 44, 45, 46, 47, 48, 49, 50, 51, 52, 53, 54, 55, 56, 57, 58, 59, 60, 61, 62, 63, 64, 65, 66, 67, 68, 69, 70, 71, 72, 73, 74, 75, 76, 77, 78, 79, 80, 128, 129, 130, 131, 132, 133, 134, 135, 136, 137, 138, 139, 140, 141, 142] (by decide +kernel) (by decide +kernel)
set_option maxRecDepth 20000 in
theorem gX5_touch_X5_gatherRing : GoodIn wsX5_touch (wsV RX5 127 RX5 yX5_gatherRing wsX5_gatherRing) := goodIn_app (goodIn_of _ (by decide +kernel)) ggX5_touch_X5_gatherRing
set_option maxRecDepth 20000 in
theorem ggX5_touch_X4_locate : GoodIn wsX5_touch wsX4_locate := goodIn_r _ [84, 23, 24, 85, 86, 87, 88, 89, 21, 90, 91, 92, 93, 47, 94, 49, 50, 95, 45, 46, 48, 96, 97, 98, 99, 100, 101, 102, 103, 104, 105, 106, 139, 140, 141, 142, 135, 136, 137, 138] (by decide +kernel) (by decide +kernel)
set_option maxRecDepth 20000 in
theorem gX5_touch_X4_locate : GoodIn wsX5_touch (wsV RX5 138 RX4 yX4_locate wsX4_locate) := goodIn_app (goodIn_of _ (by decide +kernel)) ggX5_touch_X4_locate
set_option maxRecDepth 20000 in
theorem ggX5_touch_X4_nearestTouching : GoodIn wsX5_touch wsX4_nearestTouching := goodIn_r _ [110, 23, 24, 85, 86, 111, 112, 113, 21, 114, 95, 45, 46, 47, 48, 49, 50, 115, 116, 117, 118, 119, 120, 121, 139, 140, 141, 142, 135, 136, 137, 138] (by decide +kernel) (by decide +kernel)
set_option maxRecDepth 20000 in
theorem gX5_touch_X4_nearestTouching : GoodIn wsX5_touch (wsV RX5 141 RX4 yX4_nearestTouching wsX4_nearestTouching) := goodIn_app (goodIn_of _ (by decide +kernel)) ggX5_touch_X4_nearestTouching
set_option maxRecDepth 20000 in
theorem ggX5_touch_X3_idAt : GoodIn wsX5_touch wsX3_idAt := goodIn_r _ [125, 126, 127, 135, 136, 137, 138] (by decide +kernel) (by decide +kernel)
set_option maxRecDepth 20000 in
theorem gX5_touch_X3_idAt : GoodIn wsX5_touch (wsV RX5 89 RX3 yX3_idAt wsX3_idAt) := goodIn_app (goodIn_of _ (by decide +kernel)) ggX5_touch_X3_idAt
theorem dX5_touch_0 : decode cX5_touch 0 = .ok (.iload_n 1, 1) := by decide +kernel
theorem dX5_touch_1 : decode cX5_touch 1 = .ok (.iload_n 2, 1) := by decide +kernel
theorem dX5_touch_2 : decode cX5_touch 2 = .ok (.invokestatic 48, 3) := by decide +kernel
theorem dX5_touch_5 : decode cX5_touch 5 = .ok (.ifCond .eq 10, 3) := by decide +kernel
theorem dX5_touch_8 : decode cX5_touch 8 = .ok (.iload_n 3, 1) := by decide +kernel
theorem dX5_touch_9 : decode cX5_touch 9 = .ok (.invokestatic 108, 3) := by decide +kernel
theorem dX5_touch_12 : decode cX5_touch 12 = .ok (.ifCond .ne 6, 3) := by decide +kernel
theorem dX5_touch_15 : decode cX5_touch 15 = .ok (.bipush (-2), 2) := by decide +kernel
theorem dX5_touch_17 : decode cX5_touch 17 = .ok (.ireturn, 1) := by decide +kernel
theorem dX5_touch_18 : decode cX5_touch 18 = .ok (.aload_n 0, 1) := by decide +kernel
theorem dX5_touch_19 : decode cX5_touch 19 = .ok (.getfield 10, 3) := by decide +kernel
theorem dX5_touch_22 : decode cX5_touch 22 = .ok (.getfield 63, 3) := by decide +kernel
theorem dX5_touch_25 : decode cX5_touch 25 = .ok (.ifCond .ne 6, 3) := by decide +kernel
theorem dX5_touch_28 : decode cX5_touch 28 = .ok (.bipush (-5), 2) := by decide +kernel
theorem dX5_touch_30 : decode cX5_touch 30 = .ok (.ireturn, 1) := by decide +kernel
theorem dX5_touch_31 : decode cX5_touch 31 = .ok (.aload_n 0, 1) := by decide +kernel
theorem dX5_touch_32 : decode cX5_touch 32 = .ok (.invokevirtual 127, 3) := by decide +kernel
theorem dX5_touch_35 : decode cX5_touch 35 = .ok (.aload_n 0, 1) := by decide +kernel
theorem dX5_touch_36 : decode cX5_touch 36 = .ok (.getfield 36, 3) := by decide +kernel
theorem dX5_touch_39 : decode cX5_touch 39 = .ok (.aload_n 0, 1) := by decide +kernel
theorem dX5_touch_40 : decode cX5_touch 40 = .ok (.getfield 10, 3) := by decide +kernel
theorem dX5_touch_43 : decode cX5_touch 43 = .ok (.iload_n 1, 1) := by decide +kernel
theorem dX5_touch_44 : decode cX5_touch 44 = .ok (.iload_n 2, 1) := by decide +kernel
theorem dX5_touch_45 : decode cX5_touch 45 = .ok (.invokevirtual 138, 3) := by decide +kernel
theorem dX5_touch_48 : decode cX5_touch 48 = .ok (.ifCond .eq 6, 3) := by decide +kernel
theorem dX5_touch_51 : decode cX5_touch 51 = .ok (.bipush (-3), 2) := by decide +kernel
theorem dX5_touch_53 : decode cX5_touch 53 = .ok (.ireturn, 1) := by decide +kernel
theorem dX5_touch_54 : decode cX5_touch 54 = .ok (.aload_n 0, 1) := by decide +kernel
theorem dX5_touch_55 : decode cX5_touch 55 = .ok (.getfield 10, 3) := by decide +kernel
theorem dX5_touch_58 : decode cX5_touch 58 = .ok (.aload_n 0, 1) := by decide +kernel
theorem dX5_touch_59 : decode cX5_touch 59 = .ok (.getfield 36, 3) := by decide +kernel
theorem dX5_touch_62 : decode cX5_touch 62 = .ok (.aload_n 0, 1) := by decide +kernel
theorem dX5_touch_63 : decode cX5_touch 63 = .ok (.getfield 10, 3) := by decide +kernel
theorem dX5_touch_66 : decode cX5_touch 66 = .ok (.iload_n 1, 1) := by decide +kernel
theorem dX5_touch_67 : decode cX5_touch 67 = .ok (.iload_n 2, 1) := by decide +kernel
theorem dX5_touch_68 : decode cX5_touch 68 = .ok (.iload_n 3, 1) := by decide +kernel
theorem dX5_touch_69 : decode cX5_touch 69 = .ok (.invokevirtual 141, 3) := by decide +kernel
theorem dX5_touch_72 : decode cX5_touch 72 = .ok (.invokevirtual 89, 3) := by decide +kernel
theorem dX5_touch_75 : decode cX5_touch 75 = .ok (.ireturn, 1) := by decide +kernel
set_option maxRecDepth 20000 in
theorem ggX5_area_X5_gatherRing : GoodIn wsX5_area wsX5_gatherRing := goodIn_r _ [7, 1, 8, 2, 9, 10, 11, 12, 13, 14, 15, 16, 17, 18, 19, 20, 21, 22, 23, 24, 25, 26, 27, 28, 29, 30, 31, 32, 33, 34, 35, 36, 37, 38, 39, 40, 41, 42, 43, 44, 45, 46, 47, 48, 49, 50, 51, 52, 53, 54, 55, 56, 57, 58, 59, 60, 61, 62, 63, 64, 65, 66, 67, 68, 69, 70, 71, 72, 82, 83, 84, 85, 86, 87, 88, 89, 90, 91, 92, 93, 94, 95, 96] (by decide +kernel) (by decide +kernel)
set_option maxRecDepth 20000 in
theorem gX5_area_X5_gatherRing : GoodIn wsX5_area (wsV RX5 127 RX5 yX5_gatherRing wsX5_gatherRing) := goodIn_app (goodIn_of _ (by decide +kernel)) ggX5_area_X5_gatherRing
set_option maxRecDepth 20000 in
theorem ggX5_area_X4_doubleArea : GoodIn wsX5_area wsX4_doubleArea := goodIn_r _ [76, 15, 16, 77, 78, 79, 80, 81, 37, 38, 39, 40, 41, 42, 93, 94, 95, 96, 89, 90, 91, 92] (by decide +kernel) (by decide +kernel)
set_option maxRecDepth 20000 in
theorem gX5_area_X4_doubleArea : GoodIn wsX5_area (wsV RX5 145 RX4 yX4_doubleArea wsX4_doubleArea) := goodIn_app (goodIn_of _ (by decide +kernel)) ggX5_area_X4_doubleArea
theorem dX5_area_0 : decode cX5_area 0 = .ok (.aload_n 0, 1) := by decide +kernel
theorem dX5_area_1 : decode cX5_area 1 = .ok (.invokevirtual 127, 3) := by decide +kernel
theorem dX5_area_4 : decode cX5_area 4 = .ok (.aload_n 0, 1) := by decide +kernel
theorem dX5_area_5 : decode cX5_area 5 = .ok (.getfield 36, 3) := by decide +kernel
theorem dX5_area_8 : decode cX5_area 8 = .ok (.aload_n 0, 1) := by decide +kernel
theorem dX5_area_9 : decode cX5_area 9 = .ok (.getfield 10, 3) := by decide +kernel
theorem dX5_area_12 : decode cX5_area 12 = .ok (.invokevirtual 145, 3) := by decide +kernel
theorem dX5_area_15 : decode cX5_area 15 = .ok (.lreturn, 1) := by decide +kernel
set_option maxRecDepth 20000 in
theorem ggX5_image_X5_isImage : GoodIn wsX5_image wsX5_isImage := goodIn_r _ [7] (by decide +kernel) (by decide +kernel)
set_option maxRecDepth 20000 in
theorem gX5_image_X5_isImage : GoodIn wsX5_image (va_wsS RX5 149 yX5_isImage wsX5_isImage) := goodIn_app (goodIn_of _ (by decide +kernel)) ggX5_image_X5_isImage
set_option maxRecDepth 20000 in
theorem ggX5_image_X3_copyFrom : GoodIn wsX5_image wsX3_copyFrom := goodIn_r _ [12, 13, 14, 15, 16, 17, 18, 19, 11, 20, 28, 29, 30, 31] (by decide +kernel) (by decide +kernel)
set_option maxRecDepth 20000 in
theorem gX5_image_X3_copyFrom : GoodIn wsX5_image (wsV RX5 152 RX3 yX3_copyFrom wsX3_copyFrom) := goodIn_app (goodIn_of _ (by decide +kernel)) ggX5_image_X3_copyFrom
theorem dX5_image_0 : decode cX5_image 0 = .ok (.iload_n 1, 1) := by decide +kernel
theorem dX5_image_1 : decode cX5_image 1 = .ok (.invokestatic 149, 3) := by decide +kernel
theorem dX5_image_4 : decode cX5_image 4 = .ok (.ifCond .ne 6, 3) := by decide +kernel
theorem dX5_image_7 : decode cX5_image 7 = .ok (.bipush (-2), 2) := by decide +kernel
theorem dX5_image_9 : decode cX5_image 9 = .ok (.ireturn, 1) := by decide +kernel
theorem dX5_image_10 : decode cX5_image 10 = .ok (.aload_n 0, 1) := by decide +kernel
theorem dX5_image_11 : decode cX5_image 11 = .ok (.getfield 40, 3) := by decide +kernel
theorem dX5_image_14 : decode cX5_image 14 = .ok (.iload_n 1, 1) := by decide +kernel
theorem dX5_image_15 : decode cX5_image 15 = .ok (.aaload, 1) := by decide +kernel
theorem dX5_image_16 : decode cX5_image 16 = .ok (.aload_n 0, 1) := by decide +kernel
theorem dX5_image_17 : decode cX5_image 17 = .ok (.getfield 10, 3) := by decide +kernel
theorem dX5_image_20 : decode cX5_image 20 = .ok (.invokevirtual 152, 3) := by decide +kernel
theorem dX5_image_23 : decode cX5_image 23 = .ok (.aload_n 0, 1) := by decide +kernel
theorem dX5_image_24 : decode cX5_image 24 = .ok (.getfield 44, 3) := by decide +kernel
theorem dX5_image_27 : decode cX5_image 27 = .ok (.iload_n 1, 1) := by decide +kernel
theorem dX5_image_28 : decode cX5_image 28 = .ok (.iconst 1, 1) := by decide +kernel
theorem dX5_image_29 : decode cX5_image 29 = .ok (.bastore, 1) := by decide +kernel
theorem dX5_image_30 : decode cX5_image 30 = .ok (.iconst 1, 1) := by decide +kernel
theorem dX5_image_31 : decode cX5_image 31 = .ok (.ireturn, 1) := by decide +kernel
set_option maxRecDepth 20000 in
theorem ggX5_restore_X5_isImage : GoodIn wsX5_restore wsX5_isImage := goodIn_r _ [9] (by decide +kernel) (by decide +kernel)
set_option maxRecDepth 20000 in
theorem gX5_restore_X5_isImage : GoodIn wsX5_restore (va_wsS RX5 149 yX5_isImage wsX5_isImage) := goodIn_app (goodIn_of _ (by decide +kernel)) ggX5_restore_X5_isImage
set_option maxRecDepth 20000 in
theorem ggX5_restore_X3_copyFrom : GoodIn wsX5_restore wsX3_copyFrom := goodIn_r _ [14, 15, 16, 17, 18, 19, 20, 21, 13, 22, 41, 42, 43, 44] (by decide +kernel) (by decide +kernel)
set_option maxRecDepth 20000 in
theorem gX5_restore_X3_copyFrom : GoodIn wsX5_restore (wsV RX5 152 RX3 yX3_copyFrom wsX3_copyFrom) := goodIn_app (goodIn_of _ (by decide +kernel)) ggX5_restore_X3_copyFrom
set_option maxRecDepth 20000 in
theorem ggX5_restore_X2_split : GoodIn wsX5_restore wsX2_split := goodIn_r _ [27, 28, 29, 30, 31, 32, 26, 33, 45, 46] (by decide +kernel) (by decide +kernel)
set_option maxRecDepth 20000 in
theorem gX5_restore_X2_split : GoodIn wsX5_restore (wsV RX5 67 RX2 yX2_split wsX2_split) := goodIn_app (goodIn_of _ (by decide +kernel)) ggX5_restore_X2_split
theorem dX5_restore_0 : decode cX5_restore 0 = .ok (.iload_n 1, 1) := by decide +kernel
theorem dX5_restore_1 : decode cX5_restore 1 = .ok (.invokestatic 149, 3) := by decide +kernel
theorem dX5_restore_4 : decode cX5_restore 4 = .ok (.ifCond .ne 6, 3) := by decide +kernel
theorem dX5_restore_7 : decode cX5_restore 7 = .ok (.bipush (-2), 2) := by decide +kernel
theorem dX5_restore_9 : decode cX5_restore 9 = .ok (.ireturn, 1) := by decide +kernel
theorem dX5_restore_10 : decode cX5_restore 10 = .ok (.aload_n 0, 1) := by decide +kernel
theorem dX5_restore_11 : decode cX5_restore 11 = .ok (.getfield 44, 3) := by decide +kernel
theorem dX5_restore_14 : decode cX5_restore 14 = .ok (.iload_n 1, 1) := by decide +kernel
theorem dX5_restore_15 : decode cX5_restore 15 = .ok (.baload, 1) := by decide +kernel
theorem dX5_restore_16 : decode cX5_restore 16 = .ok (.ifCond .ne 6, 3) := by decide +kernel
theorem dX5_restore_19 : decode cX5_restore 19 = .ok (.bipush (-3), 2) := by decide +kernel
theorem dX5_restore_21 : decode cX5_restore 21 = .ok (.ireturn, 1) := by decide +kernel
theorem dX5_restore_22 : decode cX5_restore 22 = .ok (.aload_n 0, 1) := by decide +kernel
theorem dX5_restore_23 : decode cX5_restore 23 = .ok (.getfield 10, 3) := by decide +kernel
theorem dX5_restore_26 : decode cX5_restore 26 = .ok (.aload_n 0, 1) := by decide +kernel
theorem dX5_restore_27 : decode cX5_restore 27 = .ok (.getfield 40, 3) := by decide +kernel
theorem dX5_restore_30 : decode cX5_restore 30 = .ok (.iload_n 1, 1) := by decide +kernel
theorem dX5_restore_31 : decode cX5_restore 31 = .ok (.aaload, 1) := by decide +kernel
theorem dX5_restore_32 : decode cX5_restore 32 = .ok (.invokevirtual 152, 3) := by decide +kernel
theorem dX5_restore_35 : decode cX5_restore 35 = .ok (.aload_n 0, 1) := by decide +kernel
theorem dX5_restore_36 : decode cX5_restore 36 = .ok (.getfield 19, 3) := by decide +kernel
theorem dX5_restore_39 : decode cX5_restore 39 = .ok (.aload_n 0, 1) := by decide +kernel
theorem dX5_restore_40 : decode cX5_restore 40 = .ok (.getfield 10, 3) := by decide +kernel
theorem dX5_restore_43 : decode cX5_restore 43 = .ok (.getfield 63, 3) := by decide +kernel
theorem dX5_restore_46 : decode cX5_restore 46 = .ok (.invokevirtual 67, 3) := by decide +kernel
theorem dX5_restore_49 : decode cX5_restore 49 = .ok (.iconst 1, 1) := by decide +kernel
theorem dX5_restore_50 : decode cX5_restore 50 = .ok (.ireturn, 1) := by decide +kernel
set_option maxRecDepth 20000 in
theorem ggX5_told_X2_howMany : GoodIn wsX5_told wsX2_howMany := goodIn_r _ [8, 9, 10, 11, 7, 12, 13, 99, 100] (by decide +kernel) (by decide +kernel)
set_option maxRecDepth 20000 in
theorem gX5_told_X2_howMany : GoodIn wsX5_told (wsV RX5 156 RX2 yX2_howMany wsX2_howMany) := goodIn_app (goodIn_of _ (by decide +kernel)) ggX5_told_X2_howMany
set_option maxRecDepth 20000 in
theorem ggX5_told_X5_cornersOfAll : GoodIn wsX5_told wsX5_cornersOfAll := goodIn_r _ [18, 3, 19, 10, 11, 7, 12, 13, 20, 21, 22, 17, 23, 24, 25, 26, 27, 28, 29, 30, 1, 31, 32, 33, 34, 35, 36, 37, 38, 39, 40, 41, 42, 43, 44, 45, 46, 47, 48, 49, 50, 51, 52, 53, 54, 55, 56, 57, 58, 59, 60, 61, 62, 63, 64, 65, 88, 89, 90, 91, 92, 93, 94, 99, 100, 101, 102, 103, 104, 95, 96, 97, 98] (by decide +kernel) (by decide +kernel)
set_option maxRecDepth 20000 in
theorem gX5_told_X5_cornersOfAll : GoodIn wsX5_told (wsV RX5 159 RX5 yX5_cornersOfAll wsX5_cornersOfAll) := goodIn_app (goodIn_of _ (by decide +kernel)) ggX5_told_X5_cornersOfAll
set_option maxRecDepth 20000 in
theorem ggX5_told_X5_restsOfAll : GoodIn wsX5_told wsX5_restsOfAll := goodIn_r _ [69, 3, 19, 10, 11, 7, 12, 13, 70, 71, 72, 17, 73, 24, 74, 25, 26, 75, 45, 27, 28, 29, 30, 1, 31, 32, 33, 34, 35, 36, 37, 38, 39, 40, 41, 42, 43, 44, 46, 47, 48, 49, 50, 51, 52, 53, 54, 55, 56, 57, 58, 59, 60, 61, 62, 63, 64, 65, 76, 77, 78, 79, 80, 88, 89, 90, 91, 92, 93, 94, 99, 100, 101, 102, 103, 104, 95, 96, 97, 98] (by decide +kernel) (by decide +kernel)
set_option maxRecDepth 20000 in
theorem gX5_told_X5_restsOfAll : GoodIn wsX5_told (wsV RX5 162 RX5 yX5_restsOfAll wsX5_restsOfAll) := goodIn_app (goodIn_of _ (by decide +kernel)) ggX5_told_X5_restsOfAll
set_option maxRecDepth 20000 in
theorem ggX5_told_X2_greatestDepth : GoodIn wsX5_told wsX2_greatestDepth := goodIn_r _ [84, 9, 10, 11, 7, 12, 13, 85, 86, 87, 99, 100] (by decide +kernel) (by decide +kernel)
set_option maxRecDepth 20000 in
theorem gX5_told_X2_greatestDepth : GoodIn wsX5_told (wsV RX5 165 RX2 yX2_greatestDepth wsX2_greatestDepth) := goodIn_app (goodIn_of _ (by decide +kernel)) ggX5_told_X2_greatestDepth
theorem dX5_told_0 : decode cX5_told 0 = .ok (.iload_n 1, 1) := by decide +kernel
theorem dX5_told_1 : decode cX5_told 1 = .ok (.tableswitch 69 0 4 #[35, 43, 51, 56, 61], 35) := by decide +kernel
theorem dX5_told_36 : decode cX5_told 36 = .ok (.aload_n 0, 1) := by decide +kernel
theorem dX5_told_37 : decode cX5_told 37 = .ok (.getfield 10, 3) := by decide +kernel
theorem dX5_told_40 : decode cX5_told 40 = .ok (.getfield 63, 3) := by decide +kernel
theorem dX5_told_43 : decode cX5_told 43 = .ok (.ireturn, 1) := by decide +kernel
theorem dX5_told_44 : decode cX5_told 44 = .ok (.aload_n 0, 1) := by decide +kernel
theorem dX5_told_45 : decode cX5_told 45 = .ok (.getfield 19, 3) := by decide +kernel
theorem dX5_told_48 : decode cX5_told 48 = .ok (.invokevirtual 156, 3) := by decide +kernel
theorem dX5_told_51 : decode cX5_told 51 = .ok (.ireturn, 1) := by decide +kernel
theorem dX5_told_52 : decode cX5_told 52 = .ok (.aload_n 0, 1) := by decide +kernel
theorem dX5_told_53 : decode cX5_told 53 = .ok (.invokevirtual 159, 3) := by decide +kernel
theorem dX5_told_56 : decode cX5_told 56 = .ok (.ireturn, 1) := by decide +kernel
theorem dX5_told_57 : decode cX5_told 57 = .ok (.aload_n 0, 1) := by decide +kernel
theorem dX5_told_58 : decode cX5_told 58 = .ok (.invokevirtual 162, 3) := by decide +kernel
theorem dX5_told_61 : decode cX5_told 61 = .ok (.ireturn, 1) := by decide +kernel
theorem dX5_told_62 : decode cX5_told 62 = .ok (.aload_n 0, 1) := by decide +kernel
theorem dX5_told_63 : decode cX5_told 63 = .ok (.getfield 19, 3) := by decide +kernel
theorem dX5_told_66 : decode cX5_told 66 = .ok (.invokevirtual 165, 3) := by decide +kernel
theorem dX5_told_69 : decode cX5_told 69 = .ok (.ireturn, 1) := by decide +kernel
theorem dX5_told_70 : decode cX5_told 70 = .ok (.bipush (-2), 2) := by decide +kernel
theorem dX5_told_72 : decode cX5_told 72 = .ok (.ireturn, 1) := by decide +kernel
theorem dX5_isPlace_0 : decode cX5_isPlace 0 = .ok (.iload_n 0, 1) := by decide +kernel
theorem dX5_isPlace_1 : decode cX5_isPlace 1 = .ok (.ldc 168, 2) := by decide +kernel
theorem dX5_isPlace_3 : decode cX5_isPlace 3 = .ok (.if_icmp .lt 25, 3) := by decide +kernel
theorem dX5_isPlace_6 : decode cX5_isPlace 6 = .ok (.iload_n 0, 1) := by decide +kernel
theorem dX5_isPlace_7 : decode cX5_isPlace 7 = .ok (.ldc 169, 2) := by decide +kernel
theorem dX5_isPlace_9 : decode cX5_isPlace 9 = .ok (.if_icmp .gt 19, 3) := by decide +kernel
theorem dX5_isPlace_12 : decode cX5_isPlace 12 = .ok (.iload_n 1, 1) := by decide +kernel
theorem dX5_isPlace_13 : decode cX5_isPlace 13 = .ok (.ldc 168, 2) := by decide +kernel
theorem dX5_isPlace_15 : decode cX5_isPlace 15 = .ok (.if_icmp .lt 13, 3) := by decide +kernel
theorem dX5_isPlace_18 : decode cX5_isPlace 18 = .ok (.iload_n 1, 1) := by decide +kernel
theorem dX5_isPlace_19 : decode cX5_isPlace 19 = .ok (.ldc 169, 2) := by decide +kernel
theorem dX5_isPlace_21 : decode cX5_isPlace 21 = .ok (.if_icmp .gt 7, 3) := by decide +kernel
theorem dX5_isPlace_24 : decode cX5_isPlace 24 = .ok (.iconst 1, 1) := by decide +kernel
theorem dX5_isPlace_25 : decode cX5_isPlace 25 = .ok (.goto 4, 3) := by decide +kernel
theorem dX5_isPlace_28 : decode cX5_isPlace 28 = .ok (.iconst 0, 1) := by decide +kernel
theorem dX5_isPlace_29 : decode cX5_isPlace 29 = .ok (.ireturn, 1) := by decide +kernel
theorem dX5_isSide_0 : decode cX5_isSide 0 = .ok (.iload_n 0, 1) := by decide +kernel
theorem dX5_isSide_1 : decode cX5_isSide 1 = .ok (.ifCond .eq 8, 3) := by decide +kernel
theorem dX5_isSide_4 : decode cX5_isSide 4 = .ok (.iload_n 0, 1) := by decide +kernel
theorem dX5_isSide_5 : decode cX5_isSide 5 = .ok (.iconst 1, 1) := by decide +kernel
theorem dX5_isSide_6 : decode cX5_isSide 6 = .ok (.if_icmp .ne 7, 3) := by decide +kernel
theorem dX5_isSide_9 : decode cX5_isSide 9 = .ok (.iconst 1, 1) := by decide +kernel
theorem dX5_isSide_10 : decode cX5_isSide 10 = .ok (.goto 4, 3) := by decide +kernel
theorem dX5_isSide_13 : decode cX5_isSide 13 = .ok (.iconst 0, 1) := by decide +kernel
theorem dX5_isSide_14 : decode cX5_isSide 14 = .ok (.ireturn, 1) := by decide +kernel
theorem dX5_isImage_0 : decode cX5_isImage 0 = .ok (.iload_n 0, 1) := by decide +kernel
theorem dX5_isImage_1 : decode cX5_isImage 1 = .ok (.ifCond .lt 12, 3) := by decide +kernel
theorem dX5_isImage_4 : decode cX5_isImage 4 = .ok (.iload_n 0, 1) := by decide +kernel
theorem dX5_isImage_5 : decode cX5_isImage 5 = .ok (.iconst 2, 1) := by decide +kernel
theorem dX5_isImage_6 : decode cX5_isImage 6 = .ok (.if_icmp .ge 7, 3) := by decide +kernel
theorem dX5_isImage_9 : decode cX5_isImage 9 = .ok (.iconst 1, 1) := by decide +kernel
theorem dX5_isImage_10 : decode cX5_isImage 10 = .ok (.goto 4, 3) := by decide +kernel
theorem dX5_isImage_13 : decode cX5_isImage 13 = .ok (.iconst 0, 1) := by decide +kernel
theorem dX5_isImage_14 : decode cX5_isImage 14 = .ok (.ireturn, 1) := by decide +kernel
set_option maxRecDepth 20000 in
theorem ggX5_trace_X0_trace : GoodIn wsX5_trace wsX0_trace := goodIn_r _ [9, 10, 11, 12, 13, 14, 8, 15, 16, 17, 18, 19, 20, 21, 22, 23, 24, 25, 26, 27, 28, 29, 30, 31, 32, 33, 34, 35, 36, 37, 38, 48, 49, 50, 51, 52, 53, 54, 55] (by decide +kernel) (by decide +kernel)
set_option maxRecDepth 20000 in
theorem gX5_trace_X0_trace : GoodIn wsX5_trace (wsV RX5 170 RX0 yX0_trace wsX0_trace) := goodIn_app (goodIn_of _ (by decide +kernel)) ggX5_trace_X0_trace
theorem dX5_trace_0 : decode cX5_trace 0 = .ok (.aload_n 1, 1) := by decide +kernel
theorem dX5_trace_1 : decode cX5_trace 1 = .ok (.aload_n 0, 1) := by decide +kernel
theorem dX5_trace_2 : decode cX5_trace 2 = .ok (.getfield 10, 3) := by decide +kernel
theorem dX5_trace_5 : decode cX5_trace 5 = .ok (.aload_n 0, 1) := by decide +kernel
theorem dX5_trace_6 : decode cX5_trace 6 = .ok (.getfield 19, 3) := by decide +kernel
theorem dX5_trace_9 : decode cX5_trace 9 = .ok (.getfield 99, 3) := by decide +kernel
theorem dX5_trace_12 : decode cX5_trace 12 = .ok (.iload_n 2, 1) := by decide +kernel
theorem dX5_trace_13 : decode cX5_trace 13 = .ok (.iaload, 1) := by decide +kernel
theorem dX5_trace_14 : decode cX5_trace 14 = .ok (.aload_n 0, 1) := by decide +kernel
theorem dX5_trace_15 : decode cX5_trace 15 = .ok (.getfield 19, 3) := by decide +kernel
theorem dX5_trace_18 : decode cX5_trace 18 = .ok (.getfield 96, 3) := by decide +kernel
theorem dX5_trace_21 : decode cX5_trace 21 = .ok (.iload_n 2, 1) := by decide +kernel
theorem dX5_trace_22 : decode cX5_trace 22 = .ok (.iaload, 1) := by decide +kernel
theorem dX5_trace_23 : decode cX5_trace 23 = .ok (.iload_n 3, 1) := by decide +kernel
theorem dX5_trace_24 : decode cX5_trace 24 = .ok (.invokevirtual 170, 3) := by decide +kernel
theorem dX5_trace_27 : decode cX5_trace 27 = .ok (.return_, 1) := by decide +kernel
set_option maxRecDepth 20000 in
theorem ggX5_cornersOf_X5_trace : GoodIn wsX5_cornersOf wsX5_trace := goodIn_r _ [8, 9, 10, 11, 12, 13, 14, 15, 16, 17, 18, 3, 19, 20, 21, 22, 23, 24, 25, 26, 27, 28, 29, 30, 31, 32, 33, 34, 35, 36, 37, 38, 39, 40, 41, 42, 43, 44, 45, 46, 47, 48, 49, 50, 51, 52, 57, 58, 53, 54, 55, 56, 59, 60, 61, 62] (by decide +kernel) (by decide +kernel)
set_option maxRecDepth 20000 in
theorem gX5_cornersOf_X5_trace : GoodIn wsX5_cornersOf (wsV RX5 111 RX5 yX5_trace wsX5_trace) := goodIn_app (goodIn_of _ (by decide +kernel)) ggX5_cornersOf_X5_trace
theorem dX5_cornersOf_0 : decode cX5_cornersOf 0 = .ok (.aload_n 0, 1) := by decide +kernel
theorem dX5_cornersOf_1 : decode cX5_cornersOf 1 = .ok (.aload_n 0, 1) := by decide +kernel
theorem dX5_cornersOf_2 : decode cX5_cornersOf 2 = .ok (.getfield 26, 3) := by decide +kernel
theorem dX5_cornersOf_5 : decode cX5_cornersOf 5 = .ok (.iload_n 1, 1) := by decide +kernel
theorem dX5_cornersOf_6 : decode cX5_cornersOf 6 = .ok (.iload_n 2, 1) := by decide +kernel
theorem dX5_cornersOf_7 : decode cX5_cornersOf 7 = .ok (.invokevirtual 111, 3) := by decide +kernel
theorem dX5_cornersOf_10 : decode cX5_cornersOf 10 = .ok (.aload_n 0, 1) := by decide +kernel
theorem dX5_cornersOf_11 : decode cX5_cornersOf 11 = .ok (.getfield 26, 3) := by decide +kernel
theorem dX5_cornersOf_14 : decode cX5_cornersOf 14 = .ok (.getfield 173, 3) := by decide +kernel
theorem dX5_cornersOf_17 : decode cX5_cornersOf 17 = .ok (.ireturn, 1) := by decide +kernel
set_option maxRecDepth 20000 in
theorem ggX5_restOf_X5_trace : GoodIn wsX5_restOf wsX5_trace := goodIn_r _ [11, 12, 13, 14, 15, 16, 17, 18, 19, 20, 21, 4, 22, 23, 24, 25, 26, 27, 6, 28, 29, 30, 31, 32, 33, 34, 35, 36, 37, 38, 39, 40, 41, 42, 43, 44, 45, 46, 47, 53, 54, 55, 56, 57, 58, 59, 64, 65, 60, 61, 62, 63, 66, 67, 68, 69] (by decide +kernel) (by decide +kernel)
set_option maxRecDepth 20000 in
theorem gX5_restOf_X5_trace : GoodIn wsX5_restOf (wsV RX5 111 RX5 yX5_trace wsX5_trace) := goodIn_app (goodIn_of _ (by decide +kernel)) ggX5_restOf_X5_trace
set_option maxRecDepth 20000 in
theorem ggX5_restOf_X1_has : GoodIn wsX5_restOf wsX1_has := goodIn_r _ [52, 46, 47, 60, 61, 62, 63] (by decide +kernel) (by decide +kernel)
set_option maxRecDepth 20000 in
theorem gX5_restOf_X1_has_u177X0 : GoodIn wsX5_restOf (va_wsU RX5 177 RX0 "LiveHull$Corners" ⟨"LiveHull$Chain", "has", "(I)Z"⟩ yX1_has wsX1_has) := goodIn_app (goodIn_of _ (by decide +kernel)) ggX5_restOf_X1_has
theorem dX5_restOf_0 : decode cX5_restOf 0 = .ok (.aload_n 0, 1) := by decide +kernel
theorem dX5_restOf_1 : decode cX5_restOf 1 = .ok (.aload_n 0, 1) := by decide +kernel
theorem dX5_restOf_2 : decode cX5_restOf 2 = .ok (.getfield 26, 3) := by decide +kernel
theorem dX5_restOf_5 : decode cX5_restOf 5 = .ok (.iload_n 1, 1) := by decide +kernel
theorem dX5_restOf_6 : decode cX5_restOf 6 = .ok (.iload_n 2, 1) := by decide +kernel
theorem dX5_restOf_7 : decode cX5_restOf 7 = .ok (.invokevirtual 111, 3) := by decide +kernel
theorem dX5_restOf_10 : decode cX5_restOf 10 = .ok (.aload_n 0, 1) := by decide +kernel
theorem dX5_restOf_11 : decode cX5_restOf 11 = .ok (.aload_n 0, 1) := by decide +kernel
theorem dX5_restOf_12 : decode cX5_restOf 12 = .ok (.getfield 30, 3) := by decide +kernel
theorem dX5_restOf_15 : decode cX5_restOf 15 = .ok (.iload_n 1, 1) := by decide +kernel
theorem dX5_restOf_16 : decode cX5_restOf 16 = .ok (.iconst 2, 1) := by decide +kernel
theorem dX5_restOf_17 : decode cX5_restOf 17 = .ok (.idiv, 1) := by decide +kernel
theorem dX5_restOf_18 : decode cX5_restOf 18 = .ok (.iload_n 2, 1) := by decide +kernel
theorem dX5_restOf_19 : decode cX5_restOf 19 = .ok (.invokevirtual 111, 3) := by decide +kernel
theorem dX5_restOf_22 : decode cX5_restOf 22 = .ok (.iconst 0, 1) := by decide +kernel
theorem dX5_restOf_23 : decode cX5_restOf 23 = .ok (.istore_n 3, 1) := by decide +kernel
theorem dX5_restOf_24 : decode cX5_restOf 24 = .ok (.iconst 0, 1) := by decide +kernel
theorem dX5_restOf_25 : decode cX5_restOf 25 = .ok (.istore 4, 2) := by decide +kernel
theorem dX5_restOf_27 : decode cX5_restOf 27 = .ok (.iload 4, 2) := by decide +kernel
theorem dX5_restOf_29 : decode cX5_restOf 29 = .ok (.aload_n 0, 1) := by decide +kernel
theorem dX5_restOf_30 : decode cX5_restOf 30 = .ok (.getfield 26, 3) := by decide +kernel
theorem dX5_restOf_33 : decode cX5_restOf 33 = .ok (.getfield 173, 3) := by decide +kernel
theorem dX5_restOf_36 : decode cX5_restOf 36 = .ok (.if_icmp .ge 32, 3) := by decide +kernel
theorem dX5_restOf_39 : decode cX5_restOf 39 = .ok (.aload_n 0, 1) := by decide +kernel
theorem dX5_restOf_40 : decode cX5_restOf 40 = .ok (.getfield 30, 3) := by decide +kernel
theorem dX5_restOf_43 : decode cX5_restOf 43 = .ok (.aload_n 0, 1) := by decide +kernel
theorem dX5_restOf_44 : decode cX5_restOf 44 = .ok (.getfield 26, 3) := by decide +kernel
theorem dX5_restOf_47 : decode cX5_restOf 47 = .ok (.getfield 174, 3) := by decide +kernel
theorem dX5_restOf_50 : decode cX5_restOf 50 = .ok (.iload 4, 2) := by decide +kernel
theorem dX5_restOf_52 : decode cX5_restOf 52 = .ok (.iaload, 1) := by decide +kernel
theorem dX5_restOf_53 : decode cX5_restOf 53 = .ok (.invokevirtual 177, 3) := by decide +kernel
theorem dX5_restOf_56 : decode cX5_restOf 56 = .ok (.ifCond .ne 6, 3) := by decide +kernel
theorem dX5_restOf_59 : decode cX5_restOf 59 = .ok (.iinc 3 1, 3) := by decide +kernel
theorem dX5_restOf_62 : decode cX5_restOf 62 = .ok (.iinc 4 1, 3) := by decide +kernel
theorem dX5_restOf_65 : decode cX5_restOf 65 = .ok (.goto (-38), 3) := by decide +kernel
theorem dX5_restOf_68 : decode cX5_restOf 68 = .ok (.iload_n 3, 1) := by decide +kernel
theorem dX5_restOf_69 : decode cX5_restOf 69 = .ok (.ireturn, 1) := by decide +kernel
set_option maxRecDepth 20000 in
theorem ggX5_topOf_X2_holds : GoodIn wsX5_topOf wsX2_holds := goodIn_r _ [7, 8, 9, 10, 11, 12, 6, 13, 71, 72] (by decide +kernel) (by decide +kernel)
set_option maxRecDepth 20000 in
theorem gX5_topOf_X2_holds : GoodIn wsX5_topOf (wsV RX5 178 RX2 yX2_holds wsX2_holds) := goodIn_app (goodIn_of _ (by decide +kernel)) ggX5_topOf_X2_holds
set_option maxRecDepth 20000 in
theorem ggX5_topOf_X5_trace : GoodIn wsX5_topOf wsX5_trace := goodIn_r _ [18, 19, 1, 20, 21, 22, 23, 24, 25, 26, 27, 28, 29, 30, 31, 32, 33, 34, 35, 36, 37, 38, 39, 40, 41, 42, 43, 44, 45, 46, 47, 48, 49, 50, 51, 52, 53, 54, 55, 64, 65, 66, 67, 68, 69, 70, 71, 72, 73, 74, 75, 76, 77, 78, 79, 80] (by decide +kernel) (by decide +kernel)
set_option maxRecDepth 20000 in
theorem gX5_topOf_X5_trace : GoodIn wsX5_topOf (wsV RX5 111 RX5 yX5_trace wsX5_trace) := goodIn_app (goodIn_of _ (by decide +kernel)) ggX5_topOf_X5_trace
set_option maxRecDepth 20000 in
theorem ggX5_topOf_X1_has : GoodIn wsX5_topOf wsX1_has := goodIn_r _ [60, 54, 55, 73, 74, 75, 76] (by decide +kernel) (by decide +kernel)
set_option maxRecDepth 20000 in
theorem gX5_topOf_X1_has_u177X0 : GoodIn wsX5_topOf (va_wsU RX5 177 RX0 "LiveHull$Corners" ⟨"LiveHull$Chain", "has", "(I)Z"⟩ yX1_has wsX1_has) := goodIn_app (goodIn_of _ (by decide +kernel)) ggX5_topOf_X1_has
set_option maxRecDepth 20000 in
theorem ggX5_topOf_X2_depthOf : GoodIn wsX5_topOf wsX2_depthOf := goodIn_r _ [63] (by decide +kernel) (by decide +kernel)
set_option maxRecDepth 20000 in
theorem gX5_topOf_X2_depthOf : GoodIn wsX5_topOf (va_wsS RX5 181 yX2_depthOf wsX2_depthOf) := goodIn_app (goodIn_of _ (by decide +kernel)) ggX5_topOf_X2_depthOf
theorem dX5_topOf_0 : decode cX5_topOf 0 = .ok (.iconst 1, 1) := by decide +kernel
theorem dX5_topOf_1 : decode cX5_topOf 1 = .ok (.istore_n 3, 1) := by decide +kernel
theorem dX5_topOf_2 : decode cX5_topOf 2 = .ok (.iload_n 3, 1) := by decide +kernel
theorem dX5_topOf_3 : decode cX5_topOf 3 = .ok (.bipush 63, 2) := by decide +kernel
theorem dX5_topOf_5 : decode cX5_topOf 5 = .ok (.if_icmp .gt 47, 3) := by decide +kernel
theorem dX5_topOf_8 : decode cX5_topOf 8 = .ok (.aload_n 0, 1) := by decide +kernel
theorem dX5_topOf_9 : decode cX5_topOf 9 = .ok (.getfield 19, 3) := by decide +kernel
theorem dX5_topOf_12 : decode cX5_topOf 12 = .ok (.iload_n 3, 1) := by decide +kernel
theorem dX5_topOf_13 : decode cX5_topOf 13 = .ok (.iload_n 1, 1) := by decide +kernel
theorem dX5_topOf_14 : decode cX5_topOf 14 = .ok (.invokevirtual 178, 3) := by decide +kernel
theorem dX5_topOf_17 : decode cX5_topOf 17 = .ok (.ifCond .eq 29, 3) := by decide +kernel
theorem dX5_topOf_20 : decode cX5_topOf 20 = .ok (.aload_n 0, 1) := by decide +kernel
theorem dX5_topOf_21 : decode cX5_topOf 21 = .ok (.aload_n 0, 1) := by decide +kernel
theorem dX5_topOf_22 : decode cX5_topOf 22 = .ok (.getfield 26, 3) := by decide +kernel
theorem dX5_topOf_25 : decode cX5_topOf 25 = .ok (.iload_n 3, 1) := by decide +kernel
theorem dX5_topOf_26 : decode cX5_topOf 26 = .ok (.iload_n 2, 1) := by decide +kernel
theorem dX5_topOf_27 : decode cX5_topOf 27 = .ok (.invokevirtual 111, 3) := by decide +kernel
theorem dX5_topOf_30 : decode cX5_topOf 30 = .ok (.aload_n 0, 1) := by decide +kernel
theorem dX5_topOf_31 : decode cX5_topOf 31 = .ok (.getfield 26, 3) := by decide +kernel
theorem dX5_topOf_34 : decode cX5_topOf 34 = .ok (.iload_n 1, 1) := by decide +kernel
theorem dX5_topOf_35 : decode cX5_topOf 35 = .ok (.invokevirtual 177, 3) := by decide +kernel
theorem dX5_topOf_38 : decode cX5_topOf 38 = .ok (.ifCond .eq 8, 3) := by decide +kernel
theorem dX5_topOf_41 : decode cX5_topOf 41 = .ok (.iload_n 3, 1) := by decide +kernel
theorem dX5_topOf_42 : decode cX5_topOf 42 = .ok (.invokestatic 181, 3) := by decide +kernel
theorem dX5_topOf_45 : decode cX5_topOf 45 = .ok (.ireturn, 1) := by decide +kernel
theorem dX5_topOf_46 : decode cX5_topOf 46 = .ok (.iinc 3 1, 3) := by decide +kernel
theorem dX5_topOf_49 : decode cX5_topOf 49 = .ok (.goto (-47), 3) := by decide +kernel
theorem dX5_topOf_52 : decode cX5_topOf 52 = .ok (.bipush (-6), 2) := by decide +kernel
theorem dX5_topOf_54 : decode cX5_topOf 54 = .ok (.ireturn, 1) := by decide +kernel
set_option maxRecDepth 20000 in
theorem ggX5_cornersOfAll_X2_has : GoodIn wsX5_cornersOfAll wsX2_has := goodIn_r _ [6, 7, 63, 64] (by decide +kernel) (by decide +kernel)
set_option maxRecDepth 20000 in
theorem gX5_cornersOfAll_X2_has : GoodIn wsX5_cornersOfAll (wsV RX5 92 RX2 yX2_has wsX2_has) := goodIn_app (goodIn_of _ (by decide +kernel)) ggX5_cornersOfAll_X2_has
set_option maxRecDepth 20000 in
theorem ggX5_cornersOfAll_X5_cornersOf : GoodIn wsX5_cornersOfAll wsX5_cornersOf := goodIn_r _ [12, 13, 14, 15, 16, 17, 18, 11, 19, 20, 1, 21, 22, 23, 24, 25, 26, 27, 28, 29, 30, 31, 32, 33, 34, 35, 36, 37, 38, 39, 40, 41, 42, 43, 44, 45, 46, 47, 48, 49, 50, 51, 52, 53, 54, 55, 56, 57, 58, 59, 60, 61, 62, 65, 66, 67, 68, 63, 64, 69, 70, 71, 72] (by decide +kernel) (by decide +kernel)
set_option maxRecDepth 20000 in
theorem gX5_cornersOfAll_X5_cornersOf : GoodIn wsX5_cornersOfAll (wsV RX5 102 RX5 yX5_cornersOf wsX5_cornersOf) := goodIn_app (goodIn_of _ (by decide +kernel)) ggX5_cornersOfAll_X5_cornersOf
theorem dX5_cornersOfAll_0 : decode cX5_cornersOfAll 0 = .ok (.iconst 0, 1) := by decide +kernel
theorem dX5_cornersOfAll_1 : decode cX5_cornersOfAll 1 = .ok (.istore_n 1, 1) := by decide +kernel
theorem dX5_cornersOfAll_2 : decode cX5_cornersOfAll 2 = .ok (.iconst 1, 1) := by decide +kernel
theorem dX5_cornersOfAll_3 : decode cX5_cornersOfAll 3 = .ok (.istore_n 2, 1) := by decide +kernel
theorem dX5_cornersOfAll_4 : decode cX5_cornersOfAll 4 = .ok (.iload_n 2, 1) := by decide +kernel
theorem dX5_cornersOfAll_5 : decode cX5_cornersOfAll 5 = .ok (.bipush 63, 2) := by decide +kernel
theorem dX5_cornersOfAll_7 : decode cX5_cornersOfAll 7 = .ok (.if_icmp .gt 36, 3) := by decide +kernel
theorem dX5_cornersOfAll_10 : decode cX5_cornersOfAll 10 = .ok (.aload_n 0, 1) := by decide +kernel
theorem dX5_cornersOfAll_11 : decode cX5_cornersOfAll 11 = .ok (.getfield 19, 3) := by decide +kernel
theorem dX5_cornersOfAll_14 : decode cX5_cornersOfAll 14 = .ok (.iload_n 2, 1) := by decide +kernel
theorem dX5_cornersOfAll_15 : decode cX5_cornersOfAll 15 = .ok (.invokevirtual 92, 3) := by decide +kernel
theorem dX5_cornersOfAll_18 : decode cX5_cornersOfAll 18 = .ok (.ifCond .eq 19, 3) := by decide +kernel
theorem dX5_cornersOfAll_21 : decode cX5_cornersOfAll 21 = .ok (.iload_n 1, 1) := by decide +kernel
theorem dX5_cornersOfAll_22 : decode cX5_cornersOfAll 22 = .ok (.aload_n 0, 1) := by decide +kernel
theorem dX5_cornersOfAll_23 : decode cX5_cornersOfAll 23 = .ok (.iload_n 2, 1) := by decide +kernel
theorem dX5_cornersOfAll_24 : decode cX5_cornersOfAll 24 = .ok (.iconst 0, 1) := by decide +kernel
theorem dX5_cornersOfAll_25 : decode cX5_cornersOfAll 25 = .ok (.invokevirtual 102, 3) := by decide +kernel
theorem dX5_cornersOfAll_28 : decode cX5_cornersOfAll 28 = .ok (.aload_n 0, 1) := by decide +kernel
theorem dX5_cornersOfAll_29 : decode cX5_cornersOfAll 29 = .ok (.iload_n 2, 1) := by decide +kernel
theorem dX5_cornersOfAll_30 : decode cX5_cornersOfAll 30 = .ok (.iconst 1, 1) := by decide +kernel
theorem dX5_cornersOfAll_31 : decode cX5_cornersOfAll 31 = .ok (.invokevirtual 102, 3) := by decide +kernel
theorem dX5_cornersOfAll_34 : decode cX5_cornersOfAll 34 = .ok (.iadd, 1) := by decide +kernel
theorem dX5_cornersOfAll_35 : decode cX5_cornersOfAll 35 = .ok (.iadd, 1) := by decide +kernel
theorem dX5_cornersOfAll_36 : decode cX5_cornersOfAll 36 = .ok (.istore_n 1, 1) := by decide +kernel
theorem dX5_cornersOfAll_37 : decode cX5_cornersOfAll 37 = .ok (.iinc 2 1, 3) := by decide +kernel
theorem dX5_cornersOfAll_40 : decode cX5_cornersOfAll 40 = .ok (.goto (-36), 3) := by decide +kernel
theorem dX5_cornersOfAll_43 : decode cX5_cornersOfAll 43 = .ok (.iload_n 1, 1) := by decide +kernel
theorem dX5_cornersOfAll_44 : decode cX5_cornersOfAll 44 = .ok (.ireturn, 1) := by decide +kernel
set_option maxRecDepth 20000 in
theorem ggX5_restsOfAll_X2_has : GoodIn wsX5_restsOfAll wsX2_has := goodIn_r _ [6, 7, 70, 71] (by decide +kernel) (by decide +kernel)
set_option maxRecDepth 20000 in
theorem gX5_restsOfAll_X2_has : GoodIn wsX5_restsOfAll (wsV RX5 92 RX2 yX2_has wsX2_has) := goodIn_app (goodIn_of _ (by decide +kernel)) ggX5_restsOfAll_X2_has
set_option maxRecDepth 20000 in
theorem ggX5_restsOfAll_X5_restOf : GoodIn wsX5_restsOfAll wsX5_restOf := goodIn_r _ [12, 13, 14, 15, 16, 17, 18, 19, 20, 21, 11, 22, 23, 1, 24, 25, 26, 27, 28, 29, 30, 31, 32, 33, 34, 35, 36, 37, 38, 39, 40, 41, 42, 43, 44, 45, 46, 47, 48, 49, 50, 51, 52, 53, 54, 55, 56, 57, 58, 59, 60, 61, 62, 63, 64, 65, 66, 67, 68, 69, 72, 73, 74, 75, 70, 71, 76, 77, 78, 79] (by decide +kernel) (by decide +kernel)
set_option maxRecDepth 20000 in
theorem gX5_restsOfAll_X5_restOf : GoodIn wsX5_restsOfAll (wsV RX5 105 RX5 yX5_restOf wsX5_restOf) := goodIn_app (goodIn_of _ (by decide +kernel)) ggX5_restsOfAll_X5_restOf
theorem dX5_restsOfAll_0 : decode cX5_restsOfAll 0 = .ok (.iconst 0, 1) := by decide +kernel
theorem dX5_restsOfAll_1 : decode cX5_restsOfAll 1 = .ok (.istore_n 1, 1) := by decide +kernel
theorem dX5_restsOfAll_2 : decode cX5_restsOfAll 2 = .ok (.iconst 2, 1) := by decide +kernel
theorem dX5_restsOfAll_3 : decode cX5_restsOfAll 3 = .ok (.istore_n 2, 1) := by decide +kernel
theorem dX5_restsOfAll_4 : decode cX5_restsOfAll 4 = .ok (.iload_n 2, 1) := by decide +kernel
theorem dX5_restsOfAll_5 : decode cX5_restsOfAll 5 = .ok (.bipush 63, 2) := by decide +kernel
theorem dX5_restsOfAll_7 : decode cX5_restsOfAll 7 = .ok (.if_icmp .gt 36, 3) := by decide +kernel
theorem dX5_restsOfAll_10 : decode cX5_restsOfAll 10 = .ok (.aload_n 0, 1) := by decide +kernel
theorem dX5_restsOfAll_11 : decode cX5_restsOfAll 11 = .ok (.getfield 19, 3) := by decide +kernel
theorem dX5_restsOfAll_14 : decode cX5_restsOfAll 14 = .ok (.iload_n 2, 1) := by decide +kernel
theorem dX5_restsOfAll_15 : decode cX5_restsOfAll 15 = .ok (.invokevirtual 92, 3) := by decide +kernel
theorem dX5_restsOfAll_18 : decode cX5_restsOfAll 18 = .ok (.ifCond .eq 19, 3) := by decide +kernel
theorem dX5_restsOfAll_21 : decode cX5_restsOfAll 21 = .ok (.iload_n 1, 1) := by decide +kernel
theorem dX5_restsOfAll_22 : decode cX5_restsOfAll 22 = .ok (.aload_n 0, 1) := by decide +kernel
theorem dX5_restsOfAll_23 : decode cX5_restsOfAll 23 = .ok (.iload_n 2, 1) := by decide +kernel
theorem dX5_restsOfAll_24 : decode cX5_restsOfAll 24 = .ok (.iconst 0, 1) := by decide +kernel
theorem dX5_restsOfAll_25 : decode cX5_restsOfAll 25 = .ok (.invokevirtual 105, 3) := by decide +kernel
theorem dX5_restsOfAll_28 : decode cX5_restsOfAll 28 = .ok (.aload_n 0, 1) := by decide +kernel
theorem dX5_restsOfAll_29 : decode cX5_restsOfAll 29 = .ok (.iload_n 2, 1) := by decide +kernel
theorem dX5_restsOfAll_30 : decode cX5_restsOfAll 30 = .ok (.iconst 1, 1) := by decide +kernel
theorem dX5_restsOfAll_31 : decode cX5_restsOfAll 31 = .ok (.invokevirtual 105, 3) := by decide +kernel
theorem dX5_restsOfAll_34 : decode cX5_restsOfAll 34 = .ok (.iadd, 1) := by decide +kernel
theorem dX5_restsOfAll_35 : decode cX5_restsOfAll 35 = .ok (.iadd, 1) := by decide +kernel
theorem dX5_restsOfAll_36 : decode cX5_restsOfAll 36 = .ok (.istore_n 1, 1) := by decide +kernel
theorem dX5_restsOfAll_37 : decode cX5_restsOfAll 37 = .ok (.iinc 2 1, 3) := by decide +kernel
theorem dX5_restsOfAll_40 : decode cX5_restsOfAll 40 = .ok (.goto (-36), 3) := by decide +kernel
theorem dX5_restsOfAll_43 : decode cX5_restsOfAll 43 = .ok (.iload_n 1, 1) := by decide +kernel
theorem dX5_restsOfAll_44 : decode cX5_restsOfAll 44 = .ok (.ireturn, 1) := by decide +kernel
set_option maxRecDepth 20000 in
theorem ggX5_gatherRing_X4_clear : GoodIn wsX5_gatherRing wsX4_clear := goodIn_r _ [9, 10, 11, 79, 80, 81, 82] (by decide +kernel) (by decide +kernel)
set_option maxRecDepth 20000 in
theorem gX5_gatherRing_X4_clear : GoodIn wsX5_gatherRing (wsV RX5 184 RX4 yX4_clear wsX4_clear) := goodIn_app (goodIn_of _ (by decide +kernel)) ggX5_gatherRing_X4_clear
set_option maxRecDepth 20000 in
theorem ggX5_gatherRing_X0_trace : GoodIn wsX5_gatherRing wsX0_trace := goodIn_r _ [16, 17, 18, 19, 20, 21, 15, 22, 23, 24, 25, 26, 27, 28, 29, 30, 31, 32, 33, 34, 35, 36, 37, 38, 39, 40, 41, 42, 43, 44, 45, 79, 80, 81, 82, 75, 76, 77, 78] (by decide +kernel) (by decide +kernel)
set_option maxRecDepth 20000 in
theorem gX5_gatherRing_X0_trace : GoodIn wsX5_gatherRing (wsV RX5 170 RX0 yX0_trace wsX0_trace) := goodIn_app (goodIn_of _ (by decide +kernel)) ggX5_gatherRing_X0_trace
set_option maxRecDepth 20000 in
theorem ggX5_gatherRing_X4_takeRightward : GoodIn wsX5_gatherRing wsX4_takeRightward := goodIn_r _ [49, 50, 18, 51, 25, 52, 53, 54, 8, 55, 56, 57, 58, 59, 42, 60, 44, 45, 61, 62, 63, 41, 43, 79, 80, 81, 82] (by decide +kernel) (by decide +kernel)
set_option maxRecDepth 20000 in
theorem gX5_gatherRing_X4_takeRightward : GoodIn wsX5_gatherRing (wsV RX5 187 RX4 yX4_takeRightward wsX4_takeRightward) := goodIn_app (goodIn_of _ (by decide +kernel)) ggX5_gatherRing_X4_takeRightward
set_option maxRecDepth 20000 in
theorem ggX5_gatherRing_X4_takeLeftward : GoodIn wsX5_gatherRing wsX4_takeLeftward := goodIn_r _ [67, 50, 18, 51, 25, 52, 53, 54, 8, 55, 56, 57, 58, 59, 42, 60, 44, 45, 61, 62, 63, 41, 43, 79, 80, 81, 82] (by decide +kernel) (by decide +kernel)
set_option maxRecDepth 20000 in
theorem gX5_gatherRing_X4_takeLeftward : GoodIn wsX5_gatherRing (wsV RX5 191 RX4 yX4_takeLeftward wsX4_takeLeftward) := goodIn_app (goodIn_of _ (by decide +kernel)) ggX5_gatherRing_X4_takeLeftward
theorem dX5_gatherRing_0 : decode cX5_gatherRing 0 = .ok (.aload_n 0, 1) := by decide +kernel
theorem dX5_gatherRing_1 : decode cX5_gatherRing 1 = .ok (.getfield 36, 3) := by decide +kernel
theorem dX5_gatherRing_4 : decode cX5_gatherRing 4 = .ok (.invokevirtual 184, 3) := by decide +kernel
theorem dX5_gatherRing_7 : decode cX5_gatherRing 7 = .ok (.aload_n 0, 1) := by decide +kernel
theorem dX5_gatherRing_8 : decode cX5_gatherRing 8 = .ok (.getfield 26, 3) := by decide +kernel
theorem dX5_gatherRing_11 : decode cX5_gatherRing 11 = .ok (.aload_n 0, 1) := by decide +kernel
theorem dX5_gatherRing_12 : decode cX5_gatherRing 12 = .ok (.getfield 10, 3) := by decide +kernel
theorem dX5_gatherRing_15 : decode cX5_gatherRing 15 = .ok (.iconst 0, 1) := by decide +kernel
theorem dX5_gatherRing_16 : decode cX5_gatherRing 16 = .ok (.aload_n 0, 1) := by decide +kernel
theorem dX5_gatherRing_17 : decode cX5_gatherRing 17 = .ok (.getfield 10, 3) := by decide +kernel
theorem dX5_gatherRing_20 : decode cX5_gatherRing 20 = .ok (.getfield 63, 3) := by decide +kernel
theorem dX5_gatherRing_23 : decode cX5_gatherRing 23 = .ok (.iconst 1, 1) := by decide +kernel
theorem dX5_gatherRing_24 : decode cX5_gatherRing 24 = .ok (.invokevirtual 170, 3) := by decide +kernel
theorem dX5_gatherRing_27 : decode cX5_gatherRing 27 = .ok (.aload_n 0, 1) := by decide +kernel
theorem dX5_gatherRing_28 : decode cX5_gatherRing 28 = .ok (.getfield 36, 3) := by decide +kernel
theorem dX5_gatherRing_31 : decode cX5_gatherRing 31 = .ok (.aload_n 0, 1) := by decide +kernel
theorem dX5_gatherRing_32 : decode cX5_gatherRing 32 = .ok (.getfield 26, 3) := by decide +kernel
theorem dX5_gatherRing_35 : decode cX5_gatherRing 35 = .ok (.invokevirtual 187, 3) := by decide +kernel
theorem dX5_gatherRing_38 : decode cX5_gatherRing 38 = .ok (.aload_n 0, 1) := by decide +kernel
theorem dX5_gatherRing_39 : decode cX5_gatherRing 39 = .ok (.getfield 26, 3) := by decide +kernel
theorem dX5_gatherRing_42 : decode cX5_gatherRing 42 = .ok (.aload_n 0, 1) := by decide +kernel
theorem dX5_gatherRing_43 : decode cX5_gatherRing 43 = .ok (.getfield 10, 3) := by decide +kernel
theorem dX5_gatherRing_46 : decode cX5_gatherRing 46 = .ok (.iconst 0, 1) := by decide +kernel
theorem dX5_gatherRing_47 : decode cX5_gatherRing 47 = .ok (.aload_n 0, 1) := by decide +kernel
theorem dX5_gatherRing_48 : decode cX5_gatherRing 48 = .ok (.getfield 10, 3) := by decide +kernel
theorem dX5_gatherRing_51 : decode cX5_gatherRing 51 = .ok (.getfield 63, 3) := by decide +kernel
theorem dX5_gatherRing_54 : decode cX5_gatherRing 54 = .ok (.iconst 0, 1) := by decide +kernel
theorem dX5_gatherRing_55 : decode cX5_gatherRing 55 = .ok (.invokevirtual 170, 3) := by decide +kernel
theorem dX5_gatherRing_58 : decode cX5_gatherRing 58 = .ok (.aload_n 0, 1) := by decide +kernel
theorem dX5_gatherRing_59 : decode cX5_gatherRing 59 = .ok (.getfield 36, 3) := by decide +kernel
theorem dX5_gatherRing_62 : decode cX5_gatherRing 62 = .ok (.aload_n 0, 1) := by decide +kernel
theorem dX5_gatherRing_63 : decode cX5_gatherRing 63 = .ok (.getfield 26, 3) := by decide +kernel
theorem dX5_gatherRing_66 : decode cX5_gatherRing 66 = .ok (.invokevirtual 191, 3) := by decide +kernel
theorem dX5_gatherRing_69 : decode cX5_gatherRing 69 = .ok (.return_, 1) := by decide +kernel
theorem dX6_init_0 : decode cX6_init 0 = .ok (.aload_n 0, 1) := by decide +kernel
theorem dX6_init_1 : decode cX6_init 1 = .ok (.invokespecial 1, 3) := by decide +kernel
theorem dX6_init_4 : decode cX6_init 4 = .ok (.aload_n 0, 1) := by decide +kernel
theorem dX6_init_5 : decode cX6_init 5 = .ok (.bipush 32, 2) := by decide +kernel
theorem dX6_init_7 : decode cX6_init 7 = .ok (.newarray .int, 2) := by decide +kernel
theorem dX6_init_9 : decode cX6_init 9 = .ok (.putfield 7, 3) := by decide +kernel
theorem dX6_init_12 : decode cX6_init 12 = .ok (.aload_n 0, 1) := by decide +kernel
theorem dX6_init_13 : decode cX6_init 13 = .ok (.bipush 32, 2) := by decide +kernel
theorem dX6_init_15 : decode cX6_init 15 = .ok (.newarray .int, 2) := by decide +kernel
theorem dX6_init_17 : decode cX6_init 17 = .ok (.putfield 13, 3) := by decide +kernel
theorem dX6_init_20 : decode cX6_init 20 = .ok (.aload_n 0, 1) := by decide +kernel
theorem dX6_init_21 : decode cX6_init 21 = .ok (.bipush 32, 2) := by decide +kernel
theorem dX6_init_23 : decode cX6_init 23 = .ok (.newarray .boolean, 2) := by decide +kernel
theorem dX6_init_25 : decode cX6_init 25 = .ok (.putfield 16, 3) := by decide +kernel
theorem dX6_init_28 : decode cX6_init 28 = .ok (.aload_n 0, 1) := by decide +kernel
theorem dX6_init_29 : decode cX6_init 29 = .ok (.bipush 32, 2) := by decide +kernel
theorem dX6_init_31 : decode cX6_init 31 = .ok (.newarray .int, 2) := by decide +kernel
theorem dX6_init_33 : decode cX6_init 33 = .ok (.putfield 20, 3) := by decide +kernel
theorem dX6_init_36 : decode cX6_init 36 = .ok (.aload_n 0, 1) := by decide +kernel
theorem dX6_init_37 : decode cX6_init 37 = .ok (.bipush 32, 2) := by decide +kernel
theorem dX6_init_39 : decode cX6_init 39 = .ok (.newarray .int, 2) := by decide +kernel
theorem dX6_init_41 : decode cX6_init 41 = .ok (.putfield 23, 3) := by decide +kernel
theorem dX6_init_44 : decode cX6_init 44 = .ok (.aload_n 0, 1) := by decide +kernel
theorem dX6_init_45 : decode cX6_init 45 = .ok (.bipush 34, 2) := by decide +kernel
theorem dX6_init_47 : decode cX6_init 47 = .ok (.newarray .int, 2) := by decide +kernel
theorem dX6_init_49 : decode cX6_init 49 = .ok (.putfield 26, 3) := by decide +kernel
theorem dX6_init_52 : decode cX6_init 52 = .ok (.aload_n 0, 1) := by decide +kernel
theorem dX6_init_53 : decode cX6_init 53 = .ok (.bipush 34, 2) := by decide +kernel
theorem dX6_init_55 : decode cX6_init 55 = .ok (.newarray .int, 2) := by decide +kernel
theorem dX6_init_57 : decode cX6_init 57 = .ok (.putfield 29, 3) := by decide +kernel
theorem dX6_init_60 : decode cX6_init 60 = .ok (.aload_n 0, 1) := by decide +kernel
theorem dX6_init_61 : decode cX6_init 61 = .ok (.sipush 128, 3) := by decide +kernel
theorem dX6_init_64 : decode cX6_init 64 = .ok (.newarray .int, 2) := by decide +kernel
theorem dX6_init_66 : decode cX6_init 66 = .ok (.putfield 32, 3) := by decide +kernel
theorem dX6_init_69 : decode cX6_init 69 = .ok (.aload_n 0, 1) := by decide +kernel
theorem dX6_init_70 : decode cX6_init 70 = .ok (.iconst 2, 1) := by decide +kernel
theorem dX6_init_71 : decode cX6_init 71 = .ok (.newarray .long, 2) := by decide +kernel
theorem dX6_init_73 : decode cX6_init 73 = .ok (.putfield 35, 3) := by decide +kernel
theorem dX6_init_76 : decode cX6_init 76 = .ok (.aload_n 0, 1) := by decide +kernel
theorem dX6_init_77 : decode cX6_init 77 = .ok (.iconst 2, 1) := by decide +kernel
theorem dX6_init_78 : decode cX6_init 78 = .ok (.newarray .boolean, 2) := by decide +kernel
theorem dX6_init_80 : decode cX6_init 80 = .ok (.putfield 39, 3) := by decide +kernel
theorem dX6_init_83 : decode cX6_init 83 = .ok (.return_, 1) := by decide +kernel
theorem dX6_in_0 : decode cX6_in 0 = .ok (.iload_n 0, 1) := by decide +kernel
theorem dX6_in_1 : decode cX6_in 1 = .ok (.iload_n 1, 1) := by decide +kernel
theorem dX6_in_2 : decode cX6_in 2 = .ok (.if_icmp .lt 12, 3) := by decide +kernel
theorem dX6_in_5 : decode cX6_in 5 = .ok (.iload_n 0, 1) := by decide +kernel
theorem dX6_in_6 : decode cX6_in 6 = .ok (.iload_n 2, 1) := by decide +kernel
theorem dX6_in_7 : decode cX6_in 7 = .ok (.if_icmp .gt 7, 3) := by decide +kernel
theorem dX6_in_10 : decode cX6_in 10 = .ok (.iconst 1, 1) := by decide +kernel
theorem dX6_in_11 : decode cX6_in 11 = .ok (.goto 4, 3) := by decide +kernel
theorem dX6_in_14 : decode cX6_in 14 = .ok (.iconst 0, 1) := by decide +kernel
theorem dX6_in_15 : decode cX6_in 15 = .ok (.ireturn, 1) := by decide +kernel
set_option maxRecDepth 20000 in
theorem ggX6_isPlace_X6_in : GoodIn wsX6_isPlace wsX6_in := goodIn_r _ [6] (by decide +kernel) (by decide +kernel)
set_option maxRecDepth 20000 in
theorem gX6_isPlace_X6_in : GoodIn wsX6_isPlace (va_wsS RX6 44 yX6_in wsX6_in) := goodIn_app (goodIn_of _ (by decide +kernel)) ggX6_isPlace_X6_in
theorem dX6_isPlace_0 : decode cX6_isPlace 0 = .ok (.iload_n 0, 1) := by decide +kernel
theorem dX6_isPlace_1 : decode cX6_isPlace 1 = .ok (.ldc 42, 2) := by decide +kernel
theorem dX6_isPlace_3 : decode cX6_isPlace 3 = .ok (.ldc 43, 2) := by decide +kernel
theorem dX6_isPlace_5 : decode cX6_isPlace 5 = .ok (.invokestatic 44, 3) := by decide +kernel
theorem dX6_isPlace_8 : decode cX6_isPlace 8 = .ok (.ifCond .eq 18, 3) := by decide +kernel
theorem dX6_isPlace_11 : decode cX6_isPlace 11 = .ok (.iload_n 1, 1) := by decide +kernel
theorem dX6_isPlace_12 : decode cX6_isPlace 12 = .ok (.ldc 42, 2) := by decide +kernel
theorem dX6_isPlace_14 : decode cX6_isPlace 14 = .ok (.ldc 43, 2) := by decide +kernel
theorem dX6_isPlace_16 : decode cX6_isPlace 16 = .ok (.invokestatic 44, 3) := by decide +kernel
theorem dX6_isPlace_19 : decode cX6_isPlace 19 = .ok (.ifCond .eq 7, 3) := by decide +kernel
theorem dX6_isPlace_22 : decode cX6_isPlace 22 = .ok (.iconst 1, 1) := by decide +kernel
theorem dX6_isPlace_23 : decode cX6_isPlace 23 = .ok (.goto 4, 3) := by decide +kernel
theorem dX6_isPlace_26 : decode cX6_isPlace 26 = .ok (.iconst 0, 1) := by decide +kernel
theorem dX6_isPlace_27 : decode cX6_isPlace 27 = .ok (.ireturn, 1) := by decide +kernel
set_option maxRecDepth 20000 in
theorem ggX6_isPoint_X6_in : GoodIn wsX6_isPoint wsX6_in := goodIn_r _ [5] (by decide +kernel) (by decide +kernel)
set_option maxRecDepth 20000 in
theorem gX6_isPoint_X6_in : GoodIn wsX6_isPoint (va_wsS RX6 44 yX6_in wsX6_in) := goodIn_app (goodIn_of _ (by decide +kernel)) ggX6_isPoint_X6_in
theorem dX6_isPoint_0 : decode cX6_isPoint 0 = .ok (.iload_n 1, 1) := by decide +kernel
theorem dX6_isPoint_1 : decode cX6_isPoint 1 = .ok (.iconst 0, 1) := by decide +kernel
theorem dX6_isPoint_2 : decode cX6_isPoint 2 = .ok (.bipush 31, 2) := by decide +kernel
theorem dX6_isPoint_4 : decode cX6_isPoint 4 = .ok (.invokestatic 44, 3) := by decide +kernel
theorem dX6_isPoint_7 : decode cX6_isPoint 7 = .ok (.ifCond .eq 16, 3) := by decide +kernel
theorem dX6_isPoint_10 : decode cX6_isPoint 10 = .ok (.aload_n 0, 1) := by decide +kernel
theorem dX6_isPoint_11 : decode cX6_isPoint 11 = .ok (.getfield 16, 3) := by decide +kernel
theorem dX6_isPoint_14 : decode cX6_isPoint 14 = .ok (.iload_n 1, 1) := by decide +kernel
theorem dX6_isPoint_15 : decode cX6_isPoint 15 = .ok (.baload, 1) := by decide +kernel
theorem dX6_isPoint_16 : decode cX6_isPoint 16 = .ok (.ifCond .eq 7, 3) := by decide +kernel
theorem dX6_isPoint_19 : decode cX6_isPoint 19 = .ok (.iconst 1, 1) := by decide +kernel
theorem dX6_isPoint_20 : decode cX6_isPoint 20 = .ok (.goto 4, 3) := by decide +kernel
theorem dX6_isPoint_23 : decode cX6_isPoint 23 = .ok (.iconst 0, 1) := by decide +kernel
theorem dX6_isPoint_24 : decode cX6_isPoint 24 = .ok (.ireturn, 1) := by decide +kernel
theorem dX6_isTaken_0 : decode cX6_isTaken 0 = .ok (.iconst 0, 1) := by decide +kernel
theorem dX6_isTaken_1 : decode cX6_isTaken 1 = .ok (.istore_n 3, 1) := by decide +kernel
theorem dX6_isTaken_2 : decode cX6_isTaken 2 = .ok (.iconst 0, 1) := by decide +kernel
theorem dX6_isTaken_3 : decode cX6_isTaken 3 = .ok (.istore 4, 2) := by decide +kernel
theorem dX6_isTaken_5 : decode cX6_isTaken 5 = .ok (.iload 4, 2) := by decide +kernel
theorem dX6_isTaken_7 : decode cX6_isTaken 7 = .ok (.bipush 32, 2) := by decide +kernel
theorem dX6_isTaken_9 : decode cX6_isTaken 9 = .ok (.if_icmp .ge 51, 3) := by decide +kernel
theorem dX6_isTaken_12 : decode cX6_isTaken 12 = .ok (.iload_n 3, 1) := by decide +kernel
theorem dX6_isTaken_13 : decode cX6_isTaken 13 = .ok (.ifCond .ne 35, 3) := by decide +kernel
theorem dX6_isTaken_16 : decode cX6_isTaken 16 = .ok (.aload_n 0, 1) := by decide +kernel
theorem dX6_isTaken_17 : decode cX6_isTaken 17 = .ok (.getfield 16, 3) := by decide +kernel
theorem dX6_isTaken_20 : decode cX6_isTaken 20 = .ok (.iload 4, 2) := by decide +kernel
theorem dX6_isTaken_22 : decode cX6_isTaken 22 = .ok (.baload, 1) := by decide +kernel
theorem dX6_isTaken_23 : decode cX6_isTaken 23 = .ok (.ifCond .eq 29, 3) := by decide +kernel
theorem dX6_isTaken_26 : decode cX6_isTaken 26 = .ok (.aload_n 0, 1) := by decide +kernel
theorem dX6_isTaken_27 : decode cX6_isTaken 27 = .ok (.getfield 7, 3) := by decide +kernel
theorem dX6_isTaken_30 : decode cX6_isTaken 30 = .ok (.iload 4, 2) := by decide +kernel
theorem dX6_isTaken_32 : decode cX6_isTaken 32 = .ok (.iaload, 1) := by decide +kernel
theorem dX6_isTaken_33 : decode cX6_isTaken 33 = .ok (.iload_n 1, 1) := by decide +kernel
theorem dX6_isTaken_34 : decode cX6_isTaken 34 = .ok (.if_icmp .ne 18, 3) := by decide +kernel
theorem dX6_isTaken_37 : decode cX6_isTaken 37 = .ok (.aload_n 0, 1) := by decide +kernel
theorem dX6_isTaken_38 : decode cX6_isTaken 38 = .ok (.getfield 13, 3) := by decide +kernel
theorem dX6_isTaken_41 : decode cX6_isTaken 41 = .ok (.iload 4, 2) := by decide +kernel
theorem dX6_isTaken_43 : decode cX6_isTaken 43 = .ok (.iaload, 1) := by decide +kernel
theorem dX6_isTaken_44 : decode cX6_isTaken 44 = .ok (.iload_n 2, 1) := by decide +kernel
theorem dX6_isTaken_45 : decode cX6_isTaken 45 = .ok (.if_icmp .ne 7, 3) := by decide +kernel
theorem dX6_isTaken_48 : decode cX6_isTaken 48 = .ok (.iconst 1, 1) := by decide +kernel
theorem dX6_isTaken_49 : decode cX6_isTaken 49 = .ok (.goto 4, 3) := by decide +kernel
theorem dX6_isTaken_52 : decode cX6_isTaken 52 = .ok (.iconst 0, 1) := by decide +kernel
theorem dX6_isTaken_53 : decode cX6_isTaken 53 = .ok (.istore_n 3, 1) := by decide +kernel
theorem dX6_isTaken_54 : decode cX6_isTaken 54 = .ok (.iinc 4 1, 3) := by decide +kernel
theorem dX6_isTaken_57 : decode cX6_isTaken 57 = .ok (.goto (-52), 3) := by decide +kernel
theorem dX6_isTaken_60 : decode cX6_isTaken 60 = .ok (.iload_n 3, 1) := by decide +kernel
theorem dX6_isTaken_61 : decode cX6_isTaken 61 = .ok (.ireturn, 1) := by decide +kernel
set_option maxRecDepth 20000 in
theorem ggX6_add_X6_isPlace : GoodIn wsX6_add wsX6_isPlace := goodIn_r _ [8, 9, 10, 11, 12, 7, 13] (by decide +kernel) (by decide +kernel)
set_option maxRecDepth 20000 in
theorem gX6_add_X6_isPlace : GoodIn wsX6_add (va_wsS RX6 48 yX6_isPlace wsX6_isPlace) := goodIn_app (goodIn_of _ (by decide +kernel)) ggX6_add_X6_isPlace
set_option maxRecDepth 20000 in
theorem ggX6_add_X6_isTaken : GoodIn wsX6_add wsX6_isTaken := goodIn_r _ [17, 2, 3, 4, 18, 19, 20, 21, 22, 23, 24, 25, 26, 27, 28, 29, 30, 31, 32, 33] (by decide +kernel) (by decide +kernel)
set_option maxRecDepth 20000 in
theorem gX6_add_X6_isTaken : GoodIn wsX6_add (wsV RX6 52 RX6 yX6_isTaken wsX6_isTaken) := goodIn_app (goodIn_of _ (by decide +kernel)) ggX6_add_X6_isTaken
theorem dX6_add_0 : decode cX6_add 0 = .ok (.iload_n 1, 1) := by decide +kernel
theorem dX6_add_1 : decode cX6_add 1 = .ok (.iload_n 2, 1) := by decide +kernel
theorem dX6_add_2 : decode cX6_add 2 = .ok (.invokestatic 48, 3) := by decide +kernel
theorem dX6_add_5 : decode cX6_add 5 = .ok (.ifCond .ne 6, 3) := by decide +kernel
theorem dX6_add_8 : decode cX6_add 8 = .ok (.bipush (-2), 2) := by decide +kernel
theorem dX6_add_10 : decode cX6_add 10 = .ok (.ireturn, 1) := by decide +kernel
theorem dX6_add_11 : decode cX6_add 11 = .ok (.aload_n 0, 1) := by decide +kernel
theorem dX6_add_12 : decode cX6_add 12 = .ok (.iload_n 1, 1) := by decide +kernel
theorem dX6_add_13 : decode cX6_add 13 = .ok (.iload_n 2, 1) := by decide +kernel
theorem dX6_add_14 : decode cX6_add 14 = .ok (.invokevirtual 52, 3) := by decide +kernel
theorem dX6_add_17 : decode cX6_add 17 = .ok (.ifCond .eq 6, 3) := by decide +kernel
theorem dX6_add_20 : decode cX6_add 20 = .ok (.bipush (-5), 2) := by decide +kernel
theorem dX6_add_22 : decode cX6_add 22 = .ok (.ireturn, 1) := by decide +kernel
theorem dX6_add_23 : decode cX6_add 23 = .ok (.aload_n 0, 1) := by decide +kernel
theorem dX6_add_24 : decode cX6_add 24 = .ok (.getfield 55, 3) := by decide +kernel
theorem dX6_add_27 : decode cX6_add 27 = .ok (.bipush 32, 2) := by decide +kernel
theorem dX6_add_29 : decode cX6_add 29 = .ok (.if_icmp .ne 6, 3) := by decide +kernel
theorem dX6_add_32 : decode cX6_add 32 = .ok (.bipush (-4), 2) := by decide +kernel
theorem dX6_add_34 : decode cX6_add 34 = .ok (.ireturn, 1) := by decide +kernel
theorem dX6_add_35 : decode cX6_add 35 = .ok (.iconst 0, 1) := by decide +kernel
theorem dX6_add_36 : decode cX6_add 36 = .ok (.istore_n 3, 1) := by decide +kernel
theorem dX6_add_37 : decode cX6_add 37 = .ok (.aload_n 0, 1) := by decide +kernel
theorem dX6_add_38 : decode cX6_add 38 = .ok (.getfield 16, 3) := by decide +kernel
theorem dX6_add_41 : decode cX6_add 41 = .ok (.iload_n 3, 1) := by decide +kernel
theorem dX6_add_42 : decode cX6_add 42 = .ok (.baload, 1) := by decide +kernel
theorem dX6_add_43 : decode cX6_add 43 = .ok (.ifCond .eq 9, 3) := by decide +kernel
theorem dX6_add_46 : decode cX6_add 46 = .ok (.iinc 3 1, 3) := by decide +kernel
theorem dX6_add_49 : decode cX6_add 49 = .ok (.goto (-12), 3) := by decide +kernel
theorem dX6_add_52 : decode cX6_add 52 = .ok (.aload_n 0, 1) := by decide +kernel
theorem dX6_add_53 : decode cX6_add 53 = .ok (.getfield 16, 3) := by decide +kernel
theorem dX6_add_56 : decode cX6_add 56 = .ok (.iload_n 3, 1) := by decide +kernel
theorem dX6_add_57 : decode cX6_add 57 = .ok (.iconst 1, 1) := by decide +kernel
theorem dX6_add_58 : decode cX6_add 58 = .ok (.bastore, 1) := by decide +kernel
theorem dX6_add_59 : decode cX6_add 59 = .ok (.aload_n 0, 1) := by decide +kernel
theorem dX6_add_60 : decode cX6_add 60 = .ok (.getfield 7, 3) := by decide +kernel
theorem dX6_add_63 : decode cX6_add 63 = .ok (.iload_n 3, 1) := by decide +kernel
theorem dX6_add_64 : decode cX6_add 64 = .ok (.iload_n 1, 1) := by decide +kernel
theorem dX6_add_65 : decode cX6_add 65 = .ok (.iastore, 1) := by decide +kernel
theorem dX6_add_66 : decode cX6_add 66 = .ok (.aload_n 0, 1) := by decide +kernel
theorem dX6_add_67 : decode cX6_add 67 = .ok (.getfield 13, 3) := by decide +kernel
theorem dX6_add_70 : decode cX6_add 70 = .ok (.iload_n 3, 1) := by decide +kernel
theorem dX6_add_71 : decode cX6_add 71 = .ok (.iload_n 2, 1) := by decide +kernel
theorem dX6_add_72 : decode cX6_add 72 = .ok (.iastore, 1) := by decide +kernel
theorem dX6_add_73 : decode cX6_add 73 = .ok (.aload_n 0, 1) := by decide +kernel
theorem dX6_add_74 : decode cX6_add 74 = .ok (.dup, 1) := by decide +kernel
theorem dX6_add_75 : decode cX6_add 75 = .ok (.getfield 55, 3) := by decide +kernel
theorem dX6_add_78 : decode cX6_add 78 = .ok (.iconst 1, 1) := by decide +kernel
theorem dX6_add_79 : decode cX6_add 79 = .ok (.iadd, 1) := by decide +kernel
theorem dX6_add_80 : decode cX6_add 80 = .ok (.putfield 55, 3) := by decide +kernel
theorem dX6_add_83 : decode cX6_add 83 = .ok (.iload_n 3, 1) := by decide +kernel
theorem dX6_add_84 : decode cX6_add 84 = .ok (.ireturn, 1) := by decide +kernel
set_option maxRecDepth 20000 in
theorem ggX6_remove_X6_isPoint : GoodIn wsX6_remove wsX6_isPoint := goodIn_r _ [7, 1, 8, 9, 6, 10, 11, 12, 13, 14, 15, 16, 17, 18, 19, 20, 21, 22, 23, 24, 25, 26] (by decide +kernel) (by decide +kernel)
set_option maxRecDepth 20000 in
theorem gX6_remove_X6_isPoint : GoodIn wsX6_remove (wsV RX6 59 RX6 yX6_isPoint wsX6_isPoint) := goodIn_app (goodIn_of _ (by decide +kernel)) ggX6_remove_X6_isPoint
theorem dX6_remove_0 : decode cX6_remove 0 = .ok (.aload_n 0, 1) := by decide +kernel
theorem dX6_remove_1 : decode cX6_remove 1 = .ok (.iload_n 1, 1) := by decide +kernel
theorem dX6_remove_2 : decode cX6_remove 2 = .ok (.invokevirtual 59, 3) := by decide +kernel
theorem dX6_remove_5 : decode cX6_remove 5 = .ok (.ifCond .ne 5, 3) := by decide +kernel
theorem dX6_remove_8 : decode cX6_remove 8 = .ok (.iconst (-1), 1) := by decide +kernel
theorem dX6_remove_9 : decode cX6_remove 9 = .ok (.ireturn, 1) := by decide +kernel
theorem dX6_remove_10 : decode cX6_remove 10 = .ok (.aload_n 0, 1) := by decide +kernel
theorem dX6_remove_11 : decode cX6_remove 11 = .ok (.getfield 16, 3) := by decide +kernel
theorem dX6_remove_14 : decode cX6_remove 14 = .ok (.iload_n 1, 1) := by decide +kernel
theorem dX6_remove_15 : decode cX6_remove 15 = .ok (.iconst 0, 1) := by decide +kernel
theorem dX6_remove_16 : decode cX6_remove 16 = .ok (.bastore, 1) := by decide +kernel
theorem dX6_remove_17 : decode cX6_remove 17 = .ok (.aload_n 0, 1) := by decide +kernel
theorem dX6_remove_18 : decode cX6_remove 18 = .ok (.dup, 1) := by decide +kernel
theorem dX6_remove_19 : decode cX6_remove 19 = .ok (.getfield 55, 3) := by decide +kernel
theorem dX6_remove_22 : decode cX6_remove 22 = .ok (.iconst 1, 1) := by decide +kernel
theorem dX6_remove_23 : decode cX6_remove 23 = .ok (.isub, 1) := by decide +kernel
theorem dX6_remove_24 : decode cX6_remove 24 = .ok (.putfield 55, 3) := by decide +kernel
theorem dX6_remove_27 : decode cX6_remove 27 = .ok (.aload_n 0, 1) := by decide +kernel
theorem dX6_remove_28 : decode cX6_remove 28 = .ok (.getfield 55, 3) := by decide +kernel
theorem dX6_remove_31 : decode cX6_remove 31 = .ok (.ireturn, 1) := by decide +kernel
set_option maxRecDepth 20000 in
theorem ggX6_move_X6_isPoint : GoodIn wsX6_move wsX6_isPoint := goodIn_r _ [7, 8, 9, 10, 6, 11, 21, 22, 23, 24, 25, 26, 27, 28, 29, 30, 31, 32, 33, 34, 35, 36] (by decide +kernel) (by decide +kernel)
set_option maxRecDepth 20000 in
theorem gX6_move_X6_isPoint : GoodIn wsX6_move (wsV RX6 59 RX6 yX6_isPoint wsX6_isPoint) := goodIn_app (goodIn_of _ (by decide +kernel)) ggX6_move_X6_isPoint
set_option maxRecDepth 20000 in
theorem ggX6_move_X6_isPlace : GoodIn wsX6_move wsX6_isPlace := goodIn_r _ [14, 15, 16, 9, 10, 6, 11] (by decide +kernel) (by decide +kernel)
set_option maxRecDepth 20000 in
theorem gX6_move_X6_isPlace : GoodIn wsX6_move (va_wsS RX6 48 yX6_isPlace wsX6_isPlace) := goodIn_app (goodIn_of _ (by decide +kernel)) ggX6_move_X6_isPlace
set_option maxRecDepth 20000 in
theorem ggX6_move_X6_isTaken : GoodIn wsX6_move wsX6_isTaken := goodIn_r _ [20, 8, 1, 2, 21, 22, 23, 24, 25, 26, 27, 28, 29, 30, 31, 32, 33, 34, 35, 36] (by decide +kernel) (by decide +kernel)
set_option maxRecDepth 20000 in
theorem gX6_move_X6_isTaken : GoodIn wsX6_move (wsV RX6 52 RX6 yX6_isTaken wsX6_isTaken) := goodIn_app (goodIn_of _ (by decide +kernel)) ggX6_move_X6_isTaken
theorem dX6_move_0 : decode cX6_move 0 = .ok (.aload_n 0, 1) := by decide +kernel
theorem dX6_move_1 : decode cX6_move 1 = .ok (.iload_n 1, 1) := by decide +kernel
theorem dX6_move_2 : decode cX6_move 2 = .ok (.invokevirtual 59, 3) := by decide +kernel
theorem dX6_move_5 : decode cX6_move 5 = .ok (.ifCond .ne 5, 3) := by decide +kernel
theorem dX6_move_8 : decode cX6_move 8 = .ok (.iconst (-1), 1) := by decide +kernel
theorem dX6_move_9 : decode cX6_move 9 = .ok (.ireturn, 1) := by decide +kernel
theorem dX6_move_10 : decode cX6_move 10 = .ok (.iload_n 2, 1) := by decide +kernel
theorem dX6_move_11 : decode cX6_move 11 = .ok (.iload_n 3, 1) := by decide +kernel
theorem dX6_move_12 : decode cX6_move 12 = .ok (.invokestatic 48, 3) := by decide +kernel
theorem dX6_move_15 : decode cX6_move 15 = .ok (.ifCond .ne 6, 3) := by decide +kernel
theorem dX6_move_18 : decode cX6_move 18 = .ok (.bipush (-2), 2) := by decide +kernel
theorem dX6_move_20 : decode cX6_move 20 = .ok (.ireturn, 1) := by decide +kernel
theorem dX6_move_21 : decode cX6_move 21 = .ok (.aload_n 0, 1) := by decide +kernel
theorem dX6_move_22 : decode cX6_move 22 = .ok (.iload_n 2, 1) := by decide +kernel
theorem dX6_move_23 : decode cX6_move 23 = .ok (.iload_n 3, 1) := by decide +kernel
theorem dX6_move_24 : decode cX6_move 24 = .ok (.invokevirtual 52, 3) := by decide +kernel
theorem dX6_move_27 : decode cX6_move 27 = .ok (.ifCond .eq 6, 3) := by decide +kernel
theorem dX6_move_30 : decode cX6_move 30 = .ok (.bipush (-5), 2) := by decide +kernel
theorem dX6_move_32 : decode cX6_move 32 = .ok (.ireturn, 1) := by decide +kernel
theorem dX6_move_33 : decode cX6_move 33 = .ok (.aload_n 0, 1) := by decide +kernel
theorem dX6_move_34 : decode cX6_move 34 = .ok (.getfield 7, 3) := by decide +kernel
theorem dX6_move_37 : decode cX6_move 37 = .ok (.iload_n 1, 1) := by decide +kernel
theorem dX6_move_38 : decode cX6_move 38 = .ok (.iload_n 2, 1) := by decide +kernel
theorem dX6_move_39 : decode cX6_move 39 = .ok (.iastore, 1) := by decide +kernel
theorem dX6_move_40 : decode cX6_move 40 = .ok (.aload_n 0, 1) := by decide +kernel
theorem dX6_move_41 : decode cX6_move 41 = .ok (.getfield 13, 3) := by decide +kernel
theorem dX6_move_44 : decode cX6_move 44 = .ok (.iload_n 1, 1) := by decide +kernel
theorem dX6_move_45 : decode cX6_move 45 = .ok (.iload_n 3, 1) := by decide +kernel
theorem dX6_move_46 : decode cX6_move 46 = .ok (.iastore, 1) := by decide +kernel
theorem dX6_move_47 : decode cX6_move 47 = .ok (.iconst 1, 1) := by decide +kernel
theorem dX6_move_48 : decode cX6_move 48 = .ok (.ireturn, 1) := by decide +kernel
theorem dX6_layRanks_0 : decode cX6_layRanks 0 = .ok (.iconst 0, 1) := by decide +kernel
theorem dX6_layRanks_1 : decode cX6_layRanks 1 = .ok (.istore_n 1, 1) := by decide +kernel
theorem dX6_layRanks_2 : decode cX6_layRanks 2 = .ok (.iconst 0, 1) := by decide +kernel
theorem dX6_layRanks_3 : decode cX6_layRanks 3 = .ok (.istore_n 2, 1) := by decide +kernel
theorem dX6_layRanks_4 : decode cX6_layRanks 4 = .ok (.iload_n 2, 1) := by decide +kernel
theorem dX6_layRanks_5 : decode cX6_layRanks 5 = .ok (.bipush 32, 2) := by decide +kernel
theorem dX6_layRanks_7 : decode cX6_layRanks 7 = .ok (.if_icmp .ge 120, 3) := by decide +kernel
theorem dX6_layRanks_10 : decode cX6_layRanks 10 = .ok (.aload_n 0, 1) := by decide +kernel
theorem dX6_layRanks_11 : decode cX6_layRanks 11 = .ok (.getfield 16, 3) := by decide +kernel
theorem dX6_layRanks_14 : decode cX6_layRanks 14 = .ok (.iload_n 2, 1) := by decide +kernel
theorem dX6_layRanks_15 : decode cX6_layRanks 15 = .ok (.baload, 1) := by decide +kernel
theorem dX6_layRanks_16 : decode cX6_layRanks 16 = .ok (.ifCond .eq 105, 3) := by decide +kernel
theorem dX6_layRanks_19 : decode cX6_layRanks 19 = .ok (.iload_n 1, 1) := by decide +kernel
theorem dX6_layRanks_20 : decode cX6_layRanks 20 = .ok (.istore_n 3, 1) := by decide +kernel
theorem dX6_layRanks_21 : decode cX6_layRanks 21 = .ok (.iload_n 3, 1) := by decide +kernel
theorem dX6_layRanks_22 : decode cX6_layRanks 22 = .ok (.ifCond .le 89, 3) := by decide +kernel
theorem dX6_layRanks_25 : decode cX6_layRanks 25 = .ok (.aload_n 0, 1) := by decide +kernel
theorem dX6_layRanks_26 : decode cX6_layRanks 26 = .ok (.getfield 7, 3) := by decide +kernel
theorem dX6_layRanks_29 : decode cX6_layRanks 29 = .ok (.aload_n 0, 1) := by decide +kernel
theorem dX6_layRanks_30 : decode cX6_layRanks 30 = .ok (.getfield 20, 3) := by decide +kernel
theorem dX6_layRanks_33 : decode cX6_layRanks 33 = .ok (.iload_n 3, 1) := by decide +kernel
theorem dX6_layRanks_34 : decode cX6_layRanks 34 = .ok (.iconst 1, 1) := by decide +kernel
theorem dX6_layRanks_35 : decode cX6_layRanks 35 = .ok (.isub, 1) := by decide +kernel
theorem dX6_layRanks_36 : decode cX6_layRanks 36 = .ok (.iaload, 1) := by decide +kernel
theorem dX6_layRanks_37 : decode cX6_layRanks 37 = .ok (.iaload, 1) := by decide +kernel
theorem dX6_layRanks_38 : decode cX6_layRanks 38 = .ok (.aload_n 0, 1) := by decide +kernel
theorem dX6_layRanks_39 : decode cX6_layRanks 39 = .ok (.getfield 7, 3) := by decide +kernel
theorem dX6_layRanks_42 : decode cX6_layRanks 42 = .ok (.iload_n 2, 1) := by decide +kernel
theorem dX6_layRanks_43 : decode cX6_layRanks 43 = .ok (.iaload, 1) := by decide +kernel
theorem dX6_layRanks_44 : decode cX6_layRanks 44 = .ok (.if_icmp .gt 47, 3) := by decide +kernel
theorem dX6_layRanks_47 : decode cX6_layRanks 47 = .ok (.aload_n 0, 1) := by decide +kernel
theorem dX6_layRanks_48 : decode cX6_layRanks 48 = .ok (.getfield 7, 3) := by decide +kernel
theorem dX6_layRanks_51 : decode cX6_layRanks 51 = .ok (.aload_n 0, 1) := by decide +kernel
theorem dX6_layRanks_52 : decode cX6_layRanks 52 = .ok (.getfield 20, 3) := by decide +kernel
theorem dX6_layRanks_55 : decode cX6_layRanks 55 = .ok (.iload_n 3, 1) := by decide +kernel
theorem dX6_layRanks_56 : decode cX6_layRanks 56 = .ok (.iconst 1, 1) := by decide +kernel
theorem dX6_layRanks_57 : decode cX6_layRanks 57 = .ok (.isub, 1) := by decide +kernel
theorem dX6_layRanks_58 : decode cX6_layRanks 58 = .ok (.iaload, 1) := by decide +kernel
theorem dX6_layRanks_59 : decode cX6_layRanks 59 = .ok (.iaload, 1) := by decide +kernel
theorem dX6_layRanks_60 : decode cX6_layRanks 60 = .ok (.aload_n 0, 1) := by decide +kernel
theorem dX6_layRanks_61 : decode cX6_layRanks 61 = .ok (.getfield 7, 3) := by decide +kernel
theorem dX6_layRanks_64 : decode cX6_layRanks 64 = .ok (.iload_n 2, 1) := by decide +kernel
theorem dX6_layRanks_65 : decode cX6_layRanks 65 = .ok (.iaload, 1) := by decide +kernel
theorem dX6_layRanks_66 : decode cX6_layRanks 66 = .ok (.if_icmp .ne 45, 3) := by decide +kernel
theorem dX6_layRanks_69 : decode cX6_layRanks 69 = .ok (.aload_n 0, 1) := by decide +kernel
theorem dX6_layRanks_70 : decode cX6_layRanks 70 = .ok (.getfield 13, 3) := by decide +kernel
theorem dX6_layRanks_73 : decode cX6_layRanks 73 = .ok (.aload_n 0, 1) := by decide +kernel
theorem dX6_layRanks_74 : decode cX6_layRanks 74 = .ok (.getfield 20, 3) := by decide +kernel
theorem dX6_layRanks_77 : decode cX6_layRanks 77 = .ok (.iload_n 3, 1) := by decide +kernel
theorem dX6_layRanks_78 : decode cX6_layRanks 78 = .ok (.iconst 1, 1) := by decide +kernel
theorem dX6_layRanks_79 : decode cX6_layRanks 79 = .ok (.isub, 1) := by decide +kernel
theorem dX6_layRanks_80 : decode cX6_layRanks 80 = .ok (.iaload, 1) := by decide +kernel
theorem dX6_layRanks_81 : decode cX6_layRanks 81 = .ok (.iaload, 1) := by decide +kernel
theorem dX6_layRanks_82 : decode cX6_layRanks 82 = .ok (.aload_n 0, 1) := by decide +kernel
theorem dX6_layRanks_83 : decode cX6_layRanks 83 = .ok (.getfield 13, 3) := by decide +kernel
theorem dX6_layRanks_86 : decode cX6_layRanks 86 = .ok (.iload_n 2, 1) := by decide +kernel
theorem dX6_layRanks_87 : decode cX6_layRanks 87 = .ok (.iaload, 1) := by decide +kernel
theorem dX6_layRanks_88 : decode cX6_layRanks 88 = .ok (.if_icmp .le 23, 3) := by decide +kernel
theorem dX6_layRanks_91 : decode cX6_layRanks 91 = .ok (.aload_n 0, 1) := by decide +kernel
theorem dX6_layRanks_92 : decode cX6_layRanks 92 = .ok (.getfield 20, 3) := by decide +kernel
theorem dX6_layRanks_95 : decode cX6_layRanks 95 = .ok (.iload_n 3, 1) := by decide +kernel
theorem dX6_layRanks_96 : decode cX6_layRanks 96 = .ok (.aload_n 0, 1) := by decide +kernel
theorem dX6_layRanks_97 : decode cX6_layRanks 97 = .ok (.getfield 20, 3) := by decide +kernel
theorem dX6_layRanks_100 : decode cX6_layRanks 100 = .ok (.iload_n 3, 1) := by decide +kernel
theorem dX6_layRanks_101 : decode cX6_layRanks 101 = .ok (.iconst 1, 1) := by decide +kernel
theorem dX6_layRanks_102 : decode cX6_layRanks 102 = .ok (.isub, 1) := by decide +kernel
theorem dX6_layRanks_103 : decode cX6_layRanks 103 = .ok (.iaload, 1) := by decide +kernel
theorem dX6_layRanks_104 : decode cX6_layRanks 104 = .ok (.iastore, 1) := by decide +kernel
theorem dX6_layRanks_105 : decode cX6_layRanks 105 = .ok (.iinc 3 (-1), 3) := by decide +kernel
theorem dX6_layRanks_108 : decode cX6_layRanks 108 = .ok (.goto (-87), 3) := by decide +kernel
theorem dX6_layRanks_111 : decode cX6_layRanks 111 = .ok (.aload_n 0, 1) := by decide +kernel
theorem dX6_layRanks_112 : decode cX6_layRanks 112 = .ok (.getfield 20, 3) := by decide +kernel
theorem dX6_layRanks_115 : decode cX6_layRanks 115 = .ok (.iload_n 3, 1) := by decide +kernel
theorem dX6_layRanks_116 : decode cX6_layRanks 116 = .ok (.iload_n 2, 1) := by decide +kernel
theorem dX6_layRanks_117 : decode cX6_layRanks 117 = .ok (.iastore, 1) := by decide +kernel
theorem dX6_layRanks_118 : decode cX6_layRanks 118 = .ok (.iinc 1 1, 3) := by decide +kernel
theorem dX6_layRanks_121 : decode cX6_layRanks 121 = .ok (.iinc 2 1, 3) := by decide +kernel
theorem dX6_layRanks_124 : decode cX6_layRanks 124 = .ok (.goto (-120), 3) := by decide +kernel
theorem dX6_layRanks_127 : decode cX6_layRanks 127 = .ok (.iconst 0, 1) := by decide +kernel
theorem dX6_layRanks_128 : decode cX6_layRanks 128 = .ok (.istore_n 2, 1) := by decide +kernel
theorem dX6_layRanks_129 : decode cX6_layRanks 129 = .ok (.iload_n 2, 1) := by decide +kernel
theorem dX6_layRanks_130 : decode cX6_layRanks 130 = .ok (.iload_n 1, 1) := by decide +kernel
theorem dX6_layRanks_131 : decode cX6_layRanks 131 = .ok (.if_icmp .ge 21, 3) := by decide +kernel
theorem dX6_layRanks_134 : decode cX6_layRanks 134 = .ok (.aload_n 0, 1) := by decide +kernel
theorem dX6_layRanks_135 : decode cX6_layRanks 135 = .ok (.getfield 23, 3) := by decide +kernel
theorem dX6_layRanks_138 : decode cX6_layRanks 138 = .ok (.aload_n 0, 1) := by decide +kernel
theorem dX6_layRanks_139 : decode cX6_layRanks 139 = .ok (.getfield 20, 3) := by decide +kernel
theorem dX6_layRanks_142 : decode cX6_layRanks 142 = .ok (.iload_n 2, 1) := by decide +kernel
theorem dX6_layRanks_143 : decode cX6_layRanks 143 = .ok (.iaload, 1) := by decide +kernel
theorem dX6_layRanks_144 : decode cX6_layRanks 144 = .ok (.iload_n 2, 1) := by decide +kernel
theorem dX6_layRanks_145 : decode cX6_layRanks 145 = .ok (.iastore, 1) := by decide +kernel
theorem dX6_layRanks_146 : decode cX6_layRanks 146 = .ok (.iinc 2 1, 3) := by decide +kernel
theorem dX6_layRanks_149 : decode cX6_layRanks 149 = .ok (.goto (-20), 3) := by decide +kernel
theorem dX6_layRanks_152 : decode cX6_layRanks 152 = .ok (.return_, 1) := by decide +kernel
set_option maxRecDepth 20000 in
theorem ggX6_layPart_X6_layRanks : GoodIn wsX6_layPart wsX6_layRanks := goodIn_r _ [9, 10, 11, 12, 13, 14, 18, 19, 20, 21, 22, 23, 24, 25, 26, 27, 28, 29, 30, 31, 32, 33] (by decide +kernel) (by decide +kernel)
set_option maxRecDepth 20000 in
theorem gX6_layPart_X6_layRanks : GoodIn wsX6_layPart (wsV RX6 63 RX6 yX6_layRanks wsX6_layRanks) := goodIn_app (goodIn_of _ (by decide +kernel)) ggX6_layPart_X6_layRanks
set_option maxRecDepth 20000 in
theorem ggX6_layPart_X6_in : GoodIn wsX6_layPart wsX6_in := goodIn_r _ [17] (by decide +kernel) (by decide +kernel)
set_option maxRecDepth 20000 in
theorem gX6_layPart_X6_in : GoodIn wsX6_layPart (va_wsS RX6 44 yX6_in wsX6_in) := goodIn_app (goodIn_of _ (by decide +kernel)) ggX6_layPart_X6_in
theorem dX6_layPart_0 : decode cX6_layPart 0 = .ok (.aload_n 0, 1) := by decide +kernel
theorem dX6_layPart_1 : decode cX6_layPart 1 = .ok (.invokevirtual 63, 3) := by decide +kernel
theorem dX6_layPart_4 : decode cX6_layPart 4 = .ok (.iload_n 1, 1) := by decide +kernel
theorem dX6_layPart_5 : decode cX6_layPart 5 = .ok (.iconst 1, 1) := by decide +kernel
theorem dX6_layPart_6 : decode cX6_layPart 6 = .ok (.bipush 63, 2) := by decide +kernel
theorem dX6_layPart_8 : decode cX6_layPart 8 = .ok (.invokestatic 44, 3) := by decide +kernel
theorem dX6_layPart_11 : decode cX6_layPart 11 = .ok (.ifCond .eq 10, 3) := by decide +kernel
theorem dX6_layPart_14 : decode cX6_layPart 14 = .ok (.aload_n 0, 1) := by decide +kernel
theorem dX6_layPart_15 : decode cX6_layPart 15 = .ok (.getfield 55, 3) := by decide +kernel
theorem dX6_layPart_18 : decode cX6_layPart 18 = .ok (.ifCond .ne 5, 3) := by decide +kernel
theorem dX6_layPart_21 : decode cX6_layPart 21 = .ok (.iconst 0, 1) := by decide +kernel
theorem dX6_layPart_22 : decode cX6_layPart 22 = .ok (.ireturn, 1) := by decide +kernel
theorem dX6_layPart_23 : decode cX6_layPart 23 = .ok (.bipush 32, 2) := by decide +kernel
theorem dX6_layPart_25 : decode cX6_layPart 25 = .ok (.istore_n 2, 1) := by decide +kernel
theorem dX6_layPart_26 : decode cX6_layPart 26 = .ok (.iload_n 1, 1) := by decide +kernel
theorem dX6_layPart_27 : decode cX6_layPart 27 = .ok (.iload_n 2, 1) := by decide +kernel
theorem dX6_layPart_28 : decode cX6_layPart 28 = .ok (.iand, 1) := by decide +kernel
theorem dX6_layPart_29 : decode cX6_layPart 29 = .ok (.ifCond .ne 10, 3) := by decide +kernel
theorem dX6_layPart_32 : decode cX6_layPart 32 = .ok (.iload_n 2, 1) := by decide +kernel
theorem dX6_layPart_33 : decode cX6_layPart 33 = .ok (.iconst 1, 1) := by decide +kernel
theorem dX6_layPart_34 : decode cX6_layPart 34 = .ok (.ishr, 1) := by decide +kernel
theorem dX6_layPart_35 : decode cX6_layPart 35 = .ok (.istore_n 2, 1) := by decide +kernel
theorem dX6_layPart_36 : decode cX6_layPart 36 = .ok (.goto (-10), 3) := by decide +kernel
theorem dX6_layPart_39 : decode cX6_layPart 39 = .ok (.aload_n 0, 1) := by decide +kernel
theorem dX6_layPart_40 : decode cX6_layPart 40 = .ok (.iconst 0, 1) := by decide +kernel
theorem dX6_layPart_41 : decode cX6_layPart 41 = .ok (.putfield 66, 3) := by decide +kernel
theorem dX6_layPart_44 : decode cX6_layPart 44 = .ok (.aload_n 0, 1) := by decide +kernel
theorem dX6_layPart_45 : decode cX6_layPart 45 = .ok (.aload_n 0, 1) := by decide +kernel
theorem dX6_layPart_46 : decode cX6_layPart 46 = .ok (.getfield 55, 3) := by decide +kernel
theorem dX6_layPart_49 : decode cX6_layPart 49 = .ok (.putfield 69, 3) := by decide +kernel
theorem dX6_layPart_52 : decode cX6_layPart 52 = .ok (.aload_n 0, 1) := by decide +kernel
theorem dX6_layPart_53 : decode cX6_layPart 53 = .ok (.iconst 0, 1) := by decide +kernel
theorem dX6_layPart_54 : decode cX6_layPart 54 = .ok (.putfield 72, 3) := by decide +kernel
theorem dX6_layPart_57 : decode cX6_layPart 57 = .ok (.iload_n 2, 1) := by decide +kernel
theorem dX6_layPart_58 : decode cX6_layPart 58 = .ok (.iconst 1, 1) := by decide +kernel
theorem dX6_layPart_59 : decode cX6_layPart 59 = .ok (.ishr, 1) := by decide +kernel
theorem dX6_layPart_60 : decode cX6_layPart 60 = .ok (.istore_n 3, 1) := by decide +kernel
theorem dX6_layPart_61 : decode cX6_layPart 61 = .ok (.iload_n 3, 1) := by decide +kernel
theorem dX6_layPart_62 : decode cX6_layPart 62 = .ok (.ifCond .le 76, 3) := by decide +kernel
theorem dX6_layPart_65 : decode cX6_layPart 65 = .ok (.aload_n 0, 1) := by decide +kernel
theorem dX6_layPart_66 : decode cX6_layPart 66 = .ok (.getfield 69, 3) := by decide +kernel
theorem dX6_layPart_69 : decode cX6_layPart 69 = .ok (.aload_n 0, 1) := by decide +kernel
theorem dX6_layPart_70 : decode cX6_layPart 70 = .ok (.getfield 66, 3) := by decide +kernel
theorem dX6_layPart_73 : decode cX6_layPart 73 = .ok (.isub, 1) := by decide +kernel
theorem dX6_layPart_74 : decode cX6_layPart 74 = .ok (.iconst 2, 1) := by decide +kernel
theorem dX6_layPart_75 : decode cX6_layPart 75 = .ok (.if_icmp .ge 5, 3) := by decide +kernel
theorem dX6_layPart_78 : decode cX6_layPart 78 = .ok (.iconst 0, 1) := by decide +kernel
theorem dX6_layPart_79 : decode cX6_layPart 79 = .ok (.ireturn, 1) := by decide +kernel
theorem dX6_layPart_80 : decode cX6_layPart 80 = .ok (.aload_n 0, 1) := by decide +kernel
theorem dX6_layPart_81 : decode cX6_layPart 81 = .ok (.getfield 66, 3) := by decide +kernel
theorem dX6_layPart_84 : decode cX6_layPart 84 = .ok (.aload_n 0, 1) := by decide +kernel
theorem dX6_layPart_85 : decode cX6_layPart 85 = .ok (.getfield 69, 3) := by decide +kernel
theorem dX6_layPart_88 : decode cX6_layPart 88 = .ok (.aload_n 0, 1) := by decide +kernel
theorem dX6_layPart_89 : decode cX6_layPart 89 = .ok (.getfield 66, 3) := by decide +kernel
theorem dX6_layPart_92 : decode cX6_layPart 92 = .ok (.isub, 1) := by decide +kernel
theorem dX6_layPart_93 : decode cX6_layPart 93 = .ok (.iconst 1, 1) := by decide +kernel
theorem dX6_layPart_94 : decode cX6_layPart 94 = .ok (.iadd, 1) := by decide +kernel
theorem dX6_layPart_95 : decode cX6_layPart 95 = .ok (.iconst 2, 1) := by decide +kernel
theorem dX6_layPart_96 : decode cX6_layPart 96 = .ok (.idiv, 1) := by decide +kernel
theorem dX6_layPart_97 : decode cX6_layPart 97 = .ok (.iadd, 1) := by decide +kernel
theorem dX6_layPart_98 : decode cX6_layPart 98 = .ok (.istore 4, 2) := by decide +kernel
theorem dX6_layPart_100 : decode cX6_layPart 100 = .ok (.iload_n 1, 1) := by decide +kernel
theorem dX6_layPart_101 : decode cX6_layPart 101 = .ok (.iload_n 3, 1) := by decide +kernel
theorem dX6_layPart_102 : decode cX6_layPart 102 = .ok (.iand, 1) := by decide +kernel
theorem dX6_layPart_103 : decode cX6_layPart 103 = .ok (.ifCond .ne 12, 3) := by decide +kernel
theorem dX6_layPart_106 : decode cX6_layPart 106 = .ok (.aload_n 0, 1) := by decide +kernel
theorem dX6_layPart_107 : decode cX6_layPart 107 = .ok (.iload 4, 2) := by decide +kernel
theorem dX6_layPart_109 : decode cX6_layPart 109 = .ok (.putfield 69, 3) := by decide +kernel
theorem dX6_layPart_112 : decode cX6_layPart 112 = .ok (.goto 9, 3) := by decide +kernel
theorem dX6_layPart_115 : decode cX6_layPart 115 = .ok (.aload_n 0, 1) := by decide +kernel
theorem dX6_layPart_116 : decode cX6_layPart 116 = .ok (.iload 4, 2) := by decide +kernel
theorem dX6_layPart_118 : decode cX6_layPart 118 = .ok (.putfield 66, 3) := by decide +kernel
theorem dX6_layPart_121 : decode cX6_layPart 121 = .ok (.aload_n 0, 1) := by decide +kernel
theorem dX6_layPart_122 : decode cX6_layPart 122 = .ok (.dup, 1) := by decide +kernel
theorem dX6_layPart_123 : decode cX6_layPart 123 = .ok (.getfield 72, 3) := by decide +kernel
theorem dX6_layPart_126 : decode cX6_layPart 126 = .ok (.iconst 1, 1) := by decide +kernel
theorem dX6_layPart_127 : decode cX6_layPart 127 = .ok (.iadd, 1) := by decide +kernel
theorem dX6_layPart_128 : decode cX6_layPart 128 = .ok (.putfield 72, 3) := by decide +kernel
theorem dX6_layPart_131 : decode cX6_layPart 131 = .ok (.iload_n 3, 1) := by decide +kernel
theorem dX6_layPart_132 : decode cX6_layPart 132 = .ok (.iconst 1, 1) := by decide +kernel
theorem dX6_layPart_133 : decode cX6_layPart 133 = .ok (.ishr, 1) := by decide +kernel
theorem dX6_layPart_134 : decode cX6_layPart 134 = .ok (.istore_n 3, 1) := by decide +kernel
theorem dX6_layPart_135 : decode cX6_layPart 135 = .ok (.goto (-74), 3) := by decide +kernel
theorem dX6_layPart_138 : decode cX6_layPart 138 = .ok (.iconst 1, 1) := by decide +kernel
theorem dX6_layPart_139 : decode cX6_layPart 139 = .ok (.ireturn, 1) := by decide +kernel
theorem dX6_cross_0 : decode cX6_cross 0 = .ok (.lload 4, 2) := by decide +kernel
theorem dX6_cross_2 : decode cX6_cross 2 = .ok (.lload_n 0, 1) := by decide +kernel
theorem dX6_cross_3 : decode cX6_cross 3 = .ok (.lsub, 1) := by decide +kernel
theorem dX6_cross_4 : decode cX6_cross 4 = .ok (.lload 10, 2) := by decide +kernel
theorem dX6_cross_6 : decode cX6_cross 6 = .ok (.lload_n 2, 1) := by decide +kernel
theorem dX6_cross_7 : decode cX6_cross 7 = .ok (.lsub, 1) := by decide +kernel
theorem dX6_cross_8 : decode cX6_cross 8 = .ok (.lmul, 1) := by decide +kernel
theorem dX6_cross_9 : decode cX6_cross 9 = .ok (.lload 6, 2) := by decide +kernel
theorem dX6_cross_11 : decode cX6_cross 11 = .ok (.lload_n 2, 1) := by decide +kernel
theorem dX6_cross_12 : decode cX6_cross 12 = .ok (.lsub, 1) := by decide +kernel
theorem dX6_cross_13 : decode cX6_cross 13 = .ok (.lload 8, 2) := by decide +kernel
theorem dX6_cross_15 : decode cX6_cross 15 = .ok (.lload_n 0, 1) := by decide +kernel
theorem dX6_cross_16 : decode cX6_cross 16 = .ok (.lsub, 1) := by decide +kernel
theorem dX6_cross_17 : decode cX6_cross 17 = .ok (.lmul, 1) := by decide +kernel
theorem dX6_cross_18 : decode cX6_cross 18 = .ok (.lsub, 1) := by decide +kernel
theorem dX6_cross_19 : decode cX6_cross 19 = .ok (.lreturn, 1) := by decide +kernel
set_option maxRecDepth 20000 in
theorem ggX6_bend_X6_cross : GoodIn wsX6_bend wsX6_cross := goodIn_r _ [6] (by decide +kernel) (by decide +kernel)
set_option maxRecDepth 20000 in
theorem gX6_bend_X6_cross : GoodIn wsX6_bend (va_wsS RX6 75 yX6_cross wsX6_cross) := goodIn_app (goodIn_of _ (by decide +kernel)) ggX6_bend_X6_cross
theorem dX6_bend_0 : decode cX6_bend 0 = .ok (.aload_n 0, 1) := by decide +kernel
theorem dX6_bend_1 : decode cX6_bend 1 = .ok (.getfield 7, 3) := by decide +kernel
theorem dX6_bend_4 : decode cX6_bend 4 = .ok (.iload_n 1, 1) := by decide +kernel
theorem dX6_bend_5 : decode cX6_bend 5 = .ok (.iaload, 1) := by decide +kernel
theorem dX6_bend_6 : decode cX6_bend 6 = .ok (.i2l, 1) := by decide +kernel
theorem dX6_bend_7 : decode cX6_bend 7 = .ok (.aload_n 0, 1) := by decide +kernel
theorem dX6_bend_8 : decode cX6_bend 8 = .ok (.getfield 13, 3) := by decide +kernel
theorem dX6_bend_11 : decode cX6_bend 11 = .ok (.iload_n 1, 1) := by decide +kernel
theorem dX6_bend_12 : decode cX6_bend 12 = .ok (.iaload, 1) := by decide +kernel
theorem dX6_bend_13 : decode cX6_bend 13 = .ok (.i2l, 1) := by decide +kernel
theorem dX6_bend_14 : decode cX6_bend 14 = .ok (.aload_n 0, 1) := by decide +kernel
theorem dX6_bend_15 : decode cX6_bend 15 = .ok (.getfield 7, 3) := by decide +kernel
theorem dX6_bend_18 : decode cX6_bend 18 = .ok (.iload_n 2, 1) := by decide +kernel
theorem dX6_bend_19 : decode cX6_bend 19 = .ok (.iaload, 1) := by decide +kernel
theorem dX6_bend_20 : decode cX6_bend 20 = .ok (.i2l, 1) := by decide +kernel
theorem dX6_bend_21 : decode cX6_bend 21 = .ok (.aload_n 0, 1) := by decide +kernel
theorem dX6_bend_22 : decode cX6_bend 22 = .ok (.getfield 13, 3) := by decide +kernel
theorem dX6_bend_25 : decode cX6_bend 25 = .ok (.iload_n 2, 1) := by decide +kernel
theorem dX6_bend_26 : decode cX6_bend 26 = .ok (.iaload, 1) := by decide +kernel
theorem dX6_bend_27 : decode cX6_bend 27 = .ok (.i2l, 1) := by decide +kernel
theorem dX6_bend_28 : decode cX6_bend 28 = .ok (.aload_n 0, 1) := by decide +kernel
theorem dX6_bend_29 : decode cX6_bend 29 = .ok (.getfield 7, 3) := by decide +kernel
theorem dX6_bend_32 : decode cX6_bend 32 = .ok (.iload_n 3, 1) := by decide +kernel
theorem dX6_bend_33 : decode cX6_bend 33 = .ok (.iaload, 1) := by decide +kernel
theorem dX6_bend_34 : decode cX6_bend 34 = .ok (.i2l, 1) := by decide +kernel
theorem dX6_bend_35 : decode cX6_bend 35 = .ok (.aload_n 0, 1) := by decide +kernel
theorem dX6_bend_36 : decode cX6_bend 36 = .ok (.getfield 13, 3) := by decide +kernel
theorem dX6_bend_39 : decode cX6_bend 39 = .ok (.iload_n 3, 1) := by decide +kernel
theorem dX6_bend_40 : decode cX6_bend 40 = .ok (.iaload, 1) := by decide +kernel
theorem dX6_bend_41 : decode cX6_bend 41 = .ok (.i2l, 1) := by decide +kernel
theorem dX6_bend_42 : decode cX6_bend 42 = .ok (.invokestatic 75, 3) := by decide +kernel
theorem dX6_bend_45 : decode cX6_bend 45 = .ok (.lreturn, 1) := by decide +kernel
set_option maxRecDepth 20000 in
theorem ggX6_layChain_X6_bend : GoodIn wsX6_layChain wsX6_bend := goodIn_r _ [11, 5, 12, 13, 14, 10, 15, 16, 17, 18, 19, 20, 21, 22, 23, 24, 25, 26, 27, 28, 29, 30, 31] (by decide +kernel) (by decide +kernel)
set_option maxRecDepth 20000 in
theorem gX6_layChain_X6_bend : GoodIn wsX6_layChain (wsV RX6 82 RX6 yX6_bend wsX6_bend) := goodIn_app (goodIn_of _ (by decide +kernel)) ggX6_layChain_X6_bend
theorem dX6_layChain_0 : decode cX6_layChain 0 = .ok (.aload_n 0, 1) := by decide +kernel
theorem dX6_layChain_1 : decode cX6_layChain 1 = .ok (.iconst 0, 1) := by decide +kernel
theorem dX6_layChain_2 : decode cX6_layChain 2 = .ok (.putfield 79, 3) := by decide +kernel
theorem dX6_layChain_5 : decode cX6_layChain 5 = .ok (.aload_n 0, 1) := by decide +kernel
theorem dX6_layChain_6 : decode cX6_layChain 6 = .ok (.getfield 66, 3) := by decide +kernel
theorem dX6_layChain_9 : decode cX6_layChain 9 = .ok (.istore_n 2, 1) := by decide +kernel
theorem dX6_layChain_10 : decode cX6_layChain 10 = .ok (.iload_n 2, 1) := by decide +kernel
theorem dX6_layChain_11 : decode cX6_layChain 11 = .ok (.aload_n 0, 1) := by decide +kernel
theorem dX6_layChain_12 : decode cX6_layChain 12 = .ok (.getfield 69, 3) := by decide +kernel
theorem dX6_layChain_15 : decode cX6_layChain 15 = .ok (.if_icmp .ge 214, 3) := by decide +kernel
theorem dX6_layChain_18 : decode cX6_layChain 18 = .ok (.aload_n 0, 1) := by decide +kernel
theorem dX6_layChain_19 : decode cX6_layChain 19 = .ok (.getfield 20, 3) := by decide +kernel
theorem dX6_layChain_22 : decode cX6_layChain 22 = .ok (.iload_n 2, 1) := by decide +kernel
theorem dX6_layChain_23 : decode cX6_layChain 23 = .ok (.iaload, 1) := by decide +kernel
theorem dX6_layChain_24 : decode cX6_layChain 24 = .ok (.istore_n 3, 1) := by decide +kernel
theorem dX6_layChain_25 : decode cX6_layChain 25 = .ok (.iload_n 1, 1) := by decide +kernel
theorem dX6_layChain_26 : decode cX6_layChain 26 = .ok (.ifCond .ne 43, 3) := by decide +kernel
theorem dX6_layChain_29 : decode cX6_layChain 29 = .ok (.iload_n 2, 1) := by decide +kernel
theorem dX6_layChain_30 : decode cX6_layChain 30 = .ok (.iconst 1, 1) := by decide +kernel
theorem dX6_layChain_31 : decode cX6_layChain 31 = .ok (.iadd, 1) := by decide +kernel
theorem dX6_layChain_32 : decode cX6_layChain 32 = .ok (.aload_n 0, 1) := by decide +kernel
theorem dX6_layChain_33 : decode cX6_layChain 33 = .ok (.getfield 69, 3) := by decide +kernel
theorem dX6_layChain_36 : decode cX6_layChain 36 = .ok (.if_icmp .ge 29, 3) := by decide +kernel
theorem dX6_layChain_39 : decode cX6_layChain 39 = .ok (.aload_n 0, 1) := by decide +kernel
theorem dX6_layChain_40 : decode cX6_layChain 40 = .ok (.getfield 7, 3) := by decide +kernel
theorem dX6_layChain_43 : decode cX6_layChain 43 = .ok (.aload_n 0, 1) := by decide +kernel
theorem dX6_layChain_44 : decode cX6_layChain 44 = .ok (.getfield 20, 3) := by decide +kernel
theorem dX6_layChain_47 : decode cX6_layChain 47 = .ok (.iload_n 2, 1) := by decide +kernel
theorem dX6_layChain_48 : decode cX6_layChain 48 = .ok (.iconst 1, 1) := by decide +kernel
theorem dX6_layChain_49 : decode cX6_layChain 49 = .ok (.iadd, 1) := by decide +kernel
theorem dX6_layChain_50 : decode cX6_layChain 50 = .ok (.iaload, 1) := by decide +kernel
theorem dX6_layChain_51 : decode cX6_layChain 51 = .ok (.iaload, 1) := by decide +kernel
theorem dX6_layChain_52 : decode cX6_layChain 52 = .ok (.aload_n 0, 1) := by decide +kernel
theorem dX6_layChain_53 : decode cX6_layChain 53 = .ok (.getfield 7, 3) := by decide +kernel
theorem dX6_layChain_56 : decode cX6_layChain 56 = .ok (.iload_n 3, 1) := by decide +kernel
theorem dX6_layChain_57 : decode cX6_layChain 57 = .ok (.iaload, 1) := by decide +kernel
theorem dX6_layChain_58 : decode cX6_layChain 58 = .ok (.if_icmp .ne 7, 3) := by decide +kernel
theorem dX6_layChain_61 : decode cX6_layChain 61 = .ok (.iconst 1, 1) := by decide +kernel
theorem dX6_layChain_62 : decode cX6_layChain 62 = .ok (.goto 42, 3) := by decide +kernel
theorem dX6_layChain_65 : decode cX6_layChain 65 = .ok (.iconst 0, 1) := by decide +kernel
theorem dX6_layChain_66 : decode cX6_layChain 66 = .ok (.goto 38, 3) := by decide +kernel
theorem dX6_layChain_69 : decode cX6_layChain 69 = .ok (.iload_n 2, 1) := by decide +kernel
theorem dX6_layChain_70 : decode cX6_layChain 70 = .ok (.aload_n 0, 1) := by decide +kernel
theorem dX6_layChain_71 : decode cX6_layChain 71 = .ok (.getfield 66, 3) := by decide +kernel
theorem dX6_layChain_74 : decode cX6_layChain 74 = .ok (.if_icmp .le 29, 3) := by decide +kernel
theorem dX6_layChain_77 : decode cX6_layChain 77 = .ok (.aload_n 0, 1) := by decide +kernel
theorem dX6_layChain_78 : decode cX6_layChain 78 = .ok (.getfield 7, 3) := by decide +kernel
theorem dX6_layChain_81 : decode cX6_layChain 81 = .ok (.aload_n 0, 1) := by decide +kernel
theorem dX6_layChain_82 : decode cX6_layChain 82 = .ok (.getfield 20, 3) := by decide +kernel
theorem dX6_layChain_85 : decode cX6_layChain 85 = .ok (.iload_n 2, 1) := by decide +kernel
theorem dX6_layChain_86 : decode cX6_layChain 86 = .ok (.iconst 1, 1) := by decide +kernel
theorem dX6_layChain_87 : decode cX6_layChain 87 = .ok (.isub, 1) := by decide +kernel
theorem dX6_layChain_88 : decode cX6_layChain 88 = .ok (.iaload, 1) := by decide +kernel
theorem dX6_layChain_89 : decode cX6_layChain 89 = .ok (.iaload, 1) := by decide +kernel
theorem dX6_layChain_90 : decode cX6_layChain 90 = .ok (.aload_n 0, 1) := by decide +kernel
theorem dX6_layChain_91 : decode cX6_layChain 91 = .ok (.getfield 7, 3) := by decide +kernel
theorem dX6_layChain_94 : decode cX6_layChain 94 = .ok (.iload_n 3, 1) := by decide +kernel
theorem dX6_layChain_95 : decode cX6_layChain 95 = .ok (.iaload, 1) := by decide +kernel
theorem dX6_layChain_96 : decode cX6_layChain 96 = .ok (.if_icmp .ne 7, 3) := by decide +kernel
theorem dX6_layChain_99 : decode cX6_layChain 99 = .ok (.iconst 1, 1) := by decide +kernel
theorem dX6_layChain_100 : decode cX6_layChain 100 = .ok (.goto 4, 3) := by decide +kernel
theorem dX6_layChain_103 : decode cX6_layChain 103 = .ok (.iconst 0, 1) := by decide +kernel
theorem dX6_layChain_104 : decode cX6_layChain 104 = .ok (.istore 4, 2) := by decide +kernel
theorem dX6_layChain_106 : decode cX6_layChain 106 = .ok (.iload 4, 2) := by decide +kernel
theorem dX6_layChain_108 : decode cX6_layChain 108 = .ok (.ifCond .ne 115, 3) := by decide +kernel
theorem dX6_layChain_111 : decode cX6_layChain 111 = .ok (.aload_n 0, 1) := by decide +kernel
theorem dX6_layChain_112 : decode cX6_layChain 112 = .ok (.getfield 79, 3) := by decide +kernel
theorem dX6_layChain_115 : decode cX6_layChain 115 = .ok (.iconst 1, 1) := by decide +kernel
theorem dX6_layChain_116 : decode cX6_layChain 116 = .ok (.if_icmp .le 87, 3) := by decide +kernel
theorem dX6_layChain_119 : decode cX6_layChain 119 = .ok (.iload_n 1, 1) := by decide +kernel
theorem dX6_layChain_120 : decode cX6_layChain 120 = .ok (.ifCond .ne 38, 3) := by decide +kernel
theorem dX6_layChain_123 : decode cX6_layChain 123 = .ok (.aload_n 0, 1) := by decide +kernel
theorem dX6_layChain_124 : decode cX6_layChain 124 = .ok (.aload_n 0, 1) := by decide +kernel
theorem dX6_layChain_125 : decode cX6_layChain 125 = .ok (.getfield 26, 3) := by decide +kernel
theorem dX6_layChain_128 : decode cX6_layChain 128 = .ok (.aload_n 0, 1) := by decide +kernel
theorem dX6_layChain_129 : decode cX6_layChain 129 = .ok (.getfield 79, 3) := by decide +kernel
theorem dX6_layChain_132 : decode cX6_layChain 132 = .ok (.iconst 2, 1) := by decide +kernel
theorem dX6_layChain_133 : decode cX6_layChain 133 = .ok (.isub, 1) := by decide +kernel
theorem dX6_layChain_134 : decode cX6_layChain 134 = .ok (.iaload, 1) := by decide +kernel
theorem dX6_layChain_135 : decode cX6_layChain 135 = .ok (.aload_n 0, 1) := by decide +kernel
theorem dX6_layChain_136 : decode cX6_layChain 136 = .ok (.getfield 26, 3) := by decide +kernel
theorem dX6_layChain_139 : decode cX6_layChain 139 = .ok (.aload_n 0, 1) := by decide +kernel
theorem dX6_layChain_140 : decode cX6_layChain 140 = .ok (.getfield 79, 3) := by decide +kernel
theorem dX6_layChain_143 : decode cX6_layChain 143 = .ok (.iconst 1, 1) := by decide +kernel
theorem dX6_layChain_144 : decode cX6_layChain 144 = .ok (.isub, 1) := by decide +kernel
theorem dX6_layChain_145 : decode cX6_layChain 145 = .ok (.iaload, 1) := by decide +kernel
theorem dX6_layChain_146 : decode cX6_layChain 146 = .ok (.iload_n 3, 1) := by decide +kernel
theorem dX6_layChain_147 : decode cX6_layChain 147 = .ok (.invokevirtual 82, 3) := by decide +kernel
theorem dX6_layChain_150 : decode cX6_layChain 150 = .ok (.lconst 0, 1) := by decide +kernel
theorem dX6_layChain_151 : decode cX6_layChain 151 = .ok (.lcmp, 1) := by decide +kernel
theorem dX6_layChain_152 : decode cX6_layChain 152 = .ok (.ifCond .lt 51, 3) := by decide +kernel
theorem dX6_layChain_155 : decode cX6_layChain 155 = .ok (.goto 35, 3) := by decide +kernel
theorem dX6_layChain_158 : decode cX6_layChain 158 = .ok (.aload_n 0, 1) := by decide +kernel
theorem dX6_layChain_159 : decode cX6_layChain 159 = .ok (.aload_n 0, 1) := by decide +kernel
theorem dX6_layChain_160 : decode cX6_layChain 160 = .ok (.getfield 26, 3) := by decide +kernel
theorem dX6_layChain_163 : decode cX6_layChain 163 = .ok (.aload_n 0, 1) := by decide +kernel
theorem dX6_layChain_164 : decode cX6_layChain 164 = .ok (.getfield 79, 3) := by decide +kernel
theorem dX6_layChain_167 : decode cX6_layChain 167 = .ok (.iconst 2, 1) := by decide +kernel
theorem dX6_layChain_168 : decode cX6_layChain 168 = .ok (.isub, 1) := by decide +kernel
theorem dX6_layChain_169 : decode cX6_layChain 169 = .ok (.iaload, 1) := by decide +kernel
theorem dX6_layChain_170 : decode cX6_layChain 170 = .ok (.aload_n 0, 1) := by decide +kernel
theorem dX6_layChain_171 : decode cX6_layChain 171 = .ok (.getfield 26, 3) := by decide +kernel
theorem dX6_layChain_174 : decode cX6_layChain 174 = .ok (.aload_n 0, 1) := by decide +kernel
theorem dX6_layChain_175 : decode cX6_layChain 175 = .ok (.getfield 79, 3) := by decide +kernel
theorem dX6_layChain_178 : decode cX6_layChain 178 = .ok (.iconst 1, 1) := by decide +kernel
theorem dX6_layChain_179 : decode cX6_layChain 179 = .ok (.isub, 1) := by decide +kernel
theorem dX6_layChain_180 : decode cX6_layChain 180 = .ok (.iaload, 1) := by decide +kernel
theorem dX6_layChain_181 : decode cX6_layChain 181 = .ok (.iload_n 3, 1) := by decide +kernel
theorem dX6_layChain_182 : decode cX6_layChain 182 = .ok (.invokevirtual 82, 3) := by decide +kernel
theorem dX6_layChain_185 : decode cX6_layChain 185 = .ok (.lconst 0, 1) := by decide +kernel
theorem dX6_layChain_186 : decode cX6_layChain 186 = .ok (.lcmp, 1) := by decide +kernel
theorem dX6_layChain_187 : decode cX6_layChain 187 = .ok (.ifCond .gt 16, 3) := by decide +kernel
theorem dX6_layChain_190 : decode cX6_layChain 190 = .ok (.aload_n 0, 1) := by decide +kernel
theorem dX6_layChain_191 : decode cX6_layChain 191 = .ok (.dup, 1) := by decide +kernel
theorem dX6_layChain_192 : decode cX6_layChain 192 = .ok (.getfield 79, 3) := by decide +kernel
theorem dX6_layChain_195 : decode cX6_layChain 195 = .ok (.iconst 1, 1) := by decide +kernel
theorem dX6_layChain_196 : decode cX6_layChain 196 = .ok (.isub, 1) := by decide +kernel
theorem dX6_layChain_197 : decode cX6_layChain 197 = .ok (.putfield 79, 3) := by decide +kernel
theorem dX6_layChain_200 : decode cX6_layChain 200 = .ok (.goto (-89), 3) := by decide +kernel
theorem dX6_layChain_203 : decode cX6_layChain 203 = .ok (.aload_n 0, 1) := by decide +kernel
theorem dX6_layChain_204 : decode cX6_layChain 204 = .ok (.getfield 26, 3) := by decide +kernel
theorem dX6_layChain_207 : decode cX6_layChain 207 = .ok (.aload_n 0, 1) := by decide +kernel
theorem dX6_layChain_208 : decode cX6_layChain 208 = .ok (.getfield 79, 3) := by decide +kernel
theorem dX6_layChain_211 : decode cX6_layChain 211 = .ok (.iload_n 3, 1) := by decide +kernel
theorem dX6_layChain_212 : decode cX6_layChain 212 = .ok (.iastore, 1) := by decide +kernel
theorem dX6_layChain_213 : decode cX6_layChain 213 = .ok (.aload_n 0, 1) := by decide +kernel
theorem dX6_layChain_214 : decode cX6_layChain 214 = .ok (.dup, 1) := by decide +kernel
theorem dX6_layChain_215 : decode cX6_layChain 215 = .ok (.getfield 79, 3) := by decide +kernel
theorem dX6_layChain_218 : decode cX6_layChain 218 = .ok (.iconst 1, 1) := by decide +kernel
theorem dX6_layChain_219 : decode cX6_layChain 219 = .ok (.iadd, 1) := by decide +kernel
theorem dX6_layChain_220 : decode cX6_layChain 220 = .ok (.putfield 79, 3) := by decide +kernel
theorem dX6_layChain_223 : decode cX6_layChain 223 = .ok (.iinc 2 1, 3) := by decide +kernel
theorem dX6_layChain_226 : decode cX6_layChain 226 = .ok (.goto (-216), 3) := by decide +kernel
theorem dX6_layChain_229 : decode cX6_layChain 229 = .ok (.return_, 1) := by decide +kernel
theorem dX6_cornerSet_0 : decode cX6_cornerSet 0 = .ok (.lconst 0, 1) := by decide +kernel
theorem dX6_cornerSet_1 : decode cX6_cornerSet 1 = .ok (.lstore_n 1, 1) := by decide +kernel
theorem dX6_cornerSet_2 : decode cX6_cornerSet 2 = .ok (.iconst 0, 1) := by decide +kernel
theorem dX6_cornerSet_3 : decode cX6_cornerSet 3 = .ok (.istore_n 3, 1) := by decide +kernel
theorem dX6_cornerSet_4 : decode cX6_cornerSet 4 = .ok (.iload_n 3, 1) := by decide +kernel
theorem dX6_cornerSet_5 : decode cX6_cornerSet 5 = .ok (.aload_n 0, 1) := by decide +kernel
theorem dX6_cornerSet_6 : decode cX6_cornerSet 6 = .ok (.getfield 79, 3) := by decide +kernel
theorem dX6_cornerSet_9 : decode cX6_cornerSet 9 = .ok (.if_icmp .ge 20, 3) := by decide +kernel
theorem dX6_cornerSet_12 : decode cX6_cornerSet 12 = .ok (.lload_n 1, 1) := by decide +kernel
theorem dX6_cornerSet_13 : decode cX6_cornerSet 13 = .ok (.lconst 1, 1) := by decide +kernel
theorem dX6_cornerSet_14 : decode cX6_cornerSet 14 = .ok (.aload_n 0, 1) := by decide +kernel
theorem dX6_cornerSet_15 : decode cX6_cornerSet 15 = .ok (.getfield 26, 3) := by decide +kernel
theorem dX6_cornerSet_18 : decode cX6_cornerSet 18 = .ok (.iload_n 3, 1) := by decide +kernel
theorem dX6_cornerSet_19 : decode cX6_cornerSet 19 = .ok (.iaload, 1) := by decide +kernel
theorem dX6_cornerSet_20 : decode cX6_cornerSet 20 = .ok (.lshl, 1) := by decide +kernel
theorem dX6_cornerSet_21 : decode cX6_cornerSet 21 = .ok (.lor, 1) := by decide +kernel
theorem dX6_cornerSet_22 : decode cX6_cornerSet 22 = .ok (.lstore_n 1, 1) := by decide +kernel
theorem dX6_cornerSet_23 : decode cX6_cornerSet 23 = .ok (.iinc 3 1, 3) := by decide +kernel
theorem dX6_cornerSet_26 : decode cX6_cornerSet 26 = .ok (.goto (-22), 3) := by decide +kernel
theorem dX6_cornerSet_29 : decode cX6_cornerSet 29 = .ok (.lload_n 1, 1) := by decide +kernel
theorem dX6_cornerSet_30 : decode cX6_cornerSet 30 = .ok (.lreturn, 1) := by decide +kernel
set_option maxRecDepth 20000 in
theorem ggX6_chainSet_X6_layPart : GoodIn wsX6_chainSet wsX6_layPart := goodIn_r _ [5, 6, 7, 8, 9, 10, 11, 12, 4, 13, 14, 15, 16, 17, 18, 19, 20, 21, 39, 40, 41, 42, 43, 44, 45, 46, 47, 48, 49, 50, 51, 52, 53, 54] (by decide +kernel) (by decide +kernel)
set_option maxRecDepth 20000 in
theorem gX6_chainSet_X6_layPart : GoodIn wsX6_chainSet (wsV RX6 86 RX6 yX6_layPart wsX6_layPart) := goodIn_app (goodIn_of _ (by decide +kernel)) ggX6_chainSet_X6_layPart
set_option maxRecDepth 20000 in
theorem ggX6_chainSet_X6_layChain : GoodIn wsX6_chainSet wsX6_layChain := goodIn_r _ [25, 26, 7, 8, 16, 15, 27, 28, 29, 30, 4, 31, 17, 32, 33, 34, 39, 40, 41, 42, 43, 44, 45, 46, 47, 48, 49, 50, 51, 52, 53, 54] (by decide +kernel) (by decide +kernel)
set_option maxRecDepth 20000 in
theorem gX6_chainSet_X6_layChain : GoodIn wsX6_chainSet (wsV RX6 89 RX6 yX6_layChain wsX6_layChain) := goodIn_app (goodIn_of _ (by decide +kernel)) ggX6_chainSet_X6_layChain
set_option maxRecDepth 20000 in
theorem ggX6_chainSet_X6_cornerSet : GoodIn wsX6_chainSet wsX6_cornerSet := goodIn_r _ [38, 26, 27, 39, 40, 41, 42, 43, 44, 45, 46, 47, 48, 49, 50, 51, 52, 53, 54] (by decide +kernel) (by decide +kernel)
set_option maxRecDepth 20000 in
theorem gX6_chainSet_X6_cornerSet : GoodIn wsX6_chainSet (wsV RX6 93 RX6 yX6_cornerSet wsX6_cornerSet) := goodIn_app (goodIn_of _ (by decide +kernel)) ggX6_chainSet_X6_cornerSet
theorem dX6_chainSet_0 : decode cX6_chainSet 0 = .ok (.aload_n 0, 1) := by decide +kernel
theorem dX6_chainSet_1 : decode cX6_chainSet 1 = .ok (.iload_n 1, 1) := by decide +kernel
theorem dX6_chainSet_2 : decode cX6_chainSet 2 = .ok (.invokevirtual 86, 3) := by decide +kernel
theorem dX6_chainSet_5 : decode cX6_chainSet 5 = .ok (.ifCond .ne 5, 3) := by decide +kernel
theorem dX6_chainSet_8 : decode cX6_chainSet 8 = .ok (.lconst 0, 1) := by decide +kernel
theorem dX6_chainSet_9 : decode cX6_chainSet 9 = .ok (.lreturn, 1) := by decide +kernel
theorem dX6_chainSet_10 : decode cX6_chainSet 10 = .ok (.aload_n 0, 1) := by decide +kernel
theorem dX6_chainSet_11 : decode cX6_chainSet 11 = .ok (.iload_n 2, 1) := by decide +kernel
theorem dX6_chainSet_12 : decode cX6_chainSet 12 = .ok (.invokevirtual 89, 3) := by decide +kernel
theorem dX6_chainSet_15 : decode cX6_chainSet 15 = .ok (.aload_n 0, 1) := by decide +kernel
theorem dX6_chainSet_16 : decode cX6_chainSet 16 = .ok (.invokevirtual 93, 3) := by decide +kernel
theorem dX6_chainSet_19 : decode cX6_chainSet 19 = .ok (.lreturn, 1) := by decide +kernel
end
section
theorem dX6_bits_0 : decode cX6_bits 0 = .ok (.iconst 0, 1) := by decide +kernel
theorem dX6_bits_1 : decode cX6_bits 1 = .ok (.istore_n 2, 1) := by decide +kernel
theorem dX6_bits_2 : decode cX6_bits 2 = .ok (.iconst 0, 1) := by decide +kernel
theorem dX6_bits_3 : decode cX6_bits 3 = .ok (.istore_n 3, 1) := by decide +kernel
theorem dX6_bits_4 : decode cX6_bits 4 = .ok (.iload_n 3, 1) := by decide +kernel
theorem dX6_bits_5 : decode cX6_bits 5 = .ok (.bipush 32, 2) := by decide +kernel
theorem dX6_bits_7 : decode cX6_bits 7 = .ok (.if_icmp .ge 18, 3) := by decide +kernel
theorem dX6_bits_10 : decode cX6_bits 10 = .ok (.iload_n 2, 1) := by decide +kernel
theorem dX6_bits_11 : decode cX6_bits 11 = .ok (.lload_n 0, 1) := by decide +kernel
theorem dX6_bits_12 : decode cX6_bits 12 = .ok (.iload_n 3, 1) := by decide +kernel
theorem dX6_bits_13 : decode cX6_bits 13 = .ok (.lshr, 1) := by decide +kernel
theorem dX6_bits_14 : decode cX6_bits 14 = .ok (.lconst 1, 1) := by decide +kernel
theorem dX6_bits_15 : decode cX6_bits 15 = .ok (.land, 1) := by decide +kernel
theorem dX6_bits_16 : decode cX6_bits 16 = .ok (.l2i, 1) := by decide +kernel
theorem dX6_bits_17 : decode cX6_bits 17 = .ok (.iadd, 1) := by decide +kernel
theorem dX6_bits_18 : decode cX6_bits 18 = .ok (.istore_n 2, 1) := by decide +kernel
theorem dX6_bits_19 : decode cX6_bits 19 = .ok (.iinc 3 1, 3) := by decide +kernel
theorem dX6_bits_22 : decode cX6_bits 22 = .ok (.goto (-18), 3) := by decide +kernel
theorem dX6_bits_25 : decode cX6_bits 25 = .ok (.iload_n 2, 1) := by decide +kernel
theorem dX6_bits_26 : decode cX6_bits 26 = .ok (.ireturn, 1) := by decide +kernel
set_option maxRecDepth 20000 in
theorem ggX6_restOf_X6_chainSet : GoodIn wsX6_restOf wsX6_chainSet := goodIn_r _ [6, 7, 8, 9, 5, 10, 11, 12, 13, 14, 15, 16, 17, 18, 19, 20, 21, 22, 23, 24, 25, 26, 27, 28, 29, 30, 31, 32, 33, 34, 35, 36, 37, 38, 39, 40, 41, 42, 43, 47, 48, 49, 50, 51, 52, 53, 54, 55, 56, 57, 58, 59, 60, 61, 62] (by decide +kernel) (by decide +kernel)
set_option maxRecDepth 20000 in
theorem gX6_restOf_X6_chainSet : GoodIn wsX6_restOf (wsV RX6 97 RX6 yX6_chainSet wsX6_chainSet) := goodIn_app (goodIn_of _ (by decide +kernel)) ggX6_restOf_X6_chainSet
set_option maxRecDepth 20000 in
theorem ggX6_restOf_X6_bits : GoodIn wsX6_restOf wsX6_bits := goodIn_r _ [46] (by decide +kernel) (by decide +kernel)
set_option maxRecDepth 20000 in
theorem gX6_restOf_X6_bits : GoodIn wsX6_restOf (va_wsS RX6 103 yX6_bits wsX6_bits) := goodIn_app (goodIn_of _ (by decide +kernel)) ggX6_restOf_X6_bits
theorem dX6_restOf_0 : decode cX6_restOf 0 = .ok (.iload_n 1, 1) := by decide +kernel
theorem dX6_restOf_1 : decode cX6_restOf 1 = .ok (.iconst 1, 1) := by decide +kernel
theorem dX6_restOf_2 : decode cX6_restOf 2 = .ok (.if_icmp .ne 8, 3) := by decide +kernel
theorem dX6_restOf_5 : decode cX6_restOf 5 = .ok (.bipush (-6), 2) := by decide +kernel
theorem dX6_restOf_7 : decode cX6_restOf 7 = .ok (.goto 25, 3) := by decide +kernel
theorem dX6_restOf_10 : decode cX6_restOf 10 = .ok (.aload_n 0, 1) := by decide +kernel
theorem dX6_restOf_11 : decode cX6_restOf 11 = .ok (.iload_n 1, 1) := by decide +kernel
theorem dX6_restOf_12 : decode cX6_restOf 12 = .ok (.iload_n 2, 1) := by decide +kernel
theorem dX6_restOf_13 : decode cX6_restOf 13 = .ok (.invokevirtual 97, 3) := by decide +kernel
theorem dX6_restOf_16 : decode cX6_restOf 16 = .ok (.aload_n 0, 1) := by decide +kernel
theorem dX6_restOf_17 : decode cX6_restOf 17 = .ok (.iload_n 1, 1) := by decide +kernel
theorem dX6_restOf_18 : decode cX6_restOf 18 = .ok (.iconst 2, 1) := by decide +kernel
theorem dX6_restOf_19 : decode cX6_restOf 19 = .ok (.idiv, 1) := by decide +kernel
theorem dX6_restOf_20 : decode cX6_restOf 20 = .ok (.iload_n 2, 1) := by decide +kernel
theorem dX6_restOf_21 : decode cX6_restOf 21 = .ok (.invokevirtual 97, 3) := by decide +kernel
theorem dX6_restOf_24 : decode cX6_restOf 24 = .ok (.ldc2_w 101, 3) := by decide +kernel
theorem dX6_restOf_27 : decode cX6_restOf 27 = .ok (.lxor, 1) := by decide +kernel
theorem dX6_restOf_28 : decode cX6_restOf 28 = .ok (.land, 1) := by decide +kernel
theorem dX6_restOf_29 : decode cX6_restOf 29 = .ok (.invokestatic 103, 3) := by decide +kernel
theorem dX6_restOf_32 : decode cX6_restOf 32 = .ok (.ireturn, 1) := by decide +kernel
set_option maxRecDepth 20000 in
theorem ggX6_topOf_X6_chainSet : GoodIn wsX6_topOf wsX6_chainSet := goodIn_r _ [6, 7, 8, 9, 5, 10, 11, 12, 13, 1, 14, 15, 16, 17, 18, 19, 20, 21, 22, 23, 24, 25, 26, 27, 28, 29, 30, 31, 32, 33, 34, 35, 36, 37, 38, 39, 40, 41, 42, 43, 44, 45, 46, 47, 48, 49, 50, 51, 52, 53, 54, 55, 56, 57, 58] (by decide +kernel) (by decide +kernel)
set_option maxRecDepth 20000 in
theorem gX6_topOf_X6_chainSet : GoodIn wsX6_topOf (wsV RX6 97 RX6 yX6_chainSet wsX6_chainSet) := goodIn_app (goodIn_of _ (by decide +kernel)) ggX6_topOf_X6_chainSet
theorem dX6_topOf_0 : decode cX6_topOf 0 = .ok (.bipush (-6), 2) := by decide +kernel
theorem dX6_topOf_2 : decode cX6_topOf 2 = .ok (.istore_n 3, 1) := by decide +kernel
theorem dX6_topOf_3 : decode cX6_topOf 3 = .ok (.bipush 63, 2) := by decide +kernel
theorem dX6_topOf_5 : decode cX6_topOf 5 = .ok (.istore 4, 2) := by decide +kernel
theorem dX6_topOf_7 : decode cX6_topOf 7 = .ok (.iload 4, 2) := by decide +kernel
theorem dX6_topOf_9 : decode cX6_topOf 9 = .ok (.ifCond .le 46, 3) := by decide +kernel
theorem dX6_topOf_12 : decode cX6_topOf 12 = .ok (.aload_n 0, 1) := by decide +kernel
theorem dX6_topOf_13 : decode cX6_topOf 13 = .ok (.iload 4, 2) := by decide +kernel
theorem dX6_topOf_15 : decode cX6_topOf 15 = .ok (.iload_n 2, 1) := by decide +kernel
theorem dX6_topOf_16 : decode cX6_topOf 16 = .ok (.invokevirtual 97, 3) := by decide +kernel
theorem dX6_topOf_19 : decode cX6_topOf 19 = .ok (.iload_n 1, 1) := by decide +kernel
theorem dX6_topOf_20 : decode cX6_topOf 20 = .ok (.lshr, 1) := by decide +kernel
theorem dX6_topOf_21 : decode cX6_topOf 21 = .ok (.lconst 1, 1) := by decide +kernel
theorem dX6_topOf_22 : decode cX6_topOf 22 = .ok (.land, 1) := by decide +kernel
theorem dX6_topOf_23 : decode cX6_topOf 23 = .ok (.lconst 1, 1) := by decide +kernel
theorem dX6_topOf_24 : decode cX6_topOf 24 = .ok (.lcmp, 1) := by decide +kernel
theorem dX6_topOf_25 : decode cX6_topOf 25 = .ok (.ifCond .ne 24, 3) := by decide +kernel
theorem dX6_topOf_28 : decode cX6_topOf 28 = .ok (.iload_n 3, 1) := by decide +kernel
theorem dX6_topOf_29 : decode cX6_topOf 29 = .ok (.ifCond .lt 11, 3) := by decide +kernel
theorem dX6_topOf_32 : decode cX6_topOf 32 = .ok (.aload_n 0, 1) := by decide +kernel
theorem dX6_topOf_33 : decode cX6_topOf 33 = .ok (.getfield 72, 3) := by decide +kernel
theorem dX6_topOf_36 : decode cX6_topOf 36 = .ok (.iload_n 3, 1) := by decide +kernel
theorem dX6_topOf_37 : decode cX6_topOf 37 = .ok (.if_icmp .ge 10, 3) := by decide +kernel
theorem dX6_topOf_40 : decode cX6_topOf 40 = .ok (.aload_n 0, 1) := by decide +kernel
theorem dX6_topOf_41 : decode cX6_topOf 41 = .ok (.getfield 72, 3) := by decide +kernel
theorem dX6_topOf_44 : decode cX6_topOf 44 = .ok (.goto 4, 3) := by decide +kernel
theorem dX6_topOf_47 : decode cX6_topOf 47 = .ok (.iload_n 3, 1) := by decide +kernel
theorem dX6_topOf_48 : decode cX6_topOf 48 = .ok (.istore_n 3, 1) := by decide +kernel
theorem dX6_topOf_49 : decode cX6_topOf 49 = .ok (.iinc 4 (-1), 3) := by decide +kernel
theorem dX6_topOf_52 : decode cX6_topOf 52 = .ok (.goto (-45), 3) := by decide +kernel
theorem dX6_topOf_55 : decode cX6_topOf 55 = .ok (.iload_n 3, 1) := by decide +kernel
theorem dX6_topOf_56 : decode cX6_topOf 56 = .ok (.ireturn, 1) := by decide +kernel
set_option maxRecDepth 20000 in
theorem ggX6_point_X6_isPoint : GoodIn wsX6_point wsX6_isPoint := goodIn_r _ [8, 9, 10, 11, 7, 12, 51, 52, 53, 54, 55, 56, 57, 58, 59, 60, 61, 62, 63, 64, 65, 66] (by decide +kernel) (by decide +kernel)
set_option maxRecDepth 20000 in
theorem gX6_point_X6_isPoint : GoodIn wsX6_point (wsV RX6 59 RX6 yX6_isPoint wsX6_isPoint) := goodIn_app (goodIn_of _ (by decide +kernel)) ggX6_point_X6_isPoint
set_option maxRecDepth 20000 in
theorem ggX6_point_X6_layRanks : GoodIn wsX6_point wsX6_layRanks := goodIn_r _ [16, 9, 1, 17, 2, 3, 51, 52, 53, 54, 55, 56, 57, 58, 59, 60, 61, 62, 63, 64, 65, 66] (by decide +kernel) (by decide +kernel)
set_option maxRecDepth 20000 in
theorem gX6_point_X6_layRanks : GoodIn wsX6_point (wsV RX6 63 RX6 yX6_layRanks wsX6_layRanks) := goodIn_app (goodIn_of _ (by decide +kernel)) ggX6_point_X6_layRanks
set_option maxRecDepth 20000 in
theorem ggX6_point_X6_topOf : GoodIn wsX6_point wsX6_topOf := goodIn_r _ [21, 22, 23, 24, 25, 7, 26, 27, 28, 29, 30, 31, 32, 33, 13, 14, 15, 16, 9, 1, 17, 2, 3, 10, 11, 12, 34, 35, 36, 37, 38, 39, 40, 41, 42, 43, 44, 45, 46, 47, 48, 49, 50, 51, 52, 53, 54, 55, 56, 57, 58, 59, 60, 61, 62, 63, 64, 65, 66] (by decide +kernel) (by decide +kernel)
set_option maxRecDepth 20000 in
theorem gX6_point_X6_topOf : GoodIn wsX6_point (wsV RX6 107 RX6 yX6_topOf wsX6_topOf) := goodIn_app (goodIn_of _ (by decide +kernel)) ggX6_point_X6_topOf
theorem dX6_point_0 : decode cX6_point 0 = .ok (.aload_n 0, 1) := by decide +kernel
theorem dX6_point_1 : decode cX6_point 1 = .ok (.iload_n 1, 1) := by decide +kernel
theorem dX6_point_2 : decode cX6_point 2 = .ok (.invokevirtual 59, 3) := by decide +kernel
theorem dX6_point_5 : decode cX6_point 5 = .ok (.ifCond .ne 5, 3) := by decide +kernel
theorem dX6_point_8 : decode cX6_point 8 = .ok (.iconst (-1), 1) := by decide +kernel
theorem dX6_point_9 : decode cX6_point 9 = .ok (.ireturn, 1) := by decide +kernel
theorem dX6_point_10 : decode cX6_point 10 = .ok (.aload_n 0, 1) := by decide +kernel
theorem dX6_point_11 : decode cX6_point 11 = .ok (.invokevirtual 63, 3) := by decide +kernel
theorem dX6_point_14 : decode cX6_point 14 = .ok (.iload_n 2, 1) := by decide +kernel
theorem dX6_point_15 : decode cX6_point 15 = .ok (.tableswitch 68 0 4 #[33, 40, 47, 54, 61], 33) := by decide +kernel
theorem dX6_point_48 : decode cX6_point 48 = .ok (.aload_n 0, 1) := by decide +kernel
theorem dX6_point_49 : decode cX6_point 49 = .ok (.getfield 7, 3) := by decide +kernel
theorem dX6_point_52 : decode cX6_point 52 = .ok (.iload_n 1, 1) := by decide +kernel
theorem dX6_point_53 : decode cX6_point 53 = .ok (.iaload, 1) := by decide +kernel
theorem dX6_point_54 : decode cX6_point 54 = .ok (.ireturn, 1) := by decide +kernel
theorem dX6_point_55 : decode cX6_point 55 = .ok (.aload_n 0, 1) := by decide +kernel
theorem dX6_point_56 : decode cX6_point 56 = .ok (.getfield 13, 3) := by decide +kernel
theorem dX6_point_59 : decode cX6_point 59 = .ok (.iload_n 1, 1) := by decide +kernel
theorem dX6_point_60 : decode cX6_point 60 = .ok (.iaload, 1) := by decide +kernel
theorem dX6_point_61 : decode cX6_point 61 = .ok (.ireturn, 1) := by decide +kernel
theorem dX6_point_62 : decode cX6_point 62 = .ok (.aload_n 0, 1) := by decide +kernel
theorem dX6_point_63 : decode cX6_point 63 = .ok (.getfield 23, 3) := by decide +kernel
theorem dX6_point_66 : decode cX6_point 66 = .ok (.iload_n 1, 1) := by decide +kernel
theorem dX6_point_67 : decode cX6_point 67 = .ok (.iaload, 1) := by decide +kernel
theorem dX6_point_68 : decode cX6_point 68 = .ok (.ireturn, 1) := by decide +kernel
theorem dX6_point_69 : decode cX6_point 69 = .ok (.aload_n 0, 1) := by decide +kernel
theorem dX6_point_70 : decode cX6_point 70 = .ok (.iload_n 1, 1) := by decide +kernel
theorem dX6_point_71 : decode cX6_point 71 = .ok (.iconst 0, 1) := by decide +kernel
theorem dX6_point_72 : decode cX6_point 72 = .ok (.invokevirtual 107, 3) := by decide +kernel
theorem dX6_point_75 : decode cX6_point 75 = .ok (.ireturn, 1) := by decide +kernel
theorem dX6_point_76 : decode cX6_point 76 = .ok (.aload_n 0, 1) := by decide +kernel
theorem dX6_point_77 : decode cX6_point 77 = .ok (.iload_n 1, 1) := by decide +kernel
theorem dX6_point_78 : decode cX6_point 78 = .ok (.iconst 1, 1) := by decide +kernel
theorem dX6_point_79 : decode cX6_point 79 = .ok (.invokevirtual 107, 3) := by decide +kernel
theorem dX6_point_82 : decode cX6_point 82 = .ok (.ireturn, 1) := by decide +kernel
theorem dX6_point_83 : decode cX6_point 83 = .ok (.bipush (-2), 2) := by decide +kernel
theorem dX6_point_85 : decode cX6_point 85 = .ok (.ireturn, 1) := by decide +kernel
set_option maxRecDepth 20000 in
theorem ggX6_ranked_X6_layRanks : GoodIn wsX6_ranked wsX6_layRanks := goodIn_r _ [7, 8, 9, 2, 10, 11, 15, 16, 17, 18, 19, 20, 21, 22, 23, 24, 25, 26, 27, 28, 29, 30] (by decide +kernel) (by decide +kernel)
set_option maxRecDepth 20000 in
theorem gX6_ranked_X6_layRanks : GoodIn wsX6_ranked (wsV RX6 63 RX6 yX6_layRanks wsX6_layRanks) := goodIn_app (goodIn_of _ (by decide +kernel)) ggX6_ranked_X6_layRanks
set_option maxRecDepth 20000 in
theorem ggX6_ranked_X6_in : GoodIn wsX6_ranked wsX6_in := goodIn_r _ [14] (by decide +kernel) (by decide +kernel)
set_option maxRecDepth 20000 in
theorem gX6_ranked_X6_in : GoodIn wsX6_ranked (va_wsS RX6 44 yX6_in wsX6_in) := goodIn_app (goodIn_of _ (by decide +kernel)) ggX6_ranked_X6_in
theorem dX6_ranked_0 : decode cX6_ranked 0 = .ok (.aload_n 0, 1) := by decide +kernel
theorem dX6_ranked_1 : decode cX6_ranked 1 = .ok (.invokevirtual 63, 3) := by decide +kernel
theorem dX6_ranked_4 : decode cX6_ranked 4 = .ok (.iload_n 1, 1) := by decide +kernel
theorem dX6_ranked_5 : decode cX6_ranked 5 = .ok (.iconst 0, 1) := by decide +kernel
theorem dX6_ranked_6 : decode cX6_ranked 6 = .ok (.aload_n 0, 1) := by decide +kernel
theorem dX6_ranked_7 : decode cX6_ranked 7 = .ok (.getfield 55, 3) := by decide +kernel
theorem dX6_ranked_10 : decode cX6_ranked 10 = .ok (.iconst 1, 1) := by decide +kernel
theorem dX6_ranked_11 : decode cX6_ranked 11 = .ok (.isub, 1) := by decide +kernel
theorem dX6_ranked_12 : decode cX6_ranked 12 = .ok (.invokestatic 44, 3) := by decide +kernel
theorem dX6_ranked_15 : decode cX6_ranked 15 = .ok (.ifCond .eq 12, 3) := by decide +kernel
theorem dX6_ranked_18 : decode cX6_ranked 18 = .ok (.aload_n 0, 1) := by decide +kernel
theorem dX6_ranked_19 : decode cX6_ranked 19 = .ok (.getfield 20, 3) := by decide +kernel
theorem dX6_ranked_22 : decode cX6_ranked 22 = .ok (.iload_n 1, 1) := by decide +kernel
theorem dX6_ranked_23 : decode cX6_ranked 23 = .ok (.iaload, 1) := by decide +kernel
theorem dX6_ranked_24 : decode cX6_ranked 24 = .ok (.goto 5, 3) := by decide +kernel
theorem dX6_ranked_27 : decode cX6_ranked 27 = .ok (.bipush (-6), 2) := by decide +kernel
theorem dX6_ranked_29 : decode cX6_ranked 29 = .ok (.ireturn, 1) := by decide +kernel
set_option maxRecDepth 20000 in
theorem ggX6_part_X6_layPart : GoodIn wsX6_part wsX6_layPart := goodIn_r _ [7, 8, 2, 1, 9, 10, 11, 12, 6, 13, 14, 15, 16, 17, 18, 19, 20, 21, 51, 52, 53, 54, 55, 56, 57, 58, 59, 60, 61, 62, 63, 64, 65, 66] (by decide +kernel) (by decide +kernel)
set_option maxRecDepth 20000 in
theorem gX6_part_X6_layPart : GoodIn wsX6_part (wsV RX6 86 RX6 yX6_layPart wsX6_layPart) := goodIn_app (goodIn_of _ (by decide +kernel)) ggX6_part_X6_layPart
set_option maxRecDepth 20000 in
theorem ggX6_part_X6_chainSet : GoodIn wsX6_part wsX6_chainSet := goodIn_r _ [25, 3, 4, 5, 6, 7, 8, 2, 1, 9, 10, 11, 12, 13, 14, 15, 16, 17, 18, 19, 20, 21, 26, 27, 28, 29, 30, 31, 32, 33, 34, 35, 36, 37, 38, 39, 40, 41, 42, 51, 52, 53, 54, 55, 56, 57, 58, 59, 60, 61, 62, 63, 64, 65, 66] (by decide +kernel) (by decide +kernel)
set_option maxRecDepth 20000 in
theorem gX6_part_X6_chainSet : GoodIn wsX6_part (wsV RX6 97 RX6 yX6_chainSet wsX6_chainSet) := goodIn_app (goodIn_of _ (by decide +kernel)) ggX6_part_X6_chainSet
set_option maxRecDepth 20000 in
theorem ggX6_part_X6_bits : GoodIn wsX6_part wsX6_bits := goodIn_r _ [45] (by decide +kernel) (by decide +kernel)
set_option maxRecDepth 20000 in
theorem gX6_part_X6_bits : GoodIn wsX6_part (va_wsS RX6 103 yX6_bits wsX6_bits) := goodIn_app (goodIn_of _ (by decide +kernel)) ggX6_part_X6_bits
set_option maxRecDepth 20000 in
theorem ggX6_part_X6_restOf : GoodIn wsX6_part wsX6_restOf := goodIn_r _ [49, 50, 22, 23, 24, 6, 25, 3, 4, 5, 7, 8, 2, 1, 9, 10, 11, 12, 13, 14, 15, 16, 17, 18, 19, 20, 21, 26, 27, 28, 29, 30, 31, 32, 33, 34, 35, 36, 37, 38, 39, 40, 41, 42, 43, 44, 45, 51, 52, 53, 54, 55, 56, 57, 58, 59, 60, 61, 62, 63, 64, 65, 66] (by decide +kernel) (by decide +kernel)
set_option maxRecDepth 20000 in
theorem gX6_part_X6_restOf : GoodIn wsX6_part (wsV RX6 111 RX6 yX6_restOf wsX6_restOf) := goodIn_app (goodIn_of _ (by decide +kernel)) ggX6_part_X6_restOf
theorem dX6_part_0 : decode cX6_part 0 = .ok (.aload_n 0, 1) := by decide +kernel
theorem dX6_part_1 : decode cX6_part 1 = .ok (.iload_n 1, 1) := by decide +kernel
theorem dX6_part_2 : decode cX6_part 2 = .ok (.invokevirtual 86, 3) := by decide +kernel
theorem dX6_part_5 : decode cX6_part 5 = .ok (.ifCond .ne 5, 3) := by decide +kernel
theorem dX6_part_8 : decode cX6_part 8 = .ok (.iconst (-1), 1) := by decide +kernel
theorem dX6_part_9 : decode cX6_part 9 = .ok (.ireturn, 1) := by decide +kernel
theorem dX6_part_10 : decode cX6_part 10 = .ok (.iload_n 2, 1) := by decide +kernel
theorem dX6_part_11 : decode cX6_part 11 = .ok (.tableswitch 86 0 5 #[37, 47, 52, 62, 72, 79], 37) := by decide +kernel
theorem dX6_part_48 : decode cX6_part 48 = .ok (.aload_n 0, 1) := by decide +kernel
theorem dX6_part_49 : decode cX6_part 49 = .ok (.getfield 69, 3) := by decide +kernel
theorem dX6_part_52 : decode cX6_part 52 = .ok (.aload_n 0, 1) := by decide +kernel
theorem dX6_part_53 : decode cX6_part 53 = .ok (.getfield 66, 3) := by decide +kernel
theorem dX6_part_56 : decode cX6_part 56 = .ok (.isub, 1) := by decide +kernel
theorem dX6_part_57 : decode cX6_part 57 = .ok (.ireturn, 1) := by decide +kernel
theorem dX6_part_58 : decode cX6_part 58 = .ok (.aload_n 0, 1) := by decide +kernel
theorem dX6_part_59 : decode cX6_part 59 = .ok (.getfield 66, 3) := by decide +kernel
theorem dX6_part_62 : decode cX6_part 62 = .ok (.ireturn, 1) := by decide +kernel
theorem dX6_part_63 : decode cX6_part 63 = .ok (.aload_n 0, 1) := by decide +kernel
theorem dX6_part_64 : decode cX6_part 64 = .ok (.iload_n 1, 1) := by decide +kernel
theorem dX6_part_65 : decode cX6_part 65 = .ok (.iconst 0, 1) := by decide +kernel
theorem dX6_part_66 : decode cX6_part 66 = .ok (.invokevirtual 97, 3) := by decide +kernel
theorem dX6_part_69 : decode cX6_part 69 = .ok (.invokestatic 103, 3) := by decide +kernel
theorem dX6_part_72 : decode cX6_part 72 = .ok (.ireturn, 1) := by decide +kernel
theorem dX6_part_73 : decode cX6_part 73 = .ok (.aload_n 0, 1) := by decide +kernel
theorem dX6_part_74 : decode cX6_part 74 = .ok (.iload_n 1, 1) := by decide +kernel
theorem dX6_part_75 : decode cX6_part 75 = .ok (.iconst 1, 1) := by decide +kernel
theorem dX6_part_76 : decode cX6_part 76 = .ok (.invokevirtual 97, 3) := by decide +kernel
theorem dX6_part_79 : decode cX6_part 79 = .ok (.invokestatic 103, 3) := by decide +kernel
theorem dX6_part_82 : decode cX6_part 82 = .ok (.ireturn, 1) := by decide +kernel
theorem dX6_part_83 : decode cX6_part 83 = .ok (.aload_n 0, 1) := by decide +kernel
theorem dX6_part_84 : decode cX6_part 84 = .ok (.iload_n 1, 1) := by decide +kernel
theorem dX6_part_85 : decode cX6_part 85 = .ok (.iconst 0, 1) := by decide +kernel
theorem dX6_part_86 : decode cX6_part 86 = .ok (.invokevirtual 111, 3) := by decide +kernel
theorem dX6_part_89 : decode cX6_part 89 = .ok (.ireturn, 1) := by decide +kernel
theorem dX6_part_90 : decode cX6_part 90 = .ok (.aload_n 0, 1) := by decide +kernel
theorem dX6_part_91 : decode cX6_part 91 = .ok (.iload_n 1, 1) := by decide +kernel
theorem dX6_part_92 : decode cX6_part 92 = .ok (.iconst 1, 1) := by decide +kernel
theorem dX6_part_93 : decode cX6_part 93 = .ok (.invokevirtual 111, 3) := by decide +kernel
theorem dX6_part_96 : decode cX6_part 96 = .ok (.ireturn, 1) := by decide +kernel
theorem dX6_part_97 : decode cX6_part 97 = .ok (.bipush (-2), 2) := by decide +kernel
theorem dX6_part_99 : decode cX6_part 99 = .ok (.ireturn, 1) := by decide +kernel
set_option maxRecDepth 20000 in
theorem ggX6_chain_X6_layPart : GoodIn wsX6_chain wsX6_layPart := goodIn_r _ [7, 8, 9, 10, 11, 12, 13, 14, 6, 15, 16, 17, 18, 19, 20, 21, 22, 23, 35, 36, 37, 38, 39, 40, 41, 42, 43, 44, 45, 46, 47, 48, 49, 50] (by decide +kernel) (by decide +kernel)
set_option maxRecDepth 20000 in
theorem gX6_chain_X6_layPart : GoodIn wsX6_chain (wsV RX6 86 RX6 yX6_layPart wsX6_layPart) := goodIn_app (goodIn_of _ (by decide +kernel)) ggX6_chain_X6_layPart
set_option maxRecDepth 20000 in
theorem ggX6_chain_X6_in : GoodIn wsX6_chain wsX6_in := goodIn_r _ [23] (by decide +kernel) (by decide +kernel)
set_option maxRecDepth 20000 in
theorem gX6_chain_X6_in : GoodIn wsX6_chain (va_wsS RX6 44 yX6_in wsX6_in) := goodIn_app (goodIn_of _ (by decide +kernel)) ggX6_chain_X6_in
set_option maxRecDepth 20000 in
theorem ggX6_chain_X6_layChain : GoodIn wsX6_chain wsX6_layChain := goodIn_r _ [27, 1, 9, 10, 18, 17, 2, 28, 29, 30, 6, 31, 19, 32, 33, 34, 35, 36, 37, 38, 39, 40, 41, 42, 43, 44, 45, 46, 47, 48, 49, 50] (by decide +kernel) (by decide +kernel)
set_option maxRecDepth 20000 in
theorem gX6_chain_X6_layChain : GoodIn wsX6_chain (wsV RX6 89 RX6 yX6_layChain wsX6_layChain) := goodIn_app (goodIn_of _ (by decide +kernel)) ggX6_chain_X6_layChain
theorem dX6_chain_0 : decode cX6_chain 0 = .ok (.aload_n 0, 1) := by decide +kernel
theorem dX6_chain_1 : decode cX6_chain 1 = .ok (.iload_n 1, 1) := by decide +kernel
theorem dX6_chain_2 : decode cX6_chain 2 = .ok (.invokevirtual 86, 3) := by decide +kernel
theorem dX6_chain_5 : decode cX6_chain 5 = .ok (.ifCond .ne 5, 3) := by decide +kernel
theorem dX6_chain_8 : decode cX6_chain 8 = .ok (.iconst (-1), 1) := by decide +kernel
theorem dX6_chain_9 : decode cX6_chain 9 = .ok (.ireturn, 1) := by decide +kernel
theorem dX6_chain_10 : decode cX6_chain 10 = .ok (.iload_n 2, 1) := by decide +kernel
theorem dX6_chain_11 : decode cX6_chain 11 = .ok (.iconst 0, 1) := by decide +kernel
theorem dX6_chain_12 : decode cX6_chain 12 = .ok (.iconst 1, 1) := by decide +kernel
theorem dX6_chain_13 : decode cX6_chain 13 = .ok (.invokestatic 44, 3) := by decide +kernel
theorem dX6_chain_16 : decode cX6_chain 16 = .ok (.ifCond .ne 6, 3) := by decide +kernel
theorem dX6_chain_19 : decode cX6_chain 19 = .ok (.bipush (-2), 2) := by decide +kernel
theorem dX6_chain_21 : decode cX6_chain 21 = .ok (.ireturn, 1) := by decide +kernel
theorem dX6_chain_22 : decode cX6_chain 22 = .ok (.aload_n 0, 1) := by decide +kernel
theorem dX6_chain_23 : decode cX6_chain 23 = .ok (.iload_n 2, 1) := by decide +kernel
theorem dX6_chain_24 : decode cX6_chain 24 = .ok (.invokevirtual 89, 3) := by decide +kernel
theorem dX6_chain_27 : decode cX6_chain 27 = .ok (.iload_n 3, 1) := by decide +kernel
theorem dX6_chain_28 : decode cX6_chain 28 = .ok (.iconst 0, 1) := by decide +kernel
theorem dX6_chain_29 : decode cX6_chain 29 = .ok (.aload_n 0, 1) := by decide +kernel
theorem dX6_chain_30 : decode cX6_chain 30 = .ok (.getfield 79, 3) := by decide +kernel
theorem dX6_chain_33 : decode cX6_chain 33 = .ok (.iconst 1, 1) := by decide +kernel
theorem dX6_chain_34 : decode cX6_chain 34 = .ok (.isub, 1) := by decide +kernel
theorem dX6_chain_35 : decode cX6_chain 35 = .ok (.invokestatic 44, 3) := by decide +kernel
theorem dX6_chain_38 : decode cX6_chain 38 = .ok (.ifCond .eq 12, 3) := by decide +kernel
theorem dX6_chain_41 : decode cX6_chain 41 = .ok (.aload_n 0, 1) := by decide +kernel
theorem dX6_chain_42 : decode cX6_chain 42 = .ok (.getfield 26, 3) := by decide +kernel
theorem dX6_chain_45 : decode cX6_chain 45 = .ok (.iload_n 3, 1) := by decide +kernel
theorem dX6_chain_46 : decode cX6_chain 46 = .ok (.iaload, 1) := by decide +kernel
theorem dX6_chain_47 : decode cX6_chain 47 = .ok (.goto 5, 3) := by decide +kernel
theorem dX6_chain_50 : decode cX6_chain 50 = .ok (.bipush (-6), 2) := by decide +kernel
theorem dX6_chain_52 : decode cX6_chain 52 = .ok (.ireturn, 1) := by decide +kernel
set_option maxRecDepth 20000 in
theorem ggX6_bridge_X6_layPart : GoodIn wsX6_bridge wsX6_layPart := goodIn_r _ [10, 11, 2, 1, 12, 13, 14, 15, 9, 16, 17, 18, 19, 20, 4, 21, 22, 23, 35, 36, 37, 38, 39, 40, 41, 42, 43, 44, 45, 46, 47, 48, 49, 50] (by decide +kernel) (by decide +kernel)
set_option maxRecDepth 20000 in
theorem gX6_bridge_X6_layPart : GoodIn wsX6_bridge (wsV RX6 86 RX6 yX6_layPart wsX6_layPart) := goodIn_app (goodIn_of _ (by decide +kernel)) ggX6_bridge_X6_layPart
set_option maxRecDepth 20000 in
theorem ggX6_bridge_X6_in : GoodIn wsX6_bridge wsX6_in := goodIn_r _ [23] (by decide +kernel) (by decide +kernel)
set_option maxRecDepth 20000 in
theorem gX6_bridge_X6_in : GoodIn wsX6_bridge (va_wsS RX6 44 yX6_in wsX6_in) := goodIn_app (goodIn_of _ (by decide +kernel)) ggX6_bridge_X6_in
set_option maxRecDepth 20000 in
theorem ggX6_bridge_X6_layChain : GoodIn wsX6_bridge wsX6_layChain := goodIn_r _ [27, 3, 2, 1, 19, 18, 5, 28, 29, 30, 9, 31, 20, 32, 33, 34, 35, 36, 37, 38, 39, 40, 41, 42, 43, 44, 45, 46, 47, 48, 49, 50] (by decide +kernel) (by decide +kernel)
set_option maxRecDepth 20000 in
theorem gX6_bridge_X6_layChain : GoodIn wsX6_bridge (wsV RX6 89 RX6 yX6_layChain wsX6_layChain) := goodIn_app (goodIn_of _ (by decide +kernel)) ggX6_bridge_X6_layChain
theorem dX6_bridge_0 : decode cX6_bridge 0 = .ok (.aload_n 0, 1) := by decide +kernel
theorem dX6_bridge_1 : decode cX6_bridge 1 = .ok (.iload_n 1, 1) := by decide +kernel
theorem dX6_bridge_2 : decode cX6_bridge 2 = .ok (.invokevirtual 86, 3) := by decide +kernel
theorem dX6_bridge_5 : decode cX6_bridge 5 = .ok (.ifCond .ne 5, 3) := by decide +kernel
theorem dX6_bridge_8 : decode cX6_bridge 8 = .ok (.iconst (-1), 1) := by decide +kernel
theorem dX6_bridge_9 : decode cX6_bridge 9 = .ok (.ireturn, 1) := by decide +kernel
theorem dX6_bridge_10 : decode cX6_bridge 10 = .ok (.aload_n 0, 1) := by decide +kernel
theorem dX6_bridge_11 : decode cX6_bridge 11 = .ok (.getfield 69, 3) := by decide +kernel
theorem dX6_bridge_14 : decode cX6_bridge 14 = .ok (.aload_n 0, 1) := by decide +kernel
theorem dX6_bridge_15 : decode cX6_bridge 15 = .ok (.getfield 66, 3) := by decide +kernel
theorem dX6_bridge_18 : decode cX6_bridge 18 = .ok (.isub, 1) := by decide +kernel
theorem dX6_bridge_19 : decode cX6_bridge 19 = .ok (.iconst 2, 1) := by decide +kernel
theorem dX6_bridge_20 : decode cX6_bridge 20 = .ok (.if_icmp .ge 6, 3) := by decide +kernel
theorem dX6_bridge_23 : decode cX6_bridge 23 = .ok (.bipush (-5), 2) := by decide +kernel
theorem dX6_bridge_25 : decode cX6_bridge 25 = .ok (.ireturn, 1) := by decide +kernel
theorem dX6_bridge_26 : decode cX6_bridge 26 = .ok (.iload_n 2, 1) := by decide +kernel
theorem dX6_bridge_27 : decode cX6_bridge 27 = .ok (.iconst 0, 1) := by decide +kernel
theorem dX6_bridge_28 : decode cX6_bridge 28 = .ok (.iconst 1, 1) := by decide +kernel
theorem dX6_bridge_29 : decode cX6_bridge 29 = .ok (.invokestatic 44, 3) := by decide +kernel
theorem dX6_bridge_32 : decode cX6_bridge 32 = .ok (.ifCond .eq 12, 3) := by decide +kernel
theorem dX6_bridge_35 : decode cX6_bridge 35 = .ok (.iload_n 3, 1) := by decide +kernel
theorem dX6_bridge_36 : decode cX6_bridge 36 = .ok (.iconst 0, 1) := by decide +kernel
theorem dX6_bridge_37 : decode cX6_bridge 37 = .ok (.iconst 1, 1) := by decide +kernel
theorem dX6_bridge_38 : decode cX6_bridge 38 = .ok (.invokestatic 44, 3) := by decide +kernel
theorem dX6_bridge_41 : decode cX6_bridge 41 = .ok (.ifCond .ne 6, 3) := by decide +kernel
theorem dX6_bridge_44 : decode cX6_bridge 44 = .ok (.bipush (-2), 2) := by decide +kernel
theorem dX6_bridge_46 : decode cX6_bridge 46 = .ok (.ireturn, 1) := by decide +kernel
theorem dX6_bridge_47 : decode cX6_bridge 47 = .ok (.aload_n 0, 1) := by decide +kernel
theorem dX6_bridge_48 : decode cX6_bridge 48 = .ok (.iload_n 2, 1) := by decide +kernel
theorem dX6_bridge_49 : decode cX6_bridge 49 = .ok (.invokevirtual 89, 3) := by decide +kernel
theorem dX6_bridge_52 : decode cX6_bridge 52 = .ok (.aload_n 0, 1) := by decide +kernel
theorem dX6_bridge_53 : decode cX6_bridge 53 = .ok (.getfield 66, 3) := by decide +kernel
theorem dX6_bridge_56 : decode cX6_bridge 56 = .ok (.aload_n 0, 1) := by decide +kernel
theorem dX6_bridge_57 : decode cX6_bridge 57 = .ok (.getfield 69, 3) := by decide +kernel
theorem dX6_bridge_60 : decode cX6_bridge 60 = .ok (.aload_n 0, 1) := by decide +kernel
theorem dX6_bridge_61 : decode cX6_bridge 61 = .ok (.getfield 66, 3) := by decide +kernel
theorem dX6_bridge_64 : decode cX6_bridge 64 = .ok (.isub, 1) := by decide +kernel
theorem dX6_bridge_65 : decode cX6_bridge 65 = .ok (.iconst 1, 1) := by decide +kernel
theorem dX6_bridge_66 : decode cX6_bridge 66 = .ok (.iadd, 1) := by decide +kernel
theorem dX6_bridge_67 : decode cX6_bridge 67 = .ok (.iconst 2, 1) := by decide +kernel
theorem dX6_bridge_68 : decode cX6_bridge 68 = .ok (.idiv, 1) := by decide +kernel
theorem dX6_bridge_69 : decode cX6_bridge 69 = .ok (.iadd, 1) := by decide +kernel
theorem dX6_bridge_70 : decode cX6_bridge 70 = .ok (.istore 4, 2) := by decide +kernel
theorem dX6_bridge_72 : decode cX6_bridge 72 = .ok (.bipush (-6), 2) := by decide +kernel
theorem dX6_bridge_74 : decode cX6_bridge 74 = .ok (.istore 5, 2) := by decide +kernel
theorem dX6_bridge_76 : decode cX6_bridge 76 = .ok (.iconst 0, 1) := by decide +kernel
theorem dX6_bridge_77 : decode cX6_bridge 77 = .ok (.istore 6, 2) := by decide +kernel
theorem dX6_bridge_79 : decode cX6_bridge 79 = .ok (.iload 6, 2) := by decide +kernel
theorem dX6_bridge_81 : decode cX6_bridge 81 = .ok (.aload_n 0, 1) := by decide +kernel
theorem dX6_bridge_82 : decode cX6_bridge 82 = .ok (.getfield 79, 3) := by decide +kernel
theorem dX6_bridge_85 : decode cX6_bridge 85 = .ok (.if_icmp .ge 81, 3) := by decide +kernel
theorem dX6_bridge_88 : decode cX6_bridge 88 = .ok (.aload_n 0, 1) := by decide +kernel
theorem dX6_bridge_89 : decode cX6_bridge 89 = .ok (.getfield 23, 3) := by decide +kernel
theorem dX6_bridge_92 : decode cX6_bridge 92 = .ok (.aload_n 0, 1) := by decide +kernel
theorem dX6_bridge_93 : decode cX6_bridge 93 = .ok (.getfield 26, 3) := by decide +kernel
theorem dX6_bridge_96 : decode cX6_bridge 96 = .ok (.iload 6, 2) := by decide +kernel
theorem dX6_bridge_98 : decode cX6_bridge 98 = .ok (.iaload, 1) := by decide +kernel
theorem dX6_bridge_99 : decode cX6_bridge 99 = .ok (.iaload, 1) := by decide +kernel
theorem dX6_bridge_100 : decode cX6_bridge 100 = .ok (.iload 4, 2) := by decide +kernel
theorem dX6_bridge_102 : decode cX6_bridge 102 = .ok (.if_icmp .ge 7, 3) := by decide +kernel
theorem dX6_bridge_105 : decode cX6_bridge 105 = .ok (.iconst 1, 1) := by decide +kernel
theorem dX6_bridge_106 : decode cX6_bridge 106 = .ok (.goto 4, 3) := by decide +kernel
theorem dX6_bridge_109 : decode cX6_bridge 109 = .ok (.iconst 0, 1) := by decide +kernel
theorem dX6_bridge_110 : decode cX6_bridge 110 = .ok (.istore 7, 2) := by decide +kernel
theorem dX6_bridge_112 : decode cX6_bridge 112 = .ok (.iload_n 3, 1) := by decide +kernel
theorem dX6_bridge_113 : decode cX6_bridge 113 = .ok (.ifCond .ne 23, 3) := by decide +kernel
theorem dX6_bridge_116 : decode cX6_bridge 116 = .ok (.iload 7, 2) := by decide +kernel
theorem dX6_bridge_118 : decode cX6_bridge 118 = .ok (.ifCond .eq 13, 3) := by decide +kernel
theorem dX6_bridge_121 : decode cX6_bridge 121 = .ok (.aload_n 0, 1) := by decide +kernel
theorem dX6_bridge_122 : decode cX6_bridge 122 = .ok (.getfield 26, 3) := by decide +kernel
theorem dX6_bridge_125 : decode cX6_bridge 125 = .ok (.iload 6, 2) := by decide +kernel
theorem dX6_bridge_127 : decode cX6_bridge 127 = .ok (.iaload, 1) := by decide +kernel
theorem dX6_bridge_128 : decode cX6_bridge 128 = .ok (.goto 30, 3) := by decide +kernel
theorem dX6_bridge_131 : decode cX6_bridge 131 = .ok (.iload 5, 2) := by decide +kernel
theorem dX6_bridge_133 : decode cX6_bridge 133 = .ok (.goto 25, 3) := by decide +kernel
theorem dX6_bridge_136 : decode cX6_bridge 136 = .ok (.iload 7, 2) := by decide +kernel
theorem dX6_bridge_138 : decode cX6_bridge 138 = .ok (.ifCond .ne 18, 3) := by decide +kernel
theorem dX6_bridge_141 : decode cX6_bridge 141 = .ok (.iload 5, 2) := by decide +kernel
theorem dX6_bridge_143 : decode cX6_bridge 143 = .ok (.ifCond .ge 13, 3) := by decide +kernel
theorem dX6_bridge_146 : decode cX6_bridge 146 = .ok (.aload_n 0, 1) := by decide +kernel
theorem dX6_bridge_147 : decode cX6_bridge 147 = .ok (.getfield 26, 3) := by decide +kernel
theorem dX6_bridge_150 : decode cX6_bridge 150 = .ok (.iload 6, 2) := by decide +kernel
theorem dX6_bridge_152 : decode cX6_bridge 152 = .ok (.iaload, 1) := by decide +kernel
theorem dX6_bridge_153 : decode cX6_bridge 153 = .ok (.goto 5, 3) := by decide +kernel
theorem dX6_bridge_156 : decode cX6_bridge 156 = .ok (.iload 5, 2) := by decide +kernel
theorem dX6_bridge_158 : decode cX6_bridge 158 = .ok (.istore 5, 2) := by decide +kernel
theorem dX6_bridge_160 : decode cX6_bridge 160 = .ok (.iinc 6 1, 3) := by decide +kernel
theorem dX6_bridge_163 : decode cX6_bridge 163 = .ok (.goto (-84), 3) := by decide +kernel
theorem dX6_bridge_166 : decode cX6_bridge 166 = .ok (.iload 5, 2) := by decide +kernel
theorem dX6_bridge_168 : decode cX6_bridge 168 = .ok (.ireturn, 1) := by decide +kernel
theorem dX6_ringUp_0 : decode cX6_ringUp 0 = .ok (.iconst 1, 1) := by decide +kernel
theorem dX6_ringUp_1 : decode cX6_ringUp 1 = .ok (.istore_n 2, 1) := by decide +kernel
theorem dX6_ringUp_2 : decode cX6_ringUp 2 = .ok (.iconst 0, 1) := by decide +kernel
theorem dX6_ringUp_3 : decode cX6_ringUp 3 = .ok (.istore_n 3, 1) := by decide +kernel
theorem dX6_ringUp_4 : decode cX6_ringUp 4 = .ok (.iload_n 3, 1) := by decide +kernel
theorem dX6_ringUp_5 : decode cX6_ringUp 5 = .ok (.aload_n 0, 1) := by decide +kernel
theorem dX6_ringUp_6 : decode cX6_ringUp 6 = .ok (.getfield 114, 3) := by decide +kernel
theorem dX6_ringUp_9 : decode cX6_ringUp 9 = .ok (.if_icmp .ge 29, 3) := by decide +kernel
theorem dX6_ringUp_12 : decode cX6_ringUp 12 = .ok (.iload_n 2, 1) := by decide +kernel
theorem dX6_ringUp_13 : decode cX6_ringUp 13 = .ok (.ifCond .eq 17, 3) := by decide +kernel
theorem dX6_ringUp_16 : decode cX6_ringUp 16 = .ok (.aload_n 0, 1) := by decide +kernel
theorem dX6_ringUp_17 : decode cX6_ringUp 17 = .ok (.getfield 29, 3) := by decide +kernel
theorem dX6_ringUp_20 : decode cX6_ringUp 20 = .ok (.iload_n 3, 1) := by decide +kernel
theorem dX6_ringUp_21 : decode cX6_ringUp 21 = .ok (.iaload, 1) := by decide +kernel
theorem dX6_ringUp_22 : decode cX6_ringUp 22 = .ok (.iload_n 1, 1) := by decide +kernel
theorem dX6_ringUp_23 : decode cX6_ringUp 23 = .ok (.if_icmp .eq 7, 3) := by decide +kernel
theorem dX6_ringUp_26 : decode cX6_ringUp 26 = .ok (.iconst 1, 1) := by decide +kernel
theorem dX6_ringUp_27 : decode cX6_ringUp 27 = .ok (.goto 4, 3) := by decide +kernel
theorem dX6_ringUp_30 : decode cX6_ringUp 30 = .ok (.iconst 0, 1) := by decide +kernel
theorem dX6_ringUp_31 : decode cX6_ringUp 31 = .ok (.istore_n 2, 1) := by decide +kernel
theorem dX6_ringUp_32 : decode cX6_ringUp 32 = .ok (.iinc 3 1, 3) := by decide +kernel
theorem dX6_ringUp_35 : decode cX6_ringUp 35 = .ok (.goto (-31), 3) := by decide +kernel
theorem dX6_ringUp_38 : decode cX6_ringUp 38 = .ok (.iload_n 2, 1) := by decide +kernel
theorem dX6_ringUp_39 : decode cX6_ringUp 39 = .ok (.ifCond .eq 23, 3) := by decide +kernel
theorem dX6_ringUp_42 : decode cX6_ringUp 42 = .ok (.aload_n 0, 1) := by decide +kernel
theorem dX6_ringUp_43 : decode cX6_ringUp 43 = .ok (.getfield 29, 3) := by decide +kernel
theorem dX6_ringUp_46 : decode cX6_ringUp 46 = .ok (.aload_n 0, 1) := by decide +kernel
theorem dX6_ringUp_47 : decode cX6_ringUp 47 = .ok (.getfield 114, 3) := by decide +kernel
theorem dX6_ringUp_50 : decode cX6_ringUp 50 = .ok (.iload_n 1, 1) := by decide +kernel
theorem dX6_ringUp_51 : decode cX6_ringUp 51 = .ok (.iastore, 1) := by decide +kernel
theorem dX6_ringUp_52 : decode cX6_ringUp 52 = .ok (.aload_n 0, 1) := by decide +kernel
theorem dX6_ringUp_53 : decode cX6_ringUp 53 = .ok (.dup, 1) := by decide +kernel
theorem dX6_ringUp_54 : decode cX6_ringUp 54 = .ok (.getfield 114, 3) := by decide +kernel
theorem dX6_ringUp_57 : decode cX6_ringUp 57 = .ok (.iconst 1, 1) := by decide +kernel
theorem dX6_ringUp_58 : decode cX6_ringUp 58 = .ok (.iadd, 1) := by decide +kernel
theorem dX6_ringUp_59 : decode cX6_ringUp 59 = .ok (.putfield 114, 3) := by decide +kernel
theorem dX6_ringUp_62 : decode cX6_ringUp 62 = .ok (.return_, 1) := by decide +kernel
set_option maxRecDepth 20000 in
theorem ggX6_layRound_X6_layPart : GoodIn wsX6_layRound wsX6_layPart := goodIn_r _ [8, 9, 10, 11, 12, 13, 14, 15, 7, 16, 17, 18, 19, 20, 21, 22, 23, 24, 41, 42, 43, 44, 45, 46, 47, 48, 49, 50, 51, 52, 53, 54, 55, 56] (by decide +kernel) (by decide +kernel)
set_option maxRecDepth 20000 in
theorem gX6_layRound_X6_layPart : GoodIn wsX6_layRound (wsV RX6 86 RX6 yX6_layPart wsX6_layPart) := goodIn_app (goodIn_of _ (by decide +kernel)) ggX6_layRound_X6_layPart
set_option maxRecDepth 20000 in
theorem ggX6_layRound_X6_layChain : GoodIn wsX6_layRound wsX6_layChain := goodIn_r _ [28, 2, 10, 11, 19, 18, 3, 29, 30, 31, 7, 32, 20, 33, 34, 35, 41, 42, 43, 44, 45, 46, 47, 48, 49, 50, 51, 52, 53, 54, 55, 56] (by decide +kernel) (by decide +kernel)
set_option maxRecDepth 20000 in
theorem gX6_layRound_X6_layChain : GoodIn wsX6_layRound (wsV RX6 89 RX6 yX6_layChain wsX6_layChain) := goodIn_app (goodIn_of _ (by decide +kernel)) ggX6_layRound_X6_layChain
set_option maxRecDepth 20000 in
theorem ggX6_layRound_X6_ringUp : GoodIn wsX6_layRound wsX6_ringUp := goodIn_r _ [39, 1, 40, 41, 42, 43, 44, 45, 46, 47, 48, 49, 50, 51, 52, 53, 54, 55, 56] (by decide +kernel) (by decide +kernel)
set_option maxRecDepth 20000 in
theorem gX6_layRound_X6_ringUp : GoodIn wsX6_layRound (wsV RX6 117 RX6 yX6_ringUp wsX6_ringUp) := goodIn_app (goodIn_of _ (by decide +kernel)) ggX6_layRound_X6_ringUp
theorem dX6_layRound_0 : decode cX6_layRound 0 = .ok (.aload_n 0, 1) := by decide +kernel
theorem dX6_layRound_1 : decode cX6_layRound 1 = .ok (.iconst 0, 1) := by decide +kernel
theorem dX6_layRound_2 : decode cX6_layRound 2 = .ok (.putfield 114, 3) := by decide +kernel
theorem dX6_layRound_5 : decode cX6_layRound 5 = .ok (.aload_n 0, 1) := by decide +kernel
theorem dX6_layRound_6 : decode cX6_layRound 6 = .ok (.iconst 1, 1) := by decide +kernel
theorem dX6_layRound_7 : decode cX6_layRound 7 = .ok (.invokevirtual 86, 3) := by decide +kernel
theorem dX6_layRound_10 : decode cX6_layRound 10 = .ok (.ifCond .eq 66, 3) := by decide +kernel
theorem dX6_layRound_13 : decode cX6_layRound 13 = .ok (.aload_n 0, 1) := by decide +kernel
theorem dX6_layRound_14 : decode cX6_layRound 14 = .ok (.iconst 1, 1) := by decide +kernel
theorem dX6_layRound_15 : decode cX6_layRound 15 = .ok (.invokevirtual 89, 3) := by decide +kernel
theorem dX6_layRound_18 : decode cX6_layRound 18 = .ok (.iconst 0, 1) := by decide +kernel
theorem dX6_layRound_19 : decode cX6_layRound 19 = .ok (.istore_n 1, 1) := by decide +kernel
theorem dX6_layRound_20 : decode cX6_layRound 20 = .ok (.iload_n 1, 1) := by decide +kernel
theorem dX6_layRound_21 : decode cX6_layRound 21 = .ok (.aload_n 0, 1) := by decide +kernel
theorem dX6_layRound_22 : decode cX6_layRound 22 = .ok (.getfield 79, 3) := by decide +kernel
theorem dX6_layRound_25 : decode cX6_layRound 25 = .ok (.if_icmp .ge 19, 3) := by decide +kernel
theorem dX6_layRound_28 : decode cX6_layRound 28 = .ok (.aload_n 0, 1) := by decide +kernel
theorem dX6_layRound_29 : decode cX6_layRound 29 = .ok (.aload_n 0, 1) := by decide +kernel
theorem dX6_layRound_30 : decode cX6_layRound 30 = .ok (.getfield 26, 3) := by decide +kernel
theorem dX6_layRound_33 : decode cX6_layRound 33 = .ok (.iload_n 1, 1) := by decide +kernel
theorem dX6_layRound_34 : decode cX6_layRound 34 = .ok (.iaload, 1) := by decide +kernel
theorem dX6_layRound_35 : decode cX6_layRound 35 = .ok (.invokevirtual 117, 3) := by decide +kernel
theorem dX6_layRound_38 : decode cX6_layRound 38 = .ok (.iinc 1 1, 3) := by decide +kernel
theorem dX6_layRound_41 : decode cX6_layRound 41 = .ok (.goto (-21), 3) := by decide +kernel
theorem dX6_layRound_44 : decode cX6_layRound 44 = .ok (.aload_n 0, 1) := by decide +kernel
theorem dX6_layRound_45 : decode cX6_layRound 45 = .ok (.iconst 0, 1) := by decide +kernel
theorem dX6_layRound_46 : decode cX6_layRound 46 = .ok (.invokevirtual 89, 3) := by decide +kernel
theorem dX6_layRound_49 : decode cX6_layRound 49 = .ok (.aload_n 0, 1) := by decide +kernel
theorem dX6_layRound_50 : decode cX6_layRound 50 = .ok (.getfield 79, 3) := by decide +kernel
theorem dX6_layRound_53 : decode cX6_layRound 53 = .ok (.iconst 1, 1) := by decide +kernel
theorem dX6_layRound_54 : decode cX6_layRound 54 = .ok (.isub, 1) := by decide +kernel
theorem dX6_layRound_55 : decode cX6_layRound 55 = .ok (.istore_n 1, 1) := by decide +kernel
theorem dX6_layRound_56 : decode cX6_layRound 56 = .ok (.iload_n 1, 1) := by decide +kernel
theorem dX6_layRound_57 : decode cX6_layRound 57 = .ok (.ifCond .lt 19, 3) := by decide +kernel
theorem dX6_layRound_60 : decode cX6_layRound 60 = .ok (.aload_n 0, 1) := by decide +kernel
theorem dX6_layRound_61 : decode cX6_layRound 61 = .ok (.aload_n 0, 1) := by decide +kernel
theorem dX6_layRound_62 : decode cX6_layRound 62 = .ok (.getfield 26, 3) := by decide +kernel
theorem dX6_layRound_65 : decode cX6_layRound 65 = .ok (.iload_n 1, 1) := by decide +kernel
theorem dX6_layRound_66 : decode cX6_layRound 66 = .ok (.iaload, 1) := by decide +kernel
theorem dX6_layRound_67 : decode cX6_layRound 67 = .ok (.invokevirtual 117, 3) := by decide +kernel
theorem dX6_layRound_70 : decode cX6_layRound 70 = .ok (.iinc 1 (-1), 3) := by decide +kernel
theorem dX6_layRound_73 : decode cX6_layRound 73 = .ok (.goto (-17), 3) := by decide +kernel
theorem dX6_layRound_76 : decode cX6_layRound 76 = .ok (.return_, 1) := by decide +kernel
set_option maxRecDepth 20000 in
theorem ggX6_round_X6_layRound : GoodIn wsX6_round wsX6_layRound := goodIn_r _ [7, 1, 8, 9, 10, 11, 12, 6, 13, 14, 15, 16, 17, 18, 19, 20, 21, 22, 23, 24, 25, 26, 27, 28, 29, 30, 31, 32, 33, 34, 35, 36, 37, 38, 39, 40, 41, 42, 43, 44, 2, 45, 46, 47, 48, 49, 50, 51, 52, 53, 54, 55, 56, 57, 58, 59, 60] (by decide +kernel) (by decide +kernel)
set_option maxRecDepth 20000 in
theorem gX6_round_X6_layRound : GoodIn wsX6_round (wsV RX6 120 RX6 yX6_layRound wsX6_layRound) := goodIn_app (goodIn_of _ (by decide +kernel)) ggX6_round_X6_layRound
set_option maxRecDepth 20000 in
theorem ggX6_round_X6_in : GoodIn wsX6_round wsX6_in := goodIn_r _ [29] (by decide +kernel) (by decide +kernel)
set_option maxRecDepth 20000 in
theorem gX6_round_X6_in : GoodIn wsX6_round (va_wsS RX6 44 yX6_in wsX6_in) := goodIn_app (goodIn_of _ (by decide +kernel)) ggX6_round_X6_in
theorem dX6_round_0 : decode cX6_round 0 = .ok (.aload_n 0, 1) := by decide +kernel
theorem dX6_round_1 : decode cX6_round 1 = .ok (.invokevirtual 120, 3) := by decide +kernel
theorem dX6_round_4 : decode cX6_round 4 = .ok (.iload_n 1, 1) := by decide +kernel
theorem dX6_round_5 : decode cX6_round 5 = .ok (.iconst (-1), 1) := by decide +kernel
theorem dX6_round_6 : decode cX6_round 6 = .ok (.if_icmp .ne 10, 3) := by decide +kernel
theorem dX6_round_9 : decode cX6_round 9 = .ok (.aload_n 0, 1) := by decide +kernel
theorem dX6_round_10 : decode cX6_round 10 = .ok (.getfield 114, 3) := by decide +kernel
theorem dX6_round_13 : decode cX6_round 13 = .ok (.goto 28, 3) := by decide +kernel
theorem dX6_round_16 : decode cX6_round 16 = .ok (.iload_n 1, 1) := by decide +kernel
theorem dX6_round_17 : decode cX6_round 17 = .ok (.iconst 0, 1) := by decide +kernel
theorem dX6_round_18 : decode cX6_round 18 = .ok (.aload_n 0, 1) := by decide +kernel
theorem dX6_round_19 : decode cX6_round 19 = .ok (.getfield 114, 3) := by decide +kernel
theorem dX6_round_22 : decode cX6_round 22 = .ok (.iconst 1, 1) := by decide +kernel
theorem dX6_round_23 : decode cX6_round 23 = .ok (.isub, 1) := by decide +kernel
theorem dX6_round_24 : decode cX6_round 24 = .ok (.invokestatic 44, 3) := by decide +kernel
theorem dX6_round_27 : decode cX6_round 27 = .ok (.ifCond .eq 12, 3) := by decide +kernel
theorem dX6_round_30 : decode cX6_round 30 = .ok (.aload_n 0, 1) := by decide +kernel
theorem dX6_round_31 : decode cX6_round 31 = .ok (.getfield 29, 3) := by decide +kernel
theorem dX6_round_34 : decode cX6_round 34 = .ok (.iload_n 1, 1) := by decide +kernel
theorem dX6_round_35 : decode cX6_round 35 = .ok (.iaload, 1) := by decide +kernel
theorem dX6_round_36 : decode cX6_round 36 = .ok (.goto 5, 3) := by decide +kernel
theorem dX6_round_39 : decode cX6_round 39 = .ok (.bipush (-6), 2) := by decide +kernel
theorem dX6_round_41 : decode cX6_round 41 = .ok (.ireturn, 1) := by decide +kernel
set_option maxRecDepth 20000 in
theorem ggX6_extreme_X6_isPlace : GoodIn wsX6_extreme wsX6_isPlace := goodIn_r _ [10, 11, 12, 13, 14, 9, 15] (by decide +kernel) (by decide +kernel)
set_option maxRecDepth 20000 in
theorem gX6_extreme_X6_isPlace : GoodIn wsX6_extreme (va_wsS RX6 48 yX6_isPlace wsX6_isPlace) := goodIn_app (goodIn_of _ (by decide +kernel)) ggX6_extreme_X6_isPlace
set_option maxRecDepth 20000 in
theorem ggX6_extreme_X6_layRound : GoodIn wsX6_extreme wsX6_layRound := goodIn_r _ [19, 3, 20, 21, 22, 23, 24, 9, 25, 1, 26, 27, 28, 29, 30, 31, 32, 33, 4, 34, 5, 6, 13, 14, 15, 35, 36, 37, 38, 39, 40, 41, 42, 43, 44, 45, 46, 47, 48, 49, 2, 50, 51, 52, 53, 54, 55, 56, 57, 58, 59, 60, 61, 62, 63, 64, 65] (by decide +kernel) (by decide +kernel)
set_option maxRecDepth 20000 in
theorem gX6_extreme_X6_layRound : GoodIn wsX6_extreme (wsV RX6 120 RX6 yX6_layRound wsX6_layRound) := goodIn_app (goodIn_of _ (by decide +kernel)) ggX6_extreme_X6_layRound
theorem dX6_extreme_0 : decode cX6_extreme 0 = .ok (.iload_n 1, 1) := by decide +kernel
theorem dX6_extreme_1 : decode cX6_extreme 1 = .ok (.iload_n 2, 1) := by decide +kernel
theorem dX6_extreme_2 : decode cX6_extreme 2 = .ok (.invokestatic 48, 3) := by decide +kernel
theorem dX6_extreme_5 : decode cX6_extreme 5 = .ok (.ifCond .ne 6, 3) := by decide +kernel
theorem dX6_extreme_8 : decode cX6_extreme 8 = .ok (.bipush (-2), 2) := by decide +kernel
theorem dX6_extreme_10 : decode cX6_extreme 10 = .ok (.ireturn, 1) := by decide +kernel
theorem dX6_extreme_11 : decode cX6_extreme 11 = .ok (.aload_n 0, 1) := by decide +kernel
theorem dX6_extreme_12 : decode cX6_extreme 12 = .ok (.getfield 55, 3) := by decide +kernel
theorem dX6_extreme_15 : decode cX6_extreme 15 = .ok (.ifCond .eq 11, 3) := by decide +kernel
theorem dX6_extreme_18 : decode cX6_extreme 18 = .ok (.iload_n 1, 1) := by decide +kernel
theorem dX6_extreme_19 : decode cX6_extreme 19 = .ok (.ifCond .ne 10, 3) := by decide +kernel
theorem dX6_extreme_22 : decode cX6_extreme 22 = .ok (.iload_n 2, 1) := by decide +kernel
theorem dX6_extreme_23 : decode cX6_extreme 23 = .ok (.ifCond .ne 6, 3) := by decide +kernel
theorem dX6_extreme_26 : decode cX6_extreme 26 = .ok (.bipush (-5), 2) := by decide +kernel
theorem dX6_extreme_28 : decode cX6_extreme 28 = .ok (.ireturn, 1) := by decide +kernel
theorem dX6_extreme_29 : decode cX6_extreme 29 = .ok (.aload_n 0, 1) := by decide +kernel
theorem dX6_extreme_30 : decode cX6_extreme 30 = .ok (.invokevirtual 120, 3) := by decide +kernel
theorem dX6_extreme_33 : decode cX6_extreme 33 = .ok (.aload_n 0, 1) := by decide +kernel
theorem dX6_extreme_34 : decode cX6_extreme 34 = .ok (.getfield 29, 3) := by decide +kernel
theorem dX6_extreme_37 : decode cX6_extreme 37 = .ok (.iconst 0, 1) := by decide +kernel
theorem dX6_extreme_38 : decode cX6_extreme 38 = .ok (.iaload, 1) := by decide +kernel
theorem dX6_extreme_39 : decode cX6_extreme 39 = .ok (.istore_n 3, 1) := by decide +kernel
theorem dX6_extreme_40 : decode cX6_extreme 40 = .ok (.iconst 1, 1) := by decide +kernel
theorem dX6_extreme_41 : decode cX6_extreme 41 = .ok (.istore 4, 2) := by decide +kernel
theorem dX6_extreme_43 : decode cX6_extreme 43 = .ok (.iload 4, 2) := by decide +kernel
theorem dX6_extreme_45 : decode cX6_extreme 45 = .ok (.aload_n 0, 1) := by decide +kernel
theorem dX6_extreme_46 : decode cX6_extreme 46 = .ok (.getfield 114, 3) := by decide +kernel
theorem dX6_extreme_49 : decode cX6_extreme 49 = .ok (.if_icmp .ge 96, 3) := by decide +kernel
theorem dX6_extreme_52 : decode cX6_extreme 52 = .ok (.aload_n 0, 1) := by decide +kernel
theorem dX6_extreme_53 : decode cX6_extreme 53 = .ok (.getfield 29, 3) := by decide +kernel
theorem dX6_extreme_56 : decode cX6_extreme 56 = .ok (.iload 4, 2) := by decide +kernel
theorem dX6_extreme_58 : decode cX6_extreme 58 = .ok (.iaload, 1) := by decide +kernel
theorem dX6_extreme_59 : decode cX6_extreme 59 = .ok (.istore 5, 2) := by decide +kernel
theorem dX6_extreme_61 : decode cX6_extreme 61 = .ok (.iload_n 1, 1) := by decide +kernel
theorem dX6_extreme_62 : decode cX6_extreme 62 = .ok (.i2l, 1) := by decide +kernel
theorem dX6_extreme_63 : decode cX6_extreme 63 = .ok (.aload_n 0, 1) := by decide +kernel
theorem dX6_extreme_64 : decode cX6_extreme 64 = .ok (.getfield 7, 3) := by decide +kernel
theorem dX6_extreme_67 : decode cX6_extreme 67 = .ok (.iload 5, 2) := by decide +kernel
theorem dX6_extreme_69 : decode cX6_extreme 69 = .ok (.iaload, 1) := by decide +kernel
theorem dX6_extreme_70 : decode cX6_extreme 70 = .ok (.i2l, 1) := by decide +kernel
theorem dX6_extreme_71 : decode cX6_extreme 71 = .ok (.aload_n 0, 1) := by decide +kernel
theorem dX6_extreme_72 : decode cX6_extreme 72 = .ok (.getfield 7, 3) := by decide +kernel
theorem dX6_extreme_75 : decode cX6_extreme 75 = .ok (.iload_n 3, 1) := by decide +kernel
theorem dX6_extreme_76 : decode cX6_extreme 76 = .ok (.iaload, 1) := by decide +kernel
theorem dX6_extreme_77 : decode cX6_extreme 77 = .ok (.i2l, 1) := by decide +kernel
theorem dX6_extreme_78 : decode cX6_extreme 78 = .ok (.lsub, 1) := by decide +kernel
theorem dX6_extreme_79 : decode cX6_extreme 79 = .ok (.lmul, 1) := by decide +kernel
theorem dX6_extreme_80 : decode cX6_extreme 80 = .ok (.iload_n 2, 1) := by decide +kernel
theorem dX6_extreme_81 : decode cX6_extreme 81 = .ok (.i2l, 1) := by decide +kernel
theorem dX6_extreme_82 : decode cX6_extreme 82 = .ok (.aload_n 0, 1) := by decide +kernel
theorem dX6_extreme_83 : decode cX6_extreme 83 = .ok (.getfield 13, 3) := by decide +kernel
theorem dX6_extreme_86 : decode cX6_extreme 86 = .ok (.iload 5, 2) := by decide +kernel
theorem dX6_extreme_88 : decode cX6_extreme 88 = .ok (.iaload, 1) := by decide +kernel
theorem dX6_extreme_89 : decode cX6_extreme 89 = .ok (.i2l, 1) := by decide +kernel
theorem dX6_extreme_90 : decode cX6_extreme 90 = .ok (.aload_n 0, 1) := by decide +kernel
theorem dX6_extreme_91 : decode cX6_extreme 91 = .ok (.getfield 13, 3) := by decide +kernel
theorem dX6_extreme_94 : decode cX6_extreme 94 = .ok (.iload_n 3, 1) := by decide +kernel
theorem dX6_extreme_95 : decode cX6_extreme 95 = .ok (.iaload, 1) := by decide +kernel
theorem dX6_extreme_96 : decode cX6_extreme 96 = .ok (.i2l, 1) := by decide +kernel
theorem dX6_extreme_97 : decode cX6_extreme 97 = .ok (.lsub, 1) := by decide +kernel
theorem dX6_extreme_98 : decode cX6_extreme 98 = .ok (.lmul, 1) := by decide +kernel
theorem dX6_extreme_99 : decode cX6_extreme 99 = .ok (.ladd, 1) := by decide +kernel
theorem dX6_extreme_100 : decode cX6_extreme 100 = .ok (.lstore 6, 2) := by decide +kernel
theorem dX6_extreme_102 : decode cX6_extreme 102 = .ok (.lload 6, 2) := by decide +kernel
theorem dX6_extreme_104 : decode cX6_extreme 104 = .ok (.lconst 0, 1) := by decide +kernel
theorem dX6_extreme_105 : decode cX6_extreme 105 = .ok (.lcmp, 1) := by decide +kernel
theorem dX6_extreme_106 : decode cX6_extreme 106 = .ok (.ifCond .gt 26, 3) := by decide +kernel
theorem dX6_extreme_109 : decode cX6_extreme 109 = .ok (.lload 6, 2) := by decide +kernel
theorem dX6_extreme_111 : decode cX6_extreme 111 = .ok (.lconst 0, 1) := by decide +kernel
theorem dX6_extreme_112 : decode cX6_extreme 112 = .ok (.lcmp, 1) := by decide +kernel
theorem dX6_extreme_113 : decode cX6_extreme 113 = .ok (.ifCond .ne 24, 3) := by decide +kernel
theorem dX6_extreme_116 : decode cX6_extreme 116 = .ok (.aload_n 0, 1) := by decide +kernel
theorem dX6_extreme_117 : decode cX6_extreme 117 = .ok (.getfield 23, 3) := by decide +kernel
theorem dX6_extreme_120 : decode cX6_extreme 120 = .ok (.iload 5, 2) := by decide +kernel
theorem dX6_extreme_122 : decode cX6_extreme 122 = .ok (.iaload, 1) := by decide +kernel
theorem dX6_extreme_123 : decode cX6_extreme 123 = .ok (.aload_n 0, 1) := by decide +kernel
theorem dX6_extreme_124 : decode cX6_extreme 124 = .ok (.getfield 23, 3) := by decide +kernel
theorem dX6_extreme_127 : decode cX6_extreme 127 = .ok (.iload_n 3, 1) := by decide +kernel
theorem dX6_extreme_128 : decode cX6_extreme 128 = .ok (.iaload, 1) := by decide +kernel
theorem dX6_extreme_129 : decode cX6_extreme 129 = .ok (.if_icmp .ge 8, 3) := by decide +kernel
theorem dX6_extreme_132 : decode cX6_extreme 132 = .ok (.iload 5, 2) := by decide +kernel
theorem dX6_extreme_134 : decode cX6_extreme 134 = .ok (.goto 4, 3) := by decide +kernel
theorem dX6_extreme_137 : decode cX6_extreme 137 = .ok (.iload_n 3, 1) := by decide +kernel
theorem dX6_extreme_138 : decode cX6_extreme 138 = .ok (.istore_n 3, 1) := by decide +kernel
theorem dX6_extreme_139 : decode cX6_extreme 139 = .ok (.iinc 4 1, 3) := by decide +kernel
theorem dX6_extreme_142 : decode cX6_extreme 142 = .ok (.goto (-99), 3) := by decide +kernel
theorem dX6_extreme_145 : decode cX6_extreme 145 = .ok (.iload_n 3, 1) := by decide +kernel
theorem dX6_extreme_146 : decode cX6_extreme 146 = .ok (.ireturn, 1) := by decide +kernel
set_option maxRecDepth 20000 in
theorem ggX6_isBetween_X6_in : GoodIn wsX6_isBetween wsX6_in := goodIn_r _ [4] (by decide +kernel) (by decide +kernel)
set_option maxRecDepth 20000 in
theorem gX6_isBetween_X6_in : GoodIn wsX6_isBetween (va_wsS RX6 44 yX6_in wsX6_in) := goodIn_app (goodIn_of _ (by decide +kernel)) ggX6_isBetween_X6_in
theorem dX6_isBetween_0 : decode cX6_isBetween 0 = .ok (.iload_n 1, 1) := by decide +kernel
theorem dX6_isBetween_1 : decode cX6_isBetween 1 = .ok (.iload_n 2, 1) := by decide +kernel
theorem dX6_isBetween_2 : decode cX6_isBetween 2 = .ok (.if_icmp .ge 12, 3) := by decide +kernel
theorem dX6_isBetween_5 : decode cX6_isBetween 5 = .ok (.iload_n 0, 1) := by decide +kernel
theorem dX6_isBetween_6 : decode cX6_isBetween 6 = .ok (.iload_n 1, 1) := by decide +kernel
theorem dX6_isBetween_7 : decode cX6_isBetween 7 = .ok (.iload_n 2, 1) := by decide +kernel
theorem dX6_isBetween_8 : decode cX6_isBetween 8 = .ok (.invokestatic 44, 3) := by decide +kernel
theorem dX6_isBetween_11 : decode cX6_isBetween 11 = .ok (.goto 9, 3) := by decide +kernel
theorem dX6_isBetween_14 : decode cX6_isBetween 14 = .ok (.iload_n 0, 1) := by decide +kernel
theorem dX6_isBetween_15 : decode cX6_isBetween 15 = .ok (.iload_n 2, 1) := by decide +kernel
theorem dX6_isBetween_16 : decode cX6_isBetween 16 = .ok (.iload_n 1, 1) := by decide +kernel
theorem dX6_isBetween_17 : decode cX6_isBetween 17 = .ok (.invokestatic 44, 3) := by decide +kernel
theorem dX6_isBetween_20 : decode cX6_isBetween 20 = .ok (.ireturn, 1) := by decide +kernel
set_option maxRecDepth 20000 in
theorem ggX6_whereOf_X6_layRound : GoodIn wsX6_whereOf wsX6_layRound := goodIn_r _ [9, 1, 10, 11, 12, 13, 14, 8, 15, 16, 17, 18, 19, 20, 21, 22, 23, 24, 3, 25, 4, 26, 27, 28, 29, 30, 31, 32, 33, 34, 35, 36, 37, 38, 39, 40, 41, 42, 43, 44, 2, 48, 49, 50, 51, 52, 53, 54, 55, 56, 57, 58, 59, 60, 61, 62, 63] (by decide +kernel) (by decide +kernel)
set_option maxRecDepth 20000 in
theorem gX6_whereOf_X6_layRound : GoodIn wsX6_whereOf (wsV RX6 120 RX6 yX6_layRound wsX6_layRound) := goodIn_app (goodIn_of _ (by decide +kernel)) ggX6_whereOf_X6_layRound
set_option maxRecDepth 20000 in
theorem ggX6_whereOf_X6_cross : GoodIn wsX6_whereOf wsX6_cross := goodIn_r _ [40] (by decide +kernel) (by decide +kernel)
set_option maxRecDepth 20000 in
theorem gX6_whereOf_X6_cross : GoodIn wsX6_whereOf (va_wsS RX6 75 yX6_cross wsX6_cross) := goodIn_app (goodIn_of _ (by decide +kernel)) ggX6_whereOf_X6_cross
set_option maxRecDepth 20000 in
theorem ggX6_whereOf_X6_isBetween : GoodIn wsX6_whereOf wsX6_isBetween := goodIn_r _ [47, 27, 28, 8, 29] (by decide +kernel) (by decide +kernel)
set_option maxRecDepth 20000 in
theorem gX6_whereOf_X6_isBetween : GoodIn wsX6_whereOf (va_wsS RX6 123 yX6_isBetween wsX6_isBetween) := goodIn_app (goodIn_of _ (by decide +kernel)) ggX6_whereOf_X6_isBetween
theorem dX6_whereOf_0 : decode cX6_whereOf 0 = .ok (.aload_n 0, 1) := by decide +kernel
theorem dX6_whereOf_1 : decode cX6_whereOf 1 = .ok (.invokevirtual 120, 3) := by decide +kernel
theorem dX6_whereOf_4 : decode cX6_whereOf 4 = .ok (.aload_n 0, 1) := by decide +kernel
theorem dX6_whereOf_5 : decode cX6_whereOf 5 = .ok (.getfield 114, 3) := by decide +kernel
theorem dX6_whereOf_8 : decode cX6_whereOf 8 = .ok (.iconst 2, 1) := by decide +kernel
theorem dX6_whereOf_9 : decode cX6_whereOf 9 = .ok (.if_icmp .ge 7, 3) := by decide +kernel
theorem dX6_whereOf_12 : decode cX6_whereOf 12 = .ok (.iconst 1, 1) := by decide +kernel
theorem dX6_whereOf_13 : decode cX6_whereOf 13 = .ok (.goto 4, 3) := by decide +kernel
theorem dX6_whereOf_16 : decode cX6_whereOf 16 = .ok (.iconst 0, 1) := by decide +kernel
theorem dX6_whereOf_17 : decode cX6_whereOf 17 = .ok (.istore_n 3, 1) := by decide +kernel
theorem dX6_whereOf_18 : decode cX6_whereOf 18 = .ok (.iconst 0, 1) := by decide +kernel
theorem dX6_whereOf_19 : decode cX6_whereOf 19 = .ok (.istore 4, 2) := by decide +kernel
theorem dX6_whereOf_21 : decode cX6_whereOf 21 = .ok (.iconst 0, 1) := by decide +kernel
theorem dX6_whereOf_22 : decode cX6_whereOf 22 = .ok (.istore 5, 2) := by decide +kernel
theorem dX6_whereOf_24 : decode cX6_whereOf 24 = .ok (.iload 5, 2) := by decide +kernel
theorem dX6_whereOf_26 : decode cX6_whereOf 26 = .ok (.aload_n 0, 1) := by decide +kernel
theorem dX6_whereOf_27 : decode cX6_whereOf 27 = .ok (.getfield 114, 3) := by decide +kernel
theorem dX6_whereOf_30 : decode cX6_whereOf 30 = .ok (.if_icmp .ge 185, 3) := by decide +kernel
theorem dX6_whereOf_33 : decode cX6_whereOf 33 = .ok (.aload_n 0, 1) := by decide +kernel
theorem dX6_whereOf_34 : decode cX6_whereOf 34 = .ok (.getfield 29, 3) := by decide +kernel
theorem dX6_whereOf_37 : decode cX6_whereOf 37 = .ok (.iload 5, 2) := by decide +kernel
theorem dX6_whereOf_39 : decode cX6_whereOf 39 = .ok (.iaload, 1) := by decide +kernel
theorem dX6_whereOf_40 : decode cX6_whereOf 40 = .ok (.istore 6, 2) := by decide +kernel
theorem dX6_whereOf_42 : decode cX6_whereOf 42 = .ok (.aload_n 0, 1) := by decide +kernel
theorem dX6_whereOf_43 : decode cX6_whereOf 43 = .ok (.getfield 29, 3) := by decide +kernel
theorem dX6_whereOf_46 : decode cX6_whereOf 46 = .ok (.iload 5, 2) := by decide +kernel
theorem dX6_whereOf_48 : decode cX6_whereOf 48 = .ok (.iconst 1, 1) := by decide +kernel
theorem dX6_whereOf_49 : decode cX6_whereOf 49 = .ok (.iadd, 1) := by decide +kernel
theorem dX6_whereOf_50 : decode cX6_whereOf 50 = .ok (.aload_n 0, 1) := by decide +kernel
theorem dX6_whereOf_51 : decode cX6_whereOf 51 = .ok (.getfield 114, 3) := by decide +kernel
theorem dX6_whereOf_54 : decode cX6_whereOf 54 = .ok (.irem, 1) := by decide +kernel
theorem dX6_whereOf_55 : decode cX6_whereOf 55 = .ok (.iaload, 1) := by decide +kernel
theorem dX6_whereOf_56 : decode cX6_whereOf 56 = .ok (.istore 7, 2) := by decide +kernel
theorem dX6_whereOf_58 : decode cX6_whereOf 58 = .ok (.aload_n 0, 1) := by decide +kernel
theorem dX6_whereOf_59 : decode cX6_whereOf 59 = .ok (.getfield 7, 3) := by decide +kernel
theorem dX6_whereOf_62 : decode cX6_whereOf 62 = .ok (.iload 6, 2) := by decide +kernel
theorem dX6_whereOf_64 : decode cX6_whereOf 64 = .ok (.iaload, 1) := by decide +kernel
theorem dX6_whereOf_65 : decode cX6_whereOf 65 = .ok (.iload_n 1, 1) := by decide +kernel
theorem dX6_whereOf_66 : decode cX6_whereOf 66 = .ok (.if_icmp .ne 16, 3) := by decide +kernel
theorem dX6_whereOf_69 : decode cX6_whereOf 69 = .ok (.aload_n 0, 1) := by decide +kernel
theorem dX6_whereOf_70 : decode cX6_whereOf 70 = .ok (.getfield 13, 3) := by decide +kernel
theorem dX6_whereOf_73 : decode cX6_whereOf 73 = .ok (.iload 6, 2) := by decide +kernel
theorem dX6_whereOf_75 : decode cX6_whereOf 75 = .ok (.iaload, 1) := by decide +kernel
theorem dX6_whereOf_76 : decode cX6_whereOf 76 = .ok (.iload_n 2, 1) := by decide +kernel
theorem dX6_whereOf_77 : decode cX6_whereOf 77 = .ok (.if_icmp .ne 5, 3) := by decide +kernel
theorem dX6_whereOf_80 : decode cX6_whereOf 80 = .ok (.iconst 1, 1) := by decide +kernel
theorem dX6_whereOf_81 : decode cX6_whereOf 81 = .ok (.ireturn, 1) := by decide +kernel
theorem dX6_whereOf_82 : decode cX6_whereOf 82 = .ok (.aload_n 0, 1) := by decide +kernel
theorem dX6_whereOf_83 : decode cX6_whereOf 83 = .ok (.getfield 7, 3) := by decide +kernel
theorem dX6_whereOf_86 : decode cX6_whereOf 86 = .ok (.iload 6, 2) := by decide +kernel
theorem dX6_whereOf_88 : decode cX6_whereOf 88 = .ok (.iaload, 1) := by decide +kernel
theorem dX6_whereOf_89 : decode cX6_whereOf 89 = .ok (.i2l, 1) := by decide +kernel
theorem dX6_whereOf_90 : decode cX6_whereOf 90 = .ok (.aload_n 0, 1) := by decide +kernel
theorem dX6_whereOf_91 : decode cX6_whereOf 91 = .ok (.getfield 13, 3) := by decide +kernel
theorem dX6_whereOf_94 : decode cX6_whereOf 94 = .ok (.iload 6, 2) := by decide +kernel
theorem dX6_whereOf_96 : decode cX6_whereOf 96 = .ok (.iaload, 1) := by decide +kernel
theorem dX6_whereOf_97 : decode cX6_whereOf 97 = .ok (.i2l, 1) := by decide +kernel
theorem dX6_whereOf_98 : decode cX6_whereOf 98 = .ok (.aload_n 0, 1) := by decide +kernel
theorem dX6_whereOf_99 : decode cX6_whereOf 99 = .ok (.getfield 7, 3) := by decide +kernel
theorem dX6_whereOf_102 : decode cX6_whereOf 102 = .ok (.iload 7, 2) := by decide +kernel
theorem dX6_whereOf_104 : decode cX6_whereOf 104 = .ok (.iaload, 1) := by decide +kernel
theorem dX6_whereOf_105 : decode cX6_whereOf 105 = .ok (.i2l, 1) := by decide +kernel
theorem dX6_whereOf_106 : decode cX6_whereOf 106 = .ok (.aload_n 0, 1) := by decide +kernel
theorem dX6_whereOf_107 : decode cX6_whereOf 107 = .ok (.getfield 13, 3) := by decide +kernel
theorem dX6_whereOf_110 : decode cX6_whereOf 110 = .ok (.iload 7, 2) := by decide +kernel
theorem dX6_whereOf_112 : decode cX6_whereOf 112 = .ok (.iaload, 1) := by decide +kernel
theorem dX6_whereOf_113 : decode cX6_whereOf 113 = .ok (.i2l, 1) := by decide +kernel
theorem dX6_whereOf_114 : decode cX6_whereOf 114 = .ok (.iload_n 1, 1) := by decide +kernel
theorem dX6_whereOf_115 : decode cX6_whereOf 115 = .ok (.i2l, 1) := by decide +kernel
theorem dX6_whereOf_116 : decode cX6_whereOf 116 = .ok (.iload_n 2, 1) := by decide +kernel
theorem dX6_whereOf_117 : decode cX6_whereOf 117 = .ok (.i2l, 1) := by decide +kernel
theorem dX6_whereOf_118 : decode cX6_whereOf 118 = .ok (.invokestatic 75, 3) := by decide +kernel
theorem dX6_whereOf_121 : decode cX6_whereOf 121 = .ok (.lstore 8, 2) := by decide +kernel
theorem dX6_whereOf_123 : decode cX6_whereOf 123 = .ok (.iload_n 3, 1) := by decide +kernel
theorem dX6_whereOf_124 : decode cX6_whereOf 124 = .ok (.ifCond .ne 10, 3) := by decide +kernel
theorem dX6_whereOf_127 : decode cX6_whereOf 127 = .ok (.lload 8, 2) := by decide +kernel
theorem dX6_whereOf_129 : decode cX6_whereOf 129 = .ok (.lconst 0, 1) := by decide +kernel
theorem dX6_whereOf_130 : decode cX6_whereOf 130 = .ok (.lcmp, 1) := by decide +kernel
theorem dX6_whereOf_131 : decode cX6_whereOf 131 = .ok (.ifCond .ge 7, 3) := by decide +kernel
theorem dX6_whereOf_134 : decode cX6_whereOf 134 = .ok (.iconst 1, 1) := by decide +kernel
theorem dX6_whereOf_135 : decode cX6_whereOf 135 = .ok (.goto 4, 3) := by decide +kernel
theorem dX6_whereOf_138 : decode cX6_whereOf 138 = .ok (.iconst 0, 1) := by decide +kernel
theorem dX6_whereOf_139 : decode cX6_whereOf 139 = .ok (.istore_n 3, 1) := by decide +kernel
theorem dX6_whereOf_140 : decode cX6_whereOf 140 = .ok (.iload 4, 2) := by decide +kernel
theorem dX6_whereOf_142 : decode cX6_whereOf 142 = .ok (.ifCond .ne 60, 3) := by decide +kernel
theorem dX6_whereOf_145 : decode cX6_whereOf 145 = .ok (.aload_n 0, 1) := by decide +kernel
theorem dX6_whereOf_146 : decode cX6_whereOf 146 = .ok (.getfield 114, 3) := by decide +kernel
theorem dX6_whereOf_149 : decode cX6_whereOf 149 = .ok (.iconst 1, 1) := by decide +kernel
theorem dX6_whereOf_150 : decode cX6_whereOf 150 = .ok (.if_icmp .le 56, 3) := by decide +kernel
theorem dX6_whereOf_153 : decode cX6_whereOf 153 = .ok (.lload 8, 2) := by decide +kernel
theorem dX6_whereOf_155 : decode cX6_whereOf 155 = .ok (.lconst 0, 1) := by decide +kernel
theorem dX6_whereOf_156 : decode cX6_whereOf 156 = .ok (.lcmp, 1) := by decide +kernel
theorem dX6_whereOf_157 : decode cX6_whereOf 157 = .ok (.ifCond .ne 49, 3) := by decide +kernel
theorem dX6_whereOf_160 : decode cX6_whereOf 160 = .ok (.iload_n 1, 1) := by decide +kernel
theorem dX6_whereOf_161 : decode cX6_whereOf 161 = .ok (.aload_n 0, 1) := by decide +kernel
theorem dX6_whereOf_162 : decode cX6_whereOf 162 = .ok (.getfield 7, 3) := by decide +kernel
theorem dX6_whereOf_165 : decode cX6_whereOf 165 = .ok (.iload 6, 2) := by decide +kernel
theorem dX6_whereOf_167 : decode cX6_whereOf 167 = .ok (.iaload, 1) := by decide +kernel
theorem dX6_whereOf_168 : decode cX6_whereOf 168 = .ok (.aload_n 0, 1) := by decide +kernel
theorem dX6_whereOf_169 : decode cX6_whereOf 169 = .ok (.getfield 7, 3) := by decide +kernel
theorem dX6_whereOf_172 : decode cX6_whereOf 172 = .ok (.iload 7, 2) := by decide +kernel
theorem dX6_whereOf_174 : decode cX6_whereOf 174 = .ok (.iaload, 1) := by decide +kernel
theorem dX6_whereOf_175 : decode cX6_whereOf 175 = .ok (.invokestatic 123, 3) := by decide +kernel
theorem dX6_whereOf_178 : decode cX6_whereOf 178 = .ok (.ifCond .eq 28, 3) := by decide +kernel
theorem dX6_whereOf_181 : decode cX6_whereOf 181 = .ok (.iload_n 2, 1) := by decide +kernel
theorem dX6_whereOf_182 : decode cX6_whereOf 182 = .ok (.aload_n 0, 1) := by decide +kernel
theorem dX6_whereOf_183 : decode cX6_whereOf 183 = .ok (.getfield 13, 3) := by decide +kernel
theorem dX6_whereOf_186 : decode cX6_whereOf 186 = .ok (.iload 6, 2) := by decide +kernel
theorem dX6_whereOf_188 : decode cX6_whereOf 188 = .ok (.iaload, 1) := by decide +kernel
theorem dX6_whereOf_189 : decode cX6_whereOf 189 = .ok (.aload_n 0, 1) := by decide +kernel
theorem dX6_whereOf_190 : decode cX6_whereOf 190 = .ok (.getfield 13, 3) := by decide +kernel
theorem dX6_whereOf_193 : decode cX6_whereOf 193 = .ok (.iload 7, 2) := by decide +kernel
theorem dX6_whereOf_195 : decode cX6_whereOf 195 = .ok (.iaload, 1) := by decide +kernel
theorem dX6_whereOf_196 : decode cX6_whereOf 196 = .ok (.invokestatic 123, 3) := by decide +kernel
theorem dX6_whereOf_199 : decode cX6_whereOf 199 = .ok (.ifCond .eq 7, 3) := by decide +kernel
theorem dX6_whereOf_202 : decode cX6_whereOf 202 = .ok (.iconst 1, 1) := by decide +kernel
theorem dX6_whereOf_203 : decode cX6_whereOf 203 = .ok (.goto 4, 3) := by decide +kernel
theorem dX6_whereOf_206 : decode cX6_whereOf 206 = .ok (.iconst 0, 1) := by decide +kernel
theorem dX6_whereOf_207 : decode cX6_whereOf 207 = .ok (.istore 4, 2) := by decide +kernel
theorem dX6_whereOf_209 : decode cX6_whereOf 209 = .ok (.iinc 5 1, 3) := by decide +kernel
theorem dX6_whereOf_212 : decode cX6_whereOf 212 = .ok (.goto (-188), 3) := by decide +kernel
theorem dX6_whereOf_215 : decode cX6_whereOf 215 = .ok (.aload_n 0, 1) := by decide +kernel
theorem dX6_whereOf_216 : decode cX6_whereOf 216 = .ok (.getfield 114, 3) := by decide +kernel
theorem dX6_whereOf_219 : decode cX6_whereOf 219 = .ok (.iconst 2, 1) := by decide +kernel
theorem dX6_whereOf_220 : decode cX6_whereOf 220 = .ok (.if_icmp .ne 16, 3) := by decide +kernel
theorem dX6_whereOf_223 : decode cX6_whereOf 223 = .ok (.iload 4, 2) := by decide +kernel
theorem dX6_whereOf_225 : decode cX6_whereOf 225 = .ok (.ifCond .eq 7, 3) := by decide +kernel
theorem dX6_whereOf_228 : decode cX6_whereOf 228 = .ok (.iconst 2, 1) := by decide +kernel
theorem dX6_whereOf_229 : decode cX6_whereOf 229 = .ok (.goto 25, 3) := by decide +kernel
theorem dX6_whereOf_232 : decode cX6_whereOf 232 = .ok (.iconst 0, 1) := by decide +kernel
theorem dX6_whereOf_233 : decode cX6_whereOf 233 = .ok (.goto 21, 3) := by decide +kernel
theorem dX6_whereOf_236 : decode cX6_whereOf 236 = .ok (.iload_n 3, 1) := by decide +kernel
theorem dX6_whereOf_237 : decode cX6_whereOf 237 = .ok (.ifCond .eq 7, 3) := by decide +kernel
theorem dX6_whereOf_240 : decode cX6_whereOf 240 = .ok (.iconst 0, 1) := by decide +kernel
theorem dX6_whereOf_241 : decode cX6_whereOf 241 = .ok (.goto 13, 3) := by decide +kernel
theorem dX6_whereOf_244 : decode cX6_whereOf 244 = .ok (.iload 4, 2) := by decide +kernel
theorem dX6_whereOf_246 : decode cX6_whereOf 246 = .ok (.ifCond .eq 7, 3) := by decide +kernel
theorem dX6_whereOf_249 : decode cX6_whereOf 249 = .ok (.iconst 2, 1) := by decide +kernel
theorem dX6_whereOf_250 : decode cX6_whereOf 250 = .ok (.goto 4, 3) := by decide +kernel
theorem dX6_whereOf_253 : decode cX6_whereOf 253 = .ok (.iconst 3, 1) := by decide +kernel
theorem dX6_whereOf_254 : decode cX6_whereOf 254 = .ok (.ireturn, 1) := by decide +kernel
set_option maxRecDepth 20000 in
theorem ggX6_where_X6_isPlace : GoodIn wsX6_where wsX6_isPlace := goodIn_r _ [4, 5, 6, 7, 8, 3, 9] (by decide +kernel) (by decide +kernel)
set_option maxRecDepth 20000 in
theorem gX6_where_X6_isPlace : GoodIn wsX6_where (va_wsS RX6 48 yX6_isPlace wsX6_isPlace) := goodIn_app (goodIn_of _ (by decide +kernel)) ggX6_where_X6_isPlace
set_option maxRecDepth 20000 in
theorem ggX6_where_X6_whereOf : GoodIn wsX6_where wsX6_whereOf := goodIn_r _ [13, 14, 15, 16, 17, 18, 19, 20, 3, 21, 22, 23, 24, 25, 26, 27, 28, 29, 30, 31, 32, 33, 34, 35, 36, 37, 38, 7, 8, 9, 39, 40, 41, 42, 43, 44, 45, 46, 47, 48, 49, 50, 51, 52, 53, 54, 55, 56, 57, 58, 59, 60, 61, 62, 63, 64, 65, 66, 67, 68, 69, 70, 71, 72] (by decide +kernel) (by decide +kernel)
set_option maxRecDepth 20000 in
theorem gX6_where_X6_whereOf : GoodIn wsX6_where (wsV RX6 126 RX6 yX6_whereOf wsX6_whereOf) := goodIn_app (goodIn_of _ (by decide +kernel)) ggX6_where_X6_whereOf
theorem dX6_where_0 : decode cX6_where 0 = .ok (.iload_n 1, 1) := by decide +kernel
theorem dX6_where_1 : decode cX6_where 1 = .ok (.iload_n 2, 1) := by decide +kernel
theorem dX6_where_2 : decode cX6_where 2 = .ok (.invokestatic 48, 3) := by decide +kernel
theorem dX6_where_5 : decode cX6_where 5 = .ok (.ifCond .eq 12, 3) := by decide +kernel
theorem dX6_where_8 : decode cX6_where 8 = .ok (.aload_n 0, 1) := by decide +kernel
theorem dX6_where_9 : decode cX6_where 9 = .ok (.iload_n 1, 1) := by decide +kernel
theorem dX6_where_10 : decode cX6_where 10 = .ok (.iload_n 2, 1) := by decide +kernel
theorem dX6_where_11 : decode cX6_where 11 = .ok (.invokevirtual 126, 3) := by decide +kernel
theorem dX6_where_14 : decode cX6_where 14 = .ok (.goto 5, 3) := by decide +kernel
theorem dX6_where_17 : decode cX6_where 17 = .ok (.bipush (-2), 2) := by decide +kernel
theorem dX6_where_19 : decode cX6_where 19 = .ok (.ireturn, 1) := by decide +kernel
theorem dX6_square_0 : decode cX6_square 0 = .ok (.aload_n 0, 1) := by decide +kernel
theorem dX6_square_1 : decode cX6_square 1 = .ok (.getfield 7, 3) := by decide +kernel
theorem dX6_square_4 : decode cX6_square 4 = .ok (.iload_n 1, 1) := by decide +kernel
theorem dX6_square_5 : decode cX6_square 5 = .ok (.iaload, 1) := by decide +kernel
theorem dX6_square_6 : decode cX6_square 6 = .ok (.i2l, 1) := by decide +kernel
theorem dX6_square_7 : decode cX6_square 7 = .ok (.iload_n 2, 1) := by decide +kernel
theorem dX6_square_8 : decode cX6_square 8 = .ok (.i2l, 1) := by decide +kernel
theorem dX6_square_9 : decode cX6_square 9 = .ok (.lsub, 1) := by decide +kernel
theorem dX6_square_10 : decode cX6_square 10 = .ok (.lstore 4, 2) := by decide +kernel
theorem dX6_square_12 : decode cX6_square 12 = .ok (.aload_n 0, 1) := by decide +kernel
theorem dX6_square_13 : decode cX6_square 13 = .ok (.getfield 13, 3) := by decide +kernel
theorem dX6_square_16 : decode cX6_square 16 = .ok (.iload_n 1, 1) := by decide +kernel
theorem dX6_square_17 : decode cX6_square 17 = .ok (.iaload, 1) := by decide +kernel
theorem dX6_square_18 : decode cX6_square 18 = .ok (.i2l, 1) := by decide +kernel
theorem dX6_square_19 : decode cX6_square 19 = .ok (.iload_n 3, 1) := by decide +kernel
theorem dX6_square_20 : decode cX6_square 20 = .ok (.i2l, 1) := by decide +kernel
theorem dX6_square_21 : decode cX6_square 21 = .ok (.lsub, 1) := by decide +kernel
theorem dX6_square_22 : decode cX6_square 22 = .ok (.lstore 6, 2) := by decide +kernel
theorem dX6_square_24 : decode cX6_square 24 = .ok (.lload 4, 2) := by decide +kernel
theorem dX6_square_26 : decode cX6_square 26 = .ok (.lload 4, 2) := by decide +kernel
theorem dX6_square_28 : decode cX6_square 28 = .ok (.lmul, 1) := by decide +kernel
theorem dX6_square_29 : decode cX6_square 29 = .ok (.lload 6, 2) := by decide +kernel
theorem dX6_square_31 : decode cX6_square 31 = .ok (.lload 6, 2) := by decide +kernel
theorem dX6_square_33 : decode cX6_square 33 = .ok (.lmul, 1) := by decide +kernel
theorem dX6_square_34 : decode cX6_square 34 = .ok (.ladd, 1) := by decide +kernel
theorem dX6_square_35 : decode cX6_square 35 = .ok (.lreturn, 1) := by decide +kernel
set_option maxRecDepth 20000 in
theorem ggX6_touch_X6_isPlace : GoodIn wsX6_touch wsX6_isPlace := goodIn_r _ [9, 10, 11, 12, 13, 8, 14] (by decide +kernel) (by decide +kernel)
set_option maxRecDepth 20000 in
theorem gX6_touch_X6_isPlace : GoodIn wsX6_touch (va_wsS RX6 48 yX6_isPlace wsX6_isPlace) := goodIn_app (goodIn_of _ (by decide +kernel)) ggX6_touch_X6_isPlace
set_option maxRecDepth 20000 in
theorem ggX6_touch_X6_in : GoodIn wsX6_touch wsX6_in := goodIn_r _ [14] (by decide +kernel) (by decide +kernel)
set_option maxRecDepth 20000 in
theorem gX6_touch_X6_in : GoodIn wsX6_touch (va_wsS RX6 44 yX6_in wsX6_in) := goodIn_app (goodIn_of _ (by decide +kernel)) ggX6_touch_X6_in
set_option maxRecDepth 20000 in
theorem ggX6_touch_X6_whereOf : GoodIn wsX6_touch wsX6_whereOf := goodIn_r _ [18, 2, 3, 4, 5, 19, 20, 21, 8, 22, 23, 24, 25, 26, 27, 28, 1, 29, 30, 31, 32, 33, 34, 35, 36, 37, 38, 12, 13, 14, 39, 40, 41, 42, 43, 44, 45, 46, 47, 48, 49, 50, 51, 52, 53, 54, 55, 56, 61, 62, 63, 64, 65, 66, 67, 68, 69, 70, 71, 72, 73, 74, 75, 76] (by decide +kernel) (by decide +kernel)
set_option maxRecDepth 20000 in
theorem gX6_touch_X6_whereOf : GoodIn wsX6_touch (wsV RX6 126 RX6 yX6_whereOf wsX6_whereOf) := goodIn_app (goodIn_of _ (by decide +kernel)) ggX6_touch_X6_whereOf
set_option maxRecDepth 20000 in
theorem ggX6_touch_X6_cross : GoodIn wsX6_touch wsX6_cross := goodIn_r _ [49] (by decide +kernel) (by decide +kernel)
set_option maxRecDepth 20000 in
theorem gX6_touch_X6_cross : GoodIn wsX6_touch (va_wsS RX6 75 yX6_cross wsX6_cross) := goodIn_app (goodIn_of _ (by decide +kernel)) ggX6_touch_X6_cross
set_option maxRecDepth 20000 in
theorem ggX6_touch_X6_square : GoodIn wsX6_touch wsX6_square := goodIn_r _ [60, 4, 5, 61, 62, 63, 64, 65, 66, 67, 68, 69, 70, 71, 72, 73, 74, 75, 76] (by decide +kernel) (by decide +kernel)
set_option maxRecDepth 20000 in
theorem gX6_touch_X6_square : GoodIn wsX6_touch (wsV RX6 129 RX6 yX6_square wsX6_square) := goodIn_app (goodIn_of _ (by decide +kernel)) ggX6_touch_X6_square
theorem dX6_touch_0 : decode cX6_touch 0 = .ok (.iload_n 1, 1) := by decide +kernel
theorem dX6_touch_1 : decode cX6_touch 1 = .ok (.iload_n 2, 1) := by decide +kernel
theorem dX6_touch_2 : decode cX6_touch 2 = .ok (.invokestatic 48, 3) := by decide +kernel
theorem dX6_touch_5 : decode cX6_touch 5 = .ok (.ifCond .eq 12, 3) := by decide +kernel
theorem dX6_touch_8 : decode cX6_touch 8 = .ok (.iload_n 3, 1) := by decide +kernel
theorem dX6_touch_9 : decode cX6_touch 9 = .ok (.iconst 0, 1) := by decide +kernel
theorem dX6_touch_10 : decode cX6_touch 10 = .ok (.iconst 1, 1) := by decide +kernel
theorem dX6_touch_11 : decode cX6_touch 11 = .ok (.invokestatic 44, 3) := by decide +kernel
theorem dX6_touch_14 : decode cX6_touch 14 = .ok (.ifCond .ne 6, 3) := by decide +kernel
theorem dX6_touch_17 : decode cX6_touch 17 = .ok (.bipush (-2), 2) := by decide +kernel
theorem dX6_touch_19 : decode cX6_touch 19 = .ok (.ireturn, 1) := by decide +kernel
theorem dX6_touch_20 : decode cX6_touch 20 = .ok (.aload_n 0, 1) := by decide +kernel
theorem dX6_touch_21 : decode cX6_touch 21 = .ok (.getfield 55, 3) := by decide +kernel
theorem dX6_touch_24 : decode cX6_touch 24 = .ok (.ifCond .ne 6, 3) := by decide +kernel
theorem dX6_touch_27 : decode cX6_touch 27 = .ok (.bipush (-5), 2) := by decide +kernel
theorem dX6_touch_29 : decode cX6_touch 29 = .ok (.ireturn, 1) := by decide +kernel
theorem dX6_touch_30 : decode cX6_touch 30 = .ok (.aload_n 0, 1) := by decide +kernel
theorem dX6_touch_31 : decode cX6_touch 31 = .ok (.iload_n 1, 1) := by decide +kernel
theorem dX6_touch_32 : decode cX6_touch 32 = .ok (.iload_n 2, 1) := by decide +kernel
theorem dX6_touch_33 : decode cX6_touch 33 = .ok (.invokevirtual 126, 3) := by decide +kernel
theorem dX6_touch_36 : decode cX6_touch 36 = .ok (.ifCond .eq 6, 3) := by decide +kernel
theorem dX6_touch_39 : decode cX6_touch 39 = .ok (.bipush (-3), 2) := by decide +kernel
theorem dX6_touch_41 : decode cX6_touch 41 = .ok (.ireturn, 1) := by decide +kernel
theorem dX6_touch_42 : decode cX6_touch 42 = .ok (.bipush (-6), 2) := by decide +kernel
theorem dX6_touch_44 : decode cX6_touch 44 = .ok (.istore 4, 2) := by decide +kernel
theorem dX6_touch_46 : decode cX6_touch 46 = .ok (.iconst 0, 1) := by decide +kernel
theorem dX6_touch_47 : decode cX6_touch 47 = .ok (.istore 5, 2) := by decide +kernel
theorem dX6_touch_49 : decode cX6_touch 49 = .ok (.iload 5, 2) := by decide +kernel
theorem dX6_touch_51 : decode cX6_touch 51 = .ok (.aload_n 0, 1) := by decide +kernel
theorem dX6_touch_52 : decode cX6_touch 52 = .ok (.getfield 114, 3) := by decide +kernel
theorem dX6_touch_55 : decode cX6_touch 55 = .ok (.if_icmp .ge 157, 3) := by decide +kernel
theorem dX6_touch_58 : decode cX6_touch 58 = .ok (.aload_n 0, 1) := by decide +kernel
theorem dX6_touch_59 : decode cX6_touch 59 = .ok (.getfield 29, 3) := by decide +kernel
theorem dX6_touch_62 : decode cX6_touch 62 = .ok (.iload 5, 2) := by decide +kernel
theorem dX6_touch_64 : decode cX6_touch 64 = .ok (.iaload, 1) := by decide +kernel
theorem dX6_touch_65 : decode cX6_touch 65 = .ok (.istore 6, 2) := by decide +kernel
theorem dX6_touch_67 : decode cX6_touch 67 = .ok (.iconst 1, 1) := by decide +kernel
theorem dX6_touch_68 : decode cX6_touch 68 = .ok (.istore 7, 2) := by decide +kernel
theorem dX6_touch_70 : decode cX6_touch 70 = .ok (.iconst 0, 1) := by decide +kernel
theorem dX6_touch_71 : decode cX6_touch 71 = .ok (.istore 8, 2) := by decide +kernel
theorem dX6_touch_73 : decode cX6_touch 73 = .ok (.iload 8, 2) := by decide +kernel
theorem dX6_touch_75 : decode cX6_touch 75 = .ok (.aload_n 0, 1) := by decide +kernel
theorem dX6_touch_76 : decode cX6_touch 76 = .ok (.getfield 114, 3) := by decide +kernel
theorem dX6_touch_79 : decode cX6_touch 79 = .ok (.if_icmp .ge 93, 3) := by decide +kernel
theorem dX6_touch_82 : decode cX6_touch 82 = .ok (.iload_n 1, 1) := by decide +kernel
theorem dX6_touch_83 : decode cX6_touch 83 = .ok (.i2l, 1) := by decide +kernel
theorem dX6_touch_84 : decode cX6_touch 84 = .ok (.iload_n 2, 1) := by decide +kernel
theorem dX6_touch_85 : decode cX6_touch 85 = .ok (.i2l, 1) := by decide +kernel
theorem dX6_touch_86 : decode cX6_touch 86 = .ok (.aload_n 0, 1) := by decide +kernel
theorem dX6_touch_87 : decode cX6_touch 87 = .ok (.getfield 7, 3) := by decide +kernel
theorem dX6_touch_90 : decode cX6_touch 90 = .ok (.iload 6, 2) := by decide +kernel
theorem dX6_touch_92 : decode cX6_touch 92 = .ok (.iaload, 1) := by decide +kernel
theorem dX6_touch_93 : decode cX6_touch 93 = .ok (.i2l, 1) := by decide +kernel
theorem dX6_touch_94 : decode cX6_touch 94 = .ok (.aload_n 0, 1) := by decide +kernel
theorem dX6_touch_95 : decode cX6_touch 95 = .ok (.getfield 13, 3) := by decide +kernel
theorem dX6_touch_98 : decode cX6_touch 98 = .ok (.iload 6, 2) := by decide +kernel
theorem dX6_touch_100 : decode cX6_touch 100 = .ok (.iaload, 1) := by decide +kernel
theorem dX6_touch_101 : decode cX6_touch 101 = .ok (.i2l, 1) := by decide +kernel
theorem dX6_touch_102 : decode cX6_touch 102 = .ok (.aload_n 0, 1) := by decide +kernel
theorem dX6_touch_103 : decode cX6_touch 103 = .ok (.getfield 7, 3) := by decide +kernel
theorem dX6_touch_106 : decode cX6_touch 106 = .ok (.aload_n 0, 1) := by decide +kernel
theorem dX6_touch_107 : decode cX6_touch 107 = .ok (.getfield 29, 3) := by decide +kernel
theorem dX6_touch_110 : decode cX6_touch 110 = .ok (.iload 8, 2) := by decide +kernel
theorem dX6_touch_112 : decode cX6_touch 112 = .ok (.iaload, 1) := by decide +kernel
theorem dX6_touch_113 : decode cX6_touch 113 = .ok (.iaload, 1) := by decide +kernel
theorem dX6_touch_114 : decode cX6_touch 114 = .ok (.i2l, 1) := by decide +kernel
theorem dX6_touch_115 : decode cX6_touch 115 = .ok (.aload_n 0, 1) := by decide +kernel
theorem dX6_touch_116 : decode cX6_touch 116 = .ok (.getfield 13, 3) := by decide +kernel
theorem dX6_touch_119 : decode cX6_touch 119 = .ok (.aload_n 0, 1) := by decide +kernel
theorem dX6_touch_120 : decode cX6_touch 120 = .ok (.getfield 29, 3) := by decide +kernel
theorem dX6_touch_123 : decode cX6_touch 123 = .ok (.iload 8, 2) := by decide +kernel
theorem dX6_touch_125 : decode cX6_touch 125 = .ok (.iaload, 1) := by decide +kernel
theorem dX6_touch_126 : decode cX6_touch 126 = .ok (.iaload, 1) := by decide +kernel
theorem dX6_touch_127 : decode cX6_touch 127 = .ok (.i2l, 1) := by decide +kernel
theorem dX6_touch_128 : decode cX6_touch 128 = .ok (.invokestatic 75, 3) := by decide +kernel
theorem dX6_touch_131 : decode cX6_touch 131 = .ok (.lstore 9, 2) := by decide +kernel
theorem dX6_touch_133 : decode cX6_touch 133 = .ok (.iload 7, 2) := by decide +kernel
theorem dX6_touch_135 : decode cX6_touch 135 = .ok (.ifCond .eq 28, 3) := by decide +kernel
theorem dX6_touch_138 : decode cX6_touch 138 = .ok (.iload_n 3, 1) := by decide +kernel
theorem dX6_touch_139 : decode cX6_touch 139 = .ok (.ifCond .ne 13, 3) := by decide +kernel
theorem dX6_touch_142 : decode cX6_touch 142 = .ok (.lload 9, 2) := by decide +kernel
theorem dX6_touch_144 : decode cX6_touch 144 = .ok (.lconst 0, 1) := by decide +kernel
theorem dX6_touch_145 : decode cX6_touch 145 = .ok (.lcmp, 1) := by decide +kernel
theorem dX6_touch_146 : decode cX6_touch 146 = .ok (.ifCond .lt 17, 3) := by decide +kernel
theorem dX6_touch_149 : decode cX6_touch 149 = .ok (.goto 10, 3) := by decide +kernel
theorem dX6_touch_152 : decode cX6_touch 152 = .ok (.lload 9, 2) := by decide +kernel
theorem dX6_touch_154 : decode cX6_touch 154 = .ok (.lconst 0, 1) := by decide +kernel
theorem dX6_touch_155 : decode cX6_touch 155 = .ok (.lcmp, 1) := by decide +kernel
theorem dX6_touch_156 : decode cX6_touch 156 = .ok (.ifCond .gt 7, 3) := by decide +kernel
theorem dX6_touch_159 : decode cX6_touch 159 = .ok (.iconst 1, 1) := by decide +kernel
theorem dX6_touch_160 : decode cX6_touch 160 = .ok (.goto 4, 3) := by decide +kernel
theorem dX6_touch_163 : decode cX6_touch 163 = .ok (.iconst 0, 1) := by decide +kernel
theorem dX6_touch_164 : decode cX6_touch 164 = .ok (.istore 7, 2) := by decide +kernel
theorem dX6_touch_166 : decode cX6_touch 166 = .ok (.iinc 8 1, 3) := by decide +kernel
theorem dX6_touch_169 : decode cX6_touch 169 = .ok (.goto (-96), 3) := by decide +kernel
theorem dX6_touch_172 : decode cX6_touch 172 = .ok (.iload 7, 2) := by decide +kernel
theorem dX6_touch_174 : decode cX6_touch 174 = .ok (.ifCond .eq 32, 3) := by decide +kernel
theorem dX6_touch_177 : decode cX6_touch 177 = .ok (.iload 4, 2) := by decide +kernel
theorem dX6_touch_179 : decode cX6_touch 179 = .ok (.ifCond .lt 23, 3) := by decide +kernel
theorem dX6_touch_182 : decode cX6_touch 182 = .ok (.aload_n 0, 1) := by decide +kernel
theorem dX6_touch_183 : decode cX6_touch 183 = .ok (.iload 6, 2) := by decide +kernel
theorem dX6_touch_185 : decode cX6_touch 185 = .ok (.iload_n 1, 1) := by decide +kernel
theorem dX6_touch_186 : decode cX6_touch 186 = .ok (.iload_n 2, 1) := by decide +kernel
theorem dX6_touch_187 : decode cX6_touch 187 = .ok (.invokevirtual 129, 3) := by decide +kernel
theorem dX6_touch_190 : decode cX6_touch 190 = .ok (.aload_n 0, 1) := by decide +kernel
theorem dX6_touch_191 : decode cX6_touch 191 = .ok (.iload 4, 2) := by decide +kernel
theorem dX6_touch_193 : decode cX6_touch 193 = .ok (.iload_n 1, 1) := by decide +kernel
theorem dX6_touch_194 : decode cX6_touch 194 = .ok (.iload_n 2, 1) := by decide +kernel
theorem dX6_touch_195 : decode cX6_touch 195 = .ok (.invokevirtual 129, 3) := by decide +kernel
theorem dX6_touch_198 : decode cX6_touch 198 = .ok (.lcmp, 1) := by decide +kernel
theorem dX6_touch_199 : decode cX6_touch 199 = .ok (.ifCond .ge 7, 3) := by decide +kernel
theorem dX6_touch_202 : decode cX6_touch 202 = .ok (.iload 6, 2) := by decide +kernel
theorem dX6_touch_204 : decode cX6_touch 204 = .ok (.istore 4, 2) := by decide +kernel
theorem dX6_touch_206 : decode cX6_touch 206 = .ok (.iinc 5 1, 3) := by decide +kernel
theorem dX6_touch_209 : decode cX6_touch 209 = .ok (.goto (-160), 3) := by decide +kernel
theorem dX6_touch_212 : decode cX6_touch 212 = .ok (.iload 4, 2) := by decide +kernel
theorem dX6_touch_214 : decode cX6_touch 214 = .ok (.ireturn, 1) := by decide +kernel
set_option maxRecDepth 20000 in
theorem ggX6_area_X6_layRound : GoodIn wsX6_area wsX6_layRound := goodIn_r _ [7, 1, 8, 9, 10, 11, 12, 6, 13, 14, 15, 16, 17, 18, 19, 20, 21, 22, 23, 24, 25, 26, 27, 28, 29, 30, 31, 32, 33, 34, 35, 36, 37, 38, 39, 40, 41, 42, 43, 44, 2, 45, 46, 47, 48, 49, 50, 51, 52, 53, 54, 55, 56, 57, 58, 59, 60] (by decide +kernel) (by decide +kernel)
set_option maxRecDepth 20000 in
theorem gX6_area_X6_layRound : GoodIn wsX6_area (wsV RX6 120 RX6 yX6_layRound wsX6_layRound) := goodIn_app (goodIn_of _ (by decide +kernel)) ggX6_area_X6_layRound
set_option maxRecDepth 20000 in
theorem ggX6_area_X6_bend : GoodIn wsX6_area wsX6_bend := goodIn_r _ [37, 23, 25, 38, 39, 6, 40, 45, 46, 47, 48, 49, 50, 51, 52, 53, 54, 55, 56, 57, 58, 59, 60] (by decide +kernel) (by decide +kernel)
set_option maxRecDepth 20000 in
theorem gX6_area_X6_bend : GoodIn wsX6_area (wsV RX6 82 RX6 yX6_bend wsX6_bend) := goodIn_app (goodIn_of _ (by decide +kernel)) ggX6_area_X6_bend
theorem dX6_area_0 : decode cX6_area 0 = .ok (.aload_n 0, 1) := by decide +kernel
theorem dX6_area_1 : decode cX6_area 1 = .ok (.invokevirtual 120, 3) := by decide +kernel
theorem dX6_area_4 : decode cX6_area 4 = .ok (.lconst 0, 1) := by decide +kernel
theorem dX6_area_5 : decode cX6_area 5 = .ok (.lstore_n 1, 1) := by decide +kernel
theorem dX6_area_6 : decode cX6_area 6 = .ok (.iconst 1, 1) := by decide +kernel
theorem dX6_area_7 : decode cX6_area 7 = .ok (.istore_n 3, 1) := by decide +kernel
theorem dX6_area_8 : decode cX6_area 8 = .ok (.iload_n 3, 1) := by decide +kernel
theorem dX6_area_9 : decode cX6_area 9 = .ok (.iconst 1, 1) := by decide +kernel
theorem dX6_area_10 : decode cX6_area 10 = .ok (.iadd, 1) := by decide +kernel
theorem dX6_area_11 : decode cX6_area 11 = .ok (.aload_n 0, 1) := by decide +kernel
theorem dX6_area_12 : decode cX6_area 12 = .ok (.getfield 114, 3) := by decide +kernel
theorem dX6_area_15 : decode cX6_area 15 = .ok (.if_icmp .ge 36, 3) := by decide +kernel
theorem dX6_area_18 : decode cX6_area 18 = .ok (.lload_n 1, 1) := by decide +kernel
theorem dX6_area_19 : decode cX6_area 19 = .ok (.aload_n 0, 1) := by decide +kernel
theorem dX6_area_20 : decode cX6_area 20 = .ok (.aload_n 0, 1) := by decide +kernel
theorem dX6_area_21 : decode cX6_area 21 = .ok (.getfield 29, 3) := by decide +kernel
theorem dX6_area_24 : decode cX6_area 24 = .ok (.iconst 0, 1) := by decide +kernel
theorem dX6_area_25 : decode cX6_area 25 = .ok (.iaload, 1) := by decide +kernel
theorem dX6_area_26 : decode cX6_area 26 = .ok (.aload_n 0, 1) := by decide +kernel
theorem dX6_area_27 : decode cX6_area 27 = .ok (.getfield 29, 3) := by decide +kernel
theorem dX6_area_30 : decode cX6_area 30 = .ok (.iload_n 3, 1) := by decide +kernel
theorem dX6_area_31 : decode cX6_area 31 = .ok (.iaload, 1) := by decide +kernel
theorem dX6_area_32 : decode cX6_area 32 = .ok (.aload_n 0, 1) := by decide +kernel
theorem dX6_area_33 : decode cX6_area 33 = .ok (.getfield 29, 3) := by decide +kernel
theorem dX6_area_36 : decode cX6_area 36 = .ok (.iload_n 3, 1) := by decide +kernel
theorem dX6_area_37 : decode cX6_area 37 = .ok (.iconst 1, 1) := by decide +kernel
theorem dX6_area_38 : decode cX6_area 38 = .ok (.iadd, 1) := by decide +kernel
theorem dX6_area_39 : decode cX6_area 39 = .ok (.iaload, 1) := by decide +kernel
theorem dX6_area_40 : decode cX6_area 40 = .ok (.invokevirtual 82, 3) := by decide +kernel
theorem dX6_area_43 : decode cX6_area 43 = .ok (.ladd, 1) := by decide +kernel
theorem dX6_area_44 : decode cX6_area 44 = .ok (.lstore_n 1, 1) := by decide +kernel
theorem dX6_area_45 : decode cX6_area 45 = .ok (.iinc 3 1, 3) := by decide +kernel
theorem dX6_area_48 : decode cX6_area 48 = .ok (.goto (-40), 3) := by decide +kernel
theorem dX6_area_51 : decode cX6_area 51 = .ok (.lload_n 1, 1) := by decide +kernel
theorem dX6_area_52 : decode cX6_area 52 = .ok (.lreturn, 1) := by decide +kernel
set_option maxRecDepth 20000 in
theorem ggX6_image_X6_in : GoodIn wsX6_image wsX6_in := goodIn_r _ [10] (by decide +kernel) (by decide +kernel)
set_option maxRecDepth 20000 in
theorem gX6_image_X6_in : GoodIn wsX6_image (va_wsS RX6 44 yX6_in wsX6_in) := goodIn_app (goodIn_of _ (by decide +kernel)) ggX6_image_X6_in
theorem dX6_image_0 : decode cX6_image 0 = .ok (.iload_n 1, 1) := by decide +kernel
theorem dX6_image_1 : decode cX6_image 1 = .ok (.iconst 0, 1) := by decide +kernel
theorem dX6_image_2 : decode cX6_image 2 = .ok (.iconst 1, 1) := by decide +kernel
theorem dX6_image_3 : decode cX6_image 3 = .ok (.invokestatic 44, 3) := by decide +kernel
theorem dX6_image_6 : decode cX6_image 6 = .ok (.ifCond .ne 6, 3) := by decide +kernel
theorem dX6_image_9 : decode cX6_image 9 = .ok (.bipush (-2), 2) := by decide +kernel
theorem dX6_image_11 : decode cX6_image 11 = .ok (.ireturn, 1) := by decide +kernel
theorem dX6_image_12 : decode cX6_image 12 = .ok (.aload_n 0, 1) := by decide +kernel
theorem dX6_image_13 : decode cX6_image 13 = .ok (.getfield 35, 3) := by decide +kernel
theorem dX6_image_16 : decode cX6_image 16 = .ok (.iload_n 1, 1) := by decide +kernel
theorem dX6_image_17 : decode cX6_image 17 = .ok (.lconst 0, 1) := by decide +kernel
theorem dX6_image_18 : decode cX6_image 18 = .ok (.lastore, 1) := by decide +kernel
theorem dX6_image_19 : decode cX6_image 19 = .ok (.iconst 0, 1) := by decide +kernel
theorem dX6_image_20 : decode cX6_image 20 = .ok (.istore_n 2, 1) := by decide +kernel
theorem dX6_image_21 : decode cX6_image 21 = .ok (.iload_n 2, 1) := by decide +kernel
theorem dX6_image_22 : decode cX6_image 22 = .ok (.bipush 32, 2) := by decide +kernel
theorem dX6_image_24 : decode cX6_image 24 = .ok (.if_icmp .ge 71, 3) := by decide +kernel
theorem dX6_image_27 : decode cX6_image 27 = .ok (.aload_n 0, 1) := by decide +kernel
theorem dX6_image_28 : decode cX6_image 28 = .ok (.getfield 32, 3) := by decide +kernel
theorem dX6_image_31 : decode cX6_image 31 = .ok (.bipush 64, 2) := by decide +kernel
theorem dX6_image_33 : decode cX6_image 33 = .ok (.iload_n 1, 1) := by decide +kernel
theorem dX6_image_34 : decode cX6_image 34 = .ok (.imul, 1) := by decide +kernel
theorem dX6_image_35 : decode cX6_image 35 = .ok (.iload_n 2, 1) := by decide +kernel
theorem dX6_image_36 : decode cX6_image 36 = .ok (.iadd, 1) := by decide +kernel
theorem dX6_image_37 : decode cX6_image 37 = .ok (.aload_n 0, 1) := by decide +kernel
theorem dX6_image_38 : decode cX6_image 38 = .ok (.getfield 7, 3) := by decide +kernel
theorem dX6_image_41 : decode cX6_image 41 = .ok (.iload_n 2, 1) := by decide +kernel
theorem dX6_image_42 : decode cX6_image 42 = .ok (.iaload, 1) := by decide +kernel
theorem dX6_image_43 : decode cX6_image 43 = .ok (.iastore, 1) := by decide +kernel
theorem dX6_image_44 : decode cX6_image 44 = .ok (.aload_n 0, 1) := by decide +kernel
theorem dX6_image_45 : decode cX6_image 45 = .ok (.getfield 32, 3) := by decide +kernel
theorem dX6_image_48 : decode cX6_image 48 = .ok (.bipush 64, 2) := by decide +kernel
theorem dX6_image_50 : decode cX6_image 50 = .ok (.iload_n 1, 1) := by decide +kernel
theorem dX6_image_51 : decode cX6_image 51 = .ok (.imul, 1) := by decide +kernel
theorem dX6_image_52 : decode cX6_image 52 = .ok (.bipush 32, 2) := by decide +kernel
theorem dX6_image_54 : decode cX6_image 54 = .ok (.iadd, 1) := by decide +kernel
theorem dX6_image_55 : decode cX6_image 55 = .ok (.iload_n 2, 1) := by decide +kernel
theorem dX6_image_56 : decode cX6_image 56 = .ok (.iadd, 1) := by decide +kernel
theorem dX6_image_57 : decode cX6_image 57 = .ok (.aload_n 0, 1) := by decide +kernel
theorem dX6_image_58 : decode cX6_image 58 = .ok (.getfield 13, 3) := by decide +kernel
theorem dX6_image_61 : decode cX6_image 61 = .ok (.iload_n 2, 1) := by decide +kernel
theorem dX6_image_62 : decode cX6_image 62 = .ok (.iaload, 1) := by decide +kernel
theorem dX6_image_63 : decode cX6_image 63 = .ok (.iastore, 1) := by decide +kernel
theorem dX6_image_64 : decode cX6_image 64 = .ok (.aload_n 0, 1) := by decide +kernel
theorem dX6_image_65 : decode cX6_image 65 = .ok (.getfield 35, 3) := by decide +kernel
theorem dX6_image_68 : decode cX6_image 68 = .ok (.iload_n 1, 1) := by decide +kernel
theorem dX6_image_69 : decode cX6_image 69 = .ok (.dup2, 1) := by decide +kernel
theorem dX6_image_70 : decode cX6_image 70 = .ok (.laload, 1) := by decide +kernel
theorem dX6_image_71 : decode cX6_image 71 = .ok (.aload_n 0, 1) := by decide +kernel
theorem dX6_image_72 : decode cX6_image 72 = .ok (.getfield 16, 3) := by decide +kernel
theorem dX6_image_75 : decode cX6_image 75 = .ok (.iload_n 2, 1) := by decide +kernel
theorem dX6_image_76 : decode cX6_image 76 = .ok (.baload, 1) := by decide +kernel
theorem dX6_image_77 : decode cX6_image 77 = .ok (.ifCond .eq 9, 3) := by decide +kernel
theorem dX6_image_80 : decode cX6_image 80 = .ok (.lconst 1, 1) := by decide +kernel
theorem dX6_image_81 : decode cX6_image 81 = .ok (.iload_n 2, 1) := by decide +kernel
theorem dX6_image_82 : decode cX6_image 82 = .ok (.lshl, 1) := by decide +kernel
theorem dX6_image_83 : decode cX6_image 83 = .ok (.goto 4, 3) := by decide +kernel
theorem dX6_image_86 : decode cX6_image 86 = .ok (.lconst 0, 1) := by decide +kernel
theorem dX6_image_87 : decode cX6_image 87 = .ok (.lor, 1) := by decide +kernel
theorem dX6_image_88 : decode cX6_image 88 = .ok (.lastore, 1) := by decide +kernel
theorem dX6_image_89 : decode cX6_image 89 = .ok (.iinc 2 1, 3) := by decide +kernel
theorem dX6_image_92 : decode cX6_image 92 = .ok (.goto (-71), 3) := by decide +kernel
theorem dX6_image_95 : decode cX6_image 95 = .ok (.aload_n 0, 1) := by decide +kernel
theorem dX6_image_96 : decode cX6_image 96 = .ok (.getfield 39, 3) := by decide +kernel
theorem dX6_image_99 : decode cX6_image 99 = .ok (.iload_n 1, 1) := by decide +kernel
theorem dX6_image_100 : decode cX6_image 100 = .ok (.iconst 1, 1) := by decide +kernel
theorem dX6_image_101 : decode cX6_image 101 = .ok (.bastore, 1) := by decide +kernel
theorem dX6_image_102 : decode cX6_image 102 = .ok (.iconst 1, 1) := by decide +kernel
theorem dX6_image_103 : decode cX6_image 103 = .ok (.ireturn, 1) := by decide +kernel
set_option maxRecDepth 20000 in
theorem ggX6_restore_X6_in : GoodIn wsX6_restore wsX6_in := goodIn_r _ [11] (by decide +kernel) (by decide +kernel)
set_option maxRecDepth 20000 in
theorem gX6_restore_X6_in : GoodIn wsX6_restore (va_wsS RX6 44 yX6_in wsX6_in) := goodIn_app (goodIn_of _ (by decide +kernel)) ggX6_restore_X6_in
theorem dX6_restore_0 : decode cX6_restore 0 = .ok (.iload_n 1, 1) := by decide +kernel
theorem dX6_restore_1 : decode cX6_restore 1 = .ok (.iconst 0, 1) := by decide +kernel
theorem dX6_restore_2 : decode cX6_restore 2 = .ok (.iconst 1, 1) := by decide +kernel
theorem dX6_restore_3 : decode cX6_restore 3 = .ok (.invokestatic 44, 3) := by decide +kernel
theorem dX6_restore_6 : decode cX6_restore 6 = .ok (.ifCond .ne 6, 3) := by decide +kernel
theorem dX6_restore_9 : decode cX6_restore 9 = .ok (.bipush (-2), 2) := by decide +kernel
theorem dX6_restore_11 : decode cX6_restore 11 = .ok (.ireturn, 1) := by decide +kernel
theorem dX6_restore_12 : decode cX6_restore 12 = .ok (.aload_n 0, 1) := by decide +kernel
theorem dX6_restore_13 : decode cX6_restore 13 = .ok (.getfield 39, 3) := by decide +kernel
theorem dX6_restore_16 : decode cX6_restore 16 = .ok (.iload_n 1, 1) := by decide +kernel
theorem dX6_restore_17 : decode cX6_restore 17 = .ok (.baload, 1) := by decide +kernel
theorem dX6_restore_18 : decode cX6_restore 18 = .ok (.ifCond .ne 6, 3) := by decide +kernel
theorem dX6_restore_21 : decode cX6_restore 21 = .ok (.bipush (-3), 2) := by decide +kernel
theorem dX6_restore_23 : decode cX6_restore 23 = .ok (.ireturn, 1) := by decide +kernel
theorem dX6_restore_24 : decode cX6_restore 24 = .ok (.aload_n 0, 1) := by decide +kernel
theorem dX6_restore_25 : decode cX6_restore 25 = .ok (.iconst 0, 1) := by decide +kernel
theorem dX6_restore_26 : decode cX6_restore 26 = .ok (.putfield 55, 3) := by decide +kernel
theorem dX6_restore_29 : decode cX6_restore 29 = .ok (.iconst 0, 1) := by decide +kernel
theorem dX6_restore_30 : decode cX6_restore 30 = .ok (.istore_n 2, 1) := by decide +kernel
theorem dX6_restore_31 : decode cX6_restore 31 = .ok (.iload_n 2, 1) := by decide +kernel
theorem dX6_restore_32 : decode cX6_restore 32 = .ok (.bipush 32, 2) := by decide +kernel
theorem dX6_restore_34 : decode cX6_restore 34 = .ok (.if_icmp .ge 95, 3) := by decide +kernel
theorem dX6_restore_37 : decode cX6_restore 37 = .ok (.aload_n 0, 1) := by decide +kernel
theorem dX6_restore_38 : decode cX6_restore 38 = .ok (.getfield 7, 3) := by decide +kernel
theorem dX6_restore_41 : decode cX6_restore 41 = .ok (.iload_n 2, 1) := by decide +kernel
theorem dX6_restore_42 : decode cX6_restore 42 = .ok (.aload_n 0, 1) := by decide +kernel
theorem dX6_restore_43 : decode cX6_restore 43 = .ok (.getfield 32, 3) := by decide +kernel
theorem dX6_restore_46 : decode cX6_restore 46 = .ok (.bipush 64, 2) := by decide +kernel
theorem dX6_restore_48 : decode cX6_restore 48 = .ok (.iload_n 1, 1) := by decide +kernel
theorem dX6_restore_49 : decode cX6_restore 49 = .ok (.imul, 1) := by decide +kernel
theorem dX6_restore_50 : decode cX6_restore 50 = .ok (.iload_n 2, 1) := by decide +kernel
theorem dX6_restore_51 : decode cX6_restore 51 = .ok (.iadd, 1) := by decide +kernel
theorem dX6_restore_52 : decode cX6_restore 52 = .ok (.iaload, 1) := by decide +kernel
theorem dX6_restore_53 : decode cX6_restore 53 = .ok (.iastore, 1) := by decide +kernel
theorem dX6_restore_54 : decode cX6_restore 54 = .ok (.aload_n 0, 1) := by decide +kernel
theorem dX6_restore_55 : decode cX6_restore 55 = .ok (.getfield 13, 3) := by decide +kernel
theorem dX6_restore_58 : decode cX6_restore 58 = .ok (.iload_n 2, 1) := by decide +kernel
theorem dX6_restore_59 : decode cX6_restore 59 = .ok (.aload_n 0, 1) := by decide +kernel
theorem dX6_restore_60 : decode cX6_restore 60 = .ok (.getfield 32, 3) := by decide +kernel
theorem dX6_restore_63 : decode cX6_restore 63 = .ok (.bipush 64, 2) := by decide +kernel
theorem dX6_restore_65 : decode cX6_restore 65 = .ok (.iload_n 1, 1) := by decide +kernel
theorem dX6_restore_66 : decode cX6_restore 66 = .ok (.imul, 1) := by decide +kernel
theorem dX6_restore_67 : decode cX6_restore 67 = .ok (.bipush 32, 2) := by decide +kernel
theorem dX6_restore_69 : decode cX6_restore 69 = .ok (.iadd, 1) := by decide +kernel
theorem dX6_restore_70 : decode cX6_restore 70 = .ok (.iload_n 2, 1) := by decide +kernel
theorem dX6_restore_71 : decode cX6_restore 71 = .ok (.iadd, 1) := by decide +kernel
theorem dX6_restore_72 : decode cX6_restore 72 = .ok (.iaload, 1) := by decide +kernel
theorem dX6_restore_73 : decode cX6_restore 73 = .ok (.iastore, 1) := by decide +kernel
theorem dX6_restore_74 : decode cX6_restore 74 = .ok (.aload_n 0, 1) := by decide +kernel
theorem dX6_restore_75 : decode cX6_restore 75 = .ok (.getfield 16, 3) := by decide +kernel
theorem dX6_restore_78 : decode cX6_restore 78 = .ok (.iload_n 2, 1) := by decide +kernel
theorem dX6_restore_79 : decode cX6_restore 79 = .ok (.aload_n 0, 1) := by decide +kernel
theorem dX6_restore_80 : decode cX6_restore 80 = .ok (.getfield 35, 3) := by decide +kernel
theorem dX6_restore_83 : decode cX6_restore 83 = .ok (.iload_n 1, 1) := by decide +kernel
theorem dX6_restore_84 : decode cX6_restore 84 = .ok (.laload, 1) := by decide +kernel
theorem dX6_restore_85 : decode cX6_restore 85 = .ok (.iload_n 2, 1) := by decide +kernel
theorem dX6_restore_86 : decode cX6_restore 86 = .ok (.lshr, 1) := by decide +kernel
theorem dX6_restore_87 : decode cX6_restore 87 = .ok (.lconst 1, 1) := by decide +kernel
theorem dX6_restore_88 : decode cX6_restore 88 = .ok (.land, 1) := by decide +kernel
theorem dX6_restore_89 : decode cX6_restore 89 = .ok (.lconst 1, 1) := by decide +kernel
theorem dX6_restore_90 : decode cX6_restore 90 = .ok (.lcmp, 1) := by decide +kernel
theorem dX6_restore_91 : decode cX6_restore 91 = .ok (.ifCond .ne 7, 3) := by decide +kernel
theorem dX6_restore_94 : decode cX6_restore 94 = .ok (.iconst 1, 1) := by decide +kernel
theorem dX6_restore_95 : decode cX6_restore 95 = .ok (.goto 4, 3) := by decide +kernel
theorem dX6_restore_98 : decode cX6_restore 98 = .ok (.iconst 0, 1) := by decide +kernel
theorem dX6_restore_99 : decode cX6_restore 99 = .ok (.bastore, 1) := by decide +kernel
theorem dX6_restore_100 : decode cX6_restore 100 = .ok (.aload_n 0, 1) := by decide +kernel
theorem dX6_restore_101 : decode cX6_restore 101 = .ok (.dup, 1) := by decide +kernel
theorem dX6_restore_102 : decode cX6_restore 102 = .ok (.getfield 55, 3) := by decide +kernel
theorem dX6_restore_105 : decode cX6_restore 105 = .ok (.aload_n 0, 1) := by decide +kernel
theorem dX6_restore_106 : decode cX6_restore 106 = .ok (.getfield 16, 3) := by decide +kernel
theorem dX6_restore_109 : decode cX6_restore 109 = .ok (.iload_n 2, 1) := by decide +kernel
theorem dX6_restore_110 : decode cX6_restore 110 = .ok (.baload, 1) := by decide +kernel
theorem dX6_restore_111 : decode cX6_restore 111 = .ok (.ifCond .eq 7, 3) := by decide +kernel
theorem dX6_restore_114 : decode cX6_restore 114 = .ok (.iconst 1, 1) := by decide +kernel
theorem dX6_restore_115 : decode cX6_restore 115 = .ok (.goto 4, 3) := by decide +kernel
theorem dX6_restore_118 : decode cX6_restore 118 = .ok (.iconst 0, 1) := by decide +kernel
theorem dX6_restore_119 : decode cX6_restore 119 = .ok (.iadd, 1) := by decide +kernel
theorem dX6_restore_120 : decode cX6_restore 120 = .ok (.putfield 55, 3) := by decide +kernel
theorem dX6_restore_123 : decode cX6_restore 123 = .ok (.iinc 2 1, 3) := by decide +kernel
theorem dX6_restore_126 : decode cX6_restore 126 = .ok (.goto (-95), 3) := by decide +kernel
theorem dX6_restore_129 : decode cX6_restore 129 = .ok (.iconst 1, 1) := by decide +kernel
theorem dX6_restore_130 : decode cX6_restore 130 = .ok (.ireturn, 1) := by decide +kernel
set_option maxRecDepth 20000 in
theorem ggX6_told_X6_in : GoodIn wsX6_told wsX6_in := goodIn_r _ [6] (by decide +kernel) (by decide +kernel)
set_option maxRecDepth 20000 in
theorem gX6_told_X6_in : GoodIn wsX6_told (va_wsS RX6 44 yX6_in wsX6_in) := goodIn_app (goodIn_of _ (by decide +kernel)) ggX6_told_X6_in
set_option maxRecDepth 20000 in
theorem ggX6_told_X6_layPart : GoodIn wsX6_told wsX6_layPart := goodIn_r _ [10, 2, 11, 12, 1, 13, 14, 15, 5, 16, 17, 18, 19, 20, 21, 3, 4, 6, 51, 52, 53, 54, 55, 56, 57, 58, 59, 60, 61, 62, 63, 64, 65, 66] (by decide +kernel) (by decide +kernel)
set_option maxRecDepth 20000 in
theorem gX6_told_X6_layPart : GoodIn wsX6_told (wsV RX6 86 RX6 yX6_layPart wsX6_layPart) := goodIn_app (goodIn_of _ (by decide +kernel)) ggX6_told_X6_layPart
set_option maxRecDepth 20000 in
theorem ggX6_told_X6_chainSet : GoodIn wsX6_told wsX6_chainSet := goodIn_r _ [25, 7, 8, 9, 5, 10, 2, 11, 12, 1, 13, 14, 15, 16, 17, 18, 19, 20, 21, 3, 4, 6, 26, 27, 28, 29, 30, 31, 32, 33, 34, 35, 36, 37, 38, 39, 40, 41, 42, 51, 52, 53, 54, 55, 56, 57, 58, 59, 60, 61, 62, 63, 64, 65, 66] (by decide +kernel) (by decide +kernel)
set_option maxRecDepth 20000 in
theorem gX6_told_X6_chainSet : GoodIn wsX6_told (wsV RX6 97 RX6 yX6_chainSet wsX6_chainSet) := goodIn_app (goodIn_of _ (by decide +kernel)) ggX6_told_X6_chainSet
set_option maxRecDepth 20000 in
theorem ggX6_told_X6_bits : GoodIn wsX6_told wsX6_bits := goodIn_r _ [45] (by decide +kernel) (by decide +kernel)
set_option maxRecDepth 20000 in
theorem gX6_told_X6_bits : GoodIn wsX6_told (va_wsS RX6 103 yX6_bits wsX6_bits) := goodIn_app (goodIn_of _ (by decide +kernel)) ggX6_told_X6_bits
set_option maxRecDepth 20000 in
theorem ggX6_told_X6_restOf : GoodIn wsX6_told wsX6_restOf := goodIn_r _ [49, 50, 22, 23, 24, 5, 25, 7, 8, 9, 10, 2, 11, 12, 1, 13, 14, 15, 16, 17, 18, 19, 20, 21, 3, 4, 6, 26, 27, 28, 29, 30, 31, 32, 33, 34, 35, 36, 37, 38, 39, 40, 41, 42, 43, 44, 45, 51, 52, 53, 54, 55, 56, 57, 58, 59, 60, 61, 62, 63, 64, 65, 66] (by decide +kernel) (by decide +kernel)
set_option maxRecDepth 20000 in
theorem gX6_told_X6_restOf : GoodIn wsX6_told (wsV RX6 111 RX6 yX6_restOf wsX6_restOf) := goodIn_app (goodIn_of _ (by decide +kernel)) ggX6_told_X6_restOf
theorem dX6_told_0 : decode cX6_told 0 = .ok (.iload_n 1, 1) := by decide +kernel
theorem dX6_told_1 : decode cX6_told 1 = .ok (.iconst 0, 1) := by decide +kernel
theorem dX6_told_2 : decode cX6_told 2 = .ok (.iconst 4, 1) := by decide +kernel
theorem dX6_told_3 : decode cX6_told 3 = .ok (.invokestatic 44, 3) := by decide +kernel
theorem dX6_told_6 : decode cX6_told 6 = .ok (.ifCond .ne 6, 3) := by decide +kernel
theorem dX6_told_9 : decode cX6_told 9 = .ok (.bipush (-2), 2) := by decide +kernel
theorem dX6_told_11 : decode cX6_told 11 = .ok (.ireturn, 1) := by decide +kernel
theorem dX6_told_12 : decode cX6_told 12 = .ok (.iconst 0, 1) := by decide +kernel
theorem dX6_told_13 : decode cX6_told 13 = .ok (.istore_n 2, 1) := by decide +kernel
theorem dX6_told_14 : decode cX6_told 14 = .ok (.iconst 0, 1) := by decide +kernel
theorem dX6_told_15 : decode cX6_told 15 = .ok (.istore_n 3, 1) := by decide +kernel
theorem dX6_told_16 : decode cX6_told 16 = .ok (.iconst 0, 1) := by decide +kernel
theorem dX6_told_17 : decode cX6_told 17 = .ok (.istore 4, 2) := by decide +kernel
theorem dX6_told_19 : decode cX6_told 19 = .ok (.bipush (-6), 2) := by decide +kernel
theorem dX6_told_21 : decode cX6_told 21 = .ok (.istore 5, 2) := by decide +kernel
theorem dX6_told_23 : decode cX6_told 23 = .ok (.iconst 1, 1) := by decide +kernel
theorem dX6_told_24 : decode cX6_told 24 = .ok (.istore 6, 2) := by decide +kernel
theorem dX6_told_26 : decode cX6_told 26 = .ok (.iload 6, 2) := by decide +kernel
theorem dX6_told_28 : decode cX6_told 28 = .ok (.bipush 64, 2) := by decide +kernel
theorem dX6_told_30 : decode cX6_told 30 = .ok (.if_icmp .ge 103, 3) := by decide +kernel
theorem dX6_told_33 : decode cX6_told 33 = .ok (.aload_n 0, 1) := by decide +kernel
theorem dX6_told_34 : decode cX6_told 34 = .ok (.iload 6, 2) := by decide +kernel
theorem dX6_told_36 : decode cX6_told 36 = .ok (.invokevirtual 86, 3) := by decide +kernel
theorem dX6_told_39 : decode cX6_told 39 = .ok (.ifCond .eq 88, 3) := by decide +kernel
theorem dX6_told_42 : decode cX6_told 42 = .ok (.iinc 2 1, 3) := by decide +kernel
theorem dX6_told_45 : decode cX6_told 45 = .ok (.aload_n 0, 1) := by decide +kernel
theorem dX6_told_46 : decode cX6_told 46 = .ok (.getfield 72, 3) := by decide +kernel
theorem dX6_told_49 : decode cX6_told 49 = .ok (.iload 5, 2) := by decide +kernel
theorem dX6_told_51 : decode cX6_told 51 = .ok (.if_icmp .le 10, 3) := by decide +kernel
theorem dX6_told_54 : decode cX6_told 54 = .ok (.aload_n 0, 1) := by decide +kernel
theorem dX6_told_55 : decode cX6_told 55 = .ok (.getfield 72, 3) := by decide +kernel
theorem dX6_told_58 : decode cX6_told 58 = .ok (.goto 5, 3) := by decide +kernel
theorem dX6_told_61 : decode cX6_told 61 = .ok (.iload 5, 2) := by decide +kernel
theorem dX6_told_63 : decode cX6_told 63 = .ok (.istore 5, 2) := by decide +kernel
theorem dX6_told_65 : decode cX6_told 65 = .ok (.iconst 0, 1) := by decide +kernel
theorem dX6_told_66 : decode cX6_told 66 = .ok (.istore 7, 2) := by decide +kernel
theorem dX6_told_68 : decode cX6_told 68 = .ok (.iload 7, 2) := by decide +kernel
theorem dX6_told_70 : decode cX6_told 70 = .ok (.iconst 2, 1) := by decide +kernel
theorem dX6_told_71 : decode cX6_told 71 = .ok (.if_icmp .ge 56, 3) := by decide +kernel
theorem dX6_told_74 : decode cX6_told 74 = .ok (.iload_n 1, 1) := by decide +kernel
theorem dX6_told_75 : decode cX6_told 75 = .ok (.iconst 2, 1) := by decide +kernel
theorem dX6_told_76 : decode cX6_told 76 = .ok (.if_icmp .eq 8, 3) := by decide +kernel
theorem dX6_told_79 : decode cX6_told 79 = .ok (.iload_n 1, 1) := by decide +kernel
theorem dX6_told_80 : decode cX6_told 80 = .ok (.iconst 3, 1) := by decide +kernel
theorem dX6_told_81 : decode cX6_told 81 = .ok (.if_icmp .ne 46, 3) := by decide +kernel
theorem dX6_told_84 : decode cX6_told 84 = .ok (.iload_n 3, 1) := by decide +kernel
theorem dX6_told_85 : decode cX6_told 85 = .ok (.aload_n 0, 1) := by decide +kernel
theorem dX6_told_86 : decode cX6_told 86 = .ok (.iload 6, 2) := by decide +kernel
theorem dX6_told_88 : decode cX6_told 88 = .ok (.iload 7, 2) := by decide +kernel
theorem dX6_told_90 : decode cX6_told 90 = .ok (.invokevirtual 97, 3) := by decide +kernel
theorem dX6_told_93 : decode cX6_told 93 = .ok (.invokestatic 103, 3) := by decide +kernel
theorem dX6_told_96 : decode cX6_told 96 = .ok (.iadd, 1) := by decide +kernel
theorem dX6_told_97 : decode cX6_told 97 = .ok (.istore_n 3, 1) := by decide +kernel
theorem dX6_told_98 : decode cX6_told 98 = .ok (.iload 4, 2) := by decide +kernel
theorem dX6_told_100 : decode cX6_told 100 = .ok (.iload 6, 2) := by decide +kernel
theorem dX6_told_102 : decode cX6_told 102 = .ok (.iconst 1, 1) := by decide +kernel
theorem dX6_told_103 : decode cX6_told 103 = .ok (.if_icmp .le 14, 3) := by decide +kernel
theorem dX6_told_106 : decode cX6_told 106 = .ok (.aload_n 0, 1) := by decide +kernel
theorem dX6_told_107 : decode cX6_told 107 = .ok (.iload 6, 2) := by decide +kernel
theorem dX6_told_109 : decode cX6_told 109 = .ok (.iload 7, 2) := by decide +kernel
theorem dX6_told_111 : decode cX6_told 111 = .ok (.invokevirtual 111, 3) := by decide +kernel
theorem dX6_told_114 : decode cX6_told 114 = .ok (.goto 4, 3) := by decide +kernel
theorem dX6_told_117 : decode cX6_told 117 = .ok (.iconst 0, 1) := by decide +kernel
theorem dX6_told_118 : decode cX6_told 118 = .ok (.iadd, 1) := by decide +kernel
theorem dX6_told_119 : decode cX6_told 119 = .ok (.istore 4, 2) := by decide +kernel
theorem dX6_told_121 : decode cX6_told 121 = .ok (.iinc 7 1, 3) := by decide +kernel
theorem dX6_told_124 : decode cX6_told 124 = .ok (.goto (-56), 3) := by decide +kernel
theorem dX6_told_127 : decode cX6_told 127 = .ok (.iinc 6 1, 3) := by decide +kernel
theorem dX6_told_130 : decode cX6_told 130 = .ok (.goto (-104), 3) := by decide +kernel
theorem dX6_told_133 : decode cX6_told 133 = .ok (.iload_n 1, 1) := by decide +kernel
theorem dX6_told_134 : decode cX6_told 134 = .ok (.ifCond .ne 10, 3) := by decide +kernel
theorem dX6_told_137 : decode cX6_told 137 = .ok (.aload_n 0, 1) := by decide +kernel
theorem dX6_told_138 : decode cX6_told 138 = .ok (.getfield 55, 3) := by decide +kernel
theorem dX6_told_141 : decode cX6_told 141 = .ok (.goto 33, 3) := by decide +kernel
theorem dX6_told_144 : decode cX6_told 144 = .ok (.iload_n 1, 1) := by decide +kernel
theorem dX6_told_145 : decode cX6_told 145 = .ok (.iconst 1, 1) := by decide +kernel
theorem dX6_told_146 : decode cX6_told 146 = .ok (.if_icmp .ne 7, 3) := by decide +kernel
theorem dX6_told_149 : decode cX6_told 149 = .ok (.iload_n 2, 1) := by decide +kernel
theorem dX6_told_150 : decode cX6_told 150 = .ok (.goto 24, 3) := by decide +kernel
theorem dX6_told_153 : decode cX6_told 153 = .ok (.iload_n 1, 1) := by decide +kernel
theorem dX6_told_154 : decode cX6_told 154 = .ok (.iconst 2, 1) := by decide +kernel
theorem dX6_told_155 : decode cX6_told 155 = .ok (.if_icmp .ne 7, 3) := by decide +kernel
theorem dX6_told_158 : decode cX6_told 158 = .ok (.iload_n 3, 1) := by decide +kernel
theorem dX6_told_159 : decode cX6_told 159 = .ok (.goto 15, 3) := by decide +kernel
theorem dX6_told_162 : decode cX6_told 162 = .ok (.iload_n 1, 1) := by decide +kernel
theorem dX6_told_163 : decode cX6_told 163 = .ok (.iconst 3, 1) := by decide +kernel
theorem dX6_told_164 : decode cX6_told 164 = .ok (.if_icmp .ne 8, 3) := by decide +kernel
theorem dX6_told_167 : decode cX6_told 167 = .ok (.iload 4, 2) := by decide +kernel
theorem dX6_told_169 : decode cX6_told 169 = .ok (.goto 5, 3) := by decide +kernel
theorem dX6_told_172 : decode cX6_told 172 = .ok (.iload 5, 2) := by decide +kernel
theorem dX6_told_174 : decode cX6_told 174 = .ok (.ireturn, 1) := by decide +kernel
theorem dJ9_max_7cf53_0 : decode cJ9_max_7cf53 0 = .ok (.iload_n 0, 1) := by decide +kernel
theorem dJ9_max_7cf53_1 : decode cJ9_max_7cf53 1 = .ok (.iload_n 1, 1) := by decide +kernel
theorem dJ9_max_7cf53_2 : decode cJ9_max_7cf53 2 = .ok (.if_icmp .lt 7, 3) := by decide +kernel
theorem dJ9_max_7cf53_5 : decode cJ9_max_7cf53 5 = .ok (.iload_n 0, 1) := by decide +kernel
theorem dJ9_max_7cf53_6 : decode cJ9_max_7cf53 6 = .ok (.goto 4, 3) := by decide +kernel
theorem dJ9_max_7cf53_9 : decode cJ9_max_7cf53 9 = .ok (.iload_n 1, 1) := by decide +kernel
theorem dJ9_max_7cf53_10 : decode cJ9_max_7cf53 10 = .ok (.ireturn, 1) := by decide +kernel
theorem dJ9_min_7cf53_0 : decode cJ9_min_7cf53 0 = .ok (.iload_n 0, 1) := by decide +kernel
theorem dJ9_min_7cf53_1 : decode cJ9_min_7cf53 1 = .ok (.iload_n 1, 1) := by decide +kernel
theorem dJ9_min_7cf53_2 : decode cJ9_min_7cf53 2 = .ok (.if_icmp .gt 7, 3) := by decide +kernel
theorem dJ9_min_7cf53_5 : decode cJ9_min_7cf53 5 = .ok (.iload_n 0, 1) := by decide +kernel
theorem dJ9_min_7cf53_6 : decode cJ9_min_7cf53 6 = .ok (.goto 4, 3) := by decide +kernel
theorem dJ9_min_7cf53_9 : decode cJ9_min_7cf53 9 = .ok (.iload_n 1, 1) := by decide +kernel
theorem dJ9_min_7cf53_10 : decode cJ9_min_7cf53 10 = .ok (.ireturn, 1) := by decide +kernel
end
section
abbrev tys4 (cI cJ cZ cO : ClassId) : List (ClassId × FieldType) := [(cI, .int), (cJ, .long), (cZ, .boolean), (cO, .object "LiveHull$Points")]
abbrev fw_pre (D : va_G) (tys : List (ClassId × FieldType)) (WS : va_W) (av : List Value) (sz : Nat) : Array Value → State → Prop := va_Pc av (fun U => U.heap.size = sz ∧ va_P D vwCl WS U.heap ∧ va_K D vwCl tys U ∧ va_D (fun _ => True) WS)
abbrev fw_at (D : va_G) (tys : List (ClassId × FieldType)) (A : Nat → Prop) (ws : va_W) (t : State) : Prop := va_P D vwCl ws t.heap ∧ va_K D vwCl tys t ∧ va_D A ws
theorem fw_fm {α : Type} {f : Nat → Option α} : ∀ (is : List Nat) (w : List α), is.map f = w.map some → is.filterMap f = w
  | [], [], _ => rfl
  | [], _ :: _, h => by simp at h
  | _ :: _, [], h => by simp at h
  | i :: is, a :: w, h => by
    simp only [List.map_cons, List.cons.injEq] at h
    rw [List.filterMap_cons, h.1, fw_fm is w h.2]
theorem fw_blind {D : va_G} {tys : List (ClassId × FieldType)} {WS : va_W} {av : List Value} {sz : Nat} : FrameBlind (fw_pre D tys WS av sz) := fun a U g mk q => by
  obtain ⟨q0, q1, qP, qK, qD⟩ := q
  exact ⟨q0, q1, qP, va_K.moved (u := U) (U := U.calling g mk a) (Vm.Alike.refl U.vm) qK, qD⟩
def Ci (l : Launch) (D : va_G) (tys : List (ClassId × FieldType)) (y : MethodName) (ws : List Cond) (rm : Room) (av : List Value) (WS : va_W) {S : Type} (K : Int32 → S → Prop) (W1 : S → va_W) : Prop :=
  ∀ sz : Nat, Met l y ws rm (fw_pre D tys WS av sz) (va_Qi K (fun u t => fw_at D tys (va_A WS sz) (W1 u) t) (va_A WS sz)) 0 0 (va_A WS sz)
set_option maxHeartbeats 4000000 in
theorem mt_i {l : Launch} {D : va_G} {tys : List (ClassId × FieldType)} {y : MethodName} {ws ws' : List Cond} {rm : Room} {cc : ByteArray} {maxL : Nat} {rt : FieldType} {av : List Value} {WS : va_W} {S : Type} {K : Int32 → S → Prop} {W1 : S → va_W}
    (hy : plainName y.cls = true) (hw : ws = Cond.code y cc maxL (some rt) :: ws') (hlen : (lg_sl av).length ≤ maxL)
    (body : ∀ (p : Program) (e : Env) (s : State) (m : MethodId) (args : Array Value) (below : List Frame) (meth : Method) (c : Code) (Q : State → Prop) (A : Nat → Prop) (R : Room) (ls : Array Slot),
      rm.frames ≤ R.frames → rm.locals ≤ R.locals → p.tables.exec = Jvm.exec → c.code = cc → c.maxLocals = maxL → s.vm.findClass y.cls = some m.cls → (∀ w ∈ ws, w.before args s = true) → va_K D vwCl tys s → (∀ q, s.heap.size ≤ q → A q) → va_P D vwCl WS s.heap → va_D A WS → va_S A s.heap s.heap [] → lv_has ls maxL (lv_args 0 av) →
      (∀ (H : Heap) (locs : List Loc) (ls' : Array Slot) (pc : Nat) (r : Int32) (u : S), narrow rt (.int r) = .int r → K r u → va_P D vwCl (W1 u) H → va_D A (W1 u) → va_S A s.heap H locs → decode cc pc = .ok (.ireturn, 1) → W p l e R s m args below meth c H locs 0 0 Q (F0 m pc ls' [.int r])) →
      W p l e R s m args below meth c s.heap [] 0 0 Q (F0 m 0 ls [])) : Ci l D tys y ws rm av WS K W1 := by
  intro sz
  refine Met.ofW (cc := cc) (maxL := maxL) (ret := (some rt)) hy hw ?_
  intro p e s m args below meth c s₁ B hml hv
  obtain ⟨rfl, hsz, hP, hK, hD0⟩ := hv
  have hx := B.exec
  have hb := B.bytes
  have hr := B.returns
  have hts := atoms_spec (ws := ws) B.pre
  have hown : s.vm.findClass y.cls = some m.cls := findClass_of_methodNamed B.named
  have hlocks := B.notSynchronized
  subst hsz
  have hD := hD0.self (sz := s.heap.size)
  generalize hAe : va_A WS s.heap.size = A at hD ⊢
  have hA : ∀ q : Nat, s.heap.size ≤ q → A q := fun q h => by rw [← hAe]; exact Or.inr h
  have hl := lv_entry av (n := maxL) hlen
  rw [lg_entry_eq]
  generalize (lg_sl av ++ List.replicate (maxL - (lg_sl av).length) Slot.unset).toArray = ls at hl ⊢
  refine body p e s m av.toArray below meth c _ A (headSpec ws rm).room ls (Nat.le_refl _) (Nat.le_refl _) hx hb hml hown hts hK hA hP hD va_S.rf hl ?_
  intro H locs ls' pc r u hn hk hP9 hD9 hS9 hdg
  exact W.zret hx hb hr hn (fun t ht hW => ⟨⟨r, u, rfl, hk, by rw [ht]; exact hP9, va_K.moved hW.alike hK, hD9⟩, hS9.F ht⟩) hS9.2.2 hdg
set_option maxHeartbeats 4000000 in
theorem cl_Vi {p : Program} {l : Launch} {e : Env} {R : Room} {s : State} {m : MethodId} {args : Array Value} {below : List Frame} {meth : Method} {c : Code} {H : Heap} {locs : List Loc} {cells slots : Nat} {Q : State → Prop} {D : va_G} {tys : List (ClassId × FieldType)} {A : Nat → Prop} {WS WC : va_W} {H0 : Heap} {cc bytes : ByteArray} {nL maxL n index : Nat} {Ts ws : List Cond} {rm : Room} {own C : String} {y : MethodName} {ret : Option FieldType} {b : Addr} {As rest st0 : List Value} {pc : Nat} {ls : Array Slot} {S : Type} {K : Int32 → S → Prop} {W1 : S → va_W}
    (F : CallFix p m c cc nL s args Ts own) (hM : Ci l D tys y ws rm (.ref b :: As) WC K W1) (cw : CallW R s args own C index y bytes maxL ret ws rm 0 0 n)
    (hK : va_K D vwCl tys s) (hP : va_P D vwCl WS H) (hD : va_D A WS) (hS : va_S A H0 H locs) (hA : ∀ q, H0.size ≤ q → A q)
    (isC isR : List Nat) (hC : isC.map (fun i => WS[i]?) = WC.map some) (hnC : va_nd isC = true) (hR : isR.map (fun i => WS[i]?) = (isR.filterMap (fun i => WS[i]?)).map some) (hnR : va_nd isR = true) (hdis : ∀ i ∈ isR, i ∉ isC)
    (qr ci : Nat) {T : u_T} {N : Nat} {fs : List Value} (hcl : vwCl[ci]? = some (C, T, N)) (he : WS[qr]? = some (b, .inr (ci, fs)))
    (hn : As.length = n) (hsize : ls.size = nL) (hstack : st0 = As.reverse ++ .ref b :: rest) (hW : (rest.map fun v => v.category).sum ≤ 8) (hdg : decode cc pc = .ok (.invokevirtual index, 3)) (hf : cells ≤ R.cells ∧ slots ≤ R.slots)
    (kk : ∀ (r : Int32) (u : S) (H1 : Heap) (locs1 : List Loc), K r u → va_P D vwCl (isR.filterMap (fun i => WS[i]?) ++ W1 u) H1 → va_D A (isR.filterMap (fun i => WS[i]?) ++ W1 u) → va_S A H0 H1 locs1 → W p l e R s m args below meth c H1 locs1 cells slots Q (F0 m (pc + 3) ls (.int r :: rest))) :
    W p l e R s m args below meth c H locs cells slots Q (F0 m pc ls st0) := by
  have hPc := hP.sub (ws' := WC) isC (fw_fm isC WC hC)
  have hDc := hD.sub (ws' := WC) isC hnC hC
  have hFc := va_free (wc := WC) hD hS hA isC hC
  refine va_calli (va_runV (As := As) (rest := rest) F (hM H.size) cw ⟨fw_blind, va_recv hK hP hcl he, fun U hU hW => ⟨rfl, by rw [hU], by rw [hU]; exact hPc, va_K.moved hW.alike hK, hDc.weaken (fun _ _ _ _ => trivial)⟩⟩ rfl hn hsize hstack (lv_room hW) hdg ⟨hf.1, hf.2⟩) hS (fun q _ h => hFc q h) hFc (fun r u t H1 locs ht hvm hw hB hz1 hk1 hS => ?_)
  obtain ⟨hP1, hK1, hD1⟩ := hB
  rw [ht] at hP1
  obtain ⟨hP, hD⟩ := va_join (wr := isR.filterMap (fun i => WS[i]?)) (w1 := W1 u) hP hD isC isR hC hR hnR hdis hk1 hFc hP1 hD1
  exact kk r u H1 locs hw hP hD hS
set_option maxHeartbeats 4000000 in
theorem cl_Ui {p : Program} {l : Launch} {e : Env} {R : Room} {s : State} {m : MethodId} {args : Array Value} {below : List Frame} {meth : Method} {c : Code} {H : Heap} {locs : List Loc} {cells slots : Nat} {Q : State → Prop} {D : va_G} {tys : List (ClassId × FieldType)} {A : Nat → Prop} {WS WC : va_W} {H0 : Heap} {cc bytes : ByteArray} {nL maxL n index : Nat} {Ts ws : List Cond} {rm : Room} {own C : String} {y : MethodName} {ret : Option FieldType} {b : Addr} {As rest st0 : List Value} {pc : Nat} {ls : Array Slot} {S : Type} {K : Int32 → S → Prop} {W1 : S → va_W} {owner : String} {x : MethodName}
    (F : CallFix p m c cc nL s args Ts own) (hM : Ci l D tys y ws rm (.ref b :: As) WC K W1) (cw : va_CU R s args own C owner index x y bytes maxL ret ws rm 0 0 n)
    (hK : va_K D vwCl tys s) (hP : va_P D vwCl WS H) (hD : va_D A WS) (hS : va_S A H0 H locs) (hA : ∀ q, H0.size ≤ q → A q)
    (isC isR : List Nat) (hC : isC.map (fun i => WS[i]?) = WC.map some) (hnC : va_nd isC = true) (hR : isR.map (fun i => WS[i]?) = (isR.filterMap (fun i => WS[i]?)).map some) (hnR : va_nd isR = true) (hdis : ∀ i ∈ isR, i ∉ isC)
    (qr ci : Nat) {T : u_T} {N : Nat} {fs : List Value} (hcl : vwCl[ci]? = some (C, T, N)) (he : WS[qr]? = some (b, .inr (ci, fs)))
    (hn : As.length = n) (hsize : ls.size = nL) (hstack : st0 = As.reverse ++ .ref b :: rest) (hW : (rest.map fun v => v.category).sum ≤ 8) (hdg : decode cc pc = .ok (.invokevirtual index, 3)) (hf : cells ≤ R.cells ∧ slots ≤ R.slots)
    (kk : ∀ (r : Int32) (u : S) (H1 : Heap) (locs1 : List Loc), K r u → va_P D vwCl (isR.filterMap (fun i => WS[i]?) ++ W1 u) H1 → va_D A (isR.filterMap (fun i => WS[i]?) ++ W1 u) → va_S A H0 H1 locs1 → W p l e R s m args below meth c H1 locs1 cells slots Q (F0 m (pc + 3) ls (.int r :: rest))) :
    W p l e R s m args below meth c H locs cells slots Q (F0 m pc ls st0) := by
  have hPc := hP.sub (ws' := WC) isC (fw_fm isC WC hC)
  have hDc := hD.sub (ws' := WC) isC hnC hC
  have hFc := va_free (wc := WC) hD hS hA isC hC
  refine va_calli (va_runU (As := As) (rest := rest) F (hM H.size) cw ⟨fw_blind, va_recv hK hP hcl he, fun U hU hW => ⟨rfl, by rw [hU], by rw [hU]; exact hPc, va_K.moved hW.alike hK, hDc.weaken (fun _ _ _ _ => trivial)⟩⟩ rfl hn hsize hstack (lv_room hW) hdg ⟨hf.1, hf.2⟩) hS (fun q _ h => hFc q h) hFc (fun r u t H1 locs ht hvm hw hB hz1 hk1 hS => ?_)
  obtain ⟨hP1, hK1, hD1⟩ := hB
  rw [ht] at hP1
  obtain ⟨hP, hD⟩ := va_join (wr := isR.filterMap (fun i => WS[i]?)) (w1 := W1 u) hP hD isC isR hC hR hnR hdis hk1 hFc hP1 hD1
  exact kk r u H1 locs hw hP hD hS
set_option maxHeartbeats 4000000 in
theorem cl_Si {p : Program} {l : Launch} {e : Env} {R : Room} {s : State} {m : MethodId} {args : Array Value} {below : List Frame} {meth : Method} {c : Code} {H : Heap} {locs : List Loc} {cells slots : Nat} {Q : State → Prop} {D : va_G} {tys : List (ClassId × FieldType)} {A : Nat → Prop} {WS WC : va_W} {H0 : Heap} {cc bytes : ByteArray} {nL maxL n index : Nat} {Ts ws : List Cond} {rm : Room} {own C : String} {y : MethodName} {ret : Option FieldType} {b : Addr} {As rest st0 : List Value} {pc : Nat} {ls : Array Slot} {S : Type} {K : Int32 → S → Prop} {W1 : S → va_W}
    (F : CallFix p m c cc nL s args Ts own) (hM : Ci l D tys y ws rm As WC K W1) (cw : (CallB R s args own index y bytes maxL ret ws rm 0 0 n ∧ (Cond.static y).before args s = true))
    (hK : va_K D vwCl tys s) (hP : va_P D vwCl WS H) (hD : va_D A WS) (hS : va_S A H0 H locs) (hA : ∀ q, H0.size ≤ q → A q)
    (isC isR : List Nat) (hC : isC.map (fun i => WS[i]?) = WC.map some) (hnC : va_nd isC = true) (hR : isR.map (fun i => WS[i]?) = (isR.filterMap (fun i => WS[i]?)).map some) (hnR : va_nd isR = true) (hdis : ∀ i ∈ isR, i ∉ isC)
    (hn : As.length = n) (hsize : ls.size = nL) (hstack : st0 = As.reverse ++ rest) (hW : (rest.map fun v => v.category).sum ≤ 8) (hdg : decode cc pc = .ok (.invokestatic index, 3)) (hf : cells ≤ R.cells ∧ slots ≤ R.slots)
    (kk : ∀ (r : Int32) (u : S) (H1 : Heap) (locs1 : List Loc), K r u → va_P D vwCl (isR.filterMap (fun i => WS[i]?) ++ W1 u) H1 → va_D A (isR.filterMap (fun i => WS[i]?) ++ W1 u) → va_S A H0 H1 locs1 → W p l e R s m args below meth c H1 locs1 cells slots Q (F0 m (pc + 3) ls (.int r :: rest))) :
    W p l e R s m args below meth c H locs cells slots Q (F0 m pc ls st0) := by
  have hPc := hP.sub (ws' := WC) isC (fw_fm isC WC hC)
  have hDc := hD.sub (ws' := WC) isC hnC hC
  have hFc := va_free (wc := WC) hD hS hA isC hC
  refine va_calli (va_runS (As := As) (rest := rest) F (hM H.size) cw ⟨fw_blind, fun U hU hW => ⟨rfl, by rw [hU], by rw [hU]; exact hPc, va_K.moved hW.alike hK, hDc.weaken (fun _ _ _ _ => trivial)⟩⟩ rfl hn hsize hstack (lv_room hW) hdg ⟨hf.1, hf.2⟩) hS (fun q _ h => hFc q h) hFc (fun r u t H1 locs ht hvm hw hB hz1 hk1 hS => ?_)
  obtain ⟨hP1, hK1, hD1⟩ := hB
  rw [ht] at hP1
  obtain ⟨hP, hD⟩ := va_join (wr := isR.filterMap (fun i => WS[i]?)) (w1 := W1 u) hP hD isC isR hC hR hnR hdis hk1 hFc hP1 hD1
  exact kk r u H1 locs hw hP hD hS
def Cl (l : Launch) (D : va_G) (tys : List (ClassId × FieldType)) (y : MethodName) (ws : List Cond) (rm : Room) (av : List Value) (WS : va_W) {S : Type} (K : Int64 → S → Prop) (W1 : S → va_W) : Prop :=
  ∀ sz : Nat, Met l y ws rm (fw_pre D tys WS av sz) (va_Ql K (fun u t => fw_at D tys (va_A WS sz) (W1 u) t) (va_A WS sz)) 0 0 (va_A WS sz)
set_option maxHeartbeats 4000000 in
theorem mt_l {l : Launch} {D : va_G} {tys : List (ClassId × FieldType)} {y : MethodName} {ws ws' : List Cond} {rm : Room} {cc : ByteArray} {maxL : Nat} {av : List Value} {WS : va_W} {S : Type} {K : Int64 → S → Prop} {W1 : S → va_W}
    (hy : plainName y.cls = true) (hw : ws = Cond.code y cc maxL (some .long) :: ws') (hlen : (lg_sl av).length ≤ maxL)
    (body : ∀ (p : Program) (e : Env) (s : State) (m : MethodId) (args : Array Value) (below : List Frame) (meth : Method) (c : Code) (Q : State → Prop) (A : Nat → Prop) (R : Room) (ls : Array Slot),
      rm.frames ≤ R.frames → rm.locals ≤ R.locals → p.tables.exec = Jvm.exec → c.code = cc → c.maxLocals = maxL → s.vm.findClass y.cls = some m.cls → (∀ w ∈ ws, w.before args s = true) → va_K D vwCl tys s → (∀ q, s.heap.size ≤ q → A q) → va_P D vwCl WS s.heap → va_D A WS → va_S A s.heap s.heap [] → lv_has ls maxL (lv_args 0 av) →
      (∀ (H : Heap) (locs : List Loc) (ls' : Array Slot) (pc : Nat) (r : Int64) (u : S), K r u → va_P D vwCl (W1 u) H → va_D A (W1 u) → va_S A s.heap H locs → decode cc pc = .ok (.lreturn, 1) → W p l e R s m args below meth c H locs 0 0 Q (F0 m pc ls' [.long r])) →
      W p l e R s m args below meth c s.heap [] 0 0 Q (F0 m 0 ls [])) : Cl l D tys y ws rm av WS K W1 := by
  intro sz
  refine Met.ofW (cc := cc) (maxL := maxL) (ret := (some .long)) hy hw ?_
  intro p e s m args below meth c s₁ B hml hv
  obtain ⟨rfl, hsz, hP, hK, hD0⟩ := hv
  have hx := B.exec
  have hb := B.bytes
  have hr := B.returns
  have hts := atoms_spec (ws := ws) B.pre
  have hown : s.vm.findClass y.cls = some m.cls := findClass_of_methodNamed B.named
  have hlocks := B.notSynchronized
  subst hsz
  have hD := hD0.self (sz := s.heap.size)
  generalize hAe : va_A WS s.heap.size = A at hD ⊢
  have hA : ∀ q : Nat, s.heap.size ≤ q → A q := fun q h => by rw [← hAe]; exact Or.inr h
  have hl := lv_entry av (n := maxL) hlen
  rw [lg_entry_eq]
  generalize (lg_sl av ++ List.replicate (maxL - (lg_sl av).length) Slot.unset).toArray = ls at hl ⊢
  refine body p e s m av.toArray below meth c _ A (headSpec ws rm).room ls (Nat.le_refl _) (Nat.le_refl _) hx hb hml hown hts hK hA hP hD va_S.rf hl ?_
  intro H locs ls' pc r u hk hP9 hD9 hS9 hdg
  exact W.lret hx hb hr (fun t ht hW => ⟨⟨r, u, rfl, hk, by rw [ht]; exact hP9, va_K.moved hW.alike hK, hD9⟩, hS9.F ht⟩) hS9.2.2 hdg
set_option maxHeartbeats 4000000 in
theorem cl_Vl {p : Program} {l : Launch} {e : Env} {R : Room} {s : State} {m : MethodId} {args : Array Value} {below : List Frame} {meth : Method} {c : Code} {H : Heap} {locs : List Loc} {cells slots : Nat} {Q : State → Prop} {D : va_G} {tys : List (ClassId × FieldType)} {A : Nat → Prop} {WS WC : va_W} {H0 : Heap} {cc bytes : ByteArray} {nL maxL n index : Nat} {Ts ws : List Cond} {rm : Room} {own C : String} {y : MethodName} {ret : Option FieldType} {b : Addr} {As rest st0 : List Value} {pc : Nat} {ls : Array Slot} {S : Type} {K : Int64 → S → Prop} {W1 : S → va_W}
    (F : CallFix p m c cc nL s args Ts own) (hM : Cl l D tys y ws rm (.ref b :: As) WC K W1) (cw : CallW R s args own C index y bytes maxL ret ws rm 0 0 n)
    (hK : va_K D vwCl tys s) (hP : va_P D vwCl WS H) (hD : va_D A WS) (hS : va_S A H0 H locs) (hA : ∀ q, H0.size ≤ q → A q)
    (isC isR : List Nat) (hC : isC.map (fun i => WS[i]?) = WC.map some) (hnC : va_nd isC = true) (hR : isR.map (fun i => WS[i]?) = (isR.filterMap (fun i => WS[i]?)).map some) (hnR : va_nd isR = true) (hdis : ∀ i ∈ isR, i ∉ isC)
    (qr ci : Nat) {T : u_T} {N : Nat} {fs : List Value} (hcl : vwCl[ci]? = some (C, T, N)) (he : WS[qr]? = some (b, .inr (ci, fs)))
    (hn : As.length = n) (hsize : ls.size = nL) (hstack : st0 = As.reverse ++ .ref b :: rest) (hW : (rest.map fun v => v.category).sum ≤ 8) (hdg : decode cc pc = .ok (.invokevirtual index, 3)) (hf : cells ≤ R.cells ∧ slots ≤ R.slots)
    (kk : ∀ (r : Int64) (u : S) (H1 : Heap) (locs1 : List Loc), K r u → va_P D vwCl (isR.filterMap (fun i => WS[i]?) ++ W1 u) H1 → va_D A (isR.filterMap (fun i => WS[i]?) ++ W1 u) → va_S A H0 H1 locs1 → W p l e R s m args below meth c H1 locs1 cells slots Q (F0 m (pc + 3) ls (.long r :: rest))) :
    W p l e R s m args below meth c H locs cells slots Q (F0 m pc ls st0) := by
  have hPc := hP.sub (ws' := WC) isC (fw_fm isC WC hC)
  have hDc := hD.sub (ws' := WC) isC hnC hC
  have hFc := va_free (wc := WC) hD hS hA isC hC
  refine va_calll (va_runV (As := As) (rest := rest) F (hM H.size) cw ⟨fw_blind, va_recv hK hP hcl he, fun U hU hW => ⟨rfl, by rw [hU], by rw [hU]; exact hPc, va_K.moved hW.alike hK, hDc.weaken (fun _ _ _ _ => trivial)⟩⟩ rfl hn hsize hstack (lv_room hW) hdg ⟨hf.1, hf.2⟩) hS (fun q _ h => hFc q h) hFc (fun r u t H1 locs ht hvm hw hB hz1 hk1 hS => ?_)
  obtain ⟨hP1, hK1, hD1⟩ := hB
  rw [ht] at hP1
  obtain ⟨hP, hD⟩ := va_join (wr := isR.filterMap (fun i => WS[i]?)) (w1 := W1 u) hP hD isC isR hC hR hnR hdis hk1 hFc hP1 hD1
  exact kk r u H1 locs hw hP hD hS
set_option maxHeartbeats 4000000 in
theorem cl_Ul {p : Program} {l : Launch} {e : Env} {R : Room} {s : State} {m : MethodId} {args : Array Value} {below : List Frame} {meth : Method} {c : Code} {H : Heap} {locs : List Loc} {cells slots : Nat} {Q : State → Prop} {D : va_G} {tys : List (ClassId × FieldType)} {A : Nat → Prop} {WS WC : va_W} {H0 : Heap} {cc bytes : ByteArray} {nL maxL n index : Nat} {Ts ws : List Cond} {rm : Room} {own C : String} {y : MethodName} {ret : Option FieldType} {b : Addr} {As rest st0 : List Value} {pc : Nat} {ls : Array Slot} {S : Type} {K : Int64 → S → Prop} {W1 : S → va_W} {owner : String} {x : MethodName}
    (F : CallFix p m c cc nL s args Ts own) (hM : Cl l D tys y ws rm (.ref b :: As) WC K W1) (cw : va_CU R s args own C owner index x y bytes maxL ret ws rm 0 0 n)
    (hK : va_K D vwCl tys s) (hP : va_P D vwCl WS H) (hD : va_D A WS) (hS : va_S A H0 H locs) (hA : ∀ q, H0.size ≤ q → A q)
    (isC isR : List Nat) (hC : isC.map (fun i => WS[i]?) = WC.map some) (hnC : va_nd isC = true) (hR : isR.map (fun i => WS[i]?) = (isR.filterMap (fun i => WS[i]?)).map some) (hnR : va_nd isR = true) (hdis : ∀ i ∈ isR, i ∉ isC)
    (qr ci : Nat) {T : u_T} {N : Nat} {fs : List Value} (hcl : vwCl[ci]? = some (C, T, N)) (he : WS[qr]? = some (b, .inr (ci, fs)))
    (hn : As.length = n) (hsize : ls.size = nL) (hstack : st0 = As.reverse ++ .ref b :: rest) (hW : (rest.map fun v => v.category).sum ≤ 8) (hdg : decode cc pc = .ok (.invokevirtual index, 3)) (hf : cells ≤ R.cells ∧ slots ≤ R.slots)
    (kk : ∀ (r : Int64) (u : S) (H1 : Heap) (locs1 : List Loc), K r u → va_P D vwCl (isR.filterMap (fun i => WS[i]?) ++ W1 u) H1 → va_D A (isR.filterMap (fun i => WS[i]?) ++ W1 u) → va_S A H0 H1 locs1 → W p l e R s m args below meth c H1 locs1 cells slots Q (F0 m (pc + 3) ls (.long r :: rest))) :
    W p l e R s m args below meth c H locs cells slots Q (F0 m pc ls st0) := by
  have hPc := hP.sub (ws' := WC) isC (fw_fm isC WC hC)
  have hDc := hD.sub (ws' := WC) isC hnC hC
  have hFc := va_free (wc := WC) hD hS hA isC hC
  refine va_calll (va_runU (As := As) (rest := rest) F (hM H.size) cw ⟨fw_blind, va_recv hK hP hcl he, fun U hU hW => ⟨rfl, by rw [hU], by rw [hU]; exact hPc, va_K.moved hW.alike hK, hDc.weaken (fun _ _ _ _ => trivial)⟩⟩ rfl hn hsize hstack (lv_room hW) hdg ⟨hf.1, hf.2⟩) hS (fun q _ h => hFc q h) hFc (fun r u t H1 locs ht hvm hw hB hz1 hk1 hS => ?_)
  obtain ⟨hP1, hK1, hD1⟩ := hB
  rw [ht] at hP1
  obtain ⟨hP, hD⟩ := va_join (wr := isR.filterMap (fun i => WS[i]?)) (w1 := W1 u) hP hD isC isR hC hR hnR hdis hk1 hFc hP1 hD1
  exact kk r u H1 locs hw hP hD hS
set_option maxHeartbeats 4000000 in
theorem cl_Sl {p : Program} {l : Launch} {e : Env} {R : Room} {s : State} {m : MethodId} {args : Array Value} {below : List Frame} {meth : Method} {c : Code} {H : Heap} {locs : List Loc} {cells slots : Nat} {Q : State → Prop} {D : va_G} {tys : List (ClassId × FieldType)} {A : Nat → Prop} {WS WC : va_W} {H0 : Heap} {cc bytes : ByteArray} {nL maxL n index : Nat} {Ts ws : List Cond} {rm : Room} {own C : String} {y : MethodName} {ret : Option FieldType} {b : Addr} {As rest st0 : List Value} {pc : Nat} {ls : Array Slot} {S : Type} {K : Int64 → S → Prop} {W1 : S → va_W}
    (F : CallFix p m c cc nL s args Ts own) (hM : Cl l D tys y ws rm As WC K W1) (cw : (CallB R s args own index y bytes maxL ret ws rm 0 0 n ∧ (Cond.static y).before args s = true))
    (hK : va_K D vwCl tys s) (hP : va_P D vwCl WS H) (hD : va_D A WS) (hS : va_S A H0 H locs) (hA : ∀ q, H0.size ≤ q → A q)
    (isC isR : List Nat) (hC : isC.map (fun i => WS[i]?) = WC.map some) (hnC : va_nd isC = true) (hR : isR.map (fun i => WS[i]?) = (isR.filterMap (fun i => WS[i]?)).map some) (hnR : va_nd isR = true) (hdis : ∀ i ∈ isR, i ∉ isC)
    (hn : As.length = n) (hsize : ls.size = nL) (hstack : st0 = As.reverse ++ rest) (hW : (rest.map fun v => v.category).sum ≤ 8) (hdg : decode cc pc = .ok (.invokestatic index, 3)) (hf : cells ≤ R.cells ∧ slots ≤ R.slots)
    (kk : ∀ (r : Int64) (u : S) (H1 : Heap) (locs1 : List Loc), K r u → va_P D vwCl (isR.filterMap (fun i => WS[i]?) ++ W1 u) H1 → va_D A (isR.filterMap (fun i => WS[i]?) ++ W1 u) → va_S A H0 H1 locs1 → W p l e R s m args below meth c H1 locs1 cells slots Q (F0 m (pc + 3) ls (.long r :: rest))) :
    W p l e R s m args below meth c H locs cells slots Q (F0 m pc ls st0) := by
  have hPc := hP.sub (ws' := WC) isC (fw_fm isC WC hC)
  have hDc := hD.sub (ws' := WC) isC hnC hC
  have hFc := va_free (wc := WC) hD hS hA isC hC
  refine va_calll (va_runS (As := As) (rest := rest) F (hM H.size) cw ⟨fw_blind, fun U hU hW => ⟨rfl, by rw [hU], by rw [hU]; exact hPc, va_K.moved hW.alike hK, hDc.weaken (fun _ _ _ _ => trivial)⟩⟩ rfl hn hsize hstack (lv_room hW) hdg ⟨hf.1, hf.2⟩) hS (fun q _ h => hFc q h) hFc (fun r u t H1 locs ht hvm hw hB hz1 hk1 hS => ?_)
  obtain ⟨hP1, hK1, hD1⟩ := hB
  rw [ht] at hP1
  obtain ⟨hP, hD⟩ := va_join (wr := isR.filterMap (fun i => WS[i]?)) (w1 := W1 u) hP hD isC isR hC hR hnR hdis hk1 hFc hP1 hD1
  exact kk r u H1 locs hw hP hD hS
def Cv (l : Launch) (D : va_G) (tys : List (ClassId × FieldType)) (y : MethodName) (ws : List Cond) (rm : Room) (av : List Value) (WS : va_W) {S : Type} (K : S → Prop) (W1 : S → va_W) : Prop :=
  ∀ sz : Nat, Met l y ws rm (fw_pre D tys WS av sz) (va_Qv K (fun u t => fw_at D tys (va_A WS sz) (W1 u) t) (va_A WS sz)) 0 0 (va_A WS sz)
set_option maxHeartbeats 4000000 in
theorem mt_v {l : Launch} {D : va_G} {tys : List (ClassId × FieldType)} {y : MethodName} {ws ws' : List Cond} {rm : Room} {cc : ByteArray} {maxL : Nat} {av : List Value} {WS : va_W} {S : Type} {K : S → Prop} {W1 : S → va_W}
    (hy : plainName y.cls = true) (hw : ws = Cond.code y cc maxL none :: ws') (hlen : (lg_sl av).length ≤ maxL)
    (body : ∀ (p : Program) (e : Env) (s : State) (m : MethodId) (args : Array Value) (below : List Frame) (meth : Method) (c : Code) (Q : State → Prop) (A : Nat → Prop) (R : Room) (ls : Array Slot),
      rm.frames ≤ R.frames → rm.locals ≤ R.locals → p.tables.exec = Jvm.exec → c.code = cc → c.maxLocals = maxL → s.vm.findClass y.cls = some m.cls → (∀ w ∈ ws, w.before args s = true) → va_K D vwCl tys s → (∀ q, s.heap.size ≤ q → A q) → va_P D vwCl WS s.heap → va_D A WS → va_S A s.heap s.heap [] → lv_has ls maxL (lv_args 0 av) →
      (∀ (H : Heap) (locs : List Loc) (ls' : Array Slot) (pc : Nat) (u : S), K u → va_P D vwCl (W1 u) H → va_D A (W1 u) → va_S A s.heap H locs → decode cc pc = .ok (.return_, 1) → W p l e R s m args below meth c H locs 0 0 Q (F0 m pc ls' [])) →
      W p l e R s m args below meth c s.heap [] 0 0 Q (F0 m 0 ls [])) : Cv l D tys y ws rm av WS K W1 := by
  intro sz
  refine Met.ofW (cc := cc) (maxL := maxL) (ret := none) hy hw ?_
  intro p e s m args below meth c s₁ B hml hv
  obtain ⟨rfl, hsz, hP, hK, hD0⟩ := hv
  have hx := B.exec
  have hb := B.bytes
  have hr := B.returns
  have hts := atoms_spec (ws := ws) B.pre
  have hown : s.vm.findClass y.cls = some m.cls := findClass_of_methodNamed B.named
  have hlocks := B.notSynchronized
  subst hsz
  have hD := hD0.self (sz := s.heap.size)
  generalize hAe : va_A WS s.heap.size = A at hD ⊢
  have hA : ∀ q : Nat, s.heap.size ≤ q → A q := fun q h => by rw [← hAe]; exact Or.inr h
  have hl := lv_entry av (n := maxL) hlen
  rw [lg_entry_eq]
  generalize (lg_sl av ++ List.replicate (maxL - (lg_sl av).length) Slot.unset).toArray = ls at hl ⊢
  refine body p e s m av.toArray below meth c _ A (headSpec ws rm).room ls (Nat.le_refl _) (Nat.le_refl _) hx hb hml hown hts hK hA hP hD va_S.rf hl ?_
  intro H locs ls' pc u hk hP9 hD9 hS9 hdg
  exact W.vret hx hb hr (fun t ht hW => ⟨⟨u, rfl, hk, by rw [ht]; exact hP9, va_K.moved hW.alike hK, hD9⟩, hS9.F ht⟩) hS9.2.2 hdg
set_option maxHeartbeats 4000000 in
theorem cl_Vv {p : Program} {l : Launch} {e : Env} {R : Room} {s : State} {m : MethodId} {args : Array Value} {below : List Frame} {meth : Method} {c : Code} {H : Heap} {locs : List Loc} {cells slots : Nat} {Q : State → Prop} {D : va_G} {tys : List (ClassId × FieldType)} {A : Nat → Prop} {WS WC : va_W} {H0 : Heap} {cc bytes : ByteArray} {nL maxL n index : Nat} {Ts ws : List Cond} {rm : Room} {own C : String} {y : MethodName} {ret : Option FieldType} {b : Addr} {As rest st0 : List Value} {pc : Nat} {ls : Array Slot} {S : Type} {K : S → Prop} {W1 : S → va_W}
    (F : CallFix p m c cc nL s args Ts own) (hM : Cv l D tys y ws rm (.ref b :: As) WC K W1) (cw : CallW R s args own C index y bytes maxL ret ws rm 0 0 n)
    (hK : va_K D vwCl tys s) (hP : va_P D vwCl WS H) (hD : va_D A WS) (hS : va_S A H0 H locs) (hA : ∀ q, H0.size ≤ q → A q)
    (isC isR : List Nat) (hC : isC.map (fun i => WS[i]?) = WC.map some) (hnC : va_nd isC = true) (hR : isR.map (fun i => WS[i]?) = (isR.filterMap (fun i => WS[i]?)).map some) (hnR : va_nd isR = true) (hdis : ∀ i ∈ isR, i ∉ isC)
    (qr ci : Nat) {T : u_T} {N : Nat} {fs : List Value} (hcl : vwCl[ci]? = some (C, T, N)) (he : WS[qr]? = some (b, .inr (ci, fs)))
    (hn : As.length = n) (hsize : ls.size = nL) (hstack : st0 = As.reverse ++ .ref b :: rest) (hW : (rest.map fun v => v.category).sum ≤ 8) (hdg : decode cc pc = .ok (.invokevirtual index, 3)) (hf : cells ≤ R.cells ∧ slots ≤ R.slots)
    (kk : ∀ (u : S) (H1 : Heap) (locs1 : List Loc), K u → va_P D vwCl (isR.filterMap (fun i => WS[i]?) ++ W1 u) H1 → va_D A (isR.filterMap (fun i => WS[i]?) ++ W1 u) → va_S A H0 H1 locs1 → W p l e R s m args below meth c H1 locs1 cells slots Q (F0 m (pc + 3) ls (rest))) :
    W p l e R s m args below meth c H locs cells slots Q (F0 m pc ls st0) := by
  have hPc := hP.sub (ws' := WC) isC (fw_fm isC WC hC)
  have hDc := hD.sub (ws' := WC) isC hnC hC
  have hFc := va_free (wc := WC) hD hS hA isC hC
  refine va_callv (va_runV (As := As) (rest := rest) F (hM H.size) cw ⟨fw_blind, va_recv hK hP hcl he, fun U hU hW => ⟨rfl, by rw [hU], by rw [hU]; exact hPc, va_K.moved hW.alike hK, hDc.weaken (fun _ _ _ _ => trivial)⟩⟩ rfl hn hsize hstack (lv_room hW) hdg ⟨hf.1, hf.2⟩) hS (fun q _ h => hFc q h) hFc (fun u t H1 locs ht hvm hw hB hz1 hk1 hS => ?_)
  obtain ⟨hP1, hK1, hD1⟩ := hB
  rw [ht] at hP1
  obtain ⟨hP, hD⟩ := va_join (wr := isR.filterMap (fun i => WS[i]?)) (w1 := W1 u) hP hD isC isR hC hR hnR hdis hk1 hFc hP1 hD1
  exact kk u H1 locs hw hP hD hS
set_option maxHeartbeats 4000000 in
theorem cl_Uv {p : Program} {l : Launch} {e : Env} {R : Room} {s : State} {m : MethodId} {args : Array Value} {below : List Frame} {meth : Method} {c : Code} {H : Heap} {locs : List Loc} {cells slots : Nat} {Q : State → Prop} {D : va_G} {tys : List (ClassId × FieldType)} {A : Nat → Prop} {WS WC : va_W} {H0 : Heap} {cc bytes : ByteArray} {nL maxL n index : Nat} {Ts ws : List Cond} {rm : Room} {own C : String} {y : MethodName} {ret : Option FieldType} {b : Addr} {As rest st0 : List Value} {pc : Nat} {ls : Array Slot} {S : Type} {K : S → Prop} {W1 : S → va_W} {owner : String} {x : MethodName}
    (F : CallFix p m c cc nL s args Ts own) (hM : Cv l D tys y ws rm (.ref b :: As) WC K W1) (cw : va_CU R s args own C owner index x y bytes maxL ret ws rm 0 0 n)
    (hK : va_K D vwCl tys s) (hP : va_P D vwCl WS H) (hD : va_D A WS) (hS : va_S A H0 H locs) (hA : ∀ q, H0.size ≤ q → A q)
    (isC isR : List Nat) (hC : isC.map (fun i => WS[i]?) = WC.map some) (hnC : va_nd isC = true) (hR : isR.map (fun i => WS[i]?) = (isR.filterMap (fun i => WS[i]?)).map some) (hnR : va_nd isR = true) (hdis : ∀ i ∈ isR, i ∉ isC)
    (qr ci : Nat) {T : u_T} {N : Nat} {fs : List Value} (hcl : vwCl[ci]? = some (C, T, N)) (he : WS[qr]? = some (b, .inr (ci, fs)))
    (hn : As.length = n) (hsize : ls.size = nL) (hstack : st0 = As.reverse ++ .ref b :: rest) (hW : (rest.map fun v => v.category).sum ≤ 8) (hdg : decode cc pc = .ok (.invokevirtual index, 3)) (hf : cells ≤ R.cells ∧ slots ≤ R.slots)
    (kk : ∀ (u : S) (H1 : Heap) (locs1 : List Loc), K u → va_P D vwCl (isR.filterMap (fun i => WS[i]?) ++ W1 u) H1 → va_D A (isR.filterMap (fun i => WS[i]?) ++ W1 u) → va_S A H0 H1 locs1 → W p l e R s m args below meth c H1 locs1 cells slots Q (F0 m (pc + 3) ls (rest))) :
    W p l e R s m args below meth c H locs cells slots Q (F0 m pc ls st0) := by
  have hPc := hP.sub (ws' := WC) isC (fw_fm isC WC hC)
  have hDc := hD.sub (ws' := WC) isC hnC hC
  have hFc := va_free (wc := WC) hD hS hA isC hC
  refine va_callv (va_runU (As := As) (rest := rest) F (hM H.size) cw ⟨fw_blind, va_recv hK hP hcl he, fun U hU hW => ⟨rfl, by rw [hU], by rw [hU]; exact hPc, va_K.moved hW.alike hK, hDc.weaken (fun _ _ _ _ => trivial)⟩⟩ rfl hn hsize hstack (lv_room hW) hdg ⟨hf.1, hf.2⟩) hS (fun q _ h => hFc q h) hFc (fun u t H1 locs ht hvm hw hB hz1 hk1 hS => ?_)
  obtain ⟨hP1, hK1, hD1⟩ := hB
  rw [ht] at hP1
  obtain ⟨hP, hD⟩ := va_join (wr := isR.filterMap (fun i => WS[i]?)) (w1 := W1 u) hP hD isC isR hC hR hnR hdis hk1 hFc hP1 hD1
  exact kk u H1 locs hw hP hD hS
set_option maxHeartbeats 4000000 in
theorem cl_Sv {p : Program} {l : Launch} {e : Env} {R : Room} {s : State} {m : MethodId} {args : Array Value} {below : List Frame} {meth : Method} {c : Code} {H : Heap} {locs : List Loc} {cells slots : Nat} {Q : State → Prop} {D : va_G} {tys : List (ClassId × FieldType)} {A : Nat → Prop} {WS WC : va_W} {H0 : Heap} {cc bytes : ByteArray} {nL maxL n index : Nat} {Ts ws : List Cond} {rm : Room} {own C : String} {y : MethodName} {ret : Option FieldType} {b : Addr} {As rest st0 : List Value} {pc : Nat} {ls : Array Slot} {S : Type} {K : S → Prop} {W1 : S → va_W}
    (F : CallFix p m c cc nL s args Ts own) (hM : Cv l D tys y ws rm As WC K W1) (cw : (CallB R s args own index y bytes maxL ret ws rm 0 0 n ∧ (Cond.static y).before args s = true))
    (hK : va_K D vwCl tys s) (hP : va_P D vwCl WS H) (hD : va_D A WS) (hS : va_S A H0 H locs) (hA : ∀ q, H0.size ≤ q → A q)
    (isC isR : List Nat) (hC : isC.map (fun i => WS[i]?) = WC.map some) (hnC : va_nd isC = true) (hR : isR.map (fun i => WS[i]?) = (isR.filterMap (fun i => WS[i]?)).map some) (hnR : va_nd isR = true) (hdis : ∀ i ∈ isR, i ∉ isC)
    (hn : As.length = n) (hsize : ls.size = nL) (hstack : st0 = As.reverse ++ rest) (hW : (rest.map fun v => v.category).sum ≤ 8) (hdg : decode cc pc = .ok (.invokestatic index, 3)) (hf : cells ≤ R.cells ∧ slots ≤ R.slots)
    (kk : ∀ (u : S) (H1 : Heap) (locs1 : List Loc), K u → va_P D vwCl (isR.filterMap (fun i => WS[i]?) ++ W1 u) H1 → va_D A (isR.filterMap (fun i => WS[i]?) ++ W1 u) → va_S A H0 H1 locs1 → W p l e R s m args below meth c H1 locs1 cells slots Q (F0 m (pc + 3) ls (rest))) :
    W p l e R s m args below meth c H locs cells slots Q (F0 m pc ls st0) := by
  have hPc := hP.sub (ws' := WC) isC (fw_fm isC WC hC)
  have hDc := hD.sub (ws' := WC) isC hnC hC
  have hFc := va_free (wc := WC) hD hS hA isC hC
  refine va_callv (va_runS (As := As) (rest := rest) F (hM H.size) cw ⟨fw_blind, fun U hU hW => ⟨rfl, by rw [hU], by rw [hU]; exact hPc, va_K.moved hW.alike hK, hDc.weaken (fun _ _ _ _ => trivial)⟩⟩ rfl hn hsize hstack (lv_room hW) hdg ⟨hf.1, hf.2⟩) hS (fun q _ h => hFc q h) hFc (fun u t H1 locs ht hvm hw hB hz1 hk1 hS => ?_)
  obtain ⟨hP1, hK1, hD1⟩ := hB
  rw [ht] at hP1
  obtain ⟨hP, hD⟩ := va_join (wr := isR.filterMap (fun i => WS[i]?)) (w1 := W1 u) hP hD isC isR hC hR hnR hdis hk1 hFc hP1 hD1
  exact kk u H1 locs hw hP hD hS
theorem cq_lt (x y : Int64) : (lg_cmp x y < 0) ↔ x < y := lg_cmp_lt x y
theorem cq_ge (x y : Int64) : (0 ≤ lg_cmp x y) ↔ y ≤ x := lg_cmp_ge x y
theorem cq_gt (x y : Int64) : (0 < lg_cmp x y) ↔ y < x := lg_cmp_gt x y
theorem cq_le (x y : Int64) : (lg_cmp x y ≤ 0) ↔ x ≤ y := lg_cmp_le x y
theorem cq_eq (x y : Int64) : (lg_cmp x y = 0) ↔ x = y := lg_cmp_eq x y
theorem cq_ne (x y : Int64) : (¬ lg_cmp x y = 0) ↔ ¬ x = y := not_congr (lg_cmp_eq x y)
theorem rm_le {a b f f' : Nat} (h : a + 1 ≤ f) (h2 : f ≤ f') : a + 1 ≤ f' := Nat.le_trans h h2
end
section
/-- X3_idAt -/
def wp_X3_idAt (pd : Nat → Int32) (pn : Int32) (v1 : Int32) (K : Int32 → Prop) : Prop := ((v1 < 0 → (K (-6))) ∧ (¬ v1 < 0 → ((pn ≤ v1 → (K (-6))) ∧ (¬ pn ≤ v1 → (vp_in v1 32 ∧ (K (pd v1.toNatClampNeg)))))))
/-- X3_rankOf -/
def wp_X3_rankOf_2b (pd : Nat → Int32) (pn : Int32) (v1 : Int32) (K : Int32 → Prop) (L2 : Int32 → Prop)  (v2 : Int32) : Prop := ((pn ≤ v2 → (K (-6))) ∧ (¬ pn ≤ v2 → (vp_in v2 32 ∧ ((¬ (pd v2.toNatClampNeg) = v1 → (L2 (v2 + 1))) ∧ ((pd v2.toNatClampNeg) = v1 → (K v2))))))
def wp_X3_rankOf_2 (pd : Nat → Int32) (pn : Int32) (v1 : Int32) (K : Int32 → Prop)  : Nat → Int32 → Prop
  | 0 => fun _ => False
  | k + 1 => fun v2 => wp_X3_rankOf_2b pd pn v1 K (wp_X3_rankOf_2 pd pn v1 K  k)  v2
def wp_X3_rankOf (pd : Nat → Int32) (pn : Int32) (v1 : Int32) (K : Int32 → Prop) : Prop := (∃ k, wp_X3_rankOf_2 pd pn v1 K  k 0)
/-- X3_isAt -/
def wp_X3_isAt (px : Nat → Int32) (py : Nat → Int32) (v1 : Int32) (v2 : Int32) (v3 : Int32) (K : Int32 → Prop) : Prop := (vp_in v1 32 ∧ ((¬ (px v1.toNatClampNeg) = v2 → (K 0)) ∧ ((px v1.toNatClampNeg) = v2 → (vp_in v1 32 ∧ ((¬ (py v1.toNatClampNeg) = v3 → (K 0)) ∧ ((py v1.toNatClampNeg) = v3 → (K 1)))))))
/-- X3_isTaken -/
def wp_X3_isTaken_2b (px : Nat → Int32) (py : Nat → Int32) (pn : Int32) (v1 : Int32) (v2 : Int32) (K : Int32 → Prop) (L2 : Int32 → Prop)  (v3 : Int32) : Prop := ((pn ≤ v3 → (K 0)) ∧ (¬ pn ≤ v3 → (wp_X3_isAt px py v3 v1 v2 (fun r14 => ((r14 = 0 → (L2 (v3 + 1))) ∧ (¬ r14 = 0 → (K 1)))))))
def wp_X3_isTaken_2 (px : Nat → Int32) (py : Nat → Int32) (pn : Int32) (v1 : Int32) (v2 : Int32) (K : Int32 → Prop)  : Nat → Int32 → Prop
  | 0 => fun _ => False
  | k + 1 => fun v3 => wp_X3_isTaken_2b px py pn v1 v2 K (wp_X3_isTaken_2 px py pn v1 v2 K  k)  v3
def wp_X3_isTaken (px : Nat → Int32) (py : Nat → Int32) (pn : Int32) (v1 : Int32) (v2 : Int32) (K : Int32 → Prop) : Prop := (∃ k, wp_X3_isTaken_2 px py pn v1 v2 K  k 0)
/-- X3_leastFreeId -/
def wp_X3_leastFreeId_2b (pd : Nat → Int32) (pn : Int32) (K : Int32 → Prop) (L2 : Int32 → Prop)  (v1 : Int32) : Prop := (((32 : Int32) ≤ v1 → (K (-6))) ∧ (¬ (32 : Int32) ≤ v1 → (wp_X3_rankOf pd pn v1 (fun r10 => ((¬ r10 = ((-6) : Int32) → (L2 (v1 + 1))) ∧ (r10 = ((-6) : Int32) → (K v1)))))))
def wp_X3_leastFreeId_2 (pd : Nat → Int32) (pn : Int32) (K : Int32 → Prop)  : Nat → Int32 → Prop
  | 0 => fun _ => False
  | k + 1 => fun v1 => wp_X3_leastFreeId_2b pd pn K (wp_X3_leastFreeId_2 pd pn K  k)  v1
def wp_X3_leastFreeId (pd : Nat → Int32) (pn : Int32) (K : Int32 → Prop) : Prop := (∃ k, wp_X3_leastFreeId_2 pd pn K  k 0)
/-- X3_isBefore -/
def wp_X3_isBefore (px : Nat → Int32) (py : Nat → Int32) (v1 : Int32) (v2 : Int32) (v3 : Int32) (K : Int32 → Prop) : Prop := (vp_in v3 32 ∧ ((v1 < (px v3.toNatClampNeg) → (K 1)) ∧ (¬ v1 < (px v3.toNatClampNeg) → (vp_in v3 32 ∧ ((¬ v1 = (px v3.toNatClampNeg) → (K 0)) ∧ (v1 = (px v3.toNatClampNeg) → (vp_in v3 32 ∧ (((py v3.toNatClampNeg) ≤ v2 → (K 0)) ∧ (¬ (py v3.toNatClampNeg) ≤ v2 → (K 1))))))))))
/-- X3_setRow -/
def wp_X3_setRow (pd : Nat → Int32) (px : Nat → Int32) (py : Nat → Int32) (v1 : Int32) (v2 : Int32) (v3 : Int32) (v4 : Int32) (K : (Nat → Int32) → (Nat → Int32) → (Nat → Int32) → Prop) : Prop := (vp_in v1 32 ∧ (vp_in v1 32 ∧ (vp_in v1 32 ∧ (K (upd pd v1.toNatClampNeg v2) (upd px v1.toNatClampNeg v3) (upd py v1.toNatClampNeg v4)))))
/-- X3_insert -/
def wp_X3_insert_73 (v1 : Int32) (v2 : Int32) (v3 : Int32) (K : (Nat → Int32) → (Nat → Int32) → (Nat → Int32) → Int32 → Prop) (pd : Nat → Int32) (px : Nat → Int32) (py : Nat → Int32) (pn : Int32) (v4 : Int32) : Prop := (wp_X3_setRow pd px py v4 v1 v2 v3 (fun pd_79 px_79 py_79 => (K pd_79 px_79 py_79 (pn + 1))))
def wp_X3_insert_16b (v1 : Int32) (v2 : Int32) (v3 : Int32) (K : (Nat → Int32) → (Nat → Int32) → (Nat → Int32) → Int32 → Prop) (L16 : (Nat → Int32) → (Nat → Int32) → (Nat → Int32) → Int32 → Prop) (pn : Int32) (pd : Nat → Int32) (px : Nat → Int32) (py : Nat → Int32) (v4 : Int32) : Prop := ((v4 ≤ 0 → (wp_X3_insert_73 v1 v2 v3 K pd px py pn v4)) ∧ (¬ v4 ≤ 0 → (wp_X3_isBefore px py v2 v3 (v4 - 1) (fun r28 => ((r28 = 0 → (wp_X3_insert_73 v1 v2 v3 K pd px py pn v4)) ∧ (¬ r28 = 0 → (vp_in (v4 - 1) 32 ∧ (vp_in (v4 - 1) 32 ∧ (vp_in (v4 - 1) 32 ∧ (wp_X3_setRow pd px py v4 (pd (v4 - 1).toNatClampNeg) (px (v4 - 1).toNatClampNeg) (py (v4 - 1).toNatClampNeg) (fun pd_64 px_64 py_64 => (L16 pd_64 px_64 py_64 (v4 + (-1))))))))))))))
def wp_X3_insert_16 (v1 : Int32) (v2 : Int32) (v3 : Int32) (K : (Nat → Int32) → (Nat → Int32) → (Nat → Int32) → Int32 → Prop) (pn : Int32) : Nat → (Nat → Int32) → (Nat → Int32) → (Nat → Int32) → Int32 → Prop
  | 0 => fun _ _ _ _ => False
  | k + 1 => fun pd px py v4 => wp_X3_insert_16b v1 v2 v3 K (wp_X3_insert_16 v1 v2 v3 K pn k) pn pd px py v4
def wp_X3_insert (pd : Nat → Int32) (px : Nat → Int32) (py : Nat → Int32) (pn : Int32) (v1 : Int32) (v2 : Int32) (v3 : Int32) (K : (Nat → Int32) → (Nat → Int32) → (Nat → Int32) → Int32 → Prop) : Prop := ((pn < (32 : Int32) → (∃ k, wp_X3_insert_16 v1 v2 v3 K pn k pd px py pn)) ∧ (¬ pn < (32 : Int32) → (K pd px py pn)))
/-- X3_delete -/
def wp_X3_delete_17b (v1 : Int32) (K : (Nat → Int32) → (Nat → Int32) → (Nat → Int32) → Int32 → Prop) (L17 : (Nat → Int32) → (Nat → Int32) → (Nat → Int32) → Int32 → Prop) (pn : Int32) (pd : Nat → Int32) (px : Nat → Int32) (py : Nat → Int32) (v2 : Int32) : Prop := ((pn ≤ v2 → (K pd px py (pn - 1))) ∧ (¬ pn ≤ v2 → (vp_in v2 32 ∧ (vp_in v2 32 ∧ (vp_in v2 32 ∧ (wp_X3_setRow pd px py (v2 - 1) (pd v2.toNatClampNeg) (px v2.toNatClampNeg) (py v2.toNatClampNeg) (fun pd_47 px_47 py_47 => (L17 pd_47 px_47 py_47 (v2 + 1)))))))))
def wp_X3_delete_17 (v1 : Int32) (K : (Nat → Int32) → (Nat → Int32) → (Nat → Int32) → Int32 → Prop) (pn : Int32) : Nat → (Nat → Int32) → (Nat → Int32) → (Nat → Int32) → Int32 → Prop
  | 0 => fun _ _ _ _ => False
  | k + 1 => fun pd px py v2 => wp_X3_delete_17b v1 K (wp_X3_delete_17 v1 K pn k) pn pd px py v2
def wp_X3_delete (pd : Nat → Int32) (px : Nat → Int32) (py : Nat → Int32) (pn : Int32) (v1 : Int32) (K : (Nat → Int32) → (Nat → Int32) → (Nat → Int32) → Int32 → Prop) : Prop := ((v1 < 0 → (K pd px py pn)) ∧ (¬ v1 < 0 → ((v1 < pn → (∃ k, wp_X3_delete_17 v1 K pn k pd px py (v1 + 1))) ∧ (¬ v1 < pn → (K pd px py pn)))))
/-- X3_copyFrom -/
def wp_X3_copyFrom_2b (zd : Nat → Int32) (zx : Nat → Int32) (zy : Nat → Int32) (zn : Int32) (K : (Nat → Int32) → (Nat → Int32) → (Nat → Int32) → Int32 → Prop) (L2 : (Nat → Int32) → (Nat → Int32) → (Nat → Int32) → Int32 → Prop) (pn : Int32) (pd : Nat → Int32) (px : Nat → Int32) (py : Nat → Int32) (v2 : Int32) : Prop := ((zn ≤ v2 → (K pd px py zn)) ∧ (¬ zn ≤ v2 → (vp_in v2 32 ∧ (vp_in v2 32 ∧ (vp_in v2 32 ∧ (wp_X3_setRow pd px py v2 (zd v2.toNatClampNeg) (zx v2.toNatClampNeg) (zy v2.toNatClampNeg) (fun pd_30 px_30 py_30 => (L2 pd_30 px_30 py_30 (v2 + 1)))))))))
def wp_X3_copyFrom_2 (zd : Nat → Int32) (zx : Nat → Int32) (zy : Nat → Int32) (zn : Int32) (K : (Nat → Int32) → (Nat → Int32) → (Nat → Int32) → Int32 → Prop) (pn : Int32) : Nat → (Nat → Int32) → (Nat → Int32) → (Nat → Int32) → Int32 → Prop
  | 0 => fun _ _ _ _ => False
  | k + 1 => fun pd px py v2 => wp_X3_copyFrom_2b zd zx zy zn K (wp_X3_copyFrom_2 zd zx zy zn K pn k) pn pd px py v2
def wp_X3_copyFrom (pd : Nat → Int32) (px : Nat → Int32) (py : Nat → Int32) (pn : Int32) (zd : Nat → Int32) (zx : Nat → Int32) (zy : Nat → Int32) (zn : Int32) (K : (Nat → Int32) → (Nat → Int32) → (Nat → Int32) → Int32 → Prop) : Prop := (∃ k, wp_X3_copyFrom_2 zd zx zy zn K pn k pd px py 0)
/-- X3_turn -/
def wp_X3_turn (px : Nat → Int32) (py : Nat → Int32) (v1 : Int32) (v2 : Int32) (v3 : Int32) (v4 : Int32) (K : Int64 → Prop) : Prop := (vp_in v2 32 ∧ (vp_in v1 32 ∧ (vp_in v2 32 ∧ (vp_in v1 32 ∧ (vp_in v1 32 ∧ (vp_in v1 32 ∧ (K ((((px v2.toNatClampNeg).toInt64 - (px v1.toNatClampNeg).toInt64) * (v4.toInt64 - (py v1.toNatClampNeg).toInt64)) - (((py v2.toNatClampNeg).toInt64 - (py v1.toNatClampNeg).toInt64) * (v3.toInt64 - (px v1.toNatClampNeg).toInt64))))))))))
/-- X3_isBoxed -/
def wp_X3_isBoxed (px : Nat → Int32) (py : Nat → Int32) (v1 : Int32) (v2 : Int32) (v3 : Int32) (v4 : Int32) (K : Int32 → Prop) : Prop := (vp_in v1 32 ∧ (vp_in v2 32 ∧ ((v3 < (if (px v2.toNatClampNeg) < (px v1.toNatClampNeg) then (px v2.toNatClampNeg) else (px v1.toNatClampNeg)) → (K 0)) ∧ (¬ v3 < (if (px v2.toNatClampNeg) < (px v1.toNatClampNeg) then (px v2.toNatClampNeg) else (px v1.toNatClampNeg)) → (vp_in v1 32 ∧ (vp_in v2 32 ∧ (((if (px v1.toNatClampNeg) < (px v2.toNatClampNeg) then (px v2.toNatClampNeg) else (px v1.toNatClampNeg)) < v3 → (K 0)) ∧ (¬ (if (px v1.toNatClampNeg) < (px v2.toNatClampNeg) then (px v2.toNatClampNeg) else (px v1.toNatClampNeg)) < v3 → (vp_in v1 32 ∧ (vp_in v2 32 ∧ ((v4 < (if (py v2.toNatClampNeg) < (py v1.toNatClampNeg) then (py v2.toNatClampNeg) else (py v1.toNatClampNeg)) → (K 0)) ∧ (¬ v4 < (if (py v2.toNatClampNeg) < (py v1.toNatClampNeg) then (py v2.toNatClampNeg) else (py v1.toNatClampNeg)) → (vp_in v1 32 ∧ (vp_in v2 32 ∧ (((if (py v1.toNatClampNeg) < (py v2.toNatClampNeg) then (py v2.toNatClampNeg) else (py v1.toNatClampNeg)) < v4 → (K 0)) ∧ (¬ (if (py v1.toNatClampNeg) < (py v2.toNatClampNeg) then (py v2.toNatClampNeg) else (py v1.toNatClampNeg)) < v4 → (K 1)))))))))))))))))
/-- X3_reach -/
def wp_X3_reach (px : Nat → Int32) (py : Nat → Int32) (v1 : Int32) (v2 : Int32) (v3 : Int32) (K : Int64 → Prop) : Prop := (vp_in v1 32 ∧ (vp_in v1 32 ∧ (K ((v2.toInt64 * (px v1.toNatClampNeg).toInt64) + (v3.toInt64 * (py v1.toNatClampNeg).toInt64)))))
/-- X3_squaredDistance -/
def wp_X3_squaredDistance (px : Nat → Int32) (py : Nat → Int32) (v1 : Int32) (v2 : Int32) (v3 : Int32) (K : Int64 → Prop) : Prop := (vp_in v1 32 ∧ (vp_in v1 32 ∧ (K (((v2.toInt64 - (px v1.toNatClampNeg).toInt64) * (v2.toInt64 - (px v1.toNatClampNeg).toInt64)) + ((v3.toInt64 - (py v1.toNatClampNeg).toInt64) * (v3.toInt64 - (py v1.toNatClampNeg).toInt64))))))
theorem in_X3_idAt_X3 : ∀ w ∈ wsX30, w ∈ wsX3_idAt := fun _ h => List.mem_cons_of_mem _ (List.mem_append_right _ h)
theorem hd_X3_idAt : yX3_idAt.cls = RX3 ∧ yX3_idAt.cls ≠ "java/lang/invoke/MethodHandle" ∧ yX3_idAt.cls ≠ "java/lang/invoke/VarHandle" ∧ (parseMethodDescriptor yX3_idAt.desc).map (fun d => d.parameters.length) = some 1 := by decide +kernel
set_option maxHeartbeats 8000000 in
set_option maxRecDepth 100000 in
theorem c_X3_idAt (l : Launch) (D : va_G) (cI cJ cZ cO : ClassId) (pA pAd pAx pAy : Nat) (pd : Nat → Int32) (px : Nat → Int32) (py : Nat → Int32) (pn : Int32) (v1 : Int32) (K : Int32 → Prop) (hw : wp_X3_idAt pd pn v1 K) : Ci l D (tys4 cI cJ cZ cO) yX3_idAt wsX3_idAt { frames := 0, cells := 0, slots := 0, locals := 0 } [.ref pA, .int v1] [(pA, .inr (2, [.ref pAd, .ref pAx, .ref pAy, .int pn])), (pAd, .inl (cI, 32, .inl pd)), (pAx, .inl (cI, 32, .inl px)), (pAy, .inl (cI, 32, .inl py))] (fun (r : Int32) (_ : Unit) => K r) (fun _ => [(pA, .inr (2, [.ref pAd, .ref pAx, .ref pAy, .int pn])), (pAd, .inl (cI, 32, .inl pd)), (pAx, .inl (cI, 32, .inl px)), (pAy, .inl (cI, 32, .inl py))]) := by
  refine mt_i (cc := cX3_idAt) (maxL := 2) (rt := .int) (by decide) rfl (Nat.le_of_ble_eq_true rfl) ?_
  intro p e s m args below meth c Q A R ls hRf hRl hx hb hml hown hts hK hA hP hD hS hl ret
  have hown : s.vm.findClass RX3 = some m.cls := hown
  have hl : lv_has ls 2 [(0, .ref pA), (1, .int v1)] := hl
  unfold wp_X3_idAt at hw
  refine lv_iload_n hx hb dX3_idAt_0 rfl (lv_at hl 1 rfl) ?_
  obtain ⟨hwA, hwB⟩ := hw
  refine lv_if_lt (tgt := 21) hx hb dX3_idAt_1 (by decide) (fun cb => ?_) (fun cb => ?_)
  · have hw := hwA cb
    refine lv_bipush (v := (-6)) hx hb dX3_idAt_21 (by decide) ?_
    exact ret _ _ _ _ (-6) () (vp_nar_int _) hw hP hD hS dX3_idAt_23
  · have hw := hwB cb
    refine lv_iload_n hx hb dX3_idAt_4 rfl (lv_at hl 1 rfl) ?_
    refine lv_aload_n hx hb dX3_idAt_5 rfl (lv_at hl 0 rfl) ?_
    refine va_get (D := D) (ci := 2) (v := .int pn) (C := RX3) (T := TX3) (N := 4) hx hb hts in_X3_idAt_X3 hown hK hP 0 rfl rfl 3 (by decide) (hts (.fieldLink RX3 21 "LiveHull$Points" "count" "I") (List.mem_of_getElem? (i := 1) rfl)) (fun _ h9 => h9) rfl dX3_idAt_6 ?_
    obtain ⟨hwA, hwB⟩ := hw
    refine lv_icmp_ge (tgt := 21) hx hb dX3_idAt_9 (by decide) (fun cb => ?_) (fun cb => ?_)
    · have hw := hwA cb
      refine lv_bipush (v := (-6)) hx hb dX3_idAt_21 (by decide) ?_
      exact ret _ _ _ _ (-6) () (vp_nar_int _) hw hP hD hS dX3_idAt_23
    · have hw := hwB cb
      refine lv_aload_n hx hb dX3_idAt_12 rfl (lv_at hl 0 rfl) ?_
      refine va_get (D := D) (ci := 2) (v := .ref pAd) (C := RX3) (T := TX3) (N := 4) hx hb hts in_X3_idAt_X3 hown hK hP 0 rfl rfl 0 (by decide) (hts (.fieldLink RX3 9 "LiveHull$Points" "ids" "[I") (List.mem_of_getElem? (i := 2) rfl)) (fun _ h9 => h9) rfl dX3_idAt_13 ?_
      refine lv_iload_n hx hb dX3_idAt_16 rfl (lv_at hl 1 rfl) ?_
      obtain ⟨hi, hw⟩ := hw
      refine va_iald hx hb hK hP 1 0 rfl rfl hi dX3_idAt_17 ?_
      refine lv_goto (tgt := 23) hx hb dX3_idAt_18 (by decide) ?_
      exact ret _ _ _ _ (pd v1.toNatClampNeg) () (vp_nar_int _) hw hP hD hS dX3_idAt_23
theorem in_X3_rankOf_X3 : ∀ w ∈ wsX30, w ∈ wsX3_rankOf := fun _ h => List.mem_cons_of_mem _ (List.mem_append_right _ h)
theorem hd_X3_rankOf : yX3_rankOf.cls = RX3 ∧ yX3_rankOf.cls ≠ "java/lang/invoke/MethodHandle" ∧ yX3_rankOf.cls ≠ "java/lang/invoke/VarHandle" ∧ (parseMethodDescriptor yX3_rankOf.desc).map (fun d => d.parameters.length) = some 1 := by decide +kernel
set_option maxHeartbeats 8000000 in
set_option maxRecDepth 100000 in
theorem c_X3_rankOf (l : Launch) (D : va_G) (cI cJ cZ cO : ClassId) (pA pAd pAx pAy : Nat) (pd : Nat → Int32) (px : Nat → Int32) (py : Nat → Int32) (pn : Int32) (v1 : Int32) (K : Int32 → Prop) (hw : wp_X3_rankOf pd pn v1 K) : Ci l D (tys4 cI cJ cZ cO) yX3_rankOf wsX3_rankOf { frames := 0, cells := 0, slots := 0, locals := 0 } [.ref pA, .int v1] [(pA, .inr (2, [.ref pAd, .ref pAx, .ref pAy, .int pn])), (pAd, .inl (cI, 32, .inl pd)), (pAx, .inl (cI, 32, .inl px)), (pAy, .inl (cI, 32, .inl py))] (fun (r : Int32) (_ : Unit) => K r) (fun _ => [(pA, .inr (2, [.ref pAd, .ref pAx, .ref pAy, .int pn])), (pAd, .inl (cI, 32, .inl pd)), (pAx, .inl (cI, 32, .inl px)), (pAy, .inl (cI, 32, .inl py))]) := by
  refine mt_i (cc := cX3_rankOf) (maxL := 3) (rt := .int) (by decide) rfl (Nat.le_of_ble_eq_true rfl) ?_
  intro p e s m args below meth c Q A R ls hRf hRl hx hb hml hown hts hK hA hP hD hS hl ret
  have hown : s.vm.findClass RX3 = some m.cls := hown
  have hl : lv_has ls 3 [(0, .ref pA), (1, .int v1)] := hl
  have N2 : ∀  (k : Nat) (v2 : Int32), wp_X3_rankOf_2 pd pn v1 K  k v2 → ∀ (H : Heap) (locs : List Loc) (ls : Array Slot), va_P D vwCl [(pA, .inr (2, [.ref pAd, .ref pAx, .ref pAy, .int pn])), (pAd, .inl (cI, 32, .inl pd)), (pAx, .inl (cI, 32, .inl px)), (pAy, .inl (cI, 32, .inl py))] H → va_D A [(pA, .inr (2, [.ref pAd, .ref pAx, .ref pAy, .int pn])), (pAd, .inl (cI, 32, .inl pd)), (pAx, .inl (cI, 32, .inl px)), (pAy, .inl (cI, 32, .inl py))] → va_S A s.heap H locs → lv_has ls 3 [(0, .ref pA), (1, .int v1), (2, .int v2)] → W p l e R s m args below meth c H locs 0 0 Q (F0 m 2 ls []) := by
    intro k
    induction k with
    | zero => intro v2 hw; exact False.elim hw
    | succ k ih2 =>
      intro v2 hw H locs ls hP hD hS hl
      have hw : wp_X3_rankOf_2b pd pn v1 K (wp_X3_rankOf_2 pd pn v1 K  k)  v2 := hw
      unfold wp_X3_rankOf_2b at hw
      generalize wp_X3_rankOf_2 pd pn v1 K  k = L2 at hw ih2
      refine lv_iload_n hx hb dX3_rankOf_2 rfl (lv_at hl 2 rfl) ?_
      refine lv_aload_n hx hb dX3_rankOf_3 rfl (lv_at hl 0 rfl) ?_
      refine va_get (D := D) (ci := 2) (v := .int pn) (C := RX3) (T := TX3) (N := 4) hx hb hts in_X3_rankOf_X3 hown hK hP 0 rfl rfl 3 (by decide) (hts (.fieldLink RX3 21 "LiveHull$Points" "count" "I") (List.mem_of_getElem? (i := 1) rfl)) (fun _ h9 => h9) rfl dX3_rankOf_4 ?_
      obtain ⟨hwA, hwB⟩ := hw
      refine lv_icmp_ge (tgt := 28) hx hb dX3_rankOf_7 (by decide) (fun cb => ?_) (fun cb => ?_)
      · have hw := hwA cb
        refine lv_bipush (v := (-6)) hx hb dX3_rankOf_28 (by decide) ?_
        exact ret _ _ _ _ (-6) () (vp_nar_int _) hw hP hD hS dX3_rankOf_30
      · have hw := hwB cb
        refine lv_aload_n hx hb dX3_rankOf_10 rfl (lv_at hl 0 rfl) ?_
        refine va_get (D := D) (ci := 2) (v := .ref pAd) (C := RX3) (T := TX3) (N := 4) hx hb hts in_X3_rankOf_X3 hown hK hP 0 rfl rfl 0 (by decide) (hts (.fieldLink RX3 9 "LiveHull$Points" "ids" "[I") (List.mem_of_getElem? (i := 2) rfl)) (fun _ h9 => h9) rfl dX3_rankOf_11 ?_
        refine lv_iload_n hx hb dX3_rankOf_14 rfl (lv_at hl 2 rfl) ?_
        obtain ⟨hi, hw⟩ := hw
        refine va_iald hx hb hK hP 1 0 rfl rfl hi dX3_rankOf_15 ?_
        refine lv_iload_n hx hb dX3_rankOf_16 rfl (lv_at hl 1 rfl) ?_
        obtain ⟨hwA, hwB⟩ := hw
        refine lv_icmp_ne (tgt := 22) hx hb dX3_rankOf_17 (by decide) (fun cb => ?_) (fun cb => ?_)
        · have hw := hwA cb
          refine lv_iinc (v := (v2 + 1)) (lv' := [(2, .int (v2 + 1)), (0, .ref pA), (1, .int v1)]) hx hb dX3_rankOf_22 hl (k := 2) rfl rfl (by decide) rfl (fun ls hl => ?_)
          refine lv_goto (tgt := 2) hx hb dX3_rankOf_25 (by decide) ?_
          exact ih2 (v2 + 1) hw _ _ _ hP hD hS (lv_sub hl [1, 2, 0] rfl)
        · have hw := hwB cb
          refine lv_iload_n hx hb dX3_rankOf_20 rfl (lv_at hl 2 rfl) ?_
          exact ret _ _ _ _ v2 () (vp_nar_int _) hw hP hD hS dX3_rankOf_21
  unfold wp_X3_rankOf at hw
  refine lv_iconst (v := 0) hx hb dX3_rankOf_0 (by decide) ?_
  refine lv_istore_n (lv' := [(2, .int 0), (0, .ref pA), (1, .int v1)]) hx hb dX3_rankOf_1 rfl hl (by decide) rfl (fun ls hl => ?_)
  obtain ⟨k, hw⟩ := hw
  exact N2  k 0 hw _ _ _ hP hD hS (lv_sub hl [1, 2, 0] rfl)
theorem in_X3_isAt_X3 : ∀ w ∈ wsX30, w ∈ wsX3_isAt := fun _ h => List.mem_cons_of_mem _ (List.mem_append_right _ h)
theorem hd_X3_isAt : yX3_isAt.cls = RX3 ∧ yX3_isAt.cls ≠ "java/lang/invoke/MethodHandle" ∧ yX3_isAt.cls ≠ "java/lang/invoke/VarHandle" ∧ (parseMethodDescriptor yX3_isAt.desc).map (fun d => d.parameters.length) = some 3 := by decide +kernel
set_option maxHeartbeats 8000000 in
set_option maxRecDepth 100000 in
theorem c_X3_isAt (l : Launch) (D : va_G) (cI cJ cZ cO : ClassId) (pA pAd pAx pAy : Nat) (pd : Nat → Int32) (px : Nat → Int32) (py : Nat → Int32) (pn : Int32) (v1 : Int32) (v2 : Int32) (v3 : Int32) (K : Int32 → Prop) (hw : wp_X3_isAt px py v1 v2 v3 K) : Ci l D (tys4 cI cJ cZ cO) yX3_isAt wsX3_isAt { frames := 0, cells := 0, slots := 0, locals := 0 } [.ref pA, .int v1, .int v2, .int v3] [(pA, .inr (2, [.ref pAd, .ref pAx, .ref pAy, .int pn])), (pAd, .inl (cI, 32, .inl pd)), (pAx, .inl (cI, 32, .inl px)), (pAy, .inl (cI, 32, .inl py))] (fun (r : Int32) (_ : Unit) => K r) (fun _ => [(pA, .inr (2, [.ref pAd, .ref pAx, .ref pAy, .int pn])), (pAd, .inl (cI, 32, .inl pd)), (pAx, .inl (cI, 32, .inl px)), (pAy, .inl (cI, 32, .inl py))]) := by
  refine mt_i (cc := cX3_isAt) (maxL := 4) (rt := .boolean) (by decide) rfl (Nat.le_of_ble_eq_true rfl) ?_
  intro p e s m args below meth c Q A R ls hRf hRl hx hb hml hown hts hK hA hP hD hS hl ret
  have hown : s.vm.findClass RX3 = some m.cls := hown
  have hl : lv_has ls 4 [(0, .ref pA), (1, .int v1), (2, .int v2), (3, .int v3)] := hl
  unfold wp_X3_isAt at hw
  refine lv_aload_n hx hb dX3_isAt_0 rfl (lv_at hl 0 rfl) ?_
  refine va_get (D := D) (ci := 2) (v := .ref pAx) (C := RX3) (T := TX3) (N := 4) hx hb hts in_X3_isAt_X3 hown hK hP 0 rfl rfl 1 (by decide) (hts (.fieldLink RX3 15 "LiveHull$Points" "xs" "[I") (List.mem_of_getElem? (i := 1) rfl)) (fun _ h9 => h9) rfl dX3_isAt_1 ?_
  refine lv_iload_n hx hb dX3_isAt_4 rfl (lv_at hl 1 rfl) ?_
  obtain ⟨hi, hw⟩ := hw
  refine va_iald hx hb hK hP 2 0 rfl rfl hi dX3_isAt_5 ?_
  refine lv_iload_n hx hb dX3_isAt_6 rfl (lv_at hl 2 rfl) ?_
  obtain ⟨hwA, hwB⟩ := hw
  refine lv_icmp_ne (tgt := 24) hx hb dX3_isAt_7 (by decide) (fun cb => ?_) (fun cb => ?_)
  · have hw := hwA cb
    refine lv_iconst (v := 0) hx hb dX3_isAt_24 (by decide) ?_
    exact ret _ _ _ _ 0 () rfl hw hP hD hS dX3_isAt_25
  · have hw := hwB cb
    refine lv_aload_n hx hb dX3_isAt_10 rfl (lv_at hl 0 rfl) ?_
    refine va_get (D := D) (ci := 2) (v := .ref pAy) (C := RX3) (T := TX3) (N := 4) hx hb hts in_X3_isAt_X3 hown hK hP 0 rfl rfl 2 (by decide) (hts (.fieldLink RX3 18 "LiveHull$Points" "ys" "[I") (List.mem_of_getElem? (i := 2) rfl)) (fun _ h9 => h9) rfl dX3_isAt_11 ?_
    refine lv_iload_n hx hb dX3_isAt_14 rfl (lv_at hl 1 rfl) ?_
    obtain ⟨hi, hw⟩ := hw
    refine va_iald hx hb hK hP 3 0 rfl rfl hi dX3_isAt_15 ?_
    refine lv_iload_n hx hb dX3_isAt_16 rfl (lv_at hl 3 rfl) ?_
    obtain ⟨hwA, hwB⟩ := hw
    refine lv_icmp_ne (tgt := 24) hx hb dX3_isAt_17 (by decide) (fun cb => ?_) (fun cb => ?_)
    · have hw := hwA cb
      refine lv_iconst (v := 0) hx hb dX3_isAt_24 (by decide) ?_
      exact ret _ _ _ _ 0 () rfl hw hP hD hS dX3_isAt_25
    · have hw := hwB cb
      refine lv_iconst (v := 1) hx hb dX3_isAt_20 (by decide) ?_
      refine lv_goto (tgt := 25) hx hb dX3_isAt_21 (by decide) ?_
      exact ret _ _ _ _ 1 () rfl hw hP hD hS dX3_isAt_25
theorem in_X3_isTaken_X3 : ∀ w ∈ wsX30, w ∈ wsX3_isTaken := fun _ h => List.mem_cons_of_mem _ (List.mem_append_right _ h)
theorem hd_X3_isTaken : yX3_isTaken.cls = RX3 ∧ yX3_isTaken.cls ≠ "java/lang/invoke/MethodHandle" ∧ yX3_isTaken.cls ≠ "java/lang/invoke/VarHandle" ∧ (parseMethodDescriptor yX3_isTaken.desc).map (fun d => d.parameters.length) = some 2 := by decide +kernel
set_option maxHeartbeats 8000000 in
set_option maxRecDepth 100000 in
theorem c_X3_isTaken (l : Launch) (D : va_G) (cI cJ cZ cO : ClassId) (pA pAd pAx pAy : Nat) (pd : Nat → Int32) (px : Nat → Int32) (py : Nat → Int32) (pn : Int32) (v1 : Int32) (v2 : Int32) (K : Int32 → Prop) (hw : wp_X3_isTaken px py pn v1 v2 K) : Ci l D (tys4 cI cJ cZ cO) yX3_isTaken wsX3_isTaken { frames := 1, cells := 0, slots := 0, locals := 23 } [.ref pA, .int v1, .int v2] [(pA, .inr (2, [.ref pAd, .ref pAx, .ref pAy, .int pn])), (pAd, .inl (cI, 32, .inl pd)), (pAx, .inl (cI, 32, .inl px)), (pAy, .inl (cI, 32, .inl py))] (fun (r : Int32) (_ : Unit) => K r) (fun _ => [(pA, .inr (2, [.ref pAd, .ref pAx, .ref pAy, .int pn])), (pAd, .inl (cI, 32, .inl pd)), (pAx, .inl (cI, 32, .inl px)), (pAy, .inl (cI, 32, .inl py))]) := by
  refine mt_i (cc := cX3_isTaken) (maxL := 4) (rt := .boolean) (by decide) rfl (Nat.le_of_ble_eq_true rfl) ?_
  intro p e s m args below meth c Q A R ls hRf hRl hx hb hml hown hts hK hA hP hD hS hl ret
  have hown : s.vm.findClass RX3 = some m.cls := hown
  have hl : lv_has ls 4 [(0, .ref pA), (1, .int v1), (2, .int v2)] := hl
  have N2 : ∀  (k : Nat) (v3 : Int32), wp_X3_isTaken_2 px py pn v1 v2 K  k v3 → ∀ (H : Heap) (locs : List Loc) (ls : Array Slot), va_P D vwCl [(pA, .inr (2, [.ref pAd, .ref pAx, .ref pAy, .int pn])), (pAd, .inl (cI, 32, .inl pd)), (pAx, .inl (cI, 32, .inl px)), (pAy, .inl (cI, 32, .inl py))] H → va_D A [(pA, .inr (2, [.ref pAd, .ref pAx, .ref pAy, .int pn])), (pAd, .inl (cI, 32, .inl pd)), (pAx, .inl (cI, 32, .inl px)), (pAy, .inl (cI, 32, .inl py))] → va_S A s.heap H locs → lv_has ls 4 [(0, .ref pA), (1, .int v1), (2, .int v2), (3, .int v3)] → W p l e R s m args below meth c H locs 0 0 Q (F0 m 2 ls []) := by
    intro k
    induction k with
    | zero => intro v3 hw; exact False.elim hw
    | succ k ih2 =>
      intro v3 hw H locs ls hP hD hS hl
      have hw : wp_X3_isTaken_2b px py pn v1 v2 K (wp_X3_isTaken_2 px py pn v1 v2 K  k)  v3 := hw
      unfold wp_X3_isTaken_2b at hw
      generalize wp_X3_isTaken_2 px py pn v1 v2 K  k = L2 at hw ih2
      refine lv_iload_n hx hb dX3_isTaken_2 rfl (lv_at hl 3 rfl) ?_
      refine lv_aload_n hx hb dX3_isTaken_3 rfl (lv_at hl 0 rfl) ?_
      refine va_get (D := D) (ci := 2) (v := .int pn) (C := RX3) (T := TX3) (N := 4) hx hb hts in_X3_isTaken_X3 hown hK hP 0 rfl rfl 3 (by decide) (hts (.fieldLink RX3 21 "LiveHull$Points" "count" "I") (List.mem_of_getElem? (i := 1) rfl)) (fun _ h9 => h9) rfl dX3_isTaken_4 ?_
      obtain ⟨hwA, hwB⟩ := hw
      refine lv_icmp_ge (tgt := 28) hx hb dX3_isTaken_7 (by decide) (fun cb => ?_) (fun cb => ?_)
      · have hw := hwA cb
        refine lv_iconst (v := 0) hx hb dX3_isTaken_28 (by decide) ?_
        exact ret _ _ _ _ 0 () rfl hw hP hD hS dX3_isTaken_29
      · have hw := hwB cb
        refine lv_aload_n hx hb dX3_isTaken_10 rfl (lv_at hl 0 rfl) ?_
        refine lv_iload_n hx hb dX3_isTaken_11 rfl (lv_at hl 3 rfl) ?_
        refine lv_iload_n hx hb dX3_isTaken_12 rfl (lv_at hl 1 rfl) ?_
        refine lv_iload_n hx hb dX3_isTaken_13 rfl (lv_at hl 2 rfl) ?_
        refine cl_Vi (As := [.int v3, .int v1, .int v2]) (rest := []) ⟨hx, hb, hml, hown, hts⟩ (c_X3_isAt l D cI cJ cZ cO pA pAd pAx pAy pd px py pn v3 v1 v2 _ hw) (cwV 3 hts gX3_isTaken_X3_isAt rfl rfl rfl hd_X3_isAt ⟨Nat.le_trans (Nat.le_of_ble_eq_true rfl) hRf, Nat.le_trans (Nat.le_of_ble_eq_true rfl) hRl⟩) hK hP hD hS hA [0, 1, 2, 3] [] rfl (by decide) rfl (by decide) (by decide) 0 2 rfl rfl rfl hl.1 rfl (Nat.le_of_ble_eq_true rfl) dX3_isTaken_14 ⟨Nat.zero_le _, Nat.zero_le _⟩ (fun r14 _u H locs hw hP hD hS => ?_)
        try dsimp only at hw
        have hP : va_P D vwCl [(pA, .inr (2, [.ref pAd, .ref pAx, .ref pAy, .int pn])), (pAd, .inl (cI, 32, .inl pd)), (pAx, .inl (cI, 32, .inl px)), (pAy, .inl (cI, 32, .inl py))] H := hP.sub [0, 1, 2, 3] rfl
        have hD : va_D A [(pA, .inr (2, [.ref pAd, .ref pAx, .ref pAy, .int pn])), (pAd, .inl (cI, 32, .inl pd)), (pAx, .inl (cI, 32, .inl px)), (pAy, .inl (cI, 32, .inl py))] := hD.sub [0, 1, 2, 3] (by decide) rfl
        obtain ⟨hwA, hwB⟩ := hw
        refine lv_if_eq (tgt := 22) hx hb dX3_isTaken_17 (by decide) (fun cb => ?_) (fun cb => ?_)
        · have hw := hwA cb
          refine lv_iinc (v := (v3 + 1)) (lv' := [(3, .int (v3 + 1)), (0, .ref pA), (1, .int v1), (2, .int v2)]) hx hb dX3_isTaken_22 hl (k := 3) rfl rfl (by decide) rfl (fun ls hl => ?_)
          refine lv_goto (tgt := 2) hx hb dX3_isTaken_25 (by decide) ?_
          exact ih2 (v3 + 1) hw _ _ _ hP hD hS (lv_sub hl [1, 2, 3, 0] rfl)
        · have hw := hwB cb
          refine lv_iconst (v := 1) hx hb dX3_isTaken_20 (by decide) ?_
          exact ret _ _ _ _ 1 () rfl hw hP hD hS dX3_isTaken_21
  unfold wp_X3_isTaken at hw
  refine lv_iconst (v := 0) hx hb dX3_isTaken_0 (by decide) ?_
  refine lv_istore_n (lv' := [(3, .int 0), (0, .ref pA), (1, .int v1), (2, .int v2)]) hx hb dX3_isTaken_1 rfl hl (by decide) rfl (fun ls hl => ?_)
  obtain ⟨k, hw⟩ := hw
  exact N2  k 0 hw _ _ _ hP hD hS (lv_sub hl [1, 2, 3, 0] rfl)
theorem hd_X3_leastFreeId : yX3_leastFreeId.cls = RX3 ∧ yX3_leastFreeId.cls ≠ "java/lang/invoke/MethodHandle" ∧ yX3_leastFreeId.cls ≠ "java/lang/invoke/VarHandle" ∧ (parseMethodDescriptor yX3_leastFreeId.desc).map (fun d => d.parameters.length) = some 0 := by decide +kernel
set_option maxHeartbeats 8000000 in
set_option maxRecDepth 100000 in
theorem c_X3_leastFreeId (l : Launch) (D : va_G) (cI cJ cZ cO : ClassId) (pA pAd pAx pAy : Nat) (pd : Nat → Int32) (px : Nat → Int32) (py : Nat → Int32) (pn : Int32)  (K : Int32 → Prop) (hw : wp_X3_leastFreeId pd pn K) : Ci l D (tys4 cI cJ cZ cO) yX3_leastFreeId wsX3_leastFreeId { frames := 1, cells := 0, slots := 0, locals := 22 } [.ref pA] [(pA, .inr (2, [.ref pAd, .ref pAx, .ref pAy, .int pn])), (pAd, .inl (cI, 32, .inl pd)), (pAx, .inl (cI, 32, .inl px)), (pAy, .inl (cI, 32, .inl py))] (fun (r : Int32) (_ : Unit) => K r) (fun _ => [(pA, .inr (2, [.ref pAd, .ref pAx, .ref pAy, .int pn])), (pAd, .inl (cI, 32, .inl pd)), (pAx, .inl (cI, 32, .inl px)), (pAy, .inl (cI, 32, .inl py))]) := by
  refine mt_i (cc := cX3_leastFreeId) (maxL := 2) (rt := .int) (by decide) rfl (Nat.le_of_ble_eq_true rfl) ?_
  intro p e s m args below meth c Q A R ls hRf hRl hx hb hml hown hts hK hA hP hD hS hl ret
  have hown : s.vm.findClass RX3 = some m.cls := hown
  have hl : lv_has ls 2 [(0, .ref pA)] := hl
  have N2 : ∀  (k : Nat) (v1 : Int32), wp_X3_leastFreeId_2 pd pn K  k v1 → ∀ (H : Heap) (locs : List Loc) (ls : Array Slot), va_P D vwCl [(pA, .inr (2, [.ref pAd, .ref pAx, .ref pAy, .int pn])), (pAd, .inl (cI, 32, .inl pd)), (pAx, .inl (cI, 32, .inl px)), (pAy, .inl (cI, 32, .inl py))] H → va_D A [(pA, .inr (2, [.ref pAd, .ref pAx, .ref pAy, .int pn])), (pAd, .inl (cI, 32, .inl pd)), (pAx, .inl (cI, 32, .inl px)), (pAy, .inl (cI, 32, .inl py))] → va_S A s.heap H locs → lv_has ls 2 [(0, .ref pA), (1, .int v1)] → W p l e R s m args below meth c H locs 0 0 Q (F0 m 2 ls []) := by
    intro k
    induction k with
    | zero => intro v1 hw; exact False.elim hw
    | succ k ih2 =>
      intro v1 hw H locs ls hP hD hS hl
      have hw : wp_X3_leastFreeId_2b pd pn K (wp_X3_leastFreeId_2 pd pn K  k)  v1 := hw
      unfold wp_X3_leastFreeId_2b at hw
      generalize wp_X3_leastFreeId_2 pd pn K  k = L2 at hw ih2
      refine lv_iload_n hx hb dX3_leastFreeId_2 rfl (lv_at hl 1 rfl) ?_
      refine lv_bipush (v := 32) hx hb dX3_leastFreeId_3 (by decide) ?_
      obtain ⟨hwA, hwB⟩ := hw
      refine lv_icmp_ge (tgt := 26) hx hb dX3_leastFreeId_5 (by decide) (fun cb => ?_) (fun cb => ?_)
      · have hw := hwA cb
        refine lv_bipush (v := (-6)) hx hb dX3_leastFreeId_26 (by decide) ?_
        exact ret _ _ _ _ (-6) () (vp_nar_int _) hw hP hD hS dX3_leastFreeId_28
      · have hw := hwB cb
        refine lv_aload_n hx hb dX3_leastFreeId_8 rfl (lv_at hl 0 rfl) ?_
        refine lv_iload_n hx hb dX3_leastFreeId_9 rfl (lv_at hl 1 rfl) ?_
        refine cl_Vi (As := [.int v1]) (rest := []) ⟨hx, hb, hml, hown, hts⟩ (c_X3_rankOf l D cI cJ cZ cO pA pAd pAx pAy pd px py pn v1 _ hw) (cwV 1 hts gX3_leastFreeId_X3_rankOf rfl rfl rfl hd_X3_rankOf ⟨Nat.le_trans (Nat.le_of_ble_eq_true rfl) hRf, Nat.le_trans (Nat.le_of_ble_eq_true rfl) hRl⟩) hK hP hD hS hA [0, 1, 2, 3] [] rfl (by decide) rfl (by decide) (by decide) 0 2 rfl rfl rfl hl.1 rfl (Nat.le_of_ble_eq_true rfl) dX3_leastFreeId_10 ⟨Nat.zero_le _, Nat.zero_le _⟩ (fun r10 _u H locs hw hP hD hS => ?_)
        try dsimp only at hw
        have hP : va_P D vwCl [(pA, .inr (2, [.ref pAd, .ref pAx, .ref pAy, .int pn])), (pAd, .inl (cI, 32, .inl pd)), (pAx, .inl (cI, 32, .inl px)), (pAy, .inl (cI, 32, .inl py))] H := hP.sub [0, 1, 2, 3] rfl
        have hD : va_D A [(pA, .inr (2, [.ref pAd, .ref pAx, .ref pAy, .int pn])), (pAd, .inl (cI, 32, .inl pd)), (pAx, .inl (cI, 32, .inl px)), (pAy, .inl (cI, 32, .inl py))] := hD.sub [0, 1, 2, 3] (by decide) rfl
        refine lv_bipush (v := (-6)) hx hb dX3_leastFreeId_13 (by decide) ?_
        obtain ⟨hwA, hwB⟩ := hw
        refine lv_icmp_ne (tgt := 20) hx hb dX3_leastFreeId_15 (by decide) (fun cb => ?_) (fun cb => ?_)
        · have hw := hwA cb
          refine lv_iinc (v := (v1 + 1)) (lv' := [(1, .int (v1 + 1)), (0, .ref pA)]) hx hb dX3_leastFreeId_20 hl (k := 1) rfl rfl (by decide) rfl (fun ls hl => ?_)
          refine lv_goto (tgt := 2) hx hb dX3_leastFreeId_23 (by decide) ?_
          exact ih2 (v1 + 1) hw _ _ _ hP hD hS (lv_sub hl [1, 0] rfl)
        · have hw := hwB cb
          refine lv_iload_n hx hb dX3_leastFreeId_18 rfl (lv_at hl 1 rfl) ?_
          exact ret _ _ _ _ v1 () (vp_nar_int _) hw hP hD hS dX3_leastFreeId_19
  unfold wp_X3_leastFreeId at hw
  refine lv_iconst (v := 0) hx hb dX3_leastFreeId_0 (by decide) ?_
  refine lv_istore_n (lv' := [(1, .int 0), (0, .ref pA)]) hx hb dX3_leastFreeId_1 rfl hl (by decide) rfl (fun ls hl => ?_)
  obtain ⟨k, hw⟩ := hw
  exact N2  k 0 hw _ _ _ hP hD hS (lv_sub hl [1, 0] rfl)
theorem in_X3_isBefore_X3 : ∀ w ∈ wsX30, w ∈ wsX3_isBefore := fun _ h => List.mem_cons_of_mem _ (List.mem_append_right _ h)
theorem hd_X3_isBefore : yX3_isBefore.cls = RX3 ∧ yX3_isBefore.cls ≠ "java/lang/invoke/MethodHandle" ∧ yX3_isBefore.cls ≠ "java/lang/invoke/VarHandle" ∧ (parseMethodDescriptor yX3_isBefore.desc).map (fun d => d.parameters.length) = some 3 := by decide +kernel
set_option maxHeartbeats 8000000 in
set_option maxRecDepth 100000 in
theorem c_X3_isBefore (l : Launch) (D : va_G) (cI cJ cZ cO : ClassId) (pA pAd pAx pAy : Nat) (pd : Nat → Int32) (px : Nat → Int32) (py : Nat → Int32) (pn : Int32) (v1 : Int32) (v2 : Int32) (v3 : Int32) (K : Int32 → Prop) (hw : wp_X3_isBefore px py v1 v2 v3 K) : Ci l D (tys4 cI cJ cZ cO) yX3_isBefore wsX3_isBefore { frames := 0, cells := 0, slots := 0, locals := 0 } [.ref pA, .int v1, .int v2, .int v3] [(pA, .inr (2, [.ref pAd, .ref pAx, .ref pAy, .int pn])), (pAd, .inl (cI, 32, .inl pd)), (pAx, .inl (cI, 32, .inl px)), (pAy, .inl (cI, 32, .inl py))] (fun (r : Int32) (_ : Unit) => K r) (fun _ => [(pA, .inr (2, [.ref pAd, .ref pAx, .ref pAy, .int pn])), (pAd, .inl (cI, 32, .inl pd)), (pAx, .inl (cI, 32, .inl px)), (pAy, .inl (cI, 32, .inl py))]) := by
  refine mt_i (cc := cX3_isBefore) (maxL := 4) (rt := .boolean) (by decide) rfl (Nat.le_of_ble_eq_true rfl) ?_
  intro p e s m args below meth c Q A R ls hRf hRl hx hb hml hown hts hK hA hP hD hS hl ret
  have hown : s.vm.findClass RX3 = some m.cls := hown
  have hl : lv_has ls 4 [(0, .ref pA), (1, .int v1), (2, .int v2), (3, .int v3)] := hl
  unfold wp_X3_isBefore at hw
  refine lv_iload_n hx hb dX3_isBefore_0 rfl (lv_at hl 1 rfl) ?_
  refine lv_aload_n hx hb dX3_isBefore_1 rfl (lv_at hl 0 rfl) ?_
  refine va_get (D := D) (ci := 2) (v := .ref pAx) (C := RX3) (T := TX3) (N := 4) hx hb hts in_X3_isBefore_X3 hown hK hP 0 rfl rfl 1 (by decide) (hts (.fieldLink RX3 15 "LiveHull$Points" "xs" "[I") (List.mem_of_getElem? (i := 1) rfl)) (fun _ h9 => h9) rfl dX3_isBefore_2 ?_
  refine lv_iload_n hx hb dX3_isBefore_5 rfl (lv_at hl 3 rfl) ?_
  obtain ⟨hi, hw⟩ := hw
  refine va_iald hx hb hK hP 2 0 rfl rfl hi dX3_isBefore_6 ?_
  obtain ⟨hwA, hwB⟩ := hw
  refine lv_icmp_lt (tgt := 30) hx hb dX3_isBefore_7 (by decide) (fun cb => ?_) (fun cb => ?_)
  · have hw := hwA cb
    refine lv_iconst (v := 1) hx hb dX3_isBefore_30 (by decide) ?_
    refine lv_goto (tgt := 35) hx hb dX3_isBefore_31 (by decide) ?_
    exact ret _ _ _ _ 1 () rfl hw hP hD hS dX3_isBefore_35
  · have hw := hwB cb
    refine lv_iload_n hx hb dX3_isBefore_10 rfl (lv_at hl 1 rfl) ?_
    refine lv_aload_n hx hb dX3_isBefore_11 rfl (lv_at hl 0 rfl) ?_
    refine va_get (D := D) (ci := 2) (v := .ref pAx) (C := RX3) (T := TX3) (N := 4) hx hb hts in_X3_isBefore_X3 hown hK hP 0 rfl rfl 1 (by decide) (hts (.fieldLink RX3 15 "LiveHull$Points" "xs" "[I") (List.mem_of_getElem? (i := 1) rfl)) (fun _ h9 => h9) rfl dX3_isBefore_12 ?_
    refine lv_iload_n hx hb dX3_isBefore_15 rfl (lv_at hl 3 rfl) ?_
    obtain ⟨hi, hw⟩ := hw
    refine va_iald hx hb hK hP 2 0 rfl rfl hi dX3_isBefore_16 ?_
    obtain ⟨hwA, hwB⟩ := hw
    refine lv_icmp_ne (tgt := 34) hx hb dX3_isBefore_17 (by decide) (fun cb => ?_) (fun cb => ?_)
    · have hw := hwA cb
      refine lv_iconst (v := 0) hx hb dX3_isBefore_34 (by decide) ?_
      exact ret _ _ _ _ 0 () rfl hw hP hD hS dX3_isBefore_35
    · have hw := hwB cb
      refine lv_iload_n hx hb dX3_isBefore_20 rfl (lv_at hl 2 rfl) ?_
      refine lv_aload_n hx hb dX3_isBefore_21 rfl (lv_at hl 0 rfl) ?_
      refine va_get (D := D) (ci := 2) (v := .ref pAy) (C := RX3) (T := TX3) (N := 4) hx hb hts in_X3_isBefore_X3 hown hK hP 0 rfl rfl 2 (by decide) (hts (.fieldLink RX3 18 "LiveHull$Points" "ys" "[I") (List.mem_of_getElem? (i := 2) rfl)) (fun _ h9 => h9) rfl dX3_isBefore_22 ?_
      refine lv_iload_n hx hb dX3_isBefore_25 rfl (lv_at hl 3 rfl) ?_
      obtain ⟨hi, hw⟩ := hw
      refine va_iald hx hb hK hP 3 0 rfl rfl hi dX3_isBefore_26 ?_
      obtain ⟨hwA, hwB⟩ := hw
      refine lv_icmp_ge (tgt := 34) hx hb dX3_isBefore_27 (by decide) (fun cb => ?_) (fun cb => ?_)
      · have hw := hwA cb
        refine lv_iconst (v := 0) hx hb dX3_isBefore_34 (by decide) ?_
        exact ret _ _ _ _ 0 () rfl hw hP hD hS dX3_isBefore_35
      · have hw := hwB cb
        refine lv_iconst (v := 1) hx hb dX3_isBefore_30 (by decide) ?_
        refine lv_goto (tgt := 35) hx hb dX3_isBefore_31 (by decide) ?_
        exact ret _ _ _ _ 1 () rfl hw hP hD hS dX3_isBefore_35
theorem in_X3_setRow_X3 : ∀ w ∈ wsX30, w ∈ wsX3_setRow := fun _ h => List.mem_cons_of_mem _ (List.mem_append_right _ h)
theorem hd_X3_setRow : yX3_setRow.cls = RX3 ∧ yX3_setRow.cls ≠ "java/lang/invoke/MethodHandle" ∧ yX3_setRow.cls ≠ "java/lang/invoke/VarHandle" ∧ (parseMethodDescriptor yX3_setRow.desc).map (fun d => d.parameters.length) = some 4 := by decide +kernel
set_option maxHeartbeats 8000000 in
set_option maxRecDepth 100000 in
theorem c_X3_setRow (l : Launch) (D : va_G) (cI cJ cZ cO : ClassId) (pA pAd pAx pAy : Nat) (pd : Nat → Int32) (px : Nat → Int32) (py : Nat → Int32) (pn : Int32) (v1 : Int32) (v2 : Int32) (v3 : Int32) (v4 : Int32) (K : (Nat → Int32) → (Nat → Int32) → (Nat → Int32) → Prop) (hw : wp_X3_setRow pd px py v1 v2 v3 v4 K) : Cv l D (tys4 cI cJ cZ cO) yX3_setRow wsX3_setRow { frames := 0, cells := 0, slots := 0, locals := 0 } [.ref pA, .int v1, .int v2, .int v3, .int v4] [(pA, .inr (2, [.ref pAd, .ref pAx, .ref pAy, .int pn])), (pAd, .inl (cI, 32, .inl pd)), (pAx, .inl (cI, 32, .inl px)), (pAy, .inl (cI, 32, .inl py))] (fun (u : (Nat → Int32) × (Nat → Int32) × (Nat → Int32)) => K u.1 u.2.1 u.2.2) (fun u => [(pA, .inr (2, [.ref pAd, .ref pAx, .ref pAy, .int pn])), (pAd, .inl (cI, 32, .inl u.1)), (pAx, .inl (cI, 32, .inl u.2.1)), (pAy, .inl (cI, 32, .inl u.2.2))]) := by
  refine mt_v (cc := cX3_setRow) (maxL := 5) (by decide) rfl (Nat.le_of_ble_eq_true rfl) ?_
  intro p e s m args below meth c Q A R ls hRf hRl hx hb hml hown hts hK hA hP hD hS hl ret
  have hown : s.vm.findClass RX3 = some m.cls := hown
  have hl : lv_has ls 5 [(0, .ref pA), (1, .int v1), (2, .int v2), (3, .int v3), (4, .int v4)] := hl
  unfold wp_X3_setRow at hw
  refine lv_aload_n hx hb dX3_setRow_0 rfl (lv_at hl 0 rfl) ?_
  refine va_get (D := D) (ci := 2) (v := .ref pAd) (C := RX3) (T := TX3) (N := 4) hx hb hts in_X3_setRow_X3 hown hK hP 0 rfl rfl 0 (by decide) (hts (.fieldLink RX3 9 "LiveHull$Points" "ids" "[I") (List.mem_of_getElem? (i := 1) rfl)) (fun _ h9 => h9) rfl dX3_setRow_1 ?_
  refine lv_iload_n hx hb dX3_setRow_4 rfl (lv_at hl 1 rfl) ?_
  refine lv_iload_n hx hb dX3_setRow_5 rfl (lv_at hl 2 rfl) ?_
  obtain ⟨hi, hw⟩ := hw
  refine va_iast hx hb hK hP hD hS 1 0 rfl rfl hi dX3_setRow_6 (fun H locs hP hD hS => ?_)
  have hP : va_P D vwCl [(pA, .inr (2, [.ref pAd, .ref pAx, .ref pAy, .int pn])), (pAd, .inl (cI, 32, .inl (upd pd v1.toNatClampNeg v2))), (pAx, .inl (cI, 32, .inl px)), (pAy, .inl (cI, 32, .inl py))] H := hP
  have hD : va_D A [(pA, .inr (2, [.ref pAd, .ref pAx, .ref pAy, .int pn])), (pAd, .inl (cI, 32, .inl (upd pd v1.toNatClampNeg v2))), (pAx, .inl (cI, 32, .inl px)), (pAy, .inl (cI, 32, .inl py))] := hD
  refine lv_aload_n hx hb dX3_setRow_7 rfl (lv_at hl 0 rfl) ?_
  refine va_get (D := D) (ci := 2) (v := .ref pAx) (C := RX3) (T := TX3) (N := 4) hx hb hts in_X3_setRow_X3 hown hK hP 0 rfl rfl 1 (by decide) (hts (.fieldLink RX3 15 "LiveHull$Points" "xs" "[I") (List.mem_of_getElem? (i := 2) rfl)) (fun _ h9 => h9) rfl dX3_setRow_8 ?_
  refine lv_iload_n hx hb dX3_setRow_11 rfl (lv_at hl 1 rfl) ?_
  refine lv_iload_n hx hb dX3_setRow_12 rfl (lv_at hl 3 rfl) ?_
  obtain ⟨hi, hw⟩ := hw
  refine va_iast hx hb hK hP hD hS 2 0 rfl rfl hi dX3_setRow_13 (fun H locs hP hD hS => ?_)
  have hP : va_P D vwCl [(pA, .inr (2, [.ref pAd, .ref pAx, .ref pAy, .int pn])), (pAd, .inl (cI, 32, .inl (upd pd v1.toNatClampNeg v2))), (pAx, .inl (cI, 32, .inl (upd px v1.toNatClampNeg v3))), (pAy, .inl (cI, 32, .inl py))] H := hP
  have hD : va_D A [(pA, .inr (2, [.ref pAd, .ref pAx, .ref pAy, .int pn])), (pAd, .inl (cI, 32, .inl (upd pd v1.toNatClampNeg v2))), (pAx, .inl (cI, 32, .inl (upd px v1.toNatClampNeg v3))), (pAy, .inl (cI, 32, .inl py))] := hD
  refine lv_aload_n hx hb dX3_setRow_14 rfl (lv_at hl 0 rfl) ?_
  refine va_get (D := D) (ci := 2) (v := .ref pAy) (C := RX3) (T := TX3) (N := 4) hx hb hts in_X3_setRow_X3 hown hK hP 0 rfl rfl 2 (by decide) (hts (.fieldLink RX3 18 "LiveHull$Points" "ys" "[I") (List.mem_of_getElem? (i := 3) rfl)) (fun _ h9 => h9) rfl dX3_setRow_15 ?_
  refine lv_iload_n hx hb dX3_setRow_18 rfl (lv_at hl 1 rfl) ?_
  refine lv_iload hx hb dX3_setRow_19 (lv_at hl 4 rfl) ?_
  obtain ⟨hi, hw⟩ := hw
  refine va_iast hx hb hK hP hD hS 3 0 rfl rfl hi dX3_setRow_21 (fun H locs hP hD hS => ?_)
  have hP : va_P D vwCl [(pA, .inr (2, [.ref pAd, .ref pAx, .ref pAy, .int pn])), (pAd, .inl (cI, 32, .inl (upd pd v1.toNatClampNeg v2))), (pAx, .inl (cI, 32, .inl (upd px v1.toNatClampNeg v3))), (pAy, .inl (cI, 32, .inl (upd py v1.toNatClampNeg v4)))] H := hP
  have hD : va_D A [(pA, .inr (2, [.ref pAd, .ref pAx, .ref pAy, .int pn])), (pAd, .inl (cI, 32, .inl (upd pd v1.toNatClampNeg v2))), (pAx, .inl (cI, 32, .inl (upd px v1.toNatClampNeg v3))), (pAy, .inl (cI, 32, .inl (upd py v1.toNatClampNeg v4)))] := hD
  exact ret _ _ _ _ ((upd pd v1.toNatClampNeg v2), (upd px v1.toNatClampNeg v3), (upd py v1.toNatClampNeg v4)) hw hP hD hS dX3_setRow_22
theorem in_X3_insert_X3 : ∀ w ∈ wsX30, w ∈ wsX3_insert := fun _ h => List.mem_cons_of_mem _ (List.mem_append_right _ h)
theorem hd_X3_insert : yX3_insert.cls = RX3 ∧ yX3_insert.cls ≠ "java/lang/invoke/MethodHandle" ∧ yX3_insert.cls ≠ "java/lang/invoke/VarHandle" ∧ (parseMethodDescriptor yX3_insert.desc).map (fun d => d.parameters.length) = some 3 := by decide +kernel
set_option maxHeartbeats 8000000 in
set_option maxRecDepth 100000 in
theorem c_X3_insert (l : Launch) (D : va_G) (cI cJ cZ cO : ClassId) (pA pAd pAx pAy : Nat) (pd : Nat → Int32) (px : Nat → Int32) (py : Nat → Int32) (pn : Int32) (v1 : Int32) (v2 : Int32) (v3 : Int32) (K : (Nat → Int32) → (Nat → Int32) → (Nat → Int32) → Int32 → Prop) (hw : wp_X3_insert pd px py pn v1 v2 v3 K) : Cv l D (tys4 cI cJ cZ cO) yX3_insert wsX3_insert { frames := 1, cells := 0, slots := 0, locals := 24 } [.ref pA, .int v1, .int v2, .int v3] [(pA, .inr (2, [.ref pAd, .ref pAx, .ref pAy, .int pn])), (pAd, .inl (cI, 32, .inl pd)), (pAx, .inl (cI, 32, .inl px)), (pAy, .inl (cI, 32, .inl py))] (fun (u : (Nat → Int32) × (Nat → Int32) × (Nat → Int32) × (Int32)) => K u.1 u.2.1 u.2.2.1 u.2.2.2) (fun u => [(pA, .inr (2, [.ref pAd, .ref pAx, .ref pAy, .int u.2.2.2])), (pAd, .inl (cI, 32, .inl u.1)), (pAx, .inl (cI, 32, .inl u.2.1)), (pAy, .inl (cI, 32, .inl u.2.2.1))]) := by
  refine mt_v (cc := cX3_insert) (maxL := 5) (by decide) rfl (Nat.le_of_ble_eq_true rfl) ?_
  intro p e s m args below meth c Q A R ls hRf hRl hx hb hml hown hts hK hA hP hD hS hl ret
  have hown : s.vm.findClass RX3 = some m.cls := hown
  have hl : lv_has ls 5 [(0, .ref pA), (1, .int v1), (2, .int v2), (3, .int v3)] := hl
  have N73 : ∀ (pd : Nat → Int32) (px : Nat → Int32) (py : Nat → Int32) (pn : Int32) (v4 : Int32), wp_X3_insert_73 v1 v2 v3 K pd px py pn v4 → ∀ (H : Heap) (locs : List Loc) (ls : Array Slot), va_P D vwCl [(pA, .inr (2, [.ref pAd, .ref pAx, .ref pAy, .int pn])), (pAd, .inl (cI, 32, .inl pd)), (pAx, .inl (cI, 32, .inl px)), (pAy, .inl (cI, 32, .inl py))] H → va_D A [(pA, .inr (2, [.ref pAd, .ref pAx, .ref pAy, .int pn])), (pAd, .inl (cI, 32, .inl pd)), (pAx, .inl (cI, 32, .inl px)), (pAy, .inl (cI, 32, .inl py))] → va_S A s.heap H locs → lv_has ls 5 [(0, .ref pA), (1, .int v1), (2, .int v2), (3, .int v3), (4, .int v4)] → W p l e R s m args below meth c H locs 0 0 Q (F0 m 73 ls []) := by
    intro pd px py pn v4 hw H locs ls hP hD hS hl
    unfold wp_X3_insert_73 at hw
    refine lv_aload_n hx hb dX3_insert_73 rfl (lv_at hl 0 rfl) ?_
    refine lv_iload hx hb dX3_insert_74 (lv_at hl 4 rfl) ?_
    refine lv_iload_n hx hb dX3_insert_76 rfl (lv_at hl 1 rfl) ?_
    refine lv_iload_n hx hb dX3_insert_77 rfl (lv_at hl 2 rfl) ?_
    refine lv_iload_n hx hb dX3_insert_78 rfl (lv_at hl 3 rfl) ?_
    refine cl_Vv (As := [.int v4, .int v1, .int v2, .int v3]) (rest := []) ⟨hx, hb, hml, hown, hts⟩ (c_X3_setRow l D cI cJ cZ cO pA pAd pAx pAy pd px py pn v4 v1 v2 v3 _ hw) (cwV 4 hts gX3_insert_X3_setRow rfl rfl rfl hd_X3_setRow ⟨Nat.le_trans (Nat.le_of_ble_eq_true rfl) hRf, Nat.le_trans (Nat.le_of_ble_eq_true rfl) hRl⟩) hK hP hD hS hA [0, 1, 2, 3] [] rfl (by decide) rfl (by decide) (by decide) 0 2 rfl rfl rfl hl.1 rfl (Nat.le_of_ble_eq_true rfl) dX3_insert_79 ⟨Nat.zero_le _, Nat.zero_le _⟩ (fun u H locs hw hP hD hS => ?_)
    obtain ⟨pd_79, px_79, py_79⟩ := u
    try dsimp only at hw
    have hP : va_P D vwCl [(pA, .inr (2, [.ref pAd, .ref pAx, .ref pAy, .int pn])), (pAd, .inl (cI, 32, .inl pd_79)), (pAx, .inl (cI, 32, .inl px_79)), (pAy, .inl (cI, 32, .inl py_79))] H := hP.sub [0, 1, 2, 3] rfl
    have hD : va_D A [(pA, .inr (2, [.ref pAd, .ref pAx, .ref pAy, .int pn])), (pAd, .inl (cI, 32, .inl pd_79)), (pAx, .inl (cI, 32, .inl px_79)), (pAy, .inl (cI, 32, .inl py_79))] := hD.sub [0, 1, 2, 3] (by decide) rfl
    refine lv_aload_n hx hb dX3_insert_82 rfl (lv_at hl 0 rfl) ?_
    refine lv_dup hx hb dX3_insert_83 rfl ?_
    refine va_get (D := D) (ci := 2) (v := .int pn) (C := RX3) (T := TX3) (N := 4) hx hb hts in_X3_insert_X3 hown hK hP 0 rfl rfl 3 (by decide) (hts (.fieldLink RX3 21 "LiveHull$Points" "count" "I") (List.mem_of_getElem? (i := 1) rfl)) (fun _ h9 => h9) rfl dX3_insert_84 ?_
    refine lv_iconst (v := 1) hx hb dX3_insert_87 (by decide) ?_
    refine lv_iadd hx hb dX3_insert_88 ?_
    refine va_put (D := D) (ci := 2) (v := .int (pn + 1)) (ty := .int) (C := RX3) (T := TX3) (N := 4) hx hb hts in_X3_insert_X3 tyX3 tyX3_ok nmX3 hown hK hP hD hS 0 rfl rfl 3 (by decide) (hts (.fieldLink RX3 21 "LiveHull$Points" "count" "I") (List.mem_of_getElem? (i := 1) rfl)) (fun _ h9 => h9) rfl (by decide +kernel) rfl rfl (Nat.le_of_ble_eq_true rfl) dX3_insert_89 (fun H locs hP hD hS => ?_)
    have hP : va_P D vwCl [(pA, .inr (2, [.ref pAd, .ref pAx, .ref pAy, .int (pn + 1)])), (pAd, .inl (cI, 32, .inl pd_79)), (pAx, .inl (cI, 32, .inl px_79)), (pAy, .inl (cI, 32, .inl py_79))] H := hP
    have hD : va_D A [(pA, .inr (2, [.ref pAd, .ref pAx, .ref pAy, .int (pn + 1)])), (pAd, .inl (cI, 32, .inl pd_79)), (pAx, .inl (cI, 32, .inl px_79)), (pAy, .inl (cI, 32, .inl py_79))] := hD
    exact ret _ _ _ _ (pd_79, px_79, py_79, (pn + 1)) hw hP hD hS dX3_insert_92
  have N16 : ∀ (pn : Int32) (k : Nat) (pd : Nat → Int32) (px : Nat → Int32) (py : Nat → Int32) (v4 : Int32), wp_X3_insert_16 v1 v2 v3 K pn k pd px py v4 → ∀ (H : Heap) (locs : List Loc) (ls : Array Slot), va_P D vwCl [(pA, .inr (2, [.ref pAd, .ref pAx, .ref pAy, .int pn])), (pAd, .inl (cI, 32, .inl pd)), (pAx, .inl (cI, 32, .inl px)), (pAy, .inl (cI, 32, .inl py))] H → va_D A [(pA, .inr (2, [.ref pAd, .ref pAx, .ref pAy, .int pn])), (pAd, .inl (cI, 32, .inl pd)), (pAx, .inl (cI, 32, .inl px)), (pAy, .inl (cI, 32, .inl py))] → va_S A s.heap H locs → lv_has ls 5 [(0, .ref pA), (1, .int v1), (2, .int v2), (3, .int v3), (4, .int v4)] → W p l e R s m args below meth c H locs 0 0 Q (F0 m 16 ls []) := by
    intro pn
    intro k
    induction k with
    | zero => intro pd px py v4 hw; exact False.elim hw
    | succ k ih16 =>
      intro pd px py v4 hw H locs ls hP hD hS hl
      have hw : wp_X3_insert_16b v1 v2 v3 K (wp_X3_insert_16 v1 v2 v3 K pn k) pn pd px py v4 := hw
      unfold wp_X3_insert_16b at hw
      generalize wp_X3_insert_16 v1 v2 v3 K pn k = L16 at hw ih16
      refine lv_iload hx hb dX3_insert_16 (lv_at hl 4 rfl) ?_
      obtain ⟨hwA, hwB⟩ := hw
      refine lv_if_le (tgt := 73) hx hb dX3_insert_18 (by decide) (fun cb => ?_) (fun cb => ?_)
      · have hw := hwA cb
        exact N73 pd px py pn v4 hw _ _ _ hP hD hS (lv_sub hl [0, 1, 2, 3, 4] rfl)
      · have hw := hwB cb
        refine lv_aload_n hx hb dX3_insert_21 rfl (lv_at hl 0 rfl) ?_
        refine lv_iload_n hx hb dX3_insert_22 rfl (lv_at hl 2 rfl) ?_
        refine lv_iload_n hx hb dX3_insert_23 rfl (lv_at hl 3 rfl) ?_
        refine lv_iload hx hb dX3_insert_24 (lv_at hl 4 rfl) ?_
        refine lv_iconst (v := 1) hx hb dX3_insert_26 (by decide) ?_
        refine lv_isub hx hb dX3_insert_27 ?_
        refine cl_Vi (As := [.int v2, .int v3, .int (v4 - 1)]) (rest := []) ⟨hx, hb, hml, hown, hts⟩ (c_X3_isBefore l D cI cJ cZ cO pA pAd pAx pAy pd px py pn v2 v3 (v4 - 1) _ hw) (cwV 3 hts gX3_insert_X3_isBefore rfl rfl rfl hd_X3_isBefore ⟨Nat.le_trans (Nat.le_of_ble_eq_true rfl) hRf, Nat.le_trans (Nat.le_of_ble_eq_true rfl) hRl⟩) hK hP hD hS hA [0, 1, 2, 3] [] rfl (by decide) rfl (by decide) (by decide) 0 2 rfl rfl rfl hl.1 rfl (Nat.le_of_ble_eq_true rfl) dX3_insert_28 ⟨Nat.zero_le _, Nat.zero_le _⟩ (fun r28 _u H locs hw hP hD hS => ?_)
        try dsimp only at hw
        have hP : va_P D vwCl [(pA, .inr (2, [.ref pAd, .ref pAx, .ref pAy, .int pn])), (pAd, .inl (cI, 32, .inl pd)), (pAx, .inl (cI, 32, .inl px)), (pAy, .inl (cI, 32, .inl py))] H := hP.sub [0, 1, 2, 3] rfl
        have hD : va_D A [(pA, .inr (2, [.ref pAd, .ref pAx, .ref pAy, .int pn])), (pAd, .inl (cI, 32, .inl pd)), (pAx, .inl (cI, 32, .inl px)), (pAy, .inl (cI, 32, .inl py))] := hD.sub [0, 1, 2, 3] (by decide) rfl
        obtain ⟨hwA, hwB⟩ := hw
        refine lv_if_eq (tgt := 73) hx hb dX3_insert_31 (by decide) (fun cb => ?_) (fun cb => ?_)
        · have hw := hwA cb
          exact N73 pd px py pn v4 hw _ _ _ hP hD hS (lv_sub hl [0, 1, 2, 3, 4] rfl)
        · have hw := hwB cb
          refine lv_aload_n hx hb dX3_insert_34 rfl (lv_at hl 0 rfl) ?_
          refine lv_iload hx hb dX3_insert_35 (lv_at hl 4 rfl) ?_
          refine lv_aload_n hx hb dX3_insert_37 rfl (lv_at hl 0 rfl) ?_
          refine va_get (D := D) (ci := 2) (v := .ref pAd) (C := RX3) (T := TX3) (N := 4) hx hb hts in_X3_insert_X3 hown hK hP 0 rfl rfl 0 (by decide) (hts (.fieldLink RX3 9 "LiveHull$Points" "ids" "[I") (List.mem_of_getElem? (i := 2) rfl)) (fun _ h9 => h9) rfl dX3_insert_38 ?_
          refine lv_iload hx hb dX3_insert_41 (lv_at hl 4 rfl) ?_
          refine lv_iconst (v := 1) hx hb dX3_insert_43 (by decide) ?_
          refine lv_isub hx hb dX3_insert_44 ?_
          obtain ⟨hi, hw⟩ := hw
          refine va_iald hx hb hK hP 1 0 rfl rfl hi dX3_insert_45 ?_
          refine lv_aload_n hx hb dX3_insert_46 rfl (lv_at hl 0 rfl) ?_
          refine va_get (D := D) (ci := 2) (v := .ref pAx) (C := RX3) (T := TX3) (N := 4) hx hb hts in_X3_insert_X3 hown hK hP 0 rfl rfl 1 (by decide) (hts (.fieldLink RX3 15 "LiveHull$Points" "xs" "[I") (List.mem_of_getElem? (i := 3) rfl)) (fun _ h9 => h9) rfl dX3_insert_47 ?_
          refine lv_iload hx hb dX3_insert_50 (lv_at hl 4 rfl) ?_
          refine lv_iconst (v := 1) hx hb dX3_insert_52 (by decide) ?_
          refine lv_isub hx hb dX3_insert_53 ?_
          obtain ⟨hi, hw⟩ := hw
          refine va_iald hx hb hK hP 2 0 rfl rfl hi dX3_insert_54 ?_
          refine lv_aload_n hx hb dX3_insert_55 rfl (lv_at hl 0 rfl) ?_
          refine va_get (D := D) (ci := 2) (v := .ref pAy) (C := RX3) (T := TX3) (N := 4) hx hb hts in_X3_insert_X3 hown hK hP 0 rfl rfl 2 (by decide) (hts (.fieldLink RX3 18 "LiveHull$Points" "ys" "[I") (List.mem_of_getElem? (i := 4) rfl)) (fun _ h9 => h9) rfl dX3_insert_56 ?_
          refine lv_iload hx hb dX3_insert_59 (lv_at hl 4 rfl) ?_
          refine lv_iconst (v := 1) hx hb dX3_insert_61 (by decide) ?_
          refine lv_isub hx hb dX3_insert_62 ?_
          obtain ⟨hi, hw⟩ := hw
          refine va_iald hx hb hK hP 3 0 rfl rfl hi dX3_insert_63 ?_
          refine cl_Vv (As := [.int v4, .int (pd (v4 - 1).toNatClampNeg), .int (px (v4 - 1).toNatClampNeg), .int (py (v4 - 1).toNatClampNeg)]) (rest := []) ⟨hx, hb, hml, hown, hts⟩ (c_X3_setRow l D cI cJ cZ cO pA pAd pAx pAy pd px py pn v4 (pd (v4 - 1).toNatClampNeg) (px (v4 - 1).toNatClampNeg) (py (v4 - 1).toNatClampNeg) _ hw) (cwV 4 hts gX3_insert_X3_setRow rfl rfl rfl hd_X3_setRow ⟨Nat.le_trans (Nat.le_of_ble_eq_true rfl) hRf, Nat.le_trans (Nat.le_of_ble_eq_true rfl) hRl⟩) hK hP hD hS hA [0, 1, 2, 3] [] rfl (by decide) rfl (by decide) (by decide) 0 2 rfl rfl rfl hl.1 rfl (Nat.le_of_ble_eq_true rfl) dX3_insert_64 ⟨Nat.zero_le _, Nat.zero_le _⟩ (fun u H locs hw hP hD hS => ?_)
          obtain ⟨pd_64, px_64, py_64⟩ := u
          try dsimp only at hw
          have hP : va_P D vwCl [(pA, .inr (2, [.ref pAd, .ref pAx, .ref pAy, .int pn])), (pAd, .inl (cI, 32, .inl pd_64)), (pAx, .inl (cI, 32, .inl px_64)), (pAy, .inl (cI, 32, .inl py_64))] H := hP.sub [0, 1, 2, 3] rfl
          have hD : va_D A [(pA, .inr (2, [.ref pAd, .ref pAx, .ref pAy, .int pn])), (pAd, .inl (cI, 32, .inl pd_64)), (pAx, .inl (cI, 32, .inl px_64)), (pAy, .inl (cI, 32, .inl py_64))] := hD.sub [0, 1, 2, 3] (by decide) rfl
          refine lv_iinc (v := (v4 + (-1))) (lv' := [(4, .int (v4 + (-1))), (0, .ref pA), (1, .int v1), (2, .int v2), (3, .int v3)]) hx hb dX3_insert_67 hl (k := 4) rfl rfl (by decide) rfl (fun ls hl => ?_)
          refine lv_goto (tgt := 16) hx hb dX3_insert_70 (by decide) ?_
          exact ih16 pd_64 px_64 py_64 (v4 + (-1)) hw _ _ _ hP hD hS (lv_sub hl [1, 2, 3, 4, 0] rfl)
  unfold wp_X3_insert at hw
  refine lv_aload_n hx hb dX3_insert_0 rfl (lv_at hl 0 rfl) ?_
  refine va_get (D := D) (ci := 2) (v := .int pn) (C := RX3) (T := TX3) (N := 4) hx hb hts in_X3_insert_X3 hown hK hP 0 rfl rfl 3 (by decide) (hts (.fieldLink RX3 21 "LiveHull$Points" "count" "I") (List.mem_of_getElem? (i := 1) rfl)) (fun _ h9 => h9) rfl dX3_insert_1 ?_
  refine lv_bipush (v := 32) hx hb dX3_insert_4 (by decide) ?_
  obtain ⟨hwA, hwB⟩ := hw
  refine lv_icmp_lt (tgt := 10) hx hb dX3_insert_6 (by decide) (fun cb => ?_) (fun cb => ?_)
  · have hw := hwA cb
    refine lv_aload_n hx hb dX3_insert_10 rfl (lv_at hl 0 rfl) ?_
    refine va_get (D := D) (ci := 2) (v := .int pn) (C := RX3) (T := TX3) (N := 4) hx hb hts in_X3_insert_X3 hown hK hP 0 rfl rfl 3 (by decide) (hts (.fieldLink RX3 21 "LiveHull$Points" "count" "I") (List.mem_of_getElem? (i := 1) rfl)) (fun _ h9 => h9) rfl dX3_insert_11 ?_
    refine lv_istore (lv' := [(4, .int pn), (0, .ref pA), (1, .int v1), (2, .int v2), (3, .int v3)]) hx hb dX3_insert_14 hl (by decide) rfl (fun ls hl => ?_)
    obtain ⟨k, hw⟩ := hw
    exact N16 pn k pd px py pn hw _ _ _ hP hD hS (lv_sub hl [1, 2, 3, 4, 0] rfl)
  · have hw := hwB cb
    exact ret _ _ _ _ (pd, px, py, pn) hw hP hD hS dX3_insert_9
theorem in_X3_delete_X3 : ∀ w ∈ wsX30, w ∈ wsX3_delete := fun _ h => List.mem_cons_of_mem _ (List.mem_append_right _ h)
theorem hd_X3_delete : yX3_delete.cls = RX3 ∧ yX3_delete.cls ≠ "java/lang/invoke/MethodHandle" ∧ yX3_delete.cls ≠ "java/lang/invoke/VarHandle" ∧ (parseMethodDescriptor yX3_delete.desc).map (fun d => d.parameters.length) = some 1 := by decide +kernel
set_option maxHeartbeats 8000000 in
set_option maxRecDepth 100000 in
theorem c_X3_delete (l : Launch) (D : va_G) (cI cJ cZ cO : ClassId) (pA pAd pAx pAy : Nat) (pd : Nat → Int32) (px : Nat → Int32) (py : Nat → Int32) (pn : Int32) (v1 : Int32) (K : (Nat → Int32) → (Nat → Int32) → (Nat → Int32) → Int32 → Prop) (hw : wp_X3_delete pd px py pn v1 K) : Cv l D (tys4 cI cJ cZ cO) yX3_delete wsX3_delete { frames := 1, cells := 0, slots := 0, locals := 24 } [.ref pA, .int v1] [(pA, .inr (2, [.ref pAd, .ref pAx, .ref pAy, .int pn])), (pAd, .inl (cI, 32, .inl pd)), (pAx, .inl (cI, 32, .inl px)), (pAy, .inl (cI, 32, .inl py))] (fun (u : (Nat → Int32) × (Nat → Int32) × (Nat → Int32) × (Int32)) => K u.1 u.2.1 u.2.2.1 u.2.2.2) (fun u => [(pA, .inr (2, [.ref pAd, .ref pAx, .ref pAy, .int u.2.2.2])), (pAd, .inl (cI, 32, .inl u.1)), (pAx, .inl (cI, 32, .inl u.2.1)), (pAy, .inl (cI, 32, .inl u.2.2.1))]) := by
  refine mt_v (cc := cX3_delete) (maxL := 3) (by decide) rfl (Nat.le_of_ble_eq_true rfl) ?_
  intro p e s m args below meth c Q A R ls hRf hRl hx hb hml hown hts hK hA hP hD hS hl ret
  have hown : s.vm.findClass RX3 = some m.cls := hown
  have hl : lv_has ls 3 [(0, .ref pA), (1, .int v1)] := hl
  have N17 : ∀ (pn : Int32) (k : Nat) (pd : Nat → Int32) (px : Nat → Int32) (py : Nat → Int32) (v2 : Int32), wp_X3_delete_17 v1 K pn k pd px py v2 → ∀ (H : Heap) (locs : List Loc) (ls : Array Slot), va_P D vwCl [(pA, .inr (2, [.ref pAd, .ref pAx, .ref pAy, .int pn])), (pAd, .inl (cI, 32, .inl pd)), (pAx, .inl (cI, 32, .inl px)), (pAy, .inl (cI, 32, .inl py))] H → va_D A [(pA, .inr (2, [.ref pAd, .ref pAx, .ref pAy, .int pn])), (pAd, .inl (cI, 32, .inl pd)), (pAx, .inl (cI, 32, .inl px)), (pAy, .inl (cI, 32, .inl py))] → va_S A s.heap H locs → lv_has ls 3 [(0, .ref pA), (2, .int v2)] → W p l e R s m args below meth c H locs 0 0 Q (F0 m 17 ls []) := by
    intro pn
    intro k
    induction k with
    | zero => intro pd px py v2 hw; exact False.elim hw
    | succ k ih17 =>
      intro pd px py v2 hw H locs ls hP hD hS hl
      have hw : wp_X3_delete_17b v1 K (wp_X3_delete_17 v1 K pn k) pn pd px py v2 := hw
      unfold wp_X3_delete_17b at hw
      generalize wp_X3_delete_17 v1 K pn k = L17 at hw ih17
      refine lv_iload_n hx hb dX3_delete_17 rfl (lv_at hl 1 rfl) ?_
      refine lv_aload_n hx hb dX3_delete_18 rfl (lv_at hl 0 rfl) ?_
      refine va_get (D := D) (ci := 2) (v := .int pn) (C := RX3) (T := TX3) (N := 4) hx hb hts in_X3_delete_X3 hown hK hP 0 rfl rfl 3 (by decide) (hts (.fieldLink RX3 21 "LiveHull$Points" "count" "I") (List.mem_of_getElem? (i := 1) rfl)) (fun _ h9 => h9) rfl dX3_delete_19 ?_
      obtain ⟨hwA, hwB⟩ := hw
      refine lv_icmp_ge (tgt := 56) hx hb dX3_delete_22 (by decide) (fun cb => ?_) (fun cb => ?_)
      · have hw := hwA cb
        refine lv_aload_n hx hb dX3_delete_56 rfl (lv_at hl 0 rfl) ?_
        refine lv_dup hx hb dX3_delete_57 rfl ?_
        refine va_get (D := D) (ci := 2) (v := .int pn) (C := RX3) (T := TX3) (N := 4) hx hb hts in_X3_delete_X3 hown hK hP 0 rfl rfl 3 (by decide) (hts (.fieldLink RX3 21 "LiveHull$Points" "count" "I") (List.mem_of_getElem? (i := 1) rfl)) (fun _ h9 => h9) rfl dX3_delete_58 ?_
        refine lv_iconst (v := 1) hx hb dX3_delete_61 (by decide) ?_
        refine lv_isub hx hb dX3_delete_62 ?_
        refine va_put (D := D) (ci := 2) (v := .int (pn - 1)) (ty := .int) (C := RX3) (T := TX3) (N := 4) hx hb hts in_X3_delete_X3 tyX3 tyX3_ok nmX3 hown hK hP hD hS 0 rfl rfl 3 (by decide) (hts (.fieldLink RX3 21 "LiveHull$Points" "count" "I") (List.mem_of_getElem? (i := 1) rfl)) (fun _ h9 => h9) rfl (by decide +kernel) rfl rfl (Nat.le_of_ble_eq_true rfl) dX3_delete_63 (fun H locs hP hD hS => ?_)
        have hP : va_P D vwCl [(pA, .inr (2, [.ref pAd, .ref pAx, .ref pAy, .int (pn - 1)])), (pAd, .inl (cI, 32, .inl pd)), (pAx, .inl (cI, 32, .inl px)), (pAy, .inl (cI, 32, .inl py))] H := hP
        have hD : va_D A [(pA, .inr (2, [.ref pAd, .ref pAx, .ref pAy, .int (pn - 1)])), (pAd, .inl (cI, 32, .inl pd)), (pAx, .inl (cI, 32, .inl px)), (pAy, .inl (cI, 32, .inl py))] := hD
        exact ret _ _ _ _ (pd, px, py, (pn - 1)) hw hP hD hS dX3_delete_66
      · have hw := hwB cb
        refine lv_aload_n hx hb dX3_delete_25 rfl (lv_at hl 0 rfl) ?_
        refine lv_iload_n hx hb dX3_delete_26 rfl (lv_at hl 1 rfl) ?_
        refine lv_iconst (v := 1) hx hb dX3_delete_27 (by decide) ?_
        refine lv_isub hx hb dX3_delete_28 ?_
        refine lv_aload_n hx hb dX3_delete_29 rfl (lv_at hl 0 rfl) ?_
        refine va_get (D := D) (ci := 2) (v := .ref pAd) (C := RX3) (T := TX3) (N := 4) hx hb hts in_X3_delete_X3 hown hK hP 0 rfl rfl 0 (by decide) (hts (.fieldLink RX3 9 "LiveHull$Points" "ids" "[I") (List.mem_of_getElem? (i := 2) rfl)) (fun _ h9 => h9) rfl dX3_delete_30 ?_
        refine lv_iload_n hx hb dX3_delete_33 rfl (lv_at hl 1 rfl) ?_
        obtain ⟨hi, hw⟩ := hw
        refine va_iald hx hb hK hP 1 0 rfl rfl hi dX3_delete_34 ?_
        refine lv_aload_n hx hb dX3_delete_35 rfl (lv_at hl 0 rfl) ?_
        refine va_get (D := D) (ci := 2) (v := .ref pAx) (C := RX3) (T := TX3) (N := 4) hx hb hts in_X3_delete_X3 hown hK hP 0 rfl rfl 1 (by decide) (hts (.fieldLink RX3 15 "LiveHull$Points" "xs" "[I") (List.mem_of_getElem? (i := 3) rfl)) (fun _ h9 => h9) rfl dX3_delete_36 ?_
        refine lv_iload_n hx hb dX3_delete_39 rfl (lv_at hl 1 rfl) ?_
        obtain ⟨hi, hw⟩ := hw
        refine va_iald hx hb hK hP 2 0 rfl rfl hi dX3_delete_40 ?_
        refine lv_aload_n hx hb dX3_delete_41 rfl (lv_at hl 0 rfl) ?_
        refine va_get (D := D) (ci := 2) (v := .ref pAy) (C := RX3) (T := TX3) (N := 4) hx hb hts in_X3_delete_X3 hown hK hP 0 rfl rfl 2 (by decide) (hts (.fieldLink RX3 18 "LiveHull$Points" "ys" "[I") (List.mem_of_getElem? (i := 4) rfl)) (fun _ h9 => h9) rfl dX3_delete_42 ?_
        refine lv_iload_n hx hb dX3_delete_45 rfl (lv_at hl 1 rfl) ?_
        obtain ⟨hi, hw⟩ := hw
        refine va_iald hx hb hK hP 3 0 rfl rfl hi dX3_delete_46 ?_
        refine cl_Vv (As := [.int (v2 - 1), .int (pd v2.toNatClampNeg), .int (px v2.toNatClampNeg), .int (py v2.toNatClampNeg)]) (rest := []) ⟨hx, hb, hml, hown, hts⟩ (c_X3_setRow l D cI cJ cZ cO pA pAd pAx pAy pd px py pn (v2 - 1) (pd v2.toNatClampNeg) (px v2.toNatClampNeg) (py v2.toNatClampNeg) _ hw) (cwV 4 hts gX3_delete_X3_setRow rfl rfl rfl hd_X3_setRow ⟨Nat.le_trans (Nat.le_of_ble_eq_true rfl) hRf, Nat.le_trans (Nat.le_of_ble_eq_true rfl) hRl⟩) hK hP hD hS hA [0, 1, 2, 3] [] rfl (by decide) rfl (by decide) (by decide) 0 2 rfl rfl rfl hl.1 rfl (Nat.le_of_ble_eq_true rfl) dX3_delete_47 ⟨Nat.zero_le _, Nat.zero_le _⟩ (fun u H locs hw hP hD hS => ?_)
        obtain ⟨pd_47, px_47, py_47⟩ := u
        try dsimp only at hw
        have hP : va_P D vwCl [(pA, .inr (2, [.ref pAd, .ref pAx, .ref pAy, .int pn])), (pAd, .inl (cI, 32, .inl pd_47)), (pAx, .inl (cI, 32, .inl px_47)), (pAy, .inl (cI, 32, .inl py_47))] H := hP.sub [0, 1, 2, 3] rfl
        have hD : va_D A [(pA, .inr (2, [.ref pAd, .ref pAx, .ref pAy, .int pn])), (pAd, .inl (cI, 32, .inl pd_47)), (pAx, .inl (cI, 32, .inl px_47)), (pAy, .inl (cI, 32, .inl py_47))] := hD.sub [0, 1, 2, 3] (by decide) rfl
        refine lv_iinc (v := (v2 + 1)) (lv' := [(2, .int (v2 + 1)), (0, .ref pA)]) hx hb dX3_delete_50 hl (k := 1) rfl rfl (by decide) rfl (fun ls hl => ?_)
        refine lv_goto (tgt := 17) hx hb dX3_delete_53 (by decide) ?_
        exact ih17 pd_47 px_47 py_47 (v2 + 1) hw _ _ _ hP hD hS (lv_sub hl [1, 0] rfl)
  unfold wp_X3_delete at hw
  refine lv_iload_n hx hb dX3_delete_0 rfl (lv_at hl 1 rfl) ?_
  obtain ⟨hwA, hwB⟩ := hw
  refine lv_if_lt (tgt := 12) hx hb dX3_delete_1 (by decide) (fun cb => ?_) (fun cb => ?_)
  · have hw := hwA cb
    exact ret _ _ _ _ (pd, px, py, pn) hw hP hD hS dX3_delete_12
  · have hw := hwB cb
    refine lv_iload_n hx hb dX3_delete_4 rfl (lv_at hl 1 rfl) ?_
    refine lv_aload_n hx hb dX3_delete_5 rfl (lv_at hl 0 rfl) ?_
    refine va_get (D := D) (ci := 2) (v := .int pn) (C := RX3) (T := TX3) (N := 4) hx hb hts in_X3_delete_X3 hown hK hP 0 rfl rfl 3 (by decide) (hts (.fieldLink RX3 21 "LiveHull$Points" "count" "I") (List.mem_of_getElem? (i := 1) rfl)) (fun _ h9 => h9) rfl dX3_delete_6 ?_
    obtain ⟨hwA, hwB⟩ := hw
    refine lv_icmp_lt (tgt := 13) hx hb dX3_delete_9 (by decide) (fun cb => ?_) (fun cb => ?_)
    · have hw := hwA cb
      refine lv_iload_n hx hb dX3_delete_13 rfl (lv_at hl 1 rfl) ?_
      refine lv_iconst (v := 1) hx hb dX3_delete_14 (by decide) ?_
      refine lv_iadd hx hb dX3_delete_15 ?_
      refine lv_istore_n (lv' := [(2, .int (v1 + 1)), (0, .ref pA), (1, .int v1)]) hx hb dX3_delete_16 rfl hl (by decide) rfl (fun ls hl => ?_)
      obtain ⟨k, hw⟩ := hw
      exact N17 pn k pd px py (v1 + 1) hw _ _ _ hP hD hS (lv_sub hl [1, 0] rfl)
    · have hw := hwB cb
      exact ret _ _ _ _ (pd, px, py, pn) hw hP hD hS dX3_delete_12
theorem in_X3_copyFrom_X3 : ∀ w ∈ wsX30, w ∈ wsX3_copyFrom := fun _ h => List.mem_cons_of_mem _ (List.mem_append_right _ h)
theorem hd_X3_copyFrom : yX3_copyFrom.cls = RX3 ∧ yX3_copyFrom.cls ≠ "java/lang/invoke/MethodHandle" ∧ yX3_copyFrom.cls ≠ "java/lang/invoke/VarHandle" ∧ (parseMethodDescriptor yX3_copyFrom.desc).map (fun d => d.parameters.length) = some 1 := by decide +kernel
set_option maxHeartbeats 8000000 in
set_option maxRecDepth 100000 in
theorem c_X3_copyFrom (l : Launch) (D : va_G) (cI cJ cZ cO : ClassId) (pA pAd pAx pAy zA zAd zAx zAy : Nat) (pd : Nat → Int32) (px : Nat → Int32) (py : Nat → Int32) (pn : Int32) (zd : Nat → Int32) (zx : Nat → Int32) (zy : Nat → Int32) (zn : Int32)  (K : (Nat → Int32) → (Nat → Int32) → (Nat → Int32) → Int32 → Prop) (hw : wp_X3_copyFrom pd px py pn zd zx zy zn K) : Cv l D (tys4 cI cJ cZ cO) yX3_copyFrom wsX3_copyFrom { frames := 1, cells := 0, slots := 0, locals := 24 } [.ref pA, .ref zA] [(pA, .inr (2, [.ref pAd, .ref pAx, .ref pAy, .int pn])), (pAd, .inl (cI, 32, .inl pd)), (pAx, .inl (cI, 32, .inl px)), (pAy, .inl (cI, 32, .inl py)), (zA, .inr (2, [.ref zAd, .ref zAx, .ref zAy, .int zn])), (zAd, .inl (cI, 32, .inl zd)), (zAx, .inl (cI, 32, .inl zx)), (zAy, .inl (cI, 32, .inl zy))] (fun (u : (Nat → Int32) × (Nat → Int32) × (Nat → Int32) × (Int32)) => K u.1 u.2.1 u.2.2.1 u.2.2.2) (fun u => [(pA, .inr (2, [.ref pAd, .ref pAx, .ref pAy, .int u.2.2.2])), (pAd, .inl (cI, 32, .inl u.1)), (pAx, .inl (cI, 32, .inl u.2.1)), (pAy, .inl (cI, 32, .inl u.2.2.1)), (zA, .inr (2, [.ref zAd, .ref zAx, .ref zAy, .int zn])), (zAd, .inl (cI, 32, .inl zd)), (zAx, .inl (cI, 32, .inl zx)), (zAy, .inl (cI, 32, .inl zy))]) := by
  refine mt_v (cc := cX3_copyFrom) (maxL := 3) (by decide) rfl (Nat.le_of_ble_eq_true rfl) ?_
  intro p e s m args below meth c Q A R ls hRf hRl hx hb hml hown hts hK hA hP hD hS hl ret
  have hown : s.vm.findClass RX3 = some m.cls := hown
  have hl : lv_has ls 3 [(0, .ref pA), (1, .ref zA)] := hl
  have N2 : ∀ (pn : Int32) (k : Nat) (pd : Nat → Int32) (px : Nat → Int32) (py : Nat → Int32) (v2 : Int32), wp_X3_copyFrom_2 zd zx zy zn K pn k pd px py v2 → ∀ (H : Heap) (locs : List Loc) (ls : Array Slot), va_P D vwCl [(pA, .inr (2, [.ref pAd, .ref pAx, .ref pAy, .int pn])), (pAd, .inl (cI, 32, .inl pd)), (pAx, .inl (cI, 32, .inl px)), (pAy, .inl (cI, 32, .inl py)), (zA, .inr (2, [.ref zAd, .ref zAx, .ref zAy, .int zn])), (zAd, .inl (cI, 32, .inl zd)), (zAx, .inl (cI, 32, .inl zx)), (zAy, .inl (cI, 32, .inl zy))] H → va_D A [(pA, .inr (2, [.ref pAd, .ref pAx, .ref pAy, .int pn])), (pAd, .inl (cI, 32, .inl pd)), (pAx, .inl (cI, 32, .inl px)), (pAy, .inl (cI, 32, .inl py)), (zA, .inr (2, [.ref zAd, .ref zAx, .ref zAy, .int zn])), (zAd, .inl (cI, 32, .inl zd)), (zAx, .inl (cI, 32, .inl zx)), (zAy, .inl (cI, 32, .inl zy))] → va_S A s.heap H locs → lv_has ls 3 [(0, .ref pA), (1, .ref zA), (2, .int v2)] → W p l e R s m args below meth c H locs 0 0 Q (F0 m 2 ls []) := by
    intro pn
    intro k
    induction k with
    | zero => intro pd px py v2 hw; exact False.elim hw
    | succ k ih2 =>
      intro pd px py v2 hw H locs ls hP hD hS hl
      have hw : wp_X3_copyFrom_2b zd zx zy zn K (wp_X3_copyFrom_2 zd zx zy zn K pn k) pn pd px py v2 := hw
      unfold wp_X3_copyFrom_2b at hw
      generalize wp_X3_copyFrom_2 zd zx zy zn K pn k = L2 at hw ih2
      refine lv_iload_n hx hb dX3_copyFrom_2 rfl (lv_at hl 2 rfl) ?_
      refine lv_aload_n hx hb dX3_copyFrom_3 rfl (lv_at hl 1 rfl) ?_
      refine va_get (D := D) (ci := 2) (v := .int zn) (C := RX3) (T := TX3) (N := 4) hx hb hts in_X3_copyFrom_X3 hown hK hP 4 rfl rfl 3 (by decide) (hts (.fieldLink RX3 21 "LiveHull$Points" "count" "I") (List.mem_of_getElem? (i := 1) rfl)) (fun _ h9 => h9) rfl dX3_copyFrom_4 ?_
      obtain ⟨hwA, hwB⟩ := hw
      refine lv_icmp_ge (tgt := 39) hx hb dX3_copyFrom_7 (by decide) (fun cb => ?_) (fun cb => ?_)
      · have hw := hwA cb
        refine lv_aload_n hx hb dX3_copyFrom_39 rfl (lv_at hl 0 rfl) ?_
        refine lv_aload_n hx hb dX3_copyFrom_40 rfl (lv_at hl 1 rfl) ?_
        refine va_get (D := D) (ci := 2) (v := .int zn) (C := RX3) (T := TX3) (N := 4) hx hb hts in_X3_copyFrom_X3 hown hK hP 4 rfl rfl 3 (by decide) (hts (.fieldLink RX3 21 "LiveHull$Points" "count" "I") (List.mem_of_getElem? (i := 1) rfl)) (fun _ h9 => h9) rfl dX3_copyFrom_41 ?_
        refine va_put (D := D) (ci := 2) (v := .int zn) (ty := .int) (C := RX3) (T := TX3) (N := 4) hx hb hts in_X3_copyFrom_X3 tyX3 tyX3_ok nmX3 hown hK hP hD hS 0 rfl rfl 3 (by decide) (hts (.fieldLink RX3 21 "LiveHull$Points" "count" "I") (List.mem_of_getElem? (i := 1) rfl)) (fun _ h9 => h9) rfl (by decide +kernel) rfl rfl (Nat.le_of_ble_eq_true rfl) dX3_copyFrom_44 (fun H locs hP hD hS => ?_)
        have hP : va_P D vwCl [(pA, .inr (2, [.ref pAd, .ref pAx, .ref pAy, .int zn])), (pAd, .inl (cI, 32, .inl pd)), (pAx, .inl (cI, 32, .inl px)), (pAy, .inl (cI, 32, .inl py)), (zA, .inr (2, [.ref zAd, .ref zAx, .ref zAy, .int zn])), (zAd, .inl (cI, 32, .inl zd)), (zAx, .inl (cI, 32, .inl zx)), (zAy, .inl (cI, 32, .inl zy))] H := hP
        have hD : va_D A [(pA, .inr (2, [.ref pAd, .ref pAx, .ref pAy, .int zn])), (pAd, .inl (cI, 32, .inl pd)), (pAx, .inl (cI, 32, .inl px)), (pAy, .inl (cI, 32, .inl py)), (zA, .inr (2, [.ref zAd, .ref zAx, .ref zAy, .int zn])), (zAd, .inl (cI, 32, .inl zd)), (zAx, .inl (cI, 32, .inl zx)), (zAy, .inl (cI, 32, .inl zy))] := hD
        exact ret _ _ _ _ (pd, px, py, zn) hw hP hD hS dX3_copyFrom_47
      · have hw := hwB cb
        refine lv_aload_n hx hb dX3_copyFrom_10 rfl (lv_at hl 0 rfl) ?_
        refine lv_iload_n hx hb dX3_copyFrom_11 rfl (lv_at hl 2 rfl) ?_
        refine lv_aload_n hx hb dX3_copyFrom_12 rfl (lv_at hl 1 rfl) ?_
        refine va_get (D := D) (ci := 2) (v := .ref zAd) (C := RX3) (T := TX3) (N := 4) hx hb hts in_X3_copyFrom_X3 hown hK hP 4 rfl rfl 0 (by decide) (hts (.fieldLink RX3 9 "LiveHull$Points" "ids" "[I") (List.mem_of_getElem? (i := 2) rfl)) (fun _ h9 => h9) rfl dX3_copyFrom_13 ?_
        refine lv_iload_n hx hb dX3_copyFrom_16 rfl (lv_at hl 2 rfl) ?_
        obtain ⟨hi, hw⟩ := hw
        refine va_iald hx hb hK hP 5 0 rfl rfl hi dX3_copyFrom_17 ?_
        refine lv_aload_n hx hb dX3_copyFrom_18 rfl (lv_at hl 1 rfl) ?_
        refine va_get (D := D) (ci := 2) (v := .ref zAx) (C := RX3) (T := TX3) (N := 4) hx hb hts in_X3_copyFrom_X3 hown hK hP 4 rfl rfl 1 (by decide) (hts (.fieldLink RX3 15 "LiveHull$Points" "xs" "[I") (List.mem_of_getElem? (i := 3) rfl)) (fun _ h9 => h9) rfl dX3_copyFrom_19 ?_
        refine lv_iload_n hx hb dX3_copyFrom_22 rfl (lv_at hl 2 rfl) ?_
        obtain ⟨hi, hw⟩ := hw
        refine va_iald hx hb hK hP 6 0 rfl rfl hi dX3_copyFrom_23 ?_
        refine lv_aload_n hx hb dX3_copyFrom_24 rfl (lv_at hl 1 rfl) ?_
        refine va_get (D := D) (ci := 2) (v := .ref zAy) (C := RX3) (T := TX3) (N := 4) hx hb hts in_X3_copyFrom_X3 hown hK hP 4 rfl rfl 2 (by decide) (hts (.fieldLink RX3 18 "LiveHull$Points" "ys" "[I") (List.mem_of_getElem? (i := 4) rfl)) (fun _ h9 => h9) rfl dX3_copyFrom_25 ?_
        refine lv_iload_n hx hb dX3_copyFrom_28 rfl (lv_at hl 2 rfl) ?_
        obtain ⟨hi, hw⟩ := hw
        refine va_iald hx hb hK hP 7 0 rfl rfl hi dX3_copyFrom_29 ?_
        refine cl_Vv (As := [.int v2, .int (zd v2.toNatClampNeg), .int (zx v2.toNatClampNeg), .int (zy v2.toNatClampNeg)]) (rest := []) ⟨hx, hb, hml, hown, hts⟩ (c_X3_setRow l D cI cJ cZ cO pA pAd pAx pAy pd px py pn v2 (zd v2.toNatClampNeg) (zx v2.toNatClampNeg) (zy v2.toNatClampNeg) _ hw) (cwV 4 hts gX3_copyFrom_X3_setRow rfl rfl rfl hd_X3_setRow ⟨Nat.le_trans (Nat.le_of_ble_eq_true rfl) hRf, Nat.le_trans (Nat.le_of_ble_eq_true rfl) hRl⟩) hK hP hD hS hA [0, 1, 2, 3] [4, 5, 6, 7] rfl (by decide) rfl (by decide) (by decide) 0 2 rfl rfl rfl hl.1 rfl (Nat.le_of_ble_eq_true rfl) dX3_copyFrom_30 ⟨Nat.zero_le _, Nat.zero_le _⟩ (fun u H locs hw hP hD hS => ?_)
        obtain ⟨pd_30, px_30, py_30⟩ := u
        try dsimp only at hw
        have hP : va_P D vwCl [(pA, .inr (2, [.ref pAd, .ref pAx, .ref pAy, .int pn])), (pAd, .inl (cI, 32, .inl pd_30)), (pAx, .inl (cI, 32, .inl px_30)), (pAy, .inl (cI, 32, .inl py_30)), (zA, .inr (2, [.ref zAd, .ref zAx, .ref zAy, .int zn])), (zAd, .inl (cI, 32, .inl zd)), (zAx, .inl (cI, 32, .inl zx)), (zAy, .inl (cI, 32, .inl zy))] H := hP.sub [4, 5, 6, 7, 0, 1, 2, 3] rfl
        have hD : va_D A [(pA, .inr (2, [.ref pAd, .ref pAx, .ref pAy, .int pn])), (pAd, .inl (cI, 32, .inl pd_30)), (pAx, .inl (cI, 32, .inl px_30)), (pAy, .inl (cI, 32, .inl py_30)), (zA, .inr (2, [.ref zAd, .ref zAx, .ref zAy, .int zn])), (zAd, .inl (cI, 32, .inl zd)), (zAx, .inl (cI, 32, .inl zx)), (zAy, .inl (cI, 32, .inl zy))] := hD.sub [4, 5, 6, 7, 0, 1, 2, 3] (by decide) rfl
        refine lv_iinc (v := (v2 + 1)) (lv' := [(2, .int (v2 + 1)), (0, .ref pA), (1, .ref zA)]) hx hb dX3_copyFrom_33 hl (k := 2) rfl rfl (by decide) rfl (fun ls hl => ?_)
        refine lv_goto (tgt := 2) hx hb dX3_copyFrom_36 (by decide) ?_
        exact ih2 pd_30 px_30 py_30 (v2 + 1) hw _ _ _ hP hD hS (lv_sub hl [1, 2, 0] rfl)
  unfold wp_X3_copyFrom at hw
  refine lv_iconst (v := 0) hx hb dX3_copyFrom_0 (by decide) ?_
  refine lv_istore_n (lv' := [(2, .int 0), (0, .ref pA), (1, .ref zA)]) hx hb dX3_copyFrom_1 rfl hl (by decide) rfl (fun ls hl => ?_)
  obtain ⟨k, hw⟩ := hw
  exact N2 pn k pd px py 0 hw _ _ _ hP hD hS (lv_sub hl [1, 2, 0] rfl)
theorem in_X3_turn_X3 : ∀ w ∈ wsX30, w ∈ wsX3_turn := fun _ h => List.mem_cons_of_mem _ (List.mem_append_right _ h)
theorem hd_X3_turn : yX3_turn.cls = RX3 ∧ yX3_turn.cls ≠ "java/lang/invoke/MethodHandle" ∧ yX3_turn.cls ≠ "java/lang/invoke/VarHandle" ∧ (parseMethodDescriptor yX3_turn.desc).map (fun d => d.parameters.length) = some 4 := by decide +kernel
set_option maxHeartbeats 8000000 in
set_option maxRecDepth 100000 in
theorem c_X3_turn (l : Launch) (D : va_G) (cI cJ cZ cO : ClassId) (pA pAd pAx pAy : Nat) (pd : Nat → Int32) (px : Nat → Int32) (py : Nat → Int32) (pn : Int32) (v1 : Int32) (v2 : Int32) (v3 : Int32) (v4 : Int32) (K : Int64 → Prop) (hw : wp_X3_turn px py v1 v2 v3 v4 K) : Cl l D (tys4 cI cJ cZ cO) yX3_turn wsX3_turn { frames := 0, cells := 0, slots := 0, locals := 0 } [.ref pA, .int v1, .int v2, .int v3, .int v4] [(pA, .inr (2, [.ref pAd, .ref pAx, .ref pAy, .int pn])), (pAd, .inl (cI, 32, .inl pd)), (pAx, .inl (cI, 32, .inl px)), (pAy, .inl (cI, 32, .inl py))] (fun (r : Int64) (_ : Unit) => K r) (fun _ => [(pA, .inr (2, [.ref pAd, .ref pAx, .ref pAy, .int pn])), (pAd, .inl (cI, 32, .inl pd)), (pAx, .inl (cI, 32, .inl px)), (pAy, .inl (cI, 32, .inl py))]) := by
  refine mt_l (cc := cX3_turn) (maxL := 13) (by decide) rfl (Nat.le_of_ble_eq_true rfl) ?_
  intro p e s m args below meth c Q A R ls hRf hRl hx hb hml hown hts hK hA hP hD hS hl ret
  have hown : s.vm.findClass RX3 = some m.cls := hown
  have hl : lv_has ls 13 [(0, .ref pA), (1, .int v1), (2, .int v2), (3, .int v3), (4, .int v4)] := hl
  unfold wp_X3_turn at hw
  refine lv_aload_n hx hb dX3_turn_0 rfl (lv_at hl 0 rfl) ?_
  refine va_get (D := D) (ci := 2) (v := .ref pAx) (C := RX3) (T := TX3) (N := 4) hx hb hts in_X3_turn_X3 hown hK hP 0 rfl rfl 1 (by decide) (hts (.fieldLink RX3 15 "LiveHull$Points" "xs" "[I") (List.mem_of_getElem? (i := 1) rfl)) (fun _ h9 => h9) rfl dX3_turn_1 ?_
  refine lv_iload_n hx hb dX3_turn_4 rfl (lv_at hl 2 rfl) ?_
  obtain ⟨hi, hw⟩ := hw
  refine va_iald hx hb hK hP 2 0 rfl rfl hi dX3_turn_5 ?_
  refine lv_i2l hx hb dX3_turn_6 rfl ?_
  refine lv_aload_n hx hb dX3_turn_7 rfl (lv_at hl 0 rfl) ?_
  refine va_get (D := D) (ci := 2) (v := .ref pAx) (C := RX3) (T := TX3) (N := 4) hx hb hts in_X3_turn_X3 hown hK hP 0 rfl rfl 1 (by decide) (hts (.fieldLink RX3 15 "LiveHull$Points" "xs" "[I") (List.mem_of_getElem? (i := 1) rfl)) (fun _ h9 => h9) rfl dX3_turn_8 ?_
  refine lv_iload_n hx hb dX3_turn_11 rfl (lv_at hl 1 rfl) ?_
  obtain ⟨hi, hw⟩ := hw
  refine va_iald hx hb hK hP 2 0 rfl rfl hi dX3_turn_12 ?_
  refine lv_i2l hx hb dX3_turn_13 rfl ?_
  refine lv_lsub hx hb dX3_turn_14 ?_
  refine lv_lstore (lv' := [(5, .long ((px v2.toNatClampNeg).toInt64 - (px v1.toNatClampNeg).toInt64)), (0, .ref pA), (1, .int v1), (2, .int v2), (3, .int v3), (4, .int v4)]) hx hb dX3_turn_15 hl (by decide) rfl (fun ls hl => ?_)
  refine lv_aload_n hx hb dX3_turn_17 rfl (lv_at hl 1 rfl) ?_
  refine va_get (D := D) (ci := 2) (v := .ref pAy) (C := RX3) (T := TX3) (N := 4) hx hb hts in_X3_turn_X3 hown hK hP 0 rfl rfl 2 (by decide) (hts (.fieldLink RX3 18 "LiveHull$Points" "ys" "[I") (List.mem_of_getElem? (i := 2) rfl)) (fun _ h9 => h9) rfl dX3_turn_18 ?_
  refine lv_iload_n hx hb dX3_turn_21 rfl (lv_at hl 3 rfl) ?_
  obtain ⟨hi, hw⟩ := hw
  refine va_iald hx hb hK hP 3 0 rfl rfl hi dX3_turn_22 ?_
  refine lv_i2l hx hb dX3_turn_23 rfl ?_
  refine lv_aload_n hx hb dX3_turn_24 rfl (lv_at hl 1 rfl) ?_
  refine va_get (D := D) (ci := 2) (v := .ref pAy) (C := RX3) (T := TX3) (N := 4) hx hb hts in_X3_turn_X3 hown hK hP 0 rfl rfl 2 (by decide) (hts (.fieldLink RX3 18 "LiveHull$Points" "ys" "[I") (List.mem_of_getElem? (i := 2) rfl)) (fun _ h9 => h9) rfl dX3_turn_25 ?_
  refine lv_iload_n hx hb dX3_turn_28 rfl (lv_at hl 2 rfl) ?_
  obtain ⟨hi, hw⟩ := hw
  refine va_iald hx hb hK hP 3 0 rfl rfl hi dX3_turn_29 ?_
  refine lv_i2l hx hb dX3_turn_30 rfl ?_
  refine lv_lsub hx hb dX3_turn_31 ?_
  refine lv_lstore (lv' := [(7, .long ((py v2.toNatClampNeg).toInt64 - (py v1.toNatClampNeg).toInt64)), (5, .long ((px v2.toNatClampNeg).toInt64 - (px v1.toNatClampNeg).toInt64)), (0, .ref pA), (1, .int v1), (2, .int v2), (3, .int v3), (4, .int v4)]) hx hb dX3_turn_32 hl (by decide) rfl (fun ls hl => ?_)
  refine lv_iload_n hx hb dX3_turn_34 rfl (lv_at hl 5 rfl) ?_
  refine lv_i2l hx hb dX3_turn_35 rfl ?_
  refine lv_aload_n hx hb dX3_turn_36 rfl (lv_at hl 2 rfl) ?_
  refine va_get (D := D) (ci := 2) (v := .ref pAx) (C := RX3) (T := TX3) (N := 4) hx hb hts in_X3_turn_X3 hown hK hP 0 rfl rfl 1 (by decide) (hts (.fieldLink RX3 15 "LiveHull$Points" "xs" "[I") (List.mem_of_getElem? (i := 1) rfl)) (fun _ h9 => h9) rfl dX3_turn_37 ?_
  refine lv_iload_n hx hb dX3_turn_40 rfl (lv_at hl 3 rfl) ?_
  obtain ⟨hi, hw⟩ := hw
  refine va_iald hx hb hK hP 2 0 rfl rfl hi dX3_turn_41 ?_
  refine lv_i2l hx hb dX3_turn_42 rfl ?_
  refine lv_lsub hx hb dX3_turn_43 ?_
  refine lv_lstore (lv' := [(9, .long (v3.toInt64 - (px v1.toNatClampNeg).toInt64)), (7, .long ((py v2.toNatClampNeg).toInt64 - (py v1.toNatClampNeg).toInt64)), (5, .long ((px v2.toNatClampNeg).toInt64 - (px v1.toNatClampNeg).toInt64)), (0, .ref pA), (1, .int v1), (2, .int v2), (3, .int v3), (4, .int v4)]) hx hb dX3_turn_44 hl (by decide) rfl (fun ls hl => ?_)
  refine lv_iload hx hb dX3_turn_46 (lv_at hl 7 rfl) ?_
  refine lv_i2l hx hb dX3_turn_48 rfl ?_
  refine lv_aload_n hx hb dX3_turn_49 rfl (lv_at hl 3 rfl) ?_
  refine va_get (D := D) (ci := 2) (v := .ref pAy) (C := RX3) (T := TX3) (N := 4) hx hb hts in_X3_turn_X3 hown hK hP 0 rfl rfl 2 (by decide) (hts (.fieldLink RX3 18 "LiveHull$Points" "ys" "[I") (List.mem_of_getElem? (i := 2) rfl)) (fun _ h9 => h9) rfl dX3_turn_50 ?_
  refine lv_iload_n hx hb dX3_turn_53 rfl (lv_at hl 4 rfl) ?_
  obtain ⟨hi, hw⟩ := hw
  refine va_iald hx hb hK hP 3 0 rfl rfl hi dX3_turn_54 ?_
  refine lv_i2l hx hb dX3_turn_55 rfl ?_
  refine lv_lsub hx hb dX3_turn_56 ?_
  refine lv_lstore (lv' := [(11, .long (v4.toInt64 - (py v1.toNatClampNeg).toInt64)), (9, .long (v3.toInt64 - (px v1.toNatClampNeg).toInt64)), (7, .long ((py v2.toNatClampNeg).toInt64 - (py v1.toNatClampNeg).toInt64)), (5, .long ((px v2.toNatClampNeg).toInt64 - (px v1.toNatClampNeg).toInt64)), (0, .ref pA), (1, .int v1), (2, .int v2), (3, .int v3), (4, .int v4)]) hx hb dX3_turn_57 hl (by decide) rfl (fun ls hl => ?_)
  refine lv_lload hx hb dX3_turn_59 (lv_at hl 3 rfl) ?_
  refine lv_lload hx hb dX3_turn_61 (lv_at hl 0 rfl) ?_
  refine lv_lmul hx hb dX3_turn_63 ?_
  refine lv_lload hx hb dX3_turn_64 (lv_at hl 2 rfl) ?_
  refine lv_lload hx hb dX3_turn_66 (lv_at hl 1 rfl) ?_
  refine lv_lmul hx hb dX3_turn_68 ?_
  refine lv_lsub hx hb dX3_turn_69 ?_
  exact ret _ _ _ _ ((((px v2.toNatClampNeg).toInt64 - (px v1.toNatClampNeg).toInt64) * (v4.toInt64 - (py v1.toNatClampNeg).toInt64)) - (((py v2.toNatClampNeg).toInt64 - (py v1.toNatClampNeg).toInt64) * (v3.toInt64 - (px v1.toNatClampNeg).toInt64))) () hw hP hD hS dX3_turn_70
theorem in_X3_isBoxed_X3 : ∀ w ∈ wsX30, w ∈ wsX3_isBoxed := fun _ h => List.mem_cons_of_mem _ (List.mem_append_right _ h)
theorem hd_X3_isBoxed : yX3_isBoxed.cls = RX3 ∧ yX3_isBoxed.cls ≠ "java/lang/invoke/MethodHandle" ∧ yX3_isBoxed.cls ≠ "java/lang/invoke/VarHandle" ∧ (parseMethodDescriptor yX3_isBoxed.desc).map (fun d => d.parameters.length) = some 4 := by decide +kernel
set_option maxHeartbeats 8000000 in
set_option maxRecDepth 100000 in
theorem c_X3_isBoxed (l : Launch) (D : va_G) (cI cJ cZ cO : ClassId) (pA pAd pAx pAy : Nat) (pd : Nat → Int32) (px : Nat → Int32) (py : Nat → Int32) (pn : Int32) (v1 : Int32) (v2 : Int32) (v3 : Int32) (v4 : Int32) (K : Int32 → Prop) (hw : wp_X3_isBoxed px py v1 v2 v3 v4 K) : Ci l D (tys4 cI cJ cZ cO) yX3_isBoxed wsX3_isBoxed { frames := 1, cells := 0, slots := 0, locals := 14 } [.ref pA, .int v1, .int v2, .int v3, .int v4] [(pA, .inr (2, [.ref pAd, .ref pAx, .ref pAy, .int pn])), (pAd, .inl (cI, 32, .inl pd)), (pAx, .inl (cI, 32, .inl px)), (pAy, .inl (cI, 32, .inl py))] (fun (r : Int32) (_ : Unit) => K r) (fun _ => [(pA, .inr (2, [.ref pAd, .ref pAx, .ref pAy, .int pn])), (pAd, .inl (cI, 32, .inl pd)), (pAx, .inl (cI, 32, .inl px)), (pAy, .inl (cI, 32, .inl py))]) := by
  refine mt_i (cc := cX3_isBoxed) (maxL := 5) (rt := .boolean) (by decide) rfl (Nat.le_of_ble_eq_true rfl) ?_
  intro p e s m args below meth c Q A R ls hRf hRl hx hb hml hown hts hK hA hP hD hS hl ret
  have hown : s.vm.findClass RX3 = some m.cls := hown
  have hl : lv_has ls 5 [(0, .ref pA), (1, .int v1), (2, .int v2), (3, .int v3), (4, .int v4)] := hl
  unfold wp_X3_isBoxed at hw
  refine lv_iload_n hx hb dX3_isBoxed_0 rfl (lv_at hl 3 rfl) ?_
  refine lv_aload_n hx hb dX3_isBoxed_1 rfl (lv_at hl 0 rfl) ?_
  refine va_get (D := D) (ci := 2) (v := .ref pAx) (C := RX3) (T := TX3) (N := 4) hx hb hts in_X3_isBoxed_X3 hown hK hP 0 rfl rfl 1 (by decide) (hts (.fieldLink RX3 15 "LiveHull$Points" "xs" "[I") (List.mem_of_getElem? (i := 1) rfl)) (fun _ h9 => h9) rfl dX3_isBoxed_2 ?_
  refine lv_iload_n hx hb dX3_isBoxed_5 rfl (lv_at hl 1 rfl) ?_
  obtain ⟨hi, hw⟩ := hw
  refine va_iald hx hb hK hP 2 0 rfl rfl hi dX3_isBoxed_6 ?_
  refine lv_aload_n hx hb dX3_isBoxed_7 rfl (lv_at hl 0 rfl) ?_
  refine va_get (D := D) (ci := 2) (v := .ref pAx) (C := RX3) (T := TX3) (N := 4) hx hb hts in_X3_isBoxed_X3 hown hK hP 0 rfl rfl 1 (by decide) (hts (.fieldLink RX3 15 "LiveHull$Points" "xs" "[I") (List.mem_of_getElem? (i := 1) rfl)) (fun _ h9 => h9) rfl dX3_isBoxed_8 ?_
  refine lv_iload_n hx hb dX3_isBoxed_11 rfl (lv_at hl 2 rfl) ?_
  obtain ⟨hi, hw⟩ := hw
  refine va_iald hx hb hK hP 2 0 rfl rfl hi dX3_isBoxed_12 ?_
  refine va_mmin hx hb (hml.trans hl.1.symm) hown (hts (.methodLink RX3 40 Lib.Math.min.name) (List.mem_of_getElem? (i := 2) rfl)) (hts (.static Lib.Math.min.name) (List.mem_of_getElem? (i := 3) rfl)) (hts (.initialized "java/lang/Math") (List.mem_of_getElem? (i := 4) rfl)) (hts (.code Lib.Math.min.name Lib.Math.min.code 2 (some .int)) (List.mem_of_getElem? (i := 5) rfl)) (Nat.le_trans (Nat.le_of_ble_eq_true rfl) hRf) (Nat.le_trans (Nat.le_of_ble_eq_true rfl) hRl) (Nat.zero_le _) (Nat.zero_le _) dX3_isBoxed_13 ?_
  obtain ⟨hwA, hwB⟩ := hw
  refine lv_icmp_lt (tgt := 82) hx hb dX3_isBoxed_16 (by decide) (fun cb => ?_) (fun cb => ?_)
  · have hw := hwA cb
    refine lv_iconst (v := 0) hx hb dX3_isBoxed_82 (by decide) ?_
    exact ret _ _ _ _ 0 () rfl hw hP hD hS dX3_isBoxed_83
  · have hw := hwB cb
    refine lv_iload_n hx hb dX3_isBoxed_19 rfl (lv_at hl 3 rfl) ?_
    refine lv_aload_n hx hb dX3_isBoxed_20 rfl (lv_at hl 0 rfl) ?_
    refine va_get (D := D) (ci := 2) (v := .ref pAx) (C := RX3) (T := TX3) (N := 4) hx hb hts in_X3_isBoxed_X3 hown hK hP 0 rfl rfl 1 (by decide) (hts (.fieldLink RX3 15 "LiveHull$Points" "xs" "[I") (List.mem_of_getElem? (i := 1) rfl)) (fun _ h9 => h9) rfl dX3_isBoxed_21 ?_
    refine lv_iload_n hx hb dX3_isBoxed_24 rfl (lv_at hl 1 rfl) ?_
    obtain ⟨hi, hw⟩ := hw
    refine va_iald hx hb hK hP 2 0 rfl rfl hi dX3_isBoxed_25 ?_
    refine lv_aload_n hx hb dX3_isBoxed_26 rfl (lv_at hl 0 rfl) ?_
    refine va_get (D := D) (ci := 2) (v := .ref pAx) (C := RX3) (T := TX3) (N := 4) hx hb hts in_X3_isBoxed_X3 hown hK hP 0 rfl rfl 1 (by decide) (hts (.fieldLink RX3 15 "LiveHull$Points" "xs" "[I") (List.mem_of_getElem? (i := 1) rfl)) (fun _ h9 => h9) rfl dX3_isBoxed_27 ?_
    refine lv_iload_n hx hb dX3_isBoxed_30 rfl (lv_at hl 2 rfl) ?_
    obtain ⟨hi, hw⟩ := hw
    refine va_iald hx hb hK hP 2 0 rfl rfl hi dX3_isBoxed_31 ?_
    refine va_mmax hx hb (hml.trans hl.1.symm) hown (hts (.methodLink RX3 46 Lib.Math.max.name) (List.mem_of_getElem? (i := 6) rfl)) (hts (.static Lib.Math.max.name) (List.mem_of_getElem? (i := 7) rfl)) (hts (.initialized "java/lang/Math") (List.mem_of_getElem? (i := 4) rfl)) (hts (.code Lib.Math.max.name Lib.Math.max.code 2 (some .int)) (List.mem_of_getElem? (i := 8) rfl)) (Nat.le_trans (Nat.le_of_ble_eq_true rfl) hRf) (Nat.le_trans (Nat.le_of_ble_eq_true rfl) hRl) (Nat.zero_le _) (Nat.zero_le _) dX3_isBoxed_32 ?_
    obtain ⟨hwA, hwB⟩ := hw
    refine lv_icmp_gt (tgt := 82) hx hb dX3_isBoxed_35 (by decide) (fun cb => ?_) (fun cb => ?_)
    · have hw := hwA cb
      refine lv_iconst (v := 0) hx hb dX3_isBoxed_82 (by decide) ?_
      exact ret _ _ _ _ 0 () rfl hw hP hD hS dX3_isBoxed_83
    · have hw := hwB cb
      refine lv_iload hx hb dX3_isBoxed_38 (lv_at hl 4 rfl) ?_
      refine lv_aload_n hx hb dX3_isBoxed_40 rfl (lv_at hl 0 rfl) ?_
      refine va_get (D := D) (ci := 2) (v := .ref pAy) (C := RX3) (T := TX3) (N := 4) hx hb hts in_X3_isBoxed_X3 hown hK hP 0 rfl rfl 2 (by decide) (hts (.fieldLink RX3 18 "LiveHull$Points" "ys" "[I") (List.mem_of_getElem? (i := 9) rfl)) (fun _ h9 => h9) rfl dX3_isBoxed_41 ?_
      refine lv_iload_n hx hb dX3_isBoxed_44 rfl (lv_at hl 1 rfl) ?_
      obtain ⟨hi, hw⟩ := hw
      refine va_iald hx hb hK hP 3 0 rfl rfl hi dX3_isBoxed_45 ?_
      refine lv_aload_n hx hb dX3_isBoxed_46 rfl (lv_at hl 0 rfl) ?_
      refine va_get (D := D) (ci := 2) (v := .ref pAy) (C := RX3) (T := TX3) (N := 4) hx hb hts in_X3_isBoxed_X3 hown hK hP 0 rfl rfl 2 (by decide) (hts (.fieldLink RX3 18 "LiveHull$Points" "ys" "[I") (List.mem_of_getElem? (i := 9) rfl)) (fun _ h9 => h9) rfl dX3_isBoxed_47 ?_
      refine lv_iload_n hx hb dX3_isBoxed_50 rfl (lv_at hl 2 rfl) ?_
      obtain ⟨hi, hw⟩ := hw
      refine va_iald hx hb hK hP 3 0 rfl rfl hi dX3_isBoxed_51 ?_
      refine va_mmin hx hb (hml.trans hl.1.symm) hown (hts (.methodLink RX3 40 Lib.Math.min.name) (List.mem_of_getElem? (i := 2) rfl)) (hts (.static Lib.Math.min.name) (List.mem_of_getElem? (i := 3) rfl)) (hts (.initialized "java/lang/Math") (List.mem_of_getElem? (i := 4) rfl)) (hts (.code Lib.Math.min.name Lib.Math.min.code 2 (some .int)) (List.mem_of_getElem? (i := 5) rfl)) (Nat.le_trans (Nat.le_of_ble_eq_true rfl) hRf) (Nat.le_trans (Nat.le_of_ble_eq_true rfl) hRl) (Nat.zero_le _) (Nat.zero_le _) dX3_isBoxed_52 ?_
      obtain ⟨hwA, hwB⟩ := hw
      refine lv_icmp_lt (tgt := 82) hx hb dX3_isBoxed_55 (by decide) (fun cb => ?_) (fun cb => ?_)
      · have hw := hwA cb
        refine lv_iconst (v := 0) hx hb dX3_isBoxed_82 (by decide) ?_
        exact ret _ _ _ _ 0 () rfl hw hP hD hS dX3_isBoxed_83
      · have hw := hwB cb
        refine lv_iload hx hb dX3_isBoxed_58 (lv_at hl 4 rfl) ?_
        refine lv_aload_n hx hb dX3_isBoxed_60 rfl (lv_at hl 0 rfl) ?_
        refine va_get (D := D) (ci := 2) (v := .ref pAy) (C := RX3) (T := TX3) (N := 4) hx hb hts in_X3_isBoxed_X3 hown hK hP 0 rfl rfl 2 (by decide) (hts (.fieldLink RX3 18 "LiveHull$Points" "ys" "[I") (List.mem_of_getElem? (i := 9) rfl)) (fun _ h9 => h9) rfl dX3_isBoxed_61 ?_
        refine lv_iload_n hx hb dX3_isBoxed_64 rfl (lv_at hl 1 rfl) ?_
        obtain ⟨hi, hw⟩ := hw
        refine va_iald hx hb hK hP 3 0 rfl rfl hi dX3_isBoxed_65 ?_
        refine lv_aload_n hx hb dX3_isBoxed_66 rfl (lv_at hl 0 rfl) ?_
        refine va_get (D := D) (ci := 2) (v := .ref pAy) (C := RX3) (T := TX3) (N := 4) hx hb hts in_X3_isBoxed_X3 hown hK hP 0 rfl rfl 2 (by decide) (hts (.fieldLink RX3 18 "LiveHull$Points" "ys" "[I") (List.mem_of_getElem? (i := 9) rfl)) (fun _ h9 => h9) rfl dX3_isBoxed_67 ?_
        refine lv_iload_n hx hb dX3_isBoxed_70 rfl (lv_at hl 2 rfl) ?_
        obtain ⟨hi, hw⟩ := hw
        refine va_iald hx hb hK hP 3 0 rfl rfl hi dX3_isBoxed_71 ?_
        refine va_mmax hx hb (hml.trans hl.1.symm) hown (hts (.methodLink RX3 46 Lib.Math.max.name) (List.mem_of_getElem? (i := 6) rfl)) (hts (.static Lib.Math.max.name) (List.mem_of_getElem? (i := 7) rfl)) (hts (.initialized "java/lang/Math") (List.mem_of_getElem? (i := 4) rfl)) (hts (.code Lib.Math.max.name Lib.Math.max.code 2 (some .int)) (List.mem_of_getElem? (i := 8) rfl)) (Nat.le_trans (Nat.le_of_ble_eq_true rfl) hRf) (Nat.le_trans (Nat.le_of_ble_eq_true rfl) hRl) (Nat.zero_le _) (Nat.zero_le _) dX3_isBoxed_72 ?_
        obtain ⟨hwA, hwB⟩ := hw
        refine lv_icmp_gt (tgt := 82) hx hb dX3_isBoxed_75 (by decide) (fun cb => ?_) (fun cb => ?_)
        · have hw := hwA cb
          refine lv_iconst (v := 0) hx hb dX3_isBoxed_82 (by decide) ?_
          exact ret _ _ _ _ 0 () rfl hw hP hD hS dX3_isBoxed_83
        · have hw := hwB cb
          refine lv_iconst (v := 1) hx hb dX3_isBoxed_78 (by decide) ?_
          refine lv_goto (tgt := 83) hx hb dX3_isBoxed_79 (by decide) ?_
          exact ret _ _ _ _ 1 () rfl hw hP hD hS dX3_isBoxed_83
theorem in_X3_reach_X3 : ∀ w ∈ wsX30, w ∈ wsX3_reach := fun _ h => List.mem_cons_of_mem _ (List.mem_append_right _ h)
theorem hd_X3_reach : yX3_reach.cls = RX3 ∧ yX3_reach.cls ≠ "java/lang/invoke/MethodHandle" ∧ yX3_reach.cls ≠ "java/lang/invoke/VarHandle" ∧ (parseMethodDescriptor yX3_reach.desc).map (fun d => d.parameters.length) = some 3 := by decide +kernel
set_option maxHeartbeats 8000000 in
set_option maxRecDepth 100000 in
theorem c_X3_reach (l : Launch) (D : va_G) (cI cJ cZ cO : ClassId) (pA pAd pAx pAy : Nat) (pd : Nat → Int32) (px : Nat → Int32) (py : Nat → Int32) (pn : Int32) (v1 : Int32) (v2 : Int32) (v3 : Int32) (K : Int64 → Prop) (hw : wp_X3_reach px py v1 v2 v3 K) : Cl l D (tys4 cI cJ cZ cO) yX3_reach wsX3_reach { frames := 0, cells := 0, slots := 0, locals := 0 } [.ref pA, .int v1, .int v2, .int v3] [(pA, .inr (2, [.ref pAd, .ref pAx, .ref pAy, .int pn])), (pAd, .inl (cI, 32, .inl pd)), (pAx, .inl (cI, 32, .inl px)), (pAy, .inl (cI, 32, .inl py))] (fun (r : Int64) (_ : Unit) => K r) (fun _ => [(pA, .inr (2, [.ref pAd, .ref pAx, .ref pAy, .int pn])), (pAd, .inl (cI, 32, .inl pd)), (pAx, .inl (cI, 32, .inl px)), (pAy, .inl (cI, 32, .inl py))]) := by
  refine mt_l (cc := cX3_reach) (maxL := 4) (by decide) rfl (Nat.le_of_ble_eq_true rfl) ?_
  intro p e s m args below meth c Q A R ls hRf hRl hx hb hml hown hts hK hA hP hD hS hl ret
  have hown : s.vm.findClass RX3 = some m.cls := hown
  have hl : lv_has ls 4 [(0, .ref pA), (1, .int v1), (2, .int v2), (3, .int v3)] := hl
  unfold wp_X3_reach at hw
  refine lv_iload_n hx hb dX3_reach_0 rfl (lv_at hl 2 rfl) ?_
  refine lv_i2l hx hb dX3_reach_1 rfl ?_
  refine lv_aload_n hx hb dX3_reach_2 rfl (lv_at hl 0 rfl) ?_
  refine va_get (D := D) (ci := 2) (v := .ref pAx) (C := RX3) (T := TX3) (N := 4) hx hb hts in_X3_reach_X3 hown hK hP 0 rfl rfl 1 (by decide) (hts (.fieldLink RX3 15 "LiveHull$Points" "xs" "[I") (List.mem_of_getElem? (i := 1) rfl)) (fun _ h9 => h9) rfl dX3_reach_3 ?_
  refine lv_iload_n hx hb dX3_reach_6 rfl (lv_at hl 1 rfl) ?_
  obtain ⟨hi, hw⟩ := hw
  refine va_iald hx hb hK hP 2 0 rfl rfl hi dX3_reach_7 ?_
  refine lv_i2l hx hb dX3_reach_8 rfl ?_
  refine lv_lmul hx hb dX3_reach_9 ?_
  refine lv_iload_n hx hb dX3_reach_10 rfl (lv_at hl 3 rfl) ?_
  refine lv_i2l hx hb dX3_reach_11 rfl ?_
  refine lv_aload_n hx hb dX3_reach_12 rfl (lv_at hl 0 rfl) ?_
  refine va_get (D := D) (ci := 2) (v := .ref pAy) (C := RX3) (T := TX3) (N := 4) hx hb hts in_X3_reach_X3 hown hK hP 0 rfl rfl 2 (by decide) (hts (.fieldLink RX3 18 "LiveHull$Points" "ys" "[I") (List.mem_of_getElem? (i := 2) rfl)) (fun _ h9 => h9) rfl dX3_reach_13 ?_
  refine lv_iload_n hx hb dX3_reach_16 rfl (lv_at hl 1 rfl) ?_
  obtain ⟨hi, hw⟩ := hw
  refine va_iald hx hb hK hP 3 0 rfl rfl hi dX3_reach_17 ?_
  refine lv_i2l hx hb dX3_reach_18 rfl ?_
  refine lv_lmul hx hb dX3_reach_19 ?_
  refine lv_ladd hx hb dX3_reach_20 ?_
  exact ret _ _ _ _ ((v2.toInt64 * (px v1.toNatClampNeg).toInt64) + (v3.toInt64 * (py v1.toNatClampNeg).toInt64)) () hw hP hD hS dX3_reach_21
theorem in_X3_squaredDistance_X3 : ∀ w ∈ wsX30, w ∈ wsX3_squaredDistance := fun _ h => List.mem_cons_of_mem _ (List.mem_append_right _ h)
theorem hd_X3_squaredDistance : yX3_squaredDistance.cls = RX3 ∧ yX3_squaredDistance.cls ≠ "java/lang/invoke/MethodHandle" ∧ yX3_squaredDistance.cls ≠ "java/lang/invoke/VarHandle" ∧ (parseMethodDescriptor yX3_squaredDistance.desc).map (fun d => d.parameters.length) = some 3 := by decide +kernel
set_option maxHeartbeats 8000000 in
set_option maxRecDepth 100000 in
theorem c_X3_squaredDistance (l : Launch) (D : va_G) (cI cJ cZ cO : ClassId) (pA pAd pAx pAy : Nat) (pd : Nat → Int32) (px : Nat → Int32) (py : Nat → Int32) (pn : Int32) (v1 : Int32) (v2 : Int32) (v3 : Int32) (K : Int64 → Prop) (hw : wp_X3_squaredDistance px py v1 v2 v3 K) : Cl l D (tys4 cI cJ cZ cO) yX3_squaredDistance wsX3_squaredDistance { frames := 0, cells := 0, slots := 0, locals := 0 } [.ref pA, .int v1, .int v2, .int v3] [(pA, .inr (2, [.ref pAd, .ref pAx, .ref pAy, .int pn])), (pAd, .inl (cI, 32, .inl pd)), (pAx, .inl (cI, 32, .inl px)), (pAy, .inl (cI, 32, .inl py))] (fun (r : Int64) (_ : Unit) => K r) (fun _ => [(pA, .inr (2, [.ref pAd, .ref pAx, .ref pAy, .int pn])), (pAd, .inl (cI, 32, .inl pd)), (pAx, .inl (cI, 32, .inl px)), (pAy, .inl (cI, 32, .inl py))]) := by
  refine mt_l (cc := cX3_squaredDistance) (maxL := 8) (by decide) rfl (Nat.le_of_ble_eq_true rfl) ?_
  intro p e s m args below meth c Q A R ls hRf hRl hx hb hml hown hts hK hA hP hD hS hl ret
  have hown : s.vm.findClass RX3 = some m.cls := hown
  have hl : lv_has ls 8 [(0, .ref pA), (1, .int v1), (2, .int v2), (3, .int v3)] := hl
  unfold wp_X3_squaredDistance at hw
  refine lv_iload_n hx hb dX3_squaredDistance_0 rfl (lv_at hl 2 rfl) ?_
  refine lv_i2l hx hb dX3_squaredDistance_1 rfl ?_
  refine lv_aload_n hx hb dX3_squaredDistance_2 rfl (lv_at hl 0 rfl) ?_
  refine va_get (D := D) (ci := 2) (v := .ref pAx) (C := RX3) (T := TX3) (N := 4) hx hb hts in_X3_squaredDistance_X3 hown hK hP 0 rfl rfl 1 (by decide) (hts (.fieldLink RX3 15 "LiveHull$Points" "xs" "[I") (List.mem_of_getElem? (i := 1) rfl)) (fun _ h9 => h9) rfl dX3_squaredDistance_3 ?_
  refine lv_iload_n hx hb dX3_squaredDistance_6 rfl (lv_at hl 1 rfl) ?_
  obtain ⟨hi, hw⟩ := hw
  refine va_iald hx hb hK hP 2 0 rfl rfl hi dX3_squaredDistance_7 ?_
  refine lv_i2l hx hb dX3_squaredDistance_8 rfl ?_
  refine lv_lsub hx hb dX3_squaredDistance_9 ?_
  refine lv_lstore (lv' := [(4, .long (v2.toInt64 - (px v1.toNatClampNeg).toInt64)), (0, .ref pA), (1, .int v1), (2, .int v2), (3, .int v3)]) hx hb dX3_squaredDistance_10 hl (by decide) rfl (fun ls hl => ?_)
  refine lv_iload_n hx hb dX3_squaredDistance_12 rfl (lv_at hl 4 rfl) ?_
  refine lv_i2l hx hb dX3_squaredDistance_13 rfl ?_
  refine lv_aload_n hx hb dX3_squaredDistance_14 rfl (lv_at hl 1 rfl) ?_
  refine va_get (D := D) (ci := 2) (v := .ref pAy) (C := RX3) (T := TX3) (N := 4) hx hb hts in_X3_squaredDistance_X3 hown hK hP 0 rfl rfl 2 (by decide) (hts (.fieldLink RX3 18 "LiveHull$Points" "ys" "[I") (List.mem_of_getElem? (i := 2) rfl)) (fun _ h9 => h9) rfl dX3_squaredDistance_15 ?_
  refine lv_iload_n hx hb dX3_squaredDistance_18 rfl (lv_at hl 2 rfl) ?_
  obtain ⟨hi, hw⟩ := hw
  refine va_iald hx hb hK hP 3 0 rfl rfl hi dX3_squaredDistance_19 ?_
  refine lv_i2l hx hb dX3_squaredDistance_20 rfl ?_
  refine lv_lsub hx hb dX3_squaredDistance_21 ?_
  refine lv_lstore (lv' := [(6, .long (v3.toInt64 - (py v1.toNatClampNeg).toInt64)), (4, .long (v2.toInt64 - (px v1.toNatClampNeg).toInt64)), (0, .ref pA), (1, .int v1), (2, .int v2), (3, .int v3)]) hx hb dX3_squaredDistance_22 hl (by decide) rfl (fun ls hl => ?_)
  refine lv_lload hx hb dX3_squaredDistance_24 (lv_at hl 1 rfl) ?_
  refine lv_lload hx hb dX3_squaredDistance_26 (lv_at hl 1 rfl) ?_
  refine lv_lmul hx hb dX3_squaredDistance_28 ?_
  refine lv_lload hx hb dX3_squaredDistance_29 (lv_at hl 0 rfl) ?_
  refine lv_lload hx hb dX3_squaredDistance_31 (lv_at hl 0 rfl) ?_
  refine lv_lmul hx hb dX3_squaredDistance_33 ?_
  refine lv_ladd hx hb dX3_squaredDistance_34 ?_
  exact ret _ _ _ _ (((v2.toInt64 - (px v1.toNatClampNeg).toInt64) * (v2.toInt64 - (px v1.toNatClampNeg).toInt64)) + ((v3.toInt64 - (py v1.toNatClampNeg).toInt64) * (v3.toInt64 - (py v1.toNatClampNeg).toInt64))) () hw hP hD hS dX3_squaredDistance_35
end
