def bt (w : Int64) (i : Nat) : Bool := w.toBitVec.getLsbD i
theorem sh_dec : ∀ i, i < 32 → (((nI i).toInt64 &&& 63).toBitVec.smod 64).toNat = i := by decide +kernel
theorem one_sh : ∀ i, i < 32 → ((1 : Int64) <<< ((nI i).toInt64 &&& 63)).toBitVec = BitVec.twoPow 64 i := by decide +kernel
theorem shr_bit (w : Int64) {i : Nat} (hi : i < 32) : (w >>> ((nI i).toInt64 &&& 63)) &&& 1 = if bt w i then 1 else 0 := by
  apply Int64.toBitVec_inj.mp
  rw [Int64.toBitVec_and, Int64.toBitVec_shiftRight]
  apply BitVec.eq_of_getLsbD_eq
  intro j hj
  rw [BitVec.getLsbD_and, BitVec.getLsbD_sshiftRight', sh_dec i hi, show (1 : Int64).toBitVec = 1#64 from rfl]
  unfold bt
  by_cases j0 : j = 0
  · subst j0
    cases hb : w.toBitVec.getLsbD i
    · simp [hb, show i < 64 by omega]
    · simp [hb, show i < 64 by omega]
  · have h1 : (1#64).getLsbD j = false := by simp [BitVec.getLsbD_one, j0]
    rw [h1, Bool.and_false]
    split
    · exact h1.symm
    · simp
theorem bt_or (v w : Int64) (i : Nat) : bt (v ||| w) i = (bt v i || bt w i) := by
  unfold bt; rw [Int64.toBitVec_or, BitVec.getLsbD_or]
theorem bt_sh {a i : Nat} (ha : a < 32) (hi : i < 32) : bt ((1 : Int64) <<< ((nI a).toInt64 &&& 63)) i = decide (a = i) := by
  unfold bt
  rw [one_sh a ha, BitVec.getLsbD_twoPow]
  by_cases h : a = i
  · subst h; simp; omega
  · simp [h]
theorem bt_0 (i : Nat) : bt 0 i = false := by
  unfold bt; simp
theorem bt_rest (v w : Int64) {i : Nat} (hi : i < 32) : bt (v &&& (w ^^^ (-1))) i = (bt v i && !bt w i) := by
  unfold bt
  rw [Int64.toBitVec_and, Int64.toBitVec_xor, BitVec.getLsbD_and, BitVec.getLsbD_xor, show (-1 : Int64).toBitVec = BitVec.allOnes 64 from rfl, BitVec.getLsbD_allOnes]
  simp [show i < 64 by omega]
theorem s_bits (w : Int64) {K : Int32 → Prop} (h : K (nI (ctb (bt w) 32))) : wp_X6_bits w K := by
  have key : ∀ (d i : Nat), i + d = 32 → wp_X6_bits_4 w K (d + 1) (nI (ctb (bt w) i)) (nI i) := by
    intro d
    induction d with
    | zero =>
      intro i hi
      refine wp_X6_bits_4_s ?_
      unfold wp_X6_bits_4b
      rw [show i = 32 by omega]
      exact ⟨fun _ => h, fun c => absurd (by decide) c⟩
    | succ d ih =>
      intro i hi
      refine wp_X6_bits_4_s ?_
      unfold wp_X6_bits_4b
      refine ⟨fun c => by rw [show (32 : Int32) = nI 32 from rfl, n_le (by omega) (by omega)] at c; omega, fun _ => ?_⟩
      rw [shr_bit w (by omega), nI_1]
      have := ih (i + 1) (by omega)
      cases hb : bt w i
      · rw [ctb_f hb] at this
        rw [if_neg (by simp), show (0 : Int64).toInt32 = nI 0 from rfl, nI_add]
        exact this
      · rw [ctb_t hb] at this
        rw [if_pos rfl, show (1 : Int64).toInt32 = nI 1 from rfl, nI_add]
        exact this
  unfold wp_X6_bits
  exact ⟨33, key 32 0 (by omega)⟩
def CS (pd : Nat → Int32) (l : List Nat) (w : Int64) : Prop := ∀ a, a < 32 → (bt w a = true ↔ ∃ r, r ∈ l ∧ ig pd r = a)
theorem s_cornerSet {pd px py mc : Nat → Int32} {n : Nat} {l : List Nat} (hW : WF pd px py n) (hm : ∀ r ∈ l, r < n) (hl : l.length ≤ 32) (hrp : rp pd mc l) {K : Int64 → Prop} (h : ∀ w, CS pd l w → K w) : wp_X6_cornerSet mc (nI l.length) K := by
  have key : ∀ (d i : Nat) (w : Int64), i + d = l.length → (∀ a, a < 32 → (bt w a = true ↔ ∃ j, j < i ∧ ig pd (atl l j) = a)) → wp_X6_cornerSet_4 mc (nI l.length) K (d + 1) w (nI i) := by
    intro d
    induction d with
    | zero =>
      intro i w hi hw
      refine wp_X6_cornerSet_4_s ?_
      unfold wp_X6_cornerSet_4b
      refine ⟨fun _ => h w (fun a ha => (hw a ha).trans ⟨fun z => ?_, fun z => ?_⟩), fun c => absurd ((n_le (by omega) (by omega)).mpr (by omega)) c⟩
      · obtain ⟨j, hj, e⟩ := z
        exact ⟨_, atl_mem (by omega), e⟩
      · obtain ⟨r, hr, e⟩ := z
        obtain ⟨j, hj, e2⟩ := mem_atl hr
        exact ⟨j, by omega, by rw [e2]; exact e⟩
    | succ d ih =>
      intro i w hi hw
      refine wp_X6_cornerSet_4_s ?_
      unfold wp_X6_cornerSet_4b
      have hr := hm _ (atl_mem (l := l) (i := i) (by omega))
      have hg := hW.2.1 _ hr
      rw [n_cl (by omega), rp_at hrp (by omega), nI_1]
      refine ⟨fun c => by rw [n_le (by omega) (by omega)] at c; omega, fun _ => ⟨n_in (by omega) (by omega), ih (i + 1) _ (by omega) (fun a ha => ?_)⟩⟩
      rw [bt_or, hg.2, bt_sh hg.1 ha, Bool.or_eq_true, hw a ha, decide_eq_true_iff]
      constructor
      · intro z
        rcases z with ⟨j, hj, e⟩ | z
        · exact ⟨j, by omega, e⟩
        · exact ⟨i, by omega, z⟩
      · intro ⟨j, hj, e⟩
        by_cases ji : j = i
        · right; rw [← ji]; exact e
        · left; exact ⟨j, by omega, e⟩
  unfold wp_X6_cornerSet
  exact ⟨l.length + 1, key l.length 0 0 (by omega) (fun a _ => by rw [bt_0]; simp)⟩
/-- how many ids a list of ranks has -/
def pl (pd : Nat → Int32) (l : List Nat) (a : Nat) : Bool := l.any (fun r => decide (ig pd r = a))
theorem pl_iff {pd : Nat → Int32} {l : List Nat} {a : Nat} : pl pd l a = true ↔ ∃ r, r ∈ l ∧ ig pd r = a := by
  unfold pl; simp [List.any_eq_true]
theorem pl_len {pd px py : Nat → Int32} {n : Nat} (hW : WF pd px py n) : ∀ l : List Nat, (∀ r ∈ l, r < n) → List.Pairwise (fun a b => b < a) l → ctb (pl pd l) 32 = l.length
  | [], _, _ => by
    have : ∀ m, ctb (pl pd []) m = 0 := by
      intro m
      induction m with
      | zero => rfl
      | succ m ih => rw [ctb_f (show pl pd [] m = false from rfl), ih]
    exact this 32
  | r :: t, hm, hp => by
    have ih := pl_len hW t (fun q hq => hm q (List.mem_cons_of_mem _ hq)) (List.Pairwise.of_cons hp)
    have hr := hm r List.mem_cons_self
    have hp0 : pl pd t (ig pd r) = false := by
      cases hc : pl pd t (ig pd r) with
      | false => rfl
      | true =>
        obtain ⟨q, hq, e⟩ := pl_iff.mp hc
        have h1 := hW.2.2.1 q r (hm q (List.mem_cons_of_mem _ hq)) hr e
        have h2 := (List.pairwise_cons.mp hp).1 q hq
        omega
    have hq0 : pl pd (r :: t) (ig pd r) = true := pl_iff.mpr ⟨r, List.mem_cons_self, rfl⟩
    rw [ctb_one hp0 hq0 (fun j _ hne => ?_), ih, if_pos (hW.2.1 r hr).1]
    · rfl
    · unfold pl
      rw [List.any_cons, decide_eq_false (fun z => hne z.symm), Bool.false_or]
theorem cs_pl {pd : Nat → Int32} {l : List Nat} {w : Int64} (h : CS pd l w) : ∀ a, a < 32 → bt w a = pl pd l a := fun a ha => by
  rw [Bool.eq_iff_iff, h a ha, pl_iff]
theorem cs_len {pd px py : Nat → Int32} {n : Nat} {l : List Nat} {w : Int64} (hW : WF pd px py n) (hm : ∀ r ∈ l, r < n) (hp : List.Pairwise (fun a b => b < a) l) (h : CS pd l w) : ctb (bt w) 32 = l.length := by
  rw [ctb_ext (cs_pl h), pl_len hW l hm hp]
def rst (l1 l2 : List Nat) : List Nat := l1.filter (fun r => !l2.contains r)
theorem cs_rest {pd px py : Nat → Int32} {n : Nat} {l1 l2 : List Nat} {w1 w2 : Int64} (hW : WF pd px py n) (hm1 : ∀ r ∈ l1, r < n) (hm2 : ∀ r ∈ l2, r < n) (hp : List.Pairwise (fun a b => b < a) l1) (h1 : CS pd l1 w1) (h2 : CS pd l2 w2) : ctb (bt (w1 &&& (w2 ^^^ (-1)))) 32 = (rst l1 l2).length := by
  rw [← pl_len hW (rst l1 l2) (fun r hr => hm1 r (List.mem_filter.mp hr).1) (hp.sublist List.filter_sublist)]
  apply ctb_ext
  intro a ha
  rw [bt_rest w1 w2 ha, Bool.eq_iff_iff, Bool.and_eq_true, h1 a ha, pl_iff]
  constructor
  · intro ⟨⟨r, hr, e⟩, hb⟩
    refine ⟨r, List.mem_filter.mpr ⟨hr, ?_⟩, e⟩
    cases hc : l2.contains r with
    | false => rfl
    | true =>
      have := (h2 a ha).mpr ⟨r, by simpa using hc, e⟩
      rw [this] at hb
      exact absurd hb (by decide)
  · intro ⟨r, hr, e⟩
    obtain ⟨a1, a2⟩ := List.mem_filter.mp hr
    refine ⟨⟨r, a1, e⟩, ?_⟩
    cases hb : bt w2 a with
    | false => rfl
    | true =>
      obtain ⟨q, hq, e2⟩ := (h2 a ha).mp hb
      have := hW.2.2.1 q r (hm2 q hq) (hm1 r a1) (by omega)
      rw [this] at hq
      rw [show l2.contains r = true by simpa using hq] at a2
      exact absurd a2 (by decide)
theorem ctb_atl (P : Nat → Bool) : ∀ l : List Nat, ctb (fun j => P (atl l j)) l.length = (l.filter P).length
  | [] => rfl
  | a :: t => by
    have e1 : ctb (fun j => P (atl (a :: t) j)) t.length = ctb (fun j => P (atl t j)) t.length := ctb_ext (fun j hj => by
      congr 1
      unfold atl
      rw [show (a :: t).length - 1 - j = (t.length - 1 - j) + 1 by simp; omega]
      simp)
    have e2 : atl (a :: t) t.length = a := by unfold atl; simp
    show ctb (fun j => P (atl (a :: t) j)) (t.length + 1) = _
    cases hp : P a
    · rw [ctb_f (by rw [e2]; exact hp), e1, ctb_atl P t, List.filter_cons_of_neg (by simp [hp])]
    · rw [ctb_t (by rw [e2]; exact hp), e1, ctb_atl P t, List.filter_cons_of_pos hp]; rfl
/-- the chain of a PART -/
def pch (n : Nat) (px py : Nat → Int32) (s k : Nat) : List Nat := chn s px py (pfs n k) (psz n k)
theorem pch_in {n : Nat} {px py : Nat → Int32} {s k : Nat} (hk : 1 ≤ k) (hz : 0 < psz n k) : (∀ r ∈ pch n px py s k, pfs n k ≤ r ∧ r < pfs n k + psz n k ∧ r < n) ∧ (pch n px py s k).length ≤ n := by
  have h := chn_in (s := s) (px := px) (py := py) (f := pfs n k) (c := psz n k)
  have h2 := pfs_le n hk hz
  exact ⟨fun r hr => by have := h.1 r hr; omega, by have := h.2; unfold pch; omega⟩
theorem s_chainSet {pd px py mx my mi mr mo mc : Nat → Int32} {mf mt md mk : Int32} {n s : Nat} (hW : WF pd px py n) (hV : MV pd px py n mx my mi) (hs : s ≤ 1) (v : Int32) {K : Int64 → (Nat → Int32) → (Nat → Int32) → Int32 → Int32 → Int32 → (Nat → Int32) → Int32 → Prop}
    (h1 : ∀ k w mr' mo' mc' mk', 1 ≤ k → k < 64 → v = nI k → 0 < psz n k → RK pd n mr' mo' → CS pd (pch n px py s k) w → K w mr' mo' (nI (pfs n k)) (nI (pfs n k + psz n k)) (nI k.log2) mc' mk')
    (h0 : ∀ mr' mo' f t d mc' mk', (∀ k, 1 ≤ k → k < 64 → v = nI k → psz n k = 0) → RK pd n mr' mo' → K 0 mr' mo' f t d mc' mk') : wp_X6_chainSet mx my mi (nI n) mr mo mf mt md mc mk v (nI s) K := by
  have hn := hW.1
  unfold wp_X6_chainSet
  refine s_layPart hW hV v (fun k mr' mo' k1 k2 e hz hr => ⟨fun _ => ?_, fun c => absurd c one_ne⟩) (fun mr' mo' f t d hno hr => ⟨fun c => absurd rfl c, fun _ => h0 mr' mo' f t d _ _ hno hr⟩)
  refine s_layChainW hW hV hr hs (pfs_le n k1 hz) (fun mc' hrp => ?_)
  have hin := pch_in (px := px) (py := py) (s := s) k1 hz
  refine s_cornerSet hW (fun r hr => (hin.1 r hr).2.2) (by have := hin.2; unfold pch at this; omega) hrp (fun w hw => h1 k w mr' mo' mc' _ k1 k2 e hz hr hw)
theorem s_restOfM {pd px py mx my mi mr mo mc : Nat → Int32} {mf mt md mk : Int32} {n s k : Nat} (hW : WF pd px py n) (hV : MV pd px py n mx my mi) (hs : s ≤ 1) (hk : 2 ≤ k) (hk2 : k < 64) (hz : 0 < psz n k) {K : Int32 → (Nat → Int32) → (Nat → Int32) → Int32 → Int32 → Int32 → (Nat → Int32) → Int32 → Prop}
    (h : ∀ mr' mo' f t d mc' mk', RK pd n mr' mo' → K (nI (rst (pch n px py s k) (pch n px py s (k / 2))).length) mr' mo' f t d mc' mk') : wp_X6_restOf mx my mi (nI n) mr mo mf mt md mc mk (nI k) (nI s) K := by
  have hn := hW.1
  have hz2 : 0 < psz n (k / 2) := by
    apply Nat.pos_of_ne_zero
    intro z
    obtain ⟨j, hj, _, e⟩ := p_halves hk
    have hj2 : k / 2 = j := by omega
    rw [hj2] at z
    rcases e with rfl | rfl
    · rw [psz_e n hj, z] at hz; simp at hz
    · rw [psz_o n hj, z] at hz; simp at hz
  unfold wp_X6_restOf
  refine ⟨fun _ => ?_, fun c => by rw [show (1 : Int32) = nI 1 from rfl, n_eq (by omega) (by omega)] at c; omega⟩
  rw [show (2 : Int32) = nI 2 from rfl, pk_div (by omega) (by omega) (by omega)]
  refine s_chainSet hW hV hs _ (fun k' w1 mr1 mo1 mc1 mk1 a1 a2 e hz1 r1 c1 => ?_) (fun mr' mo' f t d mc' mk' hno hr => ?_)
  · rw [n_eq (by omega) (by omega)] at e
    subst e
    refine s_chainSet hW hV hs _ (fun k' w2 mr2 mo2 mc2 mk2 b1 b2 e hz2' r2 c2 => ?_) (fun mr' mo' f t d mc' mk' hno hr => ?_)
    · rw [n_eq (by omega) (by omega)] at e
      subst e
      refine s_bits _ ?_
      rw [cs_rest hW (fun r hr => ((pch_in a1 hz1).1 r hr).2.2) (fun r hr => ((pch_in b1 hz2').1 r hr).2.2) chn_dec c1 c2]
      exact h _ _ _ _ _ _ _ r2
    · have := hno (k / 2) (by omega) (by omega) rfl
      omega
  · have := hno k (by omega) hk2 rfl
    omega
theorem log_mono : ∀ k, k < 64 → ∀ j, j ≤ k → Nat.log2 j ≤ Nat.log2 k := by decide +kernel
def TOPv (n : Nat) (px py : Nat → Int32) (s r : Nat) (v : Int32) : Prop :=
  (∃ k, 1 ≤ k ∧ k < 64 ∧ 0 < psz n k ∧ r ∈ pch n px py s k ∧ (∀ j, 1 ≤ j → j < k → ¬ (0 < psz n j ∧ r ∈ pch n px py s j)) ∧ v = nI k.log2) ∨ ((∀ j, 1 ≤ j → j < 64 → ¬ (0 < psz n j ∧ r ∈ pch n px py s j)) ∧ v = -6)
theorem TOPv.uniq {n : Nat} {px py : Nat → Int32} {s r : Nat} {v w : Int32} (h1 : TOPv n px py s r v) (h2 : TOPv n px py s r w) : v = w := by
  rcases h1 with ⟨k, a1, a2, a3, a4, a5, a6⟩ | ⟨a1, a2⟩ <;> rcases h2 with ⟨j, b1, b2, b3, b4, b5, b6⟩ | ⟨b1, b2⟩
  · have : k = j := by
      rcases Nat.lt_trichotomy k j with q | q | q
      · exact absurd ⟨a3, a4⟩ (b5 k a1 q)
      · exact q
      · exact absurd ⟨b3, b4⟩ (a5 j b1 q)
    rw [a6, b6, this]
  · exact absurd ⟨a3, a4⟩ (b1 k a1 a2)
  · exact absurd ⟨b3, b4⟩ (a1 j b1 b2)
  · rw [a2, b2]
theorem s_topOfM {pd px py mx my mi mr mo mc : Nat → Int32} {mf mt md mk : Int32} {n s r : Nat} (hW : WF pd px py n) (hV : MV pd px py n mx my mi) (hs : s ≤ 1) (hr : r < n) {K : Int32 → (Nat → Int32) → (Nat → Int32) → Int32 → Int32 → Int32 → (Nat → Int32) → Int32 → Prop}
    (h : ∀ v mr' mo' f t d mc' mk', TOPv n px py s r v → K v mr' mo' f t d mc' mk') : wp_X6_topOf mx my mi (nI n) mr mo mf mt md mc mk (pd r) (nI s) K := by
  have hn := hW.1
  have hg := hW.2.1 r hr
  have key : ∀ (i : Nat) (mr mo : Nat → Int32) (mf mt md : Int32) (mc : Nat → Int32) (mk : Int32) (v : Int32), i < 64 → ((∃ k, i < k ∧ k < 64 ∧ 0 < psz n k ∧ r ∈ pch n px py s k ∧ (∀ j, i < j → j < k → ¬ (0 < psz n j ∧ r ∈ pch n px py s j)) ∧ v = nI k.log2) ∨ ((∀ j, i < j → j < 64 → ¬ (0 < psz n j ∧ r ∈ pch n px py s j)) ∧ v = -6)) → wp_X6_topOf_7 mx my mi (nI n) (pd r) (nI s) K (i + 1) mr mo mf mt md mc mk v (nI i) := by
    intro i
    induction i with
    | zero =>
      intro mr mo mf mt md mc mk v hi hv
      refine wp_X6_topOf_7_s ?_
      unfold wp_X6_topOf_7b
      refine ⟨fun _ => h _ _ _ _ _ _ _ _ ?_, fun c => absurd (by decide) c⟩
      rcases hv with ⟨k, a1, a2, a3, a4, a5, a6⟩ | ⟨a1, a2⟩
      · exact Or.inl ⟨k, a1, a2, a3, a4, fun j j1 j2 => a5 j (by omega) j2, a6⟩
      · exact Or.inr ⟨fun j j1 j2 => a1 j (by omega) j2, a2⟩
    | succ i ih =>
      intro mr mo mf mt md mc mk v hi hv
      refine wp_X6_topOf_7_s ?_
      unfold wp_X6_topOf_7b
      rw [n_m1]
      have noQ : ¬ (0 < psz n (i + 1) ∧ r ∈ pch n px py s (i + 1)) → ((∃ k, i < k ∧ k < 64 ∧ 0 < psz n k ∧ r ∈ pch n px py s k ∧ (∀ j, i < j → j < k → ¬ (0 < psz n j ∧ r ∈ pch n px py s j)) ∧ v = nI k.log2) ∨ ((∀ j, i < j → j < 64 → ¬ (0 < psz n j ∧ r ∈ pch n px py s j)) ∧ v = -6)) := by
        intro hq
        rcases hv with ⟨k, a1, a2, a3, a4, a5, a6⟩ | ⟨a1, a2⟩
        · refine Or.inl ⟨k, by omega, a2, a3, a4, fun j j1 j2 => ?_, a6⟩
          by_cases e : j = i + 1
          · rw [e]; exact hq
          · exact a5 j (by omega) j2
        · refine Or.inr ⟨fun j j1 j2 => ?_, a2⟩
          by_cases e : j = i + 1
          · rw [e]; exact hq
          · exact a1 j (by omega) j2
      refine ⟨fun c => by rw [show (0 : Int32) = nI 0 from rfl, n_le (by omega) (by omega)] at c; omega, fun _ => s_chainSet hW hV hs _ (fun k w mr' mo' mc' mk' k1 k2 e hz hR hC => ?_) (fun mr' mo' f t d mc' mk' hno hR => ?_)⟩
      · rw [n_eq (by omega) (by omega)] at e
        subst e
        rw [show (w >>> ((pd r).toInt64 &&& 63)) &&& 1 = (if bt w (ig pd r) then 1 else 0) by rw [hg.2]; exact shr_bit w hg.1]
        have hbit := hC (ig pd r) hg.1
        have hmem : bt w (ig pd r) = true ↔ r ∈ pch n px py s (i + 1) := by
          rw [hbit]
          constructor
          · intro ⟨q, hq, e⟩
            have := hW.2.2.1 q r ((pch_in k1 hz).1 q hq).2.2 hr e
            rw [← this]; exact hq
          · intro hq; exact ⟨r, hq, rfl⟩
        refine ⟨fun c => ih _ _ _ _ _ _ _ _ (by omega) (noQ (fun z => c ?_)), fun c => ?_⟩
        · rw [if_pos (hmem.mpr z.2)]
        · have hQ : r ∈ pch n px py s (i + 1) := by
            apply hmem.mp
            cases hb : bt w (ig pd r) with
            | true => rfl
            | false => rw [hb] at c; exact absurd c (by decide)
          have fin : ∀ x, x = nI (i + 1).log2 → (∃ k, i < k ∧ k < 64 ∧ 0 < psz n k ∧ r ∈ pch n px py s k ∧ (∀ j, i < j → j < k → ¬ (0 < psz n j ∧ r ∈ pch n px py s j)) ∧ x = nI k.log2) ∨ ((∀ j, i < j → j < 64 → ¬ (0 < psz n j ∧ r ∈ pch n px py s j)) ∧ x = -6) := fun x hx => Or.inl ⟨i + 1, by omega, hi, hz, hQ, fun j j1 j2 => by omega, hx⟩
          refine ⟨fun _ => ih _ _ _ _ _ _ _ _ (by omega) (fin _ rfl), fun c2 => ⟨fun c3 => ih _ _ _ _ _ _ _ _ (by omega) (fin _ ?_), fun _ => ih _ _ _ _ _ _ _ _ (by omega) (fin _ rfl)⟩⟩
          rcases hv with ⟨k, a1, a2, a3, a4, a5, a6⟩ | ⟨a1, a2⟩
          · have l1 := log2_s hi
            have l2 := log2_s a2
            rw [a6, n_le (by omega) (by omega)] at c3
            have := log_mono k a2 (i + 1) (by omega)
            rw [a6]
            congr 1
            omega
          · rw [a2] at c2
            exact absurd (by decide) c2
      · rw [show ((0 : Int64) >>> ((pd r).toInt64 &&& 63)) &&& 1 = (if bt 0 (ig pd r) then 1 else 0) by rw [hg.2]; exact shr_bit 0 hg.1, bt_0]
        refine ⟨fun _ => ih _ _ _ _ _ _ _ _ (by omega) (noQ (fun z => ?_)), fun c => absurd c (by decide)⟩
        have := hno (i + 1) (by omega) hi rfl
        omega
  unfold wp_X6_topOf
  exact ⟨64, key 63 mr mo mf mt md mc mk (-6) (by omega) (Or.inr ⟨fun j j1 j2 => by omega, rfl⟩)⟩
