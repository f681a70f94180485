def DP (n i : Nat) (v : Int32) : Prop := (∃ k, 1 ≤ k ∧ k < i ∧ 0 < psz n k ∧ (∀ j, k < j → j < i → psz n j = 0) ∧ v = nI k.log2) ∨ ((∀ j, 1 ≤ j → j < i → psz n j = 0) ∧ v = -6)
theorem DP.uniq {n i : Nat} {v v' : Int32} (h : DP n i v) (h' : DP n i v') : v = v' := by
  rcases h with ⟨k, a, b, c, d, e⟩ | ⟨a, e⟩ <;> rcases h' with ⟨k', a', b', c', d', e'⟩ | ⟨a', e'⟩
  · have : k = k' := by
      apply Classical.byContradiction
      intro q
      rcases Nat.lt_or_ge k k' with w | w
      · have := d k' w b'; omega
      · have := d' k (by omega) b; omega
    subst this; rw [e, e']
  · have := a' k a b; omega
  · have := a k' a' b'; omega
  · rw [e, e']
def tlSp (px py : Nat → Int32) (n : Nat) (v r : Int32) : Prop := (v = 0 ∧ r = nI n) ∨ (v = 1 ∧ r = nI (ctb (isP n) 64)) ∨ (v = 2 ∧ r = nI (sumc (fC n px py) 64)) ∨ (v = 3 ∧ r = nI (sumc (fR n px py) 64)) ∨ (v = 4 ∧ DP n 64 r) ∨ ((¬ v = 0 ∧ ¬ v = 1 ∧ ¬ v = 2 ∧ ¬ v = 3 ∧ ¬ v = 4) ∧ r = -2)
theorem tlSp.uniq {px py : Nat → Int32} {n : Nat} {v r r' : Int32} (h : tlSp px py n v r) (h' : tlSp px py n v r') : r = r' := by
  rcases h with ⟨a, b⟩ | ⟨a, b⟩ | ⟨a, b⟩ | ⟨a, b⟩ | ⟨a, b⟩ | ⟨a, b⟩ <;> rcases h' with ⟨a', b'⟩ | ⟨a', b'⟩ | ⟨a', b'⟩ | ⟨a', b'⟩ | ⟨a', b'⟩ | ⟨a', b'⟩ <;>
    first
      | (rw [b, b']; done)
      | exact b.uniq b'
      | (exfalso; rw [a] at a'; exact absurd a' (by decide))
      | (exfalso; exact a.1 a')
      | (exfalso; exact a'.1 a)
      | (exfalso; exact a.2.1 a')
      | (exfalso; exact a'.2.1 a)
      | (exfalso; exact a.2.2.1 a')
      | (exfalso; exact a'.2.2.1 a)
      | (exfalso; exact a.2.2.2.1 a')
      | (exfalso; exact a'.2.2.2.1 a)
      | (exfalso; exact a.2.2.2.2 a')
      | (exfalso; exact a'.2.2.2.2 a)
theorem c_told {pd px py qf qs tr gr : Nat → Int32} {ts gs : Int32} {n : Nat} (hW : WF pd px py n) (hT : PT qf qs n) (v : Int32) {K : Int32 → (Nat → Int32) → Int32 → (Nat → Int32) → Int32 → Prop} (h : ∀ r tr' ts' gr' gs', tlSp px py n v r → K r tr' ts' gr' gs') : wp_X5_told px py (nI n) qf qs tr ts gr gs v K := by
  have hn := hW.1
  unfold wp_X5_told
  refine ⟨fun a => h _ _ _ _ _ (Or.inl ⟨a, rfl⟩), fun a0 => ⟨fun a => s_howMany hn hT (h _ _ _ _ _ (Or.inr (Or.inl ⟨a, rfl⟩))), fun a1 => ⟨fun a => s_cornersOfAll hW hT (fun tr' ts' => h _ _ _ _ _ (Or.inr (Or.inr (Or.inl ⟨a, rfl⟩)))), fun a2 => ⟨fun a => s_restsOfAll hW hT (fun tr' ts' gr' gs' => h _ _ _ _ _ (Or.inr (Or.inr (Or.inr (Or.inl ⟨a, rfl⟩))))), fun a3 => ⟨fun a => s_greatestDepth hn hT (fun k k1 k2 z hz => h _ _ _ _ _ (Or.inr (Or.inr (Or.inr (Or.inr (Or.inl ⟨a, Or.inl ⟨k, k1, k2, z, hz, rfl⟩⟩)))))) (fun hz => h _ _ _ _ _ (Or.inr (Or.inr (Or.inr (Or.inr (Or.inl ⟨a, Or.inr ⟨hz, rfl⟩⟩)))))), fun a4 => h _ _ _ _ _ (Or.inr (Or.inr (Or.inr (Or.inr (Or.inr ⟨⟨a0, a1, a2, a3, a4⟩, rfl⟩)))))⟩⟩⟩⟩⟩
theorem DP_s0 {n i : Nat} {v : Int32} (h : DP n i v) (hz : psz n i = 0) : DP n (i + 1) v := by
  rcases h with ⟨k, a, b, c, d, e⟩ | ⟨a, e⟩
  · refine Or.inl ⟨k, a, by omega, c, fun j q1 q2 => ?_, e⟩
    rcases Nat.lt_or_ge j i with w | w
    · exact d j q1 w
    · rw [show j = i by omega]; exact hz
  · refine Or.inr ⟨fun j q1 q2 => ?_, e⟩
    rcases Nat.lt_or_ge j i with w | w
    · exact a j q1 w
    · rw [show j = i by omega]; exact hz
theorem DP_n {n i : Nat} (hi : 1 ≤ i) (hz : 0 < psz n i) : DP n (i + 1) (nI i.log2) := Or.inl ⟨i, hi, by omega, hz, fun j a b => by omega, rfl⟩
theorem DP_k {n i : Nat} {v : Int32} (h : DP n i v) (hi : 1 ≤ i) (hi2 : i < 64) (hz : 0 < psz n i) (hv : nI i.log2 ≤ v) : DP n (i + 1) v := by
  rcases h with ⟨k, a, b, c, d, e⟩ | ⟨a, e⟩
  · have h1 := log_mono i hi2 k (by omega)
    have h2 := log2_s hi2
    rw [e, n_le (by omega) (by omega)] at hv
    have : v = nI i.log2 := by rw [e]; congr 1; omega
    rw [this]; exact DP_n hi hz
  · subst e
    have h2 := log2_s hi2
    rw [I_le, n_ti (by omega)] at hv
    have : (-6 : Int32).toInt = -6 := by decide
    omega
theorem s_toldIn {pd px py mx my mi : Nat → Int32} {n i : Nat} (hW : WF pd px py n) (hV : MV pd px py n mx my mi) (h1 : 1 ≤ i) (h2 : i < 64) (hz : 0 < psz n i) {v1 w2 w5 : Int32} {K : Int32 → (Nat → Int32) → (Nat → Int32) → Int32 → Int32 → Int32 → (Nat → Int32) → Int32 → Prop} {L : (Nat → Int32) → (Nat → Int32) → Int32 → Int32 → Int32 → (Nat → Int32) → Int32 → Int32 → Int32 → Int32 → Int32 → Int32 → Prop}
    {mr mo mc : Nat → Int32} {mf mt md mk w3 w4 : Int32}
    (h3 : v1 = 2 → w3 = nI (sumc (fC n px py) i)) (h4 : v1 = 3 → w4 = nI (sumc (fR n px py) i))
    (hL : ∀ mr mo f t d mc mk w3 w4, (v1 = 2 → w3 = nI (sumc (fC n px py) (i + 1))) → (v1 = 3 → w4 = nI (sumc (fR n px py) (i + 1))) → L mr mo f t d mc mk w2 w3 w4 w5 (nI (i + 1))) :
    ∃ k, wp_X6_told_68 mx my mi (nI n) v1 K L w2 w5 (nI i) k mr mo mf mt md mc mk w3 w4 0 := by
  have hn := hW.1
  by_cases q : v1 = 2 ∨ v1 = 3
  · have st : ∀ s (M : (Nat → Int32) → (Nat → Int32) → Int32 → Int32 → Int32 → (Nat → Int32) → Int32 → Int32 → Int32 → Int32 → Prop) (mr mo : Nat → Int32) (mf mt md : Int32) (mc : Nat → Int32) (mk w3 w4 : Int32), s ≤ 1 → (∀ mr mo f t d mc mk, M mr mo f t d mc mk (w3 + nI (pch n px py s i).length) (w4 + nI (if 2 ≤ i then (rst (pch n px py s i) (pch n px py s (i / 2))).length else 0)) (nI (s + 1))) → wp_X6_told_68b mx my mi (nI n) v1 K L M w2 w5 (nI i) mr mo mf mt md mc mk w3 w4 (nI s) := by
      intro s M mr mo mf mt md mc mk w3 w4 hs hM
      unfold wp_X6_told_68b
      have body : wp_X6_told_84 mx my mi (nI n) v1 K L M w2 w5 (nI i) mr mo mf mt md mc mk w3 w4 (nI s) := by
        unfold wp_X6_told_84
        refine s_cornersM (s := s) hW hV hs h1 h2 hz (K := fun r93 mr_90 mo_90 mf_90 mt_90 md_90 mc_90 mk_90 => ((nI i ≤ (1 : Int32) → (M mr_90 mo_90 mf_90 mt_90 md_90 mc_90 mk_90 (w3 + r93) (w4 + 0) (nI s + 1))) ∧ (¬ nI i ≤ (1 : Int32) → (wp_X6_restOf mx my mi (nI n) mr_90 mo_90 mf_90 mt_90 md_90 mc_90 mk_90 (nI i) (nI s) (fun r111 mr_111 mo_111 mf_111 mt_111 md_111 mc_111 mk_111 => (M mr_111 mo_111 mf_111 mt_111 md_111 mc_111 mk_111 (w3 + r93) (w4 + r111) (nI s + 1))))))) (fun mr' mo' f t d mc' mk' _ => ?_)
        rw [show (1 : Int32) = nI 1 from rfl, n_le (by omega) (by omega), show nI s + nI 1 = nI (s + 1) from nI_1 s]
        refine ⟨fun c => ?_, fun c => s_restOfM hW hV hs (by omega) h2 hz (fun mr' mo' f t d mc' mk' _ => ?_)⟩
        · have := hM mr' mo' f t d mc' mk'
          rw [if_neg (by omega)] at this
          exact this
        · have := hM mr' mo' f t d mc' mk'
          rw [if_pos (by omega)] at this
          exact this
      refine ⟨fun c => ?_, fun _ => ⟨fun _ => body, fun a => ⟨fun b => ?_, fun _ => body⟩⟩⟩
      · rw [show (2 : Int32) = nI 2 from rfl, n_le (by omega) (by omega)] at c; omega
      · rcases q with q | q
        · exact absurd q a
        · exact absurd q b
    refine ⟨3, wp_X6_told_68_s (st 0 _ _ _ _ _ _ _ _ _ _ (by omega) (fun mr mo f t d mc mk => wp_X6_told_68_s (st 1 _ _ _ _ _ _ _ _ _ _ (by omega) (fun mr mo f t d mc mk => wp_X6_told_68_s ?_))))⟩
    unfold wp_X6_told_68b
    refine ⟨fun _ => ?_, fun c => absurd (by decide) c⟩
    rw [nI_1]
    apply hL
    · intro e
      rw [h3 e, nI_add, nI_add]
      congr 1
      show _ = _ + fC n px py i
      unfold fC; rw [isP_t h1 hz, if_pos rfl]; omega
    · intro e
      rw [h4 e, nI_add, nI_add]
      congr 1
      show _ = _ + fR n px py i
      unfold fR; rw [isP_t h1 hz]
      by_cases c : 2 ≤ i
      · rw [if_pos c, if_pos c, decide_eq_true c]; simp; omega
      · rw [if_neg c, if_neg c, decide_eq_false c]; simp
  · have q2 : ¬ v1 = 2 := fun z => q (Or.inl z)
    have q3 : ¬ v1 = 3 := fun z => q (Or.inr z)
    refine ⟨1, wp_X6_told_68_s ?_⟩
    unfold wp_X6_told_68b
    rw [nI_1]
    have := hL mr mo mf mt md mc mk w3 w4 (fun z => absurd z q2) (fun z => absurd z q3)
    exact ⟨fun _ => this, fun _ => ⟨fun z => absurd z q2, fun _ => ⟨fun _ => this, fun z => absurd z q3⟩⟩⟩
theorem m_told {pd px py mx my mi mr mo mc : Nat → Int32} {mf mt md mk : Int32} {n : Nat} (hW : WF pd px py n) (hV : MV pd px py n mx my mi) (v : Int32) {K : Int32 → (Nat → Int32) → (Nat → Int32) → Int32 → Int32 → Int32 → (Nat → Int32) → Int32 → Prop} (h : ∀ r mr' mo' f t d mc' mk', tlSp px py n v r → K r mr' mo' f t d mc' mk') : wp_X6_told mx my mi (nI n) mr mo mf mt md mc mk v K := by
  have hn := hW.1
  unfold wp_X6_told
  refine s_in (fun a b => ⟨fun _ => ?_, fun c => absurd c one_ne⟩) (fun a => ⟨fun c => absurd rfl c, fun _ => h _ _ _ _ _ _ _ _ (Or.inr (Or.inr (Or.inr (Or.inr (Or.inr ⟨?_, rfl⟩)))))⟩)
  · obtain ⟨u, hu, hv⟩ := (v_in (m := 5) (by omega) v).1 a b
    have key : ∀ (d i : Nat) (mr mo : Nat → Int32) (mf mt md : Int32) (mc : Nat → Int32) (mk w3 w4 w5 : Int32), i + d = 64 → 1 ≤ i → (v = 2 → w3 = nI (sumc (fC n px py) i)) → (v = 3 → w4 = nI (sumc (fR n px py) i)) → DP n i w5 → wp_X6_told_26 mx my mi (nI n) v K (d + 1) mr mo mf mt md mc mk (nI (ctb (isP n) i)) w3 w4 w5 (nI i) := by
      intro d
      induction d with
      | zero =>
        intro i mr mo mf mt md mc mk w3 w4 w5 hi h1 h3 h4 h5
        refine wp_X6_told_26_s ?_
        unfold wp_X6_told_26b
        have hi64 : i = 64 := by omega
        subst hi64
        refine ⟨fun _ => ⟨fun a0 => ⟨fun a1 => ⟨fun a2 => ⟨fun a3 => ?_, fun e => ?_⟩, fun e => ?_⟩, fun e => ?_⟩, fun e => ?_⟩, fun c => absurd (by decide) c⟩
        · refine h _ _ _ _ _ _ _ _ (Or.inr (Or.inr (Or.inr (Or.inr (Or.inl ⟨?_, h5⟩)))))
          rw [hv]
          have : u = 0 ∨ u = 1 ∨ u = 2 ∨ u = 3 ∨ u = 4 := by omega
          rcases this with z | z | z | z | z <;> subst z
          · exact absurd hv a0
          · exact absurd hv a1
          · exact absurd hv a2
          · exact absurd hv a3
          · rfl
        · exact h _ _ _ _ _ _ _ _ (Or.inr (Or.inr (Or.inr (Or.inl ⟨e, h4 e⟩))))
        · exact h _ _ _ _ _ _ _ _ (Or.inr (Or.inr (Or.inl ⟨e, h3 e⟩)))
        · exact h _ _ _ _ _ _ _ _ (Or.inr (Or.inl ⟨e, rfl⟩))
        · exact h _ _ _ _ _ _ _ _ (Or.inl ⟨e, rfl⟩)
      | succ d ih =>
        intro i mr mo mf mt md mc mk w3 w4 w5 hi h1 h3 h4 h5
        refine wp_X6_told_26_s ?_
        unfold wp_X6_told_26b
        rw [nI_1, nI_1]
        refine ⟨fun c => by rw [show (64 : Int32) = nI 64 from rfl, n_le (by omega) (by omega)] at c; omega, fun _ => s_layPart hW hV _ (fun k mr1 mo1 k1 k2 e z hr => ⟨fun c => absurd c one_ne, fun _ => ?_⟩) (fun mr1 mo1 f t d hno hr => ⟨fun _ => ?_, fun c => absurd rfl c⟩)⟩
        · rw [n_eq (by omega) (by omega)] at e
          subst e
          have ec : ctb (isP n) (i + 1) = ctb (isP n) i + 1 := ctb_t (isP_t h1 z)
          refine ⟨fun c => s_toldIn hW hV h1 k2 z h3 h4 (fun mr mo f t d mc mk w3 w4 g3 g4 => ?_), fun c => s_toldIn hW hV h1 k2 z h3 h4 (fun mr mo f t d mc mk w3 w4 g3 g4 => ?_)⟩
          · rw [← ec]
            exact ih (i + 1) _ _ _ _ _ _ _ _ _ _ (by omega) (by omega) g3 g4 (DP_k h5 h1 k2 z c)
          · rw [← ec]
            exact ih (i + 1) _ _ _ _ _ _ _ _ _ _ (by omega) (by omega) g3 g4 (DP_n h1 z)
        · have hz := hno i h1 (by omega) rfl
          have ec : ctb (isP n) (i + 1) = ctb (isP n) i := ctb_f (isP_f hz)
          rw [← ec]
          refine ih (i + 1) _ _ _ _ _ _ _ _ _ _ (by omega) (by omega) (fun e => ?_) (fun e => ?_) (DP_s0 h5 hz)
          · rw [h3 e]; congr 1
            show _ = _ + fC n px py i
            unfold fC; rw [isP_f hz]; rfl
          · rw [h4 e]; congr 1
            show _ = _ + fR n px py i
            unfold fR; rw [isP_f hz]; rfl
    have e0 : isP n 0 = false := decide_eq_false (by omega)
    have := key 63 1 mr mo mf mt md mc mk 0 0 (-6) (by omega) (by omega) (fun _ => by show _ = nI (sumc (fC n px py) 0 + fC n px py 0); unfold fC; rw [e0]; rfl) (fun _ => by show _ = nI (sumc (fR n px py) 0 + fR n px py 0); unfold fR; rw [e0]; rfl) (Or.inr ⟨fun j a b => by omega, rfl⟩)
    rw [show ctb (isP n) 1 = 0 from by rw [ctb_f e0]; rfl] at this
    exact ⟨_, this⟩
  · have := (v_in (m := 5) (by omega) v).2 a
    exact ⟨this 0 (by omega), this 1 (by omega), this 2 (by omega), this 3 (by omega), this 4 (by omega)⟩
