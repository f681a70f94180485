theorem s_hasC {tr : Nat → Int32} {l : List Nat} {r : Nat} (hl : l.length ≤ 32) (hr : r < 32) (hrp : rp nI tr l) (hm : ∀ a ∈ l, a < 32) {K : Int32 → Prop} (h1 : r ∈ l → K 1) (h0 : ¬ r ∈ l → K 0) : wp_X1_has tr (nI l.length) (nI r) K := by
  have key : ∀ (d i : Nat), i + d = l.length → (∀ j, j < i → ¬ atl l j = r) → wp_X1_has_2 tr (nI l.length) (nI r) K (d + 1) (nI i) := by
    intro d
    induction d with
    | zero =>
      intro i hi hj
      refine wp_X1_has_2_s ?_
      unfold wp_X1_has_2b
      refine ⟨fun _ => h0 (fun z => ?_), fun c => absurd ((n_le (by omega) (by omega)).mpr (by omega)) c⟩
      obtain ⟨j, hj1, e⟩ := mem_atl z
      exact hj j (by omega) e
    | succ d ih =>
      intro i hi hj
      refine wp_X1_has_2_s ?_
      unfold wp_X1_has_2b
      have ha := hm _ (atl_mem (l := l) (i := i) (by omega))
      rw [n_cl (by omega), rp_at hrp (by omega), n_eq (by omega) (by omega), nI_1]
      refine ⟨fun c => by rw [n_le (by omega) (by omega)] at c; omega, fun _ => ⟨n_in (by omega) (by omega), fun c => ih (i + 1) (by omega) (fun j hj2 => ?_), fun c => h1 ?_⟩⟩
      · by_cases e : j = i
        · rw [e]; exact c
        · exact hj j (by omega)
      · rw [← c]; exact atl_mem (by omega)
  unfold wp_X1_has
  exact ⟨l.length + 1, key l.length 0 (by omega) (fun j hj => by omega)⟩
theorem s_rankAt {tr : Nat → Int32} {l : List Nat} (hl : l.length ≤ 32) (hrp : rp nI tr l) (v : Int32) {K : Int32 → Prop} (h1 : ∀ i, i < l.length → v = nI i → K (nI (atl l i))) (h0 : (∀ i, i < l.length → ¬ v = nI i) → K (-6)) : wp_X1_rankAt tr (nI l.length) v K := by
  unfold wp_X1_rankAt
  by_cases c : v < 0
  · have : K (-6) := h0 (fun i hi e => by rw [e] at c; exact n_ge0 (by omega) c)
    exact ⟨fun _ => this, fun d => absurd c d⟩
  · refine ⟨fun d => absurd d c, fun _ => ?_⟩
    obtain ⟨j, hj, rfl⟩ := n_of c
    rw [nI_leI (by omega) hj]
    refine ⟨fun d => h0 (fun i hi e => ?_), fun d => ?_⟩
    · rw [nI_eq hj (by omega)] at e; omega
    · rw [n_cl (by omega), rp_at hrp (by omega)]
      exact ⟨n_in (by omega) (by omega), h1 j (by omega) rfl⟩
theorem s_traceP {pd px py qf qs nr : Nat → Int32} {ns : Int32} {n s k : Nat} (hW : WF pd px py n) (hT : PT qf qs n) (hs : s ≤ 1) (hk : 1 ≤ k) (hk2 : k < 64) (hz : 0 < psz n k) {K : (Nat → Int32) → Int32 → Prop} (h : ∀ nr', rp nI nr' (pch n px py s k) → K nr' (nI (pch n px py s k).length)) : wp_X5_trace px py qf qs nr ns (nI k) (nI s) K := by
  unfold wp_X5_trace
  rw [n_cl (by omega), (hT k hk hk2).1, (hT k hk hk2).2]
  exact ⟨n_in (by omega) (by omega), n_in (by omega) (by omega), s_traceW hW hs (pfs_le n hk hz) h⟩
theorem s_cornersOf {pd px py qf qs tr : Nat → Int32} {ts : Int32} {n s k : Nat} (hW : WF pd px py n) (hT : PT qf qs n) (hs : s ≤ 1) (hk : 1 ≤ k) (hk2 : k < 64) (hz : 0 < psz n k) {K : Int32 → (Nat → Int32) → Int32 → Prop} (h : ∀ tr' ts', K (nI (pch n px py s k).length) tr' ts') : wp_X5_cornersOf px py qf qs tr ts (nI k) (nI s) K := by
  unfold wp_X5_cornersOf
  exact s_traceP hW hT hs hk hk2 hz (fun nr' _ => h nr' _)
theorem p_up {n k : Nat} (hk : 2 ≤ k) (hz : 0 < psz n k) : 0 < psz n (k / 2) := by
  apply Nat.pos_of_ne_zero
  intro z
  obtain ⟨j, hj, _, e⟩ := p_halves hk
  have hj2 : k / 2 = j := by omega
  rw [hj2] at z
  rcases e with rfl | rfl
  · rw [psz_e n hj, z] at hz; simp at hz
  · rw [psz_o n hj, z] at hz; simp at hz
theorem s_restOfC {pd px py qf qs tr gr : Nat → Int32} {ts gs : Int32} {n s k : Nat} (hW : WF pd px py n) (hT : PT qf qs n) (hs : s ≤ 1) (hk : 2 ≤ k) (hk2 : k < 64) (hz : 0 < psz n k) {K : Int32 → (Nat → Int32) → Int32 → (Nat → Int32) → Int32 → Prop} (h : ∀ tr' ts' gr' gs', K (nI (rst (pch n px py s k) (pch n px py s (k / 2))).length) tr' ts' gr' gs') : wp_X5_restOf px py qf qs tr ts gr gs (nI k) (nI s) K := by
  have hn := hW.1
  have hz2 := p_up hk hz
  unfold wp_X5_restOf
  rw [show (2 : Int32) = nI 2 from rfl, pk_div (by omega) (by omega) (by omega)]
  refine s_traceP hW hT hs (by omega) hk2 hz (fun tr' r1 => s_traceP hW hT hs (by omega) (by omega) hz2 (fun gr' r2 => ?_))
  have i1 := pch_in (px := px) (py := py) (s := s) (show 1 ≤ k by omega) hz
  have i2 := pch_in (px := px) (py := py) (s := s) (show 1 ≤ k / 2 by omega) hz2
  generalize pch n px py s k = l1 at *
  generalize pch n px py s (k / 2) = l2 at *
  have key : ∀ (d i : Nat), i + d = l1.length → wp_X5_restOf_27 px py qf qs (nI k) (nI s) K tr' (nI l1.length) gr' (nI l2.length) (d + 1) (nI (ctb (fun j => !l2.contains (atl l1 j)) i)) (nI i) := by
    intro d
    induction d with
    | zero =>
      intro i hi
      refine wp_X5_restOf_27_s ?_
      unfold wp_X5_restOf_27b
      refine ⟨fun _ => ?_, fun c => absurd ((n_le (by omega) (by omega)).mpr (by omega)) c⟩
      rw [show i = l1.length by omega, ctb_atl (fun r => !l2.contains r) l1]
      exact h _ _ _ _
    | succ d ih =>
      intro i hi
      refine wp_X5_restOf_27_s ?_
      unfold wp_X5_restOf_27b
      have ha := i1.1 _ (atl_mem (l := l1) (i := i) (by omega))
      have := ih (i + 1) (by omega)
      rw [n_cl (by omega), rp_at r1 (by omega), nI_1]
      refine ⟨fun c => by rw [n_le (by omega) (by omega)] at c; omega, fun _ => ⟨n_in (by omega) (by omega), s_hasC (by omega) (by omega) r2 (fun a hal => by have := i2.1 a hal; omega) (fun c => ⟨fun _ => ?_, fun q => absurd q one_ne⟩) (fun c => ⟨fun q => absurd rfl q, fun _ => ?_⟩)⟩⟩
      · rw [ctb_f (by simpa using c)] at this
        exact this
      · rw [ctb_t (by simpa using c)] at this
        rw [nI_1]
        exact this
  exact ⟨l1.length + 1, key l1.length 0 (by omega)⟩
theorem s_topOfC {pd px py qf qs tr : Nat → Int32} {ts : Int32} {n s r : Nat} (hW : WF pd px py n) (hT : PT qf qs n) (hs : s ≤ 1) (hr : r < n) {K : Int32 → (Nat → Int32) → Int32 → Prop} (h : ∀ v tr' ts', TOPv n px py s r v → K v tr' ts') : wp_X5_topOf px py qf qs tr ts (nI r) (nI s) K := by
  have hn := hW.1
  have key : ∀ (d i : Nat) (tr : Nat → Int32) (ts : Int32), i + d = 64 → 1 ≤ i → (∀ j, 1 ≤ j → j < i → ¬ (0 < psz n j ∧ r ∈ pch n px py s j)) → wp_X5_topOf_2 px py qf qs (nI r) (nI s) K (d + 1) tr ts (nI i) := by
    intro d
    induction d with
    | zero =>
      intro i tr ts hi h1 hj
      refine wp_X5_topOf_2_s ?_
      unfold wp_X5_topOf_2b
      refine ⟨fun _ => h _ _ _ (Or.inr ⟨fun j a b => hj j a (by omega), rfl⟩), fun c => absurd ?_ c⟩
      rw [show (63 : Int32) = nI 63 from rfl, n_lt (by omega) (by omega)]; omega
    | succ d ih =>
      intro i tr ts hi h1 hj
      refine wp_X5_topOf_2_s ?_
      unfold wp_X5_topOf_2b
      rw [nI_1]
      have next : ∀ tr ts, ¬ (0 < psz n i ∧ r ∈ pch n px py s i) → wp_X5_topOf_2 px py qf qs (nI r) (nI s) K (d + 1) tr ts (nI (i + 1)) := fun tr ts hq => ih (i + 1) tr ts (by omega) (by omega) (fun j a b => by
        by_cases e : j = i
        · rw [e]; exact hq
        · exact hj j a (by omega))
      refine ⟨fun c => by rw [show (63 : Int32) = nI 63 from rfl, n_lt (by omega) (by omega)] at c; omega, fun _ => s_holds hn hT h1 (by omega) (by omega) (fun a b c => ⟨fun q => absurd q one_ne, fun _ => ?_⟩) (fun c => ⟨fun _ => next _ _ (fun z => c ?_), fun q => absurd rfl q⟩)⟩
      · have i1 := pch_in (px := px) (py := py) (s := s) h1 a
        refine s_traceP hW hT hs h1 (by omega) a (fun tr' r1 => s_hasC (by omega) (by omega) r1 (fun q hq => by have := i1.1 q hq; omega) (fun hm => ⟨fun q => absurd q one_ne, fun _ => s_depthOf h1 (by omega) (h _ _ _ (Or.inl ⟨i, h1, by omega, a, hm, hj, rfl⟩))⟩) (fun hm => ⟨fun _ => next _ _ (fun z => hm z.2), fun q => absurd rfl q⟩))
      · have i1 := (pch_in (px := px) (py := py) (s := s) h1 z.1).1 r z.2
        exact ⟨z.1, by omega, by omega⟩
  unfold wp_X5_topOf
  exact ⟨64, key 63 1 tr ts (by omega) (by omega) (fun j a b => by omega)⟩
def sumc (F : Nat → Nat) : Nat → Nat
  | 0 => 0
  | m + 1 => sumc F m + F m
def fC (n : Nat) (px py : Nat → Int32) (k : Nat) : Nat := if isP n k then (pch n px py 0 k).length + (pch n px py 1 k).length else 0
def fR (n : Nat) (px py : Nat → Int32) (k : Nat) : Nat := if isP n k && decide (2 ≤ k) then (rst (pch n px py 0 k) (pch n px py 0 (k / 2))).length + (rst (pch n px py 1 k) (pch n px py 1 (k / 2))).length else 0
theorem s_cornersOfAll {pd px py qf qs tr : Nat → Int32} {ts : Int32} {n : Nat} (hW : WF pd px py n) (hT : PT qf qs n) {K : Int32 → (Nat → Int32) → Int32 → Prop} (h : ∀ tr' ts', K (nI (sumc (fC n px py) 64)) tr' ts') : wp_X5_cornersOfAll px py qf qs tr ts K := by
  have hn := hW.1
  have key : ∀ (d i : Nat) (tr : Nat → Int32) (ts : Int32), i + d = 64 → 1 ≤ i → wp_X5_cornersOfAll_4 px py qf qs K (d + 1) tr ts (nI (sumc (fC n px py) i)) (nI i) := by
    intro d
    induction d with
    | zero =>
      intro i tr ts hi h1
      refine wp_X5_cornersOfAll_4_s ?_
      unfold wp_X5_cornersOfAll_4b
      rw [show i = 64 by omega]
      exact ⟨fun _ => h _ _, fun c => absurd (by decide) c⟩
    | succ d ih =>
      intro i tr ts hi h1
      refine wp_X5_cornersOfAll_4_s ?_
      unfold wp_X5_cornersOfAll_4b
      rw [nI_1]
      refine ⟨fun c => by rw [show (63 : Int32) = nI 63 from rfl, n_lt (by omega) (by omega)] at c; omega, fun _ => s_has hn hT _ (fun j a b e c => ⟨fun q => absurd q one_ne, fun _ => ?_⟩) (fun c => ⟨fun _ => ?_, fun q => absurd rfl q⟩)⟩
      · rw [n_eq (by omega) (by omega)] at e
        subst e
        refine s_cornersOf (s := 0) hW hT (by omega) a b c (fun tr1 ts1 => s_cornersOf (s := 1) hW hT (by omega) a b c (fun tr2 ts2 => ?_))
        have := ih (i + 1) tr2 ts2 (by omega) (by omega)
        have e : sumc (fC n px py) (i + 1) = sumc (fC n px py) i + ((pch n px py 0 i).length + (pch n px py 1 i).length) := by
          show _ + fC n px py i = _
          unfold fC; rw [isP_t a c]; rfl
        rw [e] at this
        rw [nI_add, nI_add]
        exact this
      · have := ih (i + 1) tr ts (by omega) (by omega)
        have e : sumc (fC n px py) (i + 1) = sumc (fC n px py) i := by
          show _ + fC n px py i = _
          unfold fC; rw [isP_f (c i h1 (by omega) rfl)]; rfl
        rw [e] at this
        exact this
  unfold wp_X5_cornersOfAll
  have := key 63 1 tr ts (by omega) (by omega)
  exact ⟨64, this⟩
theorem s_restsOfAll {pd px py qf qs tr gr : Nat → Int32} {ts gs : Int32} {n : Nat} (hW : WF pd px py n) (hT : PT qf qs n) {K : Int32 → (Nat → Int32) → Int32 → (Nat → Int32) → Int32 → Prop} (h : ∀ tr' ts' gr' gs', K (nI (sumc (fR n px py) 64)) tr' ts' gr' gs') : wp_X5_restsOfAll px py qf qs tr ts gr gs K := by
  have hn := hW.1
  have key : ∀ (d i : Nat) (tr : Nat → Int32) (ts : Int32) (gr : Nat → Int32) (gs : Int32), i + d = 64 → 2 ≤ i → wp_X5_restsOfAll_4 px py qf qs K (d + 1) tr ts gr gs (nI (sumc (fR n px py) i)) (nI i) := by
    intro d
    induction d with
    | zero =>
      intro i tr ts gr gs hi h1
      refine wp_X5_restsOfAll_4_s ?_
      unfold wp_X5_restsOfAll_4b
      rw [show i = 64 by omega]
      exact ⟨fun _ => h _ _ _ _, fun c => absurd (by decide) c⟩
    | succ d ih =>
      intro i tr ts gr gs hi h1
      refine wp_X5_restsOfAll_4_s ?_
      unfold wp_X5_restsOfAll_4b
      rw [nI_1]
      refine ⟨fun c => by rw [show (63 : Int32) = nI 63 from rfl, n_lt (by omega) (by omega)] at c; omega, fun _ => s_has hn hT _ (fun j a b e c => ⟨fun q => absurd q one_ne, fun _ => ?_⟩) (fun c => ⟨fun _ => ?_, fun q => absurd rfl q⟩)⟩
      · rw [n_eq (by omega) (by omega)] at e
        subst e
        refine s_restOfC (s := 0) hW hT (by omega) h1 b c (fun tr1 ts1 gr1 gs1 => s_restOfC (s := 1) hW hT (by omega) h1 b c (fun tr2 ts2 gr2 gs2 => ?_))
        have := ih (i + 1) tr2 ts2 gr2 gs2 (by omega) (by omega)
        have e : sumc (fR n px py) (i + 1) = sumc (fR n px py) i + ((rst (pch n px py 0 i) (pch n px py 0 (i / 2))).length + (rst (pch n px py 1 i) (pch n px py 1 (i / 2))).length) := by
          show _ + fR n px py i = _
          unfold fR; rw [isP_t a c, decide_eq_true h1]; rfl
        rw [e] at this
        rw [nI_add, nI_add]
        exact this
      · have := ih (i + 1) tr ts gr gs (by omega) (by omega)
        have e : sumc (fR n px py) (i + 1) = sumc (fR n px py) i := by
          show _ + fR n px py i = _
          unfold fR; rw [isP_f (c i (by omega) (by omega) rfl)]; rfl
        rw [e] at this
        exact this
  unfold wp_X5_restsOfAll
  have := key 62 2 tr ts gr gs (by omega) (by omega)
  have e : sumc (fR n px py) 2 = 0 := by
    show 0 + fR n px py 0 + fR n px py 1 = 0
    unfold fR
    rw [decide_eq_false (show ¬ 2 ≤ 0 by omega), decide_eq_false (show ¬ 2 ≤ 1 by omega), Bool.and_false, Bool.and_false]; rfl
  rw [e] at this
  exact ⟨63, this⟩
