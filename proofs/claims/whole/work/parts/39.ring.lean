theorem n_ms (x : Int32) : x + (-1) = x - 1 := (Int32.sub_eq_add_neg x 1).symm
def tk (r : Nat) (R : List Nat) : List Nat := if R.contains r then R else r :: R
def NDn (n : Nat) (R : List Nat) : Prop := (∀ r ∈ R, r < n) ∧ R.Nodup
theorem nd_len {n : Nat} : ∀ {R : List Nat}, NDn n R → ctb (fun a => R.contains a) n = R.length
  | [], _ => by
    have : ∀ m, ctb (fun a => ([] : List Nat).contains a) m = 0 := by
      intro m
      induction m with
      | zero => rfl
      | succ m ih => rw [ctb_f (by rfl), ih]
    exact this n
  | r :: t, h => by
    have hn := List.nodup_cons.mp h.2
    have ht : NDn n t := ⟨fun q hq => h.1 q (List.mem_cons_of_mem _ hq), hn.2⟩
    have ih := nd_len ht
    have hp0 : (fun a => t.contains a) r = false := by
      cases hc : t.contains r with
      | false => exact hc
      | true => exact absurd (by simpa using hc) hn.1
    have hq0 : (fun a => (r :: t).contains a) r = true := by simp
    rw [ctb_one hp0 hq0 (fun j _ hne => ?_), ih, if_pos (h.1 r List.mem_cons_self)]
    · rfl
    · show t.contains j = (r :: t).contains j
      rw [List.contains_cons]
      simp [hne]
theorem nd_le {n : Nat} {R : List Nat} (h : NDn n R) : R.length ≤ n := by
  rw [← nd_len h]; exact ctb_le _ n
theorem tk_nd {n r : Nat} {R : List Nat} (h : NDn n R) (hr : r < n) : NDn n (tk r R) := by
  unfold tk
  cases hc : R.contains r with
  | true => exact h
  | false =>
    have : ¬ r ∈ R := fun z => by
      rw [show R.contains r = true by simpa using z] at hc
      exact absurd hc (by decide)
    exact ⟨fun q hq => by rcases List.mem_cons.mp hq with e | e; rw [e]; exact hr; exact h.1 q e, List.nodup_cons.mpr ⟨this, h.2⟩⟩
theorem tk_t {r : Nat} {R : List Nat} (h : r ∈ R) : tk r R = R := by
  unfold tk
  rw [show R.contains r = true by simpa using h]; rfl
theorem tk_f {r : Nat} {R : List Nat} (h : ¬ r ∈ R) : tk r R = r :: R := by
  unfold tk
  rw [show R.contains r = false by
    cases hc : R.contains r with
    | false => rfl
    | true => exact absurd (by simpa using hc) h]; rfl
theorem s_takeOnce {rr : Nat → Int32} {n r : Nat} {R : List Nat} (hn : n ≤ 32) (hR : NDn n R) (hr : r < n) (hrp : rp nI rr R) {K : (Nat → Int32) → Int32 → Prop} (h : ∀ rr', rp nI rr' (tk r R) → K rr' (nI (tk r R).length)) : wp_X4_takeOnce rr (nI R.length) (nI r) K := by
  have hle := nd_le hR
  unfold wp_X4_takeOnce
  refine s_hasC (by omega) (by omega) hrp (fun a ha => by have := hR.1 a ha; omega) (fun c => ⟨fun _ => ?_, fun q => absurd q one_ne⟩) (fun c => ⟨fun q => absurd rfl q, fun _ => ?_⟩)
  · rw [tk_t c] at h
    exact h rr hrp
  · have hle2 := nd_le (tk_nd hR hr)
    rw [tk_f c] at h hle2
    simp only [List.length_cons] at hle2
    exact s_append (r := r) (by omega) (h _ (rp_push hrp rfl))
def tkUp (b R : List Nat) : Nat → List Nat
  | 0 => R
  | i + 1 => tk (atl b i) (tkUp b R i)
def tkDn (a R : List Nat) : Nat → List Nat
  | 0 => R
  | d + 1 => tk (atl a (a.length - 1 - d)) (tkDn a R d)
theorem tkUp_nd {n : Nat} {b R : List Nat} (hb : ∀ r ∈ b, r < n) (hR : NDn n R) : ∀ i, i ≤ b.length → NDn n (tkUp b R i)
  | 0, _ => hR
  | i + 1, hi => tk_nd (tkUp_nd hb hR i (by omega)) (hb _ (atl_mem (by omega)))
theorem tkDn_nd {n : Nat} {a R : List Nat} (ha : ∀ r ∈ a, r < n) (hR : NDn n R) : ∀ i, i ≤ a.length → NDn n (tkDn a R i)
  | 0, _ => hR
  | i + 1, hi => tk_nd (tkDn_nd ha hR i (by omega)) (ha _ (atl_mem (by omega)))
def ringL (n : Nat) (px py : Nat → Int32) : List Nat := tkDn (chn 0 px py 0 n) (tkUp (chn 1 px py 0 n) [] (chn 1 px py 0 n).length) (chn 0 px py 0 n).length
theorem chn0_lt {n : Nat} {px py : Nat → Int32} {s : Nat} : ∀ r ∈ chn s px py 0 n, r < n := fun r hr => by have := (chn_in (s := s) (px := px) (py := py) (f := 0) (c := n)).1 r hr; omega
theorem chn0_len {n : Nat} {px py : Nat → Int32} {s : Nat} : (chn s px py 0 n).length ≤ n := (chn_in (s := s) (px := px) (py := py) (f := 0) (c := n)).2
theorem nd_nil {n : Nat} : NDn n [] := ⟨fun r h => by simp at h, List.nodup_nil⟩
theorem ring_nd (n : Nat) (px py : Nat → Int32) : NDn n (ringL n px py) := tkDn_nd chn0_lt (tkUp_nd chn0_lt nd_nil _ (Nat.le_refl _)) _ (Nat.le_refl _)
theorem s_takeRightward {rr tr : Nat → Int32} {n : Nat} {R b : List Nat} (hn : n ≤ 32) (hR : NDn n R) (hb : ∀ r ∈ b, r < n) (hbl : b.length ≤ n) (hrp : rp nI rr R) (hrb : rp nI tr b) {K : (Nat → Int32) → Int32 → Prop} (h : ∀ rr', rp nI rr' (tkUp b R b.length) → K rr' (nI (tkUp b R b.length).length)) : wp_X4_takeRightward rr (nI R.length) tr (nI b.length) K := by
  have key : ∀ (d i : Nat) (u : Nat → Int32), i + d = b.length → rp nI u (tkUp b R i) → wp_X4_takeRightward_2 tr (nI b.length) K (d + 1) u (nI (tkUp b R i).length) (nI i) := by
    intro d
    induction d with
    | zero =>
      intro i u hi hu
      refine wp_X4_takeRightward_2_s ?_
      unfold wp_X4_takeRightward_2b
      rw [show i = b.length by omega] at hu ⊢
      exact ⟨fun _ => h u hu, fun c => absurd ((n_le (by omega) (by omega)).mpr (by omega)) c⟩
    | succ d ih =>
      intro i u hi hu
      refine wp_X4_takeRightward_2_s ?_
      unfold wp_X4_takeRightward_2b
      rw [n_cl (by omega), rp_at hrb (by omega), nI_1]
      exact ⟨fun c => by rw [n_le (by omega) (by omega)] at c; omega, fun _ => ⟨n_in (by omega) (by omega), s_takeOnce hn (tkUp_nd hb hR i (by omega)) (hb _ (atl_mem (by omega))) hu (fun u' hu' => ih (i + 1) u' (by omega) hu')⟩⟩
  unfold wp_X4_takeRightward
  exact ⟨b.length + 1, key b.length 0 rr (by omega) hrp⟩
theorem s_takeLeftward {rr tr : Nat → Int32} {n : Nat} {R a : List Nat} (hn : n ≤ 32) (hR : NDn n R) (ha : ∀ r ∈ a, r < n) (hal : a.length ≤ n) (hrp : rp nI rr R) (hra : rp nI tr a) {K : (Nat → Int32) → Int32 → Prop} (h : ∀ rr', rp nI rr' (tkDn a R a.length) → K rr' (nI (tkDn a R a.length).length)) : wp_X4_takeLeftward rr (nI R.length) tr (nI a.length) K := by
  have key : ∀ (j d : Nat) (u : Nat → Int32), j + d = a.length → rp nI u (tkDn a R d) → wp_X4_takeLeftward_7 tr (nI a.length) K (j + 1) u (nI (tkDn a R d).length) (nI j - 1) := by
    intro j
    induction j with
    | zero =>
      intro d u hd hu
      refine wp_X4_takeLeftward_7_s ?_
      unfold wp_X4_takeLeftward_7b
      rw [show d = a.length by omega] at hu ⊢
      exact ⟨fun _ => h u hu, fun c => absurd (by decide) c⟩
    | succ j ih =>
      intro d u hd hu
      refine wp_X4_takeLeftward_7_s ?_
      unfold wp_X4_takeLeftward_7b
      rw [n_s1, n_cl (by omega), rp_at hra (by omega), n_ms (nI j), show atl a j = atl a (a.length - 1 - d) by congr 1; omega]
      exact ⟨fun c => absurd c (n_ge0 (by omega)), fun _ => ⟨n_in (by omega) (by omega), s_takeOnce hn (tkDn_nd ha hR d (by omega)) (ha _ (atl_mem (by omega))) hu (fun u' hu' => ih (d + 1) u' (by omega) hu')⟩⟩
  unfold wp_X4_takeLeftward
  exact ⟨a.length + 1, key a.length 0 rr (by omega) hrp⟩
theorem s_gatherRing {pd px py tr rr : Nat → Int32} {ts rs : Int32} {n : Nat} (hW : WF pd px py n) {K : (Nat → Int32) → Int32 → (Nat → Int32) → Int32 → Prop} (h : ∀ tr' ts' rr', rp nI rr' (ringL n px py) → K tr' ts' rr' (nI (ringL n px py).length)) : wp_X5_gatherRing px py (nI n) tr ts rr rs K := by
  have hn := hW.1
  unfold wp_X5_gatherRing wp_X4_clear
  refine s_traceW (f := 0) (s := 1) hW (by omega) (by omega) (fun tr1 r1 => ?_)
  refine s_takeRightward (R := []) hn nd_nil chn0_lt chn0_len trivial r1 (fun rr1 q1 => ?_)
  refine s_traceW (f := 0) (s := 0) hW (by omega) (by omega) (fun tr2 r2 => ?_)
  exact s_takeLeftward hn (tkUp_nd chn0_lt nd_nil _ (Nat.le_refl _)) chn0_lt chn0_len q1 r2 (fun rr2 q2 => h _ _ _ q2)
theorem s_ringUp {pd px py mg : Nat → Int32} {n r : Nat} {R : List Nat} (hW : WF pd px py n) (hR : NDn n R) (hr : r < n) (hrp : rp pd mg R) {K : (Nat → Int32) → Int32 → Prop} (h : ∀ mg', rp pd mg' (tk r R) → K mg' (nI (tk r R).length)) : wp_X6_ringUp mg (nI R.length) (pd r) K := by
  have hn := hW.1
  have hle := nd_le hR
  have heq : ∀ q, q < n → (pd q = pd r ↔ q = r) := fun q hq => ⟨fun e => hW.2.2.1 q r hq hr (by unfold ig; rw [e]), fun e => by rw [e]⟩
  have key : ∀ (d i : Nat) (b : Bool), i + d = R.length → (b = true ↔ ∀ j, j < i → ¬ atl R j = r) → wp_X6_ringUp_4 (pd r) K mg (nI R.length) (d + 1) (if b then 1 else 0) (nI i) := by
    intro d
    induction d with
    | zero =>
      intro i b hi hb
      refine wp_X6_ringUp_4_s ?_
      unfold wp_X6_ringUp_4b
      refine ⟨fun _ => ?_, fun c => absurd ((n_le (by omega) (by omega)).mpr (by omega)) c⟩
      cases b with
      | true =>
        refine ⟨fun c => absurd c one_ne, fun _ => ?_⟩
        have hno : ¬ r ∈ R := fun z => by
          obtain ⟨j, hj, e⟩ := mem_atl z
          exact (hb.mp rfl) j (by omega) e
        have hle2 := nd_le (tk_nd hR hr)
        rw [tk_f hno] at h hle2
        simp only [List.length_cons] at hle2
        rw [n_cl (by omega), nI_1]
        exact ⟨n_in (by omega) (by omega), h _ (rp_push hrp rfl)⟩
      | false =>
        refine ⟨fun _ => ?_, fun c => absurd rfl c⟩
        have hyes : r ∈ R := by
          apply Classical.byContradiction
          intro z
          have : (false = true) := hb.mpr (fun j hj e => z (by rw [← e]; exact atl_mem (by omega)))
          exact absurd this (by decide)
        rw [tk_t hyes] at h
        exact h mg hrp
    | succ d ih =>
      intro i b hi hb
      refine wp_X6_ringUp_4_s ?_
      unfold wp_X6_ringUp_4b
      have hq := hR.1 _ (atl_mem (l := R) (i := i) (by omega))
      rw [n_cl (i := i) (by omega), rp_at hrp (by omega), nI_1 i, heq _ hq]
      refine ⟨fun c => by rw [n_le (by omega) (by omega)] at c; omega, fun _ => ?_⟩
      cases b with
      | true =>
        refine ⟨fun c => absurd c one_ne, fun _ => ⟨n_in (by omega) (by omega), fun e => ih (i + 1) false (by omega) ⟨fun z => absurd z (by decide), fun z => absurd e (z i (by omega))⟩, fun e => ih (i + 1) true (by omega) ⟨fun _ j hj => ?_, fun _ => rfl⟩⟩⟩
        by_cases ji : j = i
        · rw [ji]; exact e
        · exact (hb.mp rfl) j (by omega)
      | false =>
        refine ⟨fun _ => ih (i + 1) false (by omega) ⟨fun z => absurd z (by decide), fun z => hb.mpr (fun j hj => z j (by omega))⟩, fun c => absurd rfl c⟩
  unfold wp_X6_ringUp
  exact ⟨R.length + 1, key R.length 0 true (by omega) ⟨fun _ j hj => by omega, fun _ => rfl⟩⟩
theorem s_layRound {pd px py mx my mi mr mo mc mg : Nat → Int32} {mf mt md mk mh : Int32} {n : Nat} (hW : WF pd px py n) (hV : MV pd px py n mx my mi) {K : (Nat → Int32) → (Nat → Int32) → Int32 → Int32 → Int32 → (Nat → Int32) → Int32 → (Nat → Int32) → Int32 → Prop}
    (h : ∀ mr' mo' f t d mc' mk' mg', RK pd n mr' mo' → rp pd mg' (ringL n px py) → K mr' mo' f t d mc' mk' mg' (nI (ringL n px py).length)) : wp_X6_layRound mx my mi (nI n) mr mo mf mt md mc mk mg mh K := by
  have hn := hW.1
  unfold wp_X6_layRound
  refine s_layPart hW hV _ (fun k mr' mo' k1 k2 e hz hr => ⟨fun c => absurd c one_ne, fun _ => ?_⟩) (fun mr' mo' f t d hno hr => ⟨fun _ => ?_, fun c => absurd rfl c⟩)
  · have ek : k = 1 := by
      rw [show (1 : Int32) = nI 1 from rfl, n_eq (by omega) (by omega)] at e; omega
    subst ek
    rw [pfs_1, psz_1] at *
    have last : ∀ (mc' : Nat → Int32), rp pd mc' (chn 0 px py 0 n) → ∀ (R : List Nat) (hR : NDn n R) (j d : Nat) (u : Nat → Int32), j + d = (chn 0 px py 0 n).length → rp pd u (tkDn (chn 0 px py 0 n) R d) → (∀ u', rp pd u' (tkDn (chn 0 px py 0 n) R (chn 0 px py 0 n).length) → K mr' mo' (nI 0) (nI (0 + n)) (nI (Nat.log2 1)) mc' (nI (chn 0 px py 0 n).length) u' (nI (tkDn (chn 0 px py 0 n) R (chn 0 px py 0 n).length).length)) → wp_X6_layRound_56 mx my mi (nI n) K mr' mo' (nI 0) (nI (0 + n)) (nI (Nat.log2 1)) mc' (nI (chn 0 px py 0 n).length) (j + 1) u (nI (tkDn (chn 0 px py 0 n) R d).length) (nI j - 1) := by
      intro mc' hmc R hR j
      have hal := chn0_len (n := n) (px := px) (py := py) (s := 0)
      have ha := chn0_lt (n := n) (px := px) (py := py) (s := 0)
      induction j with
      | zero =>
        intro d u hd hu hk
        refine wp_X6_layRound_56_s ?_
        unfold wp_X6_layRound_56b
        rw [show d = (chn 0 px py 0 n).length by omega] at hu ⊢
        exact ⟨fun _ => hk u hu, fun c => absurd (by decide) c⟩
      | succ j ih =>
        intro d u hd hu hk
        refine wp_X6_layRound_56_s ?_
        unfold wp_X6_layRound_56b
        rw [n_s1, n_cl (by omega), rp_at hmc (by omega), n_ms (nI j), show atl (chn 0 px py 0 n) j = atl (chn 0 px py 0 n) ((chn 0 px py 0 n).length - 1 - d) by congr 1; omega]
        exact ⟨fun c => absurd c (n_ge0 (by omega)), fun _ => ⟨n_in (by omega) (by omega), s_ringUp hW (tkDn_nd ha hR d (by omega)) (ha _ (atl_mem (by omega))) hu (fun u' hu' => ih (d + 1) u' (by omega) hu' hk)⟩⟩
    have frst : ∀ (mc' : Nat → Int32), rp pd mc' (chn 1 px py 0 n) → ∀ (d i : Nat) (u : Nat → Int32), i + d = (chn 1 px py 0 n).length → rp pd u (tkUp (chn 1 px py 0 n) [] i) → wp_X6_layRound_20 mx my mi (nI n) K mr' mo' (nI 0) (nI (0 + n)) (nI (Nat.log2 1)) mc' (nI (chn 1 px py 0 n).length) (d + 1) u (nI (tkUp (chn 1 px py 0 n) [] i).length) (nI i) := by
      intro mc' hmc d
      have hbl := chn0_len (n := n) (px := px) (py := py) (s := 1)
      have hb := chn0_lt (n := n) (px := px) (py := py) (s := 1)
      induction d with
      | zero =>
        intro i u hi hu
        refine wp_X6_layRound_20_s ?_
        unfold wp_X6_layRound_20b
        rw [show i = (chn 1 px py 0 n).length by omega] at hu ⊢
        refine ⟨fun _ => ?_, fun c => absurd ((n_le (by omega) (by omega)).mpr (by omega)) c⟩
        refine s_layChainW (s := 0) (f := 0) (c := n) hW hV hr (by omega) (by omega) (fun mc2 r2 => ?_)
        exact ⟨(chn 0 px py 0 n).length + 1, last mc2 r2 _ (tkUp_nd hb nd_nil _ (Nat.le_refl _)) _ 0 u (by omega) hu (fun u' hu' => h _ _ _ _ _ _ _ _ hr hu')⟩
      | succ d ih =>
        intro i u hi hu
        refine wp_X6_layRound_20_s ?_
        unfold wp_X6_layRound_20b
        rw [n_cl (by omega), rp_at hmc (by omega), nI_1]
        exact ⟨fun c => by rw [n_le (by omega) (by omega)] at c; omega, fun _ => ⟨n_in (by omega) (by omega), s_ringUp hW (tkUp_nd hb nd_nil i (by omega)) (hb _ (atl_mem (by omega))) hu (fun u' hu' => ih (i + 1) u' (by omega) hu')⟩⟩
    refine s_layChainW (s := 1) (f := 0) (c := n) hW hV hr (by omega) (by omega) (fun mc1 r1 => ?_)
    exact ⟨(chn 1 px py 0 n).length + 1, frst mc1 r1 _ 0 mg (by omega) trivial⟩
  · have hn0 : n = 0 := by
      have := hno 1 (by omega) (by omega) rfl
      rw [psz_1] at this; exact this
    subst hn0
    exact h _ _ _ _ _ _ _ mg hr trivial
