/-- the end of a bridge, among the first m of a list -/
def eB (pd : Nat → Int32) (l : List Nat) (b e m : Nat) (r : Int32) : Prop :=
  (e = 0 ∧ ((∃ i, i < m ∧ atl l i < b ∧ (∀ j, i < j → j < m → b ≤ atl l j) ∧ r = pd (atl l i)) ∨ ((∀ j, j < m → b ≤ atl l j) ∧ r = -6))) ∨
  (e = 1 ∧ ((∃ i, i < m ∧ b ≤ atl l i ∧ (∀ j, j < i → atl l j < b) ∧ r = pd (atl l i)) ∨ ((∀ j, j < m → atl l j < b) ∧ r = -6)))
theorem eB.uniq {pd : Nat → Int32} {l : List Nat} {b e m : Nat} {r r' : Int32} (h : eB pd l b e m r) (h' : eB pd l b e m r') : r = r' := by
  rcases h with ⟨a, h⟩ | ⟨a, h⟩ <;> rcases h' with ⟨a', h'⟩ | ⟨a', h'⟩
  · rcases h with ⟨i, h1, h2, h3, h4⟩ | ⟨h1, h4⟩ <;> rcases h' with ⟨i', h1', h2', h3', h4'⟩ | ⟨h1', h4'⟩
    · have : i = i' := by
        apply Classical.byContradiction
        intro q
        rcases Nat.lt_or_ge i i' with w | w
        · have := h3 i' w h1'; omega
        · have := h3' i (by omega) h1; omega
      subst this; rw [h4, h4']
    · have := h1' i h1; omega
    · have := h1 i' h1'; omega
    · rw [h4, h4']
  · omega
  · omega
  · rcases h with ⟨i, h1, h2, h3, h4⟩ | ⟨h1, h4⟩ <;> rcases h' with ⟨i', h1', h2', h3', h4'⟩ | ⟨h1', h4'⟩
    · have : i = i' := by
        apply Classical.byContradiction
        intro q
        rcases Nat.lt_or_ge i i' with w | w
        · have := h3' i w; omega
        · have := h3 i' (by omega); omega
      subst this; rw [h4, h4']
    · have := h1' i h1; omega
    · have := h1 i' h1'; omega
    · rw [h4, h4']
theorem s_lastBefore {tr : Nat → Int32} {l : List Nat} {b : Nat} (hl : l.length ≤ 32) (hm : ∀ a ∈ l, a < 32) (hb : b ≤ 300) (hrp : rp nI tr l) {K : Int32 → Prop} (h1 : ∀ i, i < l.length → atl l i < b → (∀ j, i < j → j < l.length → b ≤ atl l j) → K (nI (atl l i))) (h0 : (∀ j, j < l.length → b ≤ atl l j) → K (-6)) : wp_X0_lastBefore tr (nI l.length) (nI b) K := by
  have key : ∀ m, m ≤ l.length → (∀ j, m ≤ j → j < l.length → b ≤ atl l j) → wp_X0_lastBefore_7 tr (nI l.length) (nI b) K (m + 1) (nI m - 1) := by
    intro m
    induction m with
    | zero =>
      intro hi hj
      refine wp_X0_lastBefore_7_s ?_
      unfold wp_X0_lastBefore_7b
      exact ⟨fun _ => h0 (fun j hjj => hj j (by omega) hjj), fun c => absurd (by decide) c⟩
    | succ m ih =>
      intro hi hj
      refine wp_X0_lastBefore_7_s ?_
      unfold wp_X0_lastBefore_7b
      have ha := hm _ (atl_mem (l := l) (i := m) (by omega))
      rw [n_s1, n_cl (by omega), rp_at hrp (by omega : m < l.length), n_le (by omega) (by omega), n_ms]
      refine ⟨fun c => absurd c (n_ge0 (by omega)), fun _ => ⟨n_in (by omega) (by omega), fun c => ih (by omega) (fun j q1 q2 => ?_), fun c => ⟨n_in (by omega) (by omega), h1 m (by omega) (by omega) (fun j q1 q2 => hj j (by omega) q2)⟩⟩⟩
      rcases Nat.lt_or_ge m j with w | w
      · exact hj j (by omega) q2
      · rw [show j = m by omega]; exact c
  unfold wp_X0_lastBefore
  exact ⟨_, key l.length (Nat.le_refl _) (fun j a b => by omega)⟩
theorem s_firstFrom {tr : Nat → Int32} {l : List Nat} {b : Nat} (hl : l.length ≤ 32) (hm : ∀ a ∈ l, a < 32) (hb : b ≤ 300) (hrp : rp nI tr l) {K : Int32 → Prop} (h1 : ∀ i, i < l.length → b ≤ atl l i → (∀ j, j < i → atl l j < b) → K (nI (atl l i))) (h0 : (∀ j, j < l.length → atl l j < b) → K (-6)) : wp_X0_firstFrom tr (nI l.length) (nI b) K := by
  have key : ∀ d i, i + d = l.length → (∀ j, j < i → atl l j < b) → wp_X0_firstFrom_2 tr (nI l.length) (nI b) K (d + 1) (nI i) := by
    intro d
    induction d with
    | zero =>
      intro i hi hj
      refine wp_X0_firstFrom_2_s ?_
      unfold wp_X0_firstFrom_2b
      exact ⟨fun _ => h0 (fun j hjj => hj j (by omega)), fun c => absurd ((n_le (by omega) (by omega)).mpr (by omega)) c⟩
    | succ d ih =>
      intro i hi hj
      refine wp_X0_firstFrom_2_s ?_
      unfold wp_X0_firstFrom_2b
      have ha := hm _ (atl_mem (l := l) (i := i) (by omega))
      rw [n_cl (by omega), rp_at hrp (by omega : i < l.length), n_lt (by omega) (by omega), n_le (by omega) (by omega), nI_1]
      refine ⟨fun c => by omega, fun _ => ⟨n_in (by omega) (by omega), fun c => ih (i + 1) (by omega) (fun j q => ?_), fun c => ⟨n_in (by omega) (by omega), h1 i (by omega) (by omega) hj⟩⟩⟩
      rcases Nat.lt_or_ge j i with w | w
      · exact hj j w
      · rw [show j = i by omega]; exact c
  unfold wp_X0_firstFrom
  exact ⟨_, key l.length 0 (by omega) (fun j a => by omega)⟩
def brSp (pd px py : Nat → Int32) (n : Nat) (v1 v2 v3 r : Int32) : Prop :=
  (∃ k s e, isK n v1 k ∧ 1 < psz n k ∧ s ≤ 1 ∧ v2 = nI s ∧ e ≤ 1 ∧ v3 = nI e ∧ eB pd (pch n px py s k) (pfs n k + (psz n k + 1) / 2) e (pch n px py s k).length r) ∨ (∃ k, isK n v1 k ∧ 1 < psz n k ∧ ((¬ v2 = 0 ∧ ¬ v2 = 1) ∨ (¬ v3 = 0 ∧ ¬ v3 = 1)) ∧ r = -2) ∨ (∃ k, isK n v1 k ∧ psz n k ≤ 1 ∧ r = -5) ∨ (noP n v1 ∧ r = -1)
theorem brSp.uniq {pd px py : Nat → Int32} {n : Nat} {v1 v2 v3 r r' : Int32} (h : brSp pd px py n v1 v2 v3 r) (h' : brSp pd px py n v1 v2 v3 r') : r = r' := by
  rcases h with ⟨k, s, e, a, z, b, c, d, f, g⟩ | ⟨k, a, z, b, g⟩ | ⟨k, a, z, g⟩ | ⟨a, g⟩ <;> rcases h' with ⟨k', s', e', a', z', b', c', d', f', g'⟩ | ⟨k', a', z', b', g'⟩ | ⟨k', a', z', g'⟩ | ⟨a', g'⟩
  · have e1 := a.uniq a'; have e2 := sd_uniq b c b' c'; have e3 := sd_uniq d f d' f'
    subst e1; subst e2; subst e3
    exact g.uniq g'
  · rcases b' with q | q
    · exact (sd_no b c q.1 q.2).elim
    · exact (sd_no d f q.1 q.2).elim
  · have e1 := a.uniq a'; subst e1; omega
  · exact (a.no a').elim
  · rcases b with q | q
    · exact (sd_no b' c' q.1 q.2).elim
    · exact (sd_no d' f' q.1 q.2).elim
  · rw [g, g']
  · have e1 := a.uniq a'; subst e1; omega
  · exact (a.no a').elim
  · have e1 := a.uniq a'; subst e1; omega
  · have e1 := a.uniq a'; subst e1; omega
  · rw [g, g']
  · exact (a.no a').elim
  · exact (a'.no a).elim
  · exact (a'.no a).elim
  · exact (a'.no a).elim
  · rw [g, g']
theorem c_bridge {pd px py qf qs tr : Nat → Int32} {ts : Int32} {n : Nat} (hW : WF pd px py n) (hT : PT qf qs n) (v1 v2 v3 : Int32) {K : Int32 → (Nat → Int32) → Int32 → Prop} (h : ∀ r tr' ts', brSp pd px py n v1 v2 v3 r → K r tr' ts') : wp_X5_bridge pd px py (nI n) qf qs tr ts v1 v2 v3 K := by
  have hn := hW.1
  unfold wp_X5_bridge
  refine s_has hn hT v1 (fun k k1 k2 e z => ⟨fun _ => ?_, fun c => absurd c one_ne⟩) (fun hno => ⟨fun c => absurd rfl c, fun _ => h _ _ _ (Or.inr (Or.inr (Or.inr ⟨hno, rfl⟩)))⟩)
  subst e
  refine s_hasHalves hn hT k1 k2 (fun z1 k3 => ⟨fun _ => ?_, fun c => absurd c one_ne⟩) (fun z1 => ⟨fun c => absurd rfl c, fun _ => h _ _ _ (Or.inr (Or.inr (Or.inl ⟨k, ⟨k1, k2, rfl, z⟩, z1, rfl⟩)))⟩)
  refine s_isSideC (fun s hs es => ⟨fun c => absurd c one_ne, fun _ => ?_⟩) (fun a b => ⟨fun _ => h _ _ _ (Or.inr (Or.inl ⟨k, ⟨k1, k2, rfl, z⟩, z1, Or.inl ⟨a, b⟩, rfl⟩)), fun c => absurd rfl c⟩)
  subst es
  have bad : ∀ tr ts, ¬ v3 = 0 → ¬ v3 = 1 → K (-2) tr ts := fun tr ts a b => h _ _ _ (Or.inr (Or.inl ⟨k, ⟨k1, k2, rfl, z⟩, z1, Or.inr ⟨a, b⟩, rfl⟩))
  refine ⟨fun c => bad _ _ (fun q => ?_) (fun q => ?_), fun c => ⟨fun c2 => ?_, fun c2 => bad _ _ (fun q => ?_) (fun q => ?_)⟩⟩
  · subst q; exact absurd c (by decide)
  · subst q; exact absurd c (by decide)
  · have hv : v3 = 0 ∨ v3 = 1 := by
      obtain ⟨j, hj, rfl⟩ := n_of c
      rw [show (1 : Int32) = nI 1 from rfl, nI_leI hj (by omega)] at c2
      rcases Nat.lt_or_ge j 1 with w | w
      · left; rw [show j = 0 by omega]; rfl
      · right; rw [show j = 1 by omega]; rfl
    have hp := pch_in (px := px) (py := py) (s := s) k1 z
    refine s_traceP hW hT hs k1 k2 z (fun tr' hrp => ?_)
    rw [n_2m, nI_1, n_cl (by omega), (hT (2 * k + 1) (by omega) (by omega)).2, pfs_o n k1]
    have hbd := pfs_le n k1 z
    have H : ∀ e r, e ≤ 1 → v3 = nI e → eB pd (pch n px py s k) (pfs n k + (psz n k + 1) / 2) e (pch n px py s k).length r → K r tr' (nI (pch n px py s k).length) := fun e r he ev hE => h _ _ _ (Or.inl ⟨k, s, e, ⟨k1, k2, rfl, z⟩, z1, hs, rfl, he, ev, hE⟩)
    refine ⟨n_in (by omega) (by omega), fun c => ?_, fun c => ?_⟩
    · have hv1 : v3 = nI 1 := by rcases hv with q | q; exact absurd q c; exact q
      refine s_firstFrom (l := pch n px py s k) (by omega) (fun a ha => by have := (hp.1 a ha).2.2; omega) (by omega) hrp (fun i hi a b => ?_) (fun hno => ?_)
      · exact s_idAt_in hn (hp.1 _ (atl_mem hi)).2.2 (H 1 _ (by omega) hv1 (Or.inr ⟨rfl, Or.inl ⟨i, hi, a, b, rfl⟩⟩))
      · exact s_idAt_out (Or.inl (by decide)) (H 1 _ (by omega) hv1 (Or.inr ⟨rfl, Or.inr ⟨hno, rfl⟩⟩))
    · refine s_lastBefore (l := pch n px py s k) (by omega) (fun a ha => by have := (hp.1 a ha).2.2; omega) (by omega) hrp (fun i hi a b => ?_) (fun hno => ?_)
      · exact s_idAt_in hn (hp.1 _ (atl_mem hi)).2.2 (H 0 _ (by omega) c (Or.inl ⟨rfl, Or.inl ⟨i, hi, a, b, rfl⟩⟩))
      · exact s_idAt_out (Or.inl (by decide)) (H 0 _ (by omega) c (Or.inl ⟨rfl, Or.inr ⟨hno, rfl⟩⟩))
  · subst q; exact absurd c2 (by decide)
  · subst q; exact absurd c2 (by decide)
theorem s_bridgeLoop {pd px py mx my mi mr mo mc : Nat → Int32} {v1 v2 mf mt md : Int32} {n e b : Nat} {l : List Nat} (hW : WF pd px py n) (hr : RK pd n mr mo) (hl : l.length ≤ 32) (hm : ∀ a ∈ l, a < n) (he : e ≤ 1) (hb : b ≤ 300) (hrp : rp pd mc l) {K : Int32 → (Nat → Int32) → (Nat → Int32) → Int32 → Int32 → Int32 → (Nat → Int32) → Int32 → Prop} (h : ∀ r, eB pd l b e l.length r → K r mr mo mf mt md mc (nI l.length)) : ∃ k, wp_X6_bridge_79 mx my mi (nI n) v1 v2 (nI e) K mr mo mf mt md mc (nI l.length) (nI b) k (-6) 0 := by
  have hn := hW.1
  have key : ∀ d i r, i + d = l.length → eB pd l b e i r → wp_X6_bridge_79 mx my mi (nI n) v1 v2 (nI e) K mr mo mf mt md mc (nI l.length) (nI b) (d + 1) r (nI i) := by
    intro d
    induction d with
    | zero =>
      intro i r hi hE
      refine wp_X6_bridge_79_s ?_
      unfold wp_X6_bridge_79b
      rw [show i = l.length by omega] at hE
      exact ⟨fun _ => h _ hE, fun c => absurd ((n_le (by omega) (by omega)).mpr (by omega)) c⟩
    | succ d ih =>
      intro i r hi hE
      refine wp_X6_bridge_79_s ?_
      unfold wp_X6_bridge_79b wp_X6_bridge_110
      have ha := hm _ (atl_mem (l := l) (i := i) (by omega))
      rw [n_cl (by omega), rp_at hrp (by omega : i < l.length), pd_mo hr ha, n_le (by omega) (by omega), n_le (by omega) (by omega), nI_1, n_0 (by omega)]
      refine ⟨fun c => by omega, fun _ => ⟨n_in (by omega) (by omega), pd_in hW ha, fun c => ⟨fun e1 => ⟨fun q => absurd rfl q, fun _ => ⟨fun q => ih (i + 1) r (by omega) ?_, fun q => ⟨n_in (by omega) (by omega), ih (i + 1) _ (by omega) ?_⟩⟩⟩, fun e0 => ⟨fun _ => ih (i + 1) r (by omega) ?_, fun q => absurd rfl q⟩⟩, fun c => ⟨fun e1 => ⟨fun _ => ih (i + 1) r (by omega) ?_, fun q => absurd q one_ne⟩, fun e0 => ⟨fun q => absurd q one_ne, fun _ => ⟨n_in (by omega) (by omega), ih (i + 1) _ (by omega) ?_⟩⟩⟩⟩⟩
      · rcases hE with ⟨g, _⟩ | ⟨g, ⟨i0, h1, h2, h3, h4⟩ | ⟨h1, h4⟩⟩
        · exact absurd g e1
        · exact Or.inr ⟨g, Or.inl ⟨i0, by omega, h2, h3, h4⟩⟩
        · subst h4; exact absurd q (by decide)
      · rcases hE with ⟨g, _⟩ | ⟨g, ⟨i0, h1, h2, h3, h4⟩ | ⟨h1, h4⟩⟩
        · exact absurd g e1
        · exfalso
          apply q
          have hq := pd_ge hW (hm _ (atl_mem (l := l) (i := i0) (by omega)))
          rw [h4]
          rw [I_lt] at hq
          rw [I_le]
          omega
        · exact Or.inr ⟨g, Or.inl ⟨i, by omega, c, h1, rfl⟩⟩
      · rcases hE with ⟨g, ⟨i0, h1, h2, h3, h4⟩ | ⟨h1, h4⟩⟩ | ⟨g, _⟩
        · refine Or.inl ⟨g, Or.inl ⟨i0, by omega, h2, fun j a1 a2 => ?_, h4⟩⟩
          rcases Nat.lt_or_ge j i with w | w
          · exact h3 j a1 w
          · rw [show j = i by omega]; exact c
        · refine Or.inl ⟨g, Or.inr ⟨fun j a2 => ?_, h4⟩⟩
          rcases Nat.lt_or_ge j i with w | w
          · exact h1 j w
          · rw [show j = i by omega]; exact c
        · omega
      · rcases hE with ⟨g, _⟩ | ⟨g, ⟨i0, h1, h2, h3, h4⟩ | ⟨h1, h4⟩⟩
        · exact absurd g e1
        · exact Or.inr ⟨g, Or.inl ⟨i0, by omega, h2, h3, h4⟩⟩
        · refine Or.inr ⟨g, Or.inr ⟨fun j a2 => ?_, h4⟩⟩
          rcases Nat.lt_or_ge j i with w | w
          · exact h1 j w
          · rw [show j = i by omega]; omega
      · exact Or.inl ⟨e0, Or.inl ⟨i, by omega, by omega, fun j a1 a2 => by omega, rfl⟩⟩
  refine ⟨_, key l.length 0 (-6) (by omega) ?_⟩
  rcases Nat.lt_or_ge e 1 with w | w
  · exact Or.inl ⟨by omega, Or.inr ⟨fun j hj => by omega, rfl⟩⟩
  · exact Or.inr ⟨by omega, Or.inr ⟨fun j hj => by omega, rfl⟩⟩
theorem m_bridge {pd px py mx my mi mr mo mc : Nat → Int32} {mf mt md mk : Int32} {n : Nat} (hW : WF pd px py n) (hV : MV pd px py n mx my mi) (v1 v2 v3 : Int32) {K : Int32 → (Nat → Int32) → (Nat → Int32) → Int32 → Int32 → Int32 → (Nat → Int32) → Int32 → Prop} (h : ∀ r mr' mo' f t d mc' mk', brSp pd px py n v1 v2 v3 r → K r mr' mo' f t d mc' mk') : wp_X6_bridge mx my mi (nI n) mr mo mf mt md mc mk v1 v2 v3 K := by
  have hn := hW.1
  unfold wp_X6_bridge
  refine s_layPart hW hV v1 (fun k mr1 mo1 k1 k2 e z hr => ⟨fun _ => ?_, fun c => absurd c one_ne⟩) (fun mr1 mo1 f t d hno hr => ⟨fun c => absurd rfl c, fun _ => h _ _ _ _ _ _ _ _ (Or.inr (Or.inr (Or.inr ⟨hno, rfl⟩)))⟩)
  have hbd := pfs_le n k1 z
  rw [show nI (pfs n k + psz n k) - nI (pfs n k) = nI (psz n k) by rw [n_sub (by omega)]; congr 1; omega, show (2 : Int32) = nI 2 from rfl, n_le (by omega) (by omega)]
  refine ⟨fun z1 => s_sideM (fun s hs es => ⟨fun c => absurd c one_ne, fun _ => s_sideM (fun q hq eq => ⟨fun _ => ?_, fun c => absurd c one_ne⟩) (fun a b => ⟨fun c => absurd rfl c, fun _ => h _ _ _ _ _ _ _ _ (Or.inr (Or.inl ⟨k, ⟨k1, k2, e, z⟩, z1, Or.inr ⟨a, b⟩, rfl⟩))⟩)⟩) (fun a b => ⟨fun _ => h _ _ _ _ _ _ _ _ (Or.inr (Or.inl ⟨k, ⟨k1, k2, e, z⟩, z1, Or.inl ⟨a, b⟩, rfl⟩)), fun c => absurd rfl c⟩), fun z1 => h _ _ _ _ _ _ _ _ (Or.inr (Or.inr (Or.inl ⟨k, ⟨k1, k2, e, z⟩, by omega, rfl⟩)))⟩
  subst es; subst eq
  have hp := pch_in (px := px) (py := py) (s := s) k1 z
  refine s_layChainW hW hV hr hs hbd (fun mc' hrp => ?_)
  rw [show nI 2 = (2 : Int32) from rfl, n_half (by omega), nI_add]
  exact s_bridgeLoop (l := pch n px py s k) hW hr (by omega) (fun a ha => (hp.1 a ha).2.2) hq (by omega) hrp (fun r hE => h _ _ _ _ _ _ _ _ (Or.inl ⟨k, s, q, ⟨k1, k2, e, z⟩, z1, hs, rfl, hq, rfl, hE⟩))
