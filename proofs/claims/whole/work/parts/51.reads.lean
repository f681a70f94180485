theorem s_isSideC {v : Int32} {K : Int32 → Prop} (h1 : ∀ s, s ≤ 1 → v = nI s → K 1) (h0 : ¬ v = 0 → ¬ v = 1 → K 0) : wp_X5_isSide v K := by
  unfold wp_X5_isSide
  exact ⟨fun c => h1 0 (by omega) c, fun c => ⟨fun d => h0 c d, fun d => h1 1 (by omega) d⟩⟩
theorem s_sideM {v : Int32} {K : Int32 → Prop} (h1 : ∀ s, s ≤ 1 → v = nI s → K 1) (h0 : ¬ v = 0 → ¬ v = 1 → K 0) : wp_X6_in v 0 1 K := by
  refine s_in (fun a b => ?_) (fun a => ?_)
  · obtain ⟨k, hk, e⟩ := (v_in (m := 2) (by omega) v).1 a b
    exact h1 k (by omega) e
  · have := (v_in (m := 2) (by omega) v).2 a
    exact h0 (this 0 (by omega)) (this 1 (by omega))
def noP (n : Nat) (v : Int32) : Prop := ∀ k, 1 ≤ k → k < 64 → v = nI k → psz n k = 0
def isK (n : Nat) (v : Int32) (k : Nat) : Prop := 1 ≤ k ∧ k < 64 ∧ v = nI k ∧ 0 < psz n k
theorem isK.uniq {n : Nat} {v : Int32} {k k' : Nat} (h : isK n v k) (h' : isK n v k') : k = k' := by
  obtain ⟨a, b, c, d⟩ := h; obtain ⟨a', b', c', d'⟩ := h'
  rw [c, n_eq (by omega) (by omega)] at c'; exact c'
theorem isK.no {n : Nat} {v : Int32} {k : Nat} (h : isK n v k) (h' : noP n v) : False := by
  have := h' k h.1 h.2.1 h.2.2.1; have := h.2.2.2; omega
theorem sd_uniq {v : Int32} {s s' : Nat} (hs : s ≤ 1) (h : v = nI s) (hs' : s' ≤ 1) (h' : v = nI s') : s = s' := by
  rw [h, n_eq (by omega) (by omega)] at h'; exact h'
theorem sd_no {v : Int32} {s : Nat} (hs : s ≤ 1) (h : v = nI s) (h0 : ¬ v = 0) (h1 : ¬ v = 1) : False := by
  rcases Nat.lt_or_ge s 1 with q | q
  · exact h0 (by rw [h, show s = 0 by omega]; rfl)
  · exact h1 (by rw [h, show s = 1 by omega]; rfl)
/-- chain -/
def chSp (pd px py : Nat → Int32) (n : Nat) (v1 v2 v3 r : Int32) : Prop :=
  (∃ k s, isK n v1 k ∧ s ≤ 1 ∧ v2 = nI s ∧ rSp (fun i => pd (atl (pch n px py s k) i)) (pch n px py s k).length v3 r) ∨ (∃ k, isK n v1 k ∧ ¬ v2 = 0 ∧ ¬ v2 = 1 ∧ r = -2) ∨ (noP n v1 ∧ r = -1)
theorem chSp.uniq {pd px py : Nat → Int32} {n : Nat} {v1 v2 v3 r r' : Int32} (hn : n ≤ 32) (h : chSp pd px py n v1 v2 v3 r) (h' : chSp pd px py n v1 v2 v3 r') : r = r' := by
  rcases h with ⟨k, s, a, b, c, d⟩ | ⟨k, a, b, c, d⟩ | ⟨a, d⟩ <;> rcases h' with ⟨k', s', a', b', c', d'⟩ | ⟨k', a', b', c', d'⟩ | ⟨a', d'⟩
  · have e := a.uniq a'; have e2 := sd_uniq b c b' c'
    subst e; subst e2
    exact d.uniq (by have := (pch_in (px := px) (py := py) (s := s) a.1 a.2.2.2).2; omega) d'
  · exact (sd_no b c b' c').elim
  · exact (a.no a').elim
  · exact (sd_no b' c' b c).elim
  · rw [d, d']
  · exact (a.no a').elim
  · exact (a'.no a).elim
  · exact (a'.no a).elim
  · rw [d, d']
theorem c_chain {pd px py qf qs tr : Nat → Int32} {ts : Int32} {n : Nat} (hW : WF pd px py n) (hT : PT qf qs n) (v1 v2 v3 : Int32) {K : Int32 → (Nat → Int32) → Int32 → Prop} (h : ∀ r tr' ts', chSp pd px py n v1 v2 v3 r → K r tr' ts') : wp_X5_chain pd px py (nI n) qf qs tr ts v1 v2 v3 K := by
  have hn := hW.1
  unfold wp_X5_chain
  refine s_has hn hT v1 (fun k k1 k2 e z => ⟨fun _ => s_isSideC (fun s hs es => ⟨fun _ => ?_, fun c => absurd c one_ne⟩) (fun a b => ⟨fun c => absurd rfl c, fun _ => h _ _ _ (Or.inr (Or.inl ⟨k, ⟨k1, k2, e, z⟩, a, b, rfl⟩))⟩), fun c => absurd c one_ne⟩) (fun hno => ⟨fun c => absurd rfl c, fun _ => h _ _ _ (Or.inr (Or.inr ⟨hno, rfl⟩))⟩)
  subst e; subst es
  have hp := pch_in (px := px) (py := py) (s := s) k1 z
  refine s_traceP hW hT hs k1 k2 z (fun tr' hrp => s_idOf hW (by omega) (fun a ha => (hp.1 a ha).2.2) hrp v3 (fun r hr => h _ _ _ (Or.inl ⟨k, s, ⟨k1, k2, rfl, z⟩, hs, rfl, hr⟩)))
/-- the model's look into a list of identities -/
theorem s_lookM {pd mc : Nat → Int32} {l : List Nat} (hl : l.length ≤ 32) (hrp : rp pd mc l) (v : Int32) {K : Int32 → Prop} (h : ∀ r, rSp (fun i => pd (atl l i)) l.length v r → K r) : wp_X6_in v 0 (nI l.length - 1) (fun r35 => ((r35 = 0 → K (-6)) ∧ (¬ r35 = 0 → (vp_in v 34 ∧ K (mc v.toNatClampNeg))))) := by
  refine s_in (fun a b => ⟨fun q => absurd q one_ne, fun _ => ?_⟩) (fun a => ⟨fun _ => h _ (Or.inr ⟨(v_in (by omega) v).2 a, rfl⟩), fun q => absurd rfl q⟩)
  obtain ⟨j, hj, rfl⟩ := (v_in (m := l.length) (by omega) v).1 a b
  rw [n_cl (by omega), rp_at hrp hj]
  exact ⟨n_in (by omega) (by omega), h _ (Or.inl ⟨j, hj, rfl, rfl⟩)⟩
theorem m_chain {pd px py mx my mi mr mo mc : Nat → Int32} {mf mt md mk : Int32} {n : Nat} (hW : WF pd px py n) (hV : MV pd px py n mx my mi) (v1 v2 v3 : Int32) {K : Int32 → (Nat → Int32) → (Nat → Int32) → Int32 → Int32 → Int32 → (Nat → Int32) → Int32 → Prop} (h : ∀ r mr' mo' f t d mc' mk', chSp pd px py n v1 v2 v3 r → K r mr' mo' f t d mc' mk') : wp_X6_chain mx my mi (nI n) mr mo mf mt md mc mk v1 v2 v3 K := by
  have hn := hW.1
  unfold wp_X6_chain
  refine s_layPart hW hV v1 (fun k mr1 mo1 k1 k2 e z hr => ⟨fun _ => s_sideM (fun s hs es => ⟨fun _ => ?_, fun c => absurd c one_ne⟩) (fun a b => ⟨fun c => absurd rfl c, fun _ => h _ _ _ _ _ _ _ _ (Or.inr (Or.inl ⟨k, ⟨k1, k2, e, z⟩, a, b, rfl⟩))⟩), fun c => absurd c one_ne⟩) (fun mr1 mo1 f t d hno hr => ⟨fun c => absurd rfl c, fun _ => h _ _ _ _ _ _ _ _ (Or.inr (Or.inr ⟨hno, rfl⟩))⟩)
  subst e; subst es
  have hp := pch_in (px := px) (py := py) (s := s) k1 z
  refine s_layChainW hW hV hr hs (pfs_le n k1 z) (fun mc' hrp => ?_)
  exact s_lookM (l := pch n px py s k) (by omega) hrp v3 (K := fun r => K r mr1 mo1 _ _ _ mc' _) (fun r hr => h _ _ _ _ _ _ _ _ (Or.inl ⟨k, s, ⟨k1, k2, rfl, z⟩, hs, rfl, hr⟩))
/-- round -/
def roSp (pd px py : Nat → Int32) (n : Nat) (v r : Int32) : Prop := (v = -1 ∧ r = nI (ringL n px py).length) ∨ (¬ v = -1 ∧ rSp (fun i => pd (atl (ringL n px py) i)) (ringL n px py).length v r)
theorem ring_32 {pd px py : Nat → Int32} {n : Nat} (hW : WF pd px py n) : (ringL n px py).length ≤ 32 := by
  have := nd_le (ring_nd n px py); have := hW.1; omega
theorem roSp.uniq {pd px py : Nat → Int32} {n : Nat} {v r r' : Int32} (hW : WF pd px py n) (h : roSp pd px py n v r) (h' : roSp pd px py n v r') : r = r' := by
  have := ring_32 hW
  rcases h with ⟨a, b⟩ | ⟨a, b⟩ <;> rcases h' with ⟨a', b'⟩ | ⟨a', b'⟩
  · rw [b, b']
  · exact absurd a a'
  · exact absurd a' a
  · exact b.uniq (by omega) b'
theorem c_round {pd px py tr rr : Nat → Int32} {ts rs : Int32} {n : Nat} (hW : WF pd px py n) (v : Int32) {K : Int32 → (Nat → Int32) → Int32 → (Nat → Int32) → Int32 → Prop} (h : ∀ r tr' ts' rr' rs', roSp pd px py n v r → K r tr' ts' rr' rs') : wp_X5_round pd px py (nI n) tr ts rr rs v K := by
  unfold wp_X5_round
  refine s_gatherRing hW (fun tr' ts' rr' hrp => ⟨fun c => s_idOf hW (ring_32 hW) (ring_nd n px py).1 hrp v (fun r hr => h _ _ _ _ _ (Or.inr ⟨c, hr⟩)), fun c => h _ _ _ _ _ (Or.inl ⟨c, rfl⟩)⟩)
theorem m_round {pd px py mx my mi mr mo mc mg : Nat → Int32} {mf mt md mk mh : Int32} {n : Nat} (hW : WF pd px py n) (hV : MV pd px py n mx my mi) (v : Int32) {K : Int32 → (Nat → Int32) → (Nat → Int32) → Int32 → Int32 → Int32 → (Nat → Int32) → Int32 → (Nat → Int32) → Int32 → Prop} (h : ∀ r mr' mo' f t d mc' mk' mg' mh', roSp pd px py n v r → K r mr' mo' f t d mc' mk' mg' mh') : wp_X6_round mx my mi (nI n) mr mo mf mt md mc mk mg mh v K := by
  unfold wp_X6_round
  refine s_layRound hW hV (fun mr' mo' f t d mc' mk' mg' hr hrp => ⟨fun c => ?_, fun c => h _ _ _ _ _ _ _ _ _ _ (Or.inl ⟨c, rfl⟩)⟩)
  exact s_lookM (ring_32 hW) hrp v (K := fun r => K r _ _ _ _ _ _ _ _ _) (fun r hr => h _ _ _ _ _ _ _ _ _ _ (Or.inr ⟨c, hr⟩))
/-- extreme -/
def exSp (pd px py : Nat → Int32) (n : Nat) (v1 v2 r : Int32) : Prop := (¬ (inR v1 ∧ inR v2) ∧ r = -2) ∨ ((inR v1 ∧ inR v2) ∧ (n = 0 ∨ (v1 = 0 ∧ v2 = 0)) ∧ r = -5) ∨ ((inR v1 ∧ inR v2) ∧ ¬ (n = 0 ∨ (v1 = 0 ∧ v2 = 0)) ∧ r = pd (bF px py v1 v2 (ringL n px py) ((ringL n px py).length - 1)))
theorem exSp.uniq {pd px py : Nat → Int32} {n : Nat} {v1 v2 r r' : Int32} (h : exSp pd px py n v1 v2 r) (h' : exSp pd px py n v1 v2 r') : r = r' := by
  rcases h with ⟨a, b⟩ | ⟨a, c, b⟩ | ⟨a, c, b⟩ <;> rcases h' with ⟨a', b'⟩ | ⟨a', c', b'⟩ | ⟨a', c', b'⟩ <;>
    first
      | (rw [b, b']; done)
      | exact absurd a a'
      | exact absurd a' a
      | exact absurd c c'
      | exact absurd c' c
theorem n_0 {n : Nat} (h : n ≤ 32) : nI n = 0 ↔ n = 0 := by rw [show (0 : Int32) = nI 0 from rfl, n_eq (by omega) (by omega)]
theorem c_extreme {pd px py tr rr : Nat → Int32} {ts rs : Int32} {n : Nat} (hW : WF pd px py n) (v1 v2 : Int32) {K : Int32 → (Nat → Int32) → Int32 → (Nat → Int32) → Int32 → Prop} (h : ∀ r tr' ts' rr' rs', exSp pd px py n v1 v2 r → K r tr' ts' rr' rs') : wp_X5_extreme pd px py (nI n) tr ts rr rs v1 v2 K := by
  have hn := hW.1
  have main : inR v1 → inR v2 → ¬ n = 0 → ¬ (v1 = 0 ∧ v2 = 0) → wp_X5_extreme_32 pd px py (nI n) v1 v2 K tr ts rr rs := by
    intro i1 i2 hn0 hz
    unfold wp_X5_extreme_32
    have hp := ring_pos hW (by omega)
    refine s_gatherRing hW (fun tr' ts' rr' hrp => s_farthest hW (ring_nd n px py) hp i1 i2 hrp (s_idAt_in hn (bF_in (ring_nd n px py) _ (by omega)) (h _ _ _ _ _ (Or.inr (Or.inr ⟨⟨i1, i2⟩, fun q => ?_, rfl⟩)))))
    rcases q with q | q
    · exact hn0 q
    · exact hz q
  unfold wp_X5_extreme
  rw [n_0 hn]
  refine s_isPlaceC (fun i1 i2 => ⟨fun _ => ⟨fun c => h _ _ _ _ _ (Or.inr (Or.inl ⟨⟨i1, i2⟩, Or.inl c, rfl⟩)), fun c => ⟨fun d => main i1 i2 c (fun q => d q.1), fun d => ⟨fun e => main i1 i2 c (fun q => e q.2), fun e => h _ _ _ _ _ (Or.inr (Or.inl ⟨⟨i1, i2⟩, Or.inr ⟨d, e⟩, rfl⟩))⟩⟩⟩, fun c => absurd c one_ne⟩) (fun a => ⟨fun c => absurd rfl c, fun _ => h _ _ _ _ _ (Or.inl ⟨a, rfl⟩)⟩)
theorem m_extreme {pd px py mx my mi mr mo mc mg : Nat → Int32} {mf mt md mk mh : Int32} {n : Nat} (hW : WF pd px py n) (hV : MV pd px py n mx my mi) (v1 v2 : Int32) {K : Int32 → (Nat → Int32) → (Nat → Int32) → Int32 → Int32 → Int32 → (Nat → Int32) → Int32 → (Nat → Int32) → Int32 → Prop} (h : ∀ r mr' mo' f t d mc' mk' mg' mh', exSp pd px py n v1 v2 r → K r mr' mo' f t d mc' mk' mg' mh') : wp_X6_extreme mx my mi (nI n) mr mo mf mt md mc mk mg mh v1 v2 K := by
  have hn := hW.1
  have main : inR v1 → inR v2 → ¬ n = 0 → ¬ (v1 = 0 ∧ v2 = 0) → wp_X6_extreme_29 mx my mi (nI n) v1 v2 K mr mo mf mt md mc mk mg mh := by
    intro i1 i2 hn0 hz
    unfold wp_X6_extreme_29
    have hp := ring_pos hW (by omega)
    refine s_layRound hW hV (fun mr' mo' f t d mc' mk' mg' hr hrp => ⟨n_in (i := 0) (by omega) (by omega), s_extremeLoop hW hV hr (ring_nd n px py) hp i1 i2 hrp (h _ _ _ _ _ _ _ _ _ _ (Or.inr (Or.inr ⟨⟨i1, i2⟩, fun q => ?_, rfl⟩)))⟩)
    rcases q with q | q
    · exact hn0 q
    · exact hz q
  unfold wp_X6_extreme
  rw [n_0 hn]
  refine s_isPlaceM (fun i1 i2 => ⟨fun _ => ⟨fun c => h _ _ _ _ _ _ _ _ _ _ (Or.inr (Or.inl ⟨⟨i1, i2⟩, Or.inl c, rfl⟩)), fun c => ⟨fun d => main i1 i2 c (fun q => d q.1), fun d => ⟨fun e => main i1 i2 c (fun q => e q.2), fun e => h _ _ _ _ _ _ _ _ _ _ (Or.inr (Or.inl ⟨⟨i1, i2⟩, Or.inr ⟨d, e⟩, rfl⟩))⟩⟩⟩, fun c => absurd c one_ne⟩) (fun a => ⟨fun c => absurd rfl c, fun _ => h _ _ _ _ _ _ _ _ _ _ (Or.inl ⟨a, rfl⟩)⟩)
/-- where -/
def whSp (px py : Nat → Int32) (n : Nat) (v1 v2 r : Int32) : Prop := (¬ (inR v1 ∧ inR v2) ∧ r = -2) ∨ ((inR v1 ∧ inR v2) ∧ r = locS px py (ringL n px py) v1 v2)
theorem whSp.uniq {px py : Nat → Int32} {n : Nat} {v1 v2 r r' : Int32} (h : whSp px py n v1 v2 r) (h' : whSp px py n v1 v2 r') : r = r' := by
  rcases h with ⟨a, b⟩ | ⟨a, b⟩ <;> rcases h' with ⟨a', b'⟩ | ⟨a', b'⟩
  · rw [b, b']
  · exact absurd a' a
  · exact absurd a a'
  · rw [b, b']
theorem c_where {pd px py tr rr : Nat → Int32} {ts rs : Int32} {n : Nat} (hW : WF pd px py n) (v1 v2 : Int32) {K : Int32 → (Nat → Int32) → Int32 → (Nat → Int32) → Int32 → Prop} (h : ∀ r tr' ts' rr' rs', whSp px py n v1 v2 r → K r tr' ts' rr' rs') : wp_X5_where px py (nI n) tr ts rr rs v1 v2 K := by
  unfold wp_X5_where
  refine s_isPlaceC (fun i1 i2 => ⟨fun _ => s_gatherRing hW (fun tr' ts' rr' hrp => s_locate hW (ring_nd n px py) i1 i2 hrp (h _ _ _ _ _ (Or.inr ⟨⟨i1, i2⟩, rfl⟩))), fun c => absurd c one_ne⟩) (fun a => ⟨fun c => absurd rfl c, fun _ => h _ _ _ _ _ (Or.inl ⟨a, rfl⟩)⟩)
theorem m_where {pd px py mx my mi mr mo mc mg : Nat → Int32} {mf mt md mk mh : Int32} {n : Nat} (hW : WF pd px py n) (hV : MV pd px py n mx my mi) (v1 v2 : Int32) {K : Int32 → (Nat → Int32) → (Nat → Int32) → Int32 → Int32 → Int32 → (Nat → Int32) → Int32 → (Nat → Int32) → Int32 → Prop} (h : ∀ r mr' mo' f t d mc' mk' mg' mh', whSp px py n v1 v2 r → K r mr' mo' f t d mc' mk' mg' mh') : wp_X6_where mx my mi (nI n) mr mo mf mt md mc mk mg mh v1 v2 K := by
  unfold wp_X6_where
  refine s_isPlaceM (fun i1 i2 => ⟨fun c => absurd c one_ne, fun _ => s_whereOf hW hV (geo hW) i1 i2 (fun mr' mo' f t d mc' mk' mg' _ _ => h _ _ _ _ _ _ _ _ _ _ (Or.inr ⟨⟨i1, i2⟩, rfl⟩))⟩) (fun a => ⟨fun _ => h _ _ _ _ _ _ _ _ _ _ (Or.inl ⟨a, rfl⟩), fun c => absurd rfl c⟩)
/-- touch -/
def toSp (pd px py : Nat → Int32) (n : Nat) (v1 v2 v3 r : Int32) : Prop := (¬ (inR v1 ∧ inR v2) ∧ r = -2) ∨ ((inR v1 ∧ inR v2) ∧ ¬ v3 = 0 ∧ ¬ v3 = 1 ∧ r = -2) ∨ (∃ s, (inR v1 ∧ inR v2) ∧ s ≤ 1 ∧ v3 = nI s ∧ ((n = 0 ∧ r = -5) ∨ (¬ n = 0 ∧ ¬ locS px py (ringL n px py) v1 v2 = 0 ∧ r = -3) ∨ (¬ n = 0 ∧ locS px py (ringL n px py) v1 v2 = 0 ∧ r = eM pd (tB px py (ringL n px py) v1 v2 s (ringL n px py).length))))
theorem toSp.uniq {pd px py : Nat → Int32} {n : Nat} {v1 v2 v3 r r' : Int32} (h : toSp pd px py n v1 v2 v3 r) (h' : toSp pd px py n v1 v2 v3 r') : r = r' := by
  rcases h with ⟨a, b⟩ | ⟨a, c, d, b⟩ | ⟨s, a, c, d, b⟩ <;> rcases h' with ⟨a', b'⟩ | ⟨a', c', d', b'⟩ | ⟨s', a', c', d', b'⟩
  · rw [b, b']
  · exact absurd a' a
  · exact absurd a' a
  · exact absurd a a'
  · rw [b, b']
  · exact (sd_no c' d' c d).elim
  · exact absurd a a'
  · exact (sd_no c d c' d').elim
  · have := sd_uniq c d c' d'
    subst this
    rcases b with ⟨e, f⟩ | ⟨e, g, f⟩ | ⟨e, g, f⟩ <;> rcases b' with ⟨e', f'⟩ | ⟨e', g', f'⟩ | ⟨e', g', f'⟩ <;>
      first
        | (rw [f, f']; done)
        | exact absurd e e'
        | exact absurd e' e
        | exact absurd g g'
        | exact absurd g' g
theorem c_touch {pd px py tr rr : Nat → Int32} {ts rs : Int32} {n : Nat} (hW : WF pd px py n) (v1 v2 v3 : Int32) {K : Int32 → (Nat → Int32) → Int32 → (Nat → Int32) → Int32 → Prop} (h : ∀ r tr' ts' rr' rs', toSp pd px py n v1 v2 v3 r → K r tr' ts' rr' rs') : wp_X5_touch pd px py (nI n) tr ts rr rs v1 v2 v3 K := by
  have hn := hW.1
  unfold wp_X5_touch
  rw [n_0 hn]
  refine s_isPlaceC (fun i1 i2 => ⟨fun c => absurd c one_ne, fun _ => s_isSideC (fun s hs es => ⟨fun _ => ⟨fun c0 => s_gatherRing hW (fun tr' ts' rr' hrp => s_locate hW (ring_nd n px py) i1 i2 hrp ⟨fun c => ?_, fun c => h _ _ _ _ _ (Or.inr (Or.inr ⟨s, ⟨i1, i2⟩, hs, es, Or.inr (Or.inl ⟨c0, c, rfl⟩)⟩))⟩), fun c => h _ _ _ _ _ (Or.inr (Or.inr ⟨s, ⟨i1, i2⟩, hs, es, Or.inl ⟨c, rfl⟩⟩))⟩, fun c => absurd c one_ne⟩) (fun a b => ⟨fun c => absurd rfl c, fun _ => h _ _ _ _ _ (Or.inr (Or.inl ⟨⟨i1, i2⟩, a, b, rfl⟩))⟩)⟩) (fun a => ⟨fun _ => h _ _ _ _ _ (Or.inl ⟨a, rfl⟩), fun c => absurd rfl c⟩)
  subst es
  refine s_nearest hW (ring_nd n px py) hs i1 i2 hrp ?_
  have H : K (eM pd (tB px py (ringL n px py) v1 v2 s (ringL n px py).length)) tr' ts' rr' (nI (ringL n px py).length) := h _ _ _ _ _ (Or.inr (Or.inr ⟨s, ⟨i1, i2⟩, hs, rfl, Or.inr (Or.inr ⟨c0, c, rfl⟩)⟩))
  cases hb : tB px py (ringL n px py) v1 v2 s (ringL n px py).length with
  | none =>
    rw [hb] at H
    exact s_idAt_out (Or.inl (by decide)) H
  | some b =>
    rw [hb] at H
    exact s_idAt_in hn (tB_in (ring_nd n px py) _ (Nat.le_refl _) _ hb) H
theorem m_touch {pd px py mx my mi mr mo mc mg : Nat → Int32} {mf mt md mk mh : Int32} {n : Nat} (hW : WF pd px py n) (hV : MV pd px py n mx my mi) (v1 v2 v3 : Int32) {K : Int32 → (Nat → Int32) → (Nat → Int32) → Int32 → Int32 → Int32 → (Nat → Int32) → Int32 → (Nat → Int32) → Int32 → Prop} (h : ∀ r mr' mo' f t d mc' mk' mg' mh', toSp pd px py n v1 v2 v3 r → K r mr' mo' f t d mc' mk' mg' mh') : wp_X6_touch mx my mi (nI n) mr mo mf mt md mc mk mg mh v1 v2 v3 K := by
  have hn := hW.1
  unfold wp_X6_touch
  rw [n_0 hn]
  refine s_isPlaceM (fun i1 i2 => ⟨fun c => absurd c one_ne, fun _ => s_sideM (fun s hs es => ⟨fun _ => ⟨fun c0 => s_whereOf hW hV (geo hW) i1 i2 (fun mr' mo' f t d mc' mk' mg' hr hrp => ⟨fun c => ?_, fun c => h _ _ _ _ _ _ _ _ _ _ (Or.inr (Or.inr ⟨s, ⟨i1, i2⟩, hs, es, Or.inr (Or.inl ⟨c0, c, rfl⟩)⟩))⟩), fun c => h _ _ _ _ _ _ _ _ _ _ (Or.inr (Or.inr ⟨s, ⟨i1, i2⟩, hs, es, Or.inl ⟨c, rfl⟩⟩))⟩, fun c => absurd c one_ne⟩) (fun a b => ⟨fun c => absurd rfl c, fun _ => h _ _ _ _ _ _ _ _ _ _ (Or.inr (Or.inl ⟨⟨i1, i2⟩, a, b, rfl⟩))⟩)⟩) (fun a => ⟨fun _ => h _ _ _ _ _ _ _ _ _ _ (Or.inl ⟨a, rfl⟩), fun c => absurd rfl c⟩)
  subst es
  exact s_touchLoop hW hV (ring_nd n px py) hs i1 i2 hrp (h _ _ _ _ _ _ _ _ _ _ (Or.inr (Or.inr ⟨s, ⟨i1, i2⟩, hs, rfl, Or.inr (Or.inr ⟨c0, c, rfl⟩)⟩)))
theorem c_area {pd px py tr rr : Nat → Int32} {ts rs : Int32} {n : Nat} (hW : WF pd px py n) {K : Int64 → (Nat → Int32) → Int32 → (Nat → Int32) → Int32 → Prop} (h : ∀ tr' ts' rr' rs', K (arS px py (ringL n px py) ((ringL n px py).length - 2)) tr' ts' rr' rs') : wp_X5_area px py (nI n) tr ts rr rs K := by
  unfold wp_X5_area
  exact s_gatherRing hW (fun tr' ts' rr' hrp => s_areaC hW.1 (ring_nd n px py) hrp (h _ _ _ _))
