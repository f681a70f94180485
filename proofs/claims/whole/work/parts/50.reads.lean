theorem v_in {m : Nat} (hm : m ≤ 100) (v : Int32) : ((¬ v < 0 → ¬ (nI m - 1) < v → ∃ k, k < m ∧ v = nI k) ∧ ((v < 0 ∨ (nI m - 1) < v) → ∀ k, k < m → ¬ v = nI k)) := by
  have e : (nI m - 1).toInt = (m : Int) - 1 := by
    cases m with
    | zero => decide
    | succ j => rw [n_s1, n_ti (by omega)]; omega
  constructor
  · intro a b
    obtain ⟨j, hj, rfl⟩ := n_of a
    rw [I_lt, e, nI_toInt hj] at b
    exact ⟨j, by omega, rfl⟩
  · intro h k hk z
    subst z
    rcases h with h | h
    · exact n_ge0 (by omega) h
    · rw [I_lt, e, n_ti (by omega)] at h; omega
theorem s_isPoint {pd px py mx my mi : Nat → Int32} {n : Nat} (hW : WF pd px py n) (hV : MV pd px py n mx my mi) (v : Int32) {K : Int32 → Prop} (h1 : ∀ k, k < n → pd k = v → K 1) (h0 : (∀ k, k < n → ¬ pd k = v) → K 0) : wp_X6_isPoint mi v K := by
  unfold wp_X6_isPoint
  refine s_in (fun a b => ⟨fun q => absurd q one_ne, fun _ => ?_⟩) (fun a => ⟨fun _ => h0 (fun k hk e => ?_), fun q => absurd rfl q⟩)
  · obtain ⟨j, hj, rfl⟩ := (v_in (m := 32) (by omega) v).1 a b
    rw [n_cl (by omega)]
    refine ⟨n_in hj (by omega), fun c => h0 (fun k hk e => ?_), fun c => ?_⟩
    · have hg := hW.2.1 k hk
      rw [e] at hg
      have : ig pd k = j := by
        have := hg.2; rw [n_eq (by omega) (by omega)] at this; omega
      have h2 := (hV.1 k hk).1
      rw [this, c] at h2
      exact absurd h2 (by decide)
    · apply Classical.byContradiction
      intro hne
      apply c
      apply hV.2 j hj
      intro k hk e
      apply hne
      exact h1 k hk (by rw [(hW.2.1 k hk).2, e])
  · have hg := hW.2.1 k hk
    have := (v_in (m := 32) (by omega) v).2 a (ig pd k) hg.1
    rw [← e] at this
    exact this hg.2
/-- a POINT of an ID is one -/
theorem pd_inj {pd px py : Nat → Int32} {n j k : Nat} (hW : WF pd px py n) (hj : j < n) (hk : k < n) (e : pd j = pd k) : j = k := hW.2.2.1 j k hj hk (by unfold ig; rw [e])
def pSp (pd px py : Nat → Int32) (n : Nat) (v1 v2 r : Int32) : Prop :=
  (∃ k, k < n ∧ pd k = v1 ∧ ((v2 = 0 ∧ r = px k) ∨ (v2 = 1 ∧ r = py k) ∨ (v2 = 2 ∧ r = nI k) ∨ (v2 = 3 ∧ TOPv n px py 0 k r) ∨ (v2 = 4 ∧ TOPv n px py 1 k r) ∨ ((¬ v2 = 0 ∧ ¬ v2 = 1 ∧ ¬ v2 = 2 ∧ ¬ v2 = 3 ∧ ¬ v2 = 4) ∧ r = -2))) ∨ ((∀ k, k < n → ¬ pd k = v1) ∧ r = -1)
theorem pSp.uniq {pd px py : Nat → Int32} {n : Nat} {v1 v2 r r' : Int32} (hW : WF pd px py n) (h : pSp pd px py n v1 v2 r) (h' : pSp pd px py n v1 v2 r') : r = r' := by
  rcases h with ⟨k, hk, e, h⟩ | ⟨hn, e⟩ <;> rcases h' with ⟨k', hk', e', h'⟩ | ⟨hn', e'⟩
  · have := pd_inj hW hk hk' (e.trans e'.symm)
    subst this
    rcases h with ⟨a, b⟩ | ⟨a, b⟩ | ⟨a, b⟩ | ⟨a, b⟩ | ⟨a, b⟩ | ⟨a, b⟩ <;> rcases h' with ⟨a', b'⟩ | ⟨a', b'⟩ | ⟨a', b'⟩ | ⟨a', b'⟩ | ⟨a', b'⟩ | ⟨a', b'⟩ <;>
      first
        | (rw [b, b']; done)
        | exact b.uniq b'
        | (exfalso; rw [a] at a'; exact absurd a' (by decide))
        | (exfalso; exact a.1 a')
        | (exfalso; exact a'.1 a)
        | (exfalso; exact a.2.1 a')
        | (exfalso; exact a'.2.1 a)
        | (exfalso; exact a.2.2.1 a')
        | (exfalso; exact a'.2.2.1 a)
        | (exfalso; exact a.2.2.2.1 a')
        | (exfalso; exact a'.2.2.2.1 a)
        | (exfalso; exact a.2.2.2.2 a')
        | (exfalso; exact a'.2.2.2.2 a)
  · exact absurd e (hn' k hk)
  · exact absurd e' (hn k' hk')
  · rw [e, e']
theorem c_point {pd px py qf qs tr : Nat → Int32} {ts : Int32} {n : Nat} (hW : WF pd px py n) (hT : PT qf qs n) (v1 v2 : Int32) {K : Int32 → (Nat → Int32) → Int32 → Prop} (h : ∀ r tr' ts', pSp pd px py n v1 v2 r → K r tr' ts') : wp_X5_point pd px py (nI n) qf qs tr ts v1 v2 K := by
  have hn := hW.1
  unfold wp_X5_point
  refine s_rankOf hn v1 (fun k hk e => ⟨fun _ => ?_, fun c => absurd c (n_ne6 (by omega))⟩) (fun hno => ⟨fun c => absurd rfl c, fun _ => h _ _ _ (Or.inr ⟨hno, rfl⟩)⟩)
  rw [n_cl (by omega)]
  refine ⟨fun a => ⟨n_in (by omega) (by omega), h _ _ _ (Or.inl ⟨k, hk, e, Or.inl ⟨a, rfl⟩⟩)⟩, fun a0 => ⟨fun a => ⟨n_in (by omega) (by omega), h _ _ _ (Or.inl ⟨k, hk, e, Or.inr (Or.inl ⟨a, rfl⟩)⟩)⟩, fun a1 => ⟨fun a => h _ _ _ (Or.inl ⟨k, hk, e, Or.inr (Or.inr (Or.inl ⟨a, rfl⟩))⟩), fun a2 => ⟨fun a => ?_, fun a3 => ⟨fun a => ?_, fun a4 => h _ _ _ (Or.inl ⟨k, hk, e, Or.inr (Or.inr (Or.inr (Or.inr (Or.inr ⟨⟨a0, a1, a2, a3, a4⟩, rfl⟩))))⟩)⟩⟩⟩⟩⟩
  · exact s_topOfC (s := 0) hW hT (by omega) hk (fun v tr' ts' hv => h _ _ _ (Or.inl ⟨k, hk, e, Or.inr (Or.inr (Or.inr (Or.inl ⟨a, hv⟩)))⟩))
  · exact s_topOfC (s := 1) hW hT (by omega) hk (fun v tr' ts' hv => h _ _ _ (Or.inl ⟨k, hk, e, Or.inr (Or.inr (Or.inr (Or.inr (Or.inl ⟨a, hv⟩))))⟩))
theorem m_point {pd px py mx my mi mr mo mc : Nat → Int32} {mf mt md mk : Int32} {n : Nat} (hW : WF pd px py n) (hV : MV pd px py n mx my mi) (v1 v2 : Int32) {K : Int32 → (Nat → Int32) → (Nat → Int32) → Int32 → Int32 → Int32 → (Nat → Int32) → Int32 → Prop} (h : ∀ r mr' mo' f t d mc' mk', pSp pd px py n v1 v2 r → K r mr' mo' f t d mc' mk') : wp_X6_point mx my mi (nI n) mr mo mf mt md mc mk v1 v2 K := by
  have hn := hW.1
  unfold wp_X6_point
  refine s_isPoint hW hV v1 (fun k hk e => ⟨fun _ => ?_, fun c => absurd c one_ne⟩) (fun hno => ⟨fun c => absurd rfl c, fun _ => h _ _ _ _ _ _ _ _ (Or.inr ⟨hno, rfl⟩)⟩)
  refine s_layRanks hW hV (fun mr' mo' r1 r2 => ?_)
  have hv := pd_in hW hk
  rw [← e, pd_mx hV hk, pd_my hV hk, show mo' (pd k).toNatClampNeg = nI k from r2 k hk]
  refine ⟨fun a => ⟨hv, h _ _ _ _ _ _ _ _ (Or.inl ⟨k, hk, e, Or.inl ⟨a, rfl⟩⟩)⟩, fun a0 => ⟨fun a => ⟨hv, h _ _ _ _ _ _ _ _ (Or.inl ⟨k, hk, e, Or.inr (Or.inl ⟨a, rfl⟩)⟩)⟩, fun a1 => ⟨fun a => ⟨hv, h _ _ _ _ _ _ _ _ (Or.inl ⟨k, hk, e, Or.inr (Or.inr (Or.inl ⟨a, rfl⟩))⟩)⟩, fun a2 => ⟨fun a => ?_, fun a3 => ⟨fun a => ?_, fun a4 => h _ _ _ _ _ _ _ _ (Or.inl ⟨k, hk, e, Or.inr (Or.inr (Or.inr (Or.inr (Or.inr ⟨⟨a0, a1, a2, a3, a4⟩, rfl⟩))))⟩)⟩⟩⟩⟩⟩
  · exact s_topOfM (s := 0) hW hV (by omega) hk (fun v mr' mo' f t d mc' mk' hv => h _ _ _ _ _ _ _ _ (Or.inl ⟨k, hk, e, Or.inr (Or.inr (Or.inr (Or.inl ⟨a, hv⟩)))⟩))
  · exact s_topOfM (s := 1) hW hV (by omega) hk (fun v mr' mo' f t d mc' mk' hv => h _ _ _ _ _ _ _ _ (Or.inl ⟨k, hk, e, Or.inr (Or.inr (Or.inr (Or.inr (Or.inl ⟨a, hv⟩))))⟩))
def rSp (pd : Nat → Int32) (n : Nat) (v r : Int32) : Prop := (∃ k, k < n ∧ v = nI k ∧ r = pd k) ∨ ((∀ k, k < n → ¬ v = nI k) ∧ r = -6)
theorem rSp.uniq {pd : Nat → Int32} {n : Nat} {v r r' : Int32} (hn : n ≤ 100) (h : rSp pd n v r) (h' : rSp pd n v r') : r = r' := by
  rcases h with ⟨k, hk, e, h⟩ | ⟨hn, e⟩ <;> rcases h' with ⟨k', hk', e', h'⟩ | ⟨hn', e'⟩
  · rw [e, n_eq (by omega) (by omega)] at e'
    rw [h, h', e']
  · exact absurd e (hn' k hk)
  · exact absurd e' (hn k' hk')
  · rw [e, e']
/-- the class's idAt of a place in a list of ranks -/
theorem s_idOf {pd px py tr : Nat → Int32} {n : Nat} {l : List Nat} (hW : WF pd px py n) (hl : l.length ≤ 32) (hm : ∀ a ∈ l, a < n) (hrp : rp nI tr l) (v : Int32) {K : Int32 → Prop} (h : ∀ r, rSp (fun i => pd (atl l i)) l.length v r → K r) : wp_X1_rankAt tr (nI l.length) v (fun r => wp_X3_idAt pd (nI n) r K) := by
  have hn := hW.1
  refine s_rankAt hl hrp v (fun i hi e => ?_) (fun hno => ?_)
  · exact s_idAt_in hn (hm _ (atl_mem hi)) (h _ (Or.inl ⟨i, hi, e, rfl⟩))
  · exact s_idAt_out (Or.inl (by decide)) (h _ (Or.inr ⟨hno, rfl⟩))
theorem c_ranked {pd px py : Nat → Int32} {n : Nat} (hW : WF pd px py n) (v : Int32) {K : Int32 → Prop} (h : ∀ r, rSp pd n v r → K r) : wp_X5_ranked pd (nI n) v K := by
  have hn := hW.1
  unfold wp_X5_ranked
  by_cases c : v < 0 ∨ nI n ≤ v
  · refine s_idAt_out c (h _ (Or.inr ⟨fun k hk e => ?_, rfl⟩))
    subst e
    rcases c with c | c
    · exact n_ge0 (by omega) c
    · rw [n_le (by omega) (by omega)] at c; omega
  · have c0 : ¬ v < 0 := fun z => c (Or.inl z)
    obtain ⟨j, hj, rfl⟩ := n_of c0
    have c1 : ¬ nI n ≤ nI j := fun z => c (Or.inr z)
    rw [nI_leI (by omega) hj] at c1
    exact s_idAt_in hn (by omega) (h _ (Or.inl ⟨j, by omega, rfl, rfl⟩))
theorem m_ranked {pd px py mx my mi mr mo : Nat → Int32} {n : Nat} (hW : WF pd px py n) (hV : MV pd px py n mx my mi) (v : Int32) {K : Int32 → (Nat → Int32) → (Nat → Int32) → Prop} (h : ∀ r mr' mo', rSp pd n v r → K r mr' mo') : wp_X6_ranked mx my mi (nI n) mr mo v K := by
  have hn := hW.1
  unfold wp_X6_ranked
  refine s_layRanks hW hV (fun mr' mo' r1 r2 => s_in (fun a b => ⟨fun q => absurd q one_ne, fun _ => ?_⟩) (fun a => ⟨fun _ => h _ _ _ (Or.inr ⟨(v_in (m := n) (by omega) v).2 a, rfl⟩), fun q => absurd rfl q⟩))
  obtain ⟨j, hj, rfl⟩ := (v_in (m := n) (by omega) v).1 a b
  rw [n_cl (by omega), r1 j hj]
  exact ⟨n_in (by omega) (by omega), h _ _ _ (Or.inl ⟨j, hj, rfl, rfl⟩)⟩
/-- part -/
def qSp (px py : Nat → Int32) (n : Nat) (v1 v2 r : Int32) : Prop :=
  (∃ k, 1 ≤ k ∧ k < 64 ∧ v1 = nI k ∧ 0 < psz n k ∧ ((v2 = 0 ∧ r = nI (psz n k)) ∨ (v2 = 1 ∧ r = nI (pfs n k)) ∨ (v2 = 2 ∧ r = nI (pch n px py 0 k).length) ∨ (v2 = 3 ∧ r = nI (pch n px py 1 k).length) ∨ (v2 = 4 ∧ r = if k = 1 then -6 else nI (rst (pch n px py 0 k) (pch n px py 0 (k / 2))).length) ∨ (v2 = 5 ∧ r = if k = 1 then -6 else nI (rst (pch n px py 1 k) (pch n px py 1 (k / 2))).length) ∨ ((¬ v2 = 0 ∧ ¬ v2 = 1 ∧ ¬ v2 = 2 ∧ ¬ v2 = 3 ∧ ¬ v2 = 4 ∧ ¬ v2 = 5) ∧ r = -2))) ∨ ((∀ k, 1 ≤ k → k < 64 → v1 = nI k → psz n k = 0) ∧ r = -1)
theorem qSp.uniq {px py : Nat → Int32} {n : Nat} {v1 v2 r r' : Int32} (h : qSp px py n v1 v2 r) (h' : qSp px py n v1 v2 r') : r = r' := by
  rcases h with ⟨k, k1, k2, e, z, h⟩ | ⟨hn, e⟩ <;> rcases h' with ⟨k', k1', k2', e', z', h'⟩ | ⟨hn', e'⟩
  · have : k = k' := by rw [e, n_eq (by omega) (by omega)] at e'; exact e'
    subst this
    rcases h with ⟨a, b⟩ | ⟨a, b⟩ | ⟨a, b⟩ | ⟨a, b⟩ | ⟨a, b⟩ | ⟨a, b⟩ | ⟨a, b⟩ <;> rcases h' with ⟨a', b'⟩ | ⟨a', b'⟩ | ⟨a', b'⟩ | ⟨a', b'⟩ | ⟨a', b'⟩ | ⟨a', b'⟩ | ⟨a', b'⟩ <;>
      first
        | (rw [b, b']; done)
        | (exfalso; rw [a] at a'; exact absurd a' (by decide))
        | (exfalso; exact a.1 a')
        | (exfalso; exact a'.1 a)
        | (exfalso; exact a.2.1 a')
        | (exfalso; exact a'.2.1 a)
        | (exfalso; exact a.2.2.1 a')
        | (exfalso; exact a'.2.2.1 a)
        | (exfalso; exact a.2.2.2.1 a')
        | (exfalso; exact a'.2.2.2.1 a)
        | (exfalso; exact a.2.2.2.2.1 a')
        | (exfalso; exact a'.2.2.2.2.1 a)
        | (exfalso; exact a.2.2.2.2.2 a')
        | (exfalso; exact a'.2.2.2.2.2 a)
  · have := hn' k k1 k2 e; omega
  · have := hn k' k1' k2' e'; omega
  · rw [e, e']
theorem c_part {pd px py qf qs tr gr : Nat → Int32} {ts gs : Int32} {n : Nat} (hW : WF pd px py n) (hT : PT qf qs n) (v1 v2 : Int32) {K : Int32 → (Nat → Int32) → Int32 → (Nat → Int32) → Int32 → Prop} (h : ∀ r tr' ts' gr' gs', qSp px py n v1 v2 r → K r tr' ts' gr' gs') : wp_X5_part px py qf qs tr ts gr gs v1 v2 K := by
  have hn := hW.1
  unfold wp_X5_part
  refine s_has hn hT v1 (fun k k1 k2 e z => ⟨fun _ => ?_, fun c => absurd c one_ne⟩) (fun hno => ⟨fun c => absurd rfl c, fun _ => h _ _ _ _ _ (Or.inr ⟨hno, rfl⟩)⟩)
  subst e
  have one : (nI k = 1 ↔ k = 1) := by rw [show (1 : Int32) = nI 1 from rfl, n_eq (by omega) (by omega)]
  rw [n_cl (by omega), (hT k k1 k2).1, (hT k k1 k2).2, one]
  have H := fun r (hr : _) tr' ts' gr' gs' => h r tr' ts' gr' gs' (Or.inl ⟨k, k1, k2, rfl, z, hr⟩)
  refine ⟨fun a => ⟨n_in (by omega) (by omega), H _ (Or.inl ⟨a, rfl⟩) _ _ _ _⟩, fun a0 => ⟨fun a => ⟨n_in (by omega) (by omega), H _ (Or.inr (Or.inl ⟨a, rfl⟩)) _ _ _ _⟩, fun a1 => ⟨fun a => ?_, fun a2 => ⟨fun a => ?_, fun a3 => ⟨fun a => ⟨fun b => ?_, fun b => ?_⟩, fun a4 => ⟨fun a => ⟨fun b => ?_, fun b => ?_⟩, fun a5 => H _ (Or.inr (Or.inr (Or.inr (Or.inr (Or.inr (Or.inr ⟨⟨a0, a1, a2, a3, a4, a5⟩, rfl⟩)))))) _ _ _ _⟩⟩⟩⟩⟩⟩
  · exact s_cornersOf (s := 0) hW hT (by omega) k1 k2 z (fun tr' ts' => H _ (Or.inr (Or.inr (Or.inl ⟨a, rfl⟩))) _ _ _ _)
  · exact s_cornersOf (s := 1) hW hT (by omega) k1 k2 z (fun tr' ts' => H _ (Or.inr (Or.inr (Or.inr (Or.inl ⟨a, rfl⟩)))) _ _ _ _)
  · exact s_restOfC (s := 0) hW hT (by omega) (by omega) k2 z (fun tr' ts' gr' gs' => H _ (Or.inr (Or.inr (Or.inr (Or.inr (Or.inl ⟨a, by rw [if_neg b]⟩))))) _ _ _ _)
  · exact H _ (Or.inr (Or.inr (Or.inr (Or.inr (Or.inl ⟨a, by rw [if_pos b]⟩))))) _ _ _ _
  · exact s_restOfC (s := 1) hW hT (by omega) (by omega) k2 z (fun tr' ts' gr' gs' => H _ (Or.inr (Or.inr (Or.inr (Or.inr (Or.inr (Or.inl ⟨a, by rw [if_neg b]⟩)))))) _ _ _ _)
  · exact H _ (Or.inr (Or.inr (Or.inr (Or.inr (Or.inr (Or.inl ⟨a, by rw [if_pos b]⟩)))))) _ _ _ _
theorem s_cornersM {pd px py mx my mi mr mo mc : Nat → Int32} {mf mt md mk : Int32} {n s k : Nat} (hW : WF pd px py n) (hV : MV pd px py n mx my mi) (hs : s ≤ 1) (k1 : 1 ≤ k) (k2 : k < 64) (z : 0 < psz n k) {K : Int32 → (Nat → Int32) → (Nat → Int32) → Int32 → Int32 → Int32 → (Nat → Int32) → Int32 → Prop} (h : ∀ mr' mo' f t d mc' mk', RK pd n mr' mo' → K (nI (pch n px py s k).length) mr' mo' f t d mc' mk') : wp_X6_chainSet mx my mi (nI n) mr mo mf mt md mc mk (nI k) (nI s) (fun r a b c d e f g => wp_X6_bits r (fun q => K q a b c d e f g)) := by
  have hn := hW.1
  refine s_chainSet hW hV hs _ (fun k' w mr' mo' mc' mk' a1 a2 e hz hr hC => ?_) (fun mr' mo' f t d mc' mk' hno hr => ?_)
  · rw [n_eq (by omega) (by omega)] at e
    subst e
    refine s_bits _ ?_
    rw [cs_len hW (fun r hr => ((pch_in a1 hz).1 r hr).2.2) chn_dec hC]
    exact h _ _ _ _ _ _ _ hr
  · have := hno k k1 k2 rfl; omega
theorem s_restM1 {mx my mi mr mo mc : Nat → Int32} {mn mf mt md mk v2 : Int32} {K : Int32 → (Nat → Int32) → (Nat → Int32) → Int32 → Int32 → Int32 → (Nat → Int32) → Int32 → Prop} (h : K (-6) mr mo mf mt md mc mk) : wp_X6_restOf mx my mi mn mr mo mf mt md mc mk (nI 1) v2 K := by
  unfold wp_X6_restOf
  exact ⟨fun c => absurd rfl c, fun _ => h⟩
theorem m_part {pd px py mx my mi mr mo mc : Nat → Int32} {mf mt md mk : Int32} {n : Nat} (hW : WF pd px py n) (hV : MV pd px py n mx my mi) (v1 v2 : Int32) {K : Int32 → (Nat → Int32) → (Nat → Int32) → Int32 → Int32 → Int32 → (Nat → Int32) → Int32 → Prop} (h : ∀ r mr' mo' f t d mc' mk', qSp px py n v1 v2 r → K r mr' mo' f t d mc' mk') : wp_X6_part mx my mi (nI n) mr mo mf mt md mc mk v1 v2 K := by
  have hn := hW.1
  unfold wp_X6_part
  refine s_layPart hW hV v1 (fun k mr1 mo1 k1 k2 e z hr => ⟨fun _ => ?_, fun c => absurd c one_ne⟩) (fun mr1 mo1 f t d hno hr => ⟨fun c => absurd rfl c, fun _ => h _ _ _ _ _ _ _ _ (Or.inr ⟨hno, rfl⟩)⟩)
  subst e
  have H := fun r (hr : _) mr' mo' f t d mc' mk' => h r mr' mo' f t d mc' mk' (Or.inl ⟨k, k1, k2, rfl, z, hr⟩)
  rw [show nI (pfs n k + psz n k) - nI (pfs n k) = nI (psz n k) by rw [n_sub (by omega)]; congr 1; omega]
  refine ⟨fun a => H _ (Or.inl ⟨a, rfl⟩) _ _ _ _ _ _ _, fun a0 => ⟨fun a => H _ (Or.inr (Or.inl ⟨a, rfl⟩)) _ _ _ _ _ _ _, fun a1 => ⟨fun a => ?_, fun a2 => ⟨fun a => ?_, fun a3 => ⟨fun a => ?_, fun a4 => ⟨fun a => ?_, fun a5 => H _ (Or.inr (Or.inr (Or.inr (Or.inr (Or.inr (Or.inr ⟨⟨a0, a1, a2, a3, a4, a5⟩, rfl⟩)))))) _ _ _ _ _ _ _⟩⟩⟩⟩⟩⟩
  · exact s_cornersM (s := 0) hW hV (by omega) k1 k2 z (fun mr' mo' f t d mc' mk' _ => H _ (Or.inr (Or.inr (Or.inl ⟨a, rfl⟩))) _ _ _ _ _ _ _)
  · exact s_cornersM (s := 1) hW hV (by omega) k1 k2 z (fun mr' mo' f t d mc' mk' _ => H _ (Or.inr (Or.inr (Or.inr (Or.inl ⟨a, rfl⟩)))) _ _ _ _ _ _ _)
  · by_cases b : k = 1
    · subst b
      exact s_restM1 (H _ (Or.inr (Or.inr (Or.inr (Or.inr (Or.inl ⟨a, by rw [if_pos rfl]⟩))))) _ _ _ _ _ _ _)
    · exact s_restOfM (s := 0) hW hV (by omega) (by omega) k2 z (fun mr' mo' f t d mc' mk' _ => H _ (Or.inr (Or.inr (Or.inr (Or.inr (Or.inl ⟨a, by rw [if_neg b]⟩))))) _ _ _ _ _ _ _)
  · by_cases b : k = 1
    · subst b
      exact s_restM1 (H _ (Or.inr (Or.inr (Or.inr (Or.inr (Or.inr (Or.inl ⟨a, by rw [if_pos rfl]⟩)))))) _ _ _ _ _ _ _)
    · exact s_restOfM (s := 1) hW hV (by omega) (by omega) k2 z (fun mr' mo' f t d mc' mk' _ => H _ (Or.inr (Or.inr (Or.inr (Or.inr (Or.inr (Or.inl ⟨a, by rw [if_neg b]⟩)))))) _ _ _ _ _ _ _)
