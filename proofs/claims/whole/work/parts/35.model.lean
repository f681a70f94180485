theorem s_in {v a b : Int32} {K : Int32 → Prop} (h1 : ¬ v < a → ¬ b < v → K 1) (h0 : (v < a ∨ b < v) → K 0) : wp_X6_in v a b K := by
  unfold wp_X6_in
  exact ⟨fun c => h0 (Or.inl c), fun c => ⟨fun d => h0 (Or.inr d), fun d => h1 c d⟩⟩
theorem inR_iff (v : Int32) : inR v ↔ ¬ v < (-1000000000) ∧ ¬ 1000000000 < v := by
  unfold inR
  rw [I_lt, I_lt, show (-1000000000 : Int32).toInt = -1000000000 from rfl, show (1000000000 : Int32).toInt = 1000000000 from rfl]
  omega
theorem s_isPlaceM {x y : Int32} {K : Int32 → Prop} (h1 : inR x → inR y → K 1) (h0 : ¬ (inR x ∧ inR y) → K 0) : wp_X6_isPlace x y K := by
  unfold wp_X6_isPlace
  refine s_in (fun a b => ⟨fun c => absurd c one_ne, fun _ => s_in (fun c d => ⟨fun q => absurd q one_ne, fun _ => h1 ((inR_iff x).mpr ⟨a, b⟩) ((inR_iff y).mpr ⟨c, d⟩)⟩) (fun c => ⟨fun _ => h0 (fun z => ?_), fun q => absurd rfl q⟩)⟩) (fun c => ⟨fun _ => h0 (fun z => ?_), fun q => absurd rfl q⟩)
  · have := (inR_iff y).mp z.2
    rcases c with c | c
    · exact this.1 c
    · exact this.2 c
  · have := (inR_iff x).mp z.1
    rcases c with c | c
    · exact this.1 c
    · exact this.2 c
theorem s_isPlaceC {x y : Int32} {K : Int32 → Prop} (h1 : inR x → inR y → K 1) (h0 : ¬ (inR x ∧ inR y) → K 0) : wp_X5_isPlace x y K := by
  have hx := inR_iff x
  have hy := inR_iff y
  unfold wp_X5_isPlace
  by_cases a : inR x ∧ inR y
  · have k := h1 a.1 a.2
    have b1 := hx.mp a.1
    have b2 := hy.mp a.2
    simp [b1.1, b1.2, b2.1, b2.2, k]
  · have k := h0 a
    rw [hx, hy] at a
    by_cases c1 : x < -1000000000
    · simp [c1, k]
    · by_cases c2 : 1000000000 < x
      · simp [c1, c2, k]
      · by_cases c3 : y < -1000000000
        · simp [c1, c2, c3, k]
        · by_cases c4 : 1000000000 < y
          · simp [c1, c2, c3, c4, k]
          · exact absurd ⟨⟨c1, c2⟩, c3, c4⟩ a
theorem bit_dec : ∀ k, k < 64 → ∀ j, j < 6 → ((nI k &&& nI (2 ^ j)) = 0 ↔ (k / 2 ^ j) % 2 = 0) := by decide +kernel
theorem shr_dec : ∀ j, j < 6 → nI (2 ^ (j + 1)) >>> ((1 : Int32) &&& 31) = nI (2 ^ j) := by decide +kernel
theorem shr_0 : nI (2 ^ 0) >>> ((1 : Int32) &&& 31) = 0 := by decide +kernel
def tbit (j : Nat) : Int32 := if j = 0 then 0 else nI (2 ^ (j - 1))
theorem tbit_s {j : Nat} (h : j < 6) : nI (2 ^ j) >>> ((1 : Int32) &&& 31) = tbit j := by
  cases j with
  | zero => exact shr_0
  | succ j => exact shr_dec j (by omega)
theorem div_s (k i : Nat) : k / 2 ^ (i + 1) = k / 2 ^ i / 2 := by rw [Nat.pow_succ, Nat.div_div_eq_div_mul]
theorem log2_2 {q : Nat} (hq : 1 ≤ q) (b : Nat) (hb : b < 2) : (2 * q + b).log2 = q.log2 + 1 := by
  rw [Nat.log2_def, if_pos (by omega), show (2 * q + b) / 2 = q by omega]
theorem log2_s {k : Nat} (h : k < 64) : k.log2 ≤ 5 := by
  by_cases h0 : k = 0
  · subst h0; decide
  · have := (Nat.log2_lt (n := k) (k := 6) h0).mpr (by omega)
    omega
theorem psz_0 (n : Nat) : ∀ (j k q : Nat), 1 ≤ j → k / 2 ^ j = q → 1 ≤ q → psz n q ≤ 1 → psz n k = 0 := by
  intro j
  induction j with
  | zero => intro k q h; omega
  | succ j ih =>
    intro k q h1 hq hq1 hz
    rw [div_s] at hq
    have key : psz n (k / 2 ^ j) = 0 := by
      rcases (show k / 2 ^ j = 2 * q ∨ k / 2 ^ j = 2 * q + 1 by omega) with e | e
      · rw [e, psz_e n hq1, if_neg (by omega)]
      · rw [e, psz_o n hq1, if_neg (by omega)]
    by_cases hj : j = 0
    · subst hj
      simpa using key
    · exact ih k (k / 2 ^ j) (by omega) rfl (by omega) (by omega)
def RK (pd : Nat → Int32) (n : Nat) (mr mo : Nat → Int32) : Prop := (∀ k, k < n → mr k = pd k) ∧ (∀ k, k < n → mo (ig pd k) = nI k)
set_option maxHeartbeats 1000000 in
theorem s_layPart {pd px py mx my mi mr mo : Nat → Int32} {mf mt md : Int32} {n : Nat} (hW : WF pd px py n) (hV : MV pd px py n mx my mi) (v : Int32) {K : Int32 → (Nat → Int32) → (Nat → Int32) → Int32 → Int32 → Int32 → Prop}
    (h1 : ∀ k mr' mo', 1 ≤ k → k < 64 → v = nI k → 0 < psz n k → RK pd n mr' mo' → K 1 mr' mo' (nI (pfs n k)) (nI (pfs n k + psz n k)) (nI k.log2))
    (h0 : ∀ mr' mo' f t d, (∀ k, 1 ≤ k → k < 64 → v = nI k → psz n k = 0) → RK pd n mr' mo' → K 0 mr' mo' f t d) : wp_X6_layPart mx my mi (nI n) mr mo mf mt md v K := by
  have hn := hW.1
  unfold wp_X6_layPart
  refine s_layRanks hW hV (fun mr' mo' r1 r2 => ?_)
  have hRK : RK pd n mr' mo' := ⟨r1, r2⟩
  refine s_in (fun a b => ⟨fun q => absurd q one_ne, fun _ => ?_⟩) (fun c => ⟨fun _ => h0 mr' mo' _ _ _ (fun k k1 k2 e => ?_) hRK, fun q => absurd rfl q⟩)
  · obtain ⟨k, hk1, hk2, rfl⟩ : ∃ k, 1 ≤ k ∧ k < 64 ∧ v = nI k := by
      rcases v_part v with h | h
      · rcases h with h | h
        · exact absurd h a
        · exact absurd h b
      · exact h
    refine ⟨fun c => ?_, fun c => h0 mr' mo' _ _ _ (fun j j1 j2 e => ?_) hRK⟩
    · have hn0 : 0 < n := by
        apply Nat.pos_of_ne_zero
        intro z
        exact c (by rw [z]; rfl)
      have loop : ∀ (j q : Nat), j < 6 → k / 2 ^ j = q → 1 ≤ q → 0 < psz n q → wp_X6_layPart_61 mx my mi (nI n) (nI k) K mr' mo' (j + 1) (nI (pfs n q)) (nI (pfs n q + psz n q)) (nI q.log2) (tbit j) := by
        intro j
        induction j with
        | zero =>
          intro q hj hq hq1 hz
          refine wp_X6_layPart_61_s ?_
          unfold wp_X6_layPart_61b
          have : q = k := by simpa using hq.symm
          subst this
          exact ⟨fun _ => h1 q mr' mo' hk1 hk2 rfl hz hRK, fun c => absurd (by decide) c⟩
        | succ i ih =>
          intro q hj hq hq1 hz
          refine wp_X6_layPart_61_s ?_
          unfold wp_X6_layPart_61b
          have hqk : q ≤ k := by rw [← hq]; exact Nat.div_le_self _ _
          have hzl := psz_le n hq1
          have hfs := pfs_s n hn hq1 (by omega)
          have e1 : nI (pfs n q + psz n q) - nI (pfs n q) = nI (psz n q) := by rw [n_sub (by omega)]; congr 1; omega
          have e2 : tbit (i + 1) = nI (2 ^ i) := rfl
          have hpow : 2 ^ i ≤ 32 := by
            have : 2 ^ i ≤ 2 ^ 5 := Nat.pow_le_pow_right (by omega) (by omega)
            omega
          have hpos : 0 < 2 ^ i := Nat.two_pow_pos i
          rw [e1, n_half (by omega), nI_add, e2, show (2 : Int32) = nI 2 from rfl, n_le (by omega) (by omega)]
          rw [div_s] at hq
          have hl := log2_s (show q < 64 by omega)
          refine ⟨fun c => ?_, fun _ => ⟨fun c => ⟨fun d => ?_, fun d => ?_⟩, fun c => h0 mr' mo' _ _ _ (fun t t1 t2 e => ?_) hRK⟩⟩
          · rw [show (0 : Int32) = nI 0 from rfl, n_le (by omega) (by omega)] at c; omega
          · rw [bit_dec k hk2 i (by omega)] at d
            have e : k / 2 ^ i = 2 * q + 1 := by omega
            unfold wp_X6_layPart_121
            rw [tbit_s (by omega), nI_1, ← log2_2 hq1 1 (by omega), ← pfs_o n hq1]
            have e3 : pfs n q + psz n q = pfs n (2 * q + 1) + psz n (2 * q + 1) := by
              rw [pfs_o n hq1, psz_o n hq1, if_pos (by omega)]; omega
            rw [e3]
            exact ih (2 * q + 1) (by omega) e (by omega) (by rw [psz_o n hq1, if_pos (by omega)]; omega)
          · rw [bit_dec k hk2 i (by omega)] at d
            have e : k / 2 ^ i = 2 * q := by omega
            unfold wp_X6_layPart_121
            rw [tbit_s (by omega), nI_1, ← log2_2 hq1 0 (by omega), Nat.add_zero, ← pfs_e n hq1]
            have e3 : pfs n (2 * q) + (psz n q + 1) / 2 = pfs n (2 * q) + psz n (2 * q) := by
              rw [psz_e n hq1, if_pos (by omega)]
            rw [e3]
            exact ih (2 * q) (by omega) e (by omega) (by rw [psz_e n hq1, if_pos (by omega)]; omega)
          · rw [n_eq (by omega) (by omega)] at e
            subst e
            exact psz_0 n (i + 1) k q (by omega) (by rw [div_s]; exact hq) hq1 (by omega)
      have top : ∀ (j : Nat), j < 6 → k < 2 ^ (j + 1) → wp_X6_layPart_26 mx my mi (nI n) (nI k) K mr' mo' mf mt md (j + 1) (nI (2 ^ j)) := by
        intro j
        induction j with
        | zero =>
          intro hj hk
          refine wp_X6_layPart_26_s ?_
          unfold wp_X6_layPart_26b
          rw [bit_dec k hk2 0 (by omega), tbit_s (by omega)]
          refine ⟨fun _ => ⟨1, ?_⟩, fun d => ?_⟩
          · have := loop 0 1 (by omega) (by simp at hk ⊢; omega) (by omega) (by rw [psz_1]; exact hn0)
            rw [pfs_1, psz_1, show 0 + n = n from Nat.zero_add n, show Nat.log2 1 = 0 by decide] at this
            exact this
          · simp at hk d; omega
        | succ j ih =>
          intro hj hk
          refine wp_X6_layPart_26_s ?_
          unfold wp_X6_layPart_26b
          rw [bit_dec k hk2 (j + 1) (by omega), tbit_s (by omega)]
          have hpos : 0 < 2 ^ (j + 1) := Nat.two_pow_pos _
          have hd : k / 2 ^ (j + 1) < 2 := by
            apply (Nat.div_lt_iff_lt_mul hpos).mpr
            rw [Nat.pow_succ] at hk
            omega
          refine ⟨fun d => ⟨j + 1 + 1, ?_⟩, fun d => ?_⟩
          · have hq1 : k / 2 ^ (j + 1) = 1 := by
              generalize k / 2 ^ (j + 1) = w at hd d
              omega
            have := loop (j + 1) 1 (by omega) hq1 (by omega) (by rw [psz_1]; exact hn0)
            rw [pfs_1, psz_1, show 0 + n = n from Nat.zero_add n, show Nat.log2 1 = 0 by decide] at this
            exact this
          · refine ih (by omega) ?_
            have h0 : k / 2 ^ (j + 1) = 0 := by
              generalize k / 2 ^ (j + 1) = w at hd d
              omega
            rcases Nat.div_eq_zero_iff.mp h0 with z | z
            · omega
            · exact z
      exact ⟨6, top 5 (by omega) (by omega)⟩
    · have hn0 : n = 0 := by
        rw [show (0 : Int32) = nI 0 from rfl, n_eq (by omega) (by omega)] at c; exact c
      have := psz_le n j1
      omega
  · subst e
    rw [show (1 : Int32) = nI 1 from rfl, show (63 : Int32) = nI 63 from rfl, n_lt (by omega) (by omega), n_lt (by omega) (by omega)] at c
    omega
def hid (s : Nat) (px : Nat → Int32) (f t r : Nat) : Bool := if s = 0 then decide (r + 1 < t ∧ px (r + 1) = px r) else decide (f < r ∧ px (r - 1) = px r)
def chR (s : Nat) (px py : Nat → Int32) (f t : Nat) : Nat → List Nat
  | 0 => []
  | k + 1 => if hid s px f t (f + k) then chR s px py f t k else (f + k) :: popR (bad s px py (f + k)) (chR s px py f t k)
theorem chR_in (s : Nat) (px py : Nat → Int32) (f t : Nat) : ∀ k, (∀ r ∈ chR s px py f t k, f ≤ r ∧ r < f + k) ∧ (chR s px py f t k).length ≤ k
  | 0 => ⟨fun r h => by simp [chR] at h, by simp [chR]⟩
  | k + 1 => by
    have ih := chR_in s px py f t k
    unfold chR
    split
    · exact ⟨fun r h => by have := ih.1 r h; omega, by omega⟩
    · have hs := popR_suf (bad s px py (f + k)) (chR s px py f t k)
      refine ⟨fun r h => ?_, ?_⟩
      · rcases List.mem_cons.mp h with h | h
        · omega
        · have := ih.1 r (hs.subset h); omega
      · have := hs.length_le
        simp; omega
theorem s_bend {pd px py mx my mi : Nat → Int32} {n a b c : Nat} (hW : WF pd px py n) (hV : MV pd px py n mx my mi) (ha : a < n) (hb : b < n) (hc : c < n) {K : Int64 → Prop} (h : ∀ w : Int64, w.toInt = crk px py a b c → K w) : wp_X6_bend mx my (pd a) (pd b) (pd c) K := by
  have va : ∀ k, k < n → vp_in (pd k) 32 := fun k hk => by rw [(hW.2.1 k hk).2]; exact n_in (hW.2.1 k hk).1 (by omega)
  have R := hW.2.2.2.2
  have V := hV.1
  unfold wp_X6_bend
  refine ⟨va a ha, va a ha, va b hb, va b hb, va c hc, va c hc, ?_⟩
  unfold wp_X6_cross
  rw [show mx (pd a).toNatClampNeg = px a from (V a ha).2.1, show my (pd a).toNatClampNeg = py a from (V a ha).2.2, show mx (pd b).toNatClampNeg = px b from (V b hb).2.1, show my (pd b).toNatClampNeg = py b from (V b hb).2.2, show mx (pd c).toNatClampNeg = px c from (V c hc).2.1, show my (pd c).toNatClampNeg = py c from (V c hc).2.2]
  exact h _ (w_cross (R a ha).1 (R a ha).2 (R b hb).1 (R b hb).2 (R c hc).1 (R c hc).2)
set_option maxHeartbeats 1000000 in
theorem s_layChain {pd px py mx my mi mr mo mc : Nat → Int32} {mk : Int32} {n f c s : Nat} (hW : WF pd px py n) (hV : MV pd px py n mx my mi) (hr : RK pd n mr mo) (hs : s ≤ 1) (hfc : f + c ≤ n) {K : (Nat → Int32) → Int32 → Prop}
    (hK : ∀ mc', rp pd mc' (chR s px py f (f + c) c) → K mc' (nI (chR s px py f (f + c) c).length)) : wp_X6_layChain mx my mr (nI f) (nI (f + c)) mc mk (nI s) K := by
  have hn := hW.1
  have vin : ∀ k, k < n → vp_in (pd k) 32 := fun k hk => by rw [(hW.2.1 k hk).2]; exact n_in (hW.2.1 k hk).1 (by omega)
  have s0 : (nI s = 0 ↔ s = 0) := by rw [show (0 : Int32) = nI 0 from rfl, n_eq (by omega) (by omega)]
  have pop : ∀ (L10 : (Nat → Int32) → Int32 → Int32 → Prop) (r : Nat) (u : Nat → Int32), r < f + c → ∀ (l : List Nat), l.length < 32 → rp pd u l → (∀ q ∈ l, q < f + c) → (∀ u', rp pd u' (r :: popR (bad s px py r) l) → L10 u' (nI ((popR (bad s px py r) l).length + 1)) (nI (r + 1))) → wp_X6_layChain_111 mx my mr (nI f) (nI (f + c)) (nI s) K L10 u (nI r) (pd r) (l.length + 1) (nI l.length) := by
    intro L10 r u hr l
    have push : ∀ (l : List Nat), l.length < 32 → rp pd u l → (∀ u', rp pd u' (r :: l) → L10 u' (nI (l.length + 1)) (nI (r + 1))) → wp_X6_layChain_203 mx my mr (nI f) (nI (f + c)) (nI s) K L10 u (nI l.length) (nI r) (pd r) := by
      intro l hl hrp h
      unfold wp_X6_layChain_203
      rw [n_cl (by omega), nI_1, nI_1]
      exact ⟨n_in (by omega) (by omega), h _ (rp_push hrp rfl)⟩
    induction l with
    | nil =>
      intro hl hrp hm h
      refine wp_X6_layChain_111_s ?_
      unfold wp_X6_layChain_111b
      exact ⟨fun _ => push [] hl hrp h, fun c => absurd (by decide) c⟩
    | cons a t ih =>
      intro hl hrp hm h
      refine wp_X6_layChain_111_s ?_
      unfold wp_X6_layChain_111b
      cases t with
      | nil => exact ⟨fun _ => push [a] hl hrp h, fun c => absurd (show nI 1 ≤ 1 by decide) c⟩
      | cons b t =>
        have ha := hm a List.mem_cons_self
        have hb := hm b (List.mem_cons_of_mem _ List.mem_cons_self)
        simp only [List.length_cons] at hl
        have hrp0 := hrp
        unfold rp at hrp
        obtain ⟨e1, hrp⟩ := hrp
        have hrp2 := hrp
        unfold rp at hrp
        obtain ⟨e2, hrp⟩ := hrp
        simp only [List.length_cons] at e1
        have stay : bad s px py r b a = false → wp_X6_layChain_203 mx my mr (nI f) (nI (f + c)) (nI s) K L10 u (nI (a :: b :: t).length) (nI r) (pd r) := fun d => by
          have e : popR (bad s px py r) (a :: b :: t) = a :: b :: t := by
            unfold popR
            rw [if_neg (by show ¬ bad s px py r b a = true; rw [d]; simp)]
          rw [e] at h
          exact push _ (by simp; omega) hrp0 h
        have drop : bad s px py r b a = true → wp_X6_layChain_111 mx my mr (nI f) (nI (f + c)) (nI s) K L10 u (nI r) (pd r) (b :: t).length.succ (nI (a :: b :: t).length - 1) := fun d => by
          have e : popR (bad s px py r) (a :: b :: t) = popR (bad s px py r) (b :: t) := by
            conv => lhs; unfold popR
            rw [if_pos (by show bad s px py r b a = true; exact d)]
          rw [e] at h
          rw [show (a :: b :: t).length = (b :: t).length + 1 from rfl, n_s1]
          exact ih (by simp; omega) hrp2 (fun q hq => hm q (List.mem_cons_of_mem _ hq)) h
        have x1 : nI (a :: b :: t).length - 2 = nI t.length := n_sub (a := t.length + 1 + 1) (b := 2) (by omega)
        have x2 : nI (a :: b :: t).length - 1 = nI (t.length + 1) := n_s1 _
        have x3 : nI (a :: b :: t).length ≤ 1 ↔ False := by
          rw [show (1 : Int32) = nI 1 from rfl, n_le (by simp; omega) (by omega)]
          simp
        refine ⟨fun c => (x3.mp c).elim, fun _ => ⟨fun c => ?_, fun c => ?_⟩⟩
        · have hs1 : ¬ s = 0 := fun z => c (s0.mpr z)
          rw [x1, x2, n_cl (i := t.length) (by omega), n_cl (i := t.length + 1) (by omega), e1, e2, ← x2]
          refine ⟨n_in (by omega) (by omega), by rw [x2]; exact n_in (by omega) (by omega), s_bend hW hV (by omega) (by omega) (by omega) (fun w hw => ?_)⟩
          rw [J_lt, hw, show (0 : Int64).toInt = 0 from rfl]
          refine ⟨fun d => stay ?_, fun d => drop ?_⟩
          · unfold bad; rw [if_neg hs1]; exact decide_eq_false (by omega)
          · unfold bad; rw [if_neg hs1]; exact decide_eq_true (by omega)
        · have hs1 : s = 0 := s0.mp c
          rw [x1, x2, n_cl (i := t.length) (by omega), n_cl (i := t.length + 1) (by omega), e1, e2, ← x2]
          refine ⟨n_in (by omega) (by omega), by rw [x2]; exact n_in (by omega) (by omega), s_bend hW hV (by omega) (by omega) (by omega) (fun w hw => ?_)⟩
          rw [J_lt, hw, show (0 : Int64).toInt = 0 from rfl]
          refine ⟨fun d => stay ?_, fun d => drop ?_⟩
          · unfold bad; rw [if_pos hs1]; exact decide_eq_false (by omega)
          · unfold bad; rw [if_pos hs1]; exact decide_eq_true (by omega)
  have key : ∀ (d k : Nat) (u : Nat → Int32), k + d = c → rp pd u (chR s px py f (f + c) k) → wp_X6_layChain_10 mx my mr (nI f) (nI (f + c)) (nI s) K (d + 1) u (nI (chR s px py f (f + c) k).length) (nI (f + k)) := by
    intro d
    induction d with
    | zero =>
      intro k u hk hu
      refine wp_X6_layChain_10_s ?_
      unfold wp_X6_layChain_10b
      rw [n_le (by omega) (by omega)]
      rw [show k = c by omega] at hu ⊢
      exact ⟨fun _ => hK u hu, fun z => by omega⟩
    | succ d ih =>
      intro k u hk hu
      refine wp_X6_layChain_10_s ?_
      unfold wp_X6_layChain_10b
      have hin := chR_in s px py f (f + c) k
      have mrk : ∀ q, q < n → mr q = pd q := hr.1
      have mxk : ∀ q, q < n → mx (pd q).toNatClampNeg = px q := fun q hq => (hV.1 q hq).2.1
      rw [n_cl (i := f + k) (by omega), mrk (f + k) (by omega), mxk (f + k) (by omega), nI_1, n_cl (i := f + k + 1) (by omega)]
      rw [n_le (a := f + c) (b := f + k) (by omega) (by omega), n_le (a := f + k) (b := f) (by omega) (by omega), n_le (a := f + c) (b := f + k + 1) (by omega) (by omega)]
      have go : hid s px f (f + c) (f + k) = false → wp_X6_layChain_104 mx my mr (nI f) (nI (f + c)) (nI s) K (wp_X6_layChain_10 mx my mr (nI f) (nI (f + c)) (nI s) K (d + 1)) u (nI (chR s px py f (f + c) k).length) (nI (f + k)) (pd (f + k)) 0 := fun ho => by
        unfold wp_X6_layChain_104
        refine ⟨fun z => absurd rfl z, fun _ => ⟨_, pop _ (f + k) u (by omega) _ (by omega) hu (fun q hq => by have := hin.1 q hq; omega) (fun u' hu' => ?_)⟩⟩
        have e : chR s px py f (f + c) (k + 1) = (f + k) :: popR (bad s px py (f + k)) (chR s px py f (f + c) k) := by
          conv => lhs; unfold chR
          rw [ho]; rfl
        have := ih (k + 1) u' (by omega) (by rw [e]; exact hu')
        rw [e] at this
        exact this
      have skip : hid s px f (f + c) (f + k) = true → wp_X6_layChain_104 mx my mr (nI f) (nI (f + c)) (nI s) K (wp_X6_layChain_10 mx my mr (nI f) (nI (f + c)) (nI s) K (d + 1)) u (nI (chR s px py f (f + c) k).length) (nI (f + k)) (pd (f + k)) 1 := fun ho => by
        unfold wp_X6_layChain_104
        refine ⟨fun _ => ?_, fun z => absurd z one_ne⟩
        rw [nI_1]
        have e : chR s px py f (f + c) (k + 1) = chR s px py f (f + c) k := by
          conv => lhs; unfold chR
          rw [ho]; rfl
        have := ih (k + 1) u (by omega) (by rw [e]; exact hu)
        rw [e] at this
        exact this
      refine ⟨fun z => by omega, fun _ => ⟨n_in (by omega) (by omega), fun z => ?_, fun z => ?_⟩⟩
      · have hs1 : ¬ s = 0 := fun q => z (s0.mpr q)
        refine ⟨fun q => go ?_, fun q => ?_⟩
        · unfold hid; rw [if_neg hs1]; exact decide_eq_false (by omega)
        · obtain ⟨j, rfl⟩ : ∃ j, k = j + 1 := ⟨k - 1, by omega⟩
          rw [show f + (j + 1) = f + j + 1 by omega, n_s1, n_cl (i := f + j) (by omega), mrk (f + j) (by omega), mxk (f + j) (by omega)]
          rw [show f + (j + 1) = f + j + 1 by omega] at go skip
          refine ⟨n_in (by omega) (by omega), vin _ (by omega), vin _ (by omega), fun w => go ?_, fun w => skip ?_⟩
          · unfold hid; rw [if_neg hs1]; exact decide_eq_false (fun y => w y.2)
          · unfold hid; rw [if_neg hs1]; exact decide_eq_true ⟨by omega, w⟩
      · have hs1 : s = 0 := s0.mp z
        refine ⟨fun q => go ?_, fun q => ?_⟩
        · unfold hid; rw [if_pos hs1]; exact decide_eq_false (by omega)
        · rw [mrk (f + k + 1) (by omega), mxk (f + k + 1) (by omega)]
          refine ⟨n_in (by omega) (by omega), vin _ (by omega), vin _ (by omega), fun w => go ?_, fun w => skip ?_⟩
          · unfold hid; rw [if_pos hs1]; exact decide_eq_false (fun y => w y.2)
          · unfold hid; rw [if_pos hs1]; exact decide_eq_true ⟨by omega, w⟩
  unfold wp_X6_layChain
  have := key c 0 mc (by omega) trivial
  exact ⟨c + 1, this⟩
