/-- a row holds a list, its last one first -/
def rp (e f : Nat → Int32) : List Nat → Prop
  | [] => True
  | a :: t => f t.length = e a ∧ rp e f t
def atl (l : List Nat) (i : Nat) : Nat := l.getD (l.length - 1 - i) 0
theorem rp_at {e f : Nat → Int32} : ∀ {l : List Nat} {i : Nat}, rp e f l → i < l.length → f i = e (atl l i)
  | [], i, _, h => by simp at h
  | a :: t, i, hr, h => by
    unfold rp at hr
    by_cases hi : i = t.length
    · subst hi
      rw [hr.1]
      unfold atl
      simp
    · have hlt : i < t.length := by simp at h; omega
      rw [rp_at hr.2 hlt]
      unfold atl
      have : (a :: t).length - 1 - i = (t.length - 1 - i) + 1 := by simp; omega
      rw [this]
      simp
theorem rp_up {e f : Nat → Int32} {k : Nat} {v : Int32} : ∀ {l : List Nat}, rp e f l → l.length ≤ k → rp e (upd f k v) l
  | [], _, _ => trivial
  | a :: t, hr, h => by
    unfold rp at *
    simp at h
    rw [up_n (by omega)]
    exact ⟨hr.1, rp_up hr.2 (by omega)⟩
theorem rp_push {e f : Nat → Int32} {v : Int32} {a : Nat} {l : List Nat} (hr : rp e f l) (hv : v = e a) : rp e (upd f l.length v) (a :: l) := by
  unfold rp
  rw [up_s]
  exact ⟨hv, rp_up hr (Nat.le_refl _)⟩
theorem atl_mem {l : List Nat} {i : Nat} (h : i < l.length) : atl l i ∈ l := by
  unfold atl
  rw [List.getD_eq_getElem?_getD, List.getElem?_eq_getElem (by omega)]
  exact List.getElem_mem _
theorem mem_atl {l : List Nat} {r : Nat} (h : r ∈ l) : ∃ i, i < l.length ∧ atl l i = r := by
  obtain ⟨j, hj, e⟩ := List.getElem_of_mem h
  refine ⟨l.length - 1 - j, by omega, ?_⟩
  unfold atl
  rw [show l.length - 1 - (l.length - 1 - j) = j by omega, List.getD_eq_getElem?_getD, List.getElem?_eq_getElem hj]
  exact e
def crk (px py : Nat → Int32) (a b c : Nat) : Int := crI (px a).toInt (py a).toInt (px b).toInt (py b).toInt (px c).toInt (py c).toInt
def bad (s : Nat) (px py : Nat → Int32) (p a b : Nat) : Bool := if s = 0 then decide (0 ≤ crk px py a b p) else decide (crk px py a b p ≤ 0)
def btop (bd : Nat → Nat → Bool) (a : Nat) : List Nat → Bool
  | [] => false
  | b :: _ => bd b a
def popR (bd : Nat → Nat → Bool) : List Nat → List Nat
  | [] => []
  | a :: t => if btop bd a t then popR bd t else a :: t
def popC (s : Nat) (px py : Nat → Int32) (r : Nat) : List Nat → List Nat
  | [] => []
  | a :: t => if decide (px a = px r) || btop (bad s px py r) a t then popC s px py r t else a :: t
def ovl (px : Nat → Int32) (r : Nat) : List Nat → Bool
  | [] => false
  | a :: _ => decide (px a = px r)
def clR (s : Nat) (px py : Nat → Int32) (f : Nat) : Nat → List Nat
  | 0 => []
  | k + 1 => if decide (s = 1) && ovl px (f + k) (clR s px py f k) then clR s px py f k else (f + k) :: popC s px py (f + k) (clR s px py f k)
theorem popC_suf (s : Nat) (px py : Nat → Int32) (r : Nat) : ∀ l, popC s px py r l <:+ l
  | [] => List.suffix_refl []
  | a :: t => by
    unfold popC
    split
    · exact (popC_suf s px py r t).trans (List.suffix_cons a t)
    · exact List.suffix_refl _
theorem popR_suf (bd : Nat → Nat → Bool) : ∀ l, popR bd l <:+ l
  | [] => List.suffix_refl []
  | a :: t => by
    unfold popR
    split
    · exact (popR_suf bd t).trans (List.suffix_cons a t)
    · exact List.suffix_refl _
theorem clR_in (s : Nat) (px py : Nat → Int32) (f : Nat) : ∀ k, (∀ r ∈ clR s px py f k, f ≤ r ∧ r < f + k) ∧ (clR s px py f k).length ≤ k
  | 0 => ⟨fun r h => by simp [clR] at h, by simp [clR]⟩
  | k + 1 => by
    have ih := clR_in s px py f k
    unfold clR
    split
    · exact ⟨fun r h => by have := ih.1 r h; omega, by omega⟩
    · have hs := popC_suf s px py (f + k) (clR s px py f k)
      refine ⟨fun r h => ?_, ?_⟩
      · rcases List.mem_cons.mp h with h | h
        · omega
        · have := ih.1 r (hs.subset h); omega
      · have := hs.length_le
        simp; omega
theorem s_turn {px py : Nat → Int32} {a b : Nat} {x y : Int32} (ha : a < 32) (hb : b < 32) (h1 : inR (px a)) (h2 : inR (py a)) (h3 : inR (px b)) (h4 : inR (py b)) (h5 : inR x) (h6 : inR y) {K : Int64 → Prop}
    (h : ∀ w : Int64, w.toInt = crI (px a).toInt (py a).toInt (px b).toInt (py b).toInt x.toInt y.toInt → K w) : wp_X3_turn px py (nI a) (nI b) x y K := by
  unfold wp_X3_turn
  rw [n_cl (by omega), n_cl (by omega)]
  exact ⟨n_in hb (by omega), n_in ha (by omega), n_in hb (by omega), n_in ha (by omega), n_in ha (by omega), n_in ha (by omega), h _ (w_cross h1 h2 h3 h4 h5 h6)⟩
theorem s_isOverLast {tr px : Nat → Int32} {l : List Nat} {r : Nat} (hl : l.length ≤ 32) (hr : r < 32) (hrp : rp nI tr l) (hm : ∀ a ∈ l, a < 32) {K : Int32 → Prop} (h1 : ovl px r l = true → K 1) (h0 : ovl px r l = false → K 0) : wp_X0_isOverLast tr (nI l.length) px (nI r) K := by
  unfold wp_X0_isOverLast
  cases l with
  | nil => exact ⟨fun _ => h0 rfl, fun c => absurd (by decide) c⟩
  | cons a t =>
    have ha := hm a List.mem_cons_self
    simp only [List.length_cons] at hl ⊢
    unfold rp at hrp
    rw [n_s1, n_cl (i := t.length) (by omega), hrp.1, n_cl (i := a) (by omega), n_cl (i := r) (by omega)]
    refine ⟨fun c => ?_, fun _ => ⟨n_in (by omega) (by omega), n_in (by omega) (by omega), n_in (by omega) (by omega), fun c => h0 ?_, fun c => h1 ?_⟩⟩
    · rw [show (0 : Int32) = nI 0 from rfl, n_le (by omega) (by omega)] at c; omega
    · exact decide_eq_false c
    · exact decide_eq_true c
theorem s_lastStays {tr px py : Nat → Int32} {a : Nat} {t : List Nat} {r s : Nat} (hs : s ≤ 1) (hl : t.length < 32) (hr : r < 32) (hrp : rp nI tr (a :: t)) (hm : ∀ q ∈ a :: t, q < 32) (hR : ∀ q, q ∈ a :: t → inR (px q) ∧ inR (py q)) (hRr : inR (px r) ∧ inR (py r)) {K : Int32 → Prop}
    (h0 : (decide (px a = px r) || btop (bad s px py r) a t) = true → K 0) (h1 : (decide (px a = px r) || btop (bad s px py r) a t) = false → K 1) : wp_X0_lastStays tr (nI (a :: t).length) px py (nI r) (nI s) K := by
  unfold wp_X0_lastStays
  refine s_isOverLast (by simp; omega) hr hrp hm (fun c => ⟨fun q => absurd q one_ne, fun _ => h0 ?_⟩) (fun c => ⟨fun _ => ?_, fun q => absurd rfl q⟩)
  · have : decide (px a = px r) = true := c
    rw [this]; rfl
  · have ce : decide (px a = px r) = false := c
    cases t with
    | nil =>
      refine ⟨fun q => ?_, fun _ => h1 (by rw [ce]; rfl)⟩
      rw [show (2 : Int32) = nI 2 from rfl, n_le (by omega) (by simp)] at q; simp at q
    | cons b t =>
      have ha := hm a List.mem_cons_self
      have hb := hm b (List.mem_cons_of_mem _ List.mem_cons_self)
      have Ra := hR a List.mem_cons_self
      have Rb := hR b (List.mem_cons_of_mem _ List.mem_cons_self)
      simp only [List.length_cons] at hl ⊢
      unfold rp at hrp
      obtain ⟨e1, hrp⟩ := hrp
      unfold rp at hrp
      obtain ⟨e2, hrp⟩ := hrp
      simp only [List.length_cons] at e1
      rw [show nI (t.length + 1 + 1) - 2 = nI t.length from n_sub (a := t.length + 1 + 1) (b := 2) (by omega), n_s1, n_cl (i := t.length) (by omega), n_cl (i := t.length + 1) (by omega), e1, e2, n_cl (i := r) (by omega)]
      refine ⟨fun _ => ⟨n_in (by omega) (by omega), n_in (by omega) (by omega), n_in (by omega) (by omega), n_in (by omega) (by omega), ?_⟩, fun q => absurd ?_ q⟩
      · refine s_turn hb ha Rb.1 Rb.2 Ra.1 Ra.2 hRr.1 hRr.2 (fun w hw => ⟨fun q => ?_, fun q => ?_⟩)
        · have hs1 : ¬ s = 0 := fun z => q (by rw [z]; rfl)
          rw [J_le, hw, show (0 : Int64).toInt = 0 from rfl]
          refine ⟨fun d => h0 ?_, fun d => h1 ?_⟩
          · rw [ce]; show (false || bad s px py r b a) = true; unfold bad; rw [if_neg hs1, Bool.false_or]; exact decide_eq_true d
          · rw [ce]; show (false || bad s px py r b a) = false; unfold bad; rw [if_neg hs1, Bool.false_or]; exact decide_eq_false d
        · have hs1 : s = 0 := by
            rw [show (0 : Int32) = nI 0 from rfl, n_eq (by omega) (by omega)] at q; exact q
          rw [J_le, hw, show (0 : Int64).toInt = 0 from rfl]
          refine ⟨fun d => h0 ?_, fun d => h1 ?_⟩
          · rw [ce]; show (false || bad s px py r b a) = true; unfold bad; rw [if_pos hs1, Bool.false_or]; exact decide_eq_true d
          · rw [ce]; show (false || bad s px py r b a) = false; unfold bad; rw [if_pos hs1, Bool.false_or]; exact decide_eq_false d
      · rw [show (2 : Int32) = nI 2 from rfl, n_le (by omega) (by omega)]; omega
theorem s_append {tr : Nat → Int32} {l : List Nat} {r : Nat} {v : Int32} (hl : l.length < 32) {K : (Nat → Int32) → Int32 → Prop} (h : K (upd tr l.length v) (nI (l.length + 1))) : wp_X1_append tr (nI l.length) v K := by
  unfold wp_X1_append
  rw [n_cl (by omega), nI_1, show (32 : Int32) = nI 32 from rfl, n_le (by omega) (by omega)]
  exact ⟨fun c => by omega, fun _ => ⟨n_in hl (by omega), h⟩⟩
theorem s_trace {tr px py : Nat → Int32} {ts : Int32} {f c s : Nat} (hs : s ≤ 1) (hfc : f + c ≤ 32) (hR : ∀ q, q < f + c → inR (px q) ∧ inR (py q)) {K : (Nat → Int32) → Int32 → Prop}
    (hK : ∀ tr', rp nI tr' (clR s px py f c) → K tr' (nI (clR s px py f c).length)) : wp_X0_trace tr ts px py (nI f) (nI c) (nI s) K := by
  have pop : ∀ (L8 : (Nat → Int32) → Int32 → Int32 → Prop) (r : Nat) (u : Nat → Int32), r < f + c → ∀ (l : List Nat), l.length < 32 → rp nI u l → (∀ q ∈ l, q < f + c) → (∀ u', rp nI u' (r :: popC s px py r l) → L8 u' (nI ((popC s px py r l).length + 1)) (nI (r + 1))) → wp_X0_trace_35 px py (nI f) (nI c) (nI s) K L8 u (nI r) (l.length + 1) (nI l.length) := by
    intro L8 r u hr l
    induction l with
    | nil =>
      intro hl hrp hm h
      refine wp_X0_trace_35_s ?_
      unfold wp_X0_trace_35b
      refine ⟨fun _ => ?_, fun c => absurd (by decide) c⟩
      unfold wp_X0_trace_67
      rw [nI_1]
      exact s_append (l := []) (r := r) (by simp) (h _ (rp_push (l := []) trivial rfl))
    | cons a t ih =>
      intro hl hrp hm h
      refine wp_X0_trace_35_s ?_
      unfold wp_X0_trace_35b
      simp only [List.length_cons] at hl
      refine ⟨fun c => ?_, fun _ => ?_⟩
      · rw [show (0 : Int32) = nI 0 from rfl, n_le (by simp; omega) (by omega)] at c; simp at c
      · refine s_lastStays hs (by omega) (by omega) hrp (fun q hq => by have := hm q hq; omega) (fun q hq => hR q (hm q hq)) (hR r hr) (fun d => ⟨fun z => absurd rfl z, fun _ => ?_⟩) (fun d => ⟨fun _ => ?_, fun z => absurd z one_ne⟩)
        · rw [List.length_cons, n_s1]
          refine ih (by omega) hrp.2 (fun q hq => hm q (List.mem_cons_of_mem _ hq)) (fun u' hu => ?_)
          have e : popC s px py r (a :: t) = popC s px py r t := by
            conv => lhs; unfold popC
            rw [if_pos d]
          rw [e] at h
          exact h u' hu
        · have e : popC s px py r (a :: t) = a :: t := by
            unfold popC
            rw [if_neg (by rw [d]; simp)]
          rw [e] at h
          unfold wp_X0_trace_67
          rw [nI_1]
          exact s_append (l := a :: t) (r := r) (by simp; omega) (h _ (rp_push hrp rfl))
  have key : ∀ (d k : Nat) (u : Nat → Int32), k + d = c → rp nI u (clR s px py f k) → wp_X0_trace_8 px py (nI f) (nI c) (nI s) K (d + 1) u (nI (clR s px py f k).length) (nI (f + k)) := by
    intro d
    induction d with
    | zero =>
      intro k u hk hu
      refine wp_X0_trace_8_s ?_
      unfold wp_X0_trace_8b
      rw [nI_add, n_le (by omega) (by omega)]
      rw [show k = c by omega] at hu ⊢
      exact ⟨fun _ => hK u hu, fun z => by omega⟩
    | succ d ih =>
      intro k u hk hu
      refine wp_X0_trace_8_s ?_
      unfold wp_X0_trace_8b
      have hin := clR_in s px py f k
      rw [nI_add, n_le (by omega) (by omega)]
      refine ⟨fun z => by omega, fun _ => ?_⟩
      have go : (decide (s = 1) && ovl px (f + k) (clR s px py f k)) = false → ∃ k_1, wp_X0_trace_35 px py (nI f) (nI c) (nI s) K (wp_X0_trace_8 px py (nI f) (nI c) (nI s) K (d + 1)) u (nI (f + k)) k_1 (nI (clR s px py f k).length) := by
        intro ho
        refine ⟨_, pop _ (f + k) u (by omega) _ (by omega) hu (fun q hq => by have := hin.1 q hq; omega) (fun u' hu' => ?_)⟩
        have e : clR s px py f (k + 1) = (f + k) :: popC s px py (f + k) (clR s px py f k) := by
          conv => lhs; unfold clR
          rw [ho]; rfl
        have := ih (k + 1) u' (by omega) (by rw [e]; exact hu')
        rw [e] at this
        exact this
      refine ⟨fun z => go ?_, fun z => ?_⟩
      · have : ¬ s = 1 := fun q => z (by rw [q]; rfl)
        rw [decide_eq_false this]; rfl
      · have hs1 : s = 1 := by
          rw [show (1 : Int32) = nI 1 from rfl, n_eq (by omega) (by omega)] at z; exact z
        refine s_isOverLast (by omega) (by omega) hu (fun q hq => by have := hin.1 q hq; omega) (fun o => ⟨fun q => absurd q one_ne, fun _ => ?_⟩) (fun o => ⟨fun _ => go (by rw [o]; simp), fun q => absurd rfl q⟩)
        rw [nI_1]
        have e : clR s px py f (k + 1) = clR s px py f k := by
          conv => lhs; unfold clR
          rw [o, decide_eq_true hs1]; rfl
        have := ih (k + 1) u (by omega) (by rw [e]; exact hu)
        rw [e] at this
        exact this
  unfold wp_X0_trace
  have := key c 0 tr (by omega) trivial
  exact ⟨c + 1, this⟩
