theorem lx_le {px py : Nat → Int32} {j k : Nat} (h : lxl px py j k) : (px j).toInt ≤ (px k).toInt := by
  rcases h with h | h
  · rw [I_lt] at h; omega
  · rw [h.1]; exact Int.le_refl _
def SO (px py : Nat → Int32) (f t : Nat) : Prop := ∀ j k, f ≤ j → j < k → k < t → lxl px py j k
theorem so_le {px py : Nat → Int32} {f t : Nat} (h : SO px py f t) {j k : Nat} (hj : f ≤ j) (hjk : j ≤ k) (hk : k < t) : (px j).toInt ≤ (px k).toInt := by
  by_cases e : j = k
  · rw [e]; exact Int.le_refl _
  · exact lx_le (h j k hj (by omega) hk)
theorem chR_nh (s : Nat) (px py : Nat → Int32) (f t : Nat) : ∀ k, ∀ r ∈ chR s px py f t k, hid s px f t r = false
  | 0 => fun r h => by simp [chR] at h
  | k + 1 => by
    have ih := chR_nh s px py f t k
    unfold chR
    cases hh : hid s px f t (f + k) with
    | true => exact ih
    | false =>
      intro r h
      rcases List.mem_cons.mp h with h | h
      · rw [h]; exact hh
      · exact ih r ((popR_suf _ _).subset h)
theorem chR_dec (s : Nat) (px py : Nat → Int32) (f t : Nat) : ∀ k, List.Pairwise (fun a b => b < a) (chR s px py f t k)
  | 0 => List.Pairwise.nil
  | k + 1 => by
    have ih := chR_dec s px py f t k
    unfold chR
    split
    · exact ih
    · refine List.Pairwise.cons (fun a ha => ?_) (ih.sublist (popR_suf _ _).sublist)
      have := (chR_in s px py f t k).1 a ((popR_suf _ _).subset ha)
      omega
theorem nh_lt {s : Nat} {px py : Nat → Int32} {f t a b : Nat} (h : SO px py f t) (ha : hid s px f t a = false) (hb : hid s px f t b = false) (hf : f ≤ a) (hab : a < b) (hbt : b < t) : (px a).toInt < (px b).toInt := by
  unfold hid at ha hb
  by_cases hs : s = 0
  · rw [if_pos hs] at ha
    have h1 := of_decide_eq_false ha
    have h2 : ¬ px (a + 1) = px a := fun z => h1 ⟨by omega, z⟩
    have h3 := so_le h (j := a) (k := a + 1) hf (by omega) (by omega)
    have h4 := so_le h (j := a + 1) (k := b) (by omega) (by omega) hbt
    rw [I_eq] at h2
    omega
  · rw [if_neg hs] at hb
    have h1 := of_decide_eq_false hb
    have h2 : ¬ px (b - 1) = px b := fun z => h1 ⟨by omega, z⟩
    have h3 := so_le h (j := a) (k := b - 1) hf (by omega) (by omega)
    have h4 := so_le h (j := b - 1) (k := b) (by omega) (by omega) hbt
    rw [I_eq] at h2
    omega
theorem popC_eq (s : Nat) (px py : Nat → Int32) (r : Nat) : ∀ l : List Nat, (∀ a ∈ l, ¬ px a = px r) → popC s px py r l = popR (bad s px py r) l
  | [], _ => rfl
  | a :: t, h => by
    unfold popC popR
    rw [decide_eq_false (h a List.mem_cons_self), Bool.false_or, popC_eq s px py r t (fun b hb => h b (List.mem_cons_of_mem _ hb))]
theorem popR_mono (b1 b2 : Nat → Nat → Bool) : ∀ l : List Nat, List.Pairwise (fun x y => b1 y x = true → b2 y x = true) l → popR b2 (popR b1 l) = popR b2 l
  | [], _ => rfl
  | a :: t, h => by
    have ih := popR_mono b1 b2 t (List.Pairwise.of_cons h)
    by_cases c : btop b1 a t = true
    · have e1 : popR b1 (a :: t) = popR b1 t := by
        conv => lhs; unfold popR
        rw [if_pos c]
      have c2 : btop b2 a t = true := by
        cases t with
        | nil => exact absurd c (by simp [btop])
        | cons b t => exact (List.pairwise_cons.mp h).1 b List.mem_cons_self c
      have e2 : popR b2 (a :: t) = popR b2 t := by
        conv => lhs; unfold popR
        rw [if_pos c2]
      rw [e1, e2, ih]
    · have e1 : popR b1 (a :: t) = a :: t := by
        unfold popR
        rw [if_neg c]
      rw [e1]
theorem bad_up {px py : Nat → Int32} {a b r q : Nat} (hx : (px a).toInt < (px b).toInt) (hr : (px q).toInt = (px r).toInt) (hy : (py r).toInt ≤ (py q).toInt) (h : bad 0 px py r a b = true) : bad 0 px py q a b = true := by
  unfold bad at *
  rw [if_pos rfl] at *
  have h := of_decide_eq_true h
  apply decide_eq_true
  unfold crk crI at *
  have h2 : 0 ≤ ((px b).toInt - (px a).toInt) * ((py q).toInt - (py r).toInt) := Int.mul_nonneg (by omega) (by omega)
  rw [hr]
  simp only [Int.sub_mul, Int.mul_sub] at *
  omega
theorem cl_eq1 {px py : Nat → Int32} {f c : Nat} (hso : SO px py f (f + c)) : ∀ k, k ≤ c → clR 1 px py f k = chR 1 px py f (f + c) k ∧ (1 ≤ k → ∃ a t, chR 1 px py f (f + c) k = a :: t ∧ px a = px (f + k - 1))
  | 0, _ => ⟨rfl, fun h => by omega⟩
  | k + 1, hk => by
    obtain ⟨e, hx⟩ := cl_eq1 hso k (by omega)
    have ho : ovl px (f + k) (chR 1 px py f (f + c) k) = hid 1 px f (f + c) (f + k) := by
      unfold hid
      rw [if_neg (by omega)]
      by_cases k0 : k = 0
      · subst k0
        rw [decide_eq_false (by omega)]; rfl
      · obtain ⟨a, t, e1, e2⟩ := hx (by omega)
        rw [e1]
        show decide (px a = px (f + k)) = _
        rw [e2]
        exact decide_eq_decide.mpr ⟨fun z => ⟨by omega, z⟩, fun z => z.2⟩
    cases hh : hid 1 px f (f + c) (f + k) with
    | true =>
      have e3 : chR 1 px py f (f + c) (k + 1) = chR 1 px py f (f + c) k := by
        conv => lhs; unfold chR
        rw [hh]; rfl
      have e4 : clR 1 px py f (k + 1) = clR 1 px py f k := by
        conv => lhs; unfold clR
        rw [e, ho, hh]; rfl
      refine ⟨by rw [e3, e4, e], fun _ => ?_⟩
      rw [e3]
      have hh2 : f < f + k ∧ px (f + k - 1) = px (f + k) := by
        unfold hid at hh
        rw [if_neg (by omega)] at hh
        exact of_decide_eq_true hh
      obtain ⟨a, t, e1, e2⟩ := hx (by omega)
      exact ⟨a, t, e1, by rw [e2, hh2.2]; rfl⟩
    | false =>
      have e3 : chR 1 px py f (f + c) (k + 1) = (f + k) :: popR (bad 1 px py (f + k)) (chR 1 px py f (f + c) k) := by
        conv => lhs; unfold chR
        rw [hh]; rfl
      have e4 : clR 1 px py f (k + 1) = (f + k) :: popC 1 px py (f + k) (clR 1 px py f k) := by
        conv => lhs; unfold clR
        rw [e, ho, hh]; rfl
      refine ⟨?_, fun _ => ⟨f + k, _, e3, rfl⟩⟩
      rw [e3, e4, e, popC_eq]
      intro a ha z
      have h1 := (chR_in 1 px py f (f + c) k).1 a ha
      have h2 := nh_lt hso (chR_nh 1 px py f (f + c) k a ha) hh h1.1 h1.2 (by omega)
      rw [z] at h2
      omega
theorem cl_eq0 {px py : Nat → Int32} {f c : Nat} (hso : SO px py f (f + c)) : ∀ k, k < c → clR 0 px py f (k + 1) = (f + k) :: popR (bad 0 px py (f + k)) (chR 0 px py f (f + c) k)
  | 0, _ => rfl
  | k + 1, hk => by
    have ih := cl_eq0 hso k (by omega)
    have e4 : clR 0 px py f (k + 1 + 1) = (f + (k + 1)) :: popC 0 px py (f + (k + 1)) (clR 0 px py f (k + 1)) := rfl
    rw [e4, ih]
    congr 1
    have hin := chR_in 0 px py f (f + c) k
    have hnh := chR_nh 0 px py f (f + c) k
    have hlx : ∀ a, a ∈ chR 0 px py f (f + c) k → (px a).toInt < (px (f + k)).toInt := by
      intro a ha
      have h1 := of_decide_eq_false (by have := hnh a ha; unfold hid at this; rw [if_pos rfl] at this; exact this)
      have h0 := hin.1 a ha
      have h2 : ¬ px (a + 1) = px a := fun z => h1 ⟨by omega, z⟩
      have h3 := so_le hso (j := a) (k := a + 1) h0.1 (by omega) (by omega)
      have h4 := so_le hso (j := a + 1) (k := f + k) (by omega) (by omega) (by omega)
      rw [I_eq] at h2
      omega
    cases hh : hid 0 px f (f + c) (f + k) with
    | true =>
      have hx : px (f + k + 1) = px (f + k) := by
        unfold hid at hh
        rw [if_pos rfl] at hh
        exact (of_decide_eq_true hh).2
      have e3 : chR 0 px py f (f + c) (k + 1) = chR 0 px py f (f + c) k := by
        conv => lhs; unfold chR
        rw [hh]; rfl
      rw [e3]
      have e5 : popC 0 px py (f + (k + 1)) ((f + k) :: popR (bad 0 px py (f + k)) (chR 0 px py f (f + c) k)) = popC 0 px py (f + (k + 1)) (popR (bad 0 px py (f + k)) (chR 0 px py f (f + c) k)) := by
        conv => lhs; unfold popC
        rw [decide_eq_true (show px (f + k) = px (f + (k + 1)) from hx.symm)]; rfl
      rw [e5, popC_eq]
      · apply popR_mono
        have hp := chR_dec 0 px py f (f + c) k
        refine hp.imp_of_mem (fun {x y} hxm hym hxy hb => ?_)
        have hy : lxl px py (f + k) (f + k + 1) := hso _ _ (by omega) (by omega) (by omega)
        refine bad_up ?_ (by rw [show f + (k + 1) = f + k + 1 from rfl, hx]) ?_ hb
        · exact nh_lt hso (hnh y hym) (hnh x hxm) (hin.1 y hym).1 hxy (by have := (hin.1 x hxm).2; omega)
        · rcases hy with z | z
          · rw [hx, I_lt] at z; omega
          · have := z.2; rw [I_lt] at this
            show (py (f + k)).toInt ≤ (py (f + k + 1)).toInt
            omega
      · intro a ha z
        have := hlx a ((popR_suf _ _).subset ha)
        rw [z, show f + (k + 1) = f + k + 1 from rfl, hx] at this
        omega
    | false =>
      have e3 : chR 0 px py f (f + c) (k + 1) = (f + k) :: popR (bad 0 px py (f + k)) (chR 0 px py f (f + c) k) := by
        conv => lhs; unfold chR
        rw [hh]; rfl
      rw [e3]
      apply popC_eq
      have h1 : ¬ px (f + k + 1) = px (f + k) := by
        unfold hid at hh
        rw [if_pos rfl] at hh
        exact fun z => of_decide_eq_false hh ⟨by omega, z⟩
      have h3 := so_le hso (j := f + k) (k := f + k + 1) (by omega) (by omega) (by omega)
      rw [I_eq] at h1
      intro a ha z
      rw [show f + (k + 1) = f + k + 1 from rfl, I_eq] at z
      rcases List.mem_cons.mp ha with ha | ha
      · rw [ha] at z; omega
      · have := hlx a ((popR_suf _ _).subset ha)
        omega
theorem cl_eq {px py : Nat → Int32} {s f c : Nat} (hs : s ≤ 1) (hso : SO px py f (f + c)) : clR s px py f c = chR s px py f (f + c) c := by
  rcases (show s = 0 ∨ s = 1 by omega) with rfl | rfl
  · cases c with
    | zero => rfl
    | succ k =>
      rw [cl_eq0 hso k (by omega)]
      have hh : hid 0 px f (f + (k + 1)) (f + k) = false := by
        unfold hid
        rw [if_pos rfl]
        exact decide_eq_false (by omega)
      conv => rhs; unfold chR
      rw [hh]; rfl
  · exact (cl_eq1 hso c (Nat.le_refl c)).1
/-- the chain of the points of ranks f .. f + c - 1, its last corner first -/
def chn (s : Nat) (px py : Nat → Int32) (f c : Nat) : List Nat := chR s px py f (f + c) c
theorem WF.so {pd px py : Nat → Int32} {n : Nat} (h : WF pd px py n) {f t : Nat} (ht : t ≤ n) : SO px py f t := fun j k _ hjk hk => h.2.2.2.1 j k hjk (by omega)
theorem chn_in {s : Nat} {px py : Nat → Int32} {f c : Nat} : (∀ r ∈ chn s px py f c, f ≤ r ∧ r < f + c) ∧ (chn s px py f c).length ≤ c := chR_in s px py f (f + c) c
theorem chn_dec {s : Nat} {px py : Nat → Int32} {f c : Nat} : List.Pairwise (fun a b => b < a) (chn s px py f c) := chR_dec s px py f (f + c) c
theorem s_traceW {pd px py tr : Nat → Int32} {ts : Int32} {n f c s : Nat} (hW : WF pd px py n) (hs : s ≤ 1) (hfc : f + c ≤ n) {K : (Nat → Int32) → Int32 → Prop}
    (hK : ∀ tr', rp nI tr' (chn s px py f c) → K tr' (nI (chn s px py f c).length)) : wp_X0_trace tr ts px py (nI f) (nI c) (nI s) K := by
  have hn := hW.1
  refine s_trace hs (by omega) (fun q hq => hW.2.2.2.2 q (by omega)) (fun tr' h => ?_)
  rw [cl_eq hs (hW.so hfc)] at h ⊢
  exact hK tr' h
theorem s_layChainW {pd px py mx my mi mr mo mc : Nat → Int32} {mk : Int32} {n f c s : Nat} (hW : WF pd px py n) (hV : MV pd px py n mx my mi) (hr : RK pd n mr mo) (hs : s ≤ 1) (hfc : f + c ≤ n) {K : (Nat → Int32) → Int32 → Prop}
    (hK : ∀ mc', rp pd mc' (chn s px py f c) → K mc' (nI (chn s px py f c).length)) : wp_X6_layChain mx my mr (nI f) (nI (f + c)) mc mk (nI s) K := s_layChain hW hV hr hs hfc hK
