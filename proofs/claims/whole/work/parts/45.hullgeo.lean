theorem atl_last (a : Nat) (t : List Nat) : atl (a :: t) t.length = a := by unfold atl; simp
theorem atl_cons {a : Nat} {t : List Nat} {i : Nat} (h : i < t.length) : atl (a :: t) i = atl t i := by
  unfold atl
  rw [show (a :: t).length - 1 - i = (t.length - 1 - i) + 1 by simp; omega]
  simp
theorem suf_atl {l m : List Nat} (h : m <:+ l) {i : Nat} (hi : i < m.length) : atl m i = atl l i := by
  obtain ⟨pre, rfl⟩ := h
  induction pre with
  | nil => rfl
  | cons a pre ih => rw [List.cons_append, atl_cons (by simp; omega)]; exact ih
theorem pw_atl {P : Nat → Nat → Prop} : ∀ {l : List Nat}, l.Pairwise (fun a b => P b a) → ∀ {i j : Nat}, i < j → j < l.length → P (atl l i) (atl l j)
  | [], _, i, j, _, h => by simp at h
  | a :: t, hp, i, j, hij, h => by
    have hc := List.pairwise_cons.mp hp
    simp only [List.length_cons] at h
    by_cases e : j = t.length
    · subst e
      rw [atl_last, atl_cons hij]
      exact hc.1 _ (atl_mem hij)
    · rw [atl_cons (show j < t.length by omega), atl_cons (show i < t.length by omega)]
      exact pw_atl hc.2 hij (by omega)
def crs (s : Nat) (px py : Nat → Int32) (a b c : Nat) : Int := if s = 0 then - crk px py a b c else crk px py a b c
theorem crs_bad {s : Nat} {px py : Nat → Int32} {p a b : Nat} (h : bad s px py p a b = false) : 0 < crs s px py a b p := by
  unfold bad at h
  unfold crs
  by_cases hs : s = 0
  · rw [if_pos hs] at *; have := of_decide_eq_false h; omega
  · rw [if_neg hs] at *; have := of_decide_eq_false h; omega
theorem crs_4 {s : Nat} {px py : Nat → Int32} {a b c d : Nat} (h1 : (px a).toInt < (px b).toInt) (h2 : (px b).toInt < (px c).toInt) (h3 : (px c).toInt < (px d).toInt) (e1 : 0 < crs s px py a b c) (e2 : 0 < crs s px py b c d) : 0 < crs s px py a b d ∧ 0 < crs s px py a c d := by
  unfold crs crk at *
  by_cases hs : s = 0
  · rw [if_pos hs] at e1 e2
    rw [if_pos hs, if_pos hs]
    rw [← cr_neg] at e1 e2
    rw [← cr_neg, ← cr_neg]
    exact cr_4a h1 h2 h3 e1 e2
  · rw [if_neg hs] at e1 e2
    rw [if_neg hs, if_neg hs]
    exact cr_4a h1 h2 h3 e1 e2
def TRl (s : Nat) (px py : Nat → Int32) : List Nat → Prop
  | [] => True
  | c :: t => t.Pairwise (fun b a => 0 < crs s px py a b c) ∧ TRl s px py t
theorem tr_suf {s : Nat} {px py : Nat → Int32} {l m : List Nat} (h : m <:+ l) (ht : TRl s px py l) : TRl s px py m := by
  obtain ⟨pre, rfl⟩ := h
  induction pre with
  | nil => exact ht
  | cons a pre ih => exact ih ht.2
theorem tr_push {s : Nat} {px py : Nat → Int32} {p : Nat} {l : List Nat} (ht : TRl s px py l) (hx : l.Pairwise (fun a b => (px b).toInt < (px a).toInt)) (hp : ∀ a ∈ l, (px a).toInt < (px p).toInt) (hb : ∀ a t, l = a :: t → btop (bad s px py p) a t = false) : TRl s px py (p :: l) := by
  refine ⟨?_, ht⟩
  cases l with
  | nil => exact List.Pairwise.nil
  | cons t0 l =>
    cases l with
    | nil => exact List.pairwise_singleton _ _
    | cons t1 l =>
      have hx0 := List.pairwise_cons.mp hx
      have hx1 := List.pairwise_cons.mp hx0.2
      have hT := List.pairwise_cons.mp ht.1
      have c1 : 0 < crs s px py t1 t0 p := crs_bad (hb t0 (t1 :: l) rfl)
      have hp0 := hp t0 List.mem_cons_self
      have all1 : ∀ y ∈ t1 :: l, 0 < crs s px py y t0 p := by
        intro y hy
        rcases List.mem_cons.mp hy with e | hy
        · rw [e]; exact c1
        · exact (crs_4 (hx1.1 y hy) (hx0.1 t1 List.mem_cons_self) hp0 (hT.1 y hy) c1).2
      refine List.pairwise_cons.mpr ⟨all1, ?_⟩
      have hcomb := ht.1.imp_of_mem (S := fun b a => 0 < crs s px py a b t0 ∧ b ∈ t1 :: l) (fun {b a} hb' _ h => ⟨h, hb'⟩)
      have hx2 : (t1 :: l).Pairwise (fun a b => (px b).toInt < (px a).toInt) := hx0.2
      refine (hcomb.and hx2).imp (fun {b a} h => ?_)
      exact (crs_4 h.2 (hx0.1 b h.1.2) hp0 h.1.1 (all1 b h.1.2)).1
theorem popR_top {bd : Nat → Nat → Bool} : ∀ {l : List Nat} {a : Nat} {t : List Nat}, popR bd l = a :: t → btop bd a t = false
  | [], a, t, h => by simp [popR] at h
  | b :: r, a, t, h => by
    unfold popR at h
    by_cases c : btop bd b r = true
    · rw [if_pos c] at h
      exact popR_top h
    · rw [if_neg c] at h
      cases h
      cases hc : btop bd b r with
      | true => exact absurd hc c
      | false => rfl
theorem popR_ne {bd : Nat → Nat → Bool} : ∀ {l : List Nat}, l ≠ [] → popR bd l ≠ []
  | [], h => absurd rfl h
  | [a], _ => by unfold popR; simp [btop]
  | a :: b :: t, _ => by
    unfold popR
    split
    · exact popR_ne (by simp)
    · simp
theorem chR_x {s : Nat} {px py : Nat → Int32} {f c : Nat} (hso : SO px py f (f + c)) : ∀ k, k ≤ c → (chR s px py f (f + c) k).Pairwise (fun a b => (px b).toInt < (px a).toInt) := by
  intro k hk
  have hin := chR_in s px py f (f + c) k
  have hnh := chR_nh s px py f (f + c) k
  refine (chR_dec s px py f (f + c) k).imp_of_mem (fun {a b} ha hb h => ?_)
  exact nh_lt hso (hnh b hb) (hnh a ha) (hin.1 b hb).1 h (by have := (hin.1 a ha).2; omega)
theorem chR_tr {s : Nat} {px py : Nat → Int32} {f c : Nat} (hso : SO px py f (f + c)) : ∀ k, k ≤ c → TRl s px py (chR s px py f (f + c) k)
  | 0, _ => trivial
  | k + 1, hk => by
    have ih := chR_tr hso (s := s) k (by omega)
    unfold chR
    cases hh : hid s px f (f + c) (f + k) with
    | true => exact ih
    | false =>
      have hs := popR_suf (bad s px py (f + k)) (chR s px py f (f + c) k)
      refine tr_push (tr_suf hs ih) ((chR_x hso k (by omega)).sublist hs.sublist) (fun a ha => ?_) (fun a t e => popR_top e)
      have h1 := (chR_in s px py f (f + c) k).1 a (hs.subset ha)
      exact nh_lt hso (chR_nh s px py f (f + c) k a (hs.subset ha)) hh h1.1 h1.2 (by omega)
theorem tr_atl {s : Nat} {px py : Nat → Int32} : ∀ {l : List Nat}, TRl s px py l → ∀ {i j k : Nat}, i < j → j < k → k < l.length → 0 < crs s px py (atl l i) (atl l j) (atl l k)
  | [], _, i, j, k, _, _, h => by simp at h
  | c :: t, ht, i, j, k, hij, hjk, h => by
    simp only [List.length_cons] at h
    by_cases e : k = t.length
    · subst e
      rw [atl_last, atl_cons hjk, atl_cons (show i < t.length by omega)]
      exact pw_atl (P := fun a b => 0 < crs s px py a b c) ht.1 hij hjk
    · rw [atl_cons (show k < t.length by omega), atl_cons (show j < t.length by omega), atl_cons (show i < t.length by omega)]
      exact tr_atl ht.2 hij hjk (by omega)
/-- where a chain begins -/
theorem chR_bot {s : Nat} {px py : Nat → Int32} {f c : Nat} : ∀ k, k ≤ c → (chR s px py f (f + c) k = [] ∧ (¬ s = 0 → k = 0) ∧ (k < c → px (f + k) = px f)) ∨ (chR s px py f (f + c) k ≠ [] ∧ px (atl (chR s px py f (f + c) k) 0) = px f ∧ (¬ s = 0 → atl (chR s px py f (f + c) k) 0 = f))
  | 0, _ => Or.inl ⟨rfl, fun _ => rfl, fun _ => rfl⟩
  | k + 1, hk => by
    have ih := chR_bot (s := s) (px := px) (py := py) (f := f) (c := c) k (by omega)
    cases hh : hid s px f (f + c) (f + k) with
    | true =>
      have e : chR s px py f (f + c) (k + 1) = chR s px py f (f + c) k := by
        conv => lhs; unfold chR
        rw [hh]; rfl
      rw [e]
      rcases ih with ⟨i1, i2, i3⟩ | ih
      · left
        unfold hid at hh
        by_cases hs : s = 0
        · rw [if_pos hs] at hh
          have := (of_decide_eq_true hh).2
          exact ⟨i1, fun z => absurd hs z, fun _ => by rw [show f + (k + 1) = f + k + 1 from rfl, this]; exact i3 (by omega)⟩
        · rw [if_neg hs] at hh
          have := (of_decide_eq_true hh).1
          have := i2 hs
          omega
      · exact Or.inr ih
    | false =>
      have e : chR s px py f (f + c) (k + 1) = (f + k) :: popR (bad s px py (f + k)) (chR s px py f (f + c) k) := by
        conv => lhs; unfold chR
        rw [hh]; rfl
      rw [e]
      right
      refine ⟨by simp, ?_⟩
      rcases ih with ⟨i1, i2, i3⟩ | ⟨i1, i2, i3⟩
      · rw [i1]
        show px (atl [f + k] 0) = px f ∧ _
        have : atl [f + k] 0 = f + k := rfl
        rw [show popR (bad s px py (f + k)) [] = [] from rfl, this]
        exact ⟨i3 (by omega), fun z => by rw [i2 z]; rfl⟩
      · have hs := popR_suf (bad s px py (f + k)) (chR s px py f (f + c) k)
        have hne := popR_ne (bd := bad s px py (f + k)) i1
        have hpos : 0 < (popR (bad s px py (f + k)) (chR s px py f (f + c) k)).length := List.length_pos_iff.mpr hne
        rw [atl_cons hpos, suf_atl hs hpos]
        exact ⟨i2, i3⟩
/-- both chains of all points -/
theorem hull_ch {pd px py : Nat → Int32} {n : Nat} (hW : WF pd px py n) (hn : 0 < n) :
    0 < (chn 1 px py 0 n).length ∧ 0 < (chn 0 px py 0 n).length ∧ ((chn 1 px py 0 n).length = 1 ↔ (chn 0 px py 0 n).length = 1) ∧
    ((chn 1 px py 0 n).length ≠ 1 → CH (chn 1 px py 0 n).length (fun i => (px (atl (chn 1 px py 0 n) i)).toInt) (fun i => (py (atl (chn 1 px py 0 n) i)).toInt) (chn 0 px py 0 n).length (fun i => (px (atl (chn 0 px py 0 n) i)).toInt) (fun i => (py (atl (chn 0 px py 0 n) i)).toInt)) := by
  have hso : SO px py 0 (0 + n) := hW.so (by omega)
  have bB := chR_bot (s := 1) (px := px) (py := py) (f := 0) (c := n) n (Nat.le_refl n)
  have bA := chR_bot (s := 0) (px := px) (py := py) (f := 0) (c := n) n (Nat.le_refl n)
  obtain ⟨tb, lb, eB, xB⟩ := (cl_eq1 hso n (Nat.le_refl n)).2 (by omega)
  have eA : ∃ la, chR 0 px py 0 (0 + n) n = (n - 1) :: la := by
    obtain ⟨k, rfl⟩ : ∃ k, n = k + 1 := ⟨n - 1, by omega⟩
    have hh : hid 0 px 0 (0 + (k + 1)) (0 + k) = false := by
      unfold hid; rw [if_pos rfl]; exact decide_eq_false (by omega)
    refine ⟨popR (bad 0 px py (0 + k)) (chR 0 px py 0 (0 + (k + 1)) k), ?_⟩
    conv => lhs; unfold chR
    rw [hh]
    show (0 + k) :: _ = _
    rw [Nat.zero_add]; rfl
  obtain ⟨la, eA⟩ := eA
  have tB := chR_tr (s := 1) hso n (Nat.le_refl n)
  have tA := chR_tr (s := 0) hso n (Nat.le_refl n)
  have xB' := chR_x (s := 1) hso n (Nat.le_refl n)
  have xA' := chR_x (s := 0) hso n (Nat.le_refl n)
  have inB := (chR_in 1 px py 0 (0 + n) n).1
  have inA := (chR_in 0 px py 0 (0 + n) n).1
  unfold chn
  rcases bB with ⟨z, _⟩ | ⟨neB, b1, b2⟩
  · rw [z] at eB; exact absurd eB (by simp)
  rcases bA with ⟨z, _⟩ | ⟨neA, a1, _⟩
  · rw [z] at eA; exact absurd eA (by simp)
  have topB : atl (chR 1 px py 0 (0 + n) n) ((chR 1 px py 0 (0 + n) n).length - 1) = tb := by rw [eB]; exact atl_last _ _
  have topA : atl (chR 0 px py 0 (0 + n) n) ((chR 0 px py 0 (0 + n) n).length - 1) = n - 1 := by rw [eA]; exact atl_last _ _
  have b2' := b2 (by omega)
  generalize chR 1 px py 0 (0 + n) n = B at *
  generalize chR 0 px py 0 (0 + n) n = A at *
  have pB : 0 < B.length := List.length_pos_iff.mpr neB
  have pA : 0 < A.length := List.length_pos_iff.mpr neA
  have xtop : px tb = px (n - 1) := by rw [xB]; congr 1; omega
  have incB : ∀ i j, i < j → j < B.length → (px (atl B i)).toInt < (px (atl B j)).toInt := fun i j a b => pw_atl (P := fun a b => (px a).toInt < (px b).toInt) xB' a b
  have incA : ∀ i j, i < j → j < A.length → (px (atl A i)).toInt < (px (atl A j)).toInt := fun i j a b => pw_atl (P := fun a b => (px a).toInt < (px b).toInt) xA' a b
  have lenB : B.length = 1 ↔ px 0 = px (n - 1) := by
    constructor
    · intro e
      rw [e] at topB
      have : atl B 0 = tb := topB
      rw [← xtop, ← this, b1]
    · intro e
      apply Classical.byContradiction
      intro hne
      have := incB 0 (B.length - 1) (by omega) (by omega)
      rw [topB, b1, xtop, e] at this
      omega
  have lenA : A.length = 1 ↔ px 0 = px (n - 1) := by
    constructor
    · intro e
      rw [e] at topA
      have : atl A 0 = n - 1 := topA
      rw [← a1, this]
    · intro e
      apply Classical.byContradiction
      intro hne
      have := incA 0 (A.length - 1) (by omega) (by omega)
      rw [topA, a1, e] at this
      omega
  refine ⟨pB, pA, lenB.trans lenA.symm, fun hne => ?_⟩
  have hne2 : A.length ≠ 1 := fun z => hne (lenB.mpr (lenA.mp z))
  refine ⟨by omega, by omega, incB, fun i j k x y z => ?_, incA, fun i j k x y z => ?_, ?_, ?_, ?_, ?_⟩
  · have := tr_atl tB x y z
    unfold crs at this
    rw [if_neg (by omega)] at this
    exact this
  · have := tr_atl tA x y z
    unfold crs at this
    rw [if_pos rfl] at this
    show crk px py (atl A i) (atl A j) (atl A k) < 0
    omega
  · show (px (atl B 0)).toInt = (px (atl A 0)).toInt
    rw [b1, a1]
  · show (py (atl B 0)).toInt ≤ (py (atl A 0)).toInt
    rw [b2']
    by_cases e : atl A 0 = 0
    · rw [e]; exact Int.le_refl _
    · have hin := inA _ (atl_mem (l := A) (i := 0) pA)
      rcases hso 0 (atl A 0) (by omega) (by omega) (by omega) with q | q
      · rw [a1, I_lt] at q; omega
      · have := q.2; rw [I_lt] at this; omega
  · show (px (atl B (B.length - 1))).toInt = (px (atl A (A.length - 1))).toInt
    rw [topB, topA, xtop]
  · show (py (atl B (B.length - 1))).toInt ≤ (py (atl A (A.length - 1))).toInt
    rw [topB, topA]
    have hin := inB _ (atl_mem (l := B) (i := B.length - 1) (by omega))
    rw [topB] at hin
    by_cases e : tb = n - 1
    · rw [e]; exact Int.le_refl _
    · rcases hso tb (n - 1) (by omega) (by omega) (by omega) with q | q
      · rw [xtop, I_lt] at q; omega
      · have := q.2; rw [I_lt] at this; omega
