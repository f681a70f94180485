def ig (pd : Nat → Int32) (k : Nat) : Nat := (pd k).toNatClampNeg
def lxl (px py : Nat → Int32) (j k : Nat) : Prop := px j < px k ∨ (px j = px k ∧ py j < py k)
/-- the class's rows are points: their IDs apart, by RANK, their places as told -/
def WF (pd px py : Nat → Int32) (n : Nat) : Prop :=
  n ≤ 32 ∧ (∀ k, k < n → ig pd k < 32 ∧ pd k = nI (ig pd k)) ∧ (∀ j k, j < n → k < n → ig pd j = ig pd k → j = k) ∧ (∀ j k, j < k → k < n → lxl px py j k) ∧ (∀ k, k < n → inR (px k) ∧ inR (py k))
/-- the reference's rows hold the same points -/
def MV (pd px py : Nat → Int32) (n : Nat) (mx my mi : Nat → Int32) : Prop :=
  (∀ k, k < n → mi (ig pd k) = 1 ∧ mx (ig pd k) = px k ∧ my (ig pd k) = py k) ∧ (∀ a, a < 32 → (∀ k, k < n → ¬ ig pd k = a) → mi a = 0)
theorem ctb_mono (p : Nat → Bool) {j : Nat} : ∀ {k : Nat}, j ≤ k → ctb p j ≤ ctb p k
  | 0, h => by rw [show j = 0 by omega]; exact Nat.le_refl _
  | k + 1, h => by
    by_cases e : j = k + 1
    · rw [e]; exact Nat.le_refl _
    · have := ctb_mono p (j := j) (k := k) (by omega)
      have e2 : ctb p (k + 1) = ctb p k + (if p k then 1 else 0) := rfl
      omega
theorem ctb_t {p : Nat → Bool} {j : Nat} (h : p j = true) : ctb p (j + 1) = ctb p j + 1 := by
  show ctb p j + (if p j then 1 else 0) = _
  rw [h]; rfl
theorem ctb_f {p : Nat → Bool} {j : Nat} (h : p j = false) : ctb p (j + 1) = ctb p j := by
  show ctb p j + (if p j then 1 else 0) = _
  rw [h]; rfl
theorem ctb_lt {p : Nat → Bool} {j k : Nat} (h : p j = true) (hk : j < k) : ctb p j < ctb p k := by
  have := ctb_mono p (j := j + 1) (k := k) hk
  rw [ctb_t h] at this
  omega
theorem ctb_sur (p : Nat → Bool) : ∀ {m q : Nat}, q < ctb p m → ∃ j, j < m ∧ p j = true ∧ ctb p j = q
  | 0, q, h => by simp [ctb] at h
  | m + 1, q, h => by
    by_cases e : q < ctb p m
    · obtain ⟨j, a, b, c⟩ := ctb_sur p e
      exact ⟨j, by omega, b, c⟩
    · cases hp : p m with
      | true => rw [ctb_t hp] at h; exact ⟨m, by omega, hp, by omega⟩
      | false => rw [ctb_f hp] at h; exact absurd h e
theorem ctb_all {p : Nat → Bool} : ∀ {m : Nat}, (∀ j, j < m → p j = true) → ctb p m = m
  | 0, _ => rfl
  | m + 1, h => by rw [ctb_t (h m (by omega)), ctb_all (fun j hj => h j (by omega))]
theorem ctb_ext {p q : Nat → Bool} : ∀ {m : Nat}, (∀ j, j < m → p j = q j) → ctb p m = ctb q m
  | 0, _ => rfl
  | m + 1, h => by
    show ctb p m + (if p m then 1 else 0) = ctb q m + (if q m then 1 else 0)
    rw [ctb_ext (fun j hj => h j (by omega)), h m (by omega)]
theorem ctb_one {p q : Nat → Bool} {k0 : Nat} (hp : p k0 = false) (hq : q k0 = true) : ∀ {m : Nat}, (∀ j, j < m → j ≠ k0 → p j = q j) → ctb q m = ctb p m + (if k0 < m then 1 else 0)
  | 0, _ => rfl
  | m + 1, h => by
    have ih := ctb_one hp hq (m := m) (fun j hj => h j (by omega))
    by_cases e : m = k0
    · subst e
      rw [ctb_t hq, ctb_f hp, ih, if_neg (by omega), if_pos (by omega)]
    · show ctb q m + (if q m then 1 else 0) = ctb p m + (if p m then 1 else 0) + _
      rw [ih, h m (by omega) e]
      by_cases e2 : k0 < m
      · rw [if_pos e2, if_pos (show k0 < m + 1 by omega)]; omega
      · rw [if_neg e2, if_neg (show ¬ k0 < m + 1 by omega)]; omega
def sel (pd : Nat → Int32) (i : Nat) (j : Nat) : Bool := decide (ig pd j < i)
set_option maxHeartbeats 2000000 in
theorem s_layRanks {pd px py mx my mi mr mo : Nat → Int32} {n : Nat} (hW : WF pd px py n) (hV : MV pd px py n mx my mi) {K : (Nat → Int32) → (Nat → Int32) → Prop}
    (hK : ∀ mr' mo', (∀ k, k < n → mr' k = pd k) → (∀ k, k < n → mo' (ig pd k) = nI k) → K mr' mo') : wp_X6_layRanks mx my mi mr mo K := by
  obtain ⟨hn, hid, hinj, hso, hin⟩ := hW
  obtain ⟨hv1, hv0⟩ := hV
  have last : ∀ (r : Nat → Int32), (∀ k, k < n → r k = pd k) → ∀ (d k : Nat) (o : Nat → Int32), k + d = n → (∀ j, j < k → o (ig pd j) = nI j) → wp_X6_layRanks_129 mx my mi K r (nI n) (d + 1) o (nI k) := by
    intro r hr d
    induction d with
    | zero =>
      intro k o hk ho
      refine wp_X6_layRanks_129_s ?_
      unfold wp_X6_layRanks_129b
      exact ⟨fun _ => hK r o hr (fun j hj => ho j (by omega)), fun c => absurd ((n_le (by omega) (by omega)).mpr (by omega)) c⟩
    | succ d ih =>
      intro k o hk ho
      refine wp_X6_layRanks_129_s ?_
      unfold wp_X6_layRanks_129b
      have hi := hid k (by omega)
      rw [n_cl (by omega), hr k (by omega), nI_1]
      refine ⟨fun c => by rw [n_le (by omega) (by omega)] at c; omega, fun _ => ⟨n_in (by omega) (by omega), by rw [hi.2]; exact n_in hi.1 (by omega), ?_⟩⟩
      refine ih (k + 1) _ (by omega) (fun j hj => ?_)
      show upd o (ig pd k) (nI k) (ig pd j) = _
      by_cases e : j = k
      · rw [e, up_s]
      · rw [up_n (fun z => e (hinj j k (by omega) (by omega) z))]
        exact ho j (by omega)
  have key : ∀ (d i : Nat) (r : Nat → Int32), i + d = 32 → (∀ k, k < n → ig pd k < i → r (ctb (sel pd i) k) = pd k) → wp_X6_layRanks_4 mx my mi K mo (d + 1) r (nI (ctb (sel pd i) n)) (nI i) := by
    intro d
    induction d with
    | zero =>
      intro i r hi hr
      refine wp_X6_layRanks_4_s ?_
      unfold wp_X6_layRanks_4b
      have hall : ∀ k, k ≤ n → ctb (sel pd i) k = k := fun k hk => ctb_all (fun j hj => decide_eq_true (by have := (hid j (by omega)).1; omega))
      refine ⟨fun _ => ?_, fun c => absurd ?_ c⟩
      · rw [hall n (Nat.le_refl n)]
        exact ⟨n + 1, last r (fun k hk => by have := hr k hk (by have := (hid k hk).1; omega); rw [hall k (by omega)] at this; exact this) n 0 mo (by omega) (fun j hj => by omega)⟩
      · rw [show (32 : Int32) = nI 32 from rfl, n_le (by omega) (by omega)]; omega
    | succ d ih =>
      intro i r hi hr
      refine wp_X6_layRanks_4_s ?_
      unfold wp_X6_layRanks_4b
      rw [n_cl (by omega)]
      refine ⟨fun c => by rw [show (32 : Int32) = nI 32 from rfl, n_le (by omega) (by omega)] at c; omega, fun _ => ⟨n_in (by omega) (by omega), fun c => ?_, fun c => ?_⟩⟩
      · -- no such point
        have hno : ∀ k, k < n → ¬ ig pd k = i := fun k hk e => by
          have := (hv1 k hk).1
          rw [e, c] at this
          exact absurd this (by decide)
        have hse : ∀ j, j < n → sel pd i j = sel pd (i + 1) j := fun j hj => by
          unfold sel
          have := hno j hj
          exact decide_eq_decide.mpr (by omega)
        rw [nI_1, ctb_ext hse]
        refine ih (i + 1) r (by omega) (fun k hk hlt => ?_)
        rw [← ctb_ext (fun j hj => hse j (by omega))]
        exact hr k hk (by have := hno k hk; omega)
      · -- the point of rank k0
        obtain ⟨k0, hk0, e0⟩ : ∃ k0, k0 < n ∧ ig pd k0 = i := by
          apply Classical.byContradiction
          intro hne
          exact c (hv0 i (by omega) (fun k hk e => hne ⟨k, hk, e⟩))
        have hp0 : sel pd i k0 = false := decide_eq_false (by omega)
        have hq0 : sel pd (i + 1) k0 = true := decide_eq_true (by omega)
        have hone : ∀ m, m ≤ n → ctb (sel pd (i + 1)) m = ctb (sel pd i) m + (if k0 < m then 1 else 0) := fun m hm => ctb_one hp0 hq0 (fun j hj hne => by
          unfold sel
          have : ¬ ig pd j = i := fun z => hne (hinj j k0 (by omega) hk0 (by omega))
          exact decide_eq_decide.mpr (by omega))
        have hi0 : pd k0 = nI i := by rw [(hid k0 hk0).2, e0]
        have hx0 : mx i = px k0 := by rw [← e0]; exact (hv1 k0 hk0).2.1
        have hy0 : my i = py k0 := by rw [← e0]; exact (hv1 k0 hk0).2.2
        have hcn := ctb_le (sel pd i) n
        have hlt0 : ctb (sel pd i) n + 1 ≤ 32 := by
          have := ctb_le (sel pd (i + 1)) n
          rw [hone n (Nat.le_refl n), if_pos hk0] at this
          omega
        have fin : ∀ (a : Nat) (u : Nat → Int32), a ≤ ctb (sel pd i) n → (∀ k, k < n → ig pd k < i → ctb (sel pd i) k < a → u (ctb (sel pd i) k) = pd k) → (∀ k, k < n → ig pd k < i → a ≤ ctb (sel pd i) k → k0 < k ∧ u (ctb (sel pd i) k + 1) = pd k) → (a = 0 ∨ ∃ k1, k1 < k0 ∧ ig pd k1 < i ∧ ctb (sel pd i) k1 + 1 = a) → wp_X6_layRanks_4 mx my mi K mo (d + 1) (upd u a (nI i)) (nI (ctb (sel pd i) n + 1)) (nI (i + 1)) := by
          intro a u ha h1 h2 h3
          have hc0 : ctb (sel pd i) k0 = a := by
            apply Nat.le_antisymm
            · apply Nat.le_of_not_lt
              intro hlt
              obtain ⟨j, hj, hsj, hcj⟩ := ctb_sur _ hlt
              have := (h2 j (by omega) (of_decide_eq_true hsj) (by omega)).1
              omega
            · rcases h3 with h3 | ⟨k1, hk1, hg1, hc1⟩
              · omega
              · have := ctb_lt (p := sel pd i) (j := k1) (k := k0) (decide_eq_true hg1) hk1
                omega
          have hm : ctb (sel pd (i + 1)) n = ctb (sel pd i) n + 1 := by rw [hone n (Nat.le_refl n), if_pos hk0]
          rw [← hm]
          refine ih (i + 1) _ (by omega) (fun k hk hlt => ?_)
          rw [hone k (by omega)]
          by_cases e : k = k0
          · subst e
            rw [if_neg (by omega), Nat.add_zero, hc0, up_s, hi0]
          · have hg : ig pd k < i := by
              have : ¬ ig pd k = i := fun z => e (hinj k k0 hk hk0 (by omega))
              omega
            by_cases e2 : k0 < k
            · rw [if_pos e2]
              have : ctb (sel pd i) k0 ≤ ctb (sel pd i) k := ctb_mono _ (by omega)
              rw [up_n (by omega)]
              exact (h2 k hk hg (by omega)).2
            · rw [if_neg e2, Nat.add_zero]
              have := ctb_lt (p := sel pd i) (j := k) (k := k0) (decide_eq_true hg) (by omega)
              rw [up_n (by omega)]
              exact h1 k hk hg (by omega)
        have inner : ∀ (a : Nat) (u : Nat → Int32), a ≤ ctb (sel pd i) n → (∀ k, k < n → ig pd k < i → ctb (sel pd i) k < a → u (ctb (sel pd i) k) = pd k) → (∀ k, k < n → ig pd k < i → a ≤ ctb (sel pd i) k → k0 < k ∧ u (ctb (sel pd i) k + 1) = pd k) → wp_X6_layRanks_21 mx my mi K (wp_X6_layRanks_4 mx my mi K mo (d + 1)) mo (nI (ctb (sel pd i) n)) (nI i) (a + 1) u (nI a) := by
          intro a
          induction a with
          | zero =>
            intro u ha h1 h2
            refine wp_X6_layRanks_21_s ?_
            unfold wp_X6_layRanks_21b
            refine ⟨fun _ => ⟨n_in (by omega) (by omega), ?_⟩, fun q => absurd (by decide) q⟩
            rw [nI_1, nI_1]
            exact fin 0 u ha h1 h2 (Or.inl rfl)
          | succ a iha =>
            intro u ha h1 h2
            refine wp_X6_layRanks_21_s ?_
            unfold wp_X6_layRanks_21b
            obtain ⟨k1, hk1, hs1, hc1⟩ := ctb_sur (sel pd i) (m := n) (q := a) (by omega)
            have hg1 : ig pd k1 < i := of_decide_eq_true hs1
            have hu1 : u a = pd k1 := by have := h1 k1 hk1 hg1 (by omega); rw [hc1] at this; exact this
            have hid1 := hid k1 hk1
            have hne : k1 ≠ k0 := fun z => by rw [z] at hg1; omega
            rw [n_s1, n_cl (i := a) (by omega), n_cl (i := a + 1) (by omega), n_cl (i := i) (by omega), hu1]
            rw [show (pd k1).toNatClampNeg = ig pd k1 from rfl, (hv1 k1 hk1).2.1, (hv1 k1 hk1).2.2, hx0, hy0]
            have vin : vp_in (pd k1) 32 := by rw [hid1.2]; exact n_in hid1.1 (by omega)
            have stop : k1 < k0 → wp_X6_layRanks_4 mx my mi K mo (d + 1) (upd u (a + 1) (nI i)) (nI (ctb (sel pd i) n) + 1) (nI i + 1) := fun hlt => by
              rw [nI_1, nI_1]
              exact fin (a + 1) u ha h1 h2 (Or.inr ⟨k1, hlt, hg1, by omega⟩)
            have shift : k0 < k1 → wp_X6_layRanks_91 mx my mi K (wp_X6_layRanks_4 mx my mi K mo (d + 1)) (wp_X6_layRanks_21 mx my mi K (wp_X6_layRanks_4 mx my mi K mo (d + 1)) mo (nI (ctb (sel pd i) n)) (nI i) (a + 1)) mo (nI (ctb (sel pd i) n)) (nI i) u (nI (a + 1)) := fun hlt => by
              unfold wp_X6_layRanks_91
              rw [n_s1, n_m1, n_cl (i := a) (by omega), n_cl (i := a + 1) (by omega)]
              refine ⟨n_in (by omega) (by omega), n_in (by omega) (by omega), iha _ (by omega) (fun k hk hg hlt2 => ?_) (fun k hk hg hle => ?_)⟩
              · rw [up_n (by omega)]; exact h1 k hk hg (by omega)
              · by_cases e : ctb (sel pd i) k = a
                · have ek : k = k1 := by
                    rcases Nat.lt_trichotomy k k1 with q | q | q
                    · have := ctb_lt (p := sel pd i) (j := k) (k := k1) (decide_eq_true hg) q; omega
                    · exact q
                    · have := ctb_lt (p := sel pd i) (j := k1) (k := k) hs1 q; omega
                  subst ek
                  rw [e, up_s]
                  exact ⟨hlt, hu1⟩
                · have := h2 k hk hg (by omega)
                  rw [up_n (by omega)]
                  exact this
            have ord : k1 < k0 ∨ k0 < k1 := by omega
            refine ⟨fun q => ?_, fun _ => ⟨n_in (by omega) (by omega), vin, n_in (by omega) (by omega), fun q => shift ?_, fun q => ⟨n_in (by omega) (by omega), vin, n_in (by omega) (by omega), fun w => ⟨n_in (by omega) (by omega), stop ?_⟩, fun w => ⟨n_in (by omega) (by omega), vin, n_in (by omega) (by omega), fun z => ⟨n_in (by omega) (by omega), stop ?_⟩, fun z => shift ?_⟩⟩⟩⟩
            · rw [show (0 : Int32) = nI 0 from rfl, n_le (by omega) (by omega)] at q; omega
            · rcases ord with o | o
              · rcases hso k1 k0 o hk0 with z | z
                · rw [I_lt] at q z; omega
                · rw [I_lt] at q; rw [I_eq] at z; omega
              · exact o
            · rcases ord with o | o
              · exact o
              · rcases hso k0 k1 o hk1 with z | z
                · exact absurd z q
                · exact absurd z.1.symm w
            · rcases ord with o | o
              · exact o
              · rcases hso k0 k1 o hk1 with y | y
                · exact absurd y q
                · have := y.2; rw [I_lt] at this; rw [I_le] at z; omega
            · rcases ord with o | o
              · rcases hso k1 k0 o hk0 with y | y
                · rw [I_lt] at y; rw [I_eq] at w; omega
                · have := y.2; rw [I_lt] at this; rw [I_le] at z; omega
              · exact o
        exact ⟨_, inner (ctb (sel pd i) n) r (Nat.le_refl _) (fun k hk hg _ => hr k hk hg) (fun k hk hg hle => by
          have := ctb_lt (p := sel pd i) (j := k) (k := n) (decide_eq_true hg) hk
          omega)⟩
  unfold wp_X6_layRanks
  have := key 32 0 mr (by omega) (fun k hk hlt => by omega)
  rw [show ctb (sel pd 0) n = 0 from by
    apply Classical.byContradiction
    intro h
    obtain ⟨j, _, hs, _⟩ := ctb_sur (sel pd 0) (m := n) (q := 0) (by omega)
    exact absurd (of_decide_eq_true hs) (by omega)] at this
  exact ⟨33, this⟩
