theorem s_isBetween {v a b : Int32} {K : Int32 → Prop} (k1 : btwI v.toInt a.toInt b.toInt → K 1) (k0 : ¬ btwI v.toInt a.toInt b.toInt → K 0) : wp_X6_isBetween v a b K := by
  unfold wp_X6_isBetween
  unfold btwI at k1 k0
  refine ⟨fun c => s_in (fun p q => ⟨rfl, k1 ?_⟩) (fun p => ⟨rfl, k0 ?_⟩), fun c => s_in (fun p q => ⟨rfl, k1 ?_⟩) (fun p => ⟨rfl, k0 ?_⟩)⟩
  · rw [I_le] at c; rw [I_lt] at p q; omega
  · rw [I_le] at c; rw [I_lt, I_lt] at p; omega
  · rw [I_le] at c; rw [I_lt] at p q; omega
  · rw [I_le] at c; rw [I_lt, I_lt] at p; omega
theorem cr_uu (ax ay cx cy : Int) : crI ax ay ax ay cx cy = 0 := by unfold crI; simp
theorem cr_sw (ax ay bx by_ cx cy : Int) : crI bx by_ ax ay cx cy = - crI ax ay bx by_ cx cy := by unfold crI; grind
def oP (px py : Nat → Int32) (R : List Nat) (x y : Int32) (i : Nat) : Prop := R.length < 2 ∨ ∃ j, j < i ∧ cE px py R x y j < 0
def eP (px py : Nat → Int32) (R : List Nat) (x y : Int32) (i : Nat) : Prop := ∃ j, j < i ∧ 1 < R.length ∧ cE px py R x y j = 0 ∧ bxE px py R x y j
/-- what the reference answers, out of what it has gathered, is what the class answers -/
theorem loc_fin {px py : Nat → Int32} {R : List Nat} {x y : Int32} (hG : GEO px py R) (hc : ¬ atC px py R x y) : (R.length = 2 → (eP px py R x y R.length → locG px py R x y R.length 0 = 2) ∧ (¬ eP px py R x y R.length → locG px py R x y R.length 0 = 0)) ∧ (¬ R.length = 2 → (oP px py R x y R.length → locG px py R x y R.length 0 = 0) ∧ (¬ oP px py R x y R.length → (eP px py R x y R.length → locG px py R x y R.length 0 = 2) ∧ (¬ eP px py R x y R.length → locG px py R x y R.length 0 = 3))) := by
  constructor
  · intro hL
    have n0 : nxt 2 0 = 1 := rfl
    have n1 : nxt 2 1 = 0 := rfl
    have e1 : cE px py R x y 1 = - cE px py R x y 0 := by
      unfold cE; rw [hL, n0, n1]; exact cr_sw _ _ _ _ _ _
    have b1 : bxE px py R x y 1 ↔ bxE px py R x y 0 := by
      unfold bxE bxP btwI; rw [hL, n0, n1]; omega
    have hg : locG px py R x y 2 0 = if cE px py R x y 0 < 0 then 0 else if cE px py R x y 0 = 0 then (@ite _ (bxE px py R x y 0) (Classical.propDecidable _) 2 0) else if cE px py R x y 1 < 0 then 0 else if cE px py R x y 1 = 0 then (@ite _ (bxE px py R x y 1) (Classical.propDecidable _) 2 0) else if R.length = 0 then 0 else 3 := rfl
    have ee : eP px py R x y 2 ↔ (cE px py R x y 0 = 0 ∧ bxE px py R x y 0) := by
      unfold eP
      constructor
      · intro ⟨j, hj, _, c, b⟩
        rcases (show j = 0 ∨ j = 1 by omega) with rfl | rfl
        · exact ⟨c, b⟩
        · exact ⟨by omega, b1.mp b⟩
      · intro ⟨c, b⟩
        exact ⟨0, by omega, by omega, c, b⟩
    rw [hL, ee, hg]
    by_cases c1 : cE px py R x y 0 < 0
    · rw [if_pos c1]
      exact ⟨fun z => by omega, fun _ => rfl⟩
    · rw [if_neg c1]
      by_cases c2 : cE px py R x y 0 = 0
      · rw [if_pos c2]
        exact ⟨fun z => @if_pos _ (Classical.propDecidable _) z.2 _ _ _, fun z => @if_neg _ (Classical.propDecidable _) (fun b => z ⟨c2, b⟩) _ _ _⟩
      · rw [if_neg c2, if_pos (by omega)]
        exact ⟨fun z => absurd z.1 c2, fun _ => rfl⟩
  · intro hL
    by_cases h3 : 3 ≤ R.length
    · have hG := hG h3 x y
      have key : ∀ (d i : Nat), i + d = R.length → (∀ j, j < i → 0 < cE px py R x y j) → (oP px py R x y R.length → locG px py R x y d i = 0) ∧ (¬ oP px py R x y R.length → (eP px py R x y R.length → locG px py R x y d i = 2) ∧ (¬ eP px py R x y R.length → locG px py R x y d i = 3)) := by
        intro d
        induction d with
        | zero =>
          intro i hi hj
          unfold locG
          rw [if_neg (by omega)]
          refine ⟨fun z => ?_, fun _ => ⟨fun z => ?_, fun _ => rfl⟩⟩
          · rcases z with z | ⟨j, hjl, c⟩
            · omega
            · have := hj j (by omega); omega
          · obtain ⟨j, hjl, _, c, _⟩ := z
            have := hj j (by omega); omega
        | succ d ih =>
          intro i hi hj
          unfold locG
          by_cases c1 : cE px py R x y i < 0
          · rw [if_pos c1]
            exact ⟨fun _ => rfl, fun z => absurd (Or.inr ⟨i, by omega, c1⟩) z⟩
          · rw [if_neg c1]
            by_cases c2 : cE px py R x y i = 0
            · rw [if_pos c2]
              by_cases b : bxE px py R x y i
              · rw [@if_pos _ (Classical.propDecidable _) b]
                have ha := (hG i (by omega) c2).1 b
                refine ⟨fun z => ?_, fun _ => ⟨fun _ => rfl, fun z => absurd ⟨i, by omega, by omega, c2, b⟩ z⟩⟩
                rcases z with z | ⟨j, hjl, c⟩
                · omega
                · have := ha j hjl; omega
              · rw [@if_neg _ (Classical.propDecidable _) b]
                have ha := (hG i (by omega) c2).2 b
                exact ⟨fun _ => rfl, fun z => absurd (Or.inr ha) z⟩
            · rw [if_neg c2]
              exact ih (i + 1) (by omega) (fun j hjl => by
                by_cases e : j = i
                · rw [e]; omega
                · exact hj j (by omega))
      exact key R.length 0 (by omega) (fun j hj => by omega)
    · have ho : oP px py R x y R.length := Or.inl (by omega)
      refine ⟨fun _ => ?_, fun z => absurd ho z⟩
      rcases (show R.length = 0 ∨ R.length = 1 by omega) with e | e
      · rw [e]; unfold locG; rw [if_pos e]
      · rw [e]
        have n0 : nxt 1 0 = 0 := rfl
        have c0 : cE px py R x y 0 = 0 := by unfold cE; rw [e, n0]; exact cr_uu _ _ _ _
        unfold locG
        rw [if_neg (by omega), if_pos c0]
        apply @if_neg _ (Classical.propDecidable _)
        intro b
        apply hc
        unfold bxE bxP btwI at b
        rw [e, n0] at b
        exact ⟨0, by omega, by rw [I_eq]; omega, by rw [I_eq]; omega⟩
set_option maxHeartbeats 2000000 in
theorem s_whereOf {pd px py mx my mi mr mo mc mg : Nat → Int32} {mf mt md mk mh x y : Int32} {n : Nat} (hW : WF pd px py n) (hV : MV pd px py n mx my mi) (hG : GEO px py (ringL n px py)) (h1 : inR x) (h2 : inR y) {K : Int32 → (Nat → Int32) → (Nat → Int32) → Int32 → Int32 → Int32 → (Nat → Int32) → Int32 → (Nat → Int32) → Int32 → Prop}
    (h : ∀ mr' mo' f t d mc' mk' mg', RK pd n mr' mo' → rp pd mg' (ringL n px py) → K (locS px py (ringL n px py) x y) mr' mo' f t d mc' mk' mg' (nI (ringL n px py).length)) : wp_X6_whereOf mx my mi (nI n) mr mo mf mt md mc mk mg mh x y K := by
  have hn := hW.1
  have hin := hW.2.2.2.2
  unfold wp_X6_whereOf
  refine s_layRound hW hV (fun mr' mo' f t dd mc' mk' mg' hr hrp => ?_)
  have hk := h mr' mo' f t dd mc' mk' mg' hr hrp
  have hR := ring_nd n px py
  clear h
  generalize ringL n px py = R at *
  have hle := nd_le hR
  have key : ∀ (d i : Nat) (o e : Bool), i + d = R.length → (∀ j, j < i → ¬ (px (atl R j) = x ∧ py (atl R j) = y)) → (o = true ↔ oP px py R x y i) → (e = true ↔ eP px py R x y i) → wp_X6_whereOf_24 mx my mi (nI n) x y K mr' mo' f t dd mc' mk' mg' (nI R.length) (d + 1) (if o then 1 else 0) (if e then 1 else 0) (nI i) := by
    intro d
    induction d with
    | zero =>
      intro i o e hi hj ho he
      refine wp_X6_whereOf_24_s ?_
      unfold wp_X6_whereOf_24b
      have hc : ¬ atC px py R x y := fun ⟨j, hjl, z⟩ => hj j (by omega) z
      rw [locS_n hc] at hk
      have fin := loc_fin hG hc
      rw [show i = R.length by omega] at ho he
      refine ⟨fun _ => ?_, fun c => absurd ((n_le (by omega) (by omega)).mpr (by omega)) c⟩
      rw [show (2 : Int32) = nI 2 from rfl, n_eq (by omega) (by omega)]
      refine ⟨fun hL => ⟨fun q => ⟨fun q2 => ?_, fun q2 => ?_⟩, fun q => ?_⟩, fun hL => ⟨fun q => ?_, fun q => ?_⟩⟩
      · have o1 : ¬ oP px py R x y R.length := fun z => by rw [if_pos (ho.mpr z)] at q; exact one_ne q
        have e1 : ¬ eP px py R x y R.length := fun z => by rw [if_pos (he.mpr z)] at q2; exact one_ne q2
        rw [((fin.2 hL).2 o1).2 e1] at hk; exact hk
      · have o1 : ¬ oP px py R x y R.length := fun z => by rw [if_pos (ho.mpr z)] at q; exact one_ne q
        have e1 : eP px py R x y R.length := by
          apply he.mp
          cases e with
          | true => rfl
          | false => exact absurd rfl q2
        rw [((fin.2 hL).2 o1).1 e1] at hk; exact hk
      · have o1 : oP px py R x y R.length := by
          apply ho.mp
          cases o with
          | true => rfl
          | false => exact absurd rfl q
        rw [(fin.2 hL).1 o1] at hk; exact hk
      · have e1 : ¬ eP px py R x y R.length := fun z => by rw [if_pos (he.mpr z)] at q; exact one_ne q
        rw [(fin.1 hL).2 e1] at hk; exact hk
      · have e1 : eP px py R x y R.length := by
          apply he.mp
          cases e with
          | true => rfl
          | false => exact absurd rfl q
        rw [(fin.1 hL).1 e1] at hk; exact hk
    | succ d ih =>
      intro i o e hi hj ho he
      refine wp_X6_whereOf_24_s ?_
      unfold wp_X6_whereOf_24b
      have nl : nxt R.length i < R.length := by unfold nxt; split <;> omega
      have g := hR.1 _ (atl_mem (l := R) (i := i) (by omega))
      have gn := hR.1 _ (atl_mem nl)
      have hmod : (i + 1) % R.length = nxt R.length i := by
        unfold nxt
        split
        · exact Nat.mod_eq_of_lt (by assumption)
        · rw [show i + 1 = R.length by omega, Nat.mod_self]
      have hrem : nI (i + 1) - nI (i + 1) / nI R.length * nI R.length = nI (nxt R.length i) := by
        rw [pk_rem (by omega) (by omega) (by omega), hmod]
      rw [nI_1, hrem, n_cl (i := i) (by omega), n_cl (i := nxt R.length i) (by omega), rp_at hrp (i := i) (by omega), rp_at hrp nl, pd_mx hV g, pd_my hV g]
      have go : ¬ (px (atl R i) = x ∧ py (atl R i) = y) → wp_X6_whereOf_82 mx my mi (nI n) x y K (wp_X6_whereOf_24 mx my mi (nI n) x y K mr' mo' f t dd mc' mk' mg' (nI R.length) (d + 1)) mr' mo' f t dd mc' mk' mg' (nI R.length) (if o then 1 else 0) (if e then 1 else 0) (nI i) (pd (atl R i)) (pd (atl R (nxt R.length i))) := by
        intro hnc
        have hj2 : ∀ j, j < i + 1 → ¬ (px (atl R j) = x ∧ py (atl R j) = y) := fun j hjl => by
          by_cases q : j = i
          · rw [q]; exact hnc
          · exact hj j (by omega)
        unfold wp_X6_whereOf_82
        refine ⟨pd_in hW g, pd_in hW g, pd_in hW gn, pd_in hW gn, ?_⟩
        unfold wp_X6_cross
        rw [pd_mx hV g, pd_my hV g, pd_mx hV gn, pd_my hV gn]
        have ew := w_cross (hin _ g).1 (hin _ g).2 (hin _ gn).1 (hin _ gn).2 h1 h2
        have ew2 : _ = cE px py R x y i := ew
        dsimp only
        have tail : ∀ (o2 : Bool), (o2 = true ↔ oP px py R x y (i + 1)) → ∀ (w : Int64), w.toInt = cE px py R x y i → wp_X6_whereOf_139 mx my mi (nI n) x y K (wp_X6_whereOf_24 mx my mi (nI n) x y K mr' mo' f t dd mc' mk' mg' (nI R.length) (d + 1)) mr' mo' f t dd mc' mk' mg' (nI R.length) (if e then 1 else 0) (nI i) (pd (atl R i)) (pd (atl R (nxt R.length i))) w (if o2 then 1 else 0) := by
          intro o2 ho2 w hw
          unfold wp_X6_whereOf_139
          rw [nI_1, pd_mx hV g, pd_my hV g, pd_mx hV gn, pd_my hV gn, J_eq, hw, show (0 : Int64).toInt = 0 from rfl, show (1 : Int32) = nI 1 from rfl, n_le (a := R.length) (b := 1) (by omega) (by omega)]
          have nx : ∀ (e2 : Bool), (e2 = true ↔ eP px py R x y (i + 1)) → wp_X6_whereOf_24 mx my mi (nI n) x y K mr' mo' f t dd mc' mk' mg' (nI R.length) (d + 1) (if o2 then nI 1 else 0) (if e2 then nI 1 else 0) (nI (i + 1)) := fun e2 he2 => ih (i + 1) o2 e2 (by omega) hj2 ho2 he2
          have yes : eP px py R x y (i + 1) → wp_X6_whereOf_24 mx my mi (nI n) x y K mr' mo' f t dd mc' mk' mg' (nI R.length) (d + 1) (if o2 then nI 1 else 0) (nI 1) (nI (i + 1)) := fun z => nx true ⟨fun _ => z, fun _ => rfl⟩
          have no : ¬ eP px py R x y (i + 1) → wp_X6_whereOf_24 mx my mi (nI n) x y K mr' mo' f t dd mc' mk' mg' (nI R.length) (d + 1) (if o2 then nI 1 else 0) 0 (nI (i + 1)) := fun z => nx false ⟨fun q => absurd q (by decide), fun q => absurd q z⟩
          have st : eP px py R x y (i + 1) ↔ eP px py R x y i ∨ (1 < R.length ∧ cE px py R x y i = 0 ∧ bxE px py R x y i) := by
            unfold eP
            constructor
            · intro ⟨j, hjl, a, b, c⟩
              by_cases q : j = i
              · right; rw [← q]; exact ⟨a, b, c⟩
              · left; exact ⟨j, by omega, a, b, c⟩
            · intro z
              rcases z with ⟨j, hjl, a, b, c⟩ | z
              · exact ⟨j, by omega, a, b, c⟩
              · exact ⟨i, by omega, z⟩
          cases e with
          | true => exact ⟨fun _ => yes (st.mpr (Or.inl (he.mp rfl))), fun q => absurd q one_ne⟩
          | false =>
            have ne : ¬ eP px py R x y i := fun z => absurd (he.mpr z) (by decide)
            refine ⟨fun q => absurd rfl q, fun _ => ⟨fun q => no (fun z => ?_), fun q => ⟨fun q2 => no (fun z => ?_), fun q2 => ⟨pd_in hW g, pd_in hW gn, s_isBetween (fun bx => ⟨fun c => absurd c one_ne, fun _ => ⟨pd_in hW g, pd_in hW gn, s_isBetween (fun by_ => ⟨fun c => absurd c one_ne, fun _ => yes (st.mpr (Or.inr ⟨by omega, q2, bx, by_⟩))⟩) (fun by_ => ⟨fun _ => no (fun z => ?_), fun c => absurd rfl c⟩)⟩⟩) (fun bx => ⟨fun _ => no (fun z => ?_), fun c => absurd rfl c⟩)⟩⟩⟩⟩
            · rcases st.mp z with z | z
              · exact ne z
              · omega
            · rcases st.mp z with z | z
              · exact ne z
              · exact q2 z.2.1
            · rcases st.mp z with z | z
              · exact ne z
              · exact by_ z.2.2.2
            · rcases st.mp z with z | z
              · exact ne z
              · exact bx z.2.2.1
        have so : oP px py R x y (i + 1) ↔ oP px py R x y i ∨ cE px py R x y i < 0 := by
          unfold oP
          constructor
          · intro z
            rcases z with z | ⟨j, hjl, c⟩
            · left; left; exact z
            · by_cases q : j = i
              · right; rw [← q]; exact c
              · left; right; exact ⟨j, by omega, c⟩
          · intro z
            rcases z with z | z
            · rcases z with z | ⟨j, hjl, c⟩
              · left; exact z
              · right; exact ⟨j, by omega, c⟩
            · right; exact ⟨i, by omega, z⟩
        refine ⟨fun q => tail true ⟨fun _ => so.mpr (Or.inl (ho.mp ?_)), fun _ => rfl⟩ _ ew2, fun q => ?_⟩
        · cases o with
          | true => rfl
          | false => exact absurd rfl q
        · have on : ¬ oP px py R x y i := fun z => by rw [if_pos (ho.mpr z)] at q; exact one_ne q
          rw [J_le, ew2, show (0 : Int64).toInt = 0 from rfl]
          refine ⟨fun c => tail false ⟨fun z => absurd z (by decide), fun z => ?_⟩ _ ew2, fun c => tail true ⟨fun _ => so.mpr (Or.inr (by omega)), fun _ => rfl⟩ _ ew2⟩
          rcases so.mp z with z | z
          · exact absurd z on
          · omega
      refine ⟨fun c => by rw [n_le (by omega) (by omega)] at c; omega, fun _ => ⟨n_in (by omega) (by omega), ?_, n_in (by omega) (by omega), pd_in hW g, fun c => go (fun z => c z.1), fun c => ⟨pd_in hW g, fun c2 => go (fun z => c2 z.2), fun c2 => ?_⟩⟩⟩
      · intro z
        rw [show (0 : Int32) = nI 0 from rfl, n_eq (by omega) (by omega)] at z
        omega
      · rw [locS_c ⟨i, by omega, c, c2⟩] at hk
        exact hk
  rw [show (2 : Int32) = nI 2 from rfl, n_le (by omega) (by omega)]
  refine ⟨fun c => ⟨R.length + 1, key R.length 0 false false (by omega) (fun j hj => by omega) ⟨fun z => absurd z (by decide), fun z => ?_⟩ ⟨fun z => absurd z (by decide), fun z => ?_⟩⟩, fun c => ⟨R.length + 1, key R.length 0 true false (by omega) (fun j hj => by omega) ⟨fun _ => Or.inl (by omega), fun _ => rfl⟩ ⟨fun z => absurd z (by decide), fun z => ?_⟩⟩⟩
  · rcases z with z | ⟨j, hj, _⟩
    · omega
    · omega
  · obtain ⟨j, hj, _⟩ := z
    omega
  · obtain ⟨j, hj, _⟩ := z
    omega
