theorem IMJ_fr {ud ux uy kp mp me kp' mp' me' : Nat → Int32} {un : Int32} {mS mS' : Nat → Int64} {j : Nat} (h : IMJ me mS kp mp j ud ux uy un) (h1 : ∀ x, 64 * j ≤ x → x < 64 * j + 64 → me' x = me x) (h2 : mS' j = mS j) (h3 : kp' j = kp j) (h4 : mp' j = mp j) : IMJ me' mS' kp' mp' j ud ux uy un := by
  rcases h with ⟨a, b⟩ | ⟨a, b, m, e, hI⟩
  · exact Or.inl ⟨h3.trans a, h4.trans b⟩
  · exact Or.inr ⟨h3.trans a, h4.trans b, m, e, IM_fr hI h1 h2⟩
theorem j_image {pd px py kp ud ux uy wd wx wy mx my mi me mp : Nat → Int32} {un wn : Int32} {mS : Nat → Int64} {n : Nat} (hW : WF pd px py n) (hV : MV pd px py n mx my mi) (J0 : IMJ me mS kp mp 0 ud ux uy un) (J1 : IMJ me mS kp mp 1 wd wx wy wn) (w : Int32) {V : Prop} (hv : V)
    {F : (Nat → Int32) → (Nat → Int32) → (Nat → Int32) → (Nat → Int32) → Int32 → (Nat → Int32) → (Nat → Int32) → (Nat → Int32) → Int32 → (Nat → Int32) → (Nat → Int64) → (Nat → Int32) → Prop}
    (hF : ∀ kp' ud' ux' uy' un' wd' wx' wy' wn' me' mS' mp', IMJ me' mS' kp' mp' 0 ud' ux' uy' un' → IMJ me' mS' kp' mp' 1 wd' wx' wy' wn' → F kp' ud' ux' uy' un' wd' wx' wy' wn' me' mS' mp') :
    wp_X5_image pd px py (nI n) kp ud ux uy un wd wx wy wn w (fun r kp' ud' ux' uy' un' wd' wx' wy' wn' => (V ∧ wp_X6_image mx my mi me mS mp w (fun r2 me' mS' mp' => (r = r2 → F kp' ud' ux' uy' un' wd' wx' wy' wn' me' mS' mp') ∧ (¬ r = r2 → False)))) := by
  have hn := hW.1
  have J0' := J0
  have J1' := J1
  unfold wp_X5_image
  have cpU : ∀ {K : (Nat → Int32) → (Nat → Int32) → (Nat → Int32) → Int32 → Prop}, (∀ (qd qx qy : Nat → Int32), (∀ k, k < n → e3 qd qx qy k pd px py k) → K qd qx qy (nI n)) → wp_X3_copyFrom ud ux uy un pd px py (nI n) K := fun hK => s_copyFrom hn hK
  have cpW : ∀ {K : (Nat → Int32) → (Nat → Int32) → (Nat → Int32) → Int32 → Prop}, (∀ (qd qx qy : Nat → Int32), (∀ k, k < n → e3 qd qx qy k pd px py k) → K qd qx qy (nI n)) → wp_X3_copyFrom wd wx wy wn pd px py (nI n) K := fun hK => s_copyFrom hn hK
  refine s_isImage (fun s hs es => ⟨fun _ => ⟨fun e0 => ?_, fun e0 => ⟨?_, ?_⟩⟩, fun c => absurd c one_ne⟩) (fun a b => ⟨fun c => absurd rfl c, fun _ => ⟨hv, ?_⟩⟩)
  · have e1 : w = nI 0 := e0
    subst e1
    refine cpU (fun qd qx qy he => ⟨n_in (by omega) (by omega), hv, m_image (by omega) (fun me' mS' g1 g2 g3 => ⟨fun _ => hF _ _ _ _ _ _ _ _ _ _ _ _ ?_ ?_, fun c => c rfl⟩)⟩)
    · rw [n_cl (by omega), nar_1]
      exact Or.inr ⟨up_s, up_s, n, rfl, IM_of hW hV he g1⟩
    · rw [n_cl (by omega), nar_1]
      exact IMJ_fr J1 (fun x a b => g2 x (by omega)) (g3 1 (by omega)) (up_n (by omega)) (up_n (by omega))
  · rw [es]
    rcases Nat.lt_or_ge s 1 with q | q
    · exact absurd (by rw [es, show s = 0 by omega]; rfl) e0
    · rw [show s = 1 by omega]; rfl
  · have e1 : w = nI 1 := by
      rcases Nat.lt_or_ge s 1 with q | q
      · exact absurd (by rw [es, show s = 0 by omega]; rfl) e0
      · rw [es, show s = 1 by omega]
    subst e1
    refine cpW (fun qd qx qy he => ⟨n_in (by omega) (by omega), hv, m_image (by omega) (fun me' mS' g1 g2 g3 => ⟨fun _ => hF _ _ _ _ _ _ _ _ _ _ _ _ ?_ ?_, fun c => c rfl⟩)⟩)
    · rw [n_cl (by omega), nar_1]
      exact IMJ_fr J0 (fun x a b => g2 x (by omega)) (g3 0 (by omega)) (up_n (by omega)) (up_n (by omega))
    · rw [n_cl (by omega), nar_1]
      exact Or.inr ⟨up_s, up_s, n, rfl, IM_of hW hV he g1⟩
  · unfold wp_X6_image
    exact s_sideM (fun s hs es => (sd_no hs es a b).elim) (fun _ _ => ⟨fun c => absurd rfl c, fun _ => ⟨fun _ => hF _ _ _ _ _ _ _ _ _ _ _ _ J0 J1, fun c => c rfl⟩⟩)
theorem m_restore3 {mx my mi me mp : Nat → Int32} {mS : Nat → Int64} {mn : Int32} {j : Nat} (hj : j ≤ 1) (hp : mp j = 0) {K : Int32 → (Nat → Int32) → (Nat → Int32) → (Nat → Int32) → Int32 → Prop} (h : K (-3) mx my mi mn) : wp_X6_restore mx my mi mn me mS mp (nI j) K := by
  unfold wp_X6_restore
  refine s_sideM (fun s hs es => ⟨fun _ => ⟨n_in (by omega) (by omega), fun c => ?_, fun _ => h⟩, fun c => absurd c one_ne⟩) (fun a b => (sd_no hj rfl a b).elim)
  rw [n_cl (by omega), hp] at c
  exact absurd rfl c
theorem j_restore {pd px py qf qs kp ud ux uy wd wx wy mx my mi me mp : Nat → Int32} {pn mn un wn : Int32} {mS : Nat → Int64} (J0 : IMJ me mS kp mp 0 ud ux uy un) (J1 : IMJ me mS kp mp 1 wd wx wy wn) (w : Int32) {V : Prop} (hv : V)
    {F : (Nat → Int32) → (Nat → Int32) → (Nat → Int32) → Int32 → (Nat → Int32) → (Nat → Int32) → (Nat → Int32) → (Nat → Int32) → (Nat → Int32) → Int32 → Prop}
    (h0 : F pd px py pn qf qs mx my mi mn) (h1 : ∀ qd qx qy m qf' qs' mx' my' mi', WF qd qx qy m → PT qf' qs' m → MV qd qx qy m mx' my' mi' → F qd qx qy (nI m) qf' qs' mx' my' mi' (nI m)) :
    wp_X5_restore pd px py pn qf qs kp ud ux uy un wd wx wy wn w (fun r pd' px' py' pn' qf' qs' => (V ∧ wp_X6_restore mx my mi mn me mS mp w (fun r2 mx' my' mi' mn' => (r = r2 → F pd' px' py' pn' qf' qs' mx' my' mi' mn') ∧ (¬ r = r2 → False)))) := by
  unfold wp_X5_restore
  refine s_isImage (fun s hs es => ⟨fun _ => ?_, fun c => absurd c one_ne⟩) (fun a b => ⟨fun c => absurd rfl c, fun _ => ⟨hv, ?_⟩⟩)
  · subst es
    have hsj : s = 0 ∨ s = 1 := by omega
    rw [n_cl (by omega)]
    refine ⟨n_in (by omega) (by omega), fun c => ?_, fun c => ?_⟩
    · rcases hsj with q | q
      · subst q
        rcases J0 with ⟨a, b⟩ | ⟨a, b, m, e, hI⟩
        · exact absurd a c
        · subst e
          refine ⟨fun _ => s_copyFrom hI.1.1 (fun qd qx qy he => s_split hI.1.1 (fun qf' qs' hT => ⟨hv, m_restore (by omega) b hI he (fun mx' my' mi' hV => ⟨fun _ => h1 _ _ _ _ _ _ _ _ _ (copy_wf hI.1 he) hT hV, fun c => c rfl⟩)⟩)), fun z => absurd rfl z⟩
      · subst q
        rcases J1 with ⟨a, b⟩ | ⟨a, b, m, e, hI⟩
        · exact absurd a c
        · subst e
          refine ⟨fun z => absurd z (by decide), fun _ => ⟨rfl, s_copyFrom hI.1.1 (fun qd qx qy he => s_split hI.1.1 (fun qf' qs' hT => ⟨hv, m_restore (by omega) b hI he (fun mx' my' mi' hV => ⟨fun _ => h1 _ _ _ _ _ _ _ _ _ (copy_wf hI.1 he) hT hV, fun c => c rfl⟩)⟩))⟩⟩
    · refine ⟨hv, m_restore3 hs ?_ ⟨fun _ => h0, fun c => c rfl⟩⟩
      rcases hsj with q | q
      · subst q
        rcases J0 with ⟨a, b⟩ | ⟨a, b, m, e, hI⟩
        · exact b
        · rw [a] at c; exact absurd c one_ne
      · subst q
        rcases J1 with ⟨a, b⟩ | ⟨a, b, m, e, hI⟩
        · exact b
        · rw [a] at c; exact absurd c one_ne
  · unfold wp_X6_restore
    exact s_sideM (fun s hs es => (sd_no hs es a b).elim) (fun _ _ => ⟨fun c => absurd rfl c, fun _ => ⟨fun _ => h0, fun c => c rfl⟩⟩)
