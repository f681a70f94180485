set_option maxHeartbeats 8000000 in
set_option maxRecDepth 100000 in
theorem whole_start {p : Program} {e : Env} {s : State} {m : MethodId} {below : List Frame} {meth : Method} {c : Code} (l : Launch) (hflags : l.flags = flags0) {b L : Nat} {xs : Nat → Int32} (hL : L ≤ 2048) (C0 : lw_At p s m meth c b L xs) : W p l e room_1 s m #[Value.ref b] below meth c s.heap [] 0 0 (lw_Z below #[Value.ref b] s) (entryFrame m ([Value.ref b] : List Value).toArray 4) := by
  obtain ⟨hx, hb, hr, hml, hown, hts, hX, hbl, hlocks, hgv⟩ := id C0
  have hb : c.code = cL_law := hb
  have hown : s.vm.findClass RL = some m.cls := hown
  obtain ⟨A, hAe⟩ : ∃ A : Nat → Prop, A = fun q : Nat => s.heap.size ≤ q := ⟨_, rfl⟩
  have hA : ∀ q : Nat, s.heap.size ≤ q → A q := fun q h => by rw [hAe]; exact h
  obtain ⟨k0, iS0, hKn0⟩ := u_known (C := RX0) (T := TX0) (N := 2) (n := 2) hts lin_X0 (hts (.instantiable RX0 2) lq_14)
  obtain ⟨k1, iS1, hKn1⟩ := u_known (C := RX2) (T := TX2) (N := 2) (n := 2) hts lin_X2 (hts (.instantiable RX2 2) lq_15)
  obtain ⟨k2, iS2, hKn2⟩ := u_known (C := RX3) (T := TX3) (N := 4) (n := 4) hts lin_X3 (hts (.instantiable RX3 4) lq_16)
  obtain ⟨k3, iS3, hKn3⟩ := u_known (C := RX4) (T := TX4) (N := 2) (n := 2) hts lin_X4 (hts (.instantiable RX4 2) lq_17)
  obtain ⟨k4, iS4, hKn4⟩ := u_known (C := RX5) (T := TX5) (N := 7) (n := 7) hts lin_X5 (hts (.instantiable RX5 7) lq_1)
  obtain ⟨k5, iS5, hKn5⟩ := u_known (C := RX6) (T := TX6) (N := 16) (n := 16) hts lin_X6 (hts (.instantiable RX6 16) lq_4)
  obtain ⟨D, hKc⟩ : ∃ (D : va_G), ∀ (k : Nat) (q : vw_C), vwCl[k]? = some q → u_Kn s q.1 q.2.1 q.2.2 (D.1 k) (D.2 k) := by
    refine ⟨(fun k => match k with | 0 => k0 | 1 => k1 | 2 => k2 | 3 => k3 | 4 => k4 | _ => k5, fun k => match k with | 0 => iS0 | 1 => iS1 | 2 => iS2 | 3 => iS3 | 4 => iS4 | _ => iS5), ?_⟩
    intro k q hq
    match k, hq with
    | 0, hq => cases hq; exact hKn0
    | 1, hq => cases hq; exact hKn1
    | 2, hq => cases hq; exact hKn2
    | 3, hq => cases hq; exact hKn3
    | 4, hq => cases hq; exact hKn4
    | 5, hq => cases hq; exact hKn5
    | k + 6, hq => simp [vwCl] at hq
  obtain ⟨cI, zI, yI, fI, gI, hI⟩ := Cond.arrayClass_spec (hts (.arrayClass .int) lq_10)
  obtain ⟨cJ, zJ, yJ, fJ, gJ, hJ⟩ := Cond.arrayClass_spec (hts (.arrayClass .long) lq_11)
  obtain ⟨cZ, zZ, yZ, fZ, gZ, hZ⟩ := Cond.arrayClass_spec (hts (.arrayClass .boolean) lq_12)
  obtain ⟨yO, cO, zO, eO, -, gO, hO, fO⟩ := Cond.arrayOver_spec (hts (.arrayOver (.object "LiveHull$Points")) lq_13)
  have hK : va_K D vwCl (tys4 cI cJ cZ cO) s := by
    refine ⟨hKc, fun k q hq => ?_⟩
    match k, hq with
    | 0, hq => cases hq; exact ⟨fun n z => ⟨fun k h => (by cases h), zI, gI, yI, hI⟩, fI⟩
    | 1, hq => cases hq; exact ⟨fun n z => ⟨fun k h => (by cases h), zJ, gJ, yJ, hJ⟩, fJ⟩
    | 2, hq => cases hq; exact ⟨fun n z => ⟨fun k h => (by cases h), zZ, gZ, yZ, hZ⟩, fZ⟩
    | 3, hq => cases hq; exact ⟨fun n z => ⟨fun k h => (by cases h), zO, gO, yO, hO⟩, zO, yO, gO, hO, eO, fO⟩
    | k + 4, hq => simp [tys4] at hq
  have hN : ns_ s := ⟨va_Nw.of rfl (hts (.methodLinkNest RX5 9 yX3_init "LiveHull") lq_18), va_Nw.of rfl (hts (.methodLinkNest RX5 18 yX2_init "LiveHull") lq_19), va_Nw.of rfl (hts (.methodLinkNest RX5 25 yX0_init "LiveHull") lq_20), va_Nw.of rfl (hts (.methodLinkNest RX5 35 yX4_init "LiveHull") lq_21), va_Nw.of rfl (hts (.methodLinkNest RX0 3 yX1_init "LiveHull") lq_22), va_Nw.of rfl (hts (.methodLinkNest RX4 3 yX1_init "LiveHull") lq_23), va_AO.of (hts (.arrayOver (.object "LiveHull$Points")) lq_13)⟩
  have hS : va_S A s.heap s.heap [] := va_S.rf
  have hP : va_P D vwCl [] s.heap := fun k q h => by simp at h
  have hD : va_D A [] := ⟨fun i j p q h => by simp at h, fun k q h => by simp at h⟩
  have hl := lv_entry ([.ref b]) (n := 4) (Nat.le_of_ble_eq_true rfl)
  rw [lg_entry_eq]
  generalize (lg_sl ([.ref b]) ++ List.replicate (4 - (lg_sl ([.ref b])).length) Slot.unset).toArray = ls at hl ⊢
  have hl : lv_has ls 4 [(0, .ref b)] := hl
  refine va_new (ci := 4) (fs := [.null, .null, .null, .null, .null, .null, .null]) (C := RX5) (T := TX5) (N := 7) hx hb hts lin_X5 tyX5 tyX5_ok hown (hts (.classLink RL 7 RX5) lq_0) (hts (.instantiable RX5 7) lq_1) (hts (.initialized RX5) lq_2) hK hP hD hS hA rfl (fun j hj => by rcases (show j = 0 ∨ j = 1 ∨ j = 2 ∨ j = 3 ∨ j = 4 ∨ j = 5 ∨ j = 6 by omega) with rfl | rfl | rfl | rfl | rfl | rfl | rfl <;> rfl) (Nat.le_of_ble_eq_true rfl) (Nat.le_of_ble_eq_true rfl) dL_law_0 (fun HA H hP hD hS => ?_)
  have hP : va_P D vwCl [(HA, .inr (4, [.null, .null, .null, .null, .null, .null, .null]))] H := hP
  have hD : va_D A [(HA, .inr (4, [.null, .null, .null, .null, .null, .null, .null]))] := hD
  refine W.widen (k := 1) (n := 7) (Nat.le_of_ble_eq_true rfl) (Nat.le_of_ble_eq_true rfl) ?_
  refine lv_dup hx hb dL_law_3 rfl ?_
  refine cl_In (rest := [.ref HA]) ⟨hx, hb, hml, hown, hts⟩ (c_X5_init l D cI cJ cZ cO HA) (cwI 0 hts gl_X5_init rfl rfl rfl (hts (.initialized RX5) lq_2) (hts (.methodLink RL 9 yX5_init) lq_6) (hts (.instanceMethod yX5_init) lq_8) rfl (by decide +kernel) ⟨Nat.le_of_ble_eq_true rfl, Nat.le_of_ble_eq_true rfl⟩) hN hK hP hD hS hA [0] [] rfl (by decide) rfl (by decide) (by decide) rfl rfl rfl hl.1 rfl (Nat.le_of_ble_eq_true rfl) dL_law_4 ⟨Nat.le_of_ble_eq_true rfl, Nat.le_of_ble_eq_true rfl⟩ (fun u H locs hP hD hS => ?_)
  obtain ⟨pA, pAd, pAx, pAy, qA, qAf, qAs, tA, tAr, gA, gAr, rA, rAr, IA, uA, uAd, uAx, uAy, wA, wAd, wAx, wAy, KA⟩ := u
  have hP : va_P D vwCl [(HA, .inr (4, [.ref pA, .ref qA, .ref tA, .ref gA, .ref rA, .ref IA, .ref KA])), (pA, .inr (2, [.ref pAd, .ref pAx, .ref pAy, .int 0])), (pAd, .inl (cI, 32, .inl (fun _ => 0))), (pAx, .inl (cI, 32, .inl (fun _ => 0))), (pAy, .inl (cI, 32, .inl (fun _ => 0))), (qA, .inr (1, [.ref qAf, .ref qAs])), (qAf, .inl (cI, 64, .inl (fun _ => 0))), (qAs, .inl (cI, 64, .inl (fun _ => 0))), (tA, .inr (0, [.ref tAr, .int 0])), (tAr, .inl (cI, 32, .inl (fun _ => 0))), (gA, .inr (0, [.ref gAr, .int 0])), (gAr, .inl (cI, 32, .inl (fun _ => 0))), (rA, .inr (3, [.ref rAr, .int 0])), (rAr, .inl (cI, 32, .inl (fun _ => 0))), (IA, .inl (cO, 2, .inr (.inr (.inr (.inr (va_up (va_up (fun _ => none) 0 (some uA)) 1 (some wA))))))), (uA, .inr (2, [.ref uAd, .ref uAx, .ref uAy, .int 0])), (uAd, .inl (cI, 32, .inl (fun _ => 0))), (uAx, .inl (cI, 32, .inl (fun _ => 0))), (uAy, .inl (cI, 32, .inl (fun _ => 0))), (wA, .inr (2, [.ref wAd, .ref wAx, .ref wAy, .int 0])), (wAd, .inl (cI, 32, .inl (fun _ => 0))), (wAx, .inl (cI, 32, .inl (fun _ => 0))), (wAy, .inl (cI, 32, .inl (fun _ => 0))), (KA, .inl (cZ, 2, .inl (fun _ => 0)))] H := hP
  have hD : va_D A [(HA, .inr (4, [.ref pA, .ref qA, .ref tA, .ref gA, .ref rA, .ref IA, .ref KA])), (pA, .inr (2, [.ref pAd, .ref pAx, .ref pAy, .int 0])), (pAd, .inl (cI, 32, .inl (fun _ => 0))), (pAx, .inl (cI, 32, .inl (fun _ => 0))), (pAy, .inl (cI, 32, .inl (fun _ => 0))), (qA, .inr (1, [.ref qAf, .ref qAs])), (qAf, .inl (cI, 64, .inl (fun _ => 0))), (qAs, .inl (cI, 64, .inl (fun _ => 0))), (tA, .inr (0, [.ref tAr, .int 0])), (tAr, .inl (cI, 32, .inl (fun _ => 0))), (gA, .inr (0, [.ref gAr, .int 0])), (gAr, .inl (cI, 32, .inl (fun _ => 0))), (rA, .inr (3, [.ref rAr, .int 0])), (rAr, .inl (cI, 32, .inl (fun _ => 0))), (IA, .inl (cO, 2, .inr (.inr (.inr (.inr (va_up (va_up (fun _ => none) 0 (some uA)) 1 (some wA))))))), (uA, .inr (2, [.ref uAd, .ref uAx, .ref uAy, .int 0])), (uAd, .inl (cI, 32, .inl (fun _ => 0))), (uAx, .inl (cI, 32, .inl (fun _ => 0))), (uAy, .inl (cI, 32, .inl (fun _ => 0))), (wA, .inr (2, [.ref wAd, .ref wAx, .ref wAy, .int 0])), (wAd, .inl (cI, 32, .inl (fun _ => 0))), (wAx, .inl (cI, 32, .inl (fun _ => 0))), (wAy, .inl (cI, 32, .inl (fun _ => 0))), (KA, .inl (cZ, 2, .inl (fun _ => 0)))] := hD
  refine W.widen (k := 24) (n := 543) (Nat.le_of_ble_eq_true rfl) (Nat.le_of_ble_eq_true rfl) ?_
  refine lv_astore_n (lv' := [(1, .ref HA), (0, .ref b)]) hx hb dL_law_7 rfl hl (by decide) rfl (fun ls hl => ?_)
  refine va_new (ci := 5) (fs := [.null, .null, .null, .int 0, .null, .null, .int 0, .int 0, .int 0, .null, .int 0, .null, .int 0, .null, .null, .null]) (C := RX6) (T := TX6) (N := 16) hx hb hts lin_X6 tyX6 tyX6_ok hown (hts (.classLink RL 10 RX6) lq_3) (hts (.instantiable RX6 16) lq_4) (hts (.initialized RX6) lq_5) hK hP hD hS hA rfl (fun j hj => by rcases (show j = 0 ∨ j = 1 ∨ j = 2 ∨ j = 3 ∨ j = 4 ∨ j = 5 ∨ j = 6 ∨ j = 7 ∨ j = 8 ∨ j = 9 ∨ j = 10 ∨ j = 11 ∨ j = 12 ∨ j = 13 ∨ j = 14 ∨ j = 15 by omega) with rfl | rfl | rfl | rfl | rfl | rfl | rfl | rfl | rfl | rfl | rfl | rfl | rfl | rfl | rfl | rfl <;> rfl) (Nat.le_of_ble_eq_true rfl) (Nat.le_of_ble_eq_true rfl) dL_law_8 (fun mA H hP hD hS => ?_)
  have hP : va_P D vwCl [(HA, .inr (4, [.ref pA, .ref qA, .ref tA, .ref gA, .ref rA, .ref IA, .ref KA])), (pA, .inr (2, [.ref pAd, .ref pAx, .ref pAy, .int 0])), (pAd, .inl (cI, 32, .inl (fun _ => 0))), (pAx, .inl (cI, 32, .inl (fun _ => 0))), (pAy, .inl (cI, 32, .inl (fun _ => 0))), (qA, .inr (1, [.ref qAf, .ref qAs])), (qAf, .inl (cI, 64, .inl (fun _ => 0))), (qAs, .inl (cI, 64, .inl (fun _ => 0))), (tA, .inr (0, [.ref tAr, .int 0])), (tAr, .inl (cI, 32, .inl (fun _ => 0))), (gA, .inr (0, [.ref gAr, .int 0])), (gAr, .inl (cI, 32, .inl (fun _ => 0))), (rA, .inr (3, [.ref rAr, .int 0])), (rAr, .inl (cI, 32, .inl (fun _ => 0))), (IA, .inl (cO, 2, .inr (.inr (.inr (.inr (va_up (va_up (fun _ => none) 0 (some uA)) 1 (some wA))))))), (uA, .inr (2, [.ref uAd, .ref uAx, .ref uAy, .int 0])), (uAd, .inl (cI, 32, .inl (fun _ => 0))), (uAx, .inl (cI, 32, .inl (fun _ => 0))), (uAy, .inl (cI, 32, .inl (fun _ => 0))), (wA, .inr (2, [.ref wAd, .ref wAx, .ref wAy, .int 0])), (wAd, .inl (cI, 32, .inl (fun _ => 0))), (wAx, .inl (cI, 32, .inl (fun _ => 0))), (wAy, .inl (cI, 32, .inl (fun _ => 0))), (KA, .inl (cZ, 2, .inl (fun _ => 0))), (mA, .inr (5, [.null, .null, .null, .int 0, .null, .null, .int 0, .int 0, .int 0, .null, .int 0, .null, .int 0, .null, .null, .null]))] H := hP
  have hD : va_D A [(HA, .inr (4, [.ref pA, .ref qA, .ref tA, .ref gA, .ref rA, .ref IA, .ref KA])), (pA, .inr (2, [.ref pAd, .ref pAx, .ref pAy, .int 0])), (pAd, .inl (cI, 32, .inl (fun _ => 0))), (pAx, .inl (cI, 32, .inl (fun _ => 0))), (pAy, .inl (cI, 32, .inl (fun _ => 0))), (qA, .inr (1, [.ref qAf, .ref qAs])), (qAf, .inl (cI, 64, .inl (fun _ => 0))), (qAs, .inl (cI, 64, .inl (fun _ => 0))), (tA, .inr (0, [.ref tAr, .int 0])), (tAr, .inl (cI, 32, .inl (fun _ => 0))), (gA, .inr (0, [.ref gAr, .int 0])), (gAr, .inl (cI, 32, .inl (fun _ => 0))), (rA, .inr (3, [.ref rAr, .int 0])), (rAr, .inl (cI, 32, .inl (fun _ => 0))), (IA, .inl (cO, 2, .inr (.inr (.inr (.inr (va_up (va_up (fun _ => none) 0 (some uA)) 1 (some wA))))))), (uA, .inr (2, [.ref uAd, .ref uAx, .ref uAy, .int 0])), (uAd, .inl (cI, 32, .inl (fun _ => 0))), (uAx, .inl (cI, 32, .inl (fun _ => 0))), (uAy, .inl (cI, 32, .inl (fun _ => 0))), (wA, .inr (2, [.ref wAd, .ref wAx, .ref wAy, .int 0])), (wAd, .inl (cI, 32, .inl (fun _ => 0))), (wAx, .inl (cI, 32, .inl (fun _ => 0))), (wAy, .inl (cI, 32, .inl (fun _ => 0))), (KA, .inl (cZ, 2, .inl (fun _ => 0))), (mA, .inr (5, [.null, .null, .null, .int 0, .null, .null, .int 0, .int 0, .int 0, .null, .int 0, .null, .int 0, .null, .null, .null]))] := hD
  refine W.widen (k := 25) (n := 559) (Nat.le_of_ble_eq_true rfl) (Nat.le_of_ble_eq_true rfl) ?_
  refine lv_dup hx hb dL_law_11 rfl ?_
  refine cl_In (rest := [.ref mA]) ⟨hx, hb, hml, hown, hts⟩ (c_X6_init l D cI cJ cZ cO mA) (cwI 0 hts gl_X6_init rfl rfl rfl (hts (.initialized RX6) lq_5) (hts (.methodLink RL 12 yX6_init) lq_7) (hts (.instanceMethod yX6_init) lq_9) rfl (by decide +kernel) ⟨Nat.le_of_ble_eq_true rfl, Nat.le_of_ble_eq_true rfl⟩) hN hK hP hD hS hA [24] [0, 1, 2, 3, 4, 5, 6, 7, 8, 9, 10, 11, 12, 13, 14, 15, 16, 17, 18, 19, 20, 21, 22, 23] rfl (by decide) rfl (by decide) (by decide) rfl rfl rfl hl.1 rfl (Nat.le_of_ble_eq_true rfl) dL_law_12 ⟨Nat.le_of_ble_eq_true rfl, Nat.le_of_ble_eq_true rfl⟩ (fun u H locs hP hD hS => ?_)
  obtain ⟨mAx, mAy, mAi, mAr, mAo, mAc, mAg, mAe, mAS, mAp⟩ := u
  have hP : va_P D vwCl [(HA, .inr (4, [.ref pA, .ref qA, .ref tA, .ref gA, .ref rA, .ref IA, .ref KA])), (pA, .inr (2, [.ref pAd, .ref pAx, .ref pAy, .int 0])), (pAd, .inl (cI, 32, .inl (fun _ => 0))), (pAx, .inl (cI, 32, .inl (fun _ => 0))), (pAy, .inl (cI, 32, .inl (fun _ => 0))), (qA, .inr (1, [.ref qAf, .ref qAs])), (qAf, .inl (cI, 64, .inl (fun _ => 0))), (qAs, .inl (cI, 64, .inl (fun _ => 0))), (tA, .inr (0, [.ref tAr, .int 0])), (tAr, .inl (cI, 32, .inl (fun _ => 0))), (gA, .inr (0, [.ref gAr, .int 0])), (gAr, .inl (cI, 32, .inl (fun _ => 0))), (rA, .inr (3, [.ref rAr, .int 0])), (rAr, .inl (cI, 32, .inl (fun _ => 0))), (IA, .inl (cO, 2, .inr (.inr (.inr (.inr (va_up (va_up (fun _ => none) 0 (some uA)) 1 (some wA))))))), (uA, .inr (2, [.ref uAd, .ref uAx, .ref uAy, .int 0])), (uAd, .inl (cI, 32, .inl (fun _ => 0))), (uAx, .inl (cI, 32, .inl (fun _ => 0))), (uAy, .inl (cI, 32, .inl (fun _ => 0))), (wA, .inr (2, [.ref wAd, .ref wAx, .ref wAy, .int 0])), (wAd, .inl (cI, 32, .inl (fun _ => 0))), (wAx, .inl (cI, 32, .inl (fun _ => 0))), (wAy, .inl (cI, 32, .inl (fun _ => 0))), (KA, .inl (cZ, 2, .inl (fun _ => 0))), (mA, .inr (5, [.ref mAx, .ref mAy, .ref mAi, .int 0, .ref mAr, .ref mAo, .int 0, .int 0, .int 0, .ref mAc, .int 0, .ref mAg, .int 0, .ref mAe, .ref mAS, .ref mAp])), (mAx, .inl (cI, 32, .inl (fun _ => 0))), (mAy, .inl (cI, 32, .inl (fun _ => 0))), (mAi, .inl (cZ, 32, .inl (fun _ => 0))), (mAr, .inl (cI, 32, .inl (fun _ => 0))), (mAo, .inl (cI, 32, .inl (fun _ => 0))), (mAc, .inl (cI, 34, .inl (fun _ => 0))), (mAg, .inl (cI, 34, .inl (fun _ => 0))), (mAe, .inl (cI, 128, .inl (fun _ => 0))), (mAS, .inl (cJ, 2, .inr (.inl (fun _ => 0)))), (mAp, .inl (cZ, 2, .inl (fun _ => 0)))] H := hP
  have hD : va_D A [(HA, .inr (4, [.ref pA, .ref qA, .ref tA, .ref gA, .ref rA, .ref IA, .ref KA])), (pA, .inr (2, [.ref pAd, .ref pAx, .ref pAy, .int 0])), (pAd, .inl (cI, 32, .inl (fun _ => 0))), (pAx, .inl (cI, 32, .inl (fun _ => 0))), (pAy, .inl (cI, 32, .inl (fun _ => 0))), (qA, .inr (1, [.ref qAf, .ref qAs])), (qAf, .inl (cI, 64, .inl (fun _ => 0))), (qAs, .inl (cI, 64, .inl (fun _ => 0))), (tA, .inr (0, [.ref tAr, .int 0])), (tAr, .inl (cI, 32, .inl (fun _ => 0))), (gA, .inr (0, [.ref gAr, .int 0])), (gAr, .inl (cI, 32, .inl (fun _ => 0))), (rA, .inr (3, [.ref rAr, .int 0])), (rAr, .inl (cI, 32, .inl (fun _ => 0))), (IA, .inl (cO, 2, .inr (.inr (.inr (.inr (va_up (va_up (fun _ => none) 0 (some uA)) 1 (some wA))))))), (uA, .inr (2, [.ref uAd, .ref uAx, .ref uAy, .int 0])), (uAd, .inl (cI, 32, .inl (fun _ => 0))), (uAx, .inl (cI, 32, .inl (fun _ => 0))), (uAy, .inl (cI, 32, .inl (fun _ => 0))), (wA, .inr (2, [.ref wAd, .ref wAx, .ref wAy, .int 0])), (wAd, .inl (cI, 32, .inl (fun _ => 0))), (wAx, .inl (cI, 32, .inl (fun _ => 0))), (wAy, .inl (cI, 32, .inl (fun _ => 0))), (KA, .inl (cZ, 2, .inl (fun _ => 0))), (mA, .inr (5, [.ref mAx, .ref mAy, .ref mAi, .int 0, .ref mAr, .ref mAo, .int 0, .int 0, .int 0, .ref mAc, .int 0, .ref mAg, .int 0, .ref mAe, .ref mAS, .ref mAp])), (mAx, .inl (cI, 32, .inl (fun _ => 0))), (mAy, .inl (cI, 32, .inl (fun _ => 0))), (mAi, .inl (cZ, 32, .inl (fun _ => 0))), (mAr, .inl (cI, 32, .inl (fun _ => 0))), (mAo, .inl (cI, 32, .inl (fun _ => 0))), (mAc, .inl (cI, 34, .inl (fun _ => 0))), (mAg, .inl (cI, 34, .inl (fun _ => 0))), (mAe, .inl (cI, 128, .inl (fun _ => 0))), (mAS, .inl (cJ, 2, .inr (.inl (fun _ => 0)))), (mAp, .inl (cZ, 2, .inl (fun _ => 0)))] := hD
  refine W.widen (k := 35) (n := 919) (Nat.le_of_ble_eq_true rfl) (Nat.le_of_ble_eq_true rfl) ?_
  refine lv_astore_n (lv' := [(2, .ref mA), (1, .ref HA), (0, .ref b)]) hx hb dL_law_15 rfl hl (by decide) rfl (fun ls hl => ?_)
  refine lv_iconst (v := 0) hx hb dL_law_16 (by decide) ?_
  refine lv_istore_n (lv' := [(3, .int 0), (2, .ref mA), (1, .ref HA), (0, .ref b)]) hx hb dL_law_17 rfl hl (by decide) rfl (fun ls hl => ?_)
  obtain ⟨k, hk⟩ := law_pure L xs hL
  exact law_loop l C0 D cI cJ cZ cO HA pA pAd pAx pAy qA qAf qAs tA tAr gA gAr rA rAr IA uA uAd uAx uAy wA wAd wAx wAy KA mA mAx mAy mAi mAr mAo mAc mAg mAe mAS mAp (va_up (va_up (fun _ => none) 0 (some uA)) 1 (some wA)) rfl rfl A hAe hK k (fun _ => 0) (fun _ => 0) (fun _ => 0) 0 (fun _ => 0) (fun _ => 0) (fun _ => 0) 0 (fun _ => 0) 0 (fun _ => 0) 0 (fun _ => 0) (fun _ => 0) (fun _ => 0) 0 (fun _ => 0) (fun _ => 0) (fun _ => 0) 0 (fun _ => 0) (fun _ => 0) (fun _ => 0) (fun _ => 0) 0 (fun _ => 0) (fun _ => 0) 0 0 0 (fun _ => 0) 0 (fun _ => 0) 0 (fun _ => 0) (fun _ => 0) (fun _ => 0) 0 hk H locs ls (hP.sub [0, 1, 2, 3, 4, 5, 6, 7, 8, 9, 10, 11, 12, 13, 14, 15, 16, 17, 18, 19, 20, 21, 22, 23, 24, 25, 26, 27, 28, 29, 30, 31, 32, 33, 34] rfl) (hD.sub [0, 1, 2, 3, 4, 5, 6, 7, 8, 9, 10, 11, 12, 13, 14, 15, 16, 17, 18, 19, 20, 21, 22, 23, 24, 25, 26, 27, 28, 29, 30, 31, 32, 33, 34] (by decide) rfl) hS (lv_sub hl [3, 2, 1, 0] rfl)
-- ===== YOUR PART ENDS =====
set_option maxHeartbeats 4000000 in
theorem lw_walk (l : Launch) (hflags : l.flags = flags0) (b : Addr) (xs : List Int32) : MetFree l x (headSpec (Jvm.Cond.code x code maxLocals ret :: tables_1) room_1) (lw_P b xs) (fun _ _ _ _ _ => True) lw_Q := by
  refine MetFree.of_bodyS (code := code) (maxLocals := maxLocals) (ret := ret) (by decide) ?_ ?_
  · intro args s m h hn
    obtain ⟨meth, c, h1, h2, h3, h4, h5, h6, -, -⟩ := Cond.code_spec hn (atoms_spec (ws := Jvm.Cond.code x code maxLocals ret :: tables_1) h _ List.mem_cons_self)
    exact ⟨meth, c, h1, h2, h3, h4, h5, h6⟩
  · intro p e s m args below meth c s₁ B hml0 hP _
    obtain ⟨rfl, hx, hbd, hgv⟩ := hP
    obtain ⟨scr, harrAt, hlist, hof, hsmall⟩ := hx
    obtain ⟨hcb, hkn, -, -⟩ := State.arrayAt?_spec harrAt
    have hown : s.vm.findClass R_law = some m.cls := findClass_of_methodNamed B.named
    have hts0 : ∀ c ∈ (Jvm.Cond.code x code maxLocals ret :: tables_1), c.before #[Value.ref b] s = true := atoms_spec (ws := Jvm.Cond.code x code maxLocals ret :: tables_1) B.pre
    have hts : ∀ w ∈ lw_tbl, w.before #[Value.ref b] s = true := k2_hts_sels lw_privs (fun w hw => hts0 w (List.mem_cons_of_mem _ hw)) lw_privs_ok
    have hml : c.maxLocals = 4 := B.maxLocals_eq (hts0 _ List.mem_cons_self)
    have X₀ : Stand p l e room_1 s m #[Value.ref b] below meth c s₁ [] 0 0 := Stand.of_body B
    have hh0 : s₁.heap = s.heap := by rw [B.state]; rfl
    have hsz : scr.slots.size = xs.length := by rw [← Array.length_toList, hlist, List.length_map]
    have hval : ∀ j : Nat, j < xs.length → scr.slots[j]? = some (.int (xs.getD j 0)) := fun j hj => by
      rw [← Array.getElem?_toList, hlist]
      simp [hj]
    have hbl : b < s.heap.size := (Array.getElem?_eq_some_iff.mp hcb).1
    have hX : va_X b xs.length (fun j => xs.getD j 0) s s.heap := ⟨scr, hcb, hof, hkn, hsz, hval⟩
    have K : W p l e room_1 s m #[Value.ref b] below meth c s₁.heap [] 0 0 (lw_Z below #[Value.ref b] s) (entryFrame m ([Value.ref b] : List Value).toArray 4) := by
      rw [hh0]
      exact whole_start l hflags hbd ⟨B.exec, B.bytes, B.returns, hml, hown, hts, hX, hbl, B.notSynchronized, hgv⟩
    obtain ⟨t, a1, o, b1, b2, b3⟩ := K s₁ rfl X₀
    exact ⟨t, o, a1, b1, b2, b3⟩
theorem lw_pre_spec {args : Array Value} {s : State} (h : (Jvm.Cond.and given_1 narrow_1).before args s = true) (hr : rest_1_c.before args s = true) : ∃ (b : Addr) (xs : List Int32), lw_P b xs args s := by
  have hs := flat_of_before _ h
  have hq := flat_of_before _ hr
  have hc : (Cond.count 1).before args s = true := hs _ (by decide +kernel)
  have harr : (Cond.arrayOf (.arg 0) .int).before args s = true := hs _ (by decide +kernel)
  have hle : (Cond.le (.length (.arg 0)) (.int 2048)).before args s = true := hs _ (by decide +kernel)
  have hlen : (Cond.isInt (.length (.arg 0))).before args s = true := hq _ (by decide +kernel)
  have hall : (Cond.all (.arg 0) (.isInt (.elem (.arg 0) (.index 0)))).before args s = true := hq _ (by decide +kernel)
  obtain ⟨b, xs, hb, hx⟩ := State.ints_of_pre rfl harr hlen hall
  have hsm : xs.length < 2 ^ 31 := hx.choose_spec.2.2.2
  have hev : (Term.length (.arg 0)).eval args s none [] s = some (.int xs.length.toInt32) := hx.length_eval hb
  have hv := Cond.le_ints hev (show (Term.int 2048).eval args s none [] s = some (.int 2048) from rfl)
  have hd : xs.length.toInt32 ≤ 2048 := by
    simpa [Cond.before, Cond.holds, hv] using hle
  have hN : xs.length ≤ 2048 := (Int32.ofNat_le_ofNat hsm (by decide)).mp (show Int32.ofNat xs.length ≤ Int32.ofNat 2048 from hd)
  exact ⟨b, xs, Cond.one_arg hc (show args[0]? = some (.ref b) from hb), hx, hN, h⟩
theorem lw_comes (l : Launch) (hflags : l.flags = flags0) : Comes l x (Jvm.Cond.code x code maxLocals ret :: tables_1) room_1 (fun tb e args s => Calls_1 tb e args s ∧ rest_1 tb e args s ∧ Pre_1 tb e args s)
    (fun _ _ args s o t => lw_Q args s o t) := by
  intro p e ha hc hk s m args below hf hfit hheap happ hpre
  obtain ⟨b, xs, hP⟩ := lw_pre_spec hpre.2.2 hpre.2.1
  obtain ⟨k, o, h1, h2, h3, hQ⟩ := lw_walk l hflags b xs p e ha hc hk s m args below hf ((Spec.applies_iff_loose hf).mp happ).1 hP trivial
  exact ⟨k, o, h1, h2, h3, hQ⟩
theorem lw_frame {s t : State} {o : Outcome} {args : Array Value} (h : Framed s o t [] 35 919) :
    Framed s o t (fieldLocs frame_1_writes args s ++ arrayLocs frame_1_arrays args s ++ staticLocs frame_1_statics s) 35 919 := h
theorem lw_limb (L : Cond) (hL : ∀ (args : Array Value) (s t : State), L.after args s (.returned (some (.int 1))) t = true) :
    ArmFor flags0 classFile x code maxLocals ret World_1 tables_1 room_1 Calls_1 rest_1 Pre_1
      (fun tb e a s o t => postC L tb e a s o t ∧ Framed s o t (fieldLocs frame_1_writes a s ++ arrayLocs frame_1_arrays a s ++ staticLocs frame_1_statics s) 35 919) := by
  intro l hflags _ _ p e ha hc hk s m args below hf hfit hheap happ hpre
  obtain ⟨k, o, h1, h2, h3, rfl, hF⟩ := lw_comes l hflags p e ha hc hk s m args below hf hfit hheap happ hpre
  exact ⟨k, _, h1, h2, h3, hL args s _, lw_frame hF⟩
theorem i_vc : Claimed_1_1 ∧ Claimed_1_2 := ⟨lw_limb limb_1_1 (fun args s t => by simp [limb_1_1, Cond.after, Cond.holds, Cond.value]), lw_limb limb_1_2 (fun args s t => Cond.after_iff.mpr (by
  first | (rw [show limb_1_2 = Cond.eq .result (.int 1) from rfl, Cond.eq_ints (x := 1) (y := 1) rfl rfl]; simp; done) | (simp [limb_1_2, Cond.value, Term.eval]; done)))⟩

