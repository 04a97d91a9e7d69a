/-! the law, from its entry to its loop -/
def xs_M (sh : aS) : aS := xs_9M (sh ++ [.inl 7])
def xp_M (P : aP) : aP := xp_9M (am_zP P 37)
def yp_0 : aP := am_zP (fun _ _ => none) 0
def ys_E : aS := xs_E [.inl 6]
def yp_E : aP := xp_E yp_0
theorem yp_0_pc : am_pc yp_0 1 := am_pc.z (fun _ _ _ h => nomatch h)
theorem ys_E_len : ys_E.length = 37 := by decide +kernel
theorem ys_M_len : (xs_M ys_E).length = 47 := by decide +kernel
theorem yL6_E : L6 ys_E yp_E 0 := by
  have h1 : ∀ j, j < 37 → ys_E[0 + j]? = S6[j]? := by decide +kernel
  have h2 : ∀ q ∈ Q6, yp_E (0 + q.1) q.2.1 = some (0 + q.2.2) := by decide +kernel
  exact ⟨fun j z hz => by rw [h1 j (List.getElem?_eq_some_iff.mp hz).1]; exact hz, h2⟩
theorem yL6_M : L6 (xs_M ys_E) (xp_M yp_E) 0 := by
  have h1 : ∀ j, j < 37 → (xs_M ys_E)[0 + j]? = S6[j]? := by decide +kernel
  have h2 : ∀ q ∈ Q6, xp_M yp_E (0 + q.1) q.2.1 = some (0 + q.2.2) := by decide +kernel
  exact ⟨fun j z hz => by rw [h1 j (List.getElem?_eq_some_iff.mp hz).1]; exact hz, h2⟩
theorem yL7_M : L7 (xs_M ys_E) (xp_M yp_E) 37 := by
  have h1 : ∀ j, j < 10 → (xs_M ys_E)[37 + j]? = S7[j]? := by decide +kernel
  have h2 : ∀ q ∈ Q7, xp_M yp_E (37 + q.1) q.2.1 = some (37 + q.2.2) := by decide +kernel
  exact ⟨fun j z hz => by rw [h1 j (List.getElem?_eq_some_iff.mp hz).1]; exact hz, h2⟩
theorem yslots : ∀ k, k < 2 → xp_M yp_E 31 k = none := by decide +kernel
theorem yMS : MS (xs_M ys_E) (xp_M yp_E) := by
  refine ⟨yL6_M, yL7_M, ?_, ?_, ?_⟩
  · rw [ys_M_len]
    exact xp_9M_pc (((xp_E_pc yp_0_pc).mono (by omega)).z)
  · rw [ys_M_len]; omega
  · rw [ys_M_len, yslots 0 (by omega), yslots 1 (by omega), if_pos rfl]
    decide
set_option maxRecDepth 100000 in
set_option maxHeartbeats 400000 in
theorem lw_enter3 {K : aK} {nm : String} {b L : Nat} {xs : Nat → Int32} (X : am_C K cL_law 4 RL nm room_1) (HL : am_L0 K b L xs) (hL : L ≤ 2048) {sM : aS} {pM : aP} {I2 : aI} {J : aJ} (eM : sM.length = 47) (hs : MS sM pM) (hm : MI sM pM I2) : AW K 4 15 [(1, .ref 0), (0, .ref 1000000)] [.ref 37] sM pM I2 J 47 8155 := by
  refine ar_astore_n (lo' := [(2, .ref 37), (1, .ref 0), (0, .ref 1000000)]) X dL_law_15 rfl (by decide) rfl ?_
  refine ar_iconst (v := 0) X dL_law_16 (by decide) ?_
  refine ar_istore_n (lo' := lw_lo 0) X dL_law_17 rfl (by decide) rfl ?_
  have h := law_loop X HL hL (L + 1) 0 (by omega) (by omega) sM pM I2 J hs hm
  rw [eM] at h
  exact ar_widen (by omega) (by omega) h
set_option maxRecDepth 100000 in
set_option maxHeartbeats 400000 in
theorem lw_enter4 {K : aK} {nm : String} {b L : Nat} {xs : Nat → Int32} (X : am_C K cL_law 4 RL nm room_1) (HL : am_L0 K b L xs) (hL : L ≤ 2048) {s8 sM : aS} {p8 pM : aP} {I8 I2 : aI} {J J2 : aJ} (e8 : s8.length = 38) (hA : AM yX7_init cX7_init 1 none 3 90 [.ref 37] s8 p8 I8 J none sM pM I2 J2 9 4235) (eM : sM.length = 47) (hs : MS sM pM) (hm : MI sM pM I2) : AW K 4 12 [(1, .ref 0), (0, .ref 1000000)] [.ref 37, .ref 37] s8 p8 I8 J 38 3920 := by
  refine ar_callI (As := []) (st := [.ref 37]) X dL_law_12 hA lk_L_12 mt_X7_init ⟨mo_X7_init, rfl⟩ rfl (Nat.le_of_ble_eq_true rfl) ⟨Nat.le_of_ble_eq_true rfl, Nat.le_of_ble_eq_true rfl⟩ ⟨Nat.le_of_ble_eq_true rfl, Nat.le_of_ble_eq_true rfl⟩ (by omega) (Or.inr ⟨⟨Or.inl (show 0 < s8.length from by omega), Or.inr (Nat.le_refl _), trivial⟩, rvs_a e8 (by omega)⟩) (fun v hv => by cases hv) ?_
  exact lw_enter3 X HL hL eM hs hm
set_option maxRecDepth 100000 in
set_option maxHeartbeats 400000 in
theorem lw_enter2 {K : aK} {nm : String} {b L : Nat} {xs : Nat → Int32} (X : am_C K cL_law 4 RL nm room_1) (HL : am_L0 K b L xs) (hL : L ≤ 2048) {sE sM : aS} {pE pM : aP} {I I2 : aI} {J J2 : aJ} (eE : sE.length = 37) (hpc : am_pc pE 37) (hA : AM yX7_init cX7_init 1 none 3 90 [.ref 37] (sE ++ [.inl 7]) (am_zP pE 37) (am_zI I 37) J none sM pM I2 J2 9 4235) (eM : sM.length = 47) (hs : MS sM pM) (hm : MI sM pM I2) : AW K 4 7 [(0, .ref 1000000)] [.ref 0] sE pE I J 37 3907 := by
  refine ar_astore_n (lo' := [(1, .ref 0), (0, .ref 1000000)]) X dL_law_7 rfl (by decide) rfl ?_
  refine ar_new X dL_law_8 cl7 (tw 789 (by decide +kernel)) (tw 790 (by decide +kernel)) (tw 9 (by decide +kernel)) (by decide) (by rw [eE]; exact hpc) (by omega) ⟨⟨Or.inl (show 0 < sE.length from by omega), Or.inr (Nat.le_refl _), trivial⟩, trivial⟩ ⟨Nat.le_of_ble_eq_true rfl, Nat.le_of_ble_eq_true rfl⟩ ?_
  rw [eE]
  have e1 := sh_len (c := .inl 7) eE
  refine ar_dup X dL_law_11 rfl ?_
  exact lw_enter4 X HL hL e1 hA eM hs hm
set_option maxRecDepth 100000 in
set_option maxHeartbeats 400000 in
theorem lw_enter5 {K : aK} {nm : String} {b L : Nat} {xs : Nat → Int32} (X : am_C K cL_law 4 RL nm room_1) (HL : am_L0 K b L xs) (hL : L ≤ 2048) {s1 sE sM : aS} {p1 pE pM : aP} {I1 IE I2 : aI} {J1 J J2 : aJ} (e1 : s1.length = 1) (hC : AM yX6_init cX6_init 1 none 3 140 [.ref 0] s1 p1 I1 J1 none sE pE IE J 36 3902) (eE : sE.length = 37) (hpc : am_pc pE 37) (hA : AM yX7_init cX7_init 1 none 3 90 [.ref 37] (sE ++ [.inl 7]) (am_zP pE 37) (am_zI IE 37) J none sM pM I2 J2 9 4235) (eM : sM.length = 47) (hs : MS sM pM) (hm : MI sM pM I2) : AW K 4 4 [(0, .ref 1000000)] [.ref 0, .ref 0] s1 p1 I1 J1 1 5 := by
  refine ar_callI (As := []) (st := [.ref 0]) X dL_law_4 hC lk_L_9 mt_X6_init ⟨mo_X6_init, rfl⟩ rfl (Nat.le_of_ble_eq_true rfl) ⟨Nat.le_of_ble_eq_true rfl, Nat.le_of_ble_eq_true rfl⟩ ⟨Nat.le_of_ble_eq_true rfl, Nat.le_of_ble_eq_true rfl⟩ (by omega) (Or.inr ⟨⟨Or.inr (Nat.le_refl _), trivial⟩, rvs_a e1 (by omega)⟩) (fun v hv => by cases hv) ?_
  exact lw_enter2 X HL hL eE hpc hA eM hs hm
set_option maxRecDepth 100000 in
set_option maxHeartbeats 400000 in
theorem lw_enter6 {K : aK} {nm : String} {b L : Nat} {xs : Nat → Int32} (X : am_C K cL_law 4 RL nm room_1) (HL : am_L0 K b L xs) (hL : L ≤ 2048) {s0 sE sM : aS} {p0 pE pM : aP} {I0 IE I2 : aI} {J0 J J2 : aJ} (e0 : s0.length = 0) (h0 : am_pc p0 0) (hC : AM yX6_init cX6_init 1 none 3 140 [.ref 0] (s0 ++ [.inl 6]) (am_zP p0 0) (am_zI I0 0) J0 none sE pE IE J 36 3902) (eE : sE.length = 37) (hpc : am_pc pE 37) (hA : AM yX7_init cX7_init 1 none 3 90 [.ref 37] (sE ++ [.inl 7]) (am_zP pE 37) (am_zI IE 37) J none sM pM I2 J2 9 4235) (eM : sM.length = 47) (hs : MS sM pM) (hm : MI sM pM I2) : AW K 4 0 [(0, .ref 1000000)] [] s0 p0 I0 J0 0 0 := by
  refine ar_new X dL_law_0 cl6 (tw 12 (by decide +kernel)) (tw 13 (by decide +kernel)) (tw 1 (by decide +kernel)) (by decide) (by rw [e0]; exact h0) (by omega) ⟨⟨Or.inr (Nat.le_refl _), trivial⟩, trivial⟩ ⟨Nat.le_of_ble_eq_true rfl, Nat.le_of_ble_eq_true rfl⟩ ?_
  rw [e0]
  refine ar_dup X dL_law_3 rfl ?_
  exact lw_enter5 X HL hL (sh_len e0) hC eE hpc hA eM hs hm
set_option maxRecDepth 100000 in
set_option maxHeartbeats 400000 in
theorem lw_start_B {I1 I2 : aI} {J : aJ} (h2 : f_X7_beginGame 37 3 (xi_M (am_zI I1 37)) = some I2) : AM yX7_init cX7_init 1 none 3 90 [.ref 37] (ys_E ++ [.inl 7]) (am_zP yp_E 37) (am_zI I1 37) J none (xs_M ys_E) (xp_M yp_E) I2 (xj_M J) 9 4235 :=
  am_X7_init (sh_len ys_E_len) (sh_new ys_E_len) (((xp_E_pc yp_0_pc).mono (by omega)).z) yL7_M h2
set_option maxRecDepth 100000 in
set_option maxHeartbeats 400000 in
theorem lw_start_A {I I1 : aI} {J : aJ} (h1 : f_X1_startAnew 1 3 (xi_E I) = some I1) : AM yX6_init cX6_init 1 none 3 140 [.ref 0] [.inl 6] yp_0 I J none ys_E yp_E I1 (xj_E J) 36 3902 :=
  am_X6_init (sh := [.inl 6]) (P := yp_0) rfl rfl yp_0_pc yL6_E h1
set_option maxRecDepth 100000 in
set_option maxHeartbeats 400000 in
theorem lw_enter {K : aK} {nm : String} {b L : Nat} {xs : Nat → Int32} (X : am_C K cL_law 4 RL nm room_1) (HL : am_L0 K b L xs) (hL : L ≤ 2048) : AW K 4 0 [(0, .ref 1000000)] [] [] (fun _ _ => none) (fun _ _ => 0) (fun _ _ => 0) 0 0 := by
  obtain ⟨I1, h1, hrest⟩ := start_rel (am_zI (fun _ _ => 0) 0)
  obtain ⟨I2, h2, hm⟩ := hrest (xp_M yp_E) yslots (xs_M ys_E)
  exact lw_enter6 X HL hL rfl (fun _ _ _ h => nomatch h) (lw_start_A h1) ys_E_len (xp_E_pc yp_0_pc) (lw_start_B h2) ys_M_len yMS hm
