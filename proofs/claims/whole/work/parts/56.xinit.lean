/-! the constructor of PurseAuction, at place 0 -/
def xs_A (sh : aS) : aS := nS sh
def xs_B (sh : aS) : aS := nS (xs_A sh)
def xs_C (sh : aS) : aS := xs_B sh ++ [.inr (4, 2)]
def xs_D (sh : aS) : aS := ((xs_C sh ++ [.inl 5]) ++ [.inr (3, 1801)]) ++ [.inr (3, 1801)]
def xs_E (sh : aS) : aS := (xs_D sh ++ [.inl 3]) ++ [.inr (2, 60)]
def xp_A (P : aP) : aP := am_wP (nP P 1) 0 0 (some 1)
def xp_B (P : aP) : aP := am_wP (nP (xp_A P) 16) 0 1 (some 16)
def xp_C (P : aP) : aP := am_wP (am_zP (xp_B P) 31) 0 2 (some 31)
def xp_D (P : aP) : aP := am_wP (am_wP (am_wP (am_zP (xp_C P) 32) 32 0 (some 33)) 32 1 (some 34)) 0 3 (some 32)
def xp_E (P : aP) : aP := am_wP (am_wP (am_zP (xp_D P) 35) 35 0 (some 36)) 0 4 (some 35)
def xi_B (I : aI) : aI := nI0 (nI0 I 1) 16
def xi_E (I : aI) : aI := am_zI (am_zI (am_zI (xi_B I) 32) 35) 36
def xj_E (J : aJ) : aJ := am_zJ (am_zJ J 33) 34
theorem nP_pc {P : aP} {N : Nat} (h : am_pc P N) : am_pc (nP P N) (N + 15) := gP_pc ((h.mono (by omega)).z)
theorem xp_A_pc {P : aP} (h : am_pc P 1) : am_pc (xp_A P) 16 := (nP_pc h).wk (by omega)
theorem xp_B_pc {P : aP} (h : am_pc P 1) : am_pc (xp_B P) 31 := (nP_pc (xp_A_pc h)).wk (by omega)
theorem xp_C_pc {P : aP} (h : am_pc P 1) : am_pc (xp_C P) 32 := (((xp_B_pc h).mono (show 31 ≤ 32 by omega)).z).wk (by omega)
theorem xp_D_pc {P : aP} (h : am_pc P 1) : am_pc (xp_D P) 35 := ((((((xp_C_pc h).mono (show 32 ≤ 35 by omega)).z).wk (by omega)).wk (by omega)).wk (by omega))
theorem xp_E_pc {P : aP} (h : am_pc P 1) : am_pc (xp_E P) 37 := (((((xp_D_pc h).mono (show 35 ≤ 37 by omega)).z).wk (by omega)).wk (by omega))
theorem rvs_a {a M N : Nat} (e : M = N) (h : a < N) : am_rvs M [.ref a] := by subst e; exact ⟨Or.inl h, trivial⟩
theorem rvs_b {a b M N : Nat} (e : M = N) (h : a < N) (h2 : b < N) : am_rvs M [.ref a, .ref b] := by subst e; exact ⟨Or.inl h, Or.inl h2, trivial⟩
set_option maxRecDepth 100000 in
set_option maxHeartbeats 4000000 in
theorem am_X6_init {sh : aS} {P : aP} {I : aI} {J : aJ} {I9 : aI} (e0 : sh.length = 1) (h0 : sh[0]? = some (.inl 6)) (hpc : am_pc P 1) (hL : L6 (xs_E sh) (xp_E P) 0) (hf : f_X1_startAnew 1 3 (xi_E I) = some I9) : AM yX6_init cX6_init 1 none 3 140 [.ref 0] sh P I J none (xs_E sh) (xp_E P) I9 (xj_E J) 36 3902 := by
  refine am_met (by decide +kernel) (Nat.le_of_ble_eq_true rfl) (fun K X hR => ?_)
  have X : am_C K cX6_init 1 RX6 "<init>" ({ frames := 3, cells := 36, slots := 3902, locals := 140 } : Room) := X
  show AW K 1 0 [(0, .ref 0)] [] sh P I J 0 0
  have eA1 := sh_len (c := .inl 1) e0
  have eA : (xs_A sh).length = 16 := gS_len eA1
  have eB1 := sh_len (c := .inl 1) eA
  have eB : (xs_B sh).length = 31 := gS_len eB1
  have eC : (xs_C sh).length = 32 := sh_len eB
  have eD1 := sh_len (c := .inl 5) eC
  have eD2 := sh_len (c := .inr (3, 1801)) eD1
  have eD : (xs_D sh).length = 35 := sh_len eD2
  have eE1 := sh_len (c := .inl 3) eD
  have eE : (xs_E sh).length = 37 := sh_len eE1
  have hA : (xs_A sh)[0]? = some (.inl 6) := gS_old (sh_old h0)
  have hB : (xs_B sh)[0]? = some (.inl 6) := gS_old (sh_old hA)
  have hC : (xs_C sh)[0]? = some (.inl 6) := sh_old hB
  have hD : (xs_D sh)[0]? = some (.inl 6) := sh_old (sh_old (sh_old hC))
  have hE : (xs_E sh)[0]? = some (.inl 6) := sh_old (sh_old hD)
  refine ar_aload_n X dX6_init_0 rfl 0 rfl ?_
  refine ar_objinit X dX6_init_1 (tw 17 (by decide +kernel)) (tw 18 (by decide +kernel)) (tw 19 (by decide +kernel)) (Nat.le_of_ble_eq_true rfl) (Nat.le_of_ble_eq_true rfl) ?_
  refine ar_aload_n X dX6_init_4 rfl 0 rfl ?_
  refine ar_new X dX6_init_5 cl1 (tw 20 (by decide +kernel)) (tw 21 (by decide +kernel)) (tw 2 (by decide +kernel)) (by decide) (by rw [e0]; exact hpc) (by omega) ⟨rvs_a e0 (by omega), rvs_a e0 (by omega)⟩ ⟨Nat.le_of_ble_eq_true rfl, Nat.le_of_ble_eq_true rfl⟩ ?_
  rw [e0]
  refine ar_dup X dX6_init_8 rfl ?_
  refine ar_callI (As := []) (st := [.ref 1, .ref 0]) X dX6_init_9 (am_X1_init (o := 1) (sh_new e0) eA1 ((hpc.mono (by omega)).z) (by omega)) lk_X6_9 mt_X1_init ⟨mo_X1_init, rfl⟩ rfl (Nat.le_of_ble_eq_true rfl) ⟨by decide, by decide⟩ ⟨Nat.le_of_ble_eq_true rfl, Nat.le_of_ble_eq_true rfl⟩ (by rw [gS_len eA1, eA1]; omega) (Or.inr ⟨rvs_a eA1 (by omega), rvs_b eA1 (by omega) (by omega)⟩) (fun v hv => by cases hv) ?_
  show AW K 1 12 [(0, .ref 0)] [.ref 1, .ref 0] (xs_A sh) (nP P 1) (nI0 I 1) (J) 15 115
  refine ar_putF X dX6_init_12 fF_X6_10 rfl (fun _ => ⟨rfl, rfl⟩) rfl hA ?_
  show AW K 1 15 [(0, .ref 0)] [] (xs_A sh) (xp_A P) (nI0 I 1) (J) 15 115
  refine ar_aload_n X dX6_init_15 rfl 0 rfl ?_
  refine ar_new X dX6_init_16 cl1 (tw 20 (by decide +kernel)) (tw 21 (by decide +kernel)) (tw 2 (by decide +kernel)) (by decide) (by rw [eA]; exact (xp_A_pc hpc)) (by omega) ⟨rvs_a eA (by omega), rvs_a eA (by omega)⟩ ⟨Nat.le_of_ble_eq_true rfl, Nat.le_of_ble_eq_true rfl⟩ ?_
  rw [eA]
  refine ar_dup X dX6_init_19 rfl ?_
  refine ar_callI (As := []) (st := [.ref 16, .ref 0]) X dX6_init_20 (am_X1_init (o := 16) (sh_new eA) eB1 (((xp_A_pc hpc).mono (by omega)).z) (by omega)) lk_X6_9 mt_X1_init ⟨mo_X1_init, rfl⟩ rfl (Nat.le_of_ble_eq_true rfl) ⟨by decide, by decide⟩ ⟨Nat.le_of_ble_eq_true rfl, Nat.le_of_ble_eq_true rfl⟩ (by rw [gS_len eB1, eB1]; omega) (Or.inr ⟨rvs_a eB1 (by omega), rvs_b eB1 (by omega) (by omega)⟩) (fun v hv => by cases hv) ?_
  show AW K 1 23 [(0, .ref 0)] [.ref 16, .ref 0] (xs_B sh) (nP (xp_A P) 16) (xi_B I) (J) 30 230
  refine ar_putF X dX6_init_23 fF_X6_16 rfl (fun _ => ⟨rfl, rfl⟩) rfl hB ?_
  show AW K 1 26 [(0, .ref 0)] [] (xs_B sh) (xp_B P) (xi_B I) (J) 30 230
  refine ar_aload_n X dX6_init_26 rfl 0 rfl ?_
  refine ar_iconst (v := 2) X dX6_init_27 (by decide) ?_
  refine ar_anewa (n := 2) X dX6_init_28 (tw 20 (by decide +kernel)) (by decide) rfl (by decide) (by rw [eB]; exact xp_B_pc hpc) (by omega) ⟨rvs_a eB (by omega), rvs_a eB (by omega)⟩ ⟨Nat.le_of_ble_eq_true rfl, Nat.le_of_ble_eq_true rfl⟩ ?_
  rw [eB]
  show AW K 1 31 [(0, .ref 0)] [.ref 31, .ref 0] (xs_C sh) (am_zP (xp_B P) 31) (xi_B I) J 31 232
  refine ar_putF X dX6_init_31 fF_X6_19 rfl (fun _ => ⟨rfl, rfl⟩) rfl hC ?_
  show AW K 1 34 [(0, .ref 0)] [] (xs_C sh) (xp_C P) (xi_B I) J 31 232
  refine ar_aload_n X dX6_init_34 rfl 0 rfl ?_
  refine ar_new X dX6_init_35 cl5 (tw 159 (by decide +kernel)) (tw 160 (by decide +kernel)) (tw 6 (by decide +kernel)) (by decide) (by rw [eC]; exact (xp_C_pc hpc)) (by omega) ⟨rvs_a eC (by omega), rvs_a eC (by omega)⟩ ⟨Nat.le_of_ble_eq_true rfl, Nat.le_of_ble_eq_true rfl⟩ ?_
  rw [eC]
  refine ar_dup X dX6_init_38 rfl ?_
  refine ar_callI (As := []) (st := [.ref 32, .ref 0]) X dX6_init_39 (am_X5_init (o := 32) (sh_new eC) eD1 (((xp_C_pc hpc).mono (by omega)).z) (by omega)) lk_X6_25 mt_X5_init ⟨mo_X5_init, rfl⟩ rfl (Nat.le_of_ble_eq_true rfl) ⟨by decide, by decide⟩ ⟨Nat.le_of_ble_eq_true rfl, Nat.le_of_ble_eq_true rfl⟩ (by rw [sh_len eD2, eD1]; omega) (Or.inr ⟨rvs_a eD1 (by omega), rvs_b eD1 (by omega) (by omega)⟩) (fun v hv => by cases hv) ?_
  show AW K 1 42 [(0, .ref 0)] [.ref 32, .ref 0] (xs_D sh) (am_wP (am_wP (am_zP (xp_C P) 32) 32 0 (some 33)) 32 1 (some 34)) (am_zI (xi_B I) 32) (xj_E J) 34 3836
  refine ar_putF X dX6_init_42 fF_X6_26 rfl (fun _ => ⟨rfl, rfl⟩) rfl hD ?_
  show AW K 1 45 [(0, .ref 0)] [] (xs_D sh) (xp_D P) (am_zI (xi_B I) 32) (xj_E J) 34 3836
  refine ar_aload_n X dX6_init_45 rfl 0 rfl ?_
  refine ar_new X dX6_init_46 cl3 (tw 173 (by decide +kernel)) (tw 174 (by decide +kernel)) (tw 7 (by decide +kernel)) (by decide) (by rw [eD]; exact (xp_D_pc hpc)) (by omega) ⟨rvs_a eD (by omega), rvs_a eD (by omega)⟩ ⟨Nat.le_of_ble_eq_true rfl, Nat.le_of_ble_eq_true rfl⟩ ?_
  rw [eD]
  refine ar_dup X dX6_init_49 rfl ?_
  refine ar_callI (As := []) (st := [.ref 35, .ref 0]) X dX6_init_50 (am_X3_init (o := 35) (sh_new eD) eE1 (((xp_D_pc hpc).mono (by omega)).z) (by omega)) lk_X6_32 mt_X3_init ⟨mo_X3_init, rfl⟩ rfl (Nat.le_of_ble_eq_true rfl) ⟨by decide, by decide⟩ ⟨Nat.le_of_ble_eq_true rfl, Nat.le_of_ble_eq_true rfl⟩ (by rw [sh_len eE1, eE1]; omega) (Or.inr ⟨rvs_a eE1 (by omega), rvs_b eE1 (by omega) (by omega)⟩) (fun v hv => by cases hv) ?_
  show AW K 1 53 [(0, .ref 0)] [.ref 35, .ref 0] (xs_E sh) (am_wP (am_zP (xp_D P) 35) 35 0 (some 36)) (xi_E I) (xj_E J) 36 3902
  refine ar_putF X dX6_init_53 fF_X6_33 rfl (fun _ => ⟨rfl, rfl⟩) rfl hE ?_
  show AW K 1 56 [(0, .ref 0)] [] (xs_E sh) (xp_E P) (xi_E I) (xj_E J) 36 3902
  refine ar_aload_n X dX6_init_56 rfl 0 rfl ?_
  refine ar_getr X dX6_init_57 fg_X6_10 rfl (L6_s0 hL) (L6_p0_0 hL) ?_
  refine ar_iconst (v := 3) X dX6_init_60 (by decide) ?_
  refine ar_cVv (As := [.int 3]) (st := []) X dX6_init_61 (am_X1_startAnew (L6_c1 hL) hf) lk_X6_37 mt_X1_startAnew mi_X1_startAnew (L6_s1 hL) rfl rfl (Nat.le_of_ble_eq_true rfl) ⟨by decide, by decide⟩ ⟨Nat.le_of_ble_eq_true rfl, Nat.le_of_ble_eq_true rfl⟩ rfl ?_
  exact ar_vret X dX6_init_64 hR (Nat.le_refl _) (Nat.le_refl _)
