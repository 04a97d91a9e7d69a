/-! the constructor of the reference, at place 37 -/
def xs_0M (sh : aS) : aS := sh
def xp_0M (P : aP) : aP := P
def xs_1M (sh : aS) : aS := xs_0M sh ++ [.inr (0, 118)]
def xp_1M (P : aP) : aP := am_wP (xp_0M P) 37 0 (some 38)
def xs_2M (sh : aS) : aS := xs_1M sh ++ [.inr (0, 118)]
def xp_2M (P : aP) : aP := am_wP (xp_1M P) 37 1 (some 39)
def xs_3M (sh : aS) : aS := xs_2M sh ++ [.inr (0, 236)]
def xp_3M (P : aP) : aP := am_wP (xp_2M P) 37 2 (some 40)
def xs_4M (sh : aS) : aS := xs_3M sh ++ [.inr (1, 2)]
def xp_4M (P : aP) : aP := am_wP (xp_3M P) 37 3 (some 41)
def xs_5M (sh : aS) : aS := xs_4M sh ++ [.inr (0, 60)]
def xp_5M (P : aP) : aP := am_wP (xp_4M P) 37 4 (some 42)
def xs_6M (sh : aS) : aS := xs_5M sh ++ [.inr (0, 6)]
def xp_6M (P : aP) : aP := am_wP (xp_5M P) 37 6 (some 43)
def xs_7M (sh : aS) : aS := xs_6M sh ++ [.inr (3, 1801)]
def xp_7M (P : aP) : aP := am_wP (xp_6M P) 37 7 (some 44)
def xs_8M (sh : aS) : aS := xs_7M sh ++ [.inr (3, 1801)]
def xp_8M (P : aP) : aP := am_wP (xp_7M P) 37 8 (some 45)
def xs_9M (sh : aS) : aS := xs_8M sh ++ [.inr (0, 93)]
def xp_9M (P : aP) : aP := am_wP (xp_8M P) 37 11 (some 46)
def xi_0M (I : aI) : aI := (am_zI (am_zI (am_zI (am_zI (am_zI (am_zI (am_zI I 38) 39) 40) 41) 42) 43) 46)
def xj_M (J : aJ) : aJ := (am_zJ (am_zJ J 44) 45)
def xi_M (I : aI) : aI := (am_w (am_w (am_w (am_w (am_w (am_w (xi_0M I) 38 10 100) 38 11 5) 38 12 12) 38 13 4) 38 14 15) 38 15 5)
theorem xp_0M_pc {P : aP} (h : am_pc P 38) : am_pc (xp_0M P) 38 := h
theorem xp_1M_pc {P : aP} (h : am_pc P 38) : am_pc (xp_1M P) 39 := ((xp_0M_pc h).mono (show 38 ≤ 39 by omega)).wk (by omega)
theorem xp_2M_pc {P : aP} (h : am_pc P 38) : am_pc (xp_2M P) 40 := ((xp_1M_pc h).mono (show 39 ≤ 40 by omega)).wk (by omega)
theorem xp_3M_pc {P : aP} (h : am_pc P 38) : am_pc (xp_3M P) 41 := ((xp_2M_pc h).mono (show 40 ≤ 41 by omega)).wk (by omega)
theorem xp_4M_pc {P : aP} (h : am_pc P 38) : am_pc (xp_4M P) 42 := ((xp_3M_pc h).mono (show 41 ≤ 42 by omega)).wk (by omega)
theorem xp_5M_pc {P : aP} (h : am_pc P 38) : am_pc (xp_5M P) 43 := ((xp_4M_pc h).mono (show 42 ≤ 43 by omega)).wk (by omega)
theorem xp_6M_pc {P : aP} (h : am_pc P 38) : am_pc (xp_6M P) 44 := ((xp_5M_pc h).mono (show 43 ≤ 44 by omega)).wk (by omega)
theorem xp_7M_pc {P : aP} (h : am_pc P 38) : am_pc (xp_7M P) 45 := ((xp_6M_pc h).mono (show 44 ≤ 45 by omega)).wk (by omega)
theorem xp_8M_pc {P : aP} (h : am_pc P 38) : am_pc (xp_8M P) 46 := ((xp_7M_pc h).mono (show 45 ≤ 46 by omega)).wk (by omega)
theorem xp_9M_pc {P : aP} (h : am_pc P 38) : am_pc (xp_9M P) 47 := ((xp_8M_pc h).mono (show 46 ≤ 47 by omega)).wk (by omega)
set_option maxRecDepth 100000 in
set_option maxHeartbeats 4000000 in
theorem am_X7_init {sh : aS} {P : aP} {I : aI} {J : aJ} {I9 : aI} (e0 : sh.length = 38) (h0 : sh[37]? = some (.inl 7)) (hpc : am_pc P 38) (hL : L7 (xs_9M sh) (xp_9M P) 37) (hf : f_X7_beginGame 37 3 (xi_M I) = some I9) : AM yX7_init cX7_init 1 none 3 90 [.ref 37] sh P I J none (xs_9M sh) (xp_9M P) I9 (xj_M J) 9 4235 := by
  refine am_met (by decide +kernel) (Nat.le_of_ble_eq_true rfl) (fun K X hR => ?_)
  have X : am_C K cX7_init 1 RX7 "<init>" ({ frames := 3, cells := 9, slots := 4235, locals := 90 } : Room) := X
  show AW K 1 0 [(0, .ref 37)] [] (xs_0M sh) (xp_0M P) I J 0 0
  have e0 : (xs_0M sh).length = 38 := e0
  have h0 : (xs_0M sh)[37]? = some (.inl 7) := h0
  have e1 : (xs_1M sh).length = 39 := sh_len e0
  have h1 : (xs_1M sh)[37]? = some (.inl 7) := sh_old h0
  have e2 : (xs_2M sh).length = 40 := sh_len e1
  have h2 : (xs_2M sh)[37]? = some (.inl 7) := sh_old h1
  have e3 : (xs_3M sh).length = 41 := sh_len e2
  have h3 : (xs_3M sh)[37]? = some (.inl 7) := sh_old h2
  have e4 : (xs_4M sh).length = 42 := sh_len e3
  have h4 : (xs_4M sh)[37]? = some (.inl 7) := sh_old h3
  have e5 : (xs_5M sh).length = 43 := sh_len e4
  have h5 : (xs_5M sh)[37]? = some (.inl 7) := sh_old h4
  have e6 : (xs_6M sh).length = 44 := sh_len e5
  have h6 : (xs_6M sh)[37]? = some (.inl 7) := sh_old h5
  have e7 : (xs_7M sh).length = 45 := sh_len e6
  have h7 : (xs_7M sh)[37]? = some (.inl 7) := sh_old h6
  have e8 : (xs_8M sh).length = 46 := sh_len e7
  have h8 : (xs_8M sh)[37]? = some (.inl 7) := sh_old h7
  have e9 : (xs_9M sh).length = 47 := sh_len e8
  have h9 : (xs_9M sh)[37]? = some (.inl 7) := sh_old h8
  refine ar_aload_n X dX7_init_0 rfl 0 rfl ?_
  refine ar_objinit X dX7_init_1 (tw 794 (by decide +kernel)) (tw 18 (by decide +kernel)) (tw 19 (by decide +kernel)) (Nat.le_of_ble_eq_true rfl) (Nat.le_of_ble_eq_true rfl) ?_
  refine ar_aload_n X dX7_init_4 rfl 0 rfl ?_
  refine ar_bipush (v := 118) X dX7_init_5 (by decide) ?_
  refine ar_newaI (n := 118) X dX7_init_7 (tw 63 (by decide +kernel)) (by decide) rfl (by decide) (by rw [e0]; exact xp_0M_pc hpc) (by omega) ⟨rvs_a e0 (by omega), rvs_a e0 (by omega)⟩ ⟨Nat.le_of_ble_eq_true rfl, Nat.le_of_ble_eq_true rfl⟩ ?_
  rw [e0]
  show AW K 1 9 [(0, .ref 37)] [.ref 38, .ref 37] (xs_1M sh) (xp_0M P) (am_zI I 38) J 1 118
  refine ar_putF X dX7_init_9 fF_X7_7 rfl (fun _ => ⟨rfl, rfl⟩) rfl h1 ?_
  show AW K 1 12 [(0, .ref 37)] [] (xs_1M sh) (xp_1M P) (am_zI I 38) J 1 118
  refine ar_aload_n X dX7_init_12 rfl 0 rfl ?_
  refine ar_bipush (v := 118) X dX7_init_13 (by decide) ?_
  refine ar_newaI (n := 118) X dX7_init_15 (tw 63 (by decide +kernel)) (by decide) rfl (by decide) (by rw [e1]; exact xp_1M_pc hpc) (by omega) ⟨rvs_a e1 (by omega), rvs_a e1 (by omega)⟩ ⟨Nat.le_of_ble_eq_true rfl, Nat.le_of_ble_eq_true rfl⟩ ?_
  rw [e1]
  show AW K 1 17 [(0, .ref 37)] [.ref 39, .ref 37] (xs_2M sh) (xp_1M P) (am_zI (am_zI I 38) 39) J 2 236
  refine ar_putF X dX7_init_17 fF_X7_13 rfl (fun _ => ⟨rfl, rfl⟩) rfl h2 ?_
  show AW K 1 20 [(0, .ref 37)] [] (xs_2M sh) (xp_2M P) (am_zI (am_zI I 38) 39) J 2 236
  refine ar_aload_n X dX7_init_20 rfl 0 rfl ?_
  refine ar_sipush (v := 236) X dX7_init_21 (by decide) ?_
  refine ar_newaI (n := 236) X dX7_init_24 (tw 63 (by decide +kernel)) (by decide) rfl (by decide) (by rw [e2]; exact xp_2M_pc hpc) (by omega) ⟨rvs_a e2 (by omega), rvs_a e2 (by omega)⟩ ⟨Nat.le_of_ble_eq_true rfl, Nat.le_of_ble_eq_true rfl⟩ ?_
  rw [e2]
  show AW K 1 26 [(0, .ref 37)] [.ref 40, .ref 37] (xs_3M sh) (xp_2M P) (am_zI (am_zI (am_zI I 38) 39) 40) J 3 472
  refine ar_putF X dX7_init_26 fF_X7_16 rfl (fun _ => ⟨rfl, rfl⟩) rfl h3 ?_
  show AW K 1 29 [(0, .ref 37)] [] (xs_3M sh) (xp_3M P) (am_zI (am_zI (am_zI I 38) 39) 40) J 3 472
  refine ar_aload_n X dX7_init_29 rfl 0 rfl ?_
  refine ar_iconst (v := 2) X dX7_init_30 (by decide) ?_
  refine ar_newaZ (n := 2) X dX7_init_31 (tw 851 (by decide +kernel)) (by decide) rfl (by decide) (by rw [e3]; exact xp_3M_pc hpc) (by omega) ⟨rvs_a e3 (by omega), rvs_a e3 (by omega)⟩ ⟨Nat.le_of_ble_eq_true rfl, Nat.le_of_ble_eq_true rfl⟩ ?_
  rw [e3]
  show AW K 1 33 [(0, .ref 37)] [.ref 41, .ref 37] (xs_4M sh) (xp_3M P) (am_zI (am_zI (am_zI (am_zI I 38) 39) 40) 41) J 4 474
  refine ar_putF X dX7_init_33 fF_X7_19 rfl (fun _ => ⟨rfl, rfl⟩) rfl h4 ?_
  show AW K 1 36 [(0, .ref 37)] [] (xs_4M sh) (xp_4M P) (am_zI (am_zI (am_zI (am_zI I 38) 39) 40) 41) J 4 474
  refine ar_aload_n X dX7_init_36 rfl 0 rfl ?_
  refine ar_bipush (v := 60) X dX7_init_37 (by decide) ?_
  refine ar_newaI (n := 60) X dX7_init_39 (tw 63 (by decide +kernel)) (by decide) rfl (by decide) (by rw [e4]; exact xp_4M_pc hpc) (by omega) ⟨rvs_a e4 (by omega), rvs_a e4 (by omega)⟩ ⟨Nat.le_of_ble_eq_true rfl, Nat.le_of_ble_eq_true rfl⟩ ?_
  rw [e4]
  show AW K 1 41 [(0, .ref 37)] [.ref 42, .ref 37] (xs_5M sh) (xp_4M P) (am_zI (am_zI (am_zI (am_zI (am_zI I 38) 39) 40) 41) 42) J 5 534
  refine ar_putF X dX7_init_41 fF_X7_23 rfl (fun _ => ⟨rfl, rfl⟩) rfl h5 ?_
  show AW K 1 44 [(0, .ref 37)] [] (xs_5M sh) (xp_5M P) (am_zI (am_zI (am_zI (am_zI (am_zI I 38) 39) 40) 41) 42) J 5 534
  refine ar_aload_n X dX7_init_44 rfl 0 rfl ?_
  refine ar_bipush (v := 6) X dX7_init_45 (by decide) ?_
  refine ar_newaI (n := 6) X dX7_init_47 (tw 63 (by decide +kernel)) (by decide) rfl (by decide) (by rw [e5]; exact xp_5M_pc hpc) (by omega) ⟨rvs_a e5 (by omega), rvs_a e5 (by omega)⟩ ⟨Nat.le_of_ble_eq_true rfl, Nat.le_of_ble_eq_true rfl⟩ ?_
  rw [e5]
  show AW K 1 49 [(0, .ref 37)] [.ref 43, .ref 37] (xs_6M sh) (xp_5M P) (am_zI (am_zI (am_zI (am_zI (am_zI (am_zI I 38) 39) 40) 41) 42) 43) J 6 540
  refine ar_putF X dX7_init_49 fF_X7_26 rfl (fun _ => ⟨rfl, rfl⟩) rfl h6 ?_
  show AW K 1 52 [(0, .ref 37)] [] (xs_6M sh) (xp_6M P) (am_zI (am_zI (am_zI (am_zI (am_zI (am_zI I 38) 39) 40) 41) 42) 43) J 6 540
  refine ar_aload_n X dX7_init_52 rfl 0 rfl ?_
  refine ar_sipush (v := 1801) X dX7_init_53 (by decide) ?_
  refine ar_newaJ (n := 1801) X dX7_init_56 (tw 172 (by decide +kernel)) (by decide) rfl (by decide) (by rw [e6]; exact xp_6M_pc hpc) (by omega) ⟨rvs_a e6 (by omega), rvs_a e6 (by omega)⟩ ⟨Nat.le_of_ble_eq_true rfl, Nat.le_of_ble_eq_true rfl⟩ ?_
  rw [e6]
  show AW K 1 58 [(0, .ref 37)] [.ref 44, .ref 37] (xs_7M sh) (xp_6M P) (am_zI (am_zI (am_zI (am_zI (am_zI (am_zI I 38) 39) 40) 41) 42) 43) (am_zJ J 44) 7 2341
  refine ar_putF X dX7_init_58 fF_X7_29 rfl (fun _ => ⟨rfl, rfl⟩) rfl h7 ?_
  show AW K 1 61 [(0, .ref 37)] [] (xs_7M sh) (xp_7M P) (am_zI (am_zI (am_zI (am_zI (am_zI (am_zI I 38) 39) 40) 41) 42) 43) (am_zJ J 44) 7 2341
  refine ar_aload_n X dX7_init_61 rfl 0 rfl ?_
  refine ar_sipush (v := 1801) X dX7_init_62 (by decide) ?_
  refine ar_newaJ (n := 1801) X dX7_init_65 (tw 172 (by decide +kernel)) (by decide) rfl (by decide) (by rw [e7]; exact xp_7M_pc hpc) (by omega) ⟨rvs_a e7 (by omega), rvs_a e7 (by omega)⟩ ⟨Nat.le_of_ble_eq_true rfl, Nat.le_of_ble_eq_true rfl⟩ ?_
  rw [e7]
  show AW K 1 67 [(0, .ref 37)] [.ref 45, .ref 37] (xs_8M sh) (xp_7M P) (am_zI (am_zI (am_zI (am_zI (am_zI (am_zI I 38) 39) 40) 41) 42) 43) (am_zJ (am_zJ J 44) 45) 8 4142
  refine ar_putF X dX7_init_67 fF_X7_33 rfl (fun _ => ⟨rfl, rfl⟩) rfl h8 ?_
  show AW K 1 70 [(0, .ref 37)] [] (xs_8M sh) (xp_8M P) (am_zI (am_zI (am_zI (am_zI (am_zI (am_zI I 38) 39) 40) 41) 42) 43) (am_zJ (am_zJ J 44) 45) 8 4142
  refine ar_aload_n X dX7_init_70 rfl 0 rfl ?_
  refine ar_bipush (v := 93) X dX7_init_71 (by decide) ?_
  refine ar_newaI (n := 93) X dX7_init_73 (tw 63 (by decide +kernel)) (by decide) rfl (by decide) (by rw [e8]; exact xp_8M_pc hpc) (by omega) ⟨rvs_a e8 (by omega), rvs_a e8 (by omega)⟩ ⟨Nat.le_of_ble_eq_true rfl, Nat.le_of_ble_eq_true rfl⟩ ?_
  rw [e8]
  show AW K 1 75 [(0, .ref 37)] [.ref 46, .ref 37] (xs_9M sh) (xp_8M P) (am_zI (am_zI (am_zI (am_zI (am_zI (am_zI (am_zI I 38) 39) 40) 41) 42) 43) 46) (am_zJ (am_zJ J 44) 45) 9 4235
  refine ar_putF X dX7_init_75 fF_X7_36 rfl (fun _ => ⟨rfl, rfl⟩) rfl h9 ?_
  show AW K 1 78 [(0, .ref 37)] [] (xs_9M sh) (xp_9M P) (am_zI (am_zI (am_zI (am_zI (am_zI (am_zI (am_zI I 38) 39) 40) 41) 42) 43) 46) (am_zJ (am_zJ J 44) 45) 9 4235
  show AW K 1 78 [(0, .ref 37)] [] (xs_9M sh) (xp_9M P) (xi_0M I) (xj_M J) 9 4235
  refine ar_aload_n X dX7_init_78 rfl 0 rfl ?_
  refine ar_getr X dX7_init_79 fg_X7_7 rfl (L7_s0 hL) (L7_p0_0 hL) ?_
  refine ar_bipush (v := 10) X dX7_init_82 (by decide) ?_
  refine ar_bipush (v := 100) X dX7_init_84 (by decide) ?_
  refine ar_iast (F := some) (Rs := am_w (xi_0M I) 38 10 100) X dX7_init_86 (L7_s1 hL) (by rw [am_g_of _ (by decide)]; rfl) (fun I1 hI1 => ?_)
  cases hI1
  refine ar_aload_n X dX7_init_87 rfl 0 rfl ?_
  refine ar_getr X dX7_init_88 fg_X7_7 rfl (L7_s0 hL) (L7_p0_0 hL) ?_
  refine ar_bipush (v := 11) X dX7_init_91 (by decide) ?_
  refine ar_iconst (v := 5) X dX7_init_93 (by decide) ?_
  refine ar_iast (F := some) (Rs := am_w (am_w (xi_0M I) 38 10 100) 38 11 5) X dX7_init_94 (L7_s1 hL) (by rw [am_g_of _ (by decide)]; rfl) (fun I1 hI1 => ?_)
  cases hI1
  refine ar_aload_n X dX7_init_95 rfl 0 rfl ?_
  refine ar_getr X dX7_init_96 fg_X7_7 rfl (L7_s0 hL) (L7_p0_0 hL) ?_
  refine ar_bipush (v := 12) X dX7_init_99 (by decide) ?_
  refine ar_bipush (v := 12) X dX7_init_101 (by decide) ?_
  refine ar_iast (F := some) (Rs := am_w (am_w (am_w (xi_0M I) 38 10 100) 38 11 5) 38 12 12) X dX7_init_103 (L7_s1 hL) (by rw [am_g_of _ (by decide)]; rfl) (fun I1 hI1 => ?_)
  cases hI1
  refine ar_aload_n X dX7_init_104 rfl 0 rfl ?_
  refine ar_getr X dX7_init_105 fg_X7_7 rfl (L7_s0 hL) (L7_p0_0 hL) ?_
  refine ar_bipush (v := 13) X dX7_init_108 (by decide) ?_
  refine ar_iconst (v := 4) X dX7_init_110 (by decide) ?_
  refine ar_iast (F := some) (Rs := am_w (am_w (am_w (am_w (xi_0M I) 38 10 100) 38 11 5) 38 12 12) 38 13 4) X dX7_init_111 (L7_s1 hL) (by rw [am_g_of _ (by decide)]; rfl) (fun I1 hI1 => ?_)
  cases hI1
  refine ar_aload_n X dX7_init_112 rfl 0 rfl ?_
  refine ar_getr X dX7_init_113 fg_X7_7 rfl (L7_s0 hL) (L7_p0_0 hL) ?_
  refine ar_bipush (v := 14) X dX7_init_116 (by decide) ?_
  refine ar_bipush (v := 15) X dX7_init_118 (by decide) ?_
  refine ar_iast (F := some) (Rs := am_w (am_w (am_w (am_w (am_w (xi_0M I) 38 10 100) 38 11 5) 38 12 12) 38 13 4) 38 14 15) X dX7_init_120 (L7_s1 hL) (by rw [am_g_of _ (by decide)]; rfl) (fun I1 hI1 => ?_)
  cases hI1
  refine ar_aload_n X dX7_init_121 rfl 0 rfl ?_
  refine ar_getr X dX7_init_122 fg_X7_7 rfl (L7_s0 hL) (L7_p0_0 hL) ?_
  refine ar_bipush (v := 15) X dX7_init_125 (by decide) ?_
  refine ar_iconst (v := 5) X dX7_init_127 (by decide) ?_
  refine ar_iast (F := some) (Rs := am_w (am_w (am_w (am_w (am_w (am_w (xi_0M I) 38 10 100) 38 11 5) 38 12 12) 38 13 4) 38 14 15) 38 15 5) X dX7_init_128 (L7_s1 hL) (by rw [am_g_of _ (by decide)]; rfl) (fun I1 hI1 => ?_)
  cases hI1
  show AW K 1 129 [(0, .ref 37)] [] (xs_9M sh) (xp_9M P) (xi_M I) (xj_M J) 9 4235
  refine ar_aload_n X dX7_init_129 rfl 0 rfl ?_
  refine ar_iconst (v := 3) X dX7_init_130 (by decide) ?_
  refine ar_cVv (As := [.int 3]) (st := []) X dX7_init_131 (am_X7_beginGame hL hf) lk_X7_39 mt_X7_beginGame mi_X7_beginGame (L7_s0 hL) rfl rfl (Nat.le_of_ble_eq_true rfl) ⟨by decide, by decide⟩ ⟨Nat.le_of_ble_eq_true rfl, Nat.le_of_ble_eq_true rfl⟩ rfl ?_
  exact ar_vret X dX7_init_134 hR (Nat.le_refl _) (Nat.le_refl _)
