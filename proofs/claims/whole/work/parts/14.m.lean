noncomputable section
def f_X6_carryOutAct (o : Nat)  (I : aI) : Option (Int32 × aI) :=
  if (I (o + 35) 3) = (98 : Int32) then (
    am_b2 (f_X1_takeBid (o + 1) (I (o + 35) 4) (I (o + 35) 5) I) fun r2 I2 =>
    some (r2, I2))
  else if (I (o + 35) 3) = (109 : Int32) then (
    am_b2 (f_X1_moveAlone (o + 1) I) fun r4 I4 =>
    some (r4, I4))
  else if (I (o + 35) 3) = (112 : Int32) then (
    am_b2 (f_X1_takePass (o + 1) (I (o + 35) 4) I) fun r6 I6 =>
    some (r6, I6))
  else if (I (o + 35) 3) = (115 : Int32) then (
    am_b2 (f_X1_startAuction (o + 1) (I (o + 35) 4) (I (o + 35) 5) I) fun r8 I8 =>
    some (r8, I8))
  else (
    am_b2 (f_X1_giveLast (o + 1) I) fun r9 I9 =>
  some (r9, I9))
set_option maxRecDepth 100000 in
set_option maxHeartbeats 4000000 in
theorem am_X6_carryOutAct {sh : aS} {P : aP} {I : aI} {J : aJ} {o : Nat} (hL : L6 sh P o)  {r : Int32} {I9 : aI} (hf : f_X6_carryOutAct o I = some (r, I9)) : AM yX6_carryOutAct cX6_carryOutAct 1 (some .int) 5 120 [.ref o] sh P I J (some (.int r)) sh P I9 J 0 0 := by
  refine am_met (by decide +kernel) (Nat.le_of_ble_eq_true rfl) (fun K X hR => ?_)
  have X : am_C K cX6_carryOutAct 1 RX6 "carryOutAct" ({ frames := 5, cells := 0, slots := 0, locals := 120 } : Room) := X
  show AW K 1 0 [(0, .ref o)] [] sh P I J 0 0
  unfold f_X6_carryOutAct at hf
  refine ar_aload_n X dX6_carryOutAct_0 rfl 0 rfl ?_
  refine ar_getr X dX6_carryOutAct_1 fg_X6_33 rfl (L6_s0 hL) (L6_p0_4 hL) ?_
  refine ar_geti X dX6_carryOutAct_4 fg_X6_282 rfl (L6_s35 hL) ?_
  rcases am_ite hf with ⟨h1, hf⟩ | ⟨h1, hf⟩
  · refine ar_lookup (tgt := 70) X dX6_carryOutAct_7 (by decide) (by rw [h1] <;> rfl) (by decide) ?_
    refine ar_aload_n X dX6_carryOutAct_70 rfl 0 rfl ?_
    refine ar_getr X dX6_carryOutAct_71 fg_X6_10 rfl (L6_s0 hL) (L6_p0_0 hL) ?_
    refine ar_aload_n X dX6_carryOutAct_74 rfl 0 rfl ?_
    refine ar_getr X dX6_carryOutAct_75 fg_X6_33 rfl (L6_s0 hL) (L6_p0_4 hL) ?_
    refine ar_geti X dX6_carryOutAct_78 fg_X6_285 rfl (L6_s35 hL) ?_
    refine ar_aload_n X dX6_carryOutAct_81 rfl 0 rfl ?_
    refine ar_getr X dX6_carryOutAct_82 fg_X6_33 rfl (L6_s0 hL) (L6_p0_4 hL) ?_
    refine ar_geti X dX6_carryOutAct_85 fg_X6_288 rfl (L6_s35 hL) ?_
    obtain ⟨r2, I2, h2, hf⟩ := am_b2_e hf
    refine ar_cVi (As := [.int (I (o + 35) 4), .int (I (o + 35) 5)]) (st := []) X dX6_carryOutAct_88 (am_X1_takeBid (L6_c1 hL) h2) lk_X6_101 mt_X1_takeBid mi_X1_takeBid (L6_s1 hL) rfl rfl (Nat.le_of_ble_eq_true rfl) ⟨by decide, by decide⟩ ⟨Nat.zero_le _, Nat.zero_le _⟩ rfl ?_
    cases hf
    exact ar_iret X dX6_carryOutAct_91 hR (Nat.le_refl _) (Nat.le_refl _)
  rcases am_ite hf with ⟨h3, hf⟩ | ⟨h3, hf⟩
  · refine ar_lookup (tgt := 107) X dX6_carryOutAct_7 (by decide) (by rw [h3] <;> rfl) (by decide) ?_
    refine ar_aload_n X dX6_carryOutAct_107 rfl 0 rfl ?_
    refine ar_getr X dX6_carryOutAct_108 fg_X6_10 rfl (L6_s0 hL) (L6_p0_0 hL) ?_
    obtain ⟨r4, I4, h4, hf⟩ := am_b2_e hf
    refine ar_cVi (As := []) (st := []) X dX6_carryOutAct_111 (am_X1_moveAlone (L6_c1 hL) h4) lk_X6_108 mt_X1_moveAlone mi_X1_moveAlone (L6_s1 hL) rfl rfl (Nat.le_of_ble_eq_true rfl) ⟨by decide, by decide⟩ ⟨Nat.zero_le _, Nat.zero_le _⟩ rfl ?_
    cases hf
    exact ar_iret X dX6_carryOutAct_114 hR (Nat.le_refl _) (Nat.le_refl _)
  rcases am_ite hf with ⟨h5, hf⟩ | ⟨h5, hf⟩
  · refine ar_lookup (tgt := 92) X dX6_carryOutAct_7 (by decide) (by rw [h5] <;> rfl) (by decide) ?_
    refine ar_aload_n X dX6_carryOutAct_92 rfl 0 rfl ?_
    refine ar_getr X dX6_carryOutAct_93 fg_X6_10 rfl (L6_s0 hL) (L6_p0_0 hL) ?_
    refine ar_aload_n X dX6_carryOutAct_96 rfl 0 rfl ?_
    refine ar_getr X dX6_carryOutAct_97 fg_X6_33 rfl (L6_s0 hL) (L6_p0_4 hL) ?_
    refine ar_geti X dX6_carryOutAct_100 fg_X6_285 rfl (L6_s35 hL) ?_
    obtain ⟨r6, I6, h6, hf⟩ := am_b2_e hf
    refine ar_cVi (As := [.int (I (o + 35) 4)]) (st := []) X dX6_carryOutAct_103 (am_X1_takePass (L6_c1 hL) h6) lk_X6_104 mt_X1_takePass mi_X1_takePass (L6_s1 hL) rfl rfl (Nat.le_of_ble_eq_true rfl) ⟨by decide, by decide⟩ ⟨Nat.zero_le _, Nat.zero_le _⟩ rfl ?_
    cases hf
    exact ar_iret X dX6_carryOutAct_106 hR (Nat.le_refl _) (Nat.le_refl _)
  rcases am_ite hf with ⟨h7, hf⟩ | ⟨h7, hf⟩
  · refine ar_lookup (tgt := 48) X dX6_carryOutAct_7 (by decide) (by rw [h7] <;> rfl) (by decide) ?_
    refine ar_aload_n X dX6_carryOutAct_48 rfl 0 rfl ?_
    refine ar_getr X dX6_carryOutAct_49 fg_X6_10 rfl (L6_s0 hL) (L6_p0_0 hL) ?_
    refine ar_aload_n X dX6_carryOutAct_52 rfl 0 rfl ?_
    refine ar_getr X dX6_carryOutAct_53 fg_X6_33 rfl (L6_s0 hL) (L6_p0_4 hL) ?_
    refine ar_geti X dX6_carryOutAct_56 fg_X6_285 rfl (L6_s35 hL) ?_
    refine ar_aload_n X dX6_carryOutAct_59 rfl 0 rfl ?_
    refine ar_getr X dX6_carryOutAct_60 fg_X6_33 rfl (L6_s0 hL) (L6_p0_4 hL) ?_
    refine ar_geti X dX6_carryOutAct_63 fg_X6_288 rfl (L6_s35 hL) ?_
    obtain ⟨r8, I8, h8, hf⟩ := am_b2_e hf
    refine ar_cVi (As := [.int (I (o + 35) 4), .int (I (o + 35) 5)]) (st := []) X dX6_carryOutAct_66 (am_X1_startAuction (L6_c1 hL) h8) lk_X6_98 mt_X1_startAuction mi_X1_startAuction (L6_s1 hL) rfl rfl (Nat.le_of_ble_eq_true rfl) ⟨by decide, by decide⟩ ⟨Nat.zero_le _, Nat.zero_le _⟩ rfl ?_
    cases hf
    exact ar_iret X dX6_carryOutAct_69 hR (Nat.le_refl _) (Nat.le_refl _)
  refine ar_lookup (tgt := 115) (off := 108) X dX6_carryOutAct_7 (by decide) ?_ (by decide) ?_
  · simp only [Op.lookupswitch.offset]
    have h1' : ¬ (I (o + 35) 3).toInt = 98 := fun h => h1 (Int32.toInt_inj.mp h)
    have h1'' : ¬ 98 = (I (o + 35) 3).toInt := fun h => h1' h.symm
    have h3' : ¬ (I (o + 35) 3).toInt = 109 := fun h => h3 (Int32.toInt_inj.mp h)
    have h3'' : ¬ 109 = (I (o + 35) 3).toInt := fun h => h3' h.symm
    have h5' : ¬ (I (o + 35) 3).toInt = 112 := fun h => h5 (Int32.toInt_inj.mp h)
    have h5'' : ¬ 112 = (I (o + 35) 3).toInt := fun h => h5' h.symm
    have h7' : ¬ (I (o + 35) 3).toInt = 115 := fun h => h7 (Int32.toInt_inj.mp h)
    have h7'' : ¬ 115 = (I (o + 35) 3).toInt := fun h => h7' h.symm
    simp [h1', h1'', h3', h3'', h5', h5'', h7', h7'']
  refine ar_aload_n X dX6_carryOutAct_115 rfl 0 rfl ?_
  refine ar_getr X dX6_carryOutAct_116 fg_X6_10 rfl (L6_s0 hL) (L6_p0_0 hL) ?_
  obtain ⟨r9, I9, h9, hf⟩ := am_b2_e hf
  refine ar_cVi (As := []) (st := []) X dX6_carryOutAct_119 (am_X1_giveLast (L6_c1 hL) h9) lk_X6_112 mt_X1_giveLast mi_X1_giveLast (L6_s1 hL) rfl rfl (Nat.le_of_ble_eq_true rfl) ⟨by decide, by decide⟩ ⟨Nat.zero_le _, Nat.zero_le _⟩ rfl ?_
  cases hf
  exact ar_iret X dX6_carryOutAct_122 hR (Nat.le_refl _) (Nat.le_refl _)
def f_X6_isError  (a0 : Int32) : Option Int32 :=
  if 0 ≤ a0 then (
    some (0 : Int32))
  else (
    if a0 = (-6 : Int32) then (
      some (0 : Int32))
    else (
      some (1 : Int32)))
set_option maxRecDepth 100000 in
set_option maxHeartbeats 4000000 in
theorem am_X6_isError {sh : aS} {P : aP} {I : aI} {J : aJ}   {a0 : Int32} {r : Int32} (hf : f_X6_isError a0 = some r) : AM yX6_isError cX6_isError 1 (some .boolean) 0 0 [.int a0] sh P I J (some (.int r)) sh P I J 0 0 := by
  refine am_met (by decide +kernel) (Nat.le_of_ble_eq_true rfl) (fun K X hR => ?_)
  have X : am_C K cX6_isError 1 RX6 "isError" ({ frames := 0, cells := 0, slots := 0, locals := 0 } : Room) := X
  show AW K 1 0 [(0, .int a0)] [] sh P I J 0 0
  unfold f_X6_isError at hf
  refine ar_iload_n X dX6_isError_0 rfl 0 rfl ?_
  refine ar_if_ge (tgt := 14) X dX6_isError_1 (by decide) hf (fun h1 hf => ?_) (fun h1 hf => ?_)
  · refine ar_iconst (v := 0) X dX6_isError_14 (by decide) ?_
    cases hf
    exact ar_zret X dX6_isError_15 rfl hR (Nat.le_refl _) (Nat.le_refl _)
  · refine ar_iload_n X dX6_isError_4 rfl 0 rfl ?_
    refine ar_bipush (v := -6) X dX6_isError_5 (by decide) ?_
    refine ar_icmp_eq (tgt := 14) X dX6_isError_7 (by decide) hf (fun h2 hf => ?_) (fun h2 hf => ?_)
    · refine ar_iconst (v := 0) X dX6_isError_14 (by decide) ?_
      cases hf
      exact ar_zret X dX6_isError_15 rfl hR (Nat.le_refl _) (Nat.le_refl _)
    · refine ar_iconst (v := 1) X dX6_isError_10 (by decide) ?_
      refine ar_goto (tgt := 15) X dX6_isError_11 (by decide) ?_
      cases hf
      exact ar_zret X dX6_isError_15 rfl hR (Nat.le_refl _) (Nat.le_refl _)
def f_X6_carryOut_h26 (o : Nat) : Nat → Int32 → Int32 → aI → Option (Int32 × aI)
  | 0, _, _, _ => none
  | n + 1, l1, l2, I =>
    if (60 : Int32) ≤ l2 then (
      am_b1 (f_X3_empty (o + 35) I) fun I2 =>
      some (l1, I2))
    else (
      am_b2 (f_X3_readAct (o + 35) I) fun r3 I3 =>
      if r3 = 0 then (
        am_b1 (f_X3_empty (o + 35) I3) fun I5 =>
        some (l1, I5))
      else (
        am_b2 (f_X6_carryOutAct o I3) fun r6 I6 =>
        am_b1 (f_X6_isError r6) fun r7 =>
        if r7 = 0 then (
          am_b2 (f_X3_readSign (o + 35) (44 : Int32) I6) fun r9 I9 =>
          if r9 = 0 then (
            am_b1 (f_X3_empty (o + 35) I9) fun I11 =>
            some ((l1 + 1), I11))
          else (
            f_X6_carryOut_h26 o n (l1 + 1) (l2 + 1) I9))
        else (
          am_b1 (f_X3_empty (o + 35) I6) fun I12 =>
          some (l1, I12))))
set_option maxRecDepth 100000 in
set_option maxHeartbeats 4000000 in
theorem ab_X6_carryOut_h26 {K : aK} {sh : aS} {P : aP} {J : aJ} {o : Nat} (X : am_C K cX6_carryOut 3 RX6 "carryOut" ({ frames := 6, cells := 0, slots := 0, locals := 140 } : Room)) (hL : L6 sh P o) {r : Int32} {I9 : aI} (hR : am_R K (some .int) (some (.int r)) sh P I9 J 0 0) : ∀ (n : Nat) (l1 : Int32) (l2 : Int32) (I : aI) , f_X6_carryOut_h26 o n l1 l2 I = some (r, I9) → AW K 3 26 [(0, .ref o), (1, .int l1), (2, .int l2)] [] sh P I J 0 0 := by
  intro n
  induction n with
  | zero =>
    intro l1 l2 I hf
    cases hf
  | succ n ih =>
    intro l1 l2 I hf
    rw [f_X6_carryOut_h26] at hf
    refine ar_iload_n X dX6_carryOut_26 rfl 2 rfl ?_
    refine ar_bipush (v := 60) X dX6_carryOut_27 (by decide) ?_
    refine ar_icmp_ge (tgt := 79) X dX6_carryOut_29 (by decide) hf (fun h1 hf => ?_) (fun h1 hf => ?_)
    · refine ar_aload_n X dX6_carryOut_79 rfl 0 rfl ?_
      refine ar_getr X dX6_carryOut_80 fg_X6_33 rfl (L6_s0 hL) (L6_p0_4 hL) ?_
      obtain ⟨I2, h2, hf⟩ := am_b1_e hf
      refine ar_cVv (As := []) (st := []) X dX6_carryOut_83 (am_X3_empty (L6_c35 hL) h2) lk_X6_260 mt_X3_empty mi_X3_empty (L6_s35 hL) rfl rfl (Nat.le_of_ble_eq_true rfl) ⟨by decide, by decide⟩ ⟨Nat.zero_le _, Nat.zero_le _⟩ rfl ?_
      refine ar_iload_n X dX6_carryOut_86 rfl 1 rfl ?_
      cases hf
      exact ar_iret X dX6_carryOut_87 hR (Nat.le_refl _) (Nat.le_refl _)
    · refine ar_aload_n X dX6_carryOut_32 rfl 0 rfl ?_
      refine ar_getr X dX6_carryOut_33 fg_X6_33 rfl (L6_s0 hL) (L6_p0_4 hL) ?_
      obtain ⟨r3, I3, h3, hf⟩ := am_b2_e hf
      refine ar_cVi (As := []) (st := []) X dX6_carryOut_36 (am_X3_readAct (L6_c35 hL) h3) lk_X6_269 mt_X3_readAct mi_X3_readAct (L6_s35 hL) rfl rfl (Nat.le_of_ble_eq_true rfl) ⟨by decide, by decide⟩ ⟨Nat.zero_le _, Nat.zero_le _⟩ rfl ?_
      refine ar_if_eq (tgt := 79) X dX6_carryOut_39 (by decide) hf (fun h4 hf => ?_) (fun h4 hf => ?_)
      · refine ar_aload_n X dX6_carryOut_79 rfl 0 rfl ?_
        refine ar_getr X dX6_carryOut_80 fg_X6_33 rfl (L6_s0 hL) (L6_p0_4 hL) ?_
        obtain ⟨I5, h5, hf⟩ := am_b1_e hf
        refine ar_cVv (As := []) (st := []) X dX6_carryOut_83 (am_X3_empty (L6_c35 hL) h5) lk_X6_260 mt_X3_empty mi_X3_empty (L6_s35 hL) rfl rfl (Nat.le_of_ble_eq_true rfl) ⟨by decide, by decide⟩ ⟨Nat.zero_le _, Nat.zero_le _⟩ rfl ?_
        refine ar_iload_n X dX6_carryOut_86 rfl 1 rfl ?_
        cases hf
        exact ar_iret X dX6_carryOut_87 hR (Nat.le_refl _) (Nat.le_refl _)
      · refine ar_aload_n X dX6_carryOut_42 rfl 0 rfl ?_
        obtain ⟨r6, I6, h6, hf⟩ := am_b2_e hf
        refine ar_cVi (As := []) (st := []) X dX6_carryOut_43 (am_X6_carryOutAct hL h6) lk_X6_272 mt_X6_carryOutAct mi_X6_carryOutAct (L6_s0 hL) rfl rfl (Nat.le_of_ble_eq_true rfl) ⟨by decide, by decide⟩ ⟨Nat.zero_le _, Nat.zero_le _⟩ rfl ?_
        obtain ⟨r7, h7, hf⟩ := am_b1_e hf
        refine ar_cSi (As := [.int r6]) (st := []) X dX6_carryOut_46 (am_X6_isError h7) lk_X6_275 mt_X6_isError ms_X6_isError rfl (Nat.le_of_ble_eq_true rfl) ⟨by decide, by decide⟩ ⟨Nat.zero_le _, Nat.zero_le _⟩ rfl ?_
        refine ar_if_eq (tgt := 55) X dX6_carryOut_49 (by decide) hf (fun h8 hf => ?_) (fun h8 hf => ?_)
        · refine ar_iinc (j := 1) (v := (l1 + 1)) X dX6_carryOut_55 rfl rfl (by decide) rfl ?_
          refine ar_aload_n X dX6_carryOut_58 rfl 1 rfl ?_
          refine ar_getr X dX6_carryOut_59 fg_X6_33 rfl (L6_s0 hL) (L6_p0_4 hL) ?_
          refine ar_bipush (v := 44) X dX6_carryOut_62 (by decide) ?_
          obtain ⟨r9, I9, h9, hf⟩ := am_b2_e hf
          refine ar_cVi (As := [.int (44 : Int32)]) (st := []) X dX6_carryOut_64 (am_X3_readSign (L6_c35 hL) h9) lk_X6_278 mt_X3_readSign mi_X3_readSign (L6_s35 hL) rfl rfl (Nat.le_of_ble_eq_true rfl) ⟨by decide, by decide⟩ ⟨Nat.zero_le _, Nat.zero_le _⟩ rfl ?_
          refine ar_if_ne (tgt := 73) X dX6_carryOut_67 (by decide) hf (fun h10 hf => ?_) (fun h10 hf => ?_)
          · refine ar_goto (tgt := 79) X dX6_carryOut_70 (by decide) ?_
            refine ar_aload_n X dX6_carryOut_79 rfl 1 rfl ?_
            refine ar_getr X dX6_carryOut_80 fg_X6_33 rfl (L6_s0 hL) (L6_p0_4 hL) ?_
            obtain ⟨I11, h11, hf⟩ := am_b1_e hf
            refine ar_cVv (As := []) (st := []) X dX6_carryOut_83 (am_X3_empty (L6_c35 hL) h11) lk_X6_260 mt_X3_empty mi_X3_empty (L6_s35 hL) rfl rfl (Nat.le_of_ble_eq_true rfl) ⟨by decide, by decide⟩ ⟨Nat.zero_le _, Nat.zero_le _⟩ rfl ?_
            refine ar_iload_n X dX6_carryOut_86 rfl 0 rfl ?_
            cases hf
            exact ar_iret X dX6_carryOut_87 hR (Nat.le_refl _) (Nat.le_refl _)
          · refine ar_iinc (j := 2) (v := (l2 + 1)) X dX6_carryOut_73 rfl rfl (by decide) rfl ?_
            refine ar_goto (tgt := 26) X dX6_carryOut_76 (by decide) ?_
            refine ar_lo [2, 1, 0] rfl ?_
            exact ih (l1 + 1) (l2 + 1) I9 hf
        · refine ar_goto (tgt := 79) X dX6_carryOut_52 (by decide) ?_
          refine ar_aload_n X dX6_carryOut_79 rfl 0 rfl ?_
          refine ar_getr X dX6_carryOut_80 fg_X6_33 rfl (L6_s0 hL) (L6_p0_4 hL) ?_
          obtain ⟨I12, h12, hf⟩ := am_b1_e hf
          refine ar_cVv (As := []) (st := []) X dX6_carryOut_83 (am_X3_empty (L6_c35 hL) h12) lk_X6_260 mt_X3_empty mi_X3_empty (L6_s35 hL) rfl rfl (Nat.le_of_ble_eq_true rfl) ⟨by decide, by decide⟩ ⟨Nat.zero_le _, Nat.zero_le _⟩ rfl ?_
          refine ar_iload_n X dX6_carryOut_86 rfl 1 rfl ?_
          cases hf
          exact ar_iret X dX6_carryOut_87 hR (Nat.le_refl _) (Nat.le_refl _)
def f_X6_carryOut (o : Nat)  (I : aI) : Option (Int32 × aI) :=
  am_b2 (f_X3_firstFault (o + 35) I) fun r1 I1 =>
  if r1 = (-6 : Int32) then (
    am_b1 (f_X3_toStart (o + 35) I1) fun I3 =>
    f_X6_carryOut_h26 o am_F (0 : Int32) (0 : Int32) I3)
  else (
    some ((-3 : Int32), I1))
set_option maxRecDepth 100000 in
set_option maxHeartbeats 4000000 in
theorem am_X6_carryOut {sh : aS} {P : aP} {I : aI} {J : aJ} {o : Nat} (hL : L6 sh P o)  {r : Int32} {I9 : aI} (hf : f_X6_carryOut o I = some (r, I9)) : AM yX6_carryOut cX6_carryOut 3 (some .int) 6 140 [.ref o] sh P I J (some (.int r)) sh P I9 J 0 0 := by
  refine am_met (by decide +kernel) (Nat.le_of_ble_eq_true rfl) (fun K X hR => ?_)
  have X : am_C K cX6_carryOut 3 RX6 "carryOut" ({ frames := 6, cells := 0, slots := 0, locals := 140 } : Room) := X
  show AW K 3 0 [(0, .ref o)] [] sh P I J 0 0
  unfold f_X6_carryOut at hf
  refine ar_aload_n X dX6_carryOut_0 rfl 0 rfl ?_
  refine ar_getr X dX6_carryOut_1 fg_X6_33 rfl (L6_s0 hL) (L6_p0_4 hL) ?_
  obtain ⟨r1, I1, h1, hf⟩ := am_b2_e hf
  refine ar_cVi (As := []) (st := []) X dX6_carryOut_4 (am_X3_firstFault (L6_c35 hL) h1) lk_X6_263 mt_X3_firstFault mi_X3_firstFault (L6_s35 hL) rfl rfl (Nat.le_of_ble_eq_true rfl) ⟨by decide, by decide⟩ ⟨Nat.zero_le _, Nat.zero_le _⟩ rfl ?_
  refine ar_bipush (v := -6) X dX6_carryOut_7 (by decide) ?_
  refine ar_icmp_eq (tgt := 15) X dX6_carryOut_9 (by decide) hf (fun h2 hf => ?_) (fun h2 hf => ?_)
  · refine ar_iconst (v := 0) X dX6_carryOut_15 (by decide) ?_
    refine ar_istore_n X dX6_carryOut_16 rfl (by decide) rfl ?_
    refine ar_aload_n X dX6_carryOut_17 rfl 1 rfl ?_
    refine ar_getr X dX6_carryOut_18 fg_X6_33 rfl (L6_s0 hL) (L6_p0_4 hL) ?_
    obtain ⟨I3, h3, hf⟩ := am_b1_e hf
    refine ar_cVv (As := []) (st := []) X dX6_carryOut_21 (am_X3_toStart (L6_c35 hL) h3) lk_X6_266 mt_X3_toStart mi_X3_toStart (L6_s35 hL) rfl rfl (Nat.le_of_ble_eq_true rfl) ⟨by decide, by decide⟩ ⟨Nat.zero_le _, Nat.zero_le _⟩ rfl ?_
    refine ar_iconst (v := 0) X dX6_carryOut_24 (by decide) ?_
    refine ar_istore_n X dX6_carryOut_25 rfl (by decide) rfl ?_
    refine ar_lo [2, 1, 0] rfl ?_
    exact ab_X6_carryOut_h26 X hL hR am_F (0 : Int32) (0 : Int32) I3 hf
  · refine ar_bipush (v := -3) X dX6_carryOut_12 (by decide) ?_
    cases hf
    exact ar_iret X dX6_carryOut_14 hR (Nat.le_refl _) (Nat.le_refl _)
def f_X6_count (o : Nat) (a1 : Int32) (I : aI) : Option Int32 :=
  am_b1 (f_X6_isSetting (a1 - (13 : Int32))) fun r1 =>
  if r1 = 0 then (
    if a1 = (0 : Int32) then (
      some (I (o + 3) 0))
    else if a1 = (1 : Int32) then (
      some (I (o + 9) 0))
    else if a1 = (2 : Int32) then (
      am_b1 (f_X2_next (o + 9) I) fun r6 =>
      some r6)
    else if a1 = (3 : Int32) then (
      am_b1 (f_X1_starter (o + 1) I) fun r8 =>
      some r8)
    else if a1 = (4 : Int32) then (
      am_b1 (f_X0_goesOn (o + 14) I) fun r10 =>
      if r10 = 0 then (
        some (0 : Int32))
      else (
        some (1 : Int32)))
    else if a1 = (5 : Int32) then (
      some (I (o + 14) 0))
    else if a1 = (6 : Int32) then (
      some (I (o + 14) 2))
    else if a1 = (7 : Int32) then (
      some (I (o + 14) 3))
    else if a1 = (8 : Int32) then (
      some (I (o + 14) 4))
    else if a1 = (9 : Int32) then (
      some (I (o + 14) 5))
    else if a1 = (10 : Int32) then (
      am_b1 (f_X4_sum (o + 3) I) fun r18 =>
      some r18)
    else if a1 = (11 : Int32) then (
      am_b1 (f_X4_paidByAll (o + 3) I) fun r20 =>
      some r20)
    else if a1 = (12 : Int32) then (
      some (I (o + 35) 1))
    else (
      some (-2 : Int32)))
  else (
    am_b1 (f_X1_settingOf (o + 1) (a1 - (13 : Int32)) I) fun r22 =>
    some r22)
set_option maxRecDepth 100000 in
set_option maxHeartbeats 4000000 in
theorem am_X6_count {sh : aS} {P : aP} {I : aI} {J : aJ} {o : Nat} (hL : L6 sh P o) {a1 : Int32} {r : Int32} (hf : f_X6_count o a1 I = some r) : AM yX6_count cX6_count 2 (some .int) 3 64 [.ref o, .int a1] sh P I J (some (.int r)) sh P I J 0 0 := by
  refine am_met (by decide +kernel) (Nat.le_of_ble_eq_true rfl) (fun K X hR => ?_)
  have X : am_C K cX6_count 2 RX6 "count" ({ frames := 3, cells := 0, slots := 0, locals := 64 } : Room) := X
  show AW K 2 0 [(0, .ref o), (1, .int a1)] [] sh P I J 0 0
  unfold f_X6_count at hf
  refine ar_iload_n X dX6_count_0 rfl 1 rfl ?_
  refine ar_bipush (v := 13) X dX6_count_1 (by decide) ?_
  refine ar_isub X dX6_count_3 ?_
  obtain ⟨r1, h1, hf⟩ := am_b1_e hf
  refine ar_cSi (As := [.int (a1 - (13 : Int32))]) (st := []) X dX6_count_4 (am_X6_isSetting h1) lk_X6_166 mt_X6_isSetting ms_X6_isSetting rfl (Nat.le_of_ble_eq_true rfl) ⟨by decide, by decide⟩ ⟨Nat.zero_le _, Nat.zero_le _⟩ rfl ?_
  refine ar_if_eq (tgt := 22) X dX6_count_7 (by decide) hf (fun h2 hf => ?_) (fun h2 hf => ?_)
  · refine ar_iload_n X dX6_count_22 rfl 1 rfl ?_
    rcases am_ite hf with ⟨h3, hf⟩ | ⟨h3, hf⟩
    · refine ar_tableIn (tgt := 88) X dX6_count_23 (by rw [h3]; decide) (by rw [h3]; decide) (by rw [h3]; rfl) (by decide) ?_
      refine ar_aload_n X dX6_count_88 rfl 0 rfl ?_
      refine ar_getr X dX6_count_89 fg_X6_10 rfl (L6_s0 hL) (L6_p0_0 hL) ?_
      refine ar_getr X dX6_count_92 fg_X6_45 rfl (L6_s1 hL) (L6_p1_1 hL) ?_
      refine ar_geti X dX6_count_95 fg_X6_49 rfl (L6_s3 hL) ?_
      cases hf
      exact ar_iret X dX6_count_98 hR (Nat.le_refl _) (Nat.le_refl _)
    rcases am_ite hf with ⟨h4, hf⟩ | ⟨h4, hf⟩
    · refine ar_tableIn (tgt := 99) X dX6_count_23 (by rw [h4]; decide) (by rw [h4]; decide) (by rw [h4]; rfl) (by decide) ?_
      refine ar_aload_n X dX6_count_99 rfl 0 rfl ?_
      refine ar_getr X dX6_count_100 fg_X6_10 rfl (L6_s0 hL) (L6_p0_0 hL) ?_
      refine ar_getr X dX6_count_103 fg_X6_86 rfl (L6_s1 hL) (L6_p1_2 hL) ?_
      refine ar_geti X dX6_count_106 fg_X6_172 rfl (L6_s9 hL) ?_
      cases hf
      exact ar_iret X dX6_count_109 hR (Nat.le_refl _) (Nat.le_refl _)
    rcases am_ite hf with ⟨h5, hf⟩ | ⟨h5, hf⟩
    · refine ar_tableIn (tgt := 110) X dX6_count_23 (by rw [h5]; decide) (by rw [h5]; decide) (by rw [h5]; rfl) (by decide) ?_
      refine ar_aload_n X dX6_count_110 rfl 0 rfl ?_
      refine ar_getr X dX6_count_111 fg_X6_10 rfl (L6_s0 hL) (L6_p0_0 hL) ?_
      refine ar_getr X dX6_count_114 fg_X6_86 rfl (L6_s1 hL) (L6_p1_2 hL) ?_
      obtain ⟨r6, h6, hf⟩ := am_b1_e hf
      refine ar_cVi (As := []) (st := []) X dX6_count_117 (am_X2_next (L6_c9 hL) h6) lk_X6_175 mt_X2_next mi_X2_next (L6_s9 hL) rfl rfl (Nat.le_of_ble_eq_true rfl) ⟨by decide, by decide⟩ ⟨Nat.zero_le _, Nat.zero_le _⟩ rfl ?_
      cases hf
      exact ar_iret X dX6_count_120 hR (Nat.le_refl _) (Nat.le_refl _)
    rcases am_ite hf with ⟨h7, hf⟩ | ⟨h7, hf⟩
    · refine ar_tableIn (tgt := 121) X dX6_count_23 (by rw [h7]; decide) (by rw [h7]; decide) (by rw [h7]; rfl) (by decide) ?_
      refine ar_aload_n X dX6_count_121 rfl 0 rfl ?_
      refine ar_getr X dX6_count_122 fg_X6_10 rfl (L6_s0 hL) (L6_p0_0 hL) ?_
      obtain ⟨r8, h8, hf⟩ := am_b1_e hf
      refine ar_cVi (As := []) (st := []) X dX6_count_125 (am_X1_starter (L6_c1 hL) h8) lk_X6_178 mt_X1_starter mi_X1_starter (L6_s1 hL) rfl rfl (Nat.le_of_ble_eq_true rfl) ⟨by decide, by decide⟩ ⟨Nat.zero_le _, Nat.zero_le _⟩ rfl ?_
      cases hf
      exact ar_iret X dX6_count_128 hR (Nat.le_refl _) (Nat.le_refl _)
    rcases am_ite hf with ⟨h9, hf⟩ | ⟨h9, hf⟩
    · refine ar_tableIn (tgt := 129) X dX6_count_23 (by rw [h9]; decide) (by rw [h9]; decide) (by rw [h9]; rfl) (by decide) ?_
      refine ar_aload_n X dX6_count_129 rfl 0 rfl ?_
      refine ar_getr X dX6_count_130 fg_X6_10 rfl (L6_s0 hL) (L6_p0_0 hL) ?_
      refine ar_getr X dX6_count_133 fg_X6_59 rfl (L6_s1 hL) (L6_p1_3 hL) ?_
      obtain ⟨r10, h10, hf⟩ := am_b1_e hf
      refine ar_cVi (As := []) (st := []) X dX6_count_136 (am_X0_goesOn (L6_c14 hL) h10) lk_X6_63 mt_X0_goesOn mi_X0_goesOn (L6_s14 hL) rfl rfl (Nat.le_of_ble_eq_true rfl) ⟨by decide, by decide⟩ ⟨Nat.zero_le _, Nat.zero_le _⟩ rfl ?_
      refine ar_if_eq (tgt := 146) X dX6_count_139 (by decide) hf (fun h11 hf => ?_) (fun h11 hf => ?_)
      · refine ar_iconst (v := 0) X dX6_count_146 (by decide) ?_
        cases hf
        exact ar_iret X dX6_count_147 hR (Nat.le_refl _) (Nat.le_refl _)
      · refine ar_iconst (v := 1) X dX6_count_142 (by decide) ?_
        refine ar_goto (tgt := 147) X dX6_count_143 (by decide) ?_
        cases hf
        exact ar_iret X dX6_count_147 hR (Nat.le_refl _) (Nat.le_refl _)
    rcases am_ite hf with ⟨h12, hf⟩ | ⟨h12, hf⟩
    · refine ar_tableIn (tgt := 148) X dX6_count_23 (by rw [h12]; decide) (by rw [h12]; decide) (by rw [h12]; rfl) (by decide) ?_
      refine ar_aload_n X dX6_count_148 rfl 0 rfl ?_
      refine ar_getr X dX6_count_149 fg_X6_10 rfl (L6_s0 hL) (L6_p0_0 hL) ?_
      refine ar_getr X dX6_count_152 fg_X6_59 rfl (L6_s1 hL) (L6_p1_3 hL) ?_
      refine ar_geti X dX6_count_155 fg_X6_181 rfl (L6_s14 hL) ?_
      cases hf
      exact ar_iret X dX6_count_158 hR (Nat.le_refl _) (Nat.le_refl _)
    rcases am_ite hf with ⟨h13, hf⟩ | ⟨h13, hf⟩
    · refine ar_tableIn (tgt := 159) X dX6_count_23 (by rw [h13]; decide) (by rw [h13]; decide) (by rw [h13]; rfl) (by decide) ?_
      refine ar_aload_n X dX6_count_159 rfl 0 rfl ?_
      refine ar_getr X dX6_count_160 fg_X6_10 rfl (L6_s0 hL) (L6_p0_0 hL) ?_
      refine ar_getr X dX6_count_163 fg_X6_59 rfl (L6_s1 hL) (L6_p1_3 hL) ?_
      refine ar_geti X dX6_count_166 fg_X6_184 rfl (L6_s14 hL) ?_
      cases hf
      exact ar_iret X dX6_count_169 hR (Nat.le_refl _) (Nat.le_refl _)
    rcases am_ite hf with ⟨h14, hf⟩ | ⟨h14, hf⟩
    · refine ar_tableIn (tgt := 170) X dX6_count_23 (by rw [h14]; decide) (by rw [h14]; decide) (by rw [h14]; rfl) (by decide) ?_
      refine ar_aload_n X dX6_count_170 rfl 0 rfl ?_
      refine ar_getr X dX6_count_171 fg_X6_10 rfl (L6_s0 hL) (L6_p0_0 hL) ?_
      refine ar_getr X dX6_count_174 fg_X6_59 rfl (L6_s1 hL) (L6_p1_3 hL) ?_
      refine ar_geti X dX6_count_177 fg_X6_187 rfl (L6_s14 hL) ?_
      cases hf
      exact ar_iret X dX6_count_180 hR (Nat.le_refl _) (Nat.le_refl _)
    rcases am_ite hf with ⟨h15, hf⟩ | ⟨h15, hf⟩
    · refine ar_tableIn (tgt := 181) X dX6_count_23 (by rw [h15]; decide) (by rw [h15]; decide) (by rw [h15]; rfl) (by decide) ?_
      refine ar_aload_n X dX6_count_181 rfl 0 rfl ?_
      refine ar_getr X dX6_count_182 fg_X6_10 rfl (L6_s0 hL) (L6_p0_0 hL) ?_
      refine ar_getr X dX6_count_185 fg_X6_59 rfl (L6_s1 hL) (L6_p1_3 hL) ?_
      refine ar_geti X dX6_count_188 fg_X6_190 rfl (L6_s14 hL) ?_
      cases hf
      exact ar_iret X dX6_count_191 hR (Nat.le_refl _) (Nat.le_refl _)
    rcases am_ite hf with ⟨h16, hf⟩ | ⟨h16, hf⟩
    · refine ar_tableIn (tgt := 192) X dX6_count_23 (by rw [h16]; decide) (by rw [h16]; decide) (by rw [h16]; rfl) (by decide) ?_
      refine ar_aload_n X dX6_count_192 rfl 0 rfl ?_
      refine ar_getr X dX6_count_193 fg_X6_10 rfl (L6_s0 hL) (L6_p0_0 hL) ?_
      refine ar_getr X dX6_count_196 fg_X6_59 rfl (L6_s1 hL) (L6_p1_3 hL) ?_
      refine ar_geti X dX6_count_199 fg_X6_193 rfl (L6_s14 hL) ?_
      cases hf
      exact ar_iret X dX6_count_202 hR (Nat.le_refl _) (Nat.le_refl _)
    rcases am_ite hf with ⟨h17, hf⟩ | ⟨h17, hf⟩
    · refine ar_tableIn (tgt := 203) X dX6_count_23 (by rw [h17]; decide) (by rw [h17]; decide) (by rw [h17]; rfl) (by decide) ?_
      refine ar_aload_n X dX6_count_203 rfl 0 rfl ?_
      refine ar_getr X dX6_count_204 fg_X6_10 rfl (L6_s0 hL) (L6_p0_0 hL) ?_
      refine ar_getr X dX6_count_207 fg_X6_45 rfl (L6_s1 hL) (L6_p1_1 hL) ?_
      obtain ⟨r18, h18, hf⟩ := am_b1_e hf
      refine ar_cVi (As := []) (st := []) X dX6_count_210 (am_X4_sum (L6_c3 hL) h18) lk_X6_196 mt_X4_sum mi_X4_sum (L6_s3 hL) rfl rfl (Nat.le_of_ble_eq_true rfl) ⟨by decide, by decide⟩ ⟨Nat.zero_le _, Nat.zero_le _⟩ rfl ?_
      cases hf
      exact ar_iret X dX6_count_213 hR (Nat.le_refl _) (Nat.le_refl _)
    rcases am_ite hf with ⟨h19, hf⟩ | ⟨h19, hf⟩
    · refine ar_tableIn (tgt := 214) X dX6_count_23 (by rw [h19]; decide) (by rw [h19]; decide) (by rw [h19]; rfl) (by decide) ?_
      refine ar_aload_n X dX6_count_214 rfl 0 rfl ?_
      refine ar_getr X dX6_count_215 fg_X6_10 rfl (L6_s0 hL) (L6_p0_0 hL) ?_
      refine ar_getr X dX6_count_218 fg_X6_45 rfl (L6_s1 hL) (L6_p1_1 hL) ?_
      obtain ⟨r20, h20, hf⟩ := am_b1_e hf
      refine ar_cVi (As := []) (st := []) X dX6_count_221 (am_X4_paidByAll (L6_c3 hL) h20) lk_X6_199 mt_X4_paidByAll mi_X4_paidByAll (L6_s3 hL) rfl rfl (Nat.le_of_ble_eq_true rfl) ⟨by decide, by decide⟩ ⟨Nat.zero_le _, Nat.zero_le _⟩ rfl ?_
      cases hf
      exact ar_iret X dX6_count_224 hR (Nat.le_refl _) (Nat.le_refl _)
    rcases am_ite hf with ⟨h21, hf⟩ | ⟨h21, hf⟩
    · refine ar_tableIn (tgt := 225) X dX6_count_23 (by rw [h21]; decide) (by rw [h21]; decide) (by rw [h21]; rfl) (by decide) ?_
      refine ar_aload_n X dX6_count_225 rfl 0 rfl ?_
      refine ar_getr X dX6_count_226 fg_X6_33 rfl (L6_s0 hL) (L6_p0_4 hL) ?_
      refine ar_geti X dX6_count_229 fg_X6_202 rfl (L6_s35 hL) ?_
      cases hf
      exact ar_iret X dX6_count_232 hR (Nat.le_refl _) (Nat.le_refl _)
    have hout : a1.toInt < 0 ∨ 12 < a1.toInt := by
      refine Classical.byContradiction (fun hn => ?_)
      have hTT : a1.toInt = 0 ∨ a1.toInt = 1 ∨ a1.toInt = 2 ∨ a1.toInt = 3 ∨ a1.toInt = 4 ∨ a1.toInt = 5 ∨ a1.toInt = 6 ∨ a1.toInt = 7 ∨ a1.toInt = 8 ∨ a1.toInt = 9 ∨ a1.toInt = 10 ∨ a1.toInt = 11 ∨ a1.toInt = 12 := by omega
      rcases hTT with hTT | hTT | hTT | hTT | hTT | hTT | hTT | hTT | hTT | hTT | hTT | hTT | hTT
      · exact h3 (Int32.toInt_inj.mp hTT)
      · exact h4 (Int32.toInt_inj.mp hTT)
      · exact h5 (Int32.toInt_inj.mp hTT)
      · exact h7 (Int32.toInt_inj.mp hTT)
      · exact h9 (Int32.toInt_inj.mp hTT)
      · exact h12 (Int32.toInt_inj.mp hTT)
      · exact h13 (Int32.toInt_inj.mp hTT)
      · exact h14 (Int32.toInt_inj.mp hTT)
      · exact h15 (Int32.toInt_inj.mp hTT)
      · exact h16 (Int32.toInt_inj.mp hTT)
      · exact h17 (Int32.toInt_inj.mp hTT)
      · exact h19 (Int32.toInt_inj.mp hTT)
      · exact h21 (Int32.toInt_inj.mp hTT)
    refine ar_tableOut (tgt := 233) X dX6_count_23 hout (by decide) ?_
    refine ar_bipush (v := -2) X dX6_count_233 (by decide) ?_
    cases hf
    exact ar_iret X dX6_count_235 hR (Nat.le_refl _) (Nat.le_refl _)
  · refine ar_aload_n X dX6_count_10 rfl 0 rfl ?_
    refine ar_getr X dX6_count_11 fg_X6_10 rfl (L6_s0 hL) (L6_p0_0 hL) ?_
    refine ar_iload_n X dX6_count_14 rfl 1 rfl ?_
    refine ar_bipush (v := 13) X dX6_count_15 (by decide) ?_
    refine ar_isub X dX6_count_17 ?_
    obtain ⟨r22, h22, hf⟩ := am_b1_e hf
    refine ar_cVi (As := [.int (a1 - (13 : Int32))]) (st := []) X dX6_count_18 (am_X1_settingOf (L6_c1 hL) h22) lk_X6_169 mt_X1_settingOf mi_X1_settingOf (L6_s1 hL) rfl rfl (Nat.le_of_ble_eq_true rfl) ⟨by decide, by decide⟩ ⟨Nat.zero_le _, Nat.zero_le _⟩ rfl ?_
    cases hf
    exact ar_iret X dX6_count_21 hR (Nat.le_refl _) (Nat.le_refl _)
def f_X6_embolden (o : Nat) (a1 : Int32) (a2 : Int32) (I : aI) : Option (Int32 × aI) :=
  am_b1 (f_X4_hasSeat (o + 3) a1 I) fun r1 =>
  if r1 = 0 then (
    some ((-1 : Int32), I))
  else (
    am_b1 (f_X6_within a2 (0 : Int32) (30 : Int32)) fun r3 =>
    if r3 = 0 then (
      some ((-2 : Int32), I))
    else (
      am_b2 (f_X4_changeBoldness (o + 3) a1 a2 I) fun r5 I5 =>
      some (r5, I5)))
set_option maxRecDepth 100000 in
set_option maxHeartbeats 4000000 in
theorem am_X6_embolden {sh : aS} {P : aP} {I : aI} {J : aJ} {o : Nat} (hL : L6 sh P o) {a1 : Int32} {a2 : Int32} {r : Int32} {I9 : aI} (hf : f_X6_embolden o a1 a2 I = some (r, I9)) : AM yX6_embolden cX6_embolden 3 (some .int) 2 44 [.ref o, .int a1, .int a2] sh P I J (some (.int r)) sh P I9 J 0 0 := by
  refine am_met (by decide +kernel) (Nat.le_of_ble_eq_true rfl) (fun K X hR => ?_)
  have X : am_C K cX6_embolden 3 RX6 "embolden" ({ frames := 2, cells := 0, slots := 0, locals := 44 } : Room) := X
  show AW K 3 0 [(0, .ref o), (1, .int a1), (2, .int a2)] [] sh P I J 0 0
  unfold f_X6_embolden at hf
  refine ar_aload_n X dX6_embolden_0 rfl 0 rfl ?_
  refine ar_getr X dX6_embolden_1 fg_X6_10 rfl (L6_s0 hL) (L6_p0_0 hL) ?_
  refine ar_getr X dX6_embolden_4 fg_X6_45 rfl (L6_s1 hL) (L6_p1_1 hL) ?_
  refine ar_iload_n X dX6_embolden_7 rfl 1 rfl ?_
  obtain ⟨r1, h1, hf⟩ := am_b1_e hf
  refine ar_cVi (As := [.int a1]) (st := []) X dX6_embolden_8 (am_X4_hasSeat (L6_c3 hL) h1) lk_X6_73 mt_X4_hasSeat mi_X4_hasSeat (L6_s3 hL) rfl rfl (Nat.le_of_ble_eq_true rfl) ⟨by decide, by decide⟩ ⟨Nat.zero_le _, Nat.zero_le _⟩ rfl ?_
  refine ar_if_ne (tgt := 16) X dX6_embolden_11 (by decide) hf (fun h2 hf => ?_) (fun h2 hf => ?_)
  · refine ar_iconst (v := -1) X dX6_embolden_14 (by decide) ?_
    cases hf
    exact ar_iret X dX6_embolden_15 hR (Nat.le_refl _) (Nat.le_refl _)
  · refine ar_iload_n X dX6_embolden_16 rfl 2 rfl ?_
    refine ar_iconst (v := 0) X dX6_embolden_17 (by decide) ?_
    refine ar_bipush (v := 30) X dX6_embolden_18 (by decide) ?_
    obtain ⟨r3, h3, hf⟩ := am_b1_e hf
    refine ar_cSi (As := [.int a2, .int (0 : Int32), .int (30 : Int32)]) (st := []) X dX6_embolden_20 (am_X6_within h3) lk_X6_41 mt_X6_within ms_X6_within rfl (Nat.le_of_ble_eq_true rfl) ⟨by decide, by decide⟩ ⟨Nat.zero_le _, Nat.zero_le _⟩ rfl ?_
    refine ar_if_ne (tgt := 29) X dX6_embolden_23 (by decide) hf (fun h4 hf => ?_) (fun h4 hf => ?_)
    · refine ar_bipush (v := -2) X dX6_embolden_26 (by decide) ?_
      cases hf
      exact ar_iret X dX6_embolden_28 hR (Nat.le_refl _) (Nat.le_refl _)
    · refine ar_aload_n X dX6_embolden_29 rfl 0 rfl ?_
      refine ar_getr X dX6_embolden_30 fg_X6_10 rfl (L6_s0 hL) (L6_p0_0 hL) ?_
      refine ar_getr X dX6_embolden_33 fg_X6_45 rfl (L6_s1 hL) (L6_p1_1 hL) ?_
      refine ar_iload_n X dX6_embolden_36 rfl 1 rfl ?_
      refine ar_iload_n X dX6_embolden_37 rfl 2 rfl ?_
      obtain ⟨r5, I5, h5, hf⟩ := am_b2_e hf
      refine ar_cVi (As := [.int a1, .int a2]) (st := []) X dX6_embolden_38 (am_X4_changeBoldness (L6_c3 hL) h5) lk_X6_83 mt_X4_changeBoldness mi_X4_changeBoldness (L6_s3 hL) rfl rfl (Nat.le_of_ble_eq_true rfl) ⟨by decide, by decide⟩ ⟨Nat.zero_le _, Nat.zero_le _⟩ rfl ?_
      cases hf
      exact ar_iret X dX6_embolden_41 hR (Nat.le_refl _) (Nat.le_refl _)
def f_X6_fault (o : Nat)  (I : aI) : Option (Int32 × aI) :=
  am_b2 (f_X3_firstFault (o + 35) I) fun r1 I1 =>
  some (r1, I1)
set_option maxRecDepth 100000 in
set_option maxHeartbeats 4000000 in
theorem am_X6_fault {sh : aS} {P : aP} {I : aI} {J : aJ} {o : Nat} (hL : L6 sh P o)  {r : Int32} {I9 : aI} (hf : f_X6_fault o I = some (r, I9)) : AM yX6_fault cX6_fault 1 (some .int) 6 133 [.ref o] sh P I J (some (.int r)) sh P I9 J 0 0 := by
  refine am_met (by decide +kernel) (Nat.le_of_ble_eq_true rfl) (fun K X hR => ?_)
  have X : am_C K cX6_fault 1 RX6 "fault" ({ frames := 6, cells := 0, slots := 0, locals := 133 } : Room) := X
  show AW K 1 0 [(0, .ref o)] [] sh P I J 0 0
  unfold f_X6_fault at hf
  refine ar_aload_n X dX6_fault_0 rfl 0 rfl ?_
  refine ar_getr X dX6_fault_1 fg_X6_33 rfl (L6_s0 hL) (L6_p0_4 hL) ?_
  obtain ⟨r1, I1, h1, hf⟩ := am_b2_e hf
  refine ar_cVi (As := []) (st := []) X dX6_fault_4 (am_X3_firstFault (L6_c35 hL) h1) lk_X6_263 mt_X3_firstFault mi_X3_firstFault (L6_s35 hL) rfl rfl (Nat.le_of_ble_eq_true rfl) ⟨by decide, by decide⟩ ⟨Nat.zero_le _, Nat.zero_le _⟩ rfl ?_
  cases hf
  exact ar_iret X dX6_fault_7 hR (Nat.le_refl _) (Nat.le_refl _)
def f_X6_fill (o : Nat) (a1 : Int32) (a2 : Int32) (I : aI) : Option (Int32 × aI) :=
  am_b1 (f_X4_hasSeat (o + 3) a1 I) fun r1 =>
  if r1 = 0 then (
    some ((-1 : Int32), I))
  else (
    am_b1 (f_X6_within a2 (0 : Int32) (300 : Int32)) fun r3 =>
    if r3 = 0 then (
      some ((-2 : Int32), I))
    else (
      am_b1 (f_X1_isUnopened (o + 1) I) fun r5 =>
      if r5 = 0 then (
        some ((-5 : Int32), I))
      else (
        am_b2 (f_X4_fillAnew (o + 3) a1 a2 I) fun r7 I7 =>
        some (r7, I7))))
set_option maxRecDepth 100000 in
set_option maxHeartbeats 4000000 in
theorem am_X6_fill {sh : aS} {P : aP} {I : aI} {J : aJ} {o : Nat} (hL : L6 sh P o) {a1 : Int32} {a2 : Int32} {r : Int32} {I9 : aI} (hf : f_X6_fill o a1 a2 I = some (r, I9)) : AM yX6_fill cX6_fill 3 (some .int) 2 44 [.ref o, .int a1, .int a2] sh P I J (some (.int r)) sh P I9 J 0 0 := by
  refine am_met (by decide +kernel) (Nat.le_of_ble_eq_true rfl) (fun K X hR => ?_)
  have X : am_C K cX6_fill 3 RX6 "fill" ({ frames := 2, cells := 0, slots := 0, locals := 44 } : Room) := X
  show AW K 3 0 [(0, .ref o), (1, .int a1), (2, .int a2)] [] sh P I J 0 0
  unfold f_X6_fill at hf
  refine ar_aload_n X dX6_fill_0 rfl 0 rfl ?_
  refine ar_getr X dX6_fill_1 fg_X6_10 rfl (L6_s0 hL) (L6_p0_0 hL) ?_
  refine ar_getr X dX6_fill_4 fg_X6_45 rfl (L6_s1 hL) (L6_p1_1 hL) ?_
  refine ar_iload_n X dX6_fill_7 rfl 1 rfl ?_
  obtain ⟨r1, h1, hf⟩ := am_b1_e hf
  refine ar_cVi (As := [.int a1]) (st := []) X dX6_fill_8 (am_X4_hasSeat (L6_c3 hL) h1) lk_X6_73 mt_X4_hasSeat mi_X4_hasSeat (L6_s3 hL) rfl rfl (Nat.le_of_ble_eq_true rfl) ⟨by decide, by decide⟩ ⟨Nat.zero_le _, Nat.zero_le _⟩ rfl ?_
  refine ar_if_ne (tgt := 16) X dX6_fill_11 (by decide) hf (fun h2 hf => ?_) (fun h2 hf => ?_)
  · refine ar_iconst (v := -1) X dX6_fill_14 (by decide) ?_
    cases hf
    exact ar_iret X dX6_fill_15 hR (Nat.le_refl _) (Nat.le_refl _)
  · refine ar_iload_n X dX6_fill_16 rfl 2 rfl ?_
    refine ar_iconst (v := 0) X dX6_fill_17 (by decide) ?_
    refine ar_sipush (v := 300) X dX6_fill_18 (by decide) ?_
    obtain ⟨r3, h3, hf⟩ := am_b1_e hf
    refine ar_cSi (As := [.int a2, .int (0 : Int32), .int (300 : Int32)]) (st := []) X dX6_fill_21 (am_X6_within h3) lk_X6_41 mt_X6_within ms_X6_within rfl (Nat.le_of_ble_eq_true rfl) ⟨by decide, by decide⟩ ⟨Nat.zero_le _, Nat.zero_le _⟩ rfl ?_
    refine ar_if_ne (tgt := 30) X dX6_fill_24 (by decide) hf (fun h4 hf => ?_) (fun h4 hf => ?_)
    · refine ar_bipush (v := -2) X dX6_fill_27 (by decide) ?_
      cases hf
      exact ar_iret X dX6_fill_29 hR (Nat.le_refl _) (Nat.le_refl _)
    · refine ar_aload_n X dX6_fill_30 rfl 0 rfl ?_
      refine ar_getr X dX6_fill_31 fg_X6_10 rfl (L6_s0 hL) (L6_p0_0 hL) ?_
      obtain ⟨r5, h5, hf⟩ := am_b1_e hf
      refine ar_cVi (As := []) (st := []) X dX6_fill_34 (am_X1_isUnopened (L6_c1 hL) h5) lk_X6_77 mt_X1_isUnopened mi_X1_isUnopened (L6_s1 hL) rfl rfl (Nat.le_of_ble_eq_true rfl) ⟨by decide, by decide⟩ ⟨Nat.zero_le _, Nat.zero_le _⟩ rfl ?_
      refine ar_if_ne (tgt := 43) X dX6_fill_37 (by decide) hf (fun h6 hf => ?_) (fun h6 hf => ?_)
      · refine ar_bipush (v := -5) X dX6_fill_40 (by decide) ?_
        cases hf
        exact ar_iret X dX6_fill_42 hR (Nat.le_refl _) (Nat.le_refl _)
      · refine ar_aload_n X dX6_fill_43 rfl 0 rfl ?_
        refine ar_getr X dX6_fill_44 fg_X6_10 rfl (L6_s0 hL) (L6_p0_0 hL) ?_
        refine ar_getr X dX6_fill_47 fg_X6_45 rfl (L6_s1 hL) (L6_p1_1 hL) ?_
        refine ar_iload_n X dX6_fill_50 rfl 1 rfl ?_
        refine ar_iload_n X dX6_fill_51 rfl 2 rfl ?_
        obtain ⟨r7, I7, h7, hf⟩ := am_b2_e hf
        refine ar_cVi (As := [.int a1, .int a2]) (st := []) X dX6_fill_52 (am_X4_fillAnew (L6_c3 hL) h7) lk_X6_80 mt_X4_fillAnew mi_X4_fillAnew (L6_s3 hL) rfl rfl (Nat.le_of_ble_eq_true rfl) ⟨by decide, by decide⟩ ⟨Nat.zero_le _, Nat.zero_le _⟩ rfl ?_
        cases hf
        exact ar_iret X dX6_fill_55 hR (Nat.le_refl _) (Nat.le_refl _)
def f_X6_isSettingValue  (a0 : Int32) (a1 : Int32) (I : aI) : Option Int32 :=
  am_b1 (f_X6_isSetting a0) fun r1 =>
  if r1 = 0 then (
    some (0 : Int32))
  else (
    am_g (am_ok a0 6) (
    am_g (am_ok a0 6) (
    am_b1 (f_X6_within a1 (am_sf 1000001 (Int32.toNatClampNeg a0)) (am_sf 1000003 (Int32.toNatClampNeg a0))) fun r3 =>
    if r3 = 0 then (
      some (0 : Int32))
    else (
      some (1 : Int32)))))
set_option maxRecDepth 100000 in
set_option maxHeartbeats 4000000 in
theorem am_X6_isSettingValue {sh : aS} {P : aP} {I : aI} {J : aJ}   {a0 : Int32} {a1 : Int32} {r : Int32} (hf : f_X6_isSettingValue a0 a1 I = some r) : AM yX6_isSettingValue cX6_isSettingValue 2 (some .boolean) 2 42 [.int a0, .int a1] sh P I J (some (.int r)) sh P I J 0 0 := by
  refine am_met (by decide +kernel) (Nat.le_of_ble_eq_true rfl) (fun K X hR => ?_)
  have X : am_C K cX6_isSettingValue 2 RX6 "isSettingValue" ({ frames := 2, cells := 0, slots := 0, locals := 42 } : Room) := X
  show AW K 2 0 [(0, .int a0), (1, .int a1)] [] sh P I J 0 0
  unfold f_X6_isSettingValue at hf
  refine ar_iload_n X dX6_isSettingValue_0 rfl 0 rfl ?_
  obtain ⟨r1, h1, hf⟩ := am_b1_e hf
  refine ar_cSi (As := [.int a0]) (st := []) X dX6_isSettingValue_1 (am_X6_isSetting h1) lk_X6_166 mt_X6_isSetting ms_X6_isSetting rfl (Nat.le_of_ble_eq_true rfl) ⟨by decide, by decide⟩ ⟨Nat.zero_le _, Nat.zero_le _⟩ rfl ?_
  refine ar_if_eq (tgt := 28) X dX6_isSettingValue_4 (by decide) hf (fun h2 hf => ?_) (fun h2 hf => ?_)
  · refine ar_iconst (v := 0) X dX6_isSettingValue_28 (by decide) ?_
    cases hf
    exact ar_zret X dX6_isSettingValue_29 rfl hR (Nat.le_refl _) (Nat.le_refl _)
  · refine ar_iload_n X dX6_isSettingValue_7 rfl 1 rfl ?_
    refine ar_gets X dX6_isSettingValue_8 (by decide) fs_X6_297 ?_
    refine ar_iload_n X dX6_isSettingValue_11 rfl 0 rfl ?_
    refine ar_sld X dX6_isSettingValue_12 (by decide) hf (fun hf => ?_)
    refine ar_gets X dX6_isSettingValue_13 (by decide) fs_X6_301 ?_
    refine ar_iload_n X dX6_isSettingValue_16 rfl 0 rfl ?_
    refine ar_sld X dX6_isSettingValue_17 (by decide) hf (fun hf => ?_)
    obtain ⟨r3, h3, hf⟩ := am_b1_e hf
    refine ar_cSi (As := [.int a1, .int (am_sf 1000001 (Int32.toNatClampNeg a0)), .int (am_sf 1000003 (Int32.toNatClampNeg a0))]) (st := []) X dX6_isSettingValue_18 (am_X6_within h3) lk_X6_41 mt_X6_within ms_X6_within rfl (Nat.le_of_ble_eq_true rfl) ⟨by decide, by decide⟩ ⟨Nat.zero_le _, Nat.zero_le _⟩ rfl ?_
    refine ar_if_eq (tgt := 28) X dX6_isSettingValue_21 (by decide) hf (fun h4 hf => ?_) (fun h4 hf => ?_)
    · refine ar_iconst (v := 0) X dX6_isSettingValue_28 (by decide) ?_
      cases hf
      exact ar_zret X dX6_isSettingValue_29 rfl hR (Nat.le_refl _) (Nat.le_refl _)
    · refine ar_iconst (v := 1) X dX6_isSettingValue_24 (by decide) ?_
      refine ar_goto (tgt := 29) X dX6_isSettingValue_25 (by decide) ?_
      cases hf
      exact ar_zret X dX6_isSettingValue_29 rfl hR (Nat.le_refl _) (Nat.le_refl _)
def f_X6_isSlot  (a0 : Int32) : Option Int32 :=
  am_b1 (f_X6_within a0 (0 : Int32) (1 : Int32)) fun r1 =>
  am_g (am_zk r1) (some r1)
set_option maxRecDepth 100000 in
set_option maxHeartbeats 4000000 in
theorem am_X6_isSlot {sh : aS} {P : aP} {I : aI} {J : aJ}   {a0 : Int32} {r : Int32} (hf : f_X6_isSlot a0 = some r) : AM yX6_isSlot cX6_isSlot 1 (some .boolean) 1 22 [.int a0] sh P I J (some (.int r)) sh P I J 0 0 := by
  refine am_met (by decide +kernel) (Nat.le_of_ble_eq_true rfl) (fun K X hR => ?_)
  have X : am_C K cX6_isSlot 1 RX6 "isSlot" ({ frames := 1, cells := 0, slots := 0, locals := 22 } : Room) := X
  show AW K 1 0 [(0, .int a0)] [] sh P I J 0 0
  unfold f_X6_isSlot at hf
  refine ar_iload_n X dX6_isSlot_0 rfl 0 rfl ?_
  refine ar_iconst (v := 0) X dX6_isSlot_1 (by decide) ?_
  refine ar_iconst (v := 1) X dX6_isSlot_2 (by decide) ?_
  obtain ⟨r1, h1, hf⟩ := am_b1_e hf
  refine ar_cSi (As := [.int a0, .int (0 : Int32), .int (1 : Int32)]) (st := []) X dX6_isSlot_3 (am_X6_within h1) lk_X6_41 mt_X6_within ms_X6_within rfl (Nat.le_of_ble_eq_true rfl) ⟨by decide, by decide⟩ ⟨Nat.zero_le _, Nat.zero_le _⟩ rfl ?_
  obtain ⟨h2, hf⟩ := am_g_elim hf
  cases hf
  exact ar_zret X dX6_isSlot_6 (am_zn h2).1 hR (Nat.le_refl _) (Nat.le_refl _)
def f_X6_known (o : Nat) (a1 : Int32) (a2 : Int32) (I : aI) (J : aJ) : Option (Int32 × aJ) :=
  am_b1 (f_X4_hasSeat (o + 3) a1 I) fun r1 =>
  if r1 = 0 then (
    some ((-1 : Int32), J))
  else (
    if a2 = (0 : Int32) then (
      am_b1 (f_X4_leastOf (o + 3) a1 I) fun r4 =>
      some (r4, J))
    else if a2 = (1 : Int32) then (
      am_b1 (f_X4_greatestOf (o + 3) a1 I) fun r6 =>
      some (r6, J))
    else if a2 = (2 : Int32) then (
      am_b2 (f_X5_leastIn (o + 32) (o + 3) a1 I J) fun r8 J8 =>
      some (r8, J8))
    else if a2 = (3 : Int32) then (
      am_b2 (f_X5_greatestIn (o + 32) (o + 3) a1 I J) fun r10 J10 =>
      some (r10, J10))
    else if a2 = (4 : Int32) then (
      am_b2 (f_X5_averageIn (o + 32) (o + 3) a1 I J) fun r12 J12 =>
      some (r12, J12))
    else (
      some ((-2 : Int32), J)))
set_option maxRecDepth 100000 in
set_option maxHeartbeats 4000000 in
theorem am_X6_known {sh : aS} {P : aP} {I : aI} {J : aJ} {o : Nat} (hL : L6 sh P o) {a1 : Int32} {a2 : Int32} {r : Int32} {J9 : aJ} (hf : f_X6_known o a1 a2 I J = some (r, J9)) : AM yX6_known cX6_known 4 (some .int) 5 121 [.ref o, .int a1, .int a2] sh P I J (some (.int r)) sh P I J9 0 0 := by
  refine am_met (by decide +kernel) (Nat.le_of_ble_eq_true rfl) (fun K X hR => ?_)
  have X : am_C K cX6_known 4 RX6 "known" ({ frames := 5, cells := 0, slots := 0, locals := 121 } : Room) := X
  show AW K 4 0 [(0, .ref o), (1, .int a1), (2, .int a2)] [] sh P I J 0 0
  unfold f_X6_known at hf
  refine ar_aload_n X dX6_known_0 rfl 0 rfl ?_
  refine ar_getr X dX6_known_1 fg_X6_10 rfl (L6_s0 hL) (L6_p0_0 hL) ?_
  refine ar_getr X dX6_known_4 fg_X6_45 rfl (L6_s1 hL) (L6_p1_1 hL) ?_
  refine ar_astore_n X dX6_known_7 rfl (by decide) rfl ?_
  refine ar_aload_n X dX6_known_8 rfl 0 rfl ?_
  refine ar_iload_n X dX6_known_9 rfl 2 rfl ?_
  obtain ⟨r1, h1, hf⟩ := am_b1_e hf
  refine ar_cVi (As := [.int a1]) (st := []) X dX6_known_10 (am_X4_hasSeat (L6_c3 hL) h1) lk_X6_73 mt_X4_hasSeat mi_X4_hasSeat (L6_s3 hL) rfl rfl (Nat.le_of_ble_eq_true rfl) ⟨by decide, by decide⟩ ⟨Nat.zero_le _, Nat.zero_le _⟩ rfl ?_
  refine ar_if_ne (tgt := 18) X dX6_known_13 (by decide) hf (fun h2 hf => ?_) (fun h2 hf => ?_)
  · refine ar_iconst (v := -1) X dX6_known_16 (by decide) ?_
    cases hf
    exact ar_iret X dX6_known_17 hR (Nat.le_refl _) (Nat.le_refl _)
  · refine ar_iload_n X dX6_known_18 rfl 3 rfl ?_
    rcases am_ite hf with ⟨h3, hf⟩ | ⟨h3, hf⟩
    · refine ar_tableIn (tgt := 52) X dX6_known_19 (by rw [h3]; decide) (by rw [h3]; decide) (by rw [h3]; rfl) (by decide) ?_
      refine ar_aload_n X dX6_known_52 rfl 0 rfl ?_
      refine ar_iload_n X dX6_known_53 rfl 2 rfl ?_
      obtain ⟨r4, h4, hf⟩ := am_b1_e hf
      refine ar_cVi (As := [.int a1]) (st := []) X dX6_known_54 (am_X4_leastOf (L6_c3 hL) h4) lk_X6_205 mt_X4_leastOf mi_X4_leastOf (L6_s3 hL) rfl rfl (Nat.le_of_ble_eq_true rfl) ⟨by decide, by decide⟩ ⟨Nat.zero_le _, Nat.zero_le _⟩ rfl ?_
      cases hf
      exact ar_iret X dX6_known_57 hR (Nat.le_refl _) (Nat.le_refl _)
    rcases am_ite hf with ⟨h5, hf⟩ | ⟨h5, hf⟩
    · refine ar_tableIn (tgt := 58) X dX6_known_19 (by rw [h5]; decide) (by rw [h5]; decide) (by rw [h5]; rfl) (by decide) ?_
      refine ar_aload_n X dX6_known_58 rfl 0 rfl ?_
      refine ar_iload_n X dX6_known_59 rfl 2 rfl ?_
      obtain ⟨r6, h6, hf⟩ := am_b1_e hf
      refine ar_cVi (As := [.int a1]) (st := []) X dX6_known_60 (am_X4_greatestOf (L6_c3 hL) h6) lk_X6_208 mt_X4_greatestOf mi_X4_greatestOf (L6_s3 hL) rfl rfl (Nat.le_of_ble_eq_true rfl) ⟨by decide, by decide⟩ ⟨Nat.zero_le _, Nat.zero_le _⟩ rfl ?_
      cases hf
      exact ar_iret X dX6_known_63 hR (Nat.le_refl _) (Nat.le_refl _)
    rcases am_ite hf with ⟨h7, hf⟩ | ⟨h7, hf⟩
    · refine ar_tableIn (tgt := 64) X dX6_known_19 (by rw [h7]; decide) (by rw [h7]; decide) (by rw [h7]; rfl) (by decide) ?_
      refine ar_aload_n X dX6_known_64 rfl 1 rfl ?_
      refine ar_getr X dX6_known_65 fg_X6_26 rfl (L6_s0 hL) (L6_p0_3 hL) ?_
      refine ar_aload_n X dX6_known_68 rfl 0 rfl ?_
      refine ar_iload_n X dX6_known_69 rfl 2 rfl ?_
      obtain ⟨r8, J8, h8, hf⟩ := am_b2_e hf
      refine ar_cVi (As := [.ref (o + 3), .int a1]) (st := []) X dX6_known_70 (am_X5_leastIn (L6_c32 hL) (L6_c3 hL) h8) lk_X6_211 mt_X5_leastIn mi_X5_leastIn (L6_s32 hL) rfl rfl (Nat.le_of_ble_eq_true rfl) ⟨by decide, by decide⟩ ⟨Nat.zero_le _, Nat.zero_le _⟩ rfl ?_
      cases hf
      exact ar_iret X dX6_known_73 hR (Nat.le_refl _) (Nat.le_refl _)
    rcases am_ite hf with ⟨h9, hf⟩ | ⟨h9, hf⟩
    · refine ar_tableIn (tgt := 74) X dX6_known_19 (by rw [h9]; decide) (by rw [h9]; decide) (by rw [h9]; rfl) (by decide) ?_
      refine ar_aload_n X dX6_known_74 rfl 1 rfl ?_
      refine ar_getr X dX6_known_75 fg_X6_26 rfl (L6_s0 hL) (L6_p0_3 hL) ?_
      refine ar_aload_n X dX6_known_78 rfl 0 rfl ?_
      refine ar_iload_n X dX6_known_79 rfl 2 rfl ?_
      obtain ⟨r10, J10, h10, hf⟩ := am_b2_e hf
      refine ar_cVi (As := [.ref (o + 3), .int a1]) (st := []) X dX6_known_80 (am_X5_greatestIn (L6_c32 hL) (L6_c3 hL) h10) lk_X6_215 mt_X5_greatestIn mi_X5_greatestIn (L6_s32 hL) rfl rfl (Nat.le_of_ble_eq_true rfl) ⟨by decide, by decide⟩ ⟨Nat.zero_le _, Nat.zero_le _⟩ rfl ?_
      cases hf
      exact ar_iret X dX6_known_83 hR (Nat.le_refl _) (Nat.le_refl _)
    rcases am_ite hf with ⟨h11, hf⟩ | ⟨h11, hf⟩
    · refine ar_tableIn (tgt := 84) X dX6_known_19 (by rw [h11]; decide) (by rw [h11]; decide) (by rw [h11]; rfl) (by decide) ?_
      refine ar_aload_n X dX6_known_84 rfl 1 rfl ?_
      refine ar_getr X dX6_known_85 fg_X6_26 rfl (L6_s0 hL) (L6_p0_3 hL) ?_
      refine ar_aload_n X dX6_known_88 rfl 0 rfl ?_
      refine ar_iload_n X dX6_known_89 rfl 2 rfl ?_
      obtain ⟨r12, J12, h12, hf⟩ := am_b2_e hf
      refine ar_cVi (As := [.ref (o + 3), .int a1]) (st := []) X dX6_known_90 (am_X5_averageIn (L6_c32 hL) (L6_c3 hL) h12) lk_X6_218 mt_X5_averageIn mi_X5_averageIn (L6_s32 hL) rfl rfl (Nat.le_of_ble_eq_true rfl) ⟨by decide, by decide⟩ ⟨Nat.zero_le _, Nat.zero_le _⟩ rfl ?_
      cases hf
      exact ar_iret X dX6_known_93 hR (Nat.le_refl _) (Nat.le_refl _)
    have hout : a2.toInt < 0 ∨ 4 < a2.toInt := by
      refine Classical.byContradiction (fun hn => ?_)
      have hTT : a2.toInt = 0 ∨ a2.toInt = 1 ∨ a2.toInt = 2 ∨ a2.toInt = 3 ∨ a2.toInt = 4 := by omega
      rcases hTT with hTT | hTT | hTT | hTT | hTT
      · exact h3 (Int32.toInt_inj.mp hTT)
      · exact h5 (Int32.toInt_inj.mp hTT)
      · exact h7 (Int32.toInt_inj.mp hTT)
      · exact h9 (Int32.toInt_inj.mp hTT)
      · exact h11 (Int32.toInt_inj.mp hTT)
    refine ar_tableOut (tgt := 94) X dX6_known_19 hout (by decide) ?_
    refine ar_bipush (v := -2) X dX6_known_94 (by decide) ?_
    cases hf
    exact ar_iret X dX6_known_96 hR (Nat.le_refl _) (Nat.le_refl _)
def f_X6_last (o : Nat)  (I : aI) : Option (Int32 × aI) :=
  am_b2 (f_X1_giveLast (o + 1) I) fun r1 I1 =>
  some (r1, I1)
set_option maxRecDepth 100000 in
set_option maxHeartbeats 4000000 in
theorem am_X6_last {sh : aS} {P : aP} {I : aI} {J : aJ} {o : Nat} (hL : L6 sh P o)  {r : Int32} {I9 : aI} (hf : f_X6_last o I = some (r, I9)) : AM yX6_last cX6_last 1 (some .int) 4 87 [.ref o] sh P I J (some (.int r)) sh P I9 J 0 0 := by
  refine am_met (by decide +kernel) (Nat.le_of_ble_eq_true rfl) (fun K X hR => ?_)
  have X : am_C K cX6_last 1 RX6 "last" ({ frames := 4, cells := 0, slots := 0, locals := 87 } : Room) := X
  show AW K 1 0 [(0, .ref o)] [] sh P I J 0 0
  unfold f_X6_last at hf
  refine ar_aload_n X dX6_last_0 rfl 0 rfl ?_
  refine ar_getr X dX6_last_1 fg_X6_10 rfl (L6_s0 hL) (L6_p0_0 hL) ?_
  obtain ⟨r1, I1, h1, hf⟩ := am_b2_e hf
  refine ar_cVi (As := []) (st := []) X dX6_last_4 (am_X1_giveLast (L6_c1 hL) h1) lk_X6_112 mt_X1_giveLast mi_X1_giveLast (L6_s1 hL) rfl rfl (Nat.le_of_ble_eq_true rfl) ⟨by decide, by decide⟩ ⟨Nat.zero_le _, Nat.zero_le _⟩ rfl ?_
  cases hf
  exact ar_iret X dX6_last_7 hR (Nat.le_refl _) (Nat.le_refl _)
def f_X6_leastBid (o : Nat) (a1 : Int32) (a2 : Int32) (I : aI) : Option Int32 :=
  am_b1 (f_X4_hasSeat (o + 3) a1 I) fun r1 =>
  if r1 = 0 then (
    some (-1 : Int32))
  else (
    am_b1 (f_X6_isReserve a2) fun r3 =>
    if r3 = 0 then (
      some (-2 : Int32))
    else (
      am_b1 (f_X0_goesOn (o + 14) I) fun r5 =>
      if r5 = 0 then (
        am_b1 (f_X2_nextIsForSale (o + 9) I) fun r7 =>
        if r7 = 0 then (
          some (-5 : Int32))
        else (
          am_b1 (f_X1_neededAgainst (o + 1) a1 a2 I) fun r9 =>
          am_b1 (f_X4_amountOf (o + 3) a1 I) fun r10 =>
          if r10 < r9 then (
            some (-6 : Int32))
          else (
            some r9)))
      else (
        some (-5 : Int32))))
set_option maxRecDepth 100000 in
set_option maxHeartbeats 4000000 in
theorem am_X6_leastBid {sh : aS} {P : aP} {I : aI} {J : aJ} {o : Nat} (hL : L6 sh P o) {a1 : Int32} {a2 : Int32} {r : Int32} (hf : f_X6_leastBid o a1 a2 I = some r) : AM yX6_leastBid cX6_leastBid 4 (some .int) 4 93 [.ref o, .int a1, .int a2] sh P I J (some (.int r)) sh P I J 0 0 := by
  refine am_met (by decide +kernel) (Nat.le_of_ble_eq_true rfl) (fun K X hR => ?_)
  have X : am_C K cX6_leastBid 4 RX6 "leastBid" ({ frames := 4, cells := 0, slots := 0, locals := 93 } : Room) := X
  show AW K 4 0 [(0, .ref o), (1, .int a1), (2, .int a2)] [] sh P I J 0 0
  unfold f_X6_leastBid at hf
  refine ar_aload_n X dX6_leastBid_0 rfl 0 rfl ?_
  refine ar_getr X dX6_leastBid_1 fg_X6_10 rfl (L6_s0 hL) (L6_p0_0 hL) ?_
  refine ar_getr X dX6_leastBid_4 fg_X6_45 rfl (L6_s1 hL) (L6_p1_1 hL) ?_
  refine ar_iload_n X dX6_leastBid_7 rfl 1 rfl ?_
  obtain ⟨r1, h1, hf⟩ := am_b1_e hf
  refine ar_cVi (As := [.int a1]) (st := []) X dX6_leastBid_8 (am_X4_hasSeat (L6_c3 hL) h1) lk_X6_73 mt_X4_hasSeat mi_X4_hasSeat (L6_s3 hL) rfl rfl (Nat.le_of_ble_eq_true rfl) ⟨by decide, by decide⟩ ⟨Nat.zero_le _, Nat.zero_le _⟩ rfl ?_
  refine ar_if_ne (tgt := 16) X dX6_leastBid_11 (by decide) hf (fun h2 hf => ?_) (fun h2 hf => ?_)
  · refine ar_iconst (v := -1) X dX6_leastBid_14 (by decide) ?_
    cases hf
    exact ar_iret X dX6_leastBid_15 hR (Nat.le_refl _) (Nat.le_refl _)
  · refine ar_iload_n X dX6_leastBid_16 rfl 2 rfl ?_
    obtain ⟨r3, h3, hf⟩ := am_b1_e hf
    refine ar_cSi (As := [.int a2]) (st := []) X dX6_leastBid_17 (am_X6_isReserve h3) lk_X6_232 mt_X6_isReserve ms_X6_isReserve rfl (Nat.le_of_ble_eq_true rfl) ⟨by decide, by decide⟩ ⟨Nat.zero_le _, Nat.zero_le _⟩ rfl ?_
    refine ar_if_ne (tgt := 26) X dX6_leastBid_20 (by decide) hf (fun h4 hf => ?_) (fun h4 hf => ?_)
    · refine ar_bipush (v := -2) X dX6_leastBid_23 (by decide) ?_
      cases hf
      exact ar_iret X dX6_leastBid_25 hR (Nat.le_refl _) (Nat.le_refl _)
    · refine ar_aload_n X dX6_leastBid_26 rfl 0 rfl ?_
      refine ar_getr X dX6_leastBid_27 fg_X6_10 rfl (L6_s0 hL) (L6_p0_0 hL) ?_
      refine ar_getr X dX6_leastBid_30 fg_X6_59 rfl (L6_s1 hL) (L6_p1_3 hL) ?_
      obtain ⟨r5, h5, hf⟩ := am_b1_e hf
      refine ar_cVi (As := []) (st := []) X dX6_leastBid_33 (am_X0_goesOn (L6_c14 hL) h5) lk_X6_63 mt_X0_goesOn mi_X0_goesOn (L6_s14 hL) rfl rfl (Nat.le_of_ble_eq_true rfl) ⟨by decide, by decide⟩ ⟨Nat.zero_le _, Nat.zero_le _⟩ rfl ?_
      refine ar_if_ne (tgt := 52) X dX6_leastBid_36 (by decide) hf (fun h6 hf => ?_) (fun h6 hf => ?_)
      · refine ar_aload_n X dX6_leastBid_39 rfl 0 rfl ?_
        refine ar_getr X dX6_leastBid_40 fg_X6_10 rfl (L6_s0 hL) (L6_p0_0 hL) ?_
        refine ar_getr X dX6_leastBid_43 fg_X6_86 rfl (L6_s1 hL) (L6_p1_2 hL) ?_
        obtain ⟨r7, h7, hf⟩ := am_b1_e hf
        refine ar_cVi (As := []) (st := []) X dX6_leastBid_46 (am_X2_nextIsForSale (L6_c9 hL) h7) lk_X6_240 mt_X2_nextIsForSale mi_X2_nextIsForSale (L6_s9 hL) rfl rfl (Nat.le_of_ble_eq_true rfl) ⟨by decide, by decide⟩ ⟨Nat.zero_le _, Nat.zero_le _⟩ rfl ?_
        refine ar_if_ne (tgt := 55) X dX6_leastBid_49 (by decide) hf (fun h8 hf => ?_) (fun h8 hf => ?_)
        · refine ar_bipush (v := -5) X dX6_leastBid_52 (by decide) ?_
          cases hf
          exact ar_iret X dX6_leastBid_54 hR (Nat.le_refl _) (Nat.le_refl _)
        · refine ar_aload_n X dX6_leastBid_55 rfl 0 rfl ?_
          refine ar_getr X dX6_leastBid_56 fg_X6_10 rfl (L6_s0 hL) (L6_p0_0 hL) ?_
          refine ar_iload_n X dX6_leastBid_59 rfl 1 rfl ?_
          refine ar_iload_n X dX6_leastBid_60 rfl 2 rfl ?_
          obtain ⟨r9, h9, hf⟩ := am_b1_e hf
          refine ar_cVi (As := [.int a1, .int a2]) (st := []) X dX6_leastBid_61 (am_X1_neededAgainst (L6_c1 hL) h9) lk_X6_247 mt_X1_neededAgainst mi_X1_neededAgainst (L6_s1 hL) rfl rfl (Nat.le_of_ble_eq_true rfl) ⟨by decide, by decide⟩ ⟨Nat.zero_le _, Nat.zero_le _⟩ rfl ?_
          refine ar_istore_n X dX6_leastBid_64 rfl (by decide) rfl ?_
          refine ar_iload_n X dX6_leastBid_65 rfl 0 rfl ?_
          refine ar_aload_n X dX6_leastBid_66 rfl 1 rfl ?_
          refine ar_getr X dX6_leastBid_67 fg_X6_10 rfl (L6_s0 hL) (L6_p0_0 hL) ?_
          refine ar_getr X dX6_leastBid_70 fg_X6_45 rfl (L6_s1 hL) (L6_p1_1 hL) ?_
          refine ar_iload_n X dX6_leastBid_73 rfl 2 rfl ?_
          obtain ⟨r10, h10, hf⟩ := am_b1_e hf
          refine ar_cVi (As := [.int a1]) (st := [.int r9]) X dX6_leastBid_74 (am_X4_amountOf (L6_c3 hL) h10) lk_X6_118 mt_X4_amountOf mi_X4_amountOf (L6_s3 hL) rfl rfl (Nat.le_of_ble_eq_true rfl) ⟨by decide, by decide⟩ ⟨Nat.zero_le _, Nat.zero_le _⟩ rfl ?_
          refine ar_icmp_gt (tgt := 84) X dX6_leastBid_77 (by decide) hf (fun h11 hf => ?_) (fun h11 hf => ?_)
          · refine ar_bipush (v := -6) X dX6_leastBid_84 (by decide) ?_
            cases hf
            exact ar_iret X dX6_leastBid_86 hR (Nat.le_refl _) (Nat.le_refl _)
          · refine ar_iload_n X dX6_leastBid_80 rfl 0 rfl ?_
            refine ar_goto (tgt := 86) X dX6_leastBid_81 (by decide) ?_
            cases hf
            exact ar_iret X dX6_leastBid_86 hR (Nat.le_refl _) (Nat.le_refl _)
      · refine ar_bipush (v := -5) X dX6_leastBid_52 (by decide) ?_
        cases hf
        exact ar_iret X dX6_leastBid_54 hR (Nat.le_refl _) (Nat.le_refl _)
def f_X6_lot (o : Nat) (a1 : Int32) (a2 : Int32) (I : aI) : Option (Int32 × aI) :=
  am_b1 (f_X6_within a1 (0 : Int32) (5 : Int32)) fun r1 =>
  if r1 = 0 then (
    some ((-2 : Int32), I))
  else (
    am_b1 (f_X6_within a2 (1 : Int32) (50 : Int32)) fun r3 =>
    if r3 = 0 then (
      some ((-2 : Int32), I))
    else (
      am_b1 (f_X2_areFull (o + 9) I) fun r5 =>
      if r5 = 0 then (
        am_b1 (f_X1_isUnopened (o + 1) I) fun r7 =>
        if r7 = 0 then (
          some ((-5 : Int32), I))
        else (
          am_b2 (f_X2_add (o + 9) a1 a2 I) fun r9 I9 =>
          some (r9, I9)))
      else (
        some ((-4 : Int32), I))))
set_option maxRecDepth 100000 in
set_option maxHeartbeats 4000000 in
theorem am_X6_lot {sh : aS} {P : aP} {I : aI} {J : aJ} {o : Nat} (hL : L6 sh P o) {a1 : Int32} {a2 : Int32} {r : Int32} {I9 : aI} (hf : f_X6_lot o a1 a2 I = some (r, I9)) : AM yX6_lot cX6_lot 3 (some .int) 2 42 [.ref o, .int a1, .int a2] sh P I J (some (.int r)) sh P I9 J 0 0 := by
  refine am_met (by decide +kernel) (Nat.le_of_ble_eq_true rfl) (fun K X hR => ?_)
  have X : am_C K cX6_lot 3 RX6 "lot" ({ frames := 2, cells := 0, slots := 0, locals := 42 } : Room) := X
  show AW K 3 0 [(0, .ref o), (1, .int a1), (2, .int a2)] [] sh P I J 0 0
  unfold f_X6_lot at hf
  refine ar_iload_n X dX6_lot_0 rfl 1 rfl ?_
  refine ar_iconst (v := 0) X dX6_lot_1 (by decide) ?_
  refine ar_iconst (v := 5) X dX6_lot_2 (by decide) ?_
  obtain ⟨r1, h1, hf⟩ := am_b1_e hf
  refine ar_cSi (As := [.int a1, .int (0 : Int32), .int (5 : Int32)]) (st := []) X dX6_lot_3 (am_X6_within h1) lk_X6_41 mt_X6_within ms_X6_within rfl (Nat.le_of_ble_eq_true rfl) ⟨by decide, by decide⟩ ⟨Nat.zero_le _, Nat.zero_le _⟩ rfl ?_
  refine ar_if_eq (tgt := 19) X dX6_lot_6 (by decide) hf (fun h2 hf => ?_) (fun h2 hf => ?_)
  · refine ar_bipush (v := -2) X dX6_lot_19 (by decide) ?_
    cases hf
    exact ar_iret X dX6_lot_21 hR (Nat.le_refl _) (Nat.le_refl _)
  · refine ar_iload_n X dX6_lot_9 rfl 2 rfl ?_
    refine ar_iconst (v := 1) X dX6_lot_10 (by decide) ?_
    refine ar_bipush (v := 50) X dX6_lot_11 (by decide) ?_
    obtain ⟨r3, h3, hf⟩ := am_b1_e hf
    refine ar_cSi (As := [.int a2, .int (1 : Int32), .int (50 : Int32)]) (st := []) X dX6_lot_13 (am_X6_within h3) lk_X6_41 mt_X6_within ms_X6_within rfl (Nat.le_of_ble_eq_true rfl) ⟨by decide, by decide⟩ ⟨Nat.zero_le _, Nat.zero_le _⟩ rfl ?_
    refine ar_if_ne (tgt := 22) X dX6_lot_16 (by decide) hf (fun h4 hf => ?_) (fun h4 hf => ?_)
    · refine ar_bipush (v := -2) X dX6_lot_19 (by decide) ?_
      cases hf
      exact ar_iret X dX6_lot_21 hR (Nat.le_refl _) (Nat.le_refl _)
    · refine ar_aload_n X dX6_lot_22 rfl 0 rfl ?_
      refine ar_getr X dX6_lot_23 fg_X6_10 rfl (L6_s0 hL) (L6_p0_0 hL) ?_
      refine ar_getr X dX6_lot_26 fg_X6_86 rfl (L6_s1 hL) (L6_p1_2 hL) ?_
      obtain ⟨r5, h5, hf⟩ := am_b1_e hf
      refine ar_cVi (As := []) (st := []) X dX6_lot_29 (am_X2_areFull (L6_c9 hL) h5) lk_X6_90 mt_X2_areFull mi_X2_areFull (L6_s9 hL) rfl rfl (Nat.le_of_ble_eq_true rfl) ⟨by decide, by decide⟩ ⟨Nat.zero_le _, Nat.zero_le _⟩ rfl ?_
      refine ar_if_eq (tgt := 38) X dX6_lot_32 (by decide) hf (fun h6 hf => ?_) (fun h6 hf => ?_)
      · refine ar_aload_n X dX6_lot_38 rfl 0 rfl ?_
        refine ar_getr X dX6_lot_39 fg_X6_10 rfl (L6_s0 hL) (L6_p0_0 hL) ?_
        obtain ⟨r7, h7, hf⟩ := am_b1_e hf
        refine ar_cVi (As := []) (st := []) X dX6_lot_42 (am_X1_isUnopened (L6_c1 hL) h7) lk_X6_77 mt_X1_isUnopened mi_X1_isUnopened (L6_s1 hL) rfl rfl (Nat.le_of_ble_eq_true rfl) ⟨by decide, by decide⟩ ⟨Nat.zero_le _, Nat.zero_le _⟩ rfl ?_
        refine ar_if_ne (tgt := 51) X dX6_lot_45 (by decide) hf (fun h8 hf => ?_) (fun h8 hf => ?_)
        · refine ar_bipush (v := -5) X dX6_lot_48 (by decide) ?_
          cases hf
          exact ar_iret X dX6_lot_50 hR (Nat.le_refl _) (Nat.le_refl _)
        · refine ar_aload_n X dX6_lot_51 rfl 0 rfl ?_
          refine ar_getr X dX6_lot_52 fg_X6_10 rfl (L6_s0 hL) (L6_p0_0 hL) ?_
          refine ar_getr X dX6_lot_55 fg_X6_86 rfl (L6_s1 hL) (L6_p1_2 hL) ?_
          refine ar_iload_n X dX6_lot_58 rfl 1 rfl ?_
          refine ar_iload_n X dX6_lot_59 rfl 2 rfl ?_
          obtain ⟨r9, I9, h9, hf⟩ := am_b2_e hf
          refine ar_cVi (As := [.int a1, .int a2]) (st := []) X dX6_lot_60 (am_X2_add (L6_c9 hL) h9) lk_X6_95 mt_X2_add mi_X2_add (L6_s9 hL) rfl rfl (Nat.le_of_ble_eq_true rfl) ⟨by decide, by decide⟩ ⟨Nat.zero_le _, Nat.zero_le _⟩ rfl ?_
          cases hf
          exact ar_iret X dX6_lot_63 hR (Nat.le_refl _) (Nat.le_refl _)
      · refine ar_bipush (v := -4) X dX6_lot_35 (by decide) ?_
        cases hf
        exact ar_iret X dX6_lot_37 hR (Nat.le_refl _) (Nat.le_refl _)
def f_X6_move (o : Nat)  (I : aI) : Option (Int32 × aI) :=
  am_b2 (f_X1_moveAlone (o + 1) I) fun r1 I1 =>
  some (r1, I1)
set_option maxRecDepth 100000 in
set_option maxHeartbeats 4000000 in
theorem am_X6_move {sh : aS} {P : aP} {I : aI} {J : aJ} {o : Nat} (hL : L6 sh P o)  {r : Int32} {I9 : aI} (hf : f_X6_move o I = some (r, I9)) : AM yX6_move cX6_move 1 (some .int) 5 119 [.ref o] sh P I J (some (.int r)) sh P I9 J 0 0 := by
  refine am_met (by decide +kernel) (Nat.le_of_ble_eq_true rfl) (fun K X hR => ?_)
  have X : am_C K cX6_move 1 RX6 "move" ({ frames := 5, cells := 0, slots := 0, locals := 119 } : Room) := X
  show AW K 1 0 [(0, .ref o)] [] sh P I J 0 0
  unfold f_X6_move at hf
  refine ar_aload_n X dX6_move_0 rfl 0 rfl ?_
  refine ar_getr X dX6_move_1 fg_X6_10 rfl (L6_s0 hL) (L6_p0_0 hL) ?_
  obtain ⟨r1, I1, h1, hf⟩ := am_b2_e hf
  refine ar_cVi (As := []) (st := []) X dX6_move_4 (am_X1_moveAlone (L6_c1 hL) h1) lk_X6_108 mt_X1_moveAlone mi_X1_moveAlone (L6_s1 hL) rfl rfl (Nat.le_of_ble_eq_true rfl) ⟨by decide, by decide⟩ ⟨Nat.zero_le _, Nat.zero_le _⟩ rfl ?_
  cases hf
  exact ar_iret X dX6_move_7 hR (Nat.le_refl _) (Nat.le_refl _)
def f_X6_pass (o : Nat) (a1 : Int32) (I : aI) : Option (Int32 × aI) :=
  am_b2 (f_X1_takePass (o + 1) a1 I) fun r1 I1 =>
  some (r1, I1)
set_option maxRecDepth 100000 in
set_option maxHeartbeats 4000000 in
theorem am_X6_pass {sh : aS} {P : aP} {I : aI} {J : aJ} {o : Nat} (hL : L6 sh P o) {a1 : Int32} {r : Int32} {I9 : aI} (hf : f_X6_pass o a1 I = some (r, I9)) : AM yX6_pass cX6_pass 2 (some .int) 5 119 [.ref o, .int a1] sh P I J (some (.int r)) sh P I9 J 0 0 := by
  refine am_met (by decide +kernel) (Nat.le_of_ble_eq_true rfl) (fun K X hR => ?_)
  have X : am_C K cX6_pass 2 RX6 "pass" ({ frames := 5, cells := 0, slots := 0, locals := 119 } : Room) := X
  show AW K 2 0 [(0, .ref o), (1, .int a1)] [] sh P I J 0 0
  unfold f_X6_pass at hf
  refine ar_aload_n X dX6_pass_0 rfl 0 rfl ?_
  refine ar_getr X dX6_pass_1 fg_X6_10 rfl (L6_s0 hL) (L6_p0_0 hL) ?_
  refine ar_iload_n X dX6_pass_4 rfl 1 rfl ?_
  obtain ⟨r1, I1, h1, hf⟩ := am_b2_e hf
  refine ar_cVi (As := [.int a1]) (st := []) X dX6_pass_5 (am_X1_takePass (L6_c1 hL) h1) lk_X6_104 mt_X1_takePass mi_X1_takePass (L6_s1 hL) rfl rfl (Nat.le_of_ble_eq_true rfl) ⟨by decide, by decide⟩ ⟨Nat.zero_le _, Nat.zero_le _⟩ rfl ?_
  cases hf
  exact ar_iret X dX6_pass_8 hR (Nat.le_refl _) (Nat.le_refl _)
def f_X6_player (o : Nat) (a1 : Int32) (a2 : Int32) (I : aI) : Option Int32 :=
  am_b1 (f_X4_hasSeat (o + 3) a1 I) fun r1 =>
  if r1 = 0 then (
    some (-1 : Int32))
  else (
    if a2 = (0 : Int32) then (
      am_b1 (f_X4_amountOf (o + 3) a1 I) fun r4 =>
      some r4)
    else if a2 = (1 : Int32) then (
      am_b1 (f_X4_boldnessOf (o + 3) a1 I) fun r6 =>
      some r6)
    else if a2 = (2 : Int32) then (
      am_b1 (f_X4_paidBy (o + 3) a1 I) fun r8 =>
      some r8)
    else if a2 = (3 : Int32) then (
      am_b1 (f_X1_valueOf (o + 1) a1 I) fun r10 =>
      some r10)
    else if a2 = (4 : Int32) then (
      am_b1 (f_X1_scoreOf (o + 1) a1 I) fun r12 =>
      some r12)
    else if a2 = (5 : Int32) then (
      am_b1 (f_X1_placeOf (o + 1) a1 I) fun r14 =>
      some r14)
    else if a2 = (6 : Int32) then (
      am_b1 (f_X2_ownedBy (o + 9) a1 I) fun r16 =>
      some r16)
    else if a2 = (7 : Int32) then (
      am_b1 (f_X1_limitOf (o + 1) a1 I) fun r18 =>
      some r18)
    else if a2 = (8 : Int32) then (
      am_b1 (f_X0_bidOf (o + 14) a1 I) fun r20 =>
      some r20)
    else if a2 = (9 : Int32) then (
      am_b1 (f_X0_isOut (o + 14) a1 I) fun r22 =>
      if r22 = 0 then (
        some (0 : Int32))
      else (
        some (1 : Int32)))
    else (
      some (-2 : Int32)))
set_option maxRecDepth 100000 in
set_option maxHeartbeats 4000000 in
theorem am_X6_player {sh : aS} {P : aP} {I : aI} {J : aJ} {o : Nat} (hL : L6 sh P o) {a1 : Int32} {a2 : Int32} {r : Int32} (hf : f_X6_player o a1 a2 I = some r) : AM yX6_player cX6_player 3 (some .int) 6 141 [.ref o, .int a1, .int a2] sh P I J (some (.int r)) sh P I J 0 0 := by
  refine am_met (by decide +kernel) (Nat.le_of_ble_eq_true rfl) (fun K X hR => ?_)
  have X : am_C K cX6_player 3 RX6 "player" ({ frames := 6, cells := 0, slots := 0, locals := 141 } : Room) := X
  show AW K 3 0 [(0, .ref o), (1, .int a1), (2, .int a2)] [] sh P I J 0 0
  unfold f_X6_player at hf
  refine ar_aload_n X dX6_player_0 rfl 0 rfl ?_
  refine ar_getr X dX6_player_1 fg_X6_10 rfl (L6_s0 hL) (L6_p0_0 hL) ?_
  refine ar_getr X dX6_player_4 fg_X6_45 rfl (L6_s1 hL) (L6_p1_1 hL) ?_
  refine ar_iload_n X dX6_player_7 rfl 1 rfl ?_
  obtain ⟨r1, h1, hf⟩ := am_b1_e hf
  refine ar_cVi (As := [.int a1]) (st := []) X dX6_player_8 (am_X4_hasSeat (L6_c3 hL) h1) lk_X6_73 mt_X4_hasSeat mi_X4_hasSeat (L6_s3 hL) rfl rfl (Nat.le_of_ble_eq_true rfl) ⟨by decide, by decide⟩ ⟨Nat.zero_le _, Nat.zero_le _⟩ rfl ?_
  refine ar_if_ne (tgt := 16) X dX6_player_11 (by decide) hf (fun h2 hf => ?_) (fun h2 hf => ?_)
  · refine ar_iconst (v := -1) X dX6_player_14 (by decide) ?_
    cases hf
    exact ar_iret X dX6_player_15 hR (Nat.le_refl _) (Nat.le_refl _)
  · refine ar_iload_n X dX6_player_16 rfl 2 rfl ?_
    rcases am_ite hf with ⟨h3, hf⟩ | ⟨h3, hf⟩
    · refine ar_tableIn (tgt := 72) X dX6_player_17 (by rw [h3]; decide) (by rw [h3]; decide) (by rw [h3]; rfl) (by decide) ?_
      refine ar_aload_n X dX6_player_72 rfl 0 rfl ?_
      refine ar_getr X dX6_player_73 fg_X6_10 rfl (L6_s0 hL) (L6_p0_0 hL) ?_
      refine ar_getr X dX6_player_76 fg_X6_45 rfl (L6_s1 hL) (L6_p1_1 hL) ?_
      refine ar_iload_n X dX6_player_79 rfl 1 rfl ?_
      obtain ⟨r4, h4, hf⟩ := am_b1_e hf
      refine ar_cVi (As := [.int a1]) (st := []) X dX6_player_80 (am_X4_amountOf (L6_c3 hL) h4) lk_X6_118 mt_X4_amountOf mi_X4_amountOf (L6_s3 hL) rfl rfl (Nat.le_of_ble_eq_true rfl) ⟨by decide, by decide⟩ ⟨Nat.zero_le _, Nat.zero_le _⟩ rfl ?_
      cases hf
      exact ar_iret X dX6_player_83 hR (Nat.le_refl _) (Nat.le_refl _)
    rcases am_ite hf with ⟨h5, hf⟩ | ⟨h5, hf⟩
    · refine ar_tableIn (tgt := 84) X dX6_player_17 (by rw [h5]; decide) (by rw [h5]; decide) (by rw [h5]; rfl) (by decide) ?_
      refine ar_aload_n X dX6_player_84 rfl 0 rfl ?_
      refine ar_getr X dX6_player_85 fg_X6_10 rfl (L6_s0 hL) (L6_p0_0 hL) ?_
      refine ar_getr X dX6_player_88 fg_X6_45 rfl (L6_s1 hL) (L6_p1_1 hL) ?_
      refine ar_iload_n X dX6_player_91 rfl 1 rfl ?_
      obtain ⟨r6, h6, hf⟩ := am_b1_e hf
      refine ar_cVi (As := [.int a1]) (st := []) X dX6_player_92 (am_X4_boldnessOf (L6_c3 hL) h6) lk_X6_121 mt_X4_boldnessOf mi_X4_boldnessOf (L6_s3 hL) rfl rfl (Nat.le_of_ble_eq_true rfl) ⟨by decide, by decide⟩ ⟨Nat.zero_le _, Nat.zero_le _⟩ rfl ?_
      cases hf
      exact ar_iret X dX6_player_95 hR (Nat.le_refl _) (Nat.le_refl _)
    rcases am_ite hf with ⟨h7, hf⟩ | ⟨h7, hf⟩
    · refine ar_tableIn (tgt := 96) X dX6_player_17 (by rw [h7]; decide) (by rw [h7]; decide) (by rw [h7]; rfl) (by decide) ?_
      refine ar_aload_n X dX6_player_96 rfl 0 rfl ?_
      refine ar_getr X dX6_player_97 fg_X6_10 rfl (L6_s0 hL) (L6_p0_0 hL) ?_
      refine ar_getr X dX6_player_100 fg_X6_45 rfl (L6_s1 hL) (L6_p1_1 hL) ?_
      refine ar_iload_n X dX6_player_103 rfl 1 rfl ?_
      obtain ⟨r8, h8, hf⟩ := am_b1_e hf
      refine ar_cVi (As := [.int a1]) (st := []) X dX6_player_104 (am_X4_paidBy (L6_c3 hL) h8) lk_X6_124 mt_X4_paidBy mi_X4_paidBy (L6_s3 hL) rfl rfl (Nat.le_of_ble_eq_true rfl) ⟨by decide, by decide⟩ ⟨Nat.zero_le _, Nat.zero_le _⟩ rfl ?_
      cases hf
      exact ar_iret X dX6_player_107 hR (Nat.le_refl _) (Nat.le_refl _)
    rcases am_ite hf with ⟨h9, hf⟩ | ⟨h9, hf⟩
    · refine ar_tableIn (tgt := 108) X dX6_player_17 (by rw [h9]; decide) (by rw [h9]; decide) (by rw [h9]; rfl) (by decide) ?_
      refine ar_aload_n X dX6_player_108 rfl 0 rfl ?_
      refine ar_getr X dX6_player_109 fg_X6_10 rfl (L6_s0 hL) (L6_p0_0 hL) ?_
      refine ar_iload_n X dX6_player_112 rfl 1 rfl ?_
      obtain ⟨r10, h10, hf⟩ := am_b1_e hf
      refine ar_cVi (As := [.int a1]) (st := []) X dX6_player_113 (am_X1_valueOf (L6_c1 hL) h10) lk_X6_127 mt_X1_valueOf mi_X1_valueOf (L6_s1 hL) rfl rfl (Nat.le_of_ble_eq_true rfl) ⟨by decide, by decide⟩ ⟨Nat.zero_le _, Nat.zero_le _⟩ rfl ?_
      cases hf
      exact ar_iret X dX6_player_116 hR (Nat.le_refl _) (Nat.le_refl _)
    rcases am_ite hf with ⟨h11, hf⟩ | ⟨h11, hf⟩
    · refine ar_tableIn (tgt := 117) X dX6_player_17 (by rw [h11]; decide) (by rw [h11]; decide) (by rw [h11]; rfl) (by decide) ?_
      refine ar_aload_n X dX6_player_117 rfl 0 rfl ?_
      refine ar_getr X dX6_player_118 fg_X6_10 rfl (L6_s0 hL) (L6_p0_0 hL) ?_
      refine ar_iload_n X dX6_player_121 rfl 1 rfl ?_
      obtain ⟨r12, h12, hf⟩ := am_b1_e hf
      refine ar_cVi (As := [.int a1]) (st := []) X dX6_player_122 (am_X1_scoreOf (L6_c1 hL) h12) lk_X6_130 mt_X1_scoreOf mi_X1_scoreOf (L6_s1 hL) rfl rfl (Nat.le_of_ble_eq_true rfl) ⟨by decide, by decide⟩ ⟨Nat.zero_le _, Nat.zero_le _⟩ rfl ?_
      cases hf
      exact ar_iret X dX6_player_125 hR (Nat.le_refl _) (Nat.le_refl _)
    rcases am_ite hf with ⟨h13, hf⟩ | ⟨h13, hf⟩
    · refine ar_tableIn (tgt := 126) X dX6_player_17 (by rw [h13]; decide) (by rw [h13]; decide) (by rw [h13]; rfl) (by decide) ?_
      refine ar_aload_n X dX6_player_126 rfl 0 rfl ?_
      refine ar_getr X dX6_player_127 fg_X6_10 rfl (L6_s0 hL) (L6_p0_0 hL) ?_
      refine ar_iload_n X dX6_player_130 rfl 1 rfl ?_
      obtain ⟨r14, h14, hf⟩ := am_b1_e hf
      refine ar_cVi (As := [.int a1]) (st := []) X dX6_player_131 (am_X1_placeOf (L6_c1 hL) h14) lk_X6_133 mt_X1_placeOf mi_X1_placeOf (L6_s1 hL) rfl rfl (Nat.le_of_ble_eq_true rfl) ⟨by decide, by decide⟩ ⟨Nat.zero_le _, Nat.zero_le _⟩ rfl ?_
      cases hf
      exact ar_iret X dX6_player_134 hR (Nat.le_refl _) (Nat.le_refl _)
    rcases am_ite hf with ⟨h15, hf⟩ | ⟨h15, hf⟩
    · refine ar_tableIn (tgt := 135) X dX6_player_17 (by rw [h15]; decide) (by rw [h15]; decide) (by rw [h15]; rfl) (by decide) ?_
      refine ar_aload_n X dX6_player_135 rfl 0 rfl ?_
      refine ar_getr X dX6_player_136 fg_X6_10 rfl (L6_s0 hL) (L6_p0_0 hL) ?_
      refine ar_getr X dX6_player_139 fg_X6_86 rfl (L6_s1 hL) (L6_p1_2 hL) ?_
      refine ar_iload_n X dX6_player_142 rfl 1 rfl ?_
      obtain ⟨r16, h16, hf⟩ := am_b1_e hf
      refine ar_cVi (As := [.int a1]) (st := []) X dX6_player_143 (am_X2_ownedBy (L6_c9 hL) h16) lk_X6_136 mt_X2_ownedBy mi_X2_ownedBy (L6_s9 hL) rfl rfl (Nat.le_of_ble_eq_true rfl) ⟨by decide, by decide⟩ ⟨Nat.zero_le _, Nat.zero_le _⟩ rfl ?_
      cases hf
      exact ar_iret X dX6_player_146 hR (Nat.le_refl _) (Nat.le_refl _)
    rcases am_ite hf with ⟨h17, hf⟩ | ⟨h17, hf⟩
    · refine ar_tableIn (tgt := 147) X dX6_player_17 (by rw [h17]; decide) (by rw [h17]; decide) (by rw [h17]; rfl) (by decide) ?_
      refine ar_aload_n X dX6_player_147 rfl 0 rfl ?_
      refine ar_getr X dX6_player_148 fg_X6_10 rfl (L6_s0 hL) (L6_p0_0 hL) ?_
      refine ar_iload_n X dX6_player_151 rfl 1 rfl ?_
      obtain ⟨r18, h18, hf⟩ := am_b1_e hf
      refine ar_cVi (As := [.int a1]) (st := []) X dX6_player_152 (am_X1_limitOf (L6_c1 hL) h18) lk_X6_139 mt_X1_limitOf mi_X1_limitOf (L6_s1 hL) rfl rfl (Nat.le_of_ble_eq_true rfl) ⟨by decide, by decide⟩ ⟨Nat.zero_le _, Nat.zero_le _⟩ rfl ?_
      cases hf
      exact ar_iret X dX6_player_155 hR (Nat.le_refl _) (Nat.le_refl _)
    rcases am_ite hf with ⟨h19, hf⟩ | ⟨h19, hf⟩
    · refine ar_tableIn (tgt := 156) X dX6_player_17 (by rw [h19]; decide) (by rw [h19]; decide) (by rw [h19]; rfl) (by decide) ?_
      refine ar_aload_n X dX6_player_156 rfl 0 rfl ?_
      refine ar_getr X dX6_player_157 fg_X6_10 rfl (L6_s0 hL) (L6_p0_0 hL) ?_
      refine ar_getr X dX6_player_160 fg_X6_59 rfl (L6_s1 hL) (L6_p1_3 hL) ?_
      refine ar_iload_n X dX6_player_163 rfl 1 rfl ?_
      obtain ⟨r20, h20, hf⟩ := am_b1_e hf
      refine ar_cVi (As := [.int a1]) (st := []) X dX6_player_164 (am_X0_bidOf (L6_c14 hL) h20) lk_X6_142 mt_X0_bidOf mi_X0_bidOf (L6_s14 hL) rfl rfl (Nat.le_of_ble_eq_true rfl) ⟨by decide, by decide⟩ ⟨Nat.zero_le _, Nat.zero_le _⟩ rfl ?_
      cases hf
      exact ar_iret X dX6_player_167 hR (Nat.le_refl _) (Nat.le_refl _)
    rcases am_ite hf with ⟨h21, hf⟩ | ⟨h21, hf⟩
    · refine ar_tableIn (tgt := 168) X dX6_player_17 (by rw [h21]; decide) (by rw [h21]; decide) (by rw [h21]; rfl) (by decide) ?_
      refine ar_aload_n X dX6_player_168 rfl 0 rfl ?_
      refine ar_getr X dX6_player_169 fg_X6_10 rfl (L6_s0 hL) (L6_p0_0 hL) ?_
      refine ar_getr X dX6_player_172 fg_X6_59 rfl (L6_s1 hL) (L6_p1_3 hL) ?_
      refine ar_iload_n X dX6_player_175 rfl 1 rfl ?_
      obtain ⟨r22, h22, hf⟩ := am_b1_e hf
      refine ar_cVi (As := [.int a1]) (st := []) X dX6_player_176 (am_X0_isOut (L6_c14 hL) h22) lk_X6_145 mt_X0_isOut mi_X0_isOut (L6_s14 hL) rfl rfl (Nat.le_of_ble_eq_true rfl) ⟨by decide, by decide⟩ ⟨Nat.zero_le _, Nat.zero_le _⟩ rfl ?_
      refine ar_if_eq (tgt := 186) X dX6_player_179 (by decide) hf (fun h23 hf => ?_) (fun h23 hf => ?_)
      · refine ar_iconst (v := 0) X dX6_player_186 (by decide) ?_
        cases hf
        exact ar_iret X dX6_player_187 hR (Nat.le_refl _) (Nat.le_refl _)
      · refine ar_iconst (v := 1) X dX6_player_182 (by decide) ?_
        refine ar_goto (tgt := 187) X dX6_player_183 (by decide) ?_
        cases hf
        exact ar_iret X dX6_player_187 hR (Nat.le_refl _) (Nat.le_refl _)
    have hout : a2.toInt < 0 ∨ 9 < a2.toInt := by
      refine Classical.byContradiction (fun hn => ?_)
      have hTT : a2.toInt = 0 ∨ a2.toInt = 1 ∨ a2.toInt = 2 ∨ a2.toInt = 3 ∨ a2.toInt = 4 ∨ a2.toInt = 5 ∨ a2.toInt = 6 ∨ a2.toInt = 7 ∨ a2.toInt = 8 ∨ a2.toInt = 9 := by omega
      rcases hTT with hTT | hTT | hTT | hTT | hTT | hTT | hTT | hTT | hTT | hTT
      · exact h3 (Int32.toInt_inj.mp hTT)
      · exact h5 (Int32.toInt_inj.mp hTT)
      · exact h7 (Int32.toInt_inj.mp hTT)
      · exact h9 (Int32.toInt_inj.mp hTT)
      · exact h11 (Int32.toInt_inj.mp hTT)
      · exact h13 (Int32.toInt_inj.mp hTT)
      · exact h15 (Int32.toInt_inj.mp hTT)
      · exact h17 (Int32.toInt_inj.mp hTT)
      · exact h19 (Int32.toInt_inj.mp hTT)
      · exact h21 (Int32.toInt_inj.mp hTT)
    refine ar_tableOut (tgt := 188) X dX6_player_17 hout (by decide) ?_
    refine ar_bipush (v := -2) X dX6_player_188 (by decide) ?_
    cases hf
    exact ar_iret X dX6_player_190 hR (Nat.le_refl _) (Nat.le_refl _)
def f_X6_signsIn_b57  (l2 : Int64) (l4 : Int32) : Option Int32 :=
  if (lg_cmp l2 (0 : Int64)) = 0 then (
    some l4)
  else (
    some (0 : Int32))
set_option maxRecDepth 100000 in
set_option maxHeartbeats 4000000 in
theorem ab_X6_signsIn_b57 {K : aK} {sh : aS} {P : aP} {I : aI} {J : aJ}  (X : am_C K cX6_signsIn 6 RX6 "signsIn" ({ frames := 1, cells := 0, slots := 0, locals := 22 } : Room))  {r : Int32} (hR : am_R K (some .int) (some (.int r)) sh P I J 0 0) (l2 : Int64) (l4 : Int32) (hf : f_X6_signsIn_b57 l2 l4 = some r) : AW K 6 57 [(2, .long l2), (4, .int l4)] [] sh P I J 0 0 := by
  unfold f_X6_signsIn_b57 at hf
  refine ar_lload_n X dX6_signsIn_57 rfl 0 rfl ?_
  refine ar_lconst (v := 0) X dX6_signsIn_58 (by decide) ?_
  refine ar_lcmp X dX6_signsIn_59 ?_
  refine ar_if_ne (tgt := 68) X dX6_signsIn_60 (by decide) hf (fun h1 hf => ?_) (fun h1 hf => ?_)
  · refine ar_iload X dX6_signsIn_63 1 rfl ?_
    refine ar_goto (tgt := 69) X dX6_signsIn_65 (by decide) ?_
    cases hf
    exact ar_iret X dX6_signsIn_69 hR (Nat.le_refl _) (Nat.le_refl _)
  · refine ar_iconst (v := 0) X dX6_signsIn_68 (by decide) ?_
    cases hf
    exact ar_iret X dX6_signsIn_69 hR (Nat.le_refl _) (Nat.le_refl _)
def f_X6_signsIn_h8  : Nat → Int64 → Int32 → Int32 → Option Int32
  | 0, _, _, _ => none
  | n + 1, l2, l4, l5 =>
    if (8 : Int32) ≤ l5 then (
      f_X6_signsIn_b57 l2 l4)
    else (
      if (lg_cmp (l2 &&& (255 : Int64)) (0 : Int64)) = 0 then (
        f_X6_signsIn_b57 l2 l4)
      else (
        am_b1 (f_X6_within (Int64.toInt32 (l2 &&& (255 : Int64))) (33 : Int32) (126 : Int32)) fun r3 =>
        if r3 = 0 then (
          some (0 : Int32))
        else (
          am_let (am_lushr l2 (8 : Int32)) fun x5 =>
          f_X6_signsIn_h8 n x5 (l4 + 1) (l5 + 1))))
set_option maxRecDepth 100000 in
set_option maxHeartbeats 4000000 in
theorem ab_X6_signsIn_h8 {K : aK} {sh : aS} {P : aP} {I : aI} {J : aJ}  (X : am_C K cX6_signsIn 6 RX6 "signsIn" ({ frames := 1, cells := 0, slots := 0, locals := 22 } : Room))  {r : Int32} (hR : am_R K (some .int) (some (.int r)) sh P I J 0 0) : ∀ (n : Nat) (l2 : Int64) (l4 : Int32) (l5 : Int32) , f_X6_signsIn_h8 n l2 l4 l5 = some r → AW K 6 8 [(2, .long l2), (4, .int l4), (5, .int l5)] [] sh P I J 0 0 := by
  intro n
  induction n with
  | zero =>
    intro l2 l4 l5 hf
    cases hf
  | succ n ih =>
    intro l2 l4 l5 hf
    rw [f_X6_signsIn_h8] at hf
    refine ar_iload X dX6_signsIn_8 2 rfl ?_
    refine ar_bipush (v := 8) X dX6_signsIn_10 (by decide) ?_
    refine ar_icmp_ge (tgt := 57) X dX6_signsIn_12 (by decide) hf (fun h1 hf => ?_) (fun h1 hf => ?_)
    · refine ar_lo [0, 1] rfl ?_
      exact ab_X6_signsIn_b57 X hR l2 l4 hf
    · refine ar_lload_n X dX6_signsIn_15 rfl 0 rfl ?_
      refine ar_ldc2 X dX6_signsIn_16 ct_X6_254 ?_
      refine ar_land X dX6_signsIn_19 ?_
      refine ar_lconst (v := 0) X dX6_signsIn_20 (by decide) ?_
      refine ar_lcmp X dX6_signsIn_21 ?_
      refine ar_if_eq (tgt := 57) X dX6_signsIn_22 (by decide) hf (fun h2 hf => ?_) (fun h2 hf => ?_)
      · refine ar_lo [0, 1] rfl ?_
        exact ab_X6_signsIn_b57 X hR l2 l4 hf
      · refine ar_lload_n X dX6_signsIn_25 rfl 0 rfl ?_
        refine ar_ldc2 X dX6_signsIn_26 ct_X6_254 ?_
        refine ar_land X dX6_signsIn_29 ?_
        refine ar_l2i X dX6_signsIn_30 ?_
        refine ar_bipush (v := 33) X dX6_signsIn_31 (by decide) ?_
        refine ar_bipush (v := 126) X dX6_signsIn_33 (by decide) ?_
        obtain ⟨r3, h3, hf⟩ := am_b1_e hf
        refine ar_cSi (As := [.int (Int64.toInt32 (l2 &&& (255 : Int64))), .int (33 : Int32), .int (126 : Int32)]) (st := []) X dX6_signsIn_35 (am_X6_within h3) lk_X6_41 mt_X6_within ms_X6_within rfl (Nat.le_of_ble_eq_true rfl) ⟨by decide, by decide⟩ ⟨Nat.zero_le _, Nat.zero_le _⟩ rfl ?_
        refine ar_if_ne (tgt := 43) X dX6_signsIn_38 (by decide) hf (fun h4 hf => ?_) (fun h4 hf => ?_)
        · refine ar_iconst (v := 0) X dX6_signsIn_41 (by decide) ?_
          cases hf
          exact ar_iret X dX6_signsIn_42 hR (Nat.le_refl _) (Nat.le_refl _)
        · refine ar_lload_n X dX6_signsIn_43 rfl 0 rfl ?_
          refine ar_bipush (v := 8) X dX6_signsIn_44 (by decide) ?_
          refine ar_lushr X dX6_signsIn_46 ?_
          refine ar_letL hf (fun x5 hf => ?_)
          refine ar_lstore_n X dX6_signsIn_47 rfl (by decide) rfl ?_
          refine ar_iinc (j := 1) (v := (l4 + 1)) X dX6_signsIn_48 rfl rfl (by decide) rfl ?_
          refine ar_iinc (j := 2) (v := (l5 + 1)) X dX6_signsIn_51 rfl rfl (by decide) rfl ?_
          refine ar_goto (tgt := 8) X dX6_signsIn_54 (by decide) ?_
          refine ar_lo [2, 1, 0] rfl ?_
          exact ih x5 (l4 + 1) (l5 + 1) hf
def f_X6_signsIn  (a0 : Int64) : Option Int32 :=
  f_X6_signsIn_h8 am_F a0 (0 : Int32) (0 : Int32)
set_option maxRecDepth 100000 in
set_option maxHeartbeats 4000000 in
theorem am_X6_signsIn {sh : aS} {P : aP} {I : aI} {J : aJ}   {a0 : Int64} {r : Int32} (hf : f_X6_signsIn a0 = some r) : AM yX6_signsIn cX6_signsIn 6 (some .int) 1 22 [.long a0] sh P I J (some (.int r)) sh P I J 0 0 := by
  refine am_met (by decide +kernel) (Nat.le_of_ble_eq_true rfl) (fun K X hR => ?_)
  have X : am_C K cX6_signsIn 6 RX6 "signsIn" ({ frames := 1, cells := 0, slots := 0, locals := 22 } : Room) := X
  show AW K 6 0 [(0, .long a0)] [] sh P I J 0 0
  unfold f_X6_signsIn at hf
  refine ar_lload_n X dX6_signsIn_0 rfl 0 rfl ?_
  refine ar_lstore_n X dX6_signsIn_1 rfl (by decide) rfl ?_
  refine ar_iconst (v := 0) X dX6_signsIn_2 (by decide) ?_
  refine ar_istore X dX6_signsIn_3 (by decide) rfl ?_
  refine ar_iconst (v := 0) X dX6_signsIn_5 (by decide) ?_
  refine ar_istore X dX6_signsIn_6 (by decide) rfl ?_
  refine ar_lo [2, 1, 0] rfl ?_
  exact ab_X6_signsIn_h8 X hR am_F a0 (0 : Int32) (0 : Int32) hf
def f_X6_put_h34 (o : Nat) : Nat → Int64 → Int32 → aI → Option (Int32 × aI)
  | 0, _, _, _ => none
  | n + 1, l1, l4, I =>
    if l4 < 0 then (
      some ((I (o + 35) 1), I))
    else (
      am_b1 (f_X3_append (o + 35) (am_i2c (Int64.toInt32 ((am_lushr l1 ((8 : Int32) * l4)) &&& (255 : Int64)))) I) fun I2 =>
      f_X6_put_h34 o n l1 (l4 + (-1)) I2)
set_option maxRecDepth 100000 in
set_option maxHeartbeats 4000000 in
theorem ab_X6_put_h34 {K : aK} {sh : aS} {P : aP} {J : aJ} {o : Nat} (X : am_C K cX6_put 5 RX6 "put" ({ frames := 2, cells := 0, slots := 0, locals := 47 } : Room)) (hL : L6 sh P o) {r : Int32} {I9 : aI} (hR : am_R K (some .int) (some (.int r)) sh P I9 J 0 0) : ∀ (n : Nat) (l1 : Int64) (l4 : Int32) (I : aI) , f_X6_put_h34 o n l1 l4 I = some (r, I9) → AW K 5 34 [(0, .ref o), (1, .long l1), (4, .int l4)] [] sh P I J 0 0 := by
  intro n
  induction n with
  | zero =>
    intro l1 l4 I hf
    cases hf
  | succ n ih =>
    intro l1 l4 I hf
    rw [f_X6_put_h34] at hf
    refine ar_iload X dX6_put_34 2 rfl ?_
    refine ar_if_lt (tgt := 65) X dX6_put_36 (by decide) hf (fun h1 hf => ?_) (fun h1 hf => ?_)
    · refine ar_aload_n X dX6_put_65 rfl 0 rfl ?_
      refine ar_getr X dX6_put_66 fg_X6_33 rfl (L6_s0 hL) (L6_p0_4 hL) ?_
      refine ar_geti X dX6_put_69 fg_X6_202 rfl (L6_s35 hL) ?_
      cases hf
      exact ar_iret X dX6_put_72 hR (Nat.le_refl _) (Nat.le_refl _)
    · refine ar_aload_n X dX6_put_39 rfl 0 rfl ?_
      refine ar_getr X dX6_put_40 fg_X6_33 rfl (L6_s0 hL) (L6_p0_4 hL) ?_
      refine ar_lload_n X dX6_put_43 rfl 1 rfl ?_
      refine ar_bipush (v := 8) X dX6_put_44 (by decide) ?_
      refine ar_iload X dX6_put_46 2 rfl ?_
      refine ar_imul X dX6_put_48 ?_
      refine ar_lushr X dX6_put_49 ?_
      refine ar_ldc2 X dX6_put_50 ct_X6_254 ?_
      refine ar_land X dX6_put_53 ?_
      refine ar_l2i X dX6_put_54 ?_
      refine ar_i2c X dX6_put_55 ?_
      obtain ⟨I2, h2, hf⟩ := am_b1_e hf
      refine ar_cVv (As := [.int (am_i2c (Int64.toInt32 ((am_lushr l1 ((8 : Int32) * l4)) &&& (255 : Int64))))]) (st := []) X dX6_put_56 (am_X3_append (L6_c35 hL) h2) lk_X6_256 mt_X3_append mi_X3_append (L6_s35 hL) rfl rfl (Nat.le_of_ble_eq_true rfl) ⟨by decide, by decide⟩ ⟨Nat.zero_le _, Nat.zero_le _⟩ rfl ?_
      refine ar_iinc (j := 2) (v := (l4 + (-1))) X dX6_put_59 rfl rfl (by decide) rfl ?_
      refine ar_goto (tgt := 34) X dX6_put_62 (by decide) ?_
      refine ar_lo [1, 2, 0] rfl ?_
      exact ih l1 (l4 + (-1)) I2 hf
def f_X6_put (o : Nat) (a1 : Int64) (I : aI) : Option (Int32 × aI) :=
  am_b1 (f_X6_signsIn a1) fun r1 =>
  if r1 = 0 then (
    some ((-2 : Int32), I))
  else (
    if ((I (o + 35) 1) + r1) ≤ (60 : Int32) then (
      am_let (r1 - (1 : Int32)) fun x4 =>
      f_X6_put_h34 o am_F a1 x4 I)
    else (
      some ((-4 : Int32), I)))
set_option maxRecDepth 100000 in
set_option maxHeartbeats 4000000 in
theorem am_X6_put {sh : aS} {P : aP} {I : aI} {J : aJ} {o : Nat} (hL : L6 sh P o) {a1 : Int64} {r : Int32} {I9 : aI} (hf : f_X6_put o a1 I = some (r, I9)) : AM yX6_put cX6_put 5 (some .int) 2 47 [.ref o, .long a1] sh P I J (some (.int r)) sh P I9 J 0 0 := by
  refine am_met (by decide +kernel) (Nat.le_of_ble_eq_true rfl) (fun K X hR => ?_)
  have X : am_C K cX6_put 5 RX6 "put" ({ frames := 2, cells := 0, slots := 0, locals := 47 } : Room) := X
  show AW K 5 0 [(0, .ref o), (1, .long a1)] [] sh P I J 0 0
  unfold f_X6_put at hf
  refine ar_lload_n X dX6_put_0 rfl 1 rfl ?_
  obtain ⟨r1, h1, hf⟩ := am_b1_e hf
  refine ar_cSi (As := [.long a1]) (st := []) X dX6_put_1 (am_X6_signsIn h1) lk_X6_250 mt_X6_signsIn ms_X6_signsIn rfl (Nat.le_of_ble_eq_true rfl) ⟨by decide, by decide⟩ ⟨Nat.zero_le _, Nat.zero_le _⟩ rfl ?_
  refine ar_istore_n X dX6_put_4 rfl (by decide) rfl ?_
  refine ar_iload_n X dX6_put_5 rfl 0 rfl ?_
  refine ar_if_ne (tgt := 12) X dX6_put_6 (by decide) hf (fun h2 hf => ?_) (fun h2 hf => ?_)
  · refine ar_bipush (v := -2) X dX6_put_9 (by decide) ?_
    cases hf
    exact ar_iret X dX6_put_11 hR (Nat.le_refl _) (Nat.le_refl _)
  · refine ar_aload_n X dX6_put_12 rfl 1 rfl ?_
    refine ar_getr X dX6_put_13 fg_X6_33 rfl (L6_s0 hL) (L6_p0_4 hL) ?_
    refine ar_geti X dX6_put_16 fg_X6_202 rfl (L6_s35 hL) ?_
    refine ar_iload_n X dX6_put_19 rfl 0 rfl ?_
    refine ar_iadd X dX6_put_20 ?_
    refine ar_bipush (v := 60) X dX6_put_21 (by decide) ?_
    refine ar_icmp_le (tgt := 29) X dX6_put_23 (by decide) hf (fun h3 hf => ?_) (fun h3 hf => ?_)
    · refine ar_iload_n X dX6_put_29 rfl 0 rfl ?_
      refine ar_iconst (v := 1) X dX6_put_30 (by decide) ?_
      refine ar_isub X dX6_put_31 ?_
      refine ar_letI hf (fun x4 hf => ?_)
      refine ar_istore X dX6_put_32 (by decide) rfl ?_
      refine ar_lo [2, 3, 0] rfl ?_
      exact ab_X6_put_h34 X hL hR am_F a1 x4 I hf
    · refine ar_bipush (v := -4) X dX6_put_26 (by decide) ?_
      cases hf
      exact ar_iret X dX6_put_28 hR (Nat.le_refl _) (Nat.le_refl _)
def f_X6_set (o : Nat) (a1 : Int32) (a2 : Int32) (I : aI) : Option (Int32 × aI) :=
  am_b1 (f_X6_isSettingValue a1 a2 I) fun r1 =>
  if r1 = 0 then (
    some ((-2 : Int32), I))
  else (
    am_b1 (f_X0_goesOn (o + 14) I) fun r3 =>
    if r3 = 0 then (
      am_b2 (f_X1_changeSetting (o + 1) a1 a2 I) fun r5 I5 =>
      some (r5, I5))
    else (
      some ((-5 : Int32), I)))
set_option maxRecDepth 100000 in
set_option maxHeartbeats 4000000 in
theorem am_X6_set {sh : aS} {P : aP} {I : aI} {J : aJ} {o : Nat} (hL : L6 sh P o) {a1 : Int32} {a2 : Int32} {r : Int32} {I9 : aI} (hf : f_X6_set o a1 a2 I = some (r, I9)) : AM yX6_set cX6_set 3 (some .int) 3 65 [.ref o, .int a1, .int a2] sh P I J (some (.int r)) sh P I9 J 0 0 := by
  refine am_met (by decide +kernel) (Nat.le_of_ble_eq_true rfl) (fun K X hR => ?_)
  have X : am_C K cX6_set 3 RX6 "set" ({ frames := 3, cells := 0, slots := 0, locals := 65 } : Room) := X
  show AW K 3 0 [(0, .ref o), (1, .int a1), (2, .int a2)] [] sh P I J 0 0
  unfold f_X6_set at hf
  refine ar_iload_n X dX6_set_0 rfl 1 rfl ?_
  refine ar_iload_n X dX6_set_1 rfl 2 rfl ?_
  obtain ⟨r1, h1, hf⟩ := am_b1_e hf
  refine ar_cSi (As := [.int a1, .int a2]) (st := []) X dX6_set_2 (am_X6_isSettingValue h1) lk_X6_55 mt_X6_isSettingValue ms_X6_isSettingValue rfl (Nat.le_of_ble_eq_true rfl) ⟨by decide, by decide⟩ ⟨Nat.zero_le _, Nat.zero_le _⟩ rfl ?_
  refine ar_if_ne (tgt := 11) X dX6_set_5 (by decide) hf (fun h2 hf => ?_) (fun h2 hf => ?_)
  · refine ar_bipush (v := -2) X dX6_set_8 (by decide) ?_
    cases hf
    exact ar_iret X dX6_set_10 hR (Nat.le_refl _) (Nat.le_refl _)
  · refine ar_aload_n X dX6_set_11 rfl 0 rfl ?_
    refine ar_getr X dX6_set_12 fg_X6_10 rfl (L6_s0 hL) (L6_p0_0 hL) ?_
    refine ar_getr X dX6_set_15 fg_X6_59 rfl (L6_s1 hL) (L6_p1_3 hL) ?_
    obtain ⟨r3, h3, hf⟩ := am_b1_e hf
    refine ar_cVi (As := []) (st := []) X dX6_set_18 (am_X0_goesOn (L6_c14 hL) h3) lk_X6_63 mt_X0_goesOn mi_X0_goesOn (L6_s14 hL) rfl rfl (Nat.le_of_ble_eq_true rfl) ⟨by decide, by decide⟩ ⟨Nat.zero_le _, Nat.zero_le _⟩ rfl ?_
    refine ar_if_eq (tgt := 27) X dX6_set_21 (by decide) hf (fun h4 hf => ?_) (fun h4 hf => ?_)
    · refine ar_aload_n X dX6_set_27 rfl 0 rfl ?_
      refine ar_getr X dX6_set_28 fg_X6_10 rfl (L6_s0 hL) (L6_p0_0 hL) ?_
      refine ar_iload_n X dX6_set_31 rfl 1 rfl ?_
      refine ar_iload_n X dX6_set_32 rfl 2 rfl ?_
      obtain ⟨r5, I5, h5, hf⟩ := am_b2_e hf
      refine ar_cVi (As := [.int a1, .int a2]) (st := []) X dX6_set_33 (am_X1_changeSetting (L6_c1 hL) h5) lk_X6_69 mt_X1_changeSetting mi_X1_changeSetting (L6_s1 hL) rfl rfl (Nat.le_of_ble_eq_true rfl) ⟨by decide, by decide⟩ ⟨Nat.zero_le _, Nat.zero_le _⟩ rfl ?_
      cases hf
      exact ar_iret X dX6_set_36 hR (Nat.le_refl _) (Nat.le_refl _)
    · refine ar_bipush (v := -5) X dX6_set_24 (by decide) ?_
      cases hf
      exact ar_iret X dX6_set_26 hR (Nat.le_refl _) (Nat.le_refl _)
def f_X6_setUp (o : Nat) (a1 : Int32) (I : aI) : Option (Int32 × aI) :=
  am_b1 (f_X6_within a1 (2 : Int32) (6 : Int32)) fun r1 =>
  if r1 = 0 then (
    some ((-2 : Int32), I))
  else (
    am_let (I (o + 3) 0) fun x3 =>
    am_b1 (f_X1_startAnew (o + 1) a1 I) fun I4 =>
    some (x3, I4))
set_option maxRecDepth 100000 in
set_option maxHeartbeats 4000000 in
theorem am_X6_setUp {sh : aS} {P : aP} {I : aI} {J : aJ} {o : Nat} (hL : L6 sh P o) {a1 : Int32} {r : Int32} {I9 : aI} (hf : f_X6_setUp o a1 I = some (r, I9)) : AM yX6_setUp cX6_setUp 3 (some .int) 3 70 [.ref o, .int a1] sh P I J (some (.int r)) sh P I9 J 0 0 := by
  refine am_met (by decide +kernel) (Nat.le_of_ble_eq_true rfl) (fun K X hR => ?_)
  have X : am_C K cX6_setUp 3 RX6 "setUp" ({ frames := 3, cells := 0, slots := 0, locals := 70 } : Room) := X
  show AW K 3 0 [(0, .ref o), (1, .int a1)] [] sh P I J 0 0
  unfold f_X6_setUp at hf
  refine ar_iload_n X dX6_setUp_0 rfl 1 rfl ?_
  refine ar_iconst (v := 2) X dX6_setUp_1 (by decide) ?_
  refine ar_bipush (v := 6) X dX6_setUp_2 (by decide) ?_
  obtain ⟨r1, h1, hf⟩ := am_b1_e hf
  refine ar_cSi (As := [.int a1, .int (2 : Int32), .int (6 : Int32)]) (st := []) X dX6_setUp_4 (am_X6_within h1) lk_X6_41 mt_X6_within ms_X6_within rfl (Nat.le_of_ble_eq_true rfl) ⟨by decide, by decide⟩ ⟨Nat.zero_le _, Nat.zero_le _⟩ rfl ?_
  refine ar_if_ne (tgt := 13) X dX6_setUp_7 (by decide) hf (fun h2 hf => ?_) (fun h2 hf => ?_)
  · refine ar_bipush (v := -2) X dX6_setUp_10 (by decide) ?_
    cases hf
    exact ar_iret X dX6_setUp_12 hR (Nat.le_refl _) (Nat.le_refl _)
  · refine ar_aload_n X dX6_setUp_13 rfl 0 rfl ?_
    refine ar_getr X dX6_setUp_14 fg_X6_10 rfl (L6_s0 hL) (L6_p0_0 hL) ?_
    refine ar_getr X dX6_setUp_17 fg_X6_45 rfl (L6_s1 hL) (L6_p1_1 hL) ?_
    refine ar_geti X dX6_setUp_20 fg_X6_49 rfl (L6_s3 hL) ?_
    refine ar_letI hf (fun x3 hf => ?_)
    refine ar_istore_n X dX6_setUp_23 rfl (by decide) rfl ?_
    refine ar_aload_n X dX6_setUp_24 rfl 1 rfl ?_
    refine ar_getr X dX6_setUp_25 fg_X6_10 rfl (L6_s0 hL) (L6_p0_0 hL) ?_
    refine ar_iload_n X dX6_setUp_28 rfl 2 rfl ?_
    obtain ⟨I4, h4, hf⟩ := am_b1_e hf
    refine ar_cVv (As := [.int a1]) (st := []) X dX6_setUp_29 (am_X1_startAnew (L6_c1 hL) h4) lk_X6_37 mt_X1_startAnew mi_X1_startAnew (L6_s1 hL) rfl rfl (Nat.le_of_ble_eq_true rfl) ⟨by decide, by decide⟩ ⟨Nat.zero_le _, Nat.zero_le _⟩ rfl ?_
    refine ar_iload_n X dX6_setUp_32 rfl 0 rfl ?_
    cases hf
    exact ar_iret X dX6_setUp_33 hR (Nat.le_refl _) (Nat.le_refl _)
def f_X6_ways (o : Nat)  (I : aI) (J : aJ) : Option (Int64 × aJ) :=
  am_b2 (f_X5_waysWith (o + 32) (o + 3) (0 : Int32) (0 : Int32) I J) fun r1 J1 =>
  some (r1, J1)
set_option maxRecDepth 100000 in
set_option maxHeartbeats 4000000 in
theorem am_X6_ways {sh : aS} {P : aP} {I : aI} {J : aJ} {o : Nat} (hL : L6 sh P o)  {r : Int64} {J9 : aJ} (hf : f_X6_ways o I J = some (r, J9)) : AM yX6_ways cX6_ways 1 (some .long) 5 118 [.ref o] sh P I J (some (.long r)) sh P I J9 0 0 := by
  refine am_met (by decide +kernel) (Nat.le_of_ble_eq_true rfl) (fun K X hR => ?_)
  have X : am_C K cX6_ways 1 RX6 "ways" ({ frames := 5, cells := 0, slots := 0, locals := 118 } : Room) := X
  show AW K 1 0 [(0, .ref o)] [] sh P I J 0 0
  unfold f_X6_ways at hf
  refine ar_aload_n X dX6_ways_0 rfl 0 rfl ?_
  refine ar_getr X dX6_ways_1 fg_X6_26 rfl (L6_s0 hL) (L6_p0_3 hL) ?_
  refine ar_aload_n X dX6_ways_4 rfl 0 rfl ?_
  refine ar_getr X dX6_ways_5 fg_X6_10 rfl (L6_s0 hL) (L6_p0_0 hL) ?_
  refine ar_getr X dX6_ways_8 fg_X6_45 rfl (L6_s1 hL) (L6_p1_1 hL) ?_
  refine ar_iconst (v := 0) X dX6_ways_11 (by decide) ?_
  refine ar_iconst (v := 0) X dX6_ways_12 (by decide) ?_
  obtain ⟨r1, J1, h1, hf⟩ := am_b2_e hf
  refine ar_cVl (As := [.ref (o + 3), .int (0 : Int32), .int (0 : Int32)]) (st := []) X dX6_ways_13 (am_X5_waysWith (L6_c32 hL) (L6_c3 hL) h1) lk_X6_221 mt_X5_waysWith mi_X5_waysWith (L6_s32 hL) rfl rfl (Nat.le_of_ble_eq_true rfl) ⟨by decide, by decide⟩ ⟨Nat.zero_le _, Nat.zero_le _⟩ rfl ?_
  cases hf
  exact ar_lret X dX6_ways_16 hR (Nat.le_refl _) (Nat.le_refl _)
def f_X6_wipe (o : Nat)  (I : aI) : Option (Int32 × aI) :=
  am_let (I (o + 35) 1) fun x1 =>
  am_b1 (f_X3_empty (o + 35) I) fun I2 =>
  some (x1, I2)
set_option maxRecDepth 100000 in
set_option maxHeartbeats 4000000 in
theorem am_X6_wipe {sh : aS} {P : aP} {I : aI} {J : aJ} {o : Nat} (hL : L6 sh P o)  {r : Int32} {I9 : aI} (hf : f_X6_wipe o I = some (r, I9)) : AM yX6_wipe cX6_wipe 2 (some .int) 1 20 [.ref o] sh P I J (some (.int r)) sh P I9 J 0 0 := by
  refine am_met (by decide +kernel) (Nat.le_of_ble_eq_true rfl) (fun K X hR => ?_)
  have X : am_C K cX6_wipe 2 RX6 "wipe" ({ frames := 1, cells := 0, slots := 0, locals := 20 } : Room) := X
  show AW K 2 0 [(0, .ref o)] [] sh P I J 0 0
  unfold f_X6_wipe at hf
  refine ar_aload_n X dX6_wipe_0 rfl 0 rfl ?_
  refine ar_getr X dX6_wipe_1 fg_X6_33 rfl (L6_s0 hL) (L6_p0_4 hL) ?_
  refine ar_geti X dX6_wipe_4 fg_X6_202 rfl (L6_s35 hL) ?_
  refine ar_letI hf (fun x1 hf => ?_)
  refine ar_istore_n X dX6_wipe_7 rfl (by decide) rfl ?_
  refine ar_aload_n X dX6_wipe_8 rfl 1 rfl ?_
  refine ar_getr X dX6_wipe_9 fg_X6_33 rfl (L6_s0 hL) (L6_p0_4 hL) ?_
  obtain ⟨I2, h2, hf⟩ := am_b1_e hf
  refine ar_cVv (As := []) (st := []) X dX6_wipe_12 (am_X3_empty (L6_c35 hL) h2) lk_X6_260 mt_X3_empty mi_X3_empty (L6_s35 hL) rfl rfl (Nat.le_of_ble_eq_true rfl) ⟨by decide, by decide⟩ ⟨Nat.zero_le _, Nat.zero_le _⟩ rfl ?_
  refine ar_iload_n X dX6_wipe_15 rfl 0 rfl ?_
  cases hf
  exact ar_iret X dX6_wipe_16 hR (Nat.le_refl _) (Nat.le_refl _)
end
