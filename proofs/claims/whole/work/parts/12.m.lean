noncomputable section
def f_X1_leastRaise (o : Nat)  (I : aI) : Option Int32 :=
  if (I (o + 13) 3) = (-6 : Int32) then (
    some (I (o + 13) 1))
  else (
    am_b1 (f_X1_settingOf o (1 : Int32) I) fun r2 =>
    some ((I (o + 13) 2) + r2))
set_option maxRecDepth 100000 in
set_option maxHeartbeats 4000000 in
theorem am_X1_leastRaise {sh : aS} {P : aP} {I : aI} {J : aJ} {o : Nat} (hL : L1 sh P o)  {r : Int32} (hf : f_X1_leastRaise o I = some r) : AM yX1_leastRaise cX1_leastRaise 1 (some .int) 1 21 [.ref o] sh P I J (some (.int r)) sh P I J 0 0 := by
  refine am_met (by decide +kernel) (Nat.le_of_ble_eq_true rfl) (fun K X hR => ?_)
  have X : am_C K cX1_leastRaise 1 RX1 "leastRaise" ({ frames := 1, cells := 0, slots := 0, locals := 21 } : Room) := X
  show AW K 1 0 [(0, .ref o)] [] sh P I J 0 0
  unfold f_X1_leastRaise at hf
  refine ar_aload_n X dX1_leastRaise_0 rfl 0 rfl ?_
  refine ar_getr X dX1_leastRaise_1 fg_X1_40 rfl (L1_s0 hL) (L1_p0_3 hL) ?_
  refine ar_geti X dX1_leastRaise_4 fg_X1_177 rfl (L1_s13 hL) ?_
  refine ar_bipush (v := -6) X dX1_leastRaise_7 (by decide) ?_
  refine ar_icmp_ne (tgt := 22) X dX1_leastRaise_9 (by decide) hf (fun h1 hf => ?_) (fun h1 hf => ?_)
  · refine ar_aload_n X dX1_leastRaise_12 rfl 0 rfl ?_
    refine ar_getr X dX1_leastRaise_13 fg_X1_40 rfl (L1_s0 hL) (L1_p0_3 hL) ?_
    refine ar_geti X dX1_leastRaise_16 fg_X1_142 rfl (L1_s13 hL) ?_
    refine ar_goto (tgt := 35) X dX1_leastRaise_19 (by decide) ?_
    cases hf
    exact ar_iret X dX1_leastRaise_35 hR (Nat.le_refl _) (Nat.le_refl _)
  · refine ar_aload_n X dX1_leastRaise_22 rfl 0 rfl ?_
    refine ar_getr X dX1_leastRaise_23 fg_X1_40 rfl (L1_s0 hL) (L1_p0_3 hL) ?_
    refine ar_geti X dX1_leastRaise_26 fg_X1_151 rfl (L1_s13 hL) ?_
    refine ar_aload_n X dX1_leastRaise_29 rfl 0 rfl ?_
    refine ar_iconst (v := 1) X dX1_leastRaise_30 (by decide) ?_
    obtain ⟨r2, h2, hf⟩ := am_b1_e hf
    refine ar_cVi (As := [.int (1 : Int32)]) (st := [.int (I (o + 13) 2)]) X dX1_leastRaise_31 (am_X1_settingOf hL h2) lk_X1_44 mt_X1_settingOf mi_X1_settingOf (L1_s0 hL) rfl rfl (Nat.le_of_ble_eq_true rfl) ⟨by decide, by decide⟩ ⟨Nat.zero_le _, Nat.zero_le _⟩ rfl ?_
    refine ar_iadd X dX1_leastRaise_34 ?_
    cases hf
    exact ar_iret X dX1_leastRaise_35 hR (Nat.le_refl _) (Nat.le_refl _)
def f_X1_letFall_b63 (o : Nat)  (I : aI) : Option (Int32 × aI) :=
  am_b1 (f_X1_settingOf o (1 : Int32) I) fun r1 =>
  am_let (am_w I (o + 13) 2 ((I (o + 13) 2) - r1)) fun I2 =>
  if (1 : Int32) ≤ (I2 (o + 13) 2) then (
    some ((-6 : Int32), I2))
  else (
    am_let (am_w I2 (o + 13) 7 (0 : Int32)) fun I4 =>
    some ((-6 : Int32), I4))
set_option maxRecDepth 100000 in
set_option maxHeartbeats 4000000 in
theorem ab_X1_letFall_b63 {K : aK} {sh : aS} {P : aP} {J : aJ} {o : Nat} (X : am_C K cX1_letFall 4 RX1 "letFall" ({ frames := 2, cells := 0, slots := 0, locals := 43 } : Room)) (hL : L1 sh P o) {r : Int32} {I9 : aI} (hR : am_R K (some .int) (some (.int r)) sh P I9 J 0 0)  (I : aI) (hf : f_X1_letFall_b63 o I = some (r, I9)) : AW K 4 63 [(0, .ref o)] [] sh P I J 0 0 := by
  unfold f_X1_letFall_b63 at hf
  refine ar_aload_n X dX1_letFall_63 rfl 0 rfl ?_
  refine ar_getr X dX1_letFall_64 fg_X1_40 rfl (L1_s0 hL) (L1_p0_3 hL) ?_
  refine ar_dup X dX1_letFall_67 rfl ?_
  refine ar_geti X dX1_letFall_68 fg_X1_151 rfl (L1_s13 hL) ?_
  refine ar_aload_n X dX1_letFall_71 rfl 0 rfl ?_
  refine ar_iconst (v := 1) X dX1_letFall_72 (by decide) ?_
  obtain ⟨r1, h1, hf⟩ := am_b1_e hf
  refine ar_cVi (As := [.int (1 : Int32)]) (st := [.int (I (o + 13) 2), .ref (o + 13)]) X dX1_letFall_73 (am_X1_settingOf hL h1) lk_X1_44 mt_X1_settingOf mi_X1_settingOf (L1_s0 hL) rfl rfl (Nat.le_of_ble_eq_true rfl) ⟨by decide, by decide⟩ ⟨Nat.zero_le _, Nat.zero_le _⟩ rfl ?_
  refine ar_isub X dX1_letFall_76 ?_
  refine ar_puti X dX1_letFall_77 fd_X1_151 rfl ⟨rfl, rfl⟩ (L1_s13 hL) hf (fun I2 hf => ?_)
  refine ar_aload_n X dX1_letFall_80 rfl 0 rfl ?_
  refine ar_getr X dX1_letFall_81 fg_X1_40 rfl (L1_s0 hL) (L1_p0_3 hL) ?_
  refine ar_geti X dX1_letFall_84 fg_X1_151 rfl (L1_s13 hL) ?_
  refine ar_iconst (v := 1) X dX1_letFall_87 (by decide) ?_
  refine ar_icmp_ge (tgt := 99) X dX1_letFall_88 (by decide) hf (fun h3 hf => ?_) (fun h3 hf => ?_)
  · refine ar_bipush (v := -6) X dX1_letFall_99 (by decide) ?_
    cases hf
    exact ar_iret X dX1_letFall_101 hR (Nat.le_refl _) (Nat.le_refl _)
  · refine ar_aload_n X dX1_letFall_91 rfl 0 rfl ?_
    refine ar_getr X dX1_letFall_92 fg_X1_40 rfl (L1_s0 hL) (L1_p0_3 hL) ?_
    refine ar_iconst (v := 0) X dX1_letFall_95 (by decide) ?_
    refine ar_puti X dX1_letFall_96 fd_X1_148 rfl ⟨rfl, rfl⟩ (L1_s13 hL) hf (fun I4 hf => ?_)
    refine ar_bipush (v := -6) X dX1_letFall_99 (by decide) ?_
    cases hf
    exact ar_iret X dX1_letFall_101 hR (Nat.le_refl _) (Nat.le_refl _)
def f_X1_letFall_b44 (o : Nat) (l3 : Int32) (I : aI) : Option (Int32 × aI) :=
  am_let (am_w I (o + 13) 7 (am_shl (1 : Int32) l3)) fun I1 =>
  some ((-6 : Int32), I1)
set_option maxRecDepth 100000 in
set_option maxHeartbeats 4000000 in
theorem ab_X1_letFall_b44 {K : aK} {sh : aS} {P : aP} {J : aJ} {o : Nat} (X : am_C K cX1_letFall 4 RX1 "letFall" ({ frames := 2, cells := 0, slots := 0, locals := 43 } : Room)) (hL : L1 sh P o) {r : Int32} {I9 : aI} (hR : am_R K (some .int) (some (.int r)) sh P I9 J 0 0) (l3 : Int32) (I : aI) (hf : f_X1_letFall_b44 o l3 I = some (r, I9)) : AW K 4 44 [(0, .ref o), (3, .int l3)] [] sh P I J 0 0 := by
  unfold f_X1_letFall_b44 at hf
  refine ar_aload_n X dX1_letFall_44 rfl 0 rfl ?_
  refine ar_getr X dX1_letFall_45 fg_X1_40 rfl (L1_s0 hL) (L1_p0_3 hL) ?_
  refine ar_iconst (v := 1) X dX1_letFall_48 (by decide) ?_
  refine ar_iload_n X dX1_letFall_49 rfl 1 rfl ?_
  refine ar_ishl X dX1_letFall_50 ?_
  refine ar_puti X dX1_letFall_51 fd_X1_148 rfl ⟨rfl, rfl⟩ (L1_s13 hL) hf (fun I1 hf => ?_)
  refine ar_bipush (v := -6) X dX1_letFall_54 (by decide) ?_
  cases hf
  exact ar_iret X dX1_letFall_56 hR (Nat.le_refl _) (Nat.le_refl _)
def f_X1_letFall_h7 (o : Nat) : Nat → Int32 → Int32 → aI → Option (Int32 × aI)
  | 0, _, _, _ => none
  | n + 1, l1, l2, I =>
    if (I (o + 2) 0) ≤ l2 then (
      f_X1_letFall_b63 o I)
    else (
      am_b1 (f_X4_seatBehind (o + 2) l1 l2 I) fun r2 =>
      am_b1 (f_X0_bidOf (o + 13) r2 I) fun r3 =>
      if r3 = (-6 : Int32) then (
        f_X1_letFall_h7 o n l1 (l2 + 1) I)
      else (
        f_X1_letFall_b44 o r2 I))
set_option maxRecDepth 100000 in
set_option maxHeartbeats 4000000 in
theorem ab_X1_letFall_h7 {K : aK} {sh : aS} {P : aP} {J : aJ} {o : Nat} (X : am_C K cX1_letFall 4 RX1 "letFall" ({ frames := 2, cells := 0, slots := 0, locals := 43 } : Room)) (hL : L1 sh P o) {r : Int32} {I9 : aI} (hR : am_R K (some .int) (some (.int r)) sh P I9 J 0 0) : ∀ (n : Nat) (l1 : Int32) (l2 : Int32) (I : aI) , f_X1_letFall_h7 o n l1 l2 I = some (r, I9) → AW K 4 7 [(0, .ref o), (1, .int l1), (2, .int l2)] [] sh P I J 0 0 := by
  intro n
  induction n with
  | zero =>
    intro l1 l2 I hf
    cases hf
  | succ n ih =>
    intro l1 l2 I hf
    rw [f_X1_letFall_h7] at hf
    refine ar_iload_n X dX1_letFall_7 rfl 2 rfl ?_
    refine ar_aload_n X dX1_letFall_8 rfl 0 rfl ?_
    refine ar_getr X dX1_letFall_9 fg_X1_26 rfl (L1_s0 hL) (L1_p0_1 hL) ?_
    refine ar_geti X dX1_letFall_12 fg_X1_82 rfl (L1_s2 hL) ?_
    refine ar_icmp_ge (tgt := 63) X dX1_letFall_15 (by decide) hf (fun h1 hf => ?_) (fun h1 hf => ?_)
    · refine ar_lo [0] rfl ?_
      exact ab_X1_letFall_b63 X hL hR I hf
    · refine ar_aload_n X dX1_letFall_18 rfl 0 rfl ?_
      refine ar_getr X dX1_letFall_19 fg_X1_26 rfl (L1_s0 hL) (L1_p0_1 hL) ?_
      refine ar_iload_n X dX1_letFall_22 rfl 1 rfl ?_
      refine ar_iload_n X dX1_letFall_23 rfl 2 rfl ?_
      obtain ⟨r2, h2, hf⟩ := am_b1_e hf
      refine ar_cVi (As := [.int l1, .int l2]) (st := []) X dX1_letFall_24 (am_X4_seatBehind (L1_c2 hL) h2) lk_X1_165 mt_X4_seatBehind mi_X4_seatBehind (L1_s2 hL) rfl rfl (Nat.le_of_ble_eq_true rfl) ⟨by decide, by decide⟩ ⟨Nat.zero_le _, Nat.zero_le _⟩ rfl ?_
      refine ar_istore_n X dX1_letFall_27 rfl (by decide) rfl ?_
      refine ar_aload_n X dX1_letFall_28 rfl 1 rfl ?_
      refine ar_getr X dX1_letFall_29 fg_X1_40 rfl (L1_s0 hL) (L1_p0_3 hL) ?_
      refine ar_iload_n X dX1_letFall_32 rfl 0 rfl ?_
      obtain ⟨r3, h3, hf⟩ := am_b1_e hf
      refine ar_cVi (As := [.int r2]) (st := []) X dX1_letFall_33 (am_X0_bidOf (L1_c13 hL) h3) lk_X1_209 mt_X0_bidOf mi_X0_bidOf (L1_s13 hL) rfl rfl (Nat.le_of_ble_eq_true rfl) ⟨by decide, by decide⟩ ⟨Nat.zero_le _, Nat.zero_le _⟩ rfl ?_
      refine ar_bipush (v := -6) X dX1_letFall_36 (by decide) ?_
      refine ar_icmp_ne (tgt := 44) X dX1_letFall_38 (by decide) hf (fun h4 hf => ?_) (fun h4 hf => ?_)
      · refine ar_goto (tgt := 57) X dX1_letFall_41 (by decide) ?_
        refine ar_iinc (j := 3) (v := (l2 + 1)) X dX1_letFall_57 rfl rfl (by decide) rfl ?_
        refine ar_goto (tgt := 7) X dX1_letFall_60 (by decide) ?_
        refine ar_lo [2, 3, 0] rfl ?_
        exact ih l1 (l2 + 1) I hf
      · refine ar_lo [1, 0] rfl ?_
        exact ab_X1_letFall_b44 X hL hR r2 I hf
def f_X1_letFall (o : Nat)  (I : aI) : Option (Int32 × aI) :=
  am_b1 (f_X1_starter o I) fun r1 =>
  f_X1_letFall_h7 o am_F r1 (0 : Int32) I
set_option maxRecDepth 100000 in
set_option maxHeartbeats 4000000 in
theorem am_X1_letFall {sh : aS} {P : aP} {I : aI} {J : aJ} {o : Nat} (hL : L1 sh P o)  {r : Int32} {I9 : aI} (hf : f_X1_letFall o I = some (r, I9)) : AM yX1_letFall cX1_letFall 4 (some .int) 2 43 [.ref o] sh P I J (some (.int r)) sh P I9 J 0 0 := by
  refine am_met (by decide +kernel) (Nat.le_of_ble_eq_true rfl) (fun K X hR => ?_)
  have X : am_C K cX1_letFall 4 RX1 "letFall" ({ frames := 2, cells := 0, slots := 0, locals := 43 } : Room) := X
  show AW K 4 0 [(0, .ref o)] [] sh P I J 0 0
  unfold f_X1_letFall at hf
  refine ar_aload_n X dX1_letFall_0 rfl 0 rfl ?_
  obtain ⟨r1, h1, hf⟩ := am_b1_e hf
  refine ar_cVi (As := []) (st := []) X dX1_letFall_1 (am_X1_starter hL h1) lk_X1_94 mt_X1_starter mi_X1_starter (L1_s0 hL) rfl rfl (Nat.le_of_ble_eq_true rfl) ⟨by decide, by decide⟩ ⟨Nat.zero_le _, Nat.zero_le _⟩ rfl ?_
  refine ar_istore_n X dX1_letFall_4 rfl (by decide) rfl ?_
  refine ar_iconst (v := 0) X dX1_letFall_5 (by decide) ?_
  refine ar_istore_n X dX1_letFall_6 rfl (by decide) rfl ?_
  refine ar_lo [2, 1, 0] rfl ?_
  exact ab_X1_letFall_h7 X hL hR am_F r1 (0 : Int32) I hf
def f_X1_settle (o : Nat)  (I : aI) : Option (Int32 × aI) :=
  am_let (I (o + 13) 7) fun x1 =>
  if x1 = (-6 : Int32) then (
    some ((-6 : Int32), I))
  else (
    am_b1 (f_X1_collect o x1 (I (o + 13) 2) I) fun I3 =>
    am_b1 (f_X2_close (o + 8) x1 (I3 (o + 13) 2) I3) fun I4 =>
    am_b1 (f_X0_clear (o + 13) I4) fun I5 =>
    some (x1, I5))
set_option maxRecDepth 100000 in
set_option maxHeartbeats 4000000 in
theorem am_X1_settle {sh : aS} {P : aP} {I : aI} {J : aJ} {o : Nat} (hL : L1 sh P o)  {r : Int32} {I9 : aI} (hf : f_X1_settle o I = some (r, I9)) : AM yX1_settle cX1_settle 2 (some .int) 3 76 [.ref o] sh P I J (some (.int r)) sh P I9 J 0 0 := by
  refine am_met (by decide +kernel) (Nat.le_of_ble_eq_true rfl) (fun K X hR => ?_)
  have X : am_C K cX1_settle 2 RX1 "settle" ({ frames := 3, cells := 0, slots := 0, locals := 76 } : Room) := X
  show AW K 2 0 [(0, .ref o)] [] sh P I J 0 0
  unfold f_X1_settle at hf
  refine ar_aload_n X dX1_settle_0 rfl 0 rfl ?_
  refine ar_getr X dX1_settle_1 fg_X1_40 rfl (L1_s0 hL) (L1_p0_3 hL) ?_
  refine ar_geti X dX1_settle_4 fg_X1_148 rfl (L1_s13 hL) ?_
  refine ar_letI hf (fun x1 hf => ?_)
  refine ar_istore_n X dX1_settle_7 rfl (by decide) rfl ?_
  refine ar_iload_n X dX1_settle_8 rfl 0 rfl ?_
  refine ar_bipush (v := -6) X dX1_settle_9 (by decide) ?_
  refine ar_icmp_ne (tgt := 17) X dX1_settle_11 (by decide) hf (fun h2 hf => ?_) (fun h2 hf => ?_)
  · refine ar_bipush (v := -6) X dX1_settle_14 (by decide) ?_
    cases hf
    exact ar_iret X dX1_settle_16 hR (Nat.le_refl _) (Nat.le_refl _)
  · refine ar_aload_n X dX1_settle_17 rfl 1 rfl ?_
    refine ar_iload_n X dX1_settle_18 rfl 0 rfl ?_
    refine ar_aload_n X dX1_settle_19 rfl 1 rfl ?_
    refine ar_getr X dX1_settle_20 fg_X1_40 rfl (L1_s0 hL) (L1_p0_3 hL) ?_
    refine ar_geti X dX1_settle_23 fg_X1_151 rfl (L1_s13 hL) ?_
    obtain ⟨I3, h3, hf⟩ := am_b1_e hf
    refine ar_cVv (As := [.int x1, .int (I (o + 13) 2)]) (st := []) X dX1_settle_26 (am_X1_collect hL h3) lk_X1_154 mt_X1_collect mi_X1_collect (L1_s0 hL) rfl rfl (Nat.le_of_ble_eq_true rfl) ⟨by decide, by decide⟩ ⟨Nat.zero_le _, Nat.zero_le _⟩ rfl ?_
    refine ar_aload_n X dX1_settle_29 rfl 1 rfl ?_
    refine ar_getr X dX1_settle_30 fg_X1_33 rfl (L1_s0 hL) (L1_p0_2 hL) ?_
    refine ar_iload_n X dX1_settle_33 rfl 0 rfl ?_
    refine ar_aload_n X dX1_settle_34 rfl 1 rfl ?_
    refine ar_getr X dX1_settle_35 fg_X1_40 rfl (L1_s0 hL) (L1_p0_3 hL) ?_
    refine ar_geti X dX1_settle_38 fg_X1_151 rfl (L1_s13 hL) ?_
    obtain ⟨I4, h4, hf⟩ := am_b1_e hf
    refine ar_cVv (As := [.int x1, .int (I3 (o + 13) 2)]) (st := []) X dX1_settle_41 (am_X2_close (L1_c8 hL) h4) lk_X1_157 mt_X2_close mi_X2_close (L1_s8 hL) rfl rfl (Nat.le_of_ble_eq_true rfl) ⟨by decide, by decide⟩ ⟨Nat.zero_le _, Nat.zero_le _⟩ rfl ?_
    refine ar_aload_n X dX1_settle_44 rfl 1 rfl ?_
    refine ar_getr X dX1_settle_45 fg_X1_40 rfl (L1_s0 hL) (L1_p0_3 hL) ?_
    obtain ⟨I5, h5, hf⟩ := am_b1_e hf
    refine ar_cVv (As := []) (st := []) X dX1_settle_48 (am_X0_clear (L1_c13 hL) h5) lk_X1_55 mt_X0_clear mi_X0_clear (L1_s13 hL) rfl rfl (Nat.le_of_ble_eq_true rfl) ⟨by decide, by decide⟩ ⟨Nat.zero_le _, Nat.zero_le _⟩ rfl ?_
    refine ar_iload_n X dX1_settle_51 rfl 0 rfl ?_
    cases hf
    exact ar_iret X dX1_settle_52 hR (Nat.le_refl _) (Nat.le_refl _)
def f_X1_nextToAct_h2 (o : Nat) : Nat → Int32 → Int32 → aI → Option Int32
  | 0, _, _, _ => none
  | n + 1, l1, l2, I =>
    if (I (o + 2) 0) ≤ l2 then (
      some (-6 : Int32))
    else (
      am_b1 (f_X4_seatBehind (o + 2) l1 l2 I) fun r2 =>
      if r2 = (I (o + 13) 3) then (
        f_X1_nextToAct_h2 o n l1 (l2 + 1) I)
      else (
        am_b1 (f_X0_isOut (o + 13) r2 I) fun r4 =>
        if r4 = 0 then (
          some r2)
        else (
          f_X1_nextToAct_h2 o n l1 (l2 + 1) I)))
set_option maxRecDepth 100000 in
set_option maxHeartbeats 4000000 in
theorem ab_X1_nextToAct_h2 {K : aK} {sh : aS} {P : aP} {I : aI} {J : aJ} {o : Nat} (X : am_C K cX1_nextToAct 4 RX1 "nextToAct" ({ frames := 1, cells := 0, slots := 0, locals := 23 } : Room)) (hL : L1 sh P o) {r : Int32} (hR : am_R K (some .int) (some (.int r)) sh P I J 0 0) : ∀ (n : Nat) (l1 : Int32) (l2 : Int32) , f_X1_nextToAct_h2 o n l1 l2 I = some r → AW K 4 2 [(0, .ref o), (1, .int l1), (2, .int l2)] [] sh P I J 0 0 := by
  intro n
  induction n with
  | zero =>
    intro l1 l2 hf
    cases hf
  | succ n ih =>
    intro l1 l2 hf
    rw [f_X1_nextToAct_h2] at hf
    refine ar_iload_n X dX1_nextToAct_2 rfl 2 rfl ?_
    refine ar_aload_n X dX1_nextToAct_3 rfl 0 rfl ?_
    refine ar_getr X dX1_nextToAct_4 fg_X1_26 rfl (L1_s0 hL) (L1_p0_1 hL) ?_
    refine ar_geti X dX1_nextToAct_7 fg_X1_82 rfl (L1_s2 hL) ?_
    refine ar_icmp_ge (tgt := 53) X dX1_nextToAct_10 (by decide) hf (fun h1 hf => ?_) (fun h1 hf => ?_)
    · refine ar_bipush (v := -6) X dX1_nextToAct_53 (by decide) ?_
      cases hf
      exact ar_iret X dX1_nextToAct_55 hR (Nat.le_refl _) (Nat.le_refl _)
    · refine ar_aload_n X dX1_nextToAct_13 rfl 0 rfl ?_
      refine ar_getr X dX1_nextToAct_14 fg_X1_26 rfl (L1_s0 hL) (L1_p0_1 hL) ?_
      refine ar_iload_n X dX1_nextToAct_17 rfl 1 rfl ?_
      refine ar_iload_n X dX1_nextToAct_18 rfl 2 rfl ?_
      obtain ⟨r2, h2, hf⟩ := am_b1_e hf
      refine ar_cVi (As := [.int l1, .int l2]) (st := []) X dX1_nextToAct_19 (am_X4_seatBehind (L1_c2 hL) h2) lk_X1_165 mt_X4_seatBehind mi_X4_seatBehind (L1_s2 hL) rfl rfl (Nat.le_of_ble_eq_true rfl) ⟨by decide, by decide⟩ ⟨Nat.zero_le _, Nat.zero_le _⟩ rfl ?_
      refine ar_istore_n X dX1_nextToAct_22 rfl (by decide) rfl ?_
      refine ar_iload_n X dX1_nextToAct_23 rfl 0 rfl ?_
      refine ar_aload_n X dX1_nextToAct_24 rfl 1 rfl ?_
      refine ar_getr X dX1_nextToAct_25 fg_X1_40 rfl (L1_s0 hL) (L1_p0_3 hL) ?_
      refine ar_geti X dX1_nextToAct_28 fg_X1_177 rfl (L1_s13 hL) ?_
      refine ar_icmp_eq (tgt := 47) X dX1_nextToAct_31 (by decide) hf (fun h3 hf => ?_) (fun h3 hf => ?_)
      · refine ar_iinc (j := 3) (v := (l2 + 1)) X dX1_nextToAct_47 rfl rfl (by decide) rfl ?_
        refine ar_goto (tgt := 2) X dX1_nextToAct_50 (by decide) ?_
        refine ar_lo [2, 3, 0] rfl ?_
        exact ih l1 (l2 + 1) hf
      · refine ar_aload_n X dX1_nextToAct_34 rfl 1 rfl ?_
        refine ar_getr X dX1_nextToAct_35 fg_X1_40 rfl (L1_s0 hL) (L1_p0_3 hL) ?_
        refine ar_iload_n X dX1_nextToAct_38 rfl 0 rfl ?_
        obtain ⟨r4, h4, hf⟩ := am_b1_e hf
        refine ar_cVi (As := [.int r2]) (st := []) X dX1_nextToAct_39 (am_X0_isOut (L1_c13 hL) h4) lk_X1_206 mt_X0_isOut mi_X0_isOut (L1_s13 hL) rfl rfl (Nat.le_of_ble_eq_true rfl) ⟨by decide, by decide⟩ ⟨Nat.zero_le _, Nat.zero_le _⟩ rfl ?_
        refine ar_if_ne (tgt := 47) X dX1_nextToAct_42 (by decide) hf (fun h5 hf => ?_) (fun h5 hf => ?_)
        · refine ar_iload_n X dX1_nextToAct_45 rfl 0 rfl ?_
          cases hf
          exact ar_iret X dX1_nextToAct_46 hR (Nat.le_refl _) (Nat.le_refl _)
        · refine ar_iinc (j := 3) (v := (l2 + 1)) X dX1_nextToAct_47 rfl rfl (by decide) rfl ?_
          refine ar_goto (tgt := 2) X dX1_nextToAct_50 (by decide) ?_
          refine ar_lo [2, 3, 0] rfl ?_
          exact ih l1 (l2 + 1) hf
def f_X1_nextToAct (o : Nat) (a1 : Int32) (I : aI) : Option Int32 :=
  f_X1_nextToAct_h2 o am_F a1 (1 : Int32) I
set_option maxRecDepth 100000 in
set_option maxHeartbeats 4000000 in
theorem am_X1_nextToAct {sh : aS} {P : aP} {I : aI} {J : aJ} {o : Nat} (hL : L1 sh P o) {a1 : Int32} {r : Int32} (hf : f_X1_nextToAct o a1 I = some r) : AM yX1_nextToAct cX1_nextToAct 4 (some .int) 1 23 [.ref o, .int a1] sh P I J (some (.int r)) sh P I J 0 0 := by
  refine am_met (by decide +kernel) (Nat.le_of_ble_eq_true rfl) (fun K X hR => ?_)
  have X : am_C K cX1_nextToAct 4 RX1 "nextToAct" ({ frames := 1, cells := 0, slots := 0, locals := 23 } : Room) := X
  show AW K 4 0 [(0, .ref o), (1, .int a1)] [] sh P I J 0 0
  unfold f_X1_nextToAct at hf
  refine ar_iconst (v := 1) X dX1_nextToAct_0 (by decide) ?_
  refine ar_istore_n X dX1_nextToAct_1 rfl (by decide) rfl ?_
  refine ar_lo [1, 2, 0] rfl ?_
  exact ab_X1_nextToAct_h2 X hL hR am_F a1 (1 : Int32) hf
def f_X1_turnBehind_b29 (o : Nat) (s0 : Int32) (I : aI) : Option aI :=
  am_let (am_w I (o + 13) 4 s0) fun I1 =>
  if (I1 (o + 13) 4) = (-6 : Int32) then (
    if (I1 (o + 13) 3) = (-6 : Int32) then (
      am_let (am_w I1 (o + 13) 7 (0 : Int32)) fun I4 =>
      some I4)
    else (
      am_let (am_w I1 (o + 13) 7 (am_shl (1 : Int32) (I1 (o + 13) 3))) fun I5 =>
      some I5))
  else (
    some I1)
set_option maxRecDepth 100000 in
set_option maxHeartbeats 4000000 in
theorem ab_X1_turnBehind_b29 {K : aK} {sh : aS} {P : aP} {J : aJ} {o : Nat} (X : am_C K cX1_turnBehind 2 RX1 "turnBehind" ({ frames := 2, cells := 0, slots := 0, locals := 46 } : Room)) (hL : L1 sh P o) {I9 : aI} (hR : am_R K none none sh P I9 J 0 0) (s0 : Int32) (I : aI) (hf : f_X1_turnBehind_b29 o s0 I = some I9) : AW K 2 29 [(0, .ref o)] [.int s0, .ref (o + 13)] sh P I J 0 0 := by
  unfold f_X1_turnBehind_b29 at hf
  refine ar_puti X dX1_turnBehind_29 fd_X1_133 rfl ⟨rfl, rfl⟩ (L1_s13 hL) hf (fun I1 hf => ?_)
  refine ar_aload_n X dX1_turnBehind_32 rfl 0 rfl ?_
  refine ar_getr X dX1_turnBehind_33 fg_X1_40 rfl (L1_s0 hL) (L1_p0_3 hL) ?_
  refine ar_geti X dX1_turnBehind_36 fg_X1_133 rfl (L1_s13 hL) ?_
  refine ar_bipush (v := -6) X dX1_turnBehind_39 (by decide) ?_
  refine ar_icmp_ne (tgt := 76) X dX1_turnBehind_41 (by decide) hf (fun h2 hf => ?_) (fun h2 hf => ?_)
  · refine ar_aload_n X dX1_turnBehind_44 rfl 0 rfl ?_
    refine ar_getr X dX1_turnBehind_45 fg_X1_40 rfl (L1_s0 hL) (L1_p0_3 hL) ?_
    refine ar_aload_n X dX1_turnBehind_48 rfl 0 rfl ?_
    refine ar_getr X dX1_turnBehind_49 fg_X1_40 rfl (L1_s0 hL) (L1_p0_3 hL) ?_
    refine ar_geti X dX1_turnBehind_52 fg_X1_177 rfl (L1_s13 hL) ?_
    refine ar_bipush (v := -6) X dX1_turnBehind_55 (by decide) ?_
    refine ar_icmp_ne (tgt := 64) X dX1_turnBehind_57 (by decide) hf (fun h3 hf => ?_) (fun h3 hf => ?_)
    · refine ar_iconst (v := 0) X dX1_turnBehind_60 (by decide) ?_
      refine ar_goto (tgt := 73) X dX1_turnBehind_61 (by decide) ?_
      refine ar_puti X dX1_turnBehind_73 fd_X1_148 rfl ⟨rfl, rfl⟩ (L1_s13 hL) hf (fun I4 hf => ?_)
      cases hf
      exact ar_vret X dX1_turnBehind_76 hR (Nat.le_refl _) (Nat.le_refl _)
    · refine ar_iconst (v := 1) X dX1_turnBehind_64 (by decide) ?_
      refine ar_aload_n X dX1_turnBehind_65 rfl 0 rfl ?_
      refine ar_getr X dX1_turnBehind_66 fg_X1_40 rfl (L1_s0 hL) (L1_p0_3 hL) ?_
      refine ar_geti X dX1_turnBehind_69 fg_X1_177 rfl (L1_s13 hL) ?_
      refine ar_ishl X dX1_turnBehind_72 ?_
      refine ar_puti X dX1_turnBehind_73 fd_X1_148 rfl ⟨rfl, rfl⟩ (L1_s13 hL) hf (fun I5 hf => ?_)
      cases hf
      exact ar_vret X dX1_turnBehind_76 hR (Nat.le_refl _) (Nat.le_refl _)
  · cases hf
    exact ar_vret X dX1_turnBehind_76 hR (Nat.le_refl _) (Nat.le_refl _)
def f_X1_turnBehind (o : Nat) (a1 : Int32) (I : aI) : Option aI :=
  am_b1 (f_X1_settingOf o (2 : Int32) I) fun r1 =>
  if r1 ≤ (I (o + 13) 5) then (
    f_X1_turnBehind_b29 o (-6 : Int32) I)
  else (
    am_b1 (f_X1_nextToAct o a1 I) fun r3 =>
    f_X1_turnBehind_b29 o r3 I)
set_option maxRecDepth 100000 in
set_option maxHeartbeats 4000000 in
theorem am_X1_turnBehind {sh : aS} {P : aP} {I : aI} {J : aJ} {o : Nat} (hL : L1 sh P o) {a1 : Int32} {I9 : aI} (hf : f_X1_turnBehind o a1 I = some I9) : AM yX1_turnBehind cX1_turnBehind 2 none 2 46 [.ref o, .int a1] sh P I J none sh P I9 J 0 0 := by
  refine am_met (by decide +kernel) (Nat.le_of_ble_eq_true rfl) (fun K X hR => ?_)
  have X : am_C K cX1_turnBehind 2 RX1 "turnBehind" ({ frames := 2, cells := 0, slots := 0, locals := 46 } : Room) := X
  show AW K 2 0 [(0, .ref o), (1, .int a1)] [] sh P I J 0 0
  unfold f_X1_turnBehind at hf
  refine ar_aload_n X dX1_turnBehind_0 rfl 0 rfl ?_
  refine ar_getr X dX1_turnBehind_1 fg_X1_40 rfl (L1_s0 hL) (L1_p0_3 hL) ?_
  refine ar_aload_n X dX1_turnBehind_4 rfl 0 rfl ?_
  refine ar_getr X dX1_turnBehind_5 fg_X1_40 rfl (L1_s0 hL) (L1_p0_3 hL) ?_
  refine ar_geti X dX1_turnBehind_8 fg_X1_200 rfl (L1_s13 hL) ?_
  refine ar_aload_n X dX1_turnBehind_11 rfl 0 rfl ?_
  refine ar_iconst (v := 2) X dX1_turnBehind_12 (by decide) ?_
  obtain ⟨r1, h1, hf⟩ := am_b1_e hf
  refine ar_cVi (As := [.int (2 : Int32)]) (st := [.int (I (o + 13) 5), .ref (o + 13)]) X dX1_turnBehind_13 (am_X1_settingOf hL h1) lk_X1_44 mt_X1_settingOf mi_X1_settingOf (L1_s0 hL) rfl rfl (Nat.le_of_ble_eq_true rfl) ⟨by decide, by decide⟩ ⟨Nat.zero_le _, Nat.zero_le _⟩ rfl ?_
  refine ar_icmp_ge (tgt := 27) X dX1_turnBehind_16 (by decide) hf (fun h2 hf => ?_) (fun h2 hf => ?_)
  · refine ar_bipush (v := -6) X dX1_turnBehind_27 (by decide) ?_
    refine ar_lo [0] rfl ?_
    exact ab_X1_turnBehind_b29 X hL hR (-6 : Int32) I hf
  · refine ar_aload_n X dX1_turnBehind_19 rfl 0 rfl ?_
    refine ar_iload_n X dX1_turnBehind_20 rfl 1 rfl ?_
    obtain ⟨r3, h3, hf⟩ := am_b1_e hf
    refine ar_cVi (As := [.int a1]) (st := [.ref (o + 13)]) X dX1_turnBehind_21 (am_X1_nextToAct hL h3) lk_X1_203 mt_X1_nextToAct mi_X1_nextToAct (L1_s0 hL) rfl rfl (Nat.le_of_ble_eq_true rfl) ⟨by decide, by decide⟩ ⟨Nat.zero_le _, Nat.zero_le _⟩ rfl ?_
    refine ar_goto (tgt := 29) X dX1_turnBehind_24 (by decide) ?_
    refine ar_lo [0] rfl ?_
    exact ab_X1_turnBehind_b29 X hL hR r3 I hf
def f_X1_raise (o : Nat) (a1 : Int32) (a2 : Int32) (I : aI) : Option (Int32 × aI) :=
  if a1 = (I (o + 13) 4) then (
    am_b1 (f_X1_leastRaise o I) fun r2 =>
    am_b1 (f_X4_amountOf (o + 2) a1 I) fun r3 =>
    am_b1 (f_X6_within a2 r2 r3) fun r4 =>
    if r4 = 0 then (
      some ((-2 : Int32), I))
    else (
      am_b1 (f_X0_noteBid (o + 13) a1 a2 I) fun I6 =>
      am_let (am_w I6 (o + 13) 2 a2) fun I7 =>
      am_let (am_w I7 (o + 13) 3 a1) fun I8 =>
      am_b1 (f_X4_learnAtLeast (o + 2) a1 a2 I8) fun I9 =>
      am_b1 (f_X1_turnBehind o a1 I9) fun I10 =>
      some ((-6 : Int32), I10)))
  else (
    some ((-5 : Int32), I))
set_option maxRecDepth 100000 in
set_option maxHeartbeats 4000000 in
theorem am_X1_raise {sh : aS} {P : aP} {I : aI} {J : aJ} {o : Nat} (hL : L1 sh P o) {a1 : Int32} {a2 : Int32} {r : Int32} {I9 : aI} (hf : f_X1_raise o a1 a2 I = some (r, I9)) : AM yX1_raise cX1_raise 3 (some .int) 3 67 [.ref o, .int a1, .int a2] sh P I J (some (.int r)) sh P I9 J 0 0 := by
  refine am_met (by decide +kernel) (Nat.le_of_ble_eq_true rfl) (fun K X hR => ?_)
  have X : am_C K cX1_raise 3 RX1 "raise" ({ frames := 3, cells := 0, slots := 0, locals := 67 } : Room) := X
  show AW K 3 0 [(0, .ref o), (1, .int a1), (2, .int a2)] [] sh P I J 0 0
  unfold f_X1_raise at hf
  refine ar_iload_n X dX1_raise_0 rfl 1 rfl ?_
  refine ar_aload_n X dX1_raise_1 rfl 0 rfl ?_
  refine ar_getr X dX1_raise_2 fg_X1_40 rfl (L1_s0 hL) (L1_p0_3 hL) ?_
  refine ar_geti X dX1_raise_5 fg_X1_133 rfl (L1_s13 hL) ?_
  refine ar_icmp_eq (tgt := 14) X dX1_raise_8 (by decide) hf (fun h1 hf => ?_) (fun h1 hf => ?_)
  · refine ar_iload_n X dX1_raise_14 rfl 2 rfl ?_
    refine ar_aload_n X dX1_raise_15 rfl 0 rfl ?_
    obtain ⟨r2, h2, hf⟩ := am_b1_e hf
    refine ar_cVi (As := []) (st := [.int a2]) X dX1_raise_16 (am_X1_leastRaise hL h2) lk_X1_145 mt_X1_leastRaise mi_X1_leastRaise (L1_s0 hL) rfl rfl (Nat.le_of_ble_eq_true rfl) ⟨by decide, by decide⟩ ⟨Nat.zero_le _, Nat.zero_le _⟩ rfl ?_
    refine ar_aload_n X dX1_raise_19 rfl 0 rfl ?_
    refine ar_getr X dX1_raise_20 fg_X1_26 rfl (L1_s0 hL) (L1_p0_1 hL) ?_
    refine ar_iload_n X dX1_raise_23 rfl 1 rfl ?_
    obtain ⟨r3, h3, hf⟩ := am_b1_e hf
    refine ar_cVi (As := [.int a1]) (st := [.int r2, .int a2]) X dX1_raise_24 (am_X4_amountOf (L1_c2 hL) h3) lk_X1_180 mt_X4_amountOf mi_X4_amountOf (L1_s2 hL) rfl rfl (Nat.le_of_ble_eq_true rfl) ⟨by decide, by decide⟩ ⟨Nat.zero_le _, Nat.zero_le _⟩ rfl ?_
    obtain ⟨r4, h4, hf⟩ := am_b1_e hf
    refine ar_cSi (As := [.int a2, .int r2, .int r3]) (st := []) X dX1_raise_27 (am_X6_within h4) lk_X1_183 mt_X6_within ms_X6_within rfl (Nat.le_of_ble_eq_true rfl) ⟨by decide, by decide⟩ ⟨Nat.zero_le _, Nat.zero_le _⟩ rfl ?_
    refine ar_if_ne (tgt := 36) X dX1_raise_30 (by decide) hf (fun h5 hf => ?_) (fun h5 hf => ?_)
    · refine ar_bipush (v := -2) X dX1_raise_33 (by decide) ?_
      cases hf
      exact ar_iret X dX1_raise_35 hR (Nat.le_refl _) (Nat.le_refl _)
    · refine ar_aload_n X dX1_raise_36 rfl 0 rfl ?_
      refine ar_getr X dX1_raise_37 fg_X1_40 rfl (L1_s0 hL) (L1_p0_3 hL) ?_
      refine ar_iload_n X dX1_raise_40 rfl 1 rfl ?_
      refine ar_iload_n X dX1_raise_41 rfl 2 rfl ?_
      obtain ⟨I6, h6, hf⟩ := am_b1_e hf
      refine ar_cVv (As := [.int a1, .int a2]) (st := []) X dX1_raise_42 (am_X0_noteBid (L1_c13 hL) h6) lk_X1_187 mt_X0_noteBid mi_X0_noteBid (L1_s13 hL) rfl rfl (Nat.le_of_ble_eq_true rfl) ⟨by decide, by decide⟩ ⟨Nat.zero_le _, Nat.zero_le _⟩ rfl ?_
      refine ar_aload_n X dX1_raise_45 rfl 0 rfl ?_
      refine ar_getr X dX1_raise_46 fg_X1_40 rfl (L1_s0 hL) (L1_p0_3 hL) ?_
      refine ar_iload_n X dX1_raise_49 rfl 2 rfl ?_
      refine ar_puti X dX1_raise_50 fd_X1_151 rfl ⟨rfl, rfl⟩ (L1_s13 hL) hf (fun I7 hf => ?_)
      refine ar_aload_n X dX1_raise_53 rfl 0 rfl ?_
      refine ar_getr X dX1_raise_54 fg_X1_40 rfl (L1_s0 hL) (L1_p0_3 hL) ?_
      refine ar_iload_n X dX1_raise_57 rfl 1 rfl ?_
      refine ar_puti X dX1_raise_58 fd_X1_177 rfl ⟨rfl, rfl⟩ (L1_s13 hL) hf (fun I8 hf => ?_)
      refine ar_aload_n X dX1_raise_61 rfl 0 rfl ?_
      refine ar_getr X dX1_raise_62 fg_X1_26 rfl (L1_s0 hL) (L1_p0_1 hL) ?_
      refine ar_iload_n X dX1_raise_65 rfl 1 rfl ?_
      refine ar_iload_n X dX1_raise_66 rfl 2 rfl ?_
      obtain ⟨I9, h9, hf⟩ := am_b1_e hf
      refine ar_cVv (As := [.int a1, .int a2]) (st := []) X dX1_raise_67 (am_X4_learnAtLeast (L1_c2 hL) h9) lk_X1_190 mt_X4_learnAtLeast mi_X4_learnAtLeast (L1_s2 hL) rfl rfl (Nat.le_of_ble_eq_true rfl) ⟨by decide, by decide⟩ ⟨Nat.zero_le _, Nat.zero_le _⟩ rfl ?_
      refine ar_aload_n X dX1_raise_70 rfl 0 rfl ?_
      refine ar_iload_n X dX1_raise_71 rfl 1 rfl ?_
      obtain ⟨I10, h10, hf⟩ := am_b1_e hf
      refine ar_cVv (As := [.int a1]) (st := []) X dX1_raise_72 (am_X1_turnBehind hL h10) lk_X1_193 mt_X1_turnBehind mi_X1_turnBehind (L1_s0 hL) rfl rfl (Nat.le_of_ble_eq_true rfl) ⟨by decide, by decide⟩ ⟨Nat.zero_le _, Nat.zero_le _⟩ rfl ?_
      refine ar_bipush (v := -6) X dX1_raise_75 (by decide) ?_
      cases hf
      exact ar_iret X dX1_raise_77 hR (Nat.le_refl _) (Nat.le_refl _)
  · refine ar_bipush (v := -5) X dX1_raise_11 (by decide) ?_
    cases hf
    exact ar_iret X dX1_raise_13 hR (Nat.le_refl _) (Nat.le_refl _)
def f_X1_stepOut (o : Nat) (a1 : Int32) (I : aI) : Option (Int32 × aI) :=
  if a1 = (I (o + 13) 4) then (
    am_b1 (f_X0_noteOut (o + 13) a1 I) fun I2 =>
    am_b1 (f_X1_turnBehind o a1 I2) fun I3 =>
    some ((-6 : Int32), I3))
  else (
    some ((-5 : Int32), I))
set_option maxRecDepth 100000 in
set_option maxHeartbeats 4000000 in
theorem am_X1_stepOut {sh : aS} {P : aP} {I : aI} {J : aJ} {o : Nat} (hL : L1 sh P o) {a1 : Int32} {r : Int32} {I9 : aI} (hf : f_X1_stepOut o a1 I = some (r, I9)) : AM yX1_stepOut cX1_stepOut 2 (some .int) 3 67 [.ref o, .int a1] sh P I J (some (.int r)) sh P I9 J 0 0 := by
  refine am_met (by decide +kernel) (Nat.le_of_ble_eq_true rfl) (fun K X hR => ?_)
  have X : am_C K cX1_stepOut 2 RX1 "stepOut" ({ frames := 3, cells := 0, slots := 0, locals := 67 } : Room) := X
  show AW K 2 0 [(0, .ref o), (1, .int a1)] [] sh P I J 0 0
  unfold f_X1_stepOut at hf
  refine ar_iload_n X dX1_stepOut_0 rfl 1 rfl ?_
  refine ar_aload_n X dX1_stepOut_1 rfl 0 rfl ?_
  refine ar_getr X dX1_stepOut_2 fg_X1_40 rfl (L1_s0 hL) (L1_p0_3 hL) ?_
  refine ar_geti X dX1_stepOut_5 fg_X1_133 rfl (L1_s13 hL) ?_
  refine ar_icmp_eq (tgt := 14) X dX1_stepOut_8 (by decide) hf (fun h1 hf => ?_) (fun h1 hf => ?_)
  · refine ar_aload_n X dX1_stepOut_14 rfl 0 rfl ?_
    refine ar_getr X dX1_stepOut_15 fg_X1_40 rfl (L1_s0 hL) (L1_p0_3 hL) ?_
    refine ar_iload_n X dX1_stepOut_18 rfl 1 rfl ?_
    obtain ⟨I2, h2, hf⟩ := am_b1_e hf
    refine ar_cVv (As := [.int a1]) (st := []) X dX1_stepOut_19 (am_X0_noteOut (L1_c13 hL) h2) lk_X1_197 mt_X0_noteOut mi_X0_noteOut (L1_s13 hL) rfl rfl (Nat.le_of_ble_eq_true rfl) ⟨by decide, by decide⟩ ⟨Nat.zero_le _, Nat.zero_le _⟩ rfl ?_
    refine ar_aload_n X dX1_stepOut_22 rfl 0 rfl ?_
    refine ar_iload_n X dX1_stepOut_23 rfl 1 rfl ?_
    obtain ⟨I3, h3, hf⟩ := am_b1_e hf
    refine ar_cVv (As := [.int a1]) (st := []) X dX1_stepOut_24 (am_X1_turnBehind hL h3) lk_X1_193 mt_X1_turnBehind mi_X1_turnBehind (L1_s0 hL) rfl rfl (Nat.le_of_ble_eq_true rfl) ⟨by decide, by decide⟩ ⟨Nat.zero_le _, Nat.zero_le _⟩ rfl ?_
    refine ar_bipush (v := -6) X dX1_stepOut_27 (by decide) ?_
    cases hf
    exact ar_iret X dX1_stepOut_29 hR (Nat.le_refl _) (Nat.le_refl _)
  · refine ar_bipush (v := -5) X dX1_stepOut_11 (by decide) ?_
    cases hf
    exact ar_iret X dX1_stepOut_13 hR (Nat.le_refl _) (Nat.le_refl _)
def f_X1_moveAlone_b62 (o : Nat) (s0 : Int32) (I : aI) : Option (Int32 × aI) :=
  am_b1 (f_X1_limitOf o s0 I) fun r1 =>
  if (I (o + 13) 0) = (1 : Int32) then (
    if r1 < (I (o + 13) 1) then (
      am_b2 (f_X1_handIn o s0 (0 : Int32) I) fun r4 I4 =>
      am_b2 (f_X1_settle o I4) fun r5 I5 =>
      some (r5, I5))
    else (
      am_b2 (f_X1_handIn o s0 r1 I) fun r6 I6 =>
      am_b2 (f_X1_settle o I6) fun r7 I7 =>
      some (r7, I7)))
  else (
    am_b1 (f_X1_leastRaise o I) fun r8 =>
    if r1 < r8 then (
      am_b2 (f_X1_stepOut o s0 I) fun r10 I10 =>
      am_b2 (f_X1_settle o I10) fun r11 I11 =>
      some (r11, I11))
    else (
      am_b1 (f_X1_leastRaise o I) fun r12 =>
      am_b2 (f_X1_raise o s0 r12 I) fun r13 I13 =>
      am_b2 (f_X1_settle o I13) fun r14 I14 =>
      some (r14, I14)))
set_option maxRecDepth 100000 in
set_option maxHeartbeats 4000000 in
theorem ab_X1_moveAlone_b62 {K : aK} {sh : aS} {P : aP} {J : aJ} {o : Nat} (X : am_C K cX1_moveAlone 3 RX1 "moveAlone" ({ frames := 4, cells := 0, slots := 0, locals := 97 } : Room)) (hL : L1 sh P o) {r : Int32} {I9 : aI} (hR : am_R K (some .int) (some (.int r)) sh P I9 J 0 0) (s0 : Int32) (I : aI) (hf : f_X1_moveAlone_b62 o s0 I = some (r, I9)) : AW K 3 62 [(0, .ref o)] [.int s0] sh P I J 0 0 := by
  unfold f_X1_moveAlone_b62 at hf
  refine ar_istore_n X dX1_moveAlone_62 rfl (by decide) rfl ?_
  refine ar_aload_n X dX1_moveAlone_63 rfl 1 rfl ?_
  refine ar_iload_n X dX1_moveAlone_64 rfl 0 rfl ?_
  obtain ⟨r1, h1, hf⟩ := am_b1_e hf
  refine ar_cVi (As := [.int s0]) (st := []) X dX1_moveAlone_65 (am_X1_limitOf hL h1) lk_X1_139 mt_X1_limitOf mi_X1_limitOf (L1_s0 hL) rfl rfl (Nat.le_of_ble_eq_true rfl) ⟨by decide, by decide⟩ ⟨Nat.zero_le _, Nat.zero_le _⟩ rfl ?_
  refine ar_istore_n X dX1_moveAlone_68 rfl (by decide) rfl ?_
  refine ar_aload_n X dX1_moveAlone_69 rfl 2 rfl ?_
  refine ar_getr X dX1_moveAlone_70 fg_X1_40 rfl (L1_s0 hL) (L1_p0_3 hL) ?_
  refine ar_geti X dX1_moveAlone_73 fg_X1_108 rfl (L1_s13 hL) ?_
  refine ar_iconst (v := 1) X dX1_moveAlone_76 (by decide) ?_
  refine ar_icmp_ne (tgt := 105) X dX1_moveAlone_77 (by decide) hf (fun h2 hf => ?_) (fun h2 hf => ?_)
  · refine ar_aload_n X dX1_moveAlone_80 rfl 2 rfl ?_
    refine ar_iload_n X dX1_moveAlone_81 rfl 1 rfl ?_
    refine ar_iload_n X dX1_moveAlone_82 rfl 0 rfl ?_
    refine ar_aload_n X dX1_moveAlone_83 rfl 2 rfl ?_
    refine ar_getr X dX1_moveAlone_84 fg_X1_40 rfl (L1_s0 hL) (L1_p0_3 hL) ?_
    refine ar_geti X dX1_moveAlone_87 fg_X1_142 rfl (L1_s13 hL) ?_
    refine ar_icmp_lt (tgt := 97) X dX1_moveAlone_90 (by decide) hf (fun h3 hf => ?_) (fun h3 hf => ?_)
    · refine ar_iconst (v := 0) X dX1_moveAlone_97 (by decide) ?_
      obtain ⟨r4, I4, h4, hf⟩ := am_b2_e hf
      refine ar_cVi (As := [.int s0, .int (0 : Int32)]) (st := []) X dX1_moveAlone_98 (am_X1_handIn hL h4) lk_X1_115 mt_X1_handIn mi_X1_handIn (L1_s0 hL) rfl rfl (Nat.le_of_ble_eq_true rfl) ⟨by decide, by decide⟩ ⟨Nat.zero_le _, Nat.zero_le _⟩ rfl ?_
      refine ar_pop X dX1_moveAlone_101 rfl ?_
      refine ar_goto (tgt := 132) X dX1_moveAlone_102 (by decide) ?_
      refine ar_aload_n X dX1_moveAlone_132 rfl 2 rfl ?_
      obtain ⟨r5, I5, h5, hf⟩ := am_b2_e hf
      refine ar_cVi (As := []) (st := []) X dX1_moveAlone_133 (am_X1_settle hL h5) lk_X1_121 mt_X1_settle mi_X1_settle (L1_s0 hL) rfl rfl (Nat.le_of_ble_eq_true rfl) ⟨by decide, by decide⟩ ⟨Nat.zero_le _, Nat.zero_le _⟩ rfl ?_
      cases hf
      exact ar_iret X dX1_moveAlone_136 hR (Nat.le_refl _) (Nat.le_refl _)
    · refine ar_iload_n X dX1_moveAlone_93 rfl 0 rfl ?_
      refine ar_goto (tgt := 98) X dX1_moveAlone_94 (by decide) ?_
      obtain ⟨r6, I6, h6, hf⟩ := am_b2_e hf
      refine ar_cVi (As := [.int s0, .int r1]) (st := []) X dX1_moveAlone_98 (am_X1_handIn hL h6) lk_X1_115 mt_X1_handIn mi_X1_handIn (L1_s0 hL) rfl rfl (Nat.le_of_ble_eq_true rfl) ⟨by decide, by decide⟩ ⟨Nat.zero_le _, Nat.zero_le _⟩ rfl ?_
      refine ar_pop X dX1_moveAlone_101 rfl ?_
      refine ar_goto (tgt := 132) X dX1_moveAlone_102 (by decide) ?_
      refine ar_aload_n X dX1_moveAlone_132 rfl 2 rfl ?_
      obtain ⟨r7, I7, h7, hf⟩ := am_b2_e hf
      refine ar_cVi (As := []) (st := []) X dX1_moveAlone_133 (am_X1_settle hL h7) lk_X1_121 mt_X1_settle mi_X1_settle (L1_s0 hL) rfl rfl (Nat.le_of_ble_eq_true rfl) ⟨by decide, by decide⟩ ⟨Nat.zero_le _, Nat.zero_le _⟩ rfl ?_
      cases hf
      exact ar_iret X dX1_moveAlone_136 hR (Nat.le_refl _) (Nat.le_refl _)
  · refine ar_aload_n X dX1_moveAlone_105 rfl 2 rfl ?_
    obtain ⟨r8, h8, hf⟩ := am_b1_e hf
    refine ar_cVi (As := []) (st := []) X dX1_moveAlone_106 (am_X1_leastRaise hL h8) lk_X1_145 mt_X1_leastRaise mi_X1_leastRaise (L1_s0 hL) rfl rfl (Nat.le_of_ble_eq_true rfl) ⟨by decide, by decide⟩ ⟨Nat.zero_le _, Nat.zero_le _⟩ rfl ?_
    refine ar_iload_n X dX1_moveAlone_109 rfl 0 rfl ?_
    refine ar_icmp_gt (tgt := 126) X dX1_moveAlone_110 (by decide) hf (fun h9 hf => ?_) (fun h9 hf => ?_)
    · refine ar_aload_n X dX1_moveAlone_126 rfl 2 rfl ?_
      refine ar_iload_n X dX1_moveAlone_127 rfl 1 rfl ?_
      obtain ⟨r10, I10, h10, hf⟩ := am_b2_e hf
      refine ar_cVi (As := [.int s0]) (st := []) X dX1_moveAlone_128 (am_X1_stepOut hL h10) lk_X1_124 mt_X1_stepOut mi_X1_stepOut (L1_s0 hL) rfl rfl (Nat.le_of_ble_eq_true rfl) ⟨by decide, by decide⟩ ⟨Nat.zero_le _, Nat.zero_le _⟩ rfl ?_
      refine ar_pop X dX1_moveAlone_131 rfl ?_
      refine ar_aload_n X dX1_moveAlone_132 rfl 2 rfl ?_
      obtain ⟨r11, I11, h11, hf⟩ := am_b2_e hf
      refine ar_cVi (As := []) (st := []) X dX1_moveAlone_133 (am_X1_settle hL h11) lk_X1_121 mt_X1_settle mi_X1_settle (L1_s0 hL) rfl rfl (Nat.le_of_ble_eq_true rfl) ⟨by decide, by decide⟩ ⟨Nat.zero_le _, Nat.zero_le _⟩ rfl ?_
      cases hf
      exact ar_iret X dX1_moveAlone_136 hR (Nat.le_refl _) (Nat.le_refl _)
    · refine ar_aload_n X dX1_moveAlone_113 rfl 2 rfl ?_
      refine ar_iload_n X dX1_moveAlone_114 rfl 1 rfl ?_
      refine ar_aload_n X dX1_moveAlone_115 rfl 2 rfl ?_
      obtain ⟨r12, h12, hf⟩ := am_b1_e hf
      refine ar_cVi (As := []) (st := [.int s0, .ref o]) X dX1_moveAlone_116 (am_X1_leastRaise hL h12) lk_X1_145 mt_X1_leastRaise mi_X1_leastRaise (L1_s0 hL) rfl rfl (Nat.le_of_ble_eq_true rfl) ⟨by decide, by decide⟩ ⟨Nat.zero_le _, Nat.zero_le _⟩ rfl ?_
      obtain ⟨r13, I13, h13, hf⟩ := am_b2_e hf
      refine ar_cVi (As := [.int s0, .int r12]) (st := []) X dX1_moveAlone_119 (am_X1_raise hL h13) lk_X1_111 mt_X1_raise mi_X1_raise (L1_s0 hL) rfl rfl (Nat.le_of_ble_eq_true rfl) ⟨by decide, by decide⟩ ⟨Nat.zero_le _, Nat.zero_le _⟩ rfl ?_
      refine ar_pop X dX1_moveAlone_122 rfl ?_
      refine ar_goto (tgt := 132) X dX1_moveAlone_123 (by decide) ?_
      refine ar_aload_n X dX1_moveAlone_132 rfl 2 rfl ?_
      obtain ⟨r14, I14, h14, hf⟩ := am_b2_e hf
      refine ar_cVi (As := []) (st := []) X dX1_moveAlone_133 (am_X1_settle hL h14) lk_X1_121 mt_X1_settle mi_X1_settle (L1_s0 hL) rfl rfl (Nat.le_of_ble_eq_true rfl) ⟨by decide, by decide⟩ ⟨Nat.zero_le _, Nat.zero_le _⟩ rfl ?_
      cases hf
      exact ar_iret X dX1_moveAlone_136 hR (Nat.le_refl _) (Nat.le_refl _)
def f_X1_moveAlone (o : Nat)  (I : aI) : Option (Int32 × aI) :=
  am_b1 (f_X0_goesOn (o + 13) I) fun r1 =>
  if r1 = 0 then (
    some ((-5 : Int32), I))
  else (
    if (I (o + 13) 0) = (2 : Int32) then (
      am_b1 (f_X1_claimAlone o I) fun I4 =>
      am_b2 (f_X1_letFall o I4) fun r5 I5 =>
      am_b2 (f_X1_settle o I5) fun r6 I6 =>
      some (r6, I6))
    else (
      if (I (o + 13) 0) = 0 then (
        f_X1_moveAlone_b62 o (I (o + 13) 4) I)
      else (
        am_b1 (f_X1_firstWithoutBid o I) fun r8 =>
        f_X1_moveAlone_b62 o r8 I)))
set_option maxRecDepth 100000 in
set_option maxHeartbeats 4000000 in
theorem am_X1_moveAlone {sh : aS} {P : aP} {I : aI} {J : aJ} {o : Nat} (hL : L1 sh P o)  {r : Int32} {I9 : aI} (hf : f_X1_moveAlone o I = some (r, I9)) : AM yX1_moveAlone cX1_moveAlone 3 (some .int) 4 97 [.ref o] sh P I J (some (.int r)) sh P I9 J 0 0 := by
  refine am_met (by decide +kernel) (Nat.le_of_ble_eq_true rfl) (fun K X hR => ?_)
  have X : am_C K cX1_moveAlone 3 RX1 "moveAlone" ({ frames := 4, cells := 0, slots := 0, locals := 97 } : Room) := X
  show AW K 3 0 [(0, .ref o)] [] sh P I J 0 0
  unfold f_X1_moveAlone at hf
  refine ar_aload_n X dX1_moveAlone_0 rfl 0 rfl ?_
  refine ar_getr X dX1_moveAlone_1 fg_X1_40 rfl (L1_s0 hL) (L1_p0_3 hL) ?_
  obtain ⟨r1, h1, hf⟩ := am_b1_e hf
  refine ar_cVi (As := []) (st := []) X dX1_moveAlone_4 (am_X0_goesOn (L1_c13 hL) h1) lk_X1_78 mt_X0_goesOn mi_X0_goesOn (L1_s13 hL) rfl rfl (Nat.le_of_ble_eq_true rfl) ⟨by decide, by decide⟩ ⟨Nat.zero_le _, Nat.zero_le _⟩ rfl ?_
  refine ar_if_ne (tgt := 13) X dX1_moveAlone_7 (by decide) hf (fun h2 hf => ?_) (fun h2 hf => ?_)
  · refine ar_bipush (v := -5) X dX1_moveAlone_10 (by decide) ?_
    cases hf
    exact ar_iret X dX1_moveAlone_12 hR (Nat.le_refl _) (Nat.le_refl _)
  · refine ar_aload_n X dX1_moveAlone_13 rfl 0 rfl ?_
    refine ar_getr X dX1_moveAlone_14 fg_X1_40 rfl (L1_s0 hL) (L1_p0_3 hL) ?_
    refine ar_geti X dX1_moveAlone_17 fg_X1_108 rfl (L1_s13 hL) ?_
    refine ar_iconst (v := 2) X dX1_moveAlone_20 (by decide) ?_
    refine ar_icmp_ne (tgt := 38) X dX1_moveAlone_21 (by decide) hf (fun h3 hf => ?_) (fun h3 hf => ?_)
    · refine ar_aload_n X dX1_moveAlone_24 rfl 0 rfl ?_
      obtain ⟨I4, h4, hf⟩ := am_b1_e hf
      refine ar_cVv (As := []) (st := []) X dX1_moveAlone_25 (am_X1_claimAlone hL h4) lk_X1_130 mt_X1_claimAlone mi_X1_claimAlone (L1_s0 hL) rfl rfl (Nat.le_of_ble_eq_true rfl) ⟨by decide, by decide⟩ ⟨Nat.zero_le _, Nat.zero_le _⟩ rfl ?_
      refine ar_aload_n X dX1_moveAlone_28 rfl 0 rfl ?_
      obtain ⟨r5, I5, h5, hf⟩ := am_b2_e hf
      refine ar_cVi (As := []) (st := []) X dX1_moveAlone_29 (am_X1_letFall hL h5) lk_X1_127 mt_X1_letFall mi_X1_letFall (L1_s0 hL) rfl rfl (Nat.le_of_ble_eq_true rfl) ⟨by decide, by decide⟩ ⟨Nat.zero_le _, Nat.zero_le _⟩ rfl ?_
      refine ar_pop X dX1_moveAlone_32 rfl ?_
      refine ar_aload_n X dX1_moveAlone_33 rfl 0 rfl ?_
      obtain ⟨r6, I6, h6, hf⟩ := am_b2_e hf
      refine ar_cVi (As := []) (st := []) X dX1_moveAlone_34 (am_X1_settle hL h6) lk_X1_121 mt_X1_settle mi_X1_settle (L1_s0 hL) rfl rfl (Nat.le_of_ble_eq_true rfl) ⟨by decide, by decide⟩ ⟨Nat.zero_le _, Nat.zero_le _⟩ rfl ?_
      cases hf
      exact ar_iret X dX1_moveAlone_37 hR (Nat.le_refl _) (Nat.le_refl _)
    · refine ar_aload_n X dX1_moveAlone_38 rfl 0 rfl ?_
      refine ar_getr X dX1_moveAlone_39 fg_X1_40 rfl (L1_s0 hL) (L1_p0_3 hL) ?_
      refine ar_geti X dX1_moveAlone_42 fg_X1_108 rfl (L1_s13 hL) ?_
      refine ar_if_ne (tgt := 58) X dX1_moveAlone_45 (by decide) hf (fun h7 hf => ?_) (fun h7 hf => ?_)
      · refine ar_aload_n X dX1_moveAlone_48 rfl 0 rfl ?_
        refine ar_getr X dX1_moveAlone_49 fg_X1_40 rfl (L1_s0 hL) (L1_p0_3 hL) ?_
        refine ar_geti X dX1_moveAlone_52 fg_X1_133 rfl (L1_s13 hL) ?_
        refine ar_goto (tgt := 62) X dX1_moveAlone_55 (by decide) ?_
        exact ab_X1_moveAlone_b62 X hL hR (I (o + 13) 4) I hf
      · refine ar_aload_n X dX1_moveAlone_58 rfl 0 rfl ?_
        obtain ⟨r8, h8, hf⟩ := am_b1_e hf
        refine ar_cVi (As := []) (st := []) X dX1_moveAlone_59 (am_X1_firstWithoutBid hL h8) lk_X1_136 mt_X1_firstWithoutBid mi_X1_firstWithoutBid (L1_s0 hL) rfl rfl (Nat.le_of_ble_eq_true rfl) ⟨by decide, by decide⟩ ⟨Nat.zero_le _, Nat.zero_le _⟩ rfl ?_
        exact ab_X1_moveAlone_b62 X hL hR r8 I hf
def f_X1_neededAgainst_h5 (o : Nat) : Nat → Int32 → Int32 → Int32 → aI → Option Int32
  | 0, _, _, _, _ => none
  | n + 1, l1, l3, l4, I =>
    if (I (o + 2) 0) ≤ l4 then (
      some l3)
    else (
      if l4 = l1 then (
        f_X1_neededAgainst_h5 o n l1 l3 (l4 + 1) I)
      else (
        am_b1 (f_X1_limitOf o l4 I) fun r3 =>
        am_let (am_max l3 r3) fun x4 =>
        f_X1_neededAgainst_h5 o n l1 x4 (l4 + 1) I))
set_option maxRecDepth 100000 in
set_option maxHeartbeats 4000000 in
theorem ab_X1_neededAgainst_h5 {K : aK} {sh : aS} {P : aP} {I : aI} {J : aJ} {o : Nat} (X : am_C K cX1_neededAgainst 5 RX1 "neededAgainst" ({ frames := 3, cells := 0, slots := 0, locals := 69 } : Room)) (hL : L1 sh P o) {r : Int32} (hR : am_R K (some .int) (some (.int r)) sh P I J 0 0) : ∀ (n : Nat) (l1 : Int32) (l3 : Int32) (l4 : Int32) , f_X1_neededAgainst_h5 o n l1 l3 l4 I = some r → AW K 5 5 [(0, .ref o), (1, .int l1), (3, .int l3), (4, .int l4)] [] sh P I J 0 0 := by
  intro n
  induction n with
  | zero =>
    intro l1 l3 l4 hf
    cases hf
  | succ n ih =>
    intro l1 l3 l4 hf
    rw [f_X1_neededAgainst_h5] at hf
    refine ar_iload X dX1_neededAgainst_5 3 rfl ?_
    refine ar_aload_n X dX1_neededAgainst_7 rfl 0 rfl ?_
    refine ar_getr X dX1_neededAgainst_8 fg_X1_26 rfl (L1_s0 hL) (L1_p0_1 hL) ?_
    refine ar_geti X dX1_neededAgainst_11 fg_X1_82 rfl (L1_s2 hL) ?_
    refine ar_icmp_ge (tgt := 40) X dX1_neededAgainst_14 (by decide) hf (fun h1 hf => ?_) (fun h1 hf => ?_)
    · refine ar_iload_n X dX1_neededAgainst_40 rfl 2 rfl ?_
      cases hf
      exact ar_iret X dX1_neededAgainst_41 hR (Nat.le_refl _) (Nat.le_refl _)
    · refine ar_iload X dX1_neededAgainst_17 3 rfl ?_
      refine ar_iload_n X dX1_neededAgainst_19 rfl 1 rfl ?_
      refine ar_icmp_eq (tgt := 34) X dX1_neededAgainst_20 (by decide) hf (fun h2 hf => ?_) (fun h2 hf => ?_)
      · refine ar_iinc (j := 3) (v := (l4 + 1)) X dX1_neededAgainst_34 rfl rfl (by decide) rfl ?_
        refine ar_goto (tgt := 5) X dX1_neededAgainst_37 (by decide) ?_
        refine ar_lo [1, 2, 3, 0] rfl ?_
        exact ih l1 l3 (l4 + 1) hf
      · refine ar_iload_n X dX1_neededAgainst_23 rfl 2 rfl ?_
        refine ar_aload_n X dX1_neededAgainst_24 rfl 0 rfl ?_
        refine ar_iload X dX1_neededAgainst_25 3 rfl ?_
        obtain ⟨r3, h3, hf⟩ := am_b1_e hf
        refine ar_cVi (As := [.int l4]) (st := [.int l3]) X dX1_neededAgainst_27 (am_X1_limitOf hL h3) lk_X1_139 mt_X1_limitOf mi_X1_limitOf (L1_s0 hL) rfl rfl (Nat.le_of_ble_eq_true rfl) ⟨by decide, by decide⟩ ⟨Nat.zero_le _, Nat.zero_le _⟩ rfl ?_
        refine ar_max X dX1_neededAgainst_30 jm_max_X1_227 jm_max_s jm_i jm_max_c (by decide) (Nat.le_of_ble_eq_true rfl) ⟨Nat.zero_le _, Nat.zero_le _⟩ ?_
        refine ar_letI hf (fun x4 hf => ?_)
        refine ar_istore_n X dX1_neededAgainst_33 rfl (by decide) rfl ?_
        refine ar_iinc (j := 3) (v := (l4 + 1)) X dX1_neededAgainst_34 rfl rfl (by decide) rfl ?_
        refine ar_goto (tgt := 5) X dX1_neededAgainst_37 (by decide) ?_
        refine ar_lo [2, 3, 1, 0] rfl ?_
        exact ih l1 x4 (l4 + 1) hf
def f_X1_neededAgainst (o : Nat) (a1 : Int32) (a2 : Int32) (I : aI) : Option Int32 :=
  f_X1_neededAgainst_h5 o am_F a1 a2 (0 : Int32) I
set_option maxRecDepth 100000 in
set_option maxHeartbeats 4000000 in
theorem am_X1_neededAgainst {sh : aS} {P : aP} {I : aI} {J : aJ} {o : Nat} (hL : L1 sh P o) {a1 : Int32} {a2 : Int32} {r : Int32} (hf : f_X1_neededAgainst o a1 a2 I = some r) : AM yX1_neededAgainst cX1_neededAgainst 5 (some .int) 3 69 [.ref o, .int a1, .int a2] sh P I J (some (.int r)) sh P I J 0 0 := by
  refine am_met (by decide +kernel) (Nat.le_of_ble_eq_true rfl) (fun K X hR => ?_)
  have X : am_C K cX1_neededAgainst 5 RX1 "neededAgainst" ({ frames := 3, cells := 0, slots := 0, locals := 69 } : Room) := X
  show AW K 5 0 [(0, .ref o), (1, .int a1), (2, .int a2)] [] sh P I J 0 0
  unfold f_X1_neededAgainst at hf
  refine ar_iload_n X dX1_neededAgainst_0 rfl 2 rfl ?_
  refine ar_istore_n X dX1_neededAgainst_1 rfl (by decide) rfl ?_
  refine ar_iconst (v := 0) X dX1_neededAgainst_2 (by decide) ?_
  refine ar_istore X dX1_neededAgainst_3 (by decide) rfl ?_
  refine ar_lo [2, 3, 1, 0] rfl ?_
  exact ab_X1_neededAgainst_h5 X hL hR am_F a1 a2 (0 : Int32) hf
def f_X2_owns (o : Nat) (a1 : Int32) (a2 : Int32) (I : aI) : Option Int32 :=
  if a2 < 0 then (
    some (0 : Int32))
  else (
    if (I o 0) ≤ a2 then (
      some (0 : Int32))
    else (
      am_g (am_ok a2 12) (
      if ((am_shr (I (o + 3) (Int32.toNatClampNeg a2)) a1) &&& (1 : Int32)) = (1 : Int32) then (
        some (1 : Int32))
      else (
        some (0 : Int32)))))
set_option maxRecDepth 100000 in
set_option maxHeartbeats 4000000 in
theorem am_X2_owns {sh : aS} {P : aP} {I : aI} {J : aJ} {o : Nat} (hL : L2 sh P o) {a1 : Int32} {a2 : Int32} {r : Int32} (hf : f_X2_owns o a1 a2 I = some r) : AM yX2_owns cX2_owns 3 (some .boolean) 0 0 [.ref o, .int a1, .int a2] sh P I J (some (.int r)) sh P I J 0 0 := by
  refine am_met (by decide +kernel) (Nat.le_of_ble_eq_true rfl) (fun K X hR => ?_)
  have X : am_C K cX2_owns 3 RX2 "owns" ({ frames := 0, cells := 0, slots := 0, locals := 0 } : Room) := X
  show AW K 3 0 [(0, .ref o), (1, .int a1), (2, .int a2)] [] sh P I J 0 0
  unfold f_X2_owns at hf
  refine ar_iload_n X dX2_owns_0 rfl 2 rfl ?_
  refine ar_if_lt (tgt := 30) X dX2_owns_1 (by decide) hf (fun h1 hf => ?_) (fun h1 hf => ?_)
  · refine ar_iconst (v := 0) X dX2_owns_30 (by decide) ?_
    cases hf
    exact ar_zret X dX2_owns_31 rfl hR (Nat.le_refl _) (Nat.le_refl _)
  · refine ar_iload_n X dX2_owns_4 rfl 2 rfl ?_
    refine ar_aload_n X dX2_owns_5 rfl 0 rfl ?_
    refine ar_geti X dX2_owns_6 fg_X2_24 rfl (L2_s0 hL) ?_
    refine ar_icmp_ge (tgt := 30) X dX2_owns_9 (by decide) hf (fun h2 hf => ?_) (fun h2 hf => ?_)
    · refine ar_iconst (v := 0) X dX2_owns_30 (by decide) ?_
      cases hf
      exact ar_zret X dX2_owns_31 rfl hR (Nat.le_refl _) (Nat.le_refl _)
    · refine ar_aload_n X dX2_owns_12 rfl 0 rfl ?_
      refine ar_getr X dX2_owns_13 fg_X2_18 rfl (L2_s0 hL) (L2_p0_4 hL) ?_
      refine ar_iload_n X dX2_owns_16 rfl 2 rfl ?_
      refine ar_iald X dX2_owns_17 (L2_s3 hL) hf (fun hf => ?_)
      refine ar_iload_n X dX2_owns_18 rfl 1 rfl ?_
      refine ar_ishr X dX2_owns_19 ?_
      refine ar_iconst (v := 1) X dX2_owns_20 (by decide) ?_
      refine ar_iand X dX2_owns_21 ?_
      refine ar_iconst (v := 1) X dX2_owns_22 (by decide) ?_
      refine ar_icmp_ne (tgt := 30) X dX2_owns_23 (by decide) hf (fun h3 hf => ?_) (fun h3 hf => ?_)
      · refine ar_iconst (v := 1) X dX2_owns_26 (by decide) ?_
        refine ar_goto (tgt := 31) X dX2_owns_27 (by decide) ?_
        cases hf
        exact ar_zret X dX2_owns_31 rfl hR (Nat.le_refl _) (Nat.le_refl _)
      · refine ar_iconst (v := 0) X dX2_owns_30 (by decide) ?_
        cases hf
        exact ar_zret X dX2_owns_31 rfl hR (Nat.le_refl _) (Nat.le_refl _)
def f_X2_shareOf_b21 (o : Nat) (l1 : Int32) (s0 : Int32) (I : aI) : Option Int32 :=
  if s0 ≤ 0 then (
    some (0 : Int32))
  else (
    am_g (am_ok l1 12) (
    am_g (decide (¬ s0 = 0)) (
    some ((I (o + 2) (Int32.toNatClampNeg l1)) / s0))))
set_option maxRecDepth 100000 in
set_option maxHeartbeats 4000000 in
theorem ab_X2_shareOf_b21 {K : aK} {sh : aS} {P : aP} {I : aI} {J : aJ} {o : Nat} (X : am_C K cX2_shareOf 3 RX2 "shareOf" ({ frames := 1, cells := 0, slots := 0, locals := 21 } : Room)) (hL : L2 sh P o) {r : Int32} (hR : am_R K (some .int) (some (.int r)) sh P I J 0 0) (l1 : Int32) (s0 : Int32) (hf : f_X2_shareOf_b21 o l1 s0 I = some r) : AW K 3 21 [(0, .ref o), (1, .int l1)] [.int s0] sh P I J 0 0 := by
  unfold f_X2_shareOf_b21 at hf
  refine ar_istore_n X dX2_shareOf_21 rfl (by decide) rfl ?_
  refine ar_iload_n X dX2_shareOf_22 rfl 0 rfl ?_
  refine ar_if_le (tgt := 37) X dX2_shareOf_23 (by decide) hf (fun h1 hf => ?_) (fun h1 hf => ?_)
  · refine ar_iconst (v := 0) X dX2_shareOf_37 (by decide) ?_
    cases hf
    exact ar_iret X dX2_shareOf_38 hR (Nat.le_refl _) (Nat.le_refl _)
  · refine ar_aload_n X dX2_shareOf_26 rfl 1 rfl ?_
    refine ar_getr X dX2_shareOf_27 fg_X2_15 rfl (L2_s0 hL) (L2_p0_3 hL) ?_
    refine ar_iload_n X dX2_shareOf_30 rfl 2 rfl ?_
    refine ar_iald X dX2_shareOf_31 (L2_s2 hL) hf (fun hf => ?_)
    refine ar_iload_n X dX2_shareOf_32 rfl 0 rfl ?_
    obtain ⟨h2, hf⟩ := am_g_elim hf
    refine ar_idiv X dX2_shareOf_33 h2 ?_
    refine ar_goto (tgt := 38) X dX2_shareOf_34 (by decide) ?_
    cases hf
    exact ar_iret X dX2_shareOf_38 hR (Nat.le_refl _) (Nat.le_refl _)
def f_X2_shareOf (o : Nat) (a1 : Int32) (I : aI) : Option Int32 :=
  am_b1 (f_X2_hasLot o a1 I) fun r1 =>
  if r1 = 0 then (
    f_X2_shareOf_b21 o a1 (0 : Int32) I)
  else (
    am_g (am_ok a1 12) (
    am_b1 (f_J6_bitCount_0f7a4 (I (o + 3) (Int32.toNatClampNeg a1))) fun r3 =>
    f_X2_shareOf_b21 o a1 r3 I))
set_option maxRecDepth 100000 in
set_option maxHeartbeats 4000000 in
theorem am_X2_shareOf {sh : aS} {P : aP} {I : aI} {J : aJ} {o : Nat} (hL : L2 sh P o) {a1 : Int32} {r : Int32} (hf : f_X2_shareOf o a1 I = some r) : AM yX2_shareOf cX2_shareOf 3 (some .int) 1 21 [.ref o, .int a1] sh P I J (some (.int r)) sh P I J 0 0 := by
  refine am_met (by decide +kernel) (Nat.le_of_ble_eq_true rfl) (fun K X hR => ?_)
  have X : am_C K cX2_shareOf 3 RX2 "shareOf" ({ frames := 1, cells := 0, slots := 0, locals := 21 } : Room) := X
  show AW K 3 0 [(0, .ref o), (1, .int a1)] [] sh P I J 0 0
  unfold f_X2_shareOf at hf
  refine ar_aload_n X dX2_shareOf_0 rfl 0 rfl ?_
  refine ar_iload_n X dX2_shareOf_1 rfl 1 rfl ?_
  obtain ⟨r1, h1, hf⟩ := am_b1_e hf
  refine ar_cVi (As := [.int a1]) (st := []) X dX2_shareOf_2 (am_X2_hasLot hL h1) lk_X2_39 mt_X2_hasLot mi_X2_hasLot (L2_s0 hL) rfl rfl (Nat.le_of_ble_eq_true rfl) ⟨by decide, by decide⟩ ⟨Nat.zero_le _, Nat.zero_le _⟩ rfl ?_
  refine ar_if_eq (tgt := 20) X dX2_shareOf_5 (by decide) hf (fun h2 hf => ?_) (fun h2 hf => ?_)
  · refine ar_iconst (v := 0) X dX2_shareOf_20 (by decide) ?_
    exact ab_X2_shareOf_b21 X hL hR a1 (0 : Int32) hf
  · refine ar_aload_n X dX2_shareOf_8 rfl 0 rfl ?_
    refine ar_getr X dX2_shareOf_9 fg_X2_18 rfl (L2_s0 hL) (L2_p0_4 hL) ?_
    refine ar_iload_n X dX2_shareOf_12 rfl 1 rfl ?_
    refine ar_iald X dX2_shareOf_13 (L2_s3 hL) hf (fun hf => ?_)
    obtain ⟨r3, h3, hf⟩ := am_b1_e hf
    refine ar_cSi (As := [.int (I (o + 3) (Int32.toNatClampNeg a1))]) (st := []) X dX2_shareOf_14 (am_J6_bitCount_0f7a4 h3) lk_X2_58 mt_J6_bitCount_0f7a4 ms_J6_bitCount_0f7a4 rfl (Nat.le_of_ble_eq_true rfl) ⟨by decide, by decide⟩ ⟨Nat.zero_le _, Nat.zero_le _⟩ rfl ?_
    refine ar_goto (tgt := 21) X dX2_shareOf_17 (by decide) ?_
    exact ab_X2_shareOf_b21 X hL hR a1 r3 hf
def f_X2_ownedOfColour_h5 (o : Nat) : Nat → Int32 → Int32 → Int32 → Int32 → aI → Option Int32
  | 0, _, _, _, _, _ => none
  | n + 1, l1, l2, l3, l4, I =>
    if (I o 1) ≤ l4 then (
      some l3)
    else (
      am_b1 (f_X2_owns o l1 l4 I) fun r2 =>
      if r2 = 0 then (
        f_X2_ownedOfColour_h5 o n l1 l2 l3 (l4 + 1) I)
      else (
        am_g (am_ok l4 12) (
        if (I (o + 1) (Int32.toNatClampNeg l4)) = l2 then (
          f_X2_ownedOfColour_h5 o n l1 l2 (l3 + 1) (l4 + 1) I)
        else (
          f_X2_ownedOfColour_h5 o n l1 l2 l3 (l4 + 1) I))))
set_option maxRecDepth 100000 in
set_option maxHeartbeats 4000000 in
theorem ab_X2_ownedOfColour_h5 {K : aK} {sh : aS} {P : aP} {I : aI} {J : aJ} {o : Nat} (X : am_C K cX2_ownedOfColour 5 RX2 "ownedOfColour" ({ frames := 1, cells := 0, slots := 0, locals := 22 } : Room)) (hL : L2 sh P o) {r : Int32} (hR : am_R K (some .int) (some (.int r)) sh P I J 0 0) : ∀ (n : Nat) (l1 : Int32) (l2 : Int32) (l3 : Int32) (l4 : Int32) , f_X2_ownedOfColour_h5 o n l1 l2 l3 l4 I = some r → AW K 5 5 [(0, .ref o), (1, .int l1), (2, .int l2), (3, .int l3), (4, .int l4)] [] sh P I J 0 0 := by
  intro n
  induction n with
  | zero =>
    intro l1 l2 l3 l4 hf
    cases hf
  | succ n ih =>
    intro l1 l2 l3 l4 hf
    rw [f_X2_ownedOfColour_h5] at hf
    refine ar_iload X dX2_ownedOfColour_5 4 rfl ?_
    refine ar_aload_n X dX2_ownedOfColour_7 rfl 0 rfl ?_
    refine ar_geti X dX2_ownedOfColour_8 fg_X2_28 rfl (L2_s0 hL) ?_
    refine ar_icmp_ge (tgt := 44) X dX2_ownedOfColour_11 (by decide) hf (fun h1 hf => ?_) (fun h1 hf => ?_)
    · refine ar_iload_n X dX2_ownedOfColour_44 rfl 3 rfl ?_
      cases hf
      exact ar_iret X dX2_ownedOfColour_45 hR (Nat.le_refl _) (Nat.le_refl _)
    · refine ar_aload_n X dX2_ownedOfColour_14 rfl 0 rfl ?_
      refine ar_iload_n X dX2_ownedOfColour_15 rfl 1 rfl ?_
      refine ar_iload X dX2_ownedOfColour_16 4 rfl ?_
      obtain ⟨r2, h2, hf⟩ := am_b1_e hf
      refine ar_cVi (As := [.int l1, .int l4]) (st := []) X dX2_ownedOfColour_18 (am_X2_owns hL h2) lk_X2_47 mt_X2_owns mi_X2_owns (L2_s0 hL) rfl rfl (Nat.le_of_ble_eq_true rfl) ⟨by decide, by decide⟩ ⟨Nat.zero_le _, Nat.zero_le _⟩ rfl ?_
      refine ar_if_eq (tgt := 38) X dX2_ownedOfColour_21 (by decide) hf (fun h3 hf => ?_) (fun h3 hf => ?_)
      · refine ar_iinc (j := 4) (v := (l4 + 1)) X dX2_ownedOfColour_38 rfl rfl (by decide) rfl ?_
        refine ar_goto (tgt := 5) X dX2_ownedOfColour_41 (by decide) ?_
        refine ar_lo [1, 2, 3, 4, 0] rfl ?_
        exact ih l1 l2 l3 (l4 + 1) hf
      · refine ar_aload_n X dX2_ownedOfColour_24 rfl 0 rfl ?_
        refine ar_getr X dX2_ownedOfColour_25 fg_X2_9 rfl (L2_s0 hL) (L2_p0_2 hL) ?_
        refine ar_iload X dX2_ownedOfColour_28 4 rfl ?_
        refine ar_iald X dX2_ownedOfColour_30 (L2_s1 hL) hf (fun hf => ?_)
        refine ar_iload_n X dX2_ownedOfColour_31 rfl 2 rfl ?_
        refine ar_icmp_ne (tgt := 38) X dX2_ownedOfColour_32 (by decide) hf (fun h4 hf => ?_) (fun h4 hf => ?_)
        · refine ar_iinc (j := 3) (v := (l3 + 1)) X dX2_ownedOfColour_35 rfl rfl (by decide) rfl ?_
          refine ar_iinc (j := 4) (v := (l4 + 1)) X dX2_ownedOfColour_38 rfl rfl (by decide) rfl ?_
          refine ar_goto (tgt := 5) X dX2_ownedOfColour_41 (by decide) ?_
          refine ar_lo [2, 3, 4, 1, 0] rfl ?_
          exact ih l1 l2 (l3 + 1) (l4 + 1) hf
        · refine ar_iinc (j := 4) (v := (l4 + 1)) X dX2_ownedOfColour_38 rfl rfl (by decide) rfl ?_
          refine ar_goto (tgt := 5) X dX2_ownedOfColour_41 (by decide) ?_
          refine ar_lo [1, 2, 3, 4, 0] rfl ?_
          exact ih l1 l2 l3 (l4 + 1) hf
def f_X2_ownedOfColour (o : Nat) (a1 : Int32) (a2 : Int32) (I : aI) : Option Int32 :=
  f_X2_ownedOfColour_h5 o am_F a1 a2 (0 : Int32) (0 : Int32) I
set_option maxRecDepth 100000 in
set_option maxHeartbeats 4000000 in
theorem am_X2_ownedOfColour {sh : aS} {P : aP} {I : aI} {J : aJ} {o : Nat} (hL : L2 sh P o) {a1 : Int32} {a2 : Int32} {r : Int32} (hf : f_X2_ownedOfColour o a1 a2 I = some r) : AM yX2_ownedOfColour cX2_ownedOfColour 5 (some .int) 1 22 [.ref o, .int a1, .int a2] sh P I J (some (.int r)) sh P I J 0 0 := by
  refine am_met (by decide +kernel) (Nat.le_of_ble_eq_true rfl) (fun K X hR => ?_)
  have X : am_C K cX2_ownedOfColour 5 RX2 "ownedOfColour" ({ frames := 1, cells := 0, slots := 0, locals := 22 } : Room) := X
  show AW K 5 0 [(0, .ref o), (1, .int a1), (2, .int a2)] [] sh P I J 0 0
  unfold f_X2_ownedOfColour at hf
  refine ar_iconst (v := 0) X dX2_ownedOfColour_0 (by decide) ?_
  refine ar_istore_n X dX2_ownedOfColour_1 rfl (by decide) rfl ?_
  refine ar_iconst (v := 0) X dX2_ownedOfColour_2 (by decide) ?_
  refine ar_istore X dX2_ownedOfColour_3 (by decide) rfl ?_
  refine ar_lo [2, 3, 4, 1, 0] rfl ?_
  exact ab_X2_ownedOfColour_h5 X hL hR am_F a1 a2 (0 : Int32) (0 : Int32) hf
def f_X2_valueFor_b94 (o : Nat) (l3 : Int32) (l4 : Int32) (l5 : Int32) (I : aI) : Option Int32 :=
  if l5 < (4 : Int32) then (
    some l4)
  else (
    some (l4 + l3))
set_option maxRecDepth 100000 in
set_option maxHeartbeats 4000000 in
theorem ab_X2_valueFor_b94 {K : aK} {sh : aS} {P : aP} {I : aI} {J : aJ} {o : Nat} (X : am_C K cX2_valueFor 8 RX2 "valueFor" ({ frames := 2, cells := 0, slots := 0, locals := 46 } : Room)) (hL : L2 sh P o) {r : Int32} (hR : am_R K (some .int) (some (.int r)) sh P I J 0 0) (l3 : Int32) (l4 : Int32) (l5 : Int32) (hf : f_X2_valueFor_b94 o l3 l4 l5 I = some r) : AW K 8 94 [(3, .int l3), (4, .int l4), (5, .int l5)] [] sh P I J 0 0 := by
  unfold f_X2_valueFor_b94 at hf
  refine ar_iload X dX2_valueFor_94 2 rfl ?_
  refine ar_iconst (v := 4) X dX2_valueFor_96 (by decide) ?_
  refine ar_icmp_lt (tgt := 107) X dX2_valueFor_97 (by decide) hf (fun h1 hf => ?_) (fun h1 hf => ?_)
  · refine ar_iload X dX2_valueFor_107 1 rfl ?_
    cases hf
    exact ar_iret X dX2_valueFor_109 hR (Nat.le_refl _) (Nat.le_refl _)
  · refine ar_iload X dX2_valueFor_100 1 rfl ?_
    refine ar_iload_n X dX2_valueFor_102 rfl 0 rfl ?_
    refine ar_iadd X dX2_valueFor_103 ?_
    refine ar_goto (tgt := 109) X dX2_valueFor_104 (by decide) ?_
    cases hf
    exact ar_iret X dX2_valueFor_109 hR (Nat.le_refl _) (Nat.le_refl _)
def f_X2_valueFor_h48 (o : Nat) : Nat → Int32 → Int32 → Int32 → Int32 → Int32 → Int32 → aI → Option Int32
  | 0, _, _, _, _, _, _, _ => none
  | n + 1, l1, l2, l3, l4, l5, l6, I =>
    if (6 : Int32) ≤ l6 then (
      f_X2_valueFor_b94 o l3 l4 l5 I)
    else (
      am_b1 (f_X2_ownedOfColour o l1 l6 I) fun r2 =>
      am_g (decide (¬ (2 : Int32) = 0)) (
      am_let (l4 + (((l2 * r2) * (r2 - (1 : Int32))) / (2 : Int32))) fun x4 =>
      if r2 ≤ 0 then (
        f_X2_valueFor_h48 o n l1 l2 l3 x4 l5 (l6 + 1) I)
      else (
        f_X2_valueFor_h48 o n l1 l2 l3 x4 (l5 + 1) (l6 + 1) I)))
set_option maxRecDepth 100000 in
set_option maxHeartbeats 4000000 in
theorem ab_X2_valueFor_h48 {K : aK} {sh : aS} {P : aP} {I : aI} {J : aJ} {o : Nat} (X : am_C K cX2_valueFor 8 RX2 "valueFor" ({ frames := 2, cells := 0, slots := 0, locals := 46 } : Room)) (hL : L2 sh P o) {r : Int32} (hR : am_R K (some .int) (some (.int r)) sh P I J 0 0) : ∀ (n : Nat) (l1 : Int32) (l2 : Int32) (l3 : Int32) (l4 : Int32) (l5 : Int32) (l6 : Int32) , f_X2_valueFor_h48 o n l1 l2 l3 l4 l5 l6 I = some r → AW K 8 48 [(0, .ref o), (1, .int l1), (2, .int l2), (3, .int l3), (4, .int l4), (5, .int l5), (6, .int l6)] [] sh P I J 0 0 := by
  intro n
  induction n with
  | zero =>
    intro l1 l2 l3 l4 l5 l6 hf
    cases hf
  | succ n ih =>
    intro l1 l2 l3 l4 l5 l6 hf
    rw [f_X2_valueFor_h48] at hf
    refine ar_iload X dX2_valueFor_48 6 rfl ?_
    refine ar_bipush (v := 6) X dX2_valueFor_50 (by decide) ?_
    refine ar_icmp_ge (tgt := 94) X dX2_valueFor_52 (by decide) hf (fun h1 hf => ?_) (fun h1 hf => ?_)
    · refine ar_lo [3, 4, 5] rfl ?_
      exact ab_X2_valueFor_b94 X hL hR l3 l4 l5 hf
    · refine ar_aload_n X dX2_valueFor_55 rfl 0 rfl ?_
      refine ar_iload_n X dX2_valueFor_56 rfl 1 rfl ?_
      refine ar_iload X dX2_valueFor_57 6 rfl ?_
      obtain ⟨r2, h2, hf⟩ := am_b1_e hf
      refine ar_cVi (As := [.int l1, .int l6]) (st := []) X dX2_valueFor_59 (am_X2_ownedOfColour hL h2) lk_X2_54 mt_X2_ownedOfColour mi_X2_ownedOfColour (L2_s0 hL) rfl rfl (Nat.le_of_ble_eq_true rfl) ⟨by decide, by decide⟩ ⟨Nat.zero_le _, Nat.zero_le _⟩ rfl ?_
      refine ar_istore X dX2_valueFor_62 (by decide) rfl ?_
      refine ar_iload X dX2_valueFor_64 5 rfl ?_
      refine ar_iload_n X dX2_valueFor_66 rfl 3 rfl ?_
      refine ar_iload X dX2_valueFor_67 0 rfl ?_
      refine ar_imul X dX2_valueFor_69 ?_
      refine ar_iload X dX2_valueFor_70 0 rfl ?_
      refine ar_iconst (v := 1) X dX2_valueFor_72 (by decide) ?_
      refine ar_isub X dX2_valueFor_73 ?_
      refine ar_imul X dX2_valueFor_74 ?_
      refine ar_iconst (v := 2) X dX2_valueFor_75 (by decide) ?_
      obtain ⟨h3, hf⟩ := am_g_elim hf
      refine ar_idiv X dX2_valueFor_76 h3 ?_
      refine ar_iadd X dX2_valueFor_77 ?_
      refine ar_letI hf (fun x4 hf => ?_)
      refine ar_istore X dX2_valueFor_78 (by decide) rfl ?_
      refine ar_iload X dX2_valueFor_80 1 rfl ?_
      refine ar_if_le (tgt := 88) X dX2_valueFor_82 (by decide) hf (fun h5 hf => ?_) (fun h5 hf => ?_)
      · refine ar_iinc (j := 7) (v := (l6 + 1)) X dX2_valueFor_88 rfl rfl (by decide) rfl ?_
        refine ar_goto (tgt := 48) X dX2_valueFor_91 (by decide) ?_
        refine ar_lo [3, 4, 5, 6, 1, 7, 0] rfl ?_
        exact ih l1 l2 l3 x4 l5 (l6 + 1) hf
      · refine ar_iinc (j := 6) (v := (l5 + 1)) X dX2_valueFor_85 rfl rfl (by decide) rfl ?_
        refine ar_iinc (j := 7) (v := (l6 + 1)) X dX2_valueFor_88 rfl rfl (by decide) rfl ?_
        refine ar_goto (tgt := 48) X dX2_valueFor_91 (by decide) ?_
        refine ar_lo [4, 5, 6, 7, 2, 1, 0] rfl ?_
        exact ih l1 l2 l3 x4 (l5 + 1) (l6 + 1) hf
def f_X2_valueFor_h9 (o : Nat) : Nat → Int32 → Int32 → Int32 → Int32 → Int32 → Int32 → aI → Option Int32
  | 0, _, _, _, _, _, _, _ => none
  | n + 1, l1, l2, l3, l4, l5, l6, I =>
    if (I o 1) ≤ l6 then (
      f_X2_valueFor_h48 o am_F l1 l2 l3 l4 l5 (0 : Int32) I)
    else (
      am_b1 (f_X2_owns o l1 l6 I) fun r2 =>
      if r2 = 0 then (
        f_X2_valueFor_h9 o n l1 l2 l3 l4 l5 (l6 + 1) I)
      else (
        am_b1 (f_X2_shareOf o l6 I) fun r4 =>
        am_let (l4 + r4) fun x5 =>
        f_X2_valueFor_h9 o n l1 l2 l3 x5 l5 (l6 + 1) I))
set_option maxRecDepth 100000 in
set_option maxHeartbeats 4000000 in
theorem ab_X2_valueFor_h9 {K : aK} {sh : aS} {P : aP} {I : aI} {J : aJ} {o : Nat} (X : am_C K cX2_valueFor 8 RX2 "valueFor" ({ frames := 2, cells := 0, slots := 0, locals := 46 } : Room)) (hL : L2 sh P o) {r : Int32} (hR : am_R K (some .int) (some (.int r)) sh P I J 0 0) : ∀ (n : Nat) (l1 : Int32) (l2 : Int32) (l3 : Int32) (l4 : Int32) (l5 : Int32) (l6 : Int32) , f_X2_valueFor_h9 o n l1 l2 l3 l4 l5 l6 I = some r → AW K 8 9 [(0, .ref o), (1, .int l1), (2, .int l2), (3, .int l3), (4, .int l4), (5, .int l5), (6, .int l6)] [] sh P I J 0 0 := by
  intro n
  induction n with
  | zero =>
    intro l1 l2 l3 l4 l5 l6 hf
    cases hf
  | succ n ih =>
    intro l1 l2 l3 l4 l5 l6 hf
    rw [f_X2_valueFor_h9] at hf
    refine ar_iload X dX2_valueFor_9 6 rfl ?_
    refine ar_aload_n X dX2_valueFor_11 rfl 0 rfl ?_
    refine ar_geti X dX2_valueFor_12 fg_X2_28 rfl (L2_s0 hL) ?_
    refine ar_icmp_ge (tgt := 45) X dX2_valueFor_15 (by decide) hf (fun h1 hf => ?_) (fun h1 hf => ?_)
    · refine ar_iconst (v := 0) X dX2_valueFor_45 (by decide) ?_
      refine ar_istore X dX2_valueFor_46 (by decide) rfl ?_
      refine ar_lo [1, 2, 3, 4, 5, 6, 0] rfl ?_
      exact ab_X2_valueFor_h48 X hL hR am_F l1 l2 l3 l4 l5 (0 : Int32) hf
    · refine ar_aload_n X dX2_valueFor_18 rfl 0 rfl ?_
      refine ar_iload_n X dX2_valueFor_19 rfl 1 rfl ?_
      refine ar_iload X dX2_valueFor_20 6 rfl ?_
      obtain ⟨r2, h2, hf⟩ := am_b1_e hf
      refine ar_cVi (As := [.int l1, .int l6]) (st := []) X dX2_valueFor_22 (am_X2_owns hL h2) lk_X2_47 mt_X2_owns mi_X2_owns (L2_s0 hL) rfl rfl (Nat.le_of_ble_eq_true rfl) ⟨by decide, by decide⟩ ⟨Nat.zero_le _, Nat.zero_le _⟩ rfl ?_
      refine ar_if_eq (tgt := 39) X dX2_valueFor_25 (by decide) hf (fun h3 hf => ?_) (fun h3 hf => ?_)
      · refine ar_iinc (j := 6) (v := (l6 + 1)) X dX2_valueFor_39 rfl rfl (by decide) rfl ?_
        refine ar_goto (tgt := 9) X dX2_valueFor_42 (by decide) ?_
        refine ar_lo [1, 2, 3, 4, 5, 6, 0] rfl ?_
        exact ih l1 l2 l3 l4 l5 (l6 + 1) hf
      · refine ar_iload X dX2_valueFor_28 4 rfl ?_
        refine ar_aload_n X dX2_valueFor_30 rfl 0 rfl ?_
        refine ar_iload X dX2_valueFor_31 6 rfl ?_
        obtain ⟨r4, h4, hf⟩ := am_b1_e hf
        refine ar_cVi (As := [.int l6]) (st := [.int l4]) X dX2_valueFor_33 (am_X2_shareOf hL h4) lk_X2_51 mt_X2_shareOf mi_X2_shareOf (L2_s0 hL) rfl rfl (Nat.le_of_ble_eq_true rfl) ⟨by decide, by decide⟩ ⟨Nat.zero_le _, Nat.zero_le _⟩ rfl ?_
        refine ar_iadd X dX2_valueFor_36 ?_
        refine ar_letI hf (fun x5 hf => ?_)
        refine ar_istore X dX2_valueFor_37 (by decide) rfl ?_
        refine ar_iinc (j := 6) (v := (l6 + 1)) X dX2_valueFor_39 rfl rfl (by decide) rfl ?_
        refine ar_goto (tgt := 9) X dX2_valueFor_42 (by decide) ?_
        refine ar_lo [2, 3, 4, 5, 1, 6, 0] rfl ?_
        exact ih l1 l2 l3 x5 l5 (l6 + 1) hf
def f_X2_valueFor (o : Nat) (a1 : Int32) (a2 : Int32) (a3 : Int32) (I : aI) : Option Int32 :=
  f_X2_valueFor_h9 o am_F a1 a2 a3 (0 : Int32) (0 : Int32) (0 : Int32) I
set_option maxRecDepth 100000 in
set_option maxHeartbeats 4000000 in
theorem am_X2_valueFor {sh : aS} {P : aP} {I : aI} {J : aJ} {o : Nat} (hL : L2 sh P o) {a1 : Int32} {a2 : Int32} {a3 : Int32} {r : Int32} (hf : f_X2_valueFor o a1 a2 a3 I = some r) : AM yX2_valueFor cX2_valueFor 8 (some .int) 2 46 [.ref o, .int a1, .int a2, .int a3] sh P I J (some (.int r)) sh P I J 0 0 := by
  refine am_met (by decide +kernel) (Nat.le_of_ble_eq_true rfl) (fun K X hR => ?_)
  have X : am_C K cX2_valueFor 8 RX2 "valueFor" ({ frames := 2, cells := 0, slots := 0, locals := 46 } : Room) := X
  show AW K 8 0 [(0, .ref o), (1, .int a1), (2, .int a2), (3, .int a3)] [] sh P I J 0 0
  unfold f_X2_valueFor at hf
  refine ar_iconst (v := 0) X dX2_valueFor_0 (by decide) ?_
  refine ar_istore X dX2_valueFor_1 (by decide) rfl ?_
  refine ar_iconst (v := 0) X dX2_valueFor_3 (by decide) ?_
  refine ar_istore X dX2_valueFor_4 (by decide) rfl ?_
  refine ar_iconst (v := 0) X dX2_valueFor_6 (by decide) ?_
  refine ar_istore X dX2_valueFor_7 (by decide) rfl ?_
  refine ar_lo [3, 4, 5, 6, 2, 1, 0] rfl ?_
  exact ab_X2_valueFor_h9 X hL hR am_F a1 a2 a3 (0 : Int32) (0 : Int32) (0 : Int32) hf
def f_X1_valueOf (o : Nat) (a1 : Int32) (I : aI) : Option Int32 :=
  am_b1 (f_X1_settingOf o (3 : Int32) I) fun r1 =>
  am_b1 (f_X1_settingOf o (4 : Int32) I) fun r2 =>
  am_b1 (f_X2_valueFor (o + 8) a1 r1 r2 I) fun r3 =>
  some r3
set_option maxRecDepth 100000 in
set_option maxHeartbeats 4000000 in
theorem am_X1_valueOf {sh : aS} {P : aP} {I : aI} {J : aJ} {o : Nat} (hL : L1 sh P o) {a1 : Int32} {r : Int32} (hf : f_X1_valueOf o a1 I = some r) : AM yX1_valueOf cX1_valueOf 2 (some .int) 3 73 [.ref o, .int a1] sh P I J (some (.int r)) sh P I J 0 0 := by
  refine am_met (by decide +kernel) (Nat.le_of_ble_eq_true rfl) (fun K X hR => ?_)
  have X : am_C K cX1_valueOf 2 RX1 "valueOf" ({ frames := 3, cells := 0, slots := 0, locals := 73 } : Room) := X
  show AW K 2 0 [(0, .ref o), (1, .int a1)] [] sh P I J 0 0
  unfold f_X1_valueOf at hf
  refine ar_aload_n X dX1_valueOf_0 rfl 0 rfl ?_
  refine ar_getr X dX1_valueOf_1 fg_X1_33 rfl (L1_s0 hL) (L1_p0_2 hL) ?_
  refine ar_iload_n X dX1_valueOf_4 rfl 1 rfl ?_
  refine ar_aload_n X dX1_valueOf_5 rfl 0 rfl ?_
  refine ar_iconst (v := 3) X dX1_valueOf_6 (by decide) ?_
  obtain ⟨r1, h1, hf⟩ := am_b1_e hf
  refine ar_cVi (As := [.int (3 : Int32)]) (st := [.int a1, .ref (o + 8)]) X dX1_valueOf_7 (am_X1_settingOf hL h1) lk_X1_44 mt_X1_settingOf mi_X1_settingOf (L1_s0 hL) rfl rfl (Nat.le_of_ble_eq_true rfl) ⟨by decide, by decide⟩ ⟨Nat.zero_le _, Nat.zero_le _⟩ rfl ?_
  refine ar_aload_n X dX1_valueOf_10 rfl 0 rfl ?_
  refine ar_iconst (v := 4) X dX1_valueOf_11 (by decide) ?_
  obtain ⟨r2, h2, hf⟩ := am_b1_e hf
  refine ar_cVi (As := [.int (4 : Int32)]) (st := [.int r1, .int a1, .ref (o + 8)]) X dX1_valueOf_12 (am_X1_settingOf hL h2) lk_X1_44 mt_X1_settingOf mi_X1_settingOf (L1_s0 hL) rfl rfl (Nat.le_of_ble_eq_true rfl) ⟨by decide, by decide⟩ ⟨Nat.zero_le _, Nat.zero_le _⟩ rfl ?_
  obtain ⟨r3, h3, hf⟩ := am_b1_e hf
  refine ar_cVi (As := [.int a1, .int r1, .int r2]) (st := []) X dX1_valueOf_15 (am_X2_valueFor (L1_c8 hL) h3) lk_X1_230 mt_X2_valueFor mi_X2_valueFor (L1_s8 hL) rfl rfl (Nat.le_of_ble_eq_true rfl) ⟨by decide, by decide⟩ ⟨Nat.zero_le _, Nat.zero_le _⟩ rfl ?_
  cases hf
  exact ar_iret X dX1_valueOf_18 hR (Nat.le_refl _) (Nat.le_refl _)
def f_X1_scoreOf (o : Nat) (a1 : Int32) (I : aI) : Option Int32 :=
  am_b1 (f_X1_settingOf o (5 : Int32) I) fun r1 =>
  am_b1 (f_X1_valueOf o a1 I) fun r2 =>
  if r1 ≤ 0 then (
    some (r2 + (0 : Int32)))
  else (
    am_b1 (f_X4_amountOf (o + 2) a1 I) fun r4 =>
    am_g (decide (¬ r1 = 0)) (
    some (r2 + (r4 / r1))))
set_option maxRecDepth 100000 in
set_option maxHeartbeats 4000000 in
theorem am_X1_scoreOf {sh : aS} {P : aP} {I : aI} {J : aJ} {o : Nat} (hL : L1 sh P o) {a1 : Int32} {r : Int32} (hf : f_X1_scoreOf o a1 I = some r) : AM yX1_scoreOf cX1_scoreOf 3 (some .int) 4 94 [.ref o, .int a1] sh P I J (some (.int r)) sh P I J 0 0 := by
  refine am_met (by decide +kernel) (Nat.le_of_ble_eq_true rfl) (fun K X hR => ?_)
  have X : am_C K cX1_scoreOf 3 RX1 "scoreOf" ({ frames := 4, cells := 0, slots := 0, locals := 94 } : Room) := X
  show AW K 3 0 [(0, .ref o), (1, .int a1)] [] sh P I J 0 0
  unfold f_X1_scoreOf at hf
  refine ar_aload_n X dX1_scoreOf_0 rfl 0 rfl ?_
  refine ar_iconst (v := 5) X dX1_scoreOf_1 (by decide) ?_
  obtain ⟨r1, h1, hf⟩ := am_b1_e hf
  refine ar_cVi (As := [.int (5 : Int32)]) (st := []) X dX1_scoreOf_2 (am_X1_settingOf hL h1) lk_X1_44 mt_X1_settingOf mi_X1_settingOf (L1_s0 hL) rfl rfl (Nat.le_of_ble_eq_true rfl) ⟨by decide, by decide⟩ ⟨Nat.zero_le _, Nat.zero_le _⟩ rfl ?_
  refine ar_istore_n X dX1_scoreOf_5 rfl (by decide) rfl ?_
  refine ar_aload_n X dX1_scoreOf_6 rfl 1 rfl ?_
  refine ar_iload_n X dX1_scoreOf_7 rfl 2 rfl ?_
  obtain ⟨r2, h2, hf⟩ := am_b1_e hf
  refine ar_cVi (As := [.int a1]) (st := []) X dX1_scoreOf_8 (am_X1_valueOf hL h2) lk_X1_233 mt_X1_valueOf mi_X1_valueOf (L1_s0 hL) rfl rfl (Nat.le_of_ble_eq_true rfl) ⟨by decide, by decide⟩ ⟨Nat.zero_le _, Nat.zero_le _⟩ rfl ?_
  refine ar_iload_n X dX1_scoreOf_11 rfl 0 rfl ?_
  refine ar_if_le (tgt := 28) X dX1_scoreOf_12 (by decide) hf (fun h3 hf => ?_) (fun h3 hf => ?_)
  · refine ar_iconst (v := 0) X dX1_scoreOf_28 (by decide) ?_
    refine ar_iadd X dX1_scoreOf_29 ?_
    cases hf
    exact ar_iret X dX1_scoreOf_30 hR (Nat.le_refl _) (Nat.le_refl _)
  · refine ar_aload_n X dX1_scoreOf_15 rfl 1 rfl ?_
    refine ar_getr X dX1_scoreOf_16 fg_X1_26 rfl (L1_s0 hL) (L1_p0_1 hL) ?_
    refine ar_iload_n X dX1_scoreOf_19 rfl 2 rfl ?_
    obtain ⟨r4, h4, hf⟩ := am_b1_e hf
    refine ar_cVi (As := [.int a1]) (st := [.int r2]) X dX1_scoreOf_20 (am_X4_amountOf (L1_c2 hL) h4) lk_X1_180 mt_X4_amountOf mi_X4_amountOf (L1_s2 hL) rfl rfl (Nat.le_of_ble_eq_true rfl) ⟨by decide, by decide⟩ ⟨Nat.zero_le _, Nat.zero_le _⟩ rfl ?_
    refine ar_iload_n X dX1_scoreOf_23 rfl 0 rfl ?_
    obtain ⟨h5, hf⟩ := am_g_elim hf
    refine ar_idiv X dX1_scoreOf_24 h5 ?_
    refine ar_goto (tgt := 29) X dX1_scoreOf_25 (by decide) ?_
    refine ar_iadd X dX1_scoreOf_29 ?_
    cases hf
    exact ar_iret X dX1_scoreOf_30 hR (Nat.le_refl _) (Nat.le_refl _)
def f_X1_placeOf_h11 (o : Nat) : Nat → Int32 → Int32 → Int32 → Int32 → aI → Option Int32
  | 0, _, _, _, _, _ => none
  | n + 1, l1, l2, l3, l4, I =>
    if (I (o + 2) 0) ≤ l4 then (
      some l3)
    else (
      am_b1 (f_X1_scoreOf o l4 I) fun r2 =>
      if l2 < r2 then (
        f_X1_placeOf_h11 o n l1 l2 (l3 + 1) (l4 + 1) I)
      else (
        if r2 = l2 then (
          if l1 ≤ l4 then (
            f_X1_placeOf_h11 o n l1 l2 l3 (l4 + 1) I)
          else (
            f_X1_placeOf_h11 o n l1 l2 (l3 + 1) (l4 + 1) I))
        else (
          f_X1_placeOf_h11 o n l1 l2 l3 (l4 + 1) I)))
set_option maxRecDepth 100000 in
set_option maxHeartbeats 4000000 in
theorem ab_X1_placeOf_h11 {K : aK} {sh : aS} {P : aP} {I : aI} {J : aJ} {o : Nat} (X : am_C K cX1_placeOf 6 RX1 "placeOf" ({ frames := 5, cells := 0, slots := 0, locals := 116 } : Room)) (hL : L1 sh P o) {r : Int32} (hR : am_R K (some .int) (some (.int r)) sh P I J 0 0) : ∀ (n : Nat) (l1 : Int32) (l2 : Int32) (l3 : Int32) (l4 : Int32) , f_X1_placeOf_h11 o n l1 l2 l3 l4 I = some r → AW K 6 11 [(0, .ref o), (1, .int l1), (2, .int l2), (3, .int l3), (4, .int l4)] [] sh P I J 0 0 := by
  intro n
  induction n with
  | zero =>
    intro l1 l2 l3 l4 hf
    cases hf
  | succ n ih =>
    intro l1 l2 l3 l4 hf
    rw [f_X1_placeOf_h11] at hf
    refine ar_iload X dX1_placeOf_11 4 rfl ?_
    refine ar_aload_n X dX1_placeOf_13 rfl 0 rfl ?_
    refine ar_getr X dX1_placeOf_14 fg_X1_26 rfl (L1_s0 hL) (L1_p0_1 hL) ?_
    refine ar_geti X dX1_placeOf_17 fg_X1_82 rfl (L1_s2 hL) ?_
    refine ar_icmp_ge (tgt := 58) X dX1_placeOf_20 (by decide) hf (fun h1 hf => ?_) (fun h1 hf => ?_)
    · refine ar_iload_n X dX1_placeOf_58 rfl 3 rfl ?_
      cases hf
      exact ar_iret X dX1_placeOf_59 hR (Nat.le_refl _) (Nat.le_refl _)
    · refine ar_aload_n X dX1_placeOf_23 rfl 0 rfl ?_
      refine ar_iload X dX1_placeOf_24 4 rfl ?_
      obtain ⟨r2, h2, hf⟩ := am_b1_e hf
      refine ar_cVi (As := [.int l4]) (st := []) X dX1_placeOf_26 (am_X1_scoreOf hL h2) lk_X1_236 mt_X1_scoreOf mi_X1_scoreOf (L1_s0 hL) rfl rfl (Nat.le_of_ble_eq_true rfl) ⟨by decide, by decide⟩ ⟨Nat.zero_le _, Nat.zero_le _⟩ rfl ?_
      refine ar_istore X dX1_placeOf_29 (by decide) rfl ?_
      refine ar_iload X dX1_placeOf_31 0 rfl ?_
      refine ar_iload_n X dX1_placeOf_33 rfl 3 rfl ?_
      refine ar_icmp_gt (tgt := 49) X dX1_placeOf_34 (by decide) hf (fun h3 hf => ?_) (fun h3 hf => ?_)
      · refine ar_iinc (j := 4) (v := (l3 + 1)) X dX1_placeOf_49 rfl rfl (by decide) rfl ?_
        refine ar_iinc (j := 5) (v := (l4 + 1)) X dX1_placeOf_52 rfl rfl (by decide) rfl ?_
        refine ar_goto (tgt := 11) X dX1_placeOf_55 (by decide) ?_
        refine ar_lo [3, 4, 5, 1, 0] rfl ?_
        exact ih l1 l2 (l3 + 1) (l4 + 1) hf
      · refine ar_iload X dX1_placeOf_37 0 rfl ?_
        refine ar_iload_n X dX1_placeOf_39 rfl 3 rfl ?_
        refine ar_icmp_ne (tgt := 52) X dX1_placeOf_40 (by decide) hf (fun h4 hf => ?_) (fun h4 hf => ?_)
        · refine ar_iload X dX1_placeOf_43 5 rfl ?_
          refine ar_iload_n X dX1_placeOf_45 rfl 2 rfl ?_
          refine ar_icmp_ge (tgt := 52) X dX1_placeOf_46 (by decide) hf (fun h5 hf => ?_) (fun h5 hf => ?_)
          · refine ar_iinc (j := 5) (v := (l4 + 1)) X dX1_placeOf_52 rfl rfl (by decide) rfl ?_
            refine ar_goto (tgt := 11) X dX1_placeOf_55 (by decide) ?_
            refine ar_lo [2, 3, 4, 5, 0] rfl ?_
            exact ih l1 l2 l3 (l4 + 1) hf
          · refine ar_iinc (j := 4) (v := (l3 + 1)) X dX1_placeOf_49 rfl rfl (by decide) rfl ?_
            refine ar_iinc (j := 5) (v := (l4 + 1)) X dX1_placeOf_52 rfl rfl (by decide) rfl ?_
            refine ar_goto (tgt := 11) X dX1_placeOf_55 (by decide) ?_
            refine ar_lo [3, 4, 5, 1, 0] rfl ?_
            exact ih l1 l2 (l3 + 1) (l4 + 1) hf
        · refine ar_iinc (j := 5) (v := (l4 + 1)) X dX1_placeOf_52 rfl rfl (by decide) rfl ?_
          refine ar_goto (tgt := 11) X dX1_placeOf_55 (by decide) ?_
          refine ar_lo [2, 3, 4, 5, 0] rfl ?_
          exact ih l1 l2 l3 (l4 + 1) hf
def f_X1_placeOf (o : Nat) (a1 : Int32) (I : aI) : Option Int32 :=
  am_b1 (f_X1_scoreOf o a1 I) fun r1 =>
  f_X1_placeOf_h11 o am_F a1 r1 (1 : Int32) (0 : Int32) I
set_option maxRecDepth 100000 in
set_option maxHeartbeats 4000000 in
theorem am_X1_placeOf {sh : aS} {P : aP} {I : aI} {J : aJ} {o : Nat} (hL : L1 sh P o) {a1 : Int32} {r : Int32} (hf : f_X1_placeOf o a1 I = some r) : AM yX1_placeOf cX1_placeOf 6 (some .int) 5 116 [.ref o, .int a1] sh P I J (some (.int r)) sh P I J 0 0 := by
  refine am_met (by decide +kernel) (Nat.le_of_ble_eq_true rfl) (fun K X hR => ?_)
  have X : am_C K cX1_placeOf 6 RX1 "placeOf" ({ frames := 5, cells := 0, slots := 0, locals := 116 } : Room) := X
  show AW K 6 0 [(0, .ref o), (1, .int a1)] [] sh P I J 0 0
  unfold f_X1_placeOf at hf
  refine ar_aload_n X dX1_placeOf_0 rfl 0 rfl ?_
  refine ar_iload_n X dX1_placeOf_1 rfl 1 rfl ?_
  obtain ⟨r1, h1, hf⟩ := am_b1_e hf
  refine ar_cVi (As := [.int a1]) (st := []) X dX1_placeOf_2 (am_X1_scoreOf hL h1) lk_X1_236 mt_X1_scoreOf mi_X1_scoreOf (L1_s0 hL) rfl rfl (Nat.le_of_ble_eq_true rfl) ⟨by decide, by decide⟩ ⟨Nat.zero_le _, Nat.zero_le _⟩ rfl ?_
  refine ar_istore_n X dX1_placeOf_5 rfl (by decide) rfl ?_
  refine ar_iconst (v := 1) X dX1_placeOf_6 (by decide) ?_
  refine ar_istore_n X dX1_placeOf_7 rfl (by decide) rfl ?_
  refine ar_iconst (v := 0) X dX1_placeOf_8 (by decide) ?_
  refine ar_istore X dX1_placeOf_9 (by decide) rfl ?_
  refine ar_lo [3, 4, 2, 1, 0] rfl ?_
  exact ab_X1_placeOf_h11 X hL hR am_F a1 r1 (1 : Int32) (0 : Int32) hf
def f_X4_startAnew_h12 (o : Nat) : Nat → Int32 → Int32 → aI → Option aI
  | 0, _, _, _ => none
  | n + 1, l2, l3, I =>
    if (6 : Int32) ≤ l3 then (
      some I)
    else (
      am_g (am_ok l3 6) (am_let (am_w I (o + 1) (Int32.toNatClampNeg l3) l2) fun I2 =>
      am_g (am_ok l3 6) (am_let (am_w I2 (o + 2) (Int32.toNatClampNeg l3) (10 : Int32)) fun I3 =>
      am_g (am_ok l3 6) (am_let (am_w I3 (o + 3) (Int32.toNatClampNeg l3) (0 : Int32)) fun I4 =>
      am_g (am_ok l3 6) (am_let (am_w I4 (o + 4) (Int32.toNatClampNeg l3) (0 : Int32)) fun I5 =>
      am_g (am_ok l3 6) (am_let (am_w I5 (o + 5) (Int32.toNatClampNeg l3) (300 : Int32)) fun I6 =>
      f_X4_startAnew_h12 o n l2 (l3 + 1) I6))))))
set_option maxRecDepth 100000 in
set_option maxHeartbeats 4000000 in
theorem ab_X4_startAnew_h12 {K : aK} {sh : aS} {P : aP} {J : aJ} {o : Nat} (X : am_C K cX4_startAnew 4 RX4 "startAnew" ({ frames := 1, cells := 0, slots := 0, locals := 26 } : Room)) (hL : L4 sh P o) {I9 : aI} (hR : am_R K none none sh P I9 J 0 0) : ∀ (n : Nat) (l2 : Int32) (l3 : Int32) (I : aI) , f_X4_startAnew_h12 o n l2 l3 I = some I9 → AW K 4 12 [(0, .ref o), (2, .int l2), (3, .int l3)] [] sh P I J 0 0 := by
  intro n
  induction n with
  | zero =>
    intro l2 l3 I hf
    cases hf
  | succ n ih =>
    intro l2 l3 I hf
    rw [f_X4_startAnew_h12] at hf
    refine ar_iload_n X dX4_startAnew_12 rfl 2 rfl ?_
    refine ar_bipush (v := 6) X dX4_startAnew_13 (by decide) ?_
    refine ar_icmp_ge (tgt := 62) X dX4_startAnew_15 (by decide) hf (fun h1 hf => ?_) (fun h1 hf => ?_)
    · cases hf
      exact ar_vret X dX4_startAnew_62 hR (Nat.le_refl _) (Nat.le_refl _)
    · refine ar_aload_n X dX4_startAnew_18 rfl 0 rfl ?_
      refine ar_getr X dX4_startAnew_19 fg_X4_15 rfl (L4_s0 hL) (L4_p0_1 hL) ?_
      refine ar_iload_n X dX4_startAnew_22 rfl 2 rfl ?_
      refine ar_iload_n X dX4_startAnew_23 rfl 1 rfl ?_
      refine ar_iast X dX4_startAnew_24 (L4_s1 hL) hf (fun I2 hf => ?_)
      refine ar_aload_n X dX4_startAnew_25 rfl 0 rfl ?_
      refine ar_getr X dX4_startAnew_26 fg_X4_19 rfl (L4_s0 hL) (L4_p0_2 hL) ?_
      refine ar_iload_n X dX4_startAnew_29 rfl 2 rfl ?_
      refine ar_bipush (v := 10) X dX4_startAnew_30 (by decide) ?_
      refine ar_iast X dX4_startAnew_32 (L4_s2 hL) hf (fun I3 hf => ?_)
      refine ar_aload_n X dX4_startAnew_33 rfl 0 rfl ?_
      refine ar_getr X dX4_startAnew_34 fg_X4_22 rfl (L4_s0 hL) (L4_p0_3 hL) ?_
      refine ar_iload_n X dX4_startAnew_37 rfl 2 rfl ?_
      refine ar_iconst (v := 0) X dX4_startAnew_38 (by decide) ?_
      refine ar_iast X dX4_startAnew_39 (L4_s3 hL) hf (fun I4 hf => ?_)
      refine ar_aload_n X dX4_startAnew_40 rfl 0 rfl ?_
      refine ar_getr X dX4_startAnew_41 fg_X4_25 rfl (L4_s0 hL) (L4_p0_4 hL) ?_
      refine ar_iload_n X dX4_startAnew_44 rfl 2 rfl ?_
      refine ar_iconst (v := 0) X dX4_startAnew_45 (by decide) ?_
      refine ar_iast X dX4_startAnew_46 (L4_s4 hL) hf (fun I5 hf => ?_)
      refine ar_aload_n X dX4_startAnew_47 rfl 0 rfl ?_
      refine ar_getr X dX4_startAnew_48 fg_X4_28 rfl (L4_s0 hL) (L4_p0_5 hL) ?_
      refine ar_iload_n X dX4_startAnew_51 rfl 2 rfl ?_
      refine ar_sipush (v := 300) X dX4_startAnew_52 (by decide) ?_
      refine ar_iast X dX4_startAnew_55 (L4_s5 hL) hf (fun I6 hf => ?_)
      refine ar_iinc (j := 2) (v := (l3 + 1)) X dX4_startAnew_56 rfl rfl (by decide) rfl ?_
      refine ar_goto (tgt := 12) X dX4_startAnew_59 (by decide) ?_
      refine ar_lo [1, 2, 0] rfl ?_
      exact ih l2 (l3 + 1) I6 hf
def f_X4_startAnew (o : Nat) (a1 : Int32) (a2 : Int32) (I : aI) : Option aI :=
  am_let (am_w I o 0 (am_min a1 (6 : Int32))) fun I1 =>
  f_X4_startAnew_h12 o am_F a2 (0 : Int32) I1
set_option maxRecDepth 100000 in
set_option maxHeartbeats 4000000 in
theorem am_X4_startAnew {sh : aS} {P : aP} {I : aI} {J : aJ} {o : Nat} (hL : L4 sh P o) {a1 : Int32} {a2 : Int32} {I9 : aI} (hf : f_X4_startAnew o a1 a2 I = some I9) : AM yX4_startAnew cX4_startAnew 4 none 1 26 [.ref o, .int a1, .int a2] sh P I J none sh P I9 J 0 0 := by
  refine am_met (by decide +kernel) (Nat.le_of_ble_eq_true rfl) (fun K X hR => ?_)
  have X : am_C K cX4_startAnew 4 RX4 "startAnew" ({ frames := 1, cells := 0, slots := 0, locals := 26 } : Room) := X
  show AW K 4 0 [(0, .ref o), (1, .int a1), (2, .int a2)] [] sh P I J 0 0
  unfold f_X4_startAnew at hf
  refine ar_aload_n X dX4_startAnew_0 rfl 0 rfl ?_
  refine ar_iload_n X dX4_startAnew_1 rfl 1 rfl ?_
  refine ar_bipush (v := 6) X dX4_startAnew_2 (by decide) ?_
  refine ar_min X dX4_startAnew_4 jm_min_X4_31 jm_min_s jm_i jm_min_c (by decide) (Nat.le_of_ble_eq_true rfl) ⟨Nat.zero_le _, Nat.zero_le _⟩ ?_
  refine ar_puti X dX4_startAnew_7 fd_X4_9 rfl ⟨rfl, rfl⟩ (L4_s0 hL) hf (fun I1 hf => ?_)
  refine ar_iconst (v := 0) X dX4_startAnew_10 (by decide) ?_
  refine ar_istore_n X dX4_startAnew_11 rfl (by decide) rfl ?_
  refine ar_lo [1, 3, 0] rfl ?_
  exact ab_X4_startAnew_h12 X hL hR am_F a2 (0 : Int32) I1 hf
def f_X2_clear (o : Nat)  (I : aI) : Option aI :=
  am_let (am_w I o 0 (0 : Int32)) fun I1 =>
  am_let (am_w I1 o 1 (0 : Int32)) fun I2 =>
  some I2
set_option maxRecDepth 100000 in
set_option maxHeartbeats 4000000 in
theorem am_X2_clear {sh : aS} {P : aP} {I : aI} {J : aJ} {o : Nat} (hL : L2 sh P o)  {I9 : aI} (hf : f_X2_clear o I = some I9) : AM yX2_clear cX2_clear 1 none 0 0 [.ref o] sh P I J none sh P I9 J 0 0 := by
  refine am_met (by decide +kernel) (Nat.le_of_ble_eq_true rfl) (fun K X hR => ?_)
  have X : am_C K cX2_clear 1 RX2 "clear" ({ frames := 0, cells := 0, slots := 0, locals := 0 } : Room) := X
  show AW K 1 0 [(0, .ref o)] [] sh P I J 0 0
  unfold f_X2_clear at hf
  refine ar_aload_n X dX2_clear_0 rfl 0 rfl ?_
  refine ar_iconst (v := 0) X dX2_clear_1 (by decide) ?_
  refine ar_puti X dX2_clear_2 fd_X2_24 rfl ⟨rfl, rfl⟩ (L2_s0 hL) hf (fun I1 hf => ?_)
  refine ar_aload_n X dX2_clear_5 rfl 0 rfl ?_
  refine ar_iconst (v := 0) X dX2_clear_6 (by decide) ?_
  refine ar_puti X dX2_clear_7 fd_X2_28 rfl ⟨rfl, rfl⟩ (L2_s0 hL) hf (fun I2 hf => ?_)
  cases hf
  exact ar_vret X dX2_clear_10 hR (Nat.le_refl _) (Nat.le_refl _)
def f_X1_startAnew (o : Nat) (a1 : Int32) (I : aI) : Option aI :=
  am_b1 (f_X1_settingOf o (0 : Int32) I) fun r1 =>
  am_b1 (f_X4_startAnew (o + 2) a1 r1 I) fun I2 =>
  am_b1 (f_X2_clear (o + 8) I2) fun I3 =>
  am_b1 (f_X0_clear (o + 13) I3) fun I4 =>
  some I4
set_option maxRecDepth 100000 in
set_option maxHeartbeats 4000000 in
theorem am_X1_startAnew {sh : aS} {P : aP} {I : aI} {J : aJ} {o : Nat} (hL : L1 sh P o) {a1 : Int32} {I9 : aI} (hf : f_X1_startAnew o a1 I = some I9) : AM yX1_startAnew cX1_startAnew 2 none 2 49 [.ref o, .int a1] sh P I J none sh P I9 J 0 0 := by
  refine am_met (by decide +kernel) (Nat.le_of_ble_eq_true rfl) (fun K X hR => ?_)
  have X : am_C K cX1_startAnew 2 RX1 "startAnew" ({ frames := 2, cells := 0, slots := 0, locals := 49 } : Room) := X
  show AW K 2 0 [(0, .ref o), (1, .int a1)] [] sh P I J 0 0
  unfold f_X1_startAnew at hf
  refine ar_aload_n X dX1_startAnew_0 rfl 0 rfl ?_
  refine ar_getr X dX1_startAnew_1 fg_X1_26 rfl (L1_s0 hL) (L1_p0_1 hL) ?_
  refine ar_iload_n X dX1_startAnew_4 rfl 1 rfl ?_
  refine ar_aload_n X dX1_startAnew_5 rfl 0 rfl ?_
  refine ar_iconst (v := 0) X dX1_startAnew_6 (by decide) ?_
  obtain ⟨r1, h1, hf⟩ := am_b1_e hf
  refine ar_cVi (As := [.int (0 : Int32)]) (st := [.int a1, .ref (o + 2)]) X dX1_startAnew_7 (am_X1_settingOf hL h1) lk_X1_44 mt_X1_settingOf mi_X1_settingOf (L1_s0 hL) rfl rfl (Nat.le_of_ble_eq_true rfl) ⟨by decide, by decide⟩ ⟨Nat.zero_le _, Nat.zero_le _⟩ rfl ?_
  obtain ⟨I2, h2, hf⟩ := am_b1_e hf
  refine ar_cVv (As := [.int a1, .int r1]) (st := []) X dX1_startAnew_10 (am_X4_startAnew (L1_c2 hL) h2) lk_X1_48 mt_X4_startAnew mi_X4_startAnew (L1_s2 hL) rfl rfl (Nat.le_of_ble_eq_true rfl) ⟨by decide, by decide⟩ ⟨Nat.zero_le _, Nat.zero_le _⟩ rfl ?_
  refine ar_aload_n X dX1_startAnew_13 rfl 0 rfl ?_
  refine ar_getr X dX1_startAnew_14 fg_X1_33 rfl (L1_s0 hL) (L1_p0_2 hL) ?_
  obtain ⟨I3, h3, hf⟩ := am_b1_e hf
  refine ar_cVv (As := []) (st := []) X dX1_startAnew_17 (am_X2_clear (L1_c8 hL) h3) lk_X1_52 mt_X2_clear mi_X2_clear (L1_s8 hL) rfl rfl (Nat.le_of_ble_eq_true rfl) ⟨by decide, by decide⟩ ⟨Nat.zero_le _, Nat.zero_le _⟩ rfl ?_
  refine ar_aload_n X dX1_startAnew_20 rfl 0 rfl ?_
  refine ar_getr X dX1_startAnew_21 fg_X1_40 rfl (L1_s0 hL) (L1_p0_3 hL) ?_
  obtain ⟨I4, h4, hf⟩ := am_b1_e hf
  refine ar_cVv (As := []) (st := []) X dX1_startAnew_24 (am_X0_clear (L1_c13 hL) h4) lk_X1_55 mt_X0_clear mi_X0_clear (L1_s13 hL) rfl rfl (Nat.le_of_ble_eq_true rfl) ⟨by decide, by decide⟩ ⟨Nat.zero_le _, Nat.zero_le _⟩ rfl ?_
  cases hf
  exact ar_vret X dX1_startAnew_27 hR (Nat.le_refl _) (Nat.le_refl _)
def f_X6_isMode  (a0 : Int32) : Option Int32 :=
  am_b1 (f_X6_within a0 (0 : Int32) (2 : Int32)) fun r1 =>
  am_g (am_zk r1) (some r1)
set_option maxRecDepth 100000 in
set_option maxHeartbeats 4000000 in
theorem am_X6_isMode {sh : aS} {P : aP} {I : aI} {J : aJ}   {a0 : Int32} {r : Int32} (hf : f_X6_isMode a0 = some r) : AM yX6_isMode cX6_isMode 1 (some .boolean) 1 22 [.int a0] sh P I J (some (.int r)) sh P I J 0 0 := by
  refine am_met (by decide +kernel) (Nat.le_of_ble_eq_true rfl) (fun K X hR => ?_)
  have X : am_C K cX6_isMode 1 RX6 "isMode" ({ frames := 1, cells := 0, slots := 0, locals := 22 } : Room) := X
  show AW K 1 0 [(0, .int a0)] [] sh P I J 0 0
  unfold f_X6_isMode at hf
  refine ar_iload_n X dX6_isMode_0 rfl 0 rfl ?_
  refine ar_iconst (v := 0) X dX6_isMode_1 (by decide) ?_
  refine ar_iconst (v := 2) X dX6_isMode_2 (by decide) ?_
  obtain ⟨r1, h1, hf⟩ := am_b1_e hf
  refine ar_cSi (As := [.int a0, .int (0 : Int32), .int (2 : Int32)]) (st := []) X dX6_isMode_3 (am_X6_within h1) lk_X6_41 mt_X6_within ms_X6_within rfl (Nat.le_of_ble_eq_true rfl) ⟨by decide, by decide⟩ ⟨Nat.zero_le _, Nat.zero_le _⟩ rfl ?_
  obtain ⟨h2, hf⟩ := am_g_elim hf
  cases hf
  exact ar_zret X dX6_isMode_6 (am_zn h2).1 hR (Nat.le_refl _) (Nat.le_refl _)
def f_X6_isReserve  (a0 : Int32) : Option Int32 :=
  am_b1 (f_X6_within a0 (1 : Int32) (300 : Int32)) fun r1 =>
  am_g (am_zk r1) (some r1)
set_option maxRecDepth 100000 in
set_option maxHeartbeats 4000000 in
theorem am_X6_isReserve {sh : aS} {P : aP} {I : aI} {J : aJ}   {a0 : Int32} {r : Int32} (hf : f_X6_isReserve a0 = some r) : AM yX6_isReserve cX6_isReserve 1 (some .boolean) 1 22 [.int a0] sh P I J (some (.int r)) sh P I J 0 0 := by
  refine am_met (by decide +kernel) (Nat.le_of_ble_eq_true rfl) (fun K X hR => ?_)
  have X : am_C K cX6_isReserve 1 RX6 "isReserve" ({ frames := 1, cells := 0, slots := 0, locals := 22 } : Room) := X
  show AW K 1 0 [(0, .int a0)] [] sh P I J 0 0
  unfold f_X6_isReserve at hf
  refine ar_iload_n X dX6_isReserve_0 rfl 0 rfl ?_
  refine ar_iconst (v := 1) X dX6_isReserve_1 (by decide) ?_
  refine ar_sipush (v := 300) X dX6_isReserve_2 (by decide) ?_
  obtain ⟨r1, h1, hf⟩ := am_b1_e hf
  refine ar_cSi (As := [.int a0, .int (1 : Int32), .int (300 : Int32)]) (st := []) X dX6_isReserve_5 (am_X6_within h1) lk_X6_41 mt_X6_within ms_X6_within rfl (Nat.le_of_ble_eq_true rfl) ⟨by decide, by decide⟩ ⟨Nat.zero_le _, Nat.zero_le _⟩ rfl ?_
  obtain ⟨h2, hf⟩ := am_g_elim hf
  cases hf
  exact ar_zret X dX6_isReserve_8 (am_zn h2).1 hR (Nat.le_refl _) (Nat.le_refl _)
def f_X2_nextIsForSale (o : Nat)  (I : aI) : Option Int32 :=
  if ((I o 0) - (1 : Int32)) ≤ (I o 1) then (
    some (0 : Int32))
  else (
    some (1 : Int32))
set_option maxRecDepth 100000 in
set_option maxHeartbeats 4000000 in
theorem am_X2_nextIsForSale {sh : aS} {P : aP} {I : aI} {J : aJ} {o : Nat} (hL : L2 sh P o)  {r : Int32} (hf : f_X2_nextIsForSale o I = some r) : AM yX2_nextIsForSale cX2_nextIsForSale 1 (some .boolean) 0 0 [.ref o] sh P I J (some (.int r)) sh P I J 0 0 := by
  refine am_met (by decide +kernel) (Nat.le_of_ble_eq_true rfl) (fun K X hR => ?_)
  have X : am_C K cX2_nextIsForSale 1 RX2 "nextIsForSale" ({ frames := 0, cells := 0, slots := 0, locals := 0 } : Room) := X
  show AW K 1 0 [(0, .ref o)] [] sh P I J 0 0
  unfold f_X2_nextIsForSale at hf
  refine ar_aload_n X dX2_nextIsForSale_0 rfl 0 rfl ?_
  refine ar_geti X dX2_nextIsForSale_1 fg_X2_28 rfl (L2_s0 hL) ?_
  refine ar_aload_n X dX2_nextIsForSale_4 rfl 0 rfl ?_
  refine ar_geti X dX2_nextIsForSale_5 fg_X2_24 rfl (L2_s0 hL) ?_
  refine ar_iconst (v := 1) X dX2_nextIsForSale_8 (by decide) ?_
  refine ar_isub X dX2_nextIsForSale_9 ?_
  refine ar_icmp_ge (tgt := 17) X dX2_nextIsForSale_10 (by decide) hf (fun h1 hf => ?_) (fun h1 hf => ?_)
  · refine ar_iconst (v := 0) X dX2_nextIsForSale_17 (by decide) ?_
    cases hf
    exact ar_zret X dX2_nextIsForSale_18 rfl hR (Nat.le_refl _) (Nat.le_refl _)
  · refine ar_iconst (v := 1) X dX2_nextIsForSale_13 (by decide) ?_
    refine ar_goto (tgt := 18) X dX2_nextIsForSale_14 (by decide) ?_
    cases hf
    exact ar_zret X dX2_nextIsForSale_18 rfl hR (Nat.le_refl _) (Nat.le_refl _)
def f_X1_startAuction (o : Nat) (a1 : Int32) (a2 : Int32) (I : aI) : Option (Int32 × aI) :=
  am_b1 (f_X6_isMode a1) fun r1 =>
  if r1 = 0 then (
    some ((-2 : Int32), I))
  else (
    am_b1 (f_X6_isReserve a2) fun r3 =>
    if r3 = 0 then (
      some ((-2 : Int32), I))
    else (
      am_b1 (f_X0_goesOn (o + 13) I) fun r5 =>
      if r5 = 0 then (
        am_b1 (f_X2_nextIsForSale (o + 8) I) fun r7 =>
        if r7 = 0 then (
          some ((-5 : Int32), I))
        else (
          am_b1 (f_X1_starter o I) fun r9 =>
          am_b1 (f_X0_start (o + 13) a1 a2 r9 I) fun I10 =>
          am_b1 (f_X2_next (o + 8) I10) fun r11 =>
          some (r11, I10)))
      else (
        some ((-5 : Int32), I))))
set_option maxRecDepth 100000 in
set_option maxHeartbeats 4000000 in
theorem am_X1_startAuction {sh : aS} {P : aP} {I : aI} {J : aJ} {o : Nat} (hL : L1 sh P o) {a1 : Int32} {a2 : Int32} {r : Int32} {I9 : aI} (hf : f_X1_startAuction o a1 a2 I = some (r, I9)) : AM yX1_startAuction cX1_startAuction 3 (some .int) 2 44 [.ref o, .int a1, .int a2] sh P I J (some (.int r)) sh P I9 J 0 0 := by
  refine am_met (by decide +kernel) (Nat.le_of_ble_eq_true rfl) (fun K X hR => ?_)
  have X : am_C K cX1_startAuction 3 RX1 "startAuction" ({ frames := 2, cells := 0, slots := 0, locals := 44 } : Room) := X
  show AW K 3 0 [(0, .ref o), (1, .int a1), (2, .int a2)] [] sh P I J 0 0
  unfold f_X1_startAuction at hf
  refine ar_iload_n X dX1_startAuction_0 rfl 1 rfl ?_
  obtain ⟨r1, h1, hf⟩ := am_b1_e hf
  refine ar_cSi (As := [.int a1]) (st := []) X dX1_startAuction_1 (am_X6_isMode h1) lk_X1_85 mt_X6_isMode ms_X6_isMode rfl (Nat.le_of_ble_eq_true rfl) ⟨by decide, by decide⟩ ⟨Nat.zero_le _, Nat.zero_le _⟩ rfl ?_
  refine ar_if_eq (tgt := 14) X dX1_startAuction_4 (by decide) hf (fun h2 hf => ?_) (fun h2 hf => ?_)
  · refine ar_bipush (v := -2) X dX1_startAuction_14 (by decide) ?_
    cases hf
    exact ar_iret X dX1_startAuction_16 hR (Nat.le_refl _) (Nat.le_refl _)
  · refine ar_iload_n X dX1_startAuction_7 rfl 2 rfl ?_
    obtain ⟨r3, h3, hf⟩ := am_b1_e hf
    refine ar_cSi (As := [.int a2]) (st := []) X dX1_startAuction_8 (am_X6_isReserve h3) lk_X1_88 mt_X6_isReserve ms_X6_isReserve rfl (Nat.le_of_ble_eq_true rfl) ⟨by decide, by decide⟩ ⟨Nat.zero_le _, Nat.zero_le _⟩ rfl ?_
    refine ar_if_ne (tgt := 17) X dX1_startAuction_11 (by decide) hf (fun h4 hf => ?_) (fun h4 hf => ?_)
    · refine ar_bipush (v := -2) X dX1_startAuction_14 (by decide) ?_
      cases hf
      exact ar_iret X dX1_startAuction_16 hR (Nat.le_refl _) (Nat.le_refl _)
    · refine ar_aload_n X dX1_startAuction_17 rfl 0 rfl ?_
      refine ar_getr X dX1_startAuction_18 fg_X1_40 rfl (L1_s0 hL) (L1_p0_3 hL) ?_
      obtain ⟨r5, h5, hf⟩ := am_b1_e hf
      refine ar_cVi (As := []) (st := []) X dX1_startAuction_21 (am_X0_goesOn (L1_c13 hL) h5) lk_X1_78 mt_X0_goesOn mi_X0_goesOn (L1_s13 hL) rfl rfl (Nat.le_of_ble_eq_true rfl) ⟨by decide, by decide⟩ ⟨Nat.zero_le _, Nat.zero_le _⟩ rfl ?_
      refine ar_if_ne (tgt := 37) X dX1_startAuction_24 (by decide) hf (fun h6 hf => ?_) (fun h6 hf => ?_)
      · refine ar_aload_n X dX1_startAuction_27 rfl 0 rfl ?_
        refine ar_getr X dX1_startAuction_28 fg_X1_33 rfl (L1_s0 hL) (L1_p0_2 hL) ?_
        obtain ⟨r7, h7, hf⟩ := am_b1_e hf
        refine ar_cVi (As := []) (st := []) X dX1_startAuction_31 (am_X2_nextIsForSale (L1_c8 hL) h7) lk_X1_91 mt_X2_nextIsForSale mi_X2_nextIsForSale (L1_s8 hL) rfl rfl (Nat.le_of_ble_eq_true rfl) ⟨by decide, by decide⟩ ⟨Nat.zero_le _, Nat.zero_le _⟩ rfl ?_
        refine ar_if_ne (tgt := 40) X dX1_startAuction_34 (by decide) hf (fun h8 hf => ?_) (fun h8 hf => ?_)
        · refine ar_bipush (v := -5) X dX1_startAuction_37 (by decide) ?_
          cases hf
          exact ar_iret X dX1_startAuction_39 hR (Nat.le_refl _) (Nat.le_refl _)
        · refine ar_aload_n X dX1_startAuction_40 rfl 0 rfl ?_
          refine ar_getr X dX1_startAuction_41 fg_X1_40 rfl (L1_s0 hL) (L1_p0_3 hL) ?_
          refine ar_iload_n X dX1_startAuction_44 rfl 1 rfl ?_
          refine ar_iload_n X dX1_startAuction_45 rfl 2 rfl ?_
          refine ar_aload_n X dX1_startAuction_46 rfl 0 rfl ?_
          obtain ⟨r9, h9, hf⟩ := am_b1_e hf
          refine ar_cVi (As := []) (st := [.int a2, .int a1, .ref (o + 13)]) X dX1_startAuction_47 (am_X1_starter hL h9) lk_X1_94 mt_X1_starter mi_X1_starter (L1_s0 hL) rfl rfl (Nat.le_of_ble_eq_true rfl) ⟨by decide, by decide⟩ ⟨Nat.zero_le _, Nat.zero_le _⟩ rfl ?_
          obtain ⟨I10, h10, hf⟩ := am_b1_e hf
          refine ar_cVv (As := [.int a1, .int a2, .int r9]) (st := []) X dX1_startAuction_50 (am_X0_start (L1_c13 hL) h10) lk_X1_98 mt_X0_start mi_X0_start (L1_s13 hL) rfl rfl (Nat.le_of_ble_eq_true rfl) ⟨by decide, by decide⟩ ⟨Nat.zero_le _, Nat.zero_le _⟩ rfl ?_
          refine ar_aload_n X dX1_startAuction_53 rfl 0 rfl ?_
          refine ar_getr X dX1_startAuction_54 fg_X1_33 rfl (L1_s0 hL) (L1_p0_2 hL) ?_
          obtain ⟨r11, h11, hf⟩ := am_b1_e hf
          refine ar_cVi (As := []) (st := []) X dX1_startAuction_57 (am_X2_next (L1_c8 hL) h11) lk_X1_102 mt_X2_next mi_X2_next (L1_s8 hL) rfl rfl (Nat.le_of_ble_eq_true rfl) ⟨by decide, by decide⟩ ⟨Nat.zero_le _, Nat.zero_le _⟩ rfl ?_
          cases hf
          exact ar_iret X dX1_startAuction_60 hR (Nat.le_refl _) (Nat.le_refl _)
      · refine ar_bipush (v := -5) X dX1_startAuction_37 (by decide) ?_
        cases hf
        exact ar_iret X dX1_startAuction_39 hR (Nat.le_refl _) (Nat.le_refl _)
def f_X1_takeBid_b69 (o : Nat) (l3 : Int32) (I : aI) : Option (Int32 × aI) :=
  if l3 = (-6 : Int32) then (
    am_b2 (f_X1_settle o I) fun r2 I2 =>
    some (r2, I2))
  else (
    some (l3, I))
set_option maxRecDepth 100000 in
set_option maxHeartbeats 4000000 in
theorem ab_X1_takeBid_b69 {K : aK} {sh : aS} {P : aP} {J : aJ} {o : Nat} (X : am_C K cX1_takeBid 4 RX1 "takeBid" ({ frames := 4, cells := 0, slots := 0, locals := 97 } : Room)) (hL : L1 sh P o) {r : Int32} {I9 : aI} (hR : am_R K (some .int) (some (.int r)) sh P I9 J 0 0) (l3 : Int32) (I : aI) (hf : f_X1_takeBid_b69 o l3 I = some (r, I9)) : AW K 4 69 [(0, .ref o), (3, .int l3)] [] sh P I J 0 0 := by
  unfold f_X1_takeBid_b69 at hf
  refine ar_iload_n X dX1_takeBid_69 rfl 1 rfl ?_
  refine ar_bipush (v := -6) X dX1_takeBid_70 (by decide) ?_
  refine ar_icmp_ne (tgt := 82) X dX1_takeBid_72 (by decide) hf (fun h1 hf => ?_) (fun h1 hf => ?_)
  · refine ar_aload_n X dX1_takeBid_75 rfl 0 rfl ?_
    obtain ⟨r2, I2, h2, hf⟩ := am_b2_e hf
    refine ar_cVi (As := []) (st := []) X dX1_takeBid_76 (am_X1_settle hL h2) lk_X1_121 mt_X1_settle mi_X1_settle (L1_s0 hL) rfl rfl (Nat.le_of_ble_eq_true rfl) ⟨by decide, by decide⟩ ⟨Nat.zero_le _, Nat.zero_le _⟩ rfl ?_
    refine ar_goto (tgt := 83) X dX1_takeBid_79 (by decide) ?_
    cases hf
    exact ar_iret X dX1_takeBid_83 hR (Nat.le_refl _) (Nat.le_refl _)
  · refine ar_iload_n X dX1_takeBid_82 rfl 1 rfl ?_
    cases hf
    exact ar_iret X dX1_takeBid_83 hR (Nat.le_refl _) (Nat.le_refl _)
def f_X1_takeBid_b51 (o : Nat) (l1 : Int32) (l2 : Int32) (l3 : Int32) (I : aI) : Option (Int32 × aI) :=
  if (I (o + 13) 0) = (2 : Int32) then (
    am_b2 (f_X1_claim o l1 l2 I) fun r2 I2 =>
    f_X1_takeBid_b69 o r2 I2)
  else (
    f_X1_takeBid_b69 o l3 I)
set_option maxRecDepth 100000 in
set_option maxHeartbeats 4000000 in
theorem ab_X1_takeBid_b51 {K : aK} {sh : aS} {P : aP} {J : aJ} {o : Nat} (X : am_C K cX1_takeBid 4 RX1 "takeBid" ({ frames := 4, cells := 0, slots := 0, locals := 97 } : Room)) (hL : L1 sh P o) {r : Int32} {I9 : aI} (hR : am_R K (some .int) (some (.int r)) sh P I9 J 0 0) (l1 : Int32) (l2 : Int32) (l3 : Int32) (I : aI) (hf : f_X1_takeBid_b51 o l1 l2 l3 I = some (r, I9)) : AW K 4 51 [(0, .ref o), (1, .int l1), (2, .int l2), (3, .int l3)] [] sh P I J 0 0 := by
  unfold f_X1_takeBid_b51 at hf
  refine ar_aload_n X dX1_takeBid_51 rfl 0 rfl ?_
  refine ar_getr X dX1_takeBid_52 fg_X1_40 rfl (L1_s0 hL) (L1_p0_3 hL) ?_
  refine ar_geti X dX1_takeBid_55 fg_X1_108 rfl (L1_s13 hL) ?_
  refine ar_iconst (v := 2) X dX1_takeBid_58 (by decide) ?_
  refine ar_icmp_ne (tgt := 69) X dX1_takeBid_59 (by decide) hf (fun h1 hf => ?_) (fun h1 hf => ?_)
  · refine ar_aload_n X dX1_takeBid_62 rfl 0 rfl ?_
    refine ar_iload_n X dX1_takeBid_63 rfl 1 rfl ?_
    refine ar_iload_n X dX1_takeBid_64 rfl 2 rfl ?_
    obtain ⟨r2, I2, h2, hf⟩ := am_b2_e hf
    refine ar_cVi (As := [.int l1, .int l2]) (st := []) X dX1_takeBid_65 (am_X1_claim hL h2) lk_X1_118 mt_X1_claim mi_X1_claim (L1_s0 hL) rfl rfl (Nat.le_of_ble_eq_true rfl) ⟨by decide, by decide⟩ ⟨Nat.zero_le _, Nat.zero_le _⟩ rfl ?_
    refine ar_istore_n X dX1_takeBid_68 rfl (by decide) rfl ?_
    refine ar_lo [1, 0] rfl ?_
    exact ab_X1_takeBid_b69 X hL hR r2 I2 hf
  · refine ar_lo [0, 3] rfl ?_
    exact ab_X1_takeBid_b69 X hL hR l3 I hf
def f_X1_takeBid_b33 (o : Nat) (l1 : Int32) (l2 : Int32) (l3 : Int32) (I : aI) : Option (Int32 × aI) :=
  if (I (o + 13) 0) = (1 : Int32) then (
    am_b2 (f_X1_handIn o l1 l2 I) fun r2 I2 =>
    f_X1_takeBid_b51 o l1 l2 r2 I2)
  else (
    f_X1_takeBid_b51 o l1 l2 l3 I)
set_option maxRecDepth 100000 in
set_option maxHeartbeats 4000000 in
theorem ab_X1_takeBid_b33 {K : aK} {sh : aS} {P : aP} {J : aJ} {o : Nat} (X : am_C K cX1_takeBid 4 RX1 "takeBid" ({ frames := 4, cells := 0, slots := 0, locals := 97 } : Room)) (hL : L1 sh P o) {r : Int32} {I9 : aI} (hR : am_R K (some .int) (some (.int r)) sh P I9 J 0 0) (l1 : Int32) (l2 : Int32) (l3 : Int32) (I : aI) (hf : f_X1_takeBid_b33 o l1 l2 l3 I = some (r, I9)) : AW K 4 33 [(0, .ref o), (1, .int l1), (2, .int l2), (3, .int l3)] [] sh P I J 0 0 := by
  unfold f_X1_takeBid_b33 at hf
  refine ar_aload_n X dX1_takeBid_33 rfl 0 rfl ?_
  refine ar_getr X dX1_takeBid_34 fg_X1_40 rfl (L1_s0 hL) (L1_p0_3 hL) ?_
  refine ar_geti X dX1_takeBid_37 fg_X1_108 rfl (L1_s13 hL) ?_
  refine ar_iconst (v := 1) X dX1_takeBid_40 (by decide) ?_
  refine ar_icmp_ne (tgt := 51) X dX1_takeBid_41 (by decide) hf (fun h1 hf => ?_) (fun h1 hf => ?_)
  · refine ar_aload_n X dX1_takeBid_44 rfl 0 rfl ?_
    refine ar_iload_n X dX1_takeBid_45 rfl 1 rfl ?_
    refine ar_iload_n X dX1_takeBid_46 rfl 2 rfl ?_
    obtain ⟨r2, I2, h2, hf⟩ := am_b2_e hf
    refine ar_cVi (As := [.int l1, .int l2]) (st := []) X dX1_takeBid_47 (am_X1_handIn hL h2) lk_X1_115 mt_X1_handIn mi_X1_handIn (L1_s0 hL) rfl rfl (Nat.le_of_ble_eq_true rfl) ⟨by decide, by decide⟩ ⟨Nat.zero_le _, Nat.zero_le _⟩ rfl ?_
    refine ar_istore_n X dX1_takeBid_50 rfl (by decide) rfl ?_
    refine ar_lo [1, 2, 3, 0] rfl ?_
    exact ab_X1_takeBid_b51 X hL hR l1 l2 r2 I2 hf
  · exact ab_X1_takeBid_b51 X hL hR l1 l2 l3 I hf
def f_X1_takeBid (o : Nat) (a1 : Int32) (a2 : Int32) (I : aI) : Option (Int32 × aI) :=
  am_b1 (f_X4_hasSeat (o + 2) a1 I) fun r1 =>
  if r1 = 0 then (
    some ((-1 : Int32), I))
  else (
    if (I (o + 13) 0) = 0 then (
      am_b2 (f_X1_raise o a1 a2 I) fun r4 I4 =>
      f_X1_takeBid_b33 o a1 a2 r4 I4)
    else (
      f_X1_takeBid_b33 o a1 a2 (-5 : Int32) I))
set_option maxRecDepth 100000 in
set_option maxHeartbeats 4000000 in
theorem am_X1_takeBid {sh : aS} {P : aP} {I : aI} {J : aJ} {o : Nat} (hL : L1 sh P o) {a1 : Int32} {a2 : Int32} {r : Int32} {I9 : aI} (hf : f_X1_takeBid o a1 a2 I = some (r, I9)) : AM yX1_takeBid cX1_takeBid 4 (some .int) 4 97 [.ref o, .int a1, .int a2] sh P I J (some (.int r)) sh P I9 J 0 0 := by
  refine am_met (by decide +kernel) (Nat.le_of_ble_eq_true rfl) (fun K X hR => ?_)
  have X : am_C K cX1_takeBid 4 RX1 "takeBid" ({ frames := 4, cells := 0, slots := 0, locals := 97 } : Room) := X
  show AW K 4 0 [(0, .ref o), (1, .int a1), (2, .int a2)] [] sh P I J 0 0
  unfold f_X1_takeBid at hf
  refine ar_aload_n X dX1_takeBid_0 rfl 0 rfl ?_
  refine ar_getr X dX1_takeBid_1 fg_X1_26 rfl (L1_s0 hL) (L1_p0_1 hL) ?_
  refine ar_iload_n X dX1_takeBid_4 rfl 1 rfl ?_
  obtain ⟨r1, h1, hf⟩ := am_b1_e hf
  refine ar_cVi (As := [.int a1]) (st := []) X dX1_takeBid_5 (am_X4_hasSeat (L1_c2 hL) h1) lk_X1_105 mt_X4_hasSeat mi_X4_hasSeat (L1_s2 hL) rfl rfl (Nat.le_of_ble_eq_true rfl) ⟨by decide, by decide⟩ ⟨Nat.zero_le _, Nat.zero_le _⟩ rfl ?_
  refine ar_if_ne (tgt := 13) X dX1_takeBid_8 (by decide) hf (fun h2 hf => ?_) (fun h2 hf => ?_)
  · refine ar_iconst (v := -1) X dX1_takeBid_11 (by decide) ?_
    cases hf
    exact ar_iret X dX1_takeBid_12 hR (Nat.le_refl _) (Nat.le_refl _)
  · refine ar_bipush (v := -5) X dX1_takeBid_13 (by decide) ?_
    refine ar_istore_n X dX1_takeBid_15 rfl (by decide) rfl ?_
    refine ar_aload_n X dX1_takeBid_16 rfl 1 rfl ?_
    refine ar_getr X dX1_takeBid_17 fg_X1_40 rfl (L1_s0 hL) (L1_p0_3 hL) ?_
    refine ar_geti X dX1_takeBid_20 fg_X1_108 rfl (L1_s13 hL) ?_
    refine ar_if_ne (tgt := 33) X dX1_takeBid_23 (by decide) hf (fun h3 hf => ?_) (fun h3 hf => ?_)
    · refine ar_aload_n X dX1_takeBid_26 rfl 1 rfl ?_
      refine ar_iload_n X dX1_takeBid_27 rfl 2 rfl ?_
      refine ar_iload_n X dX1_takeBid_28 rfl 3 rfl ?_
      obtain ⟨r4, I4, h4, hf⟩ := am_b2_e hf
      refine ar_cVi (As := [.int a1, .int a2]) (st := []) X dX1_takeBid_29 (am_X1_raise hL h4) lk_X1_111 mt_X1_raise mi_X1_raise (L1_s0 hL) rfl rfl (Nat.le_of_ble_eq_true rfl) ⟨by decide, by decide⟩ ⟨Nat.zero_le _, Nat.zero_le _⟩ rfl ?_
      refine ar_istore_n X dX1_takeBid_32 rfl (by decide) rfl ?_
      refine ar_lo [1, 2, 3, 0] rfl ?_
      exact ab_X1_takeBid_b33 X hL hR a1 a2 r4 I4 hf
    · refine ar_lo [1, 2, 3, 0] rfl ?_
      exact ab_X1_takeBid_b33 X hL hR a1 a2 (-5 : Int32) I hf
def f_X4_takeOver (o : Nat) (w1 : Nat)  (I : aI) : Option aI :=
  am_let (am_w I o 0 (I w1 0)) fun I1 =>
  am_let (am_cpy I1 (w1 + 1) (o + 1) 6) fun I2 =>
  am_let (am_cpy I2 (w1 + 2) (o + 2) 6) fun I3 =>
  am_let (am_cpy I3 (w1 + 3) (o + 3) 6) fun I4 =>
  am_let (am_cpy I4 (w1 + 4) (o + 4) 6) fun I5 =>
  am_let (am_cpy I5 (w1 + 5) (o + 5) 6) fun I6 =>
  some I6
set_option maxRecDepth 100000 in
set_option maxHeartbeats 4000000 in
theorem am_X4_takeOver {sh : aS} {P : aP} {I : aI} {J : aJ} {o : Nat} {w1 : Nat} (hL : L4 sh P o) (hW1 : L4 sh P w1)  {I9 : aI} (hf : f_X4_takeOver o w1 I = some I9) : AM yX4_takeOver cX4_takeOver 2 none 2 47 [.ref o, .ref w1] sh P I J none sh P I9 J 0 0 := by
  refine am_met (by decide +kernel) (Nat.le_of_ble_eq_true rfl) (fun K X hR => ?_)
  have X : am_C K cX4_takeOver 2 RX4 "takeOver" ({ frames := 2, cells := 0, slots := 0, locals := 47 } : Room) := X
  show AW K 2 0 [(0, .ref o), (1, .ref w1)] [] sh P I J 0 0
  unfold f_X4_takeOver at hf
  refine ar_aload_n X dX4_takeOver_0 rfl 0 rfl ?_
  refine ar_aload_n X dX4_takeOver_1 rfl 1 rfl ?_
  refine ar_geti X dX4_takeOver_2 fg_X4_9 rfl (L4_s0 hW1) ?_
  refine ar_puti X dX4_takeOver_5 fd_X4_9 rfl ⟨rfl, rfl⟩ (L4_s0 hL) hf (fun I1 hf => ?_)
  refine ar_aload_n X dX4_takeOver_8 rfl 1 rfl ?_
  refine ar_getr X dX4_takeOver_9 fg_X4_15 rfl (L4_s0 hW1) (L4_p0_1 hW1) ?_
  refine ar_aload_n X dX4_takeOver_12 rfl 0 rfl ?_
  refine ar_getr X dX4_takeOver_13 fg_X4_15 rfl (L4_s0 hL) (L4_p0_1 hL) ?_
  refine ar_cSv (As := [.ref (w1 + 1), .ref (o + 1)]) (st := []) X dX4_takeOver_16 (am_X6_copyRow (L4_s1 hW1) (L4_s1 hL) (by decide)) lk_X4_37 mt_X6_copyRow ms_X6_copyRow rfl (Nat.le_of_ble_eq_true rfl) ⟨by decide, by decide⟩ ⟨Nat.zero_le _, Nat.zero_le _⟩ rfl ?_
  refine ar_letM hf (fun I2 hf => ?_)
  refine ar_aload_n X dX4_takeOver_19 rfl 1 rfl ?_
  refine ar_getr X dX4_takeOver_20 fg_X4_19 rfl (L4_s0 hW1) (L4_p0_2 hW1) ?_
  refine ar_aload_n X dX4_takeOver_23 rfl 0 rfl ?_
  refine ar_getr X dX4_takeOver_24 fg_X4_19 rfl (L4_s0 hL) (L4_p0_2 hL) ?_
  refine ar_cSv (As := [.ref (w1 + 2), .ref (o + 2)]) (st := []) X dX4_takeOver_27 (am_X6_copyRow (L4_s2 hW1) (L4_s2 hL) (by decide)) lk_X4_37 mt_X6_copyRow ms_X6_copyRow rfl (Nat.le_of_ble_eq_true rfl) ⟨by decide, by decide⟩ ⟨Nat.zero_le _, Nat.zero_le _⟩ rfl ?_
  refine ar_letM hf (fun I3 hf => ?_)
  refine ar_aload_n X dX4_takeOver_30 rfl 1 rfl ?_
  refine ar_getr X dX4_takeOver_31 fg_X4_22 rfl (L4_s0 hW1) (L4_p0_3 hW1) ?_
  refine ar_aload_n X dX4_takeOver_34 rfl 0 rfl ?_
  refine ar_getr X dX4_takeOver_35 fg_X4_22 rfl (L4_s0 hL) (L4_p0_3 hL) ?_
  refine ar_cSv (As := [.ref (w1 + 3), .ref (o + 3)]) (st := []) X dX4_takeOver_38 (am_X6_copyRow (L4_s3 hW1) (L4_s3 hL) (by decide)) lk_X4_37 mt_X6_copyRow ms_X6_copyRow rfl (Nat.le_of_ble_eq_true rfl) ⟨by decide, by decide⟩ ⟨Nat.zero_le _, Nat.zero_le _⟩ rfl ?_
  refine ar_letM hf (fun I4 hf => ?_)
  refine ar_aload_n X dX4_takeOver_41 rfl 1 rfl ?_
  refine ar_getr X dX4_takeOver_42 fg_X4_25 rfl (L4_s0 hW1) (L4_p0_4 hW1) ?_
  refine ar_aload_n X dX4_takeOver_45 rfl 0 rfl ?_
  refine ar_getr X dX4_takeOver_46 fg_X4_25 rfl (L4_s0 hL) (L4_p0_4 hL) ?_
  refine ar_cSv (As := [.ref (w1 + 4), .ref (o + 4)]) (st := []) X dX4_takeOver_49 (am_X6_copyRow (L4_s4 hW1) (L4_s4 hL) (by decide)) lk_X4_37 mt_X6_copyRow ms_X6_copyRow rfl (Nat.le_of_ble_eq_true rfl) ⟨by decide, by decide⟩ ⟨Nat.zero_le _, Nat.zero_le _⟩ rfl ?_
  refine ar_letM hf (fun I5 hf => ?_)
  refine ar_aload_n X dX4_takeOver_52 rfl 1 rfl ?_
  refine ar_getr X dX4_takeOver_53 fg_X4_28 rfl (L4_s0 hW1) (L4_p0_5 hW1) ?_
  refine ar_aload_n X dX4_takeOver_56 rfl 0 rfl ?_
  refine ar_getr X dX4_takeOver_57 fg_X4_28 rfl (L4_s0 hL) (L4_p0_5 hL) ?_
  refine ar_cSv (As := [.ref (w1 + 5), .ref (o + 5)]) (st := []) X dX4_takeOver_60 (am_X6_copyRow (L4_s5 hW1) (L4_s5 hL) (by decide)) lk_X4_37 mt_X6_copyRow ms_X6_copyRow rfl (Nat.le_of_ble_eq_true rfl) ⟨by decide, by decide⟩ ⟨Nat.zero_le _, Nat.zero_le _⟩ rfl ?_
  refine ar_letM hf (fun I6 hf => ?_)
  cases hf
  exact ar_vret X dX4_takeOver_63 hR (Nat.le_refl _) (Nat.le_refl _)
def f_X2_takeOver (o : Nat) (w1 : Nat)  (I : aI) : Option aI :=
  am_let (am_w I o 0 (I w1 0)) fun I1 =>
  am_let (am_w I1 o 1 (I1 w1 1)) fun I2 =>
  am_let (am_cpy I2 (w1 + 1) (o + 1) 12) fun I3 =>
  am_let (am_cpy I3 (w1 + 2) (o + 2) 12) fun I4 =>
  am_let (am_cpy I4 (w1 + 3) (o + 3) 12) fun I5 =>
  am_let (am_cpy I5 (w1 + 4) (o + 4) 12) fun I6 =>
  some I6
set_option maxRecDepth 100000 in
set_option maxHeartbeats 4000000 in
theorem am_X2_takeOver {sh : aS} {P : aP} {I : aI} {J : aJ} {o : Nat} {w1 : Nat} (hL : L2 sh P o) (hW1 : L2 sh P w1)  {I9 : aI} (hf : f_X2_takeOver o w1 I = some I9) : AM yX2_takeOver cX2_takeOver 2 none 2 47 [.ref o, .ref w1] sh P I J none sh P I9 J 0 0 := by
  refine am_met (by decide +kernel) (Nat.le_of_ble_eq_true rfl) (fun K X hR => ?_)
  have X : am_C K cX2_takeOver 2 RX2 "takeOver" ({ frames := 2, cells := 0, slots := 0, locals := 47 } : Room) := X
  show AW K 2 0 [(0, .ref o), (1, .ref w1)] [] sh P I J 0 0
  unfold f_X2_takeOver at hf
  refine ar_aload_n X dX2_takeOver_0 rfl 0 rfl ?_
  refine ar_aload_n X dX2_takeOver_1 rfl 1 rfl ?_
  refine ar_geti X dX2_takeOver_2 fg_X2_24 rfl (L2_s0 hW1) ?_
  refine ar_puti X dX2_takeOver_5 fd_X2_24 rfl ⟨rfl, rfl⟩ (L2_s0 hL) hf (fun I1 hf => ?_)
  refine ar_aload_n X dX2_takeOver_8 rfl 0 rfl ?_
  refine ar_aload_n X dX2_takeOver_9 rfl 1 rfl ?_
  refine ar_geti X dX2_takeOver_10 fg_X2_28 rfl (L2_s0 hW1) ?_
  refine ar_puti X dX2_takeOver_13 fd_X2_28 rfl ⟨rfl, rfl⟩ (L2_s0 hL) hf (fun I2 hf => ?_)
  refine ar_aload_n X dX2_takeOver_16 rfl 1 rfl ?_
  refine ar_getr X dX2_takeOver_17 fg_X2_9 rfl (L2_s0 hW1) (L2_p0_2 hW1) ?_
  refine ar_aload_n X dX2_takeOver_20 rfl 0 rfl ?_
  refine ar_getr X dX2_takeOver_21 fg_X2_9 rfl (L2_s0 hL) (L2_p0_2 hL) ?_
  refine ar_cSv (As := [.ref (w1 + 1), .ref (o + 1)]) (st := []) X dX2_takeOver_24 (am_X6_copyRow (L2_s1 hW1) (L2_s1 hL) (by decide)) lk_X2_31 mt_X6_copyRow ms_X6_copyRow rfl (Nat.le_of_ble_eq_true rfl) ⟨by decide, by decide⟩ ⟨Nat.zero_le _, Nat.zero_le _⟩ rfl ?_
  refine ar_letM hf (fun I3 hf => ?_)
  refine ar_aload_n X dX2_takeOver_27 rfl 1 rfl ?_
  refine ar_getr X dX2_takeOver_28 fg_X2_15 rfl (L2_s0 hW1) (L2_p0_3 hW1) ?_
  refine ar_aload_n X dX2_takeOver_31 rfl 0 rfl ?_
  refine ar_getr X dX2_takeOver_32 fg_X2_15 rfl (L2_s0 hL) (L2_p0_3 hL) ?_
  refine ar_cSv (As := [.ref (w1 + 2), .ref (o + 2)]) (st := []) X dX2_takeOver_35 (am_X6_copyRow (L2_s2 hW1) (L2_s2 hL) (by decide)) lk_X2_31 mt_X6_copyRow ms_X6_copyRow rfl (Nat.le_of_ble_eq_true rfl) ⟨by decide, by decide⟩ ⟨Nat.zero_le _, Nat.zero_le _⟩ rfl ?_
  refine ar_letM hf (fun I4 hf => ?_)
  refine ar_aload_n X dX2_takeOver_38 rfl 1 rfl ?_
  refine ar_getr X dX2_takeOver_39 fg_X2_18 rfl (L2_s0 hW1) (L2_p0_4 hW1) ?_
  refine ar_aload_n X dX2_takeOver_42 rfl 0 rfl ?_
  refine ar_getr X dX2_takeOver_43 fg_X2_18 rfl (L2_s0 hL) (L2_p0_4 hL) ?_
  refine ar_cSv (As := [.ref (w1 + 3), .ref (o + 3)]) (st := []) X dX2_takeOver_46 (am_X6_copyRow (L2_s3 hW1) (L2_s3 hL) (by decide)) lk_X2_31 mt_X6_copyRow ms_X6_copyRow rfl (Nat.le_of_ble_eq_true rfl) ⟨by decide, by decide⟩ ⟨Nat.zero_le _, Nat.zero_le _⟩ rfl ?_
  refine ar_letM hf (fun I5 hf => ?_)
  refine ar_aload_n X dX2_takeOver_49 rfl 1 rfl ?_
  refine ar_getr X dX2_takeOver_50 fg_X2_21 rfl (L2_s0 hW1) (L2_p0_5 hW1) ?_
  refine ar_aload_n X dX2_takeOver_53 rfl 0 rfl ?_
  refine ar_getr X dX2_takeOver_54 fg_X2_21 rfl (L2_s0 hL) (L2_p0_5 hL) ?_
  refine ar_cSv (As := [.ref (w1 + 4), .ref (o + 4)]) (st := []) X dX2_takeOver_57 (am_X6_copyRow (L2_s4 hW1) (L2_s4 hL) (by decide)) lk_X2_31 mt_X6_copyRow ms_X6_copyRow rfl (Nat.le_of_ble_eq_true rfl) ⟨by decide, by decide⟩ ⟨Nat.zero_le _, Nat.zero_le _⟩ rfl ?_
  refine ar_letM hf (fun I6 hf => ?_)
  cases hf
  exact ar_vret X dX2_takeOver_60 hR (Nat.le_refl _) (Nat.le_refl _)
def f_X1_takeOver (o : Nat) (w1 : Nat)  (I : aI) : Option aI :=
  am_let (am_cpy I (w1 + 1) (o + 1) 6) fun I1 =>
  am_b1 (f_X4_takeOver (o + 2) (w1 + 2) I1) fun I2 =>
  am_b1 (f_X2_takeOver (o + 8) (w1 + 8) I2) fun I3 =>
  am_b1 (f_X0_takeOver (o + 13) (w1 + 13) I3) fun I4 =>
  some I4
set_option maxRecDepth 100000 in
set_option maxHeartbeats 4000000 in
theorem am_X1_takeOver {sh : aS} {P : aP} {I : aI} {J : aJ} {o : Nat} {w1 : Nat} (hL : L1 sh P o) (hW1 : L1 sh P w1)  {I9 : aI} (hf : f_X1_takeOver o w1 I = some I9) : AM yX1_takeOver cX1_takeOver 2 none 3 68 [.ref o, .ref w1] sh P I J none sh P I9 J 0 0 := by
  refine am_met (by decide +kernel) (Nat.le_of_ble_eq_true rfl) (fun K X hR => ?_)
  have X : am_C K cX1_takeOver 2 RX1 "takeOver" ({ frames := 3, cells := 0, slots := 0, locals := 68 } : Room) := X
  show AW K 2 0 [(0, .ref o), (1, .ref w1)] [] sh P I J 0 0
  unfold f_X1_takeOver at hf
  refine ar_aload_n X dX1_takeOver_0 rfl 1 rfl ?_
  refine ar_getr X dX1_takeOver_1 fg_X1_18 rfl (L1_s0 hW1) (L1_p0_0 hW1) ?_
  refine ar_aload_n X dX1_takeOver_4 rfl 0 rfl ?_
  refine ar_getr X dX1_takeOver_5 fg_X1_18 rfl (L1_s0 hL) (L1_p0_0 hL) ?_
  refine ar_cSv (As := [.ref (w1 + 1), .ref (o + 1)]) (st := []) X dX1_takeOver_8 (am_X6_copyRow (L1_s1 hW1) (L1_s1 hL) (by decide)) lk_X1_56 mt_X6_copyRow ms_X6_copyRow rfl (Nat.le_of_ble_eq_true rfl) ⟨by decide, by decide⟩ ⟨Nat.zero_le _, Nat.zero_le _⟩ rfl ?_
  refine ar_letM hf (fun I1 hf => ?_)
  refine ar_aload_n X dX1_takeOver_11 rfl 0 rfl ?_
  refine ar_getr X dX1_takeOver_12 fg_X1_26 rfl (L1_s0 hL) (L1_p0_1 hL) ?_
  refine ar_aload_n X dX1_takeOver_15 rfl 1 rfl ?_
  refine ar_getr X dX1_takeOver_16 fg_X1_26 rfl (L1_s0 hW1) (L1_p0_1 hW1) ?_
  obtain ⟨I2, h2, hf⟩ := am_b1_e hf
  refine ar_cVv (As := [.ref (w1 + 2)]) (st := []) X dX1_takeOver_19 (am_X4_takeOver (L1_c2 hL) (L1_c2 hW1) h2) lk_X1_60 mt_X4_takeOver mi_X4_takeOver (L1_s2 hL) rfl rfl (Nat.le_of_ble_eq_true rfl) ⟨by decide, by decide⟩ ⟨Nat.zero_le _, Nat.zero_le _⟩ rfl ?_
  refine ar_aload_n X dX1_takeOver_22 rfl 0 rfl ?_
  refine ar_getr X dX1_takeOver_23 fg_X1_33 rfl (L1_s0 hL) (L1_p0_2 hL) ?_
  refine ar_aload_n X dX1_takeOver_26 rfl 1 rfl ?_
  refine ar_getr X dX1_takeOver_27 fg_X1_33 rfl (L1_s0 hW1) (L1_p0_2 hW1) ?_
  obtain ⟨I3, h3, hf⟩ := am_b1_e hf
  refine ar_cVv (As := [.ref (w1 + 8)]) (st := []) X dX1_takeOver_30 (am_X2_takeOver (L1_c8 hL) (L1_c8 hW1) h3) lk_X1_64 mt_X2_takeOver mi_X2_takeOver (L1_s8 hL) rfl rfl (Nat.le_of_ble_eq_true rfl) ⟨by decide, by decide⟩ ⟨Nat.zero_le _, Nat.zero_le _⟩ rfl ?_
  refine ar_aload_n X dX1_takeOver_33 rfl 0 rfl ?_
  refine ar_getr X dX1_takeOver_34 fg_X1_40 rfl (L1_s0 hL) (L1_p0_3 hL) ?_
  refine ar_aload_n X dX1_takeOver_37 rfl 1 rfl ?_
  refine ar_getr X dX1_takeOver_38 fg_X1_40 rfl (L1_s0 hW1) (L1_p0_3 hW1) ?_
  obtain ⟨I4, h4, hf⟩ := am_b1_e hf
  refine ar_cVv (As := [.ref (w1 + 13)]) (st := []) X dX1_takeOver_41 (am_X0_takeOver (L1_c13 hL) (L1_c13 hW1) h4) lk_X1_67 mt_X0_takeOver mi_X0_takeOver (L1_s13 hL) rfl rfl (Nat.le_of_ble_eq_true rfl) ⟨by decide, by decide⟩ ⟨Nat.zero_le _, Nat.zero_le _⟩ rfl ?_
  cases hf
  exact ar_vret X dX1_takeOver_44 hR (Nat.le_refl _) (Nat.le_refl _)
def f_X1_takePass_b48 (o : Nat) (l2 : Int32) (I : aI) : Option (Int32 × aI) :=
  if l2 = (-6 : Int32) then (
    am_b2 (f_X1_settle o I) fun r2 I2 =>
    some (r2, I2))
  else (
    some (l2, I))
set_option maxRecDepth 100000 in
set_option maxHeartbeats 4000000 in
theorem ab_X1_takePass_b48 {K : aK} {sh : aS} {P : aP} {J : aJ} {o : Nat} (X : am_C K cX1_takePass 3 RX1 "takePass" ({ frames := 4, cells := 0, slots := 0, locals := 97 } : Room)) (hL : L1 sh P o) {r : Int32} {I9 : aI} (hR : am_R K (some .int) (some (.int r)) sh P I9 J 0 0) (l2 : Int32) (I : aI) (hf : f_X1_takePass_b48 o l2 I = some (r, I9)) : AW K 3 48 [(0, .ref o), (2, .int l2)] [] sh P I J 0 0 := by
  unfold f_X1_takePass_b48 at hf
  refine ar_iload_n X dX1_takePass_48 rfl 1 rfl ?_
  refine ar_bipush (v := -6) X dX1_takePass_49 (by decide) ?_
  refine ar_icmp_ne (tgt := 61) X dX1_takePass_51 (by decide) hf (fun h1 hf => ?_) (fun h1 hf => ?_)
  · refine ar_aload_n X dX1_takePass_54 rfl 0 rfl ?_
    obtain ⟨r2, I2, h2, hf⟩ := am_b2_e hf
    refine ar_cVi (As := []) (st := []) X dX1_takePass_55 (am_X1_settle hL h2) lk_X1_121 mt_X1_settle mi_X1_settle (L1_s0 hL) rfl rfl (Nat.le_of_ble_eq_true rfl) ⟨by decide, by decide⟩ ⟨Nat.zero_le _, Nat.zero_le _⟩ rfl ?_
    refine ar_goto (tgt := 62) X dX1_takePass_58 (by decide) ?_
    cases hf
    exact ar_iret X dX1_takePass_62 hR (Nat.le_refl _) (Nat.le_refl _)
  · refine ar_iload_n X dX1_takePass_61 rfl 1 rfl ?_
    cases hf
    exact ar_iret X dX1_takePass_62 hR (Nat.le_refl _) (Nat.le_refl _)
def f_X1_takePass_b32 (o : Nat) (l2 : Int32) (I : aI) : Option (Int32 × aI) :=
  if (I (o + 13) 0) = (2 : Int32) then (
    am_b2 (f_X1_letFall o I) fun r2 I2 =>
    f_X1_takePass_b48 o r2 I2)
  else (
    f_X1_takePass_b48 o l2 I)
set_option maxRecDepth 100000 in
set_option maxHeartbeats 4000000 in
theorem ab_X1_takePass_b32 {K : aK} {sh : aS} {P : aP} {J : aJ} {o : Nat} (X : am_C K cX1_takePass 3 RX1 "takePass" ({ frames := 4, cells := 0, slots := 0, locals := 97 } : Room)) (hL : L1 sh P o) {r : Int32} {I9 : aI} (hR : am_R K (some .int) (some (.int r)) sh P I9 J 0 0) (l2 : Int32) (I : aI) (hf : f_X1_takePass_b32 o l2 I = some (r, I9)) : AW K 3 32 [(0, .ref o), (2, .int l2)] [] sh P I J 0 0 := by
  unfold f_X1_takePass_b32 at hf
  refine ar_aload_n X dX1_takePass_32 rfl 0 rfl ?_
  refine ar_getr X dX1_takePass_33 fg_X1_40 rfl (L1_s0 hL) (L1_p0_3 hL) ?_
  refine ar_geti X dX1_takePass_36 fg_X1_108 rfl (L1_s13 hL) ?_
  refine ar_iconst (v := 2) X dX1_takePass_39 (by decide) ?_
  refine ar_icmp_ne (tgt := 48) X dX1_takePass_40 (by decide) hf (fun h1 hf => ?_) (fun h1 hf => ?_)
  · refine ar_aload_n X dX1_takePass_43 rfl 0 rfl ?_
    obtain ⟨r2, I2, h2, hf⟩ := am_b2_e hf
    refine ar_cVi (As := []) (st := []) X dX1_takePass_44 (am_X1_letFall hL h2) lk_X1_127 mt_X1_letFall mi_X1_letFall (L1_s0 hL) rfl rfl (Nat.le_of_ble_eq_true rfl) ⟨by decide, by decide⟩ ⟨Nat.zero_le _, Nat.zero_le _⟩ rfl ?_
    refine ar_istore_n X dX1_takePass_47 rfl (by decide) rfl ?_
    refine ar_lo [1, 0] rfl ?_
    exact ab_X1_takePass_b48 X hL hR r2 I2 hf
  · exact ab_X1_takePass_b48 X hL hR l2 I hf
def f_X1_takePass (o : Nat) (a1 : Int32) (I : aI) : Option (Int32 × aI) :=
  am_b1 (f_X4_hasSeat (o + 2) a1 I) fun r1 =>
  if r1 = 0 then (
    some ((-1 : Int32), I))
  else (
    if (I (o + 13) 0) = 0 then (
      am_b2 (f_X1_stepOut o a1 I) fun r4 I4 =>
      f_X1_takePass_b32 o r4 I4)
    else (
      f_X1_takePass_b32 o (-5 : Int32) I))
set_option maxRecDepth 100000 in
set_option maxHeartbeats 4000000 in
theorem am_X1_takePass {sh : aS} {P : aP} {I : aI} {J : aJ} {o : Nat} (hL : L1 sh P o) {a1 : Int32} {r : Int32} {I9 : aI} (hf : f_X1_takePass o a1 I = some (r, I9)) : AM yX1_takePass cX1_takePass 3 (some .int) 4 97 [.ref o, .int a1] sh P I J (some (.int r)) sh P I9 J 0 0 := by
  refine am_met (by decide +kernel) (Nat.le_of_ble_eq_true rfl) (fun K X hR => ?_)
  have X : am_C K cX1_takePass 3 RX1 "takePass" ({ frames := 4, cells := 0, slots := 0, locals := 97 } : Room) := X
  show AW K 3 0 [(0, .ref o), (1, .int a1)] [] sh P I J 0 0
  unfold f_X1_takePass at hf
  refine ar_aload_n X dX1_takePass_0 rfl 0 rfl ?_
  refine ar_getr X dX1_takePass_1 fg_X1_26 rfl (L1_s0 hL) (L1_p0_1 hL) ?_
  refine ar_iload_n X dX1_takePass_4 rfl 1 rfl ?_
  obtain ⟨r1, h1, hf⟩ := am_b1_e hf
  refine ar_cVi (As := [.int a1]) (st := []) X dX1_takePass_5 (am_X4_hasSeat (L1_c2 hL) h1) lk_X1_105 mt_X4_hasSeat mi_X4_hasSeat (L1_s2 hL) rfl rfl (Nat.le_of_ble_eq_true rfl) ⟨by decide, by decide⟩ ⟨Nat.zero_le _, Nat.zero_le _⟩ rfl ?_
  refine ar_if_ne (tgt := 13) X dX1_takePass_8 (by decide) hf (fun h2 hf => ?_) (fun h2 hf => ?_)
  · refine ar_iconst (v := -1) X dX1_takePass_11 (by decide) ?_
    cases hf
    exact ar_iret X dX1_takePass_12 hR (Nat.le_refl _) (Nat.le_refl _)
  · refine ar_bipush (v := -5) X dX1_takePass_13 (by decide) ?_
    refine ar_istore_n X dX1_takePass_15 rfl (by decide) rfl ?_
    refine ar_aload_n X dX1_takePass_16 rfl 1 rfl ?_
    refine ar_getr X dX1_takePass_17 fg_X1_40 rfl (L1_s0 hL) (L1_p0_3 hL) ?_
    refine ar_geti X dX1_takePass_20 fg_X1_108 rfl (L1_s13 hL) ?_
    refine ar_if_ne (tgt := 32) X dX1_takePass_23 (by decide) hf (fun h3 hf => ?_) (fun h3 hf => ?_)
    · refine ar_aload_n X dX1_takePass_26 rfl 1 rfl ?_
      refine ar_iload_n X dX1_takePass_27 rfl 2 rfl ?_
      obtain ⟨r4, I4, h4, hf⟩ := am_b2_e hf
      refine ar_cVi (As := [.int a1]) (st := []) X dX1_takePass_28 (am_X1_stepOut hL h4) lk_X1_124 mt_X1_stepOut mi_X1_stepOut (L1_s0 hL) rfl rfl (Nat.le_of_ble_eq_true rfl) ⟨by decide, by decide⟩ ⟨Nat.zero_le _, Nat.zero_le _⟩ rfl ?_
      refine ar_istore_n X dX1_takePass_31 rfl (by decide) rfl ?_
      refine ar_lo [1, 0] rfl ?_
      exact ab_X1_takePass_b32 X hL hR r4 I4 hf
    · refine ar_lo [1, 0] rfl ?_
      exact ab_X1_takePass_b32 X hL hR (-5 : Int32) I hf
def f_X2_areFull (o : Nat)  (I : aI) : Option Int32 :=
  if (I o 0) < (12 : Int32) then (
    some (0 : Int32))
  else (
    some (1 : Int32))
set_option maxRecDepth 100000 in
set_option maxHeartbeats 4000000 in
theorem am_X2_areFull {sh : aS} {P : aP} {I : aI} {J : aJ} {o : Nat} (hL : L2 sh P o)  {r : Int32} (hf : f_X2_areFull o I = some r) : AM yX2_areFull cX2_areFull 1 (some .boolean) 0 0 [.ref o] sh P I J (some (.int r)) sh P I J 0 0 := by
  refine am_met (by decide +kernel) (Nat.le_of_ble_eq_true rfl) (fun K X hR => ?_)
  have X : am_C K cX2_areFull 1 RX2 "areFull" ({ frames := 0, cells := 0, slots := 0, locals := 0 } : Room) := X
  show AW K 1 0 [(0, .ref o)] [] sh P I J 0 0
  unfold f_X2_areFull at hf
  refine ar_aload_n X dX2_areFull_0 rfl 0 rfl ?_
  refine ar_geti X dX2_areFull_1 fg_X2_24 rfl (L2_s0 hL) ?_
  refine ar_bipush (v := 12) X dX2_areFull_4 (by decide) ?_
  refine ar_icmp_lt (tgt := 13) X dX2_areFull_6 (by decide) hf (fun h1 hf => ?_) (fun h1 hf => ?_)
  · refine ar_iconst (v := 0) X dX2_areFull_13 (by decide) ?_
    cases hf
    exact ar_zret X dX2_areFull_14 rfl hR (Nat.le_refl _) (Nat.le_refl _)
  · refine ar_iconst (v := 1) X dX2_areFull_9 (by decide) ?_
    refine ar_goto (tgt := 14) X dX2_areFull_10 (by decide) ?_
    cases hf
    exact ar_zret X dX2_areFull_14 rfl hR (Nat.le_refl _) (Nat.le_refl _)
def f_X2_add (o : Nat) (a1 : Int32) (a2 : Int32) (I : aI) : Option (Int32 × aI) :=
  am_b1 (f_X2_areFull o I) fun r1 =>
  if r1 = 0 then (
    am_g (am_ok (I o 0) 12) (am_let (am_w I (o + 1) (Int32.toNatClampNeg (I o 0)) a1) fun I3 =>
    am_g (am_ok (I3 o 0) 12) (am_let (am_w I3 (o + 2) (Int32.toNatClampNeg (I3 o 0)) a2) fun I4 =>
    am_g (am_ok (I4 o 0) 12) (am_let (am_w I4 (o + 3) (Int32.toNatClampNeg (I4 o 0)) (0 : Int32)) fun I5 =>
    am_g (am_ok (I5 o 0) 12) (am_let (am_w I5 (o + 4) (Int32.toNatClampNeg (I5 o 0)) (0 : Int32)) fun I6 =>
    am_let (am_w I6 o 0 ((I6 o 0) + (1 : Int32))) fun I7 =>
    some (((I7 o 0) - (1 : Int32)), I7))))))
  else (
    some ((-4 : Int32), I))
set_option maxRecDepth 100000 in
set_option maxHeartbeats 4000000 in
theorem am_X2_add {sh : aS} {P : aP} {I : aI} {J : aJ} {o : Nat} (hL : L2 sh P o) {a1 : Int32} {a2 : Int32} {r : Int32} {I9 : aI} (hf : f_X2_add o a1 a2 I = some (r, I9)) : AM yX2_add cX2_add 3 (some .int) 1 20 [.ref o, .int a1, .int a2] sh P I J (some (.int r)) sh P I9 J 0 0 := by
  refine am_met (by decide +kernel) (Nat.le_of_ble_eq_true rfl) (fun K X hR => ?_)
  have X : am_C K cX2_add 3 RX2 "add" ({ frames := 1, cells := 0, slots := 0, locals := 20 } : Room) := X
  show AW K 3 0 [(0, .ref o), (1, .int a1), (2, .int a2)] [] sh P I J 0 0
  unfold f_X2_add at hf
  refine ar_aload_n X dX2_add_0 rfl 0 rfl ?_
  obtain ⟨r1, h1, hf⟩ := am_b1_e hf
  refine ar_cVi (As := []) (st := []) X dX2_add_1 (am_X2_areFull hL h1) lk_X2_35 mt_X2_areFull mi_X2_areFull (L2_s0 hL) rfl rfl (Nat.le_of_ble_eq_true rfl) ⟨by decide, by decide⟩ ⟨Nat.zero_le _, Nat.zero_le _⟩ rfl ?_
  refine ar_if_eq (tgt := 10) X dX2_add_4 (by decide) hf (fun h2 hf => ?_) (fun h2 hf => ?_)
  · refine ar_aload_n X dX2_add_10 rfl 0 rfl ?_
    refine ar_getr X dX2_add_11 fg_X2_9 rfl (L2_s0 hL) (L2_p0_2 hL) ?_
    refine ar_aload_n X dX2_add_14 rfl 0 rfl ?_
    refine ar_geti X dX2_add_15 fg_X2_24 rfl (L2_s0 hL) ?_
    refine ar_iload_n X dX2_add_18 rfl 1 rfl ?_
    refine ar_iast X dX2_add_19 (L2_s1 hL) hf (fun I3 hf => ?_)
    refine ar_aload_n X dX2_add_20 rfl 0 rfl ?_
    refine ar_getr X dX2_add_21 fg_X2_15 rfl (L2_s0 hL) (L2_p0_3 hL) ?_
    refine ar_aload_n X dX2_add_24 rfl 0 rfl ?_
    refine ar_geti X dX2_add_25 fg_X2_24 rfl (L2_s0 hL) ?_
    refine ar_iload_n X dX2_add_28 rfl 2 rfl ?_
    refine ar_iast X dX2_add_29 (L2_s2 hL) hf (fun I4 hf => ?_)
    refine ar_aload_n X dX2_add_30 rfl 0 rfl ?_
    refine ar_getr X dX2_add_31 fg_X2_18 rfl (L2_s0 hL) (L2_p0_4 hL) ?_
    refine ar_aload_n X dX2_add_34 rfl 0 rfl ?_
    refine ar_geti X dX2_add_35 fg_X2_24 rfl (L2_s0 hL) ?_
    refine ar_iconst (v := 0) X dX2_add_38 (by decide) ?_
    refine ar_iast X dX2_add_39 (L2_s3 hL) hf (fun I5 hf => ?_)
    refine ar_aload_n X dX2_add_40 rfl 0 rfl ?_
    refine ar_getr X dX2_add_41 fg_X2_21 rfl (L2_s0 hL) (L2_p0_5 hL) ?_
    refine ar_aload_n X dX2_add_44 rfl 0 rfl ?_
    refine ar_geti X dX2_add_45 fg_X2_24 rfl (L2_s0 hL) ?_
    refine ar_iconst (v := 0) X dX2_add_48 (by decide) ?_
    refine ar_iast X dX2_add_49 (L2_s4 hL) hf (fun I6 hf => ?_)
    refine ar_aload_n X dX2_add_50 rfl 0 rfl ?_
    refine ar_dup X dX2_add_51 rfl ?_
    refine ar_geti X dX2_add_52 fg_X2_24 rfl (L2_s0 hL) ?_
    refine ar_iconst (v := 1) X dX2_add_55 (by decide) ?_
    refine ar_iadd X dX2_add_56 ?_
    refine ar_puti X dX2_add_57 fd_X2_24 rfl ⟨rfl, rfl⟩ (L2_s0 hL) hf (fun I7 hf => ?_)
    refine ar_aload_n X dX2_add_60 rfl 0 rfl ?_
    refine ar_geti X dX2_add_61 fg_X2_24 rfl (L2_s0 hL) ?_
    refine ar_iconst (v := 1) X dX2_add_64 (by decide) ?_
    refine ar_isub X dX2_add_65 ?_
    cases hf
    exact ar_iret X dX2_add_66 hR (Nat.le_refl _) (Nat.le_refl _)
  · refine ar_bipush (v := -4) X dX2_add_7 (by decide) ?_
    cases hf
    exact ar_iret X dX2_add_9 hR (Nat.le_refl _) (Nat.le_refl _)
def f_X2_colourOf (o : Nat) (a1 : Int32) (I : aI) : Option Int32 :=
  am_b1 (f_X2_hasLot o a1 I) fun r1 =>
  if r1 = 0 then (
    some (-6 : Int32))
  else (
    am_g (am_ok a1 12) (
    some (I (o + 1) (Int32.toNatClampNeg a1))))
set_option maxRecDepth 100000 in
set_option maxHeartbeats 4000000 in
theorem am_X2_colourOf {sh : aS} {P : aP} {I : aI} {J : aJ} {o : Nat} (hL : L2 sh P o) {a1 : Int32} {r : Int32} (hf : f_X2_colourOf o a1 I = some r) : AM yX2_colourOf cX2_colourOf 2 (some .int) 1 21 [.ref o, .int a1] sh P I J (some (.int r)) sh P I J 0 0 := by
  refine am_met (by decide +kernel) (Nat.le_of_ble_eq_true rfl) (fun K X hR => ?_)
  have X : am_C K cX2_colourOf 2 RX2 "colourOf" ({ frames := 1, cells := 0, slots := 0, locals := 21 } : Room) := X
  show AW K 2 0 [(0, .ref o), (1, .int a1)] [] sh P I J 0 0
  unfold f_X2_colourOf at hf
  refine ar_aload_n X dX2_colourOf_0 rfl 0 rfl ?_
  refine ar_iload_n X dX2_colourOf_1 rfl 1 rfl ?_
  obtain ⟨r1, h1, hf⟩ := am_b1_e hf
  refine ar_cVi (As := [.int a1]) (st := []) X dX2_colourOf_2 (am_X2_hasLot hL h1) lk_X2_39 mt_X2_hasLot mi_X2_hasLot (L2_s0 hL) rfl rfl (Nat.le_of_ble_eq_true rfl) ⟨by decide, by decide⟩ ⟨Nat.zero_le _, Nat.zero_le _⟩ rfl ?_
  refine ar_if_eq (tgt := 17) X dX2_colourOf_5 (by decide) hf (fun h2 hf => ?_) (fun h2 hf => ?_)
  · refine ar_bipush (v := -6) X dX2_colourOf_17 (by decide) ?_
    cases hf
    exact ar_iret X dX2_colourOf_19 hR (Nat.le_refl _) (Nat.le_refl _)
  · refine ar_aload_n X dX2_colourOf_8 rfl 0 rfl ?_
    refine ar_getr X dX2_colourOf_9 fg_X2_9 rfl (L2_s0 hL) (L2_p0_2 hL) ?_
    refine ar_iload_n X dX2_colourOf_12 rfl 1 rfl ?_
    refine ar_iald X dX2_colourOf_13 (L2_s1 hL) hf (fun hf => ?_)
    refine ar_goto (tgt := 19) X dX2_colourOf_14 (by decide) ?_
    cases hf
    exact ar_iret X dX2_colourOf_19 hR (Nat.le_refl _) (Nat.le_refl _)
def f_X2_ownedBy_h4 (o : Nat) : Nat → Int32 → Int32 → Int32 → aI → Option Int32
  | 0, _, _, _, _ => none
  | n + 1, l1, l2, l3, I =>
    if (I o 1) ≤ l3 then (
      some l2)
    else (
      am_b1 (f_X2_owns o l1 l3 I) fun r2 =>
      if r2 = 0 then (
        f_X2_ownedBy_h4 o n l1 l2 (l3 + 1) I)
      else (
        am_let (l2 ||| (am_shl (1 : Int32) l3)) fun x4 =>
        f_X2_ownedBy_h4 o n l1 x4 (l3 + 1) I))
set_option maxRecDepth 100000 in
set_option maxHeartbeats 4000000 in
theorem ab_X2_ownedBy_h4 {K : aK} {sh : aS} {P : aP} {I : aI} {J : aJ} {o : Nat} (X : am_C K cX2_ownedBy 4 RX2 "ownedBy" ({ frames := 1, cells := 0, slots := 0, locals := 22 } : Room)) (hL : L2 sh P o) {r : Int32} (hR : am_R K (some .int) (some (.int r)) sh P I J 0 0) : ∀ (n : Nat) (l1 : Int32) (l2 : Int32) (l3 : Int32) , f_X2_ownedBy_h4 o n l1 l2 l3 I = some r → AW K 4 4 [(0, .ref o), (1, .int l1), (2, .int l2), (3, .int l3)] [] sh P I J 0 0 := by
  intro n
  induction n with
  | zero =>
    intro l1 l2 l3 hf
    cases hf
  | succ n ih =>
    intro l1 l2 l3 hf
    rw [f_X2_ownedBy_h4] at hf
    refine ar_iload_n X dX2_ownedBy_4 rfl 3 rfl ?_
    refine ar_aload_n X dX2_ownedBy_5 rfl 0 rfl ?_
    refine ar_geti X dX2_ownedBy_6 fg_X2_28 rfl (L2_s0 hL) ?_
    refine ar_icmp_ge (tgt := 33) X dX2_ownedBy_9 (by decide) hf (fun h1 hf => ?_) (fun h1 hf => ?_)
    · refine ar_iload_n X dX2_ownedBy_33 rfl 2 rfl ?_
      cases hf
      exact ar_iret X dX2_ownedBy_34 hR (Nat.le_refl _) (Nat.le_refl _)
    · refine ar_aload_n X dX2_ownedBy_12 rfl 0 rfl ?_
      refine ar_iload_n X dX2_ownedBy_13 rfl 1 rfl ?_
      refine ar_iload_n X dX2_ownedBy_14 rfl 3 rfl ?_
      obtain ⟨r2, h2, hf⟩ := am_b1_e hf
      refine ar_cVi (As := [.int l1, .int l3]) (st := []) X dX2_ownedBy_15 (am_X2_owns hL h2) lk_X2_47 mt_X2_owns mi_X2_owns (L2_s0 hL) rfl rfl (Nat.le_of_ble_eq_true rfl) ⟨by decide, by decide⟩ ⟨Nat.zero_le _, Nat.zero_le _⟩ rfl ?_
      refine ar_if_eq (tgt := 27) X dX2_ownedBy_18 (by decide) hf (fun h3 hf => ?_) (fun h3 hf => ?_)
      · refine ar_iinc (j := 3) (v := (l3 + 1)) X dX2_ownedBy_27 rfl rfl (by decide) rfl ?_
        refine ar_goto (tgt := 4) X dX2_ownedBy_30 (by decide) ?_
        refine ar_lo [1, 2, 3, 0] rfl ?_
        exact ih l1 l2 (l3 + 1) hf
      · refine ar_iload_n X dX2_ownedBy_21 rfl 2 rfl ?_
        refine ar_iconst (v := 1) X dX2_ownedBy_22 (by decide) ?_
        refine ar_iload_n X dX2_ownedBy_23 rfl 3 rfl ?_
        refine ar_ishl X dX2_ownedBy_24 ?_
        refine ar_ior X dX2_ownedBy_25 ?_
        refine ar_letI hf (fun x4 hf => ?_)
        refine ar_istore_n X dX2_ownedBy_26 rfl (by decide) rfl ?_
        refine ar_iinc (j := 3) (v := (l3 + 1)) X dX2_ownedBy_27 rfl rfl (by decide) rfl ?_
        refine ar_goto (tgt := 4) X dX2_ownedBy_30 (by decide) ?_
        refine ar_lo [2, 3, 1, 0] rfl ?_
        exact ih l1 x4 (l3 + 1) hf
def f_X2_ownedBy (o : Nat) (a1 : Int32) (I : aI) : Option Int32 :=
  f_X2_ownedBy_h4 o am_F a1 (0 : Int32) (0 : Int32) I
set_option maxRecDepth 100000 in
set_option maxHeartbeats 4000000 in
theorem am_X2_ownedBy {sh : aS} {P : aP} {I : aI} {J : aJ} {o : Nat} (hL : L2 sh P o) {a1 : Int32} {r : Int32} (hf : f_X2_ownedBy o a1 I = some r) : AM yX2_ownedBy cX2_ownedBy 4 (some .int) 1 22 [.ref o, .int a1] sh P I J (some (.int r)) sh P I J 0 0 := by
  refine am_met (by decide +kernel) (Nat.le_of_ble_eq_true rfl) (fun K X hR => ?_)
  have X : am_C K cX2_ownedBy 4 RX2 "ownedBy" ({ frames := 1, cells := 0, slots := 0, locals := 22 } : Room) := X
  show AW K 4 0 [(0, .ref o), (1, .int a1)] [] sh P I J 0 0
  unfold f_X2_ownedBy at hf
  refine ar_iconst (v := 0) X dX2_ownedBy_0 (by decide) ?_
  refine ar_istore_n X dX2_ownedBy_1 rfl (by decide) rfl ?_
  refine ar_iconst (v := 0) X dX2_ownedBy_2 (by decide) ?_
  refine ar_istore_n X dX2_ownedBy_3 rfl (by decide) rfl ?_
  refine ar_lo [2, 3, 1, 0] rfl ?_
  exact ab_X2_ownedBy_h4 X hL hR am_F a1 (0 : Int32) (0 : Int32) hf
def f_X2_ownersOf (o : Nat) (a1 : Int32) (I : aI) : Option Int32 :=
  am_b1 (f_X2_hasLot o a1 I) fun r1 =>
  if r1 = 0 then (
    some (0 : Int32))
  else (
    am_g (am_ok a1 12) (
    some (I (o + 3) (Int32.toNatClampNeg a1))))
set_option maxRecDepth 100000 in
set_option maxHeartbeats 4000000 in
theorem am_X2_ownersOf {sh : aS} {P : aP} {I : aI} {J : aJ} {o : Nat} (hL : L2 sh P o) {a1 : Int32} {r : Int32} (hf : f_X2_ownersOf o a1 I = some r) : AM yX2_ownersOf cX2_ownersOf 2 (some .int) 1 21 [.ref o, .int a1] sh P I J (some (.int r)) sh P I J 0 0 := by
  refine am_met (by decide +kernel) (Nat.le_of_ble_eq_true rfl) (fun K X hR => ?_)
  have X : am_C K cX2_ownersOf 2 RX2 "ownersOf" ({ frames := 1, cells := 0, slots := 0, locals := 21 } : Room) := X
  show AW K 2 0 [(0, .ref o), (1, .int a1)] [] sh P I J 0 0
  unfold f_X2_ownersOf at hf
  refine ar_aload_n X dX2_ownersOf_0 rfl 0 rfl ?_
  refine ar_iload_n X dX2_ownersOf_1 rfl 1 rfl ?_
  obtain ⟨r1, h1, hf⟩ := am_b1_e hf
  refine ar_cVi (As := [.int a1]) (st := []) X dX2_ownersOf_2 (am_X2_hasLot hL h1) lk_X2_39 mt_X2_hasLot mi_X2_hasLot (L2_s0 hL) rfl rfl (Nat.le_of_ble_eq_true rfl) ⟨by decide, by decide⟩ ⟨Nat.zero_le _, Nat.zero_le _⟩ rfl ?_
  refine ar_if_eq (tgt := 17) X dX2_ownersOf_5 (by decide) hf (fun h2 hf => ?_) (fun h2 hf => ?_)
  · refine ar_iconst (v := 0) X dX2_ownersOf_17 (by decide) ?_
    cases hf
    exact ar_iret X dX2_ownersOf_18 hR (Nat.le_refl _) (Nat.le_refl _)
  · refine ar_aload_n X dX2_ownersOf_8 rfl 0 rfl ?_
    refine ar_getr X dX2_ownersOf_9 fg_X2_18 rfl (L2_s0 hL) (L2_p0_4 hL) ?_
    refine ar_iload_n X dX2_ownersOf_12 rfl 1 rfl ?_
    refine ar_iald X dX2_ownersOf_13 (L2_s3 hL) hf (fun hf => ?_)
    refine ar_goto (tgt := 18) X dX2_ownersOf_14 (by decide) ?_
    cases hf
    exact ar_iret X dX2_ownersOf_18 hR (Nat.le_refl _) (Nat.le_refl _)
def f_X2_priceOf (o : Nat) (a1 : Int32) (I : aI) : Option Int32 :=
  am_b1 (f_X2_hasLot o a1 I) fun r1 =>
  if r1 = 0 then (
    some (-6 : Int32))
  else (
    am_g (am_ok a1 12) (
    if (I (o + 3) (Int32.toNatClampNeg a1)) = 0 then (
      some (-6 : Int32))
    else (
      am_g (am_ok a1 12) (
      some (I (o + 4) (Int32.toNatClampNeg a1))))))
set_option maxRecDepth 100000 in
set_option maxHeartbeats 4000000 in
theorem am_X2_priceOf {sh : aS} {P : aP} {I : aI} {J : aJ} {o : Nat} (hL : L2 sh P o) {a1 : Int32} {r : Int32} (hf : f_X2_priceOf o a1 I = some r) : AM yX2_priceOf cX2_priceOf 2 (some .int) 1 21 [.ref o, .int a1] sh P I J (some (.int r)) sh P I J 0 0 := by
  refine am_met (by decide +kernel) (Nat.le_of_ble_eq_true rfl) (fun K X hR => ?_)
  have X : am_C K cX2_priceOf 2 RX2 "priceOf" ({ frames := 1, cells := 0, slots := 0, locals := 21 } : Room) := X
  show AW K 2 0 [(0, .ref o), (1, .int a1)] [] sh P I J 0 0
  unfold f_X2_priceOf at hf
  refine ar_aload_n X dX2_priceOf_0 rfl 0 rfl ?_
  refine ar_iload_n X dX2_priceOf_1 rfl 1 rfl ?_
  obtain ⟨r1, h1, hf⟩ := am_b1_e hf
  refine ar_cVi (As := [.int a1]) (st := []) X dX2_priceOf_2 (am_X2_hasLot hL h1) lk_X2_39 mt_X2_hasLot mi_X2_hasLot (L2_s0 hL) rfl rfl (Nat.le_of_ble_eq_true rfl) ⟨by decide, by decide⟩ ⟨Nat.zero_le _, Nat.zero_le _⟩ rfl ?_
  refine ar_if_eq (tgt := 26) X dX2_priceOf_5 (by decide) hf (fun h2 hf => ?_) (fun h2 hf => ?_)
  · refine ar_bipush (v := -6) X dX2_priceOf_26 (by decide) ?_
    cases hf
    exact ar_iret X dX2_priceOf_28 hR (Nat.le_refl _) (Nat.le_refl _)
  · refine ar_aload_n X dX2_priceOf_8 rfl 0 rfl ?_
    refine ar_getr X dX2_priceOf_9 fg_X2_18 rfl (L2_s0 hL) (L2_p0_4 hL) ?_
    refine ar_iload_n X dX2_priceOf_12 rfl 1 rfl ?_
    refine ar_iald X dX2_priceOf_13 (L2_s3 hL) hf (fun hf => ?_)
    refine ar_if_eq (tgt := 26) X dX2_priceOf_14 (by decide) hf (fun h3 hf => ?_) (fun h3 hf => ?_)
    · refine ar_bipush (v := -6) X dX2_priceOf_26 (by decide) ?_
      cases hf
      exact ar_iret X dX2_priceOf_28 hR (Nat.le_refl _) (Nat.le_refl _)
    · refine ar_aload_n X dX2_priceOf_17 rfl 0 rfl ?_
      refine ar_getr X dX2_priceOf_18 fg_X2_21 rfl (L2_s0 hL) (L2_p0_5 hL) ?_
      refine ar_iload_n X dX2_priceOf_21 rfl 1 rfl ?_
      refine ar_iald X dX2_priceOf_22 (L2_s4 hL) hf (fun hf => ?_)
      refine ar_goto (tgt := 28) X dX2_priceOf_23 (by decide) ?_
      cases hf
      exact ar_iret X dX2_priceOf_28 hR (Nat.le_refl _) (Nat.le_refl _)
def f_X2_stateOf (o : Nat) (a1 : Int32) (I : aI) : Option Int32 :=
  if a1 < (I o 1) then (
    am_b1 (f_X2_ownersOf o a1 I) fun r2 =>
    if r2 = 0 then (
      some (2 : Int32))
    else (
      some (1 : Int32)))
  else (
    some (0 : Int32))
set_option maxRecDepth 100000 in
set_option maxHeartbeats 4000000 in
theorem am_X2_stateOf {sh : aS} {P : aP} {I : aI} {J : aJ} {o : Nat} (hL : L2 sh P o) {a1 : Int32} {r : Int32} (hf : f_X2_stateOf o a1 I = some r) : AM yX2_stateOf cX2_stateOf 2 (some .int) 2 42 [.ref o, .int a1] sh P I J (some (.int r)) sh P I J 0 0 := by
  refine am_met (by decide +kernel) (Nat.le_of_ble_eq_true rfl) (fun K X hR => ?_)
  have X : am_C K cX2_stateOf 2 RX2 "stateOf" ({ frames := 2, cells := 0, slots := 0, locals := 42 } : Room) := X
  show AW K 2 0 [(0, .ref o), (1, .int a1)] [] sh P I J 0 0
  unfold f_X2_stateOf at hf
  refine ar_iload_n X dX2_stateOf_0 rfl 1 rfl ?_
  refine ar_aload_n X dX2_stateOf_1 rfl 0 rfl ?_
  refine ar_geti X dX2_stateOf_2 fg_X2_28 rfl (L2_s0 hL) ?_
  refine ar_icmp_lt (tgt := 10) X dX2_stateOf_5 (by decide) hf (fun h1 hf => ?_) (fun h1 hf => ?_)
  · refine ar_aload_n X dX2_stateOf_10 rfl 0 rfl ?_
    refine ar_iload_n X dX2_stateOf_11 rfl 1 rfl ?_
    obtain ⟨r2, h2, hf⟩ := am_b1_e hf
    refine ar_cVi (As := [.int a1]) (st := []) X dX2_stateOf_12 (am_X2_ownersOf hL h2) lk_X2_43 mt_X2_ownersOf mi_X2_ownersOf (L2_s0 hL) rfl rfl (Nat.le_of_ble_eq_true rfl) ⟨by decide, by decide⟩ ⟨Nat.zero_le _, Nat.zero_le _⟩ rfl ?_
    refine ar_if_eq (tgt := 22) X dX2_stateOf_15 (by decide) hf (fun h3 hf => ?_) (fun h3 hf => ?_)
    · refine ar_iconst (v := 2) X dX2_stateOf_22 (by decide) ?_
      cases hf
      exact ar_iret X dX2_stateOf_23 hR (Nat.le_refl _) (Nat.le_refl _)
    · refine ar_iconst (v := 1) X dX2_stateOf_18 (by decide) ?_
      refine ar_goto (tgt := 23) X dX2_stateOf_19 (by decide) ?_
      cases hf
      exact ar_iret X dX2_stateOf_23 hR (Nat.le_refl _) (Nat.le_refl _)
  · refine ar_iconst (v := 0) X dX2_stateOf_8 (by decide) ?_
    cases hf
    exact ar_iret X dX2_stateOf_9 hR (Nat.le_refl _) (Nat.le_refl _)
end
