noncomputable section
def f_J6_bitCount_0f7a4  (a0 : Int32) : Option Int32 :=
  am_let (a0 - ((am_ushr a0 (1 : Int32)) &&& (1431655765 : Int32))) fun x1 =>
  am_let ((x1 &&& (858993459 : Int32)) + ((am_ushr x1 (2 : Int32)) &&& (858993459 : Int32))) fun x2 =>
  am_let ((x2 + (am_ushr x2 (4 : Int32))) &&& (252645135 : Int32)) fun x3 =>
  am_let (x3 + (am_ushr x3 (8 : Int32))) fun x4 =>
  am_let (x4 + (am_ushr x4 (16 : Int32))) fun x5 =>
  some (x5 &&& (63 : Int32))
set_option maxRecDepth 100000 in
set_option maxHeartbeats 4000000 in
theorem am_J6_bitCount_0f7a4 {sh : aS} {P : aP} {I : aI} {J : aJ}   {a0 : Int32} {r : Int32} (hf : f_J6_bitCount_0f7a4 a0 = some r) : AM yJ6_bitCount_0f7a4 cJ6_bitCount_0f7a4 1 (some .int) 0 0 [.int a0] sh P I J (some (.int r)) sh P I J 0 0 := by
  refine am_met (by decide +kernel) (Nat.le_of_ble_eq_true rfl) (fun K X hR => ?_)
  have X : am_C K cJ6_bitCount_0f7a4 1 RJ6 "bitCount" ({ frames := 0, cells := 0, slots := 0, locals := 0 } : Room) := X
  show AW K 1 0 [(0, .int a0)] [] sh P I J 0 0
  unfold f_J6_bitCount_0f7a4 at hf
  refine ar_iload_n X dJ6_bitCount_0f7a4_0 rfl 0 rfl ?_
  refine ar_iload_n X dJ6_bitCount_0f7a4_1 rfl 0 rfl ?_
  refine ar_iconst (v := 1) X dJ6_bitCount_0f7a4_2 (by decide) ?_
  refine ar_iushr X dJ6_bitCount_0f7a4_3 ?_
  refine ar_ldcw X dJ6_bitCount_0f7a4_4 ct_J6_265 ?_
  refine ar_iand X dJ6_bitCount_0f7a4_7 ?_
  refine ar_isub X dJ6_bitCount_0f7a4_8 ?_
  refine ar_letI hf (fun x1 hf => ?_)
  refine ar_istore_n X dJ6_bitCount_0f7a4_9 rfl (by decide) rfl ?_
  refine ar_iload_n X dJ6_bitCount_0f7a4_10 rfl 0 rfl ?_
  refine ar_ldcw X dJ6_bitCount_0f7a4_11 ct_J6_266 ?_
  refine ar_iand X dJ6_bitCount_0f7a4_14 ?_
  refine ar_iload_n X dJ6_bitCount_0f7a4_15 rfl 0 rfl ?_
  refine ar_iconst (v := 2) X dJ6_bitCount_0f7a4_16 (by decide) ?_
  refine ar_iushr X dJ6_bitCount_0f7a4_17 ?_
  refine ar_ldcw X dJ6_bitCount_0f7a4_18 ct_J6_266 ?_
  refine ar_iand X dJ6_bitCount_0f7a4_21 ?_
  refine ar_iadd X dJ6_bitCount_0f7a4_22 ?_
  refine ar_letI hf (fun x2 hf => ?_)
  refine ar_istore_n X dJ6_bitCount_0f7a4_23 rfl (by decide) rfl ?_
  refine ar_iload_n X dJ6_bitCount_0f7a4_24 rfl 0 rfl ?_
  refine ar_iload_n X dJ6_bitCount_0f7a4_25 rfl 0 rfl ?_
  refine ar_iconst (v := 4) X dJ6_bitCount_0f7a4_26 (by decide) ?_
  refine ar_iushr X dJ6_bitCount_0f7a4_27 ?_
  refine ar_iadd X dJ6_bitCount_0f7a4_28 ?_
  refine ar_ldcw X dJ6_bitCount_0f7a4_29 ct_J6_267 ?_
  refine ar_iand X dJ6_bitCount_0f7a4_32 ?_
  refine ar_letI hf (fun x3 hf => ?_)
  refine ar_istore_n X dJ6_bitCount_0f7a4_33 rfl (by decide) rfl ?_
  refine ar_iload_n X dJ6_bitCount_0f7a4_34 rfl 0 rfl ?_
  refine ar_iload_n X dJ6_bitCount_0f7a4_35 rfl 0 rfl ?_
  refine ar_bipush (v := 8) X dJ6_bitCount_0f7a4_36 (by decide) ?_
  refine ar_iushr X dJ6_bitCount_0f7a4_38 ?_
  refine ar_iadd X dJ6_bitCount_0f7a4_39 ?_
  refine ar_letI hf (fun x4 hf => ?_)
  refine ar_istore_n X dJ6_bitCount_0f7a4_40 rfl (by decide) rfl ?_
  refine ar_iload_n X dJ6_bitCount_0f7a4_41 rfl 0 rfl ?_
  refine ar_iload_n X dJ6_bitCount_0f7a4_42 rfl 0 rfl ?_
  refine ar_bipush (v := 16) X dJ6_bitCount_0f7a4_43 (by decide) ?_
  refine ar_iushr X dJ6_bitCount_0f7a4_45 ?_
  refine ar_iadd X dJ6_bitCount_0f7a4_46 ?_
  refine ar_letI hf (fun x5 hf => ?_)
  refine ar_istore_n X dJ6_bitCount_0f7a4_47 rfl (by decide) rfl ?_
  refine ar_iload_n X dJ6_bitCount_0f7a4_48 rfl 0 rfl ?_
  refine ar_bipush (v := 63) X dJ6_bitCount_0f7a4_49 (by decide) ?_
  refine ar_iand X dJ6_bitCount_0f7a4_51 ?_
  cases hf
  exact ar_iret X dJ6_bitCount_0f7a4_52 hR (Nat.le_refl _) (Nat.le_refl _)
def f_X6_within  (a0 : Int32) (a1 : Int32) (a2 : Int32) : Option Int32 :=
  if a0 < a1 then (
    some (0 : Int32))
  else (
    if a2 < a0 then (
      some (0 : Int32))
    else (
      some (1 : Int32)))
set_option maxRecDepth 100000 in
set_option maxHeartbeats 4000000 in
theorem am_X6_within {sh : aS} {P : aP} {I : aI} {J : aJ}   {a0 : Int32} {a1 : Int32} {a2 : Int32} {r : Int32} (hf : f_X6_within a0 a1 a2 = some r) : AM yX6_within cX6_within 3 (some .boolean) 0 0 [.int a0, .int a1, .int a2] sh P I J (some (.int r)) sh P I J 0 0 := by
  refine am_met (by decide +kernel) (Nat.le_of_ble_eq_true rfl) (fun K X hR => ?_)
  have X : am_C K cX6_within 3 RX6 "within" ({ frames := 0, cells := 0, slots := 0, locals := 0 } : Room) := X
  show AW K 3 0 [(0, .int a0), (1, .int a1), (2, .int a2)] [] sh P I J 0 0
  unfold f_X6_within at hf
  refine ar_iload_n X dX6_within_0 rfl 0 rfl ?_
  refine ar_iload_n X dX6_within_1 rfl 1 rfl ?_
  refine ar_icmp_lt (tgt := 14) X dX6_within_2 (by decide) hf (fun h1 hf => ?_) (fun h1 hf => ?_)
  · refine ar_iconst (v := 0) X dX6_within_14 (by decide) ?_
    cases hf
    exact ar_zret X dX6_within_15 rfl hR (Nat.le_refl _) (Nat.le_refl _)
  · refine ar_iload_n X dX6_within_5 rfl 0 rfl ?_
    refine ar_iload_n X dX6_within_6 rfl 2 rfl ?_
    refine ar_icmp_gt (tgt := 14) X dX6_within_7 (by decide) hf (fun h2 hf => ?_) (fun h2 hf => ?_)
    · refine ar_iconst (v := 0) X dX6_within_14 (by decide) ?_
      cases hf
      exact ar_zret X dX6_within_15 rfl hR (Nat.le_refl _) (Nat.le_refl _)
    · refine ar_iconst (v := 1) X dX6_within_10 (by decide) ?_
      refine ar_goto (tgt := 15) X dX6_within_11 (by decide) ?_
      cases hf
      exact ar_zret X dX6_within_15 rfl hR (Nat.le_refl _) (Nat.le_refl _)
def f_X0_bidOf (o : Nat) (a1 : Int32) (I : aI) : Option Int32 :=
  am_b1 (f_X6_within a1 (0 : Int32) (5 : Int32)) fun r1 =>
  if r1 = 0 then (
    some (-6 : Int32))
  else (
    am_g (am_ok a1 6) (
    some (I (o + 1) (Int32.toNatClampNeg a1))))
set_option maxRecDepth 100000 in
set_option maxHeartbeats 4000000 in
theorem am_X0_bidOf {sh : aS} {P : aP} {I : aI} {J : aJ} {o : Nat} (hL : L0 sh P o) {a1 : Int32} {r : Int32} (hf : f_X0_bidOf o a1 I = some r) : AM yX0_bidOf cX0_bidOf 2 (some .int) 1 22 [.ref o, .int a1] sh P I J (some (.int r)) sh P I J 0 0 := by
  refine am_met (by decide +kernel) (Nat.le_of_ble_eq_true rfl) (fun K X hR => ?_)
  have X : am_C K cX0_bidOf 2 RX0 "bidOf" ({ frames := 1, cells := 0, slots := 0, locals := 22 } : Room) := X
  show AW K 2 0 [(0, .ref o), (1, .int a1)] [] sh P I J 0 0
  unfold f_X0_bidOf at hf
  refine ar_iload_n X dX0_bidOf_0 rfl 1 rfl ?_
  refine ar_iconst (v := 0) X dX0_bidOf_1 (by decide) ?_
  refine ar_iconst (v := 5) X dX0_bidOf_2 (by decide) ?_
  obtain ⟨r1, h1, hf⟩ := am_b1_e hf
  refine ar_cSi (As := [.int a1, .int (0 : Int32), .int (5 : Int32)]) (st := []) X dX0_bidOf_3 (am_X6_within h1) lk_X0_47 mt_X6_within ms_X6_within rfl (Nat.le_of_ble_eq_true rfl) ⟨by decide, by decide⟩ ⟨Nat.zero_le _, Nat.zero_le _⟩ rfl ?_
  refine ar_if_eq (tgt := 18) X dX0_bidOf_6 (by decide) hf (fun h2 hf => ?_) (fun h2 hf => ?_)
  · refine ar_bipush (v := -6) X dX0_bidOf_18 (by decide) ?_
    cases hf
    exact ar_iret X dX0_bidOf_20 hR (Nat.le_refl _) (Nat.le_refl _)
  · refine ar_aload_n X dX0_bidOf_9 rfl 0 rfl ?_
    refine ar_getr X dX0_bidOf_10 fg_X0_9 rfl (L0_s0 hL) (L0_p0_8 hL) ?_
    refine ar_iload_n X dX0_bidOf_13 rfl 1 rfl ?_
    refine ar_iald X dX0_bidOf_14 (L0_s1 hL) hf (fun hf => ?_)
    refine ar_goto (tgt := 20) X dX0_bidOf_15 (by decide) ?_
    cases hf
    exact ar_iret X dX0_bidOf_20 hR (Nat.le_refl _) (Nat.le_refl _)
def f_X0_clear_h49 (o : Nat) : Nat → Int32 → aI → Option aI
  | 0, _, _ => none
  | n + 1, l1, I =>
    if (6 : Int32) ≤ l1 then (
      some I)
    else (
      am_g (am_ok l1 6) (am_let (am_w I (o + 1) (Int32.toNatClampNeg l1) (-6 : Int32)) fun I2 =>
      f_X0_clear_h49 o n (l1 + 1) I2))
set_option maxRecDepth 100000 in
set_option maxHeartbeats 4000000 in
theorem ab_X0_clear_h49 {K : aK} {sh : aS} {P : aP} {J : aJ} {o : Nat} (X : am_C K cX0_clear 2 RX0 "clear" ({ frames := 0, cells := 0, slots := 0, locals := 0 } : Room)) (hL : L0 sh P o) {I9 : aI} (hR : am_R K none none sh P I9 J 0 0) : ∀ (n : Nat) (l1 : Int32) (I : aI) , f_X0_clear_h49 o n l1 I = some I9 → AW K 2 49 [(0, .ref o), (1, .int l1)] [] sh P I J 0 0 := by
  intro n
  induction n with
  | zero =>
    intro l1 I hf
    cases hf
  | succ n ih =>
    intro l1 I hf
    rw [f_X0_clear_h49] at hf
    refine ar_iload_n X dX0_clear_49 rfl 1 rfl ?_
    refine ar_bipush (v := 6) X dX0_clear_50 (by decide) ?_
    refine ar_icmp_ge (tgt := 69) X dX0_clear_52 (by decide) hf (fun h1 hf => ?_) (fun h1 hf => ?_)
    · cases hf
      exact ar_vret X dX0_clear_69 hR (Nat.le_refl _) (Nat.le_refl _)
    · refine ar_aload_n X dX0_clear_55 rfl 0 rfl ?_
      refine ar_getr X dX0_clear_56 fg_X0_9 rfl (L0_s0 hL) (L0_p0_8 hL) ?_
      refine ar_iload_n X dX0_clear_59 rfl 1 rfl ?_
      refine ar_bipush (v := -6) X dX0_clear_60 (by decide) ?_
      refine ar_iast X dX0_clear_62 (L0_s1 hL) hf (fun I2 hf => ?_)
      refine ar_iinc (j := 1) (v := (l1 + 1)) X dX0_clear_63 rfl rfl (by decide) rfl ?_
      refine ar_goto (tgt := 49) X dX0_clear_66 (by decide) ?_
      refine ar_lo [1, 0] rfl ?_
      exact ih (l1 + 1) I2 hf
def f_X0_clear (o : Nat)  (I : aI) : Option aI :=
  am_let (am_w I o 0 (-6 : Int32)) fun I1 =>
  am_let (am_w I1 o 1 (-6 : Int32)) fun I2 =>
  am_let (am_w I2 o 2 (-6 : Int32)) fun I3 =>
  am_let (am_w I3 o 3 (-6 : Int32)) fun I4 =>
  am_let (am_w I4 o 4 (-6 : Int32)) fun I5 =>
  am_let (am_w I5 o 5 (-6 : Int32)) fun I6 =>
  am_let (am_w I6 o 6 (0 : Int32)) fun I7 =>
  am_let (am_w I7 o 7 (-6 : Int32)) fun I8 =>
  f_X0_clear_h49 o am_F (0 : Int32) I8
set_option maxRecDepth 100000 in
set_option maxHeartbeats 4000000 in
theorem am_X0_clear {sh : aS} {P : aP} {I : aI} {J : aJ} {o : Nat} (hL : L0 sh P o)  {I9 : aI} (hf : f_X0_clear o I = some I9) : AM yX0_clear cX0_clear 2 none 0 0 [.ref o] sh P I J none sh P I9 J 0 0 := by
  refine am_met (by decide +kernel) (Nat.le_of_ble_eq_true rfl) (fun K X hR => ?_)
  have X : am_C K cX0_clear 2 RX0 "clear" ({ frames := 0, cells := 0, slots := 0, locals := 0 } : Room) := X
  show AW K 2 0 [(0, .ref o)] [] sh P I J 0 0
  unfold f_X0_clear at hf
  refine ar_aload_n X dX0_clear_0 rfl 0 rfl ?_
  refine ar_bipush (v := -6) X dX0_clear_1 (by decide) ?_
  refine ar_puti X dX0_clear_3 fd_X0_18 rfl ⟨rfl, rfl⟩ (L0_s0 hL) hf (fun I1 hf => ?_)
  refine ar_aload_n X dX0_clear_6 rfl 0 rfl ?_
  refine ar_bipush (v := -6) X dX0_clear_7 (by decide) ?_
  refine ar_puti X dX0_clear_9 fd_X0_22 rfl ⟨rfl, rfl⟩ (L0_s0 hL) hf (fun I2 hf => ?_)
  refine ar_aload_n X dX0_clear_12 rfl 0 rfl ?_
  refine ar_bipush (v := -6) X dX0_clear_13 (by decide) ?_
  refine ar_puti X dX0_clear_15 fd_X0_25 rfl ⟨rfl, rfl⟩ (L0_s0 hL) hf (fun I3 hf => ?_)
  refine ar_aload_n X dX0_clear_18 rfl 0 rfl ?_
  refine ar_bipush (v := -6) X dX0_clear_19 (by decide) ?_
  refine ar_puti X dX0_clear_21 fd_X0_28 rfl ⟨rfl, rfl⟩ (L0_s0 hL) hf (fun I4 hf => ?_)
  refine ar_aload_n X dX0_clear_24 rfl 0 rfl ?_
  refine ar_bipush (v := -6) X dX0_clear_25 (by decide) ?_
  refine ar_puti X dX0_clear_27 fd_X0_31 rfl ⟨rfl, rfl⟩ (L0_s0 hL) hf (fun I5 hf => ?_)
  refine ar_aload_n X dX0_clear_30 rfl 0 rfl ?_
  refine ar_bipush (v := -6) X dX0_clear_31 (by decide) ?_
  refine ar_puti X dX0_clear_33 fd_X0_34 rfl ⟨rfl, rfl⟩ (L0_s0 hL) hf (fun I6 hf => ?_)
  refine ar_aload_n X dX0_clear_36 rfl 0 rfl ?_
  refine ar_iconst (v := 0) X dX0_clear_37 (by decide) ?_
  refine ar_puti X dX0_clear_38 fd_X0_37 rfl ⟨rfl, rfl⟩ (L0_s0 hL) hf (fun I7 hf => ?_)
  refine ar_aload_n X dX0_clear_41 rfl 0 rfl ?_
  refine ar_bipush (v := -6) X dX0_clear_42 (by decide) ?_
  refine ar_puti X dX0_clear_44 fd_X0_40 rfl ⟨rfl, rfl⟩ (L0_s0 hL) hf (fun I8 hf => ?_)
  refine ar_iconst (v := 0) X dX0_clear_47 (by decide) ?_
  refine ar_istore_n X dX0_clear_48 rfl (by decide) rfl ?_
  refine ar_lo [1, 0] rfl ?_
  exact ab_X0_clear_h49 X hL hR am_F (0 : Int32) I8 hf
def f_X0_goesOn (o : Nat)  (I : aI) : Option Int32 :=
  if (I o 0) = (-6 : Int32) then (
    some (0 : Int32))
  else (
    some (1 : Int32))
set_option maxRecDepth 100000 in
set_option maxHeartbeats 4000000 in
theorem am_X0_goesOn {sh : aS} {P : aP} {I : aI} {J : aJ} {o : Nat} (hL : L0 sh P o)  {r : Int32} (hf : f_X0_goesOn o I = some r) : AM yX0_goesOn cX0_goesOn 1 (some .boolean) 0 0 [.ref o] sh P I J (some (.int r)) sh P I J 0 0 := by
  refine am_met (by decide +kernel) (Nat.le_of_ble_eq_true rfl) (fun K X hR => ?_)
  have X : am_C K cX0_goesOn 1 RX0 "goesOn" ({ frames := 0, cells := 0, slots := 0, locals := 0 } : Room) := X
  show AW K 1 0 [(0, .ref o)] [] sh P I J 0 0
  unfold f_X0_goesOn at hf
  refine ar_aload_n X dX0_goesOn_0 rfl 0 rfl ?_
  refine ar_geti X dX0_goesOn_1 fg_X0_18 rfl (L0_s0 hL) ?_
  refine ar_bipush (v := -6) X dX0_goesOn_4 (by decide) ?_
  refine ar_icmp_eq (tgt := 13) X dX0_goesOn_6 (by decide) hf (fun h1 hf => ?_) (fun h1 hf => ?_)
  · refine ar_iconst (v := 0) X dX0_goesOn_13 (by decide) ?_
    cases hf
    exact ar_zret X dX0_goesOn_14 rfl hR (Nat.le_refl _) (Nat.le_refl _)
  · refine ar_iconst (v := 1) X dX0_goesOn_9 (by decide) ?_
    refine ar_goto (tgt := 14) X dX0_goesOn_10 (by decide) ?_
    cases hf
    exact ar_zret X dX0_goesOn_14 rfl hR (Nat.le_refl _) (Nat.le_refl _)
def f_X0_isOut (o : Nat) (a1 : Int32) (I : aI) : Option Int32 :=
  if ((am_shr (I o 6) a1) &&& (1 : Int32)) = (1 : Int32) then (
    some (1 : Int32))
  else (
    some (0 : Int32))
set_option maxRecDepth 100000 in
set_option maxHeartbeats 4000000 in
theorem am_X0_isOut {sh : aS} {P : aP} {I : aI} {J : aJ} {o : Nat} (hL : L0 sh P o) {a1 : Int32} {r : Int32} (hf : f_X0_isOut o a1 I = some r) : AM yX0_isOut cX0_isOut 2 (some .boolean) 0 0 [.ref o, .int a1] sh P I J (some (.int r)) sh P I J 0 0 := by
  refine am_met (by decide +kernel) (Nat.le_of_ble_eq_true rfl) (fun K X hR => ?_)
  have X : am_C K cX0_isOut 2 RX0 "isOut" ({ frames := 0, cells := 0, slots := 0, locals := 0 } : Room) := X
  show AW K 2 0 [(0, .ref o), (1, .int a1)] [] sh P I J 0 0
  unfold f_X0_isOut at hf
  refine ar_aload_n X dX0_isOut_0 rfl 0 rfl ?_
  refine ar_geti X dX0_isOut_1 fg_X0_37 rfl (L0_s0 hL) ?_
  refine ar_iload_n X dX0_isOut_4 rfl 1 rfl ?_
  refine ar_ishr X dX0_isOut_5 ?_
  refine ar_iconst (v := 1) X dX0_isOut_6 (by decide) ?_
  refine ar_iand X dX0_isOut_7 ?_
  refine ar_iconst (v := 1) X dX0_isOut_8 (by decide) ?_
  refine ar_icmp_ne (tgt := 16) X dX0_isOut_9 (by decide) hf (fun h1 hf => ?_) (fun h1 hf => ?_)
  · refine ar_iconst (v := 1) X dX0_isOut_12 (by decide) ?_
    refine ar_goto (tgt := 17) X dX0_isOut_13 (by decide) ?_
    cases hf
    exact ar_zret X dX0_isOut_17 rfl hR (Nat.le_refl _) (Nat.le_refl _)
  · refine ar_iconst (v := 0) X dX0_isOut_16 (by decide) ?_
    cases hf
    exact ar_zret X dX0_isOut_17 rfl hR (Nat.le_refl _) (Nat.le_refl _)
def f_X0_noteBid (o : Nat) (a1 : Int32) (a2 : Int32) (I : aI) : Option aI :=
  am_b1 (f_X6_within a1 (0 : Int32) (5 : Int32)) fun r1 =>
  if r1 = 0 then (
    some I)
  else (
    am_g (am_ok a1 6) (am_let (am_w I (o + 1) (Int32.toNatClampNeg a1) a2) fun I3 =>
    am_let (am_w I3 o 5 ((I3 o 5) + (1 : Int32))) fun I4 =>
    some I4))
set_option maxRecDepth 100000 in
set_option maxHeartbeats 4000000 in
theorem am_X0_noteBid {sh : aS} {P : aP} {I : aI} {J : aJ} {o : Nat} (hL : L0 sh P o) {a1 : Int32} {a2 : Int32} {I9 : aI} (hf : f_X0_noteBid o a1 a2 I = some I9) : AM yX0_noteBid cX0_noteBid 3 none 1 22 [.ref o, .int a1, .int a2] sh P I J none sh P I9 J 0 0 := by
  refine am_met (by decide +kernel) (Nat.le_of_ble_eq_true rfl) (fun K X hR => ?_)
  have X : am_C K cX0_noteBid 3 RX0 "noteBid" ({ frames := 1, cells := 0, slots := 0, locals := 22 } : Room) := X
  show AW K 3 0 [(0, .ref o), (1, .int a1), (2, .int a2)] [] sh P I J 0 0
  unfold f_X0_noteBid at hf
  refine ar_iload_n X dX0_noteBid_0 rfl 1 rfl ?_
  refine ar_iconst (v := 0) X dX0_noteBid_1 (by decide) ?_
  refine ar_iconst (v := 5) X dX0_noteBid_2 (by decide) ?_
  obtain ⟨r1, h1, hf⟩ := am_b1_e hf
  refine ar_cSi (As := [.int a1, .int (0 : Int32), .int (5 : Int32)]) (st := []) X dX0_noteBid_3 (am_X6_within h1) lk_X0_47 mt_X6_within ms_X6_within rfl (Nat.le_of_ble_eq_true rfl) ⟨by decide, by decide⟩ ⟨Nat.zero_le _, Nat.zero_le _⟩ rfl ?_
  refine ar_if_ne (tgt := 10) X dX0_noteBid_6 (by decide) hf (fun h2 hf => ?_) (fun h2 hf => ?_)
  · cases hf
    exact ar_vret X dX0_noteBid_9 hR (Nat.le_refl _) (Nat.le_refl _)
  · refine ar_aload_n X dX0_noteBid_10 rfl 0 rfl ?_
    refine ar_getr X dX0_noteBid_11 fg_X0_9 rfl (L0_s0 hL) (L0_p0_8 hL) ?_
    refine ar_iload_n X dX0_noteBid_14 rfl 1 rfl ?_
    refine ar_iload_n X dX0_noteBid_15 rfl 2 rfl ?_
    refine ar_iast X dX0_noteBid_16 (L0_s1 hL) hf (fun I3 hf => ?_)
    refine ar_aload_n X dX0_noteBid_17 rfl 0 rfl ?_
    refine ar_dup X dX0_noteBid_18 rfl ?_
    refine ar_geti X dX0_noteBid_19 fg_X0_34 rfl (L0_s0 hL) ?_
    refine ar_iconst (v := 1) X dX0_noteBid_22 (by decide) ?_
    refine ar_iadd X dX0_noteBid_23 ?_
    refine ar_puti X dX0_noteBid_24 fd_X0_34 rfl ⟨rfl, rfl⟩ (L0_s0 hL) hf (fun I4 hf => ?_)
    cases hf
    exact ar_vret X dX0_noteBid_27 hR (Nat.le_refl _) (Nat.le_refl _)
def f_X0_noteOut (o : Nat) (a1 : Int32) (I : aI) : Option aI :=
  am_let (am_w I o 6 ((I o 6) ||| (am_shl (1 : Int32) a1))) fun I1 =>
  some I1
set_option maxRecDepth 100000 in
set_option maxHeartbeats 4000000 in
theorem am_X0_noteOut {sh : aS} {P : aP} {I : aI} {J : aJ} {o : Nat} (hL : L0 sh P o) {a1 : Int32} {I9 : aI} (hf : f_X0_noteOut o a1 I = some I9) : AM yX0_noteOut cX0_noteOut 2 none 0 0 [.ref o, .int a1] sh P I J none sh P I9 J 0 0 := by
  refine am_met (by decide +kernel) (Nat.le_of_ble_eq_true rfl) (fun K X hR => ?_)
  have X : am_C K cX0_noteOut 2 RX0 "noteOut" ({ frames := 0, cells := 0, slots := 0, locals := 0 } : Room) := X
  show AW K 2 0 [(0, .ref o), (1, .int a1)] [] sh P I J 0 0
  unfold f_X0_noteOut at hf
  refine ar_aload_n X dX0_noteOut_0 rfl 0 rfl ?_
  refine ar_dup X dX0_noteOut_1 rfl ?_
  refine ar_geti X dX0_noteOut_2 fg_X0_37 rfl (L0_s0 hL) ?_
  refine ar_iconst (v := 1) X dX0_noteOut_5 (by decide) ?_
  refine ar_iload_n X dX0_noteOut_6 rfl 1 rfl ?_
  refine ar_ishl X dX0_noteOut_7 ?_
  refine ar_ior X dX0_noteOut_8 ?_
  refine ar_puti X dX0_noteOut_9 fd_X0_37 rfl ⟨rfl, rfl⟩ (L0_s0 hL) hf (fun I1 hf => ?_)
  cases hf
  exact ar_vret X dX0_noteOut_12 hR (Nat.le_refl _) (Nat.le_refl _)
def f_X0_start_b26 (o : Nat) (l1 : Int32) (l3 : Int32) (s0 : Int32) (I : aI) : Option aI :=
  am_let (am_w I o 2 s0) fun I1 =>
  if l1 = 0 then (
    am_let (am_w I1 o 4 l3) fun I3 =>
    am_let (am_w I3 o 5 (0 : Int32)) fun I4 =>
    some I4)
  else (
    am_let (am_w I1 o 4 (-6 : Int32)) fun I5 =>
    am_let (am_w I5 o 5 (0 : Int32)) fun I6 =>
    some I6)
set_option maxRecDepth 100000 in
set_option maxHeartbeats 4000000 in
theorem ab_X0_start_b26 {K : aK} {sh : aS} {P : aP} {J : aJ} {o : Nat} (X : am_C K cX0_start 4 RX0 "start" ({ frames := 1, cells := 0, slots := 0, locals := 21 } : Room)) (hL : L0 sh P o) {I9 : aI} (hR : am_R K none none sh P I9 J 0 0) (l1 : Int32) (l3 : Int32) (s0 : Int32) (I : aI) (hf : f_X0_start_b26 o l1 l3 s0 I = some I9) : AW K 4 26 [(0, .ref o), (1, .int l1), (3, .int l3)] [.int s0, .ref o] sh P I J 0 0 := by
  unfold f_X0_start_b26 at hf
  refine ar_puti X dX0_start_26 fd_X0_25 rfl ⟨rfl, rfl⟩ (L0_s0 hL) hf (fun I1 hf => ?_)
  refine ar_aload_n X dX0_start_29 rfl 0 rfl ?_
  refine ar_iload_n X dX0_start_30 rfl 1 rfl ?_
  refine ar_if_ne (tgt := 38) X dX0_start_31 (by decide) hf (fun h2 hf => ?_) (fun h2 hf => ?_)
  · refine ar_iload_n X dX0_start_34 rfl 2 rfl ?_
    refine ar_goto (tgt := 40) X dX0_start_35 (by decide) ?_
    refine ar_puti X dX0_start_40 fd_X0_31 rfl ⟨rfl, rfl⟩ (L0_s0 hL) hf (fun I3 hf => ?_)
    refine ar_aload_n X dX0_start_43 rfl 0 rfl ?_
    refine ar_iconst (v := 0) X dX0_start_44 (by decide) ?_
    refine ar_puti X dX0_start_45 fd_X0_34 rfl ⟨rfl, rfl⟩ (L0_s0 hL) hf (fun I4 hf => ?_)
    cases hf
    exact ar_vret X dX0_start_48 hR (Nat.le_refl _) (Nat.le_refl _)
  · refine ar_bipush (v := -6) X dX0_start_38 (by decide) ?_
    refine ar_puti X dX0_start_40 fd_X0_31 rfl ⟨rfl, rfl⟩ (L0_s0 hL) hf (fun I5 hf => ?_)
    refine ar_aload_n X dX0_start_43 rfl 0 rfl ?_
    refine ar_iconst (v := 0) X dX0_start_44 (by decide) ?_
    refine ar_puti X dX0_start_45 fd_X0_34 rfl ⟨rfl, rfl⟩ (L0_s0 hL) hf (fun I6 hf => ?_)
    cases hf
    exact ar_vret X dX0_start_48 hR (Nat.le_refl _) (Nat.le_refl _)
def f_X0_start (o : Nat) (a1 : Int32) (a2 : Int32) (a3 : Int32) (I : aI) : Option aI :=
  am_b1 (f_X0_clear o I) fun I1 =>
  am_let (am_w I1 o 0 a1) fun I2 =>
  am_let (am_w I2 o 1 a2) fun I3 =>
  if a1 = (2 : Int32) then (
    f_X0_start_b26 o a1 a3 a2 I3)
  else (
    f_X0_start_b26 o a1 a3 (-6 : Int32) I3)
set_option maxRecDepth 100000 in
set_option maxHeartbeats 4000000 in
theorem am_X0_start {sh : aS} {P : aP} {I : aI} {J : aJ} {o : Nat} (hL : L0 sh P o) {a1 : Int32} {a2 : Int32} {a3 : Int32} {I9 : aI} (hf : f_X0_start o a1 a2 a3 I = some I9) : AM yX0_start cX0_start 4 none 1 21 [.ref o, .int a1, .int a2, .int a3] sh P I J none sh P I9 J 0 0 := by
  refine am_met (by decide +kernel) (Nat.le_of_ble_eq_true rfl) (fun K X hR => ?_)
  have X : am_C K cX0_start 4 RX0 "start" ({ frames := 1, cells := 0, slots := 0, locals := 21 } : Room) := X
  show AW K 4 0 [(0, .ref o), (1, .int a1), (2, .int a2), (3, .int a3)] [] sh P I J 0 0
  unfold f_X0_start at hf
  refine ar_aload_n X dX0_start_0 rfl 0 rfl ?_
  obtain ⟨I1, h1, hf⟩ := am_b1_e hf
  refine ar_cVv (As := []) (st := []) X dX0_start_1 (am_X0_clear hL h1) lk_X0_15 mt_X0_clear mi_X0_clear (L0_s0 hL) rfl rfl (Nat.le_of_ble_eq_true rfl) ⟨by decide, by decide⟩ ⟨Nat.zero_le _, Nat.zero_le _⟩ rfl ?_
  refine ar_aload_n X dX0_start_4 rfl 0 rfl ?_
  refine ar_iload_n X dX0_start_5 rfl 1 rfl ?_
  refine ar_puti X dX0_start_6 fd_X0_18 rfl ⟨rfl, rfl⟩ (L0_s0 hL) hf (fun I2 hf => ?_)
  refine ar_aload_n X dX0_start_9 rfl 0 rfl ?_
  refine ar_iload_n X dX0_start_10 rfl 2 rfl ?_
  refine ar_puti X dX0_start_11 fd_X0_22 rfl ⟨rfl, rfl⟩ (L0_s0 hL) hf (fun I3 hf => ?_)
  refine ar_aload_n X dX0_start_14 rfl 0 rfl ?_
  refine ar_iload_n X dX0_start_15 rfl 1 rfl ?_
  refine ar_iconst (v := 2) X dX0_start_16 (by decide) ?_
  refine ar_icmp_ne (tgt := 24) X dX0_start_17 (by decide) hf (fun h4 hf => ?_) (fun h4 hf => ?_)
  · refine ar_iload_n X dX0_start_20 rfl 2 rfl ?_
    refine ar_goto (tgt := 26) X dX0_start_21 (by decide) ?_
    refine ar_lo [0, 1, 3] rfl ?_
    exact ab_X0_start_b26 X hL hR a1 a3 a2 I3 hf
  · refine ar_bipush (v := -6) X dX0_start_24 (by decide) ?_
    refine ar_lo [0, 1, 3] rfl ?_
    exact ab_X0_start_b26 X hL hR a1 a3 (-6 : Int32) I3 hf
def f_X0_takeOver (o : Nat) (w1 : Nat)  (I : aI) : Option aI :=
  am_let (am_w I o 0 (I w1 0)) fun I1 =>
  am_let (am_w I1 o 1 (I1 w1 1)) fun I2 =>
  am_let (am_w I2 o 2 (I2 w1 2)) fun I3 =>
  am_let (am_w I3 o 3 (I3 w1 3)) fun I4 =>
  am_let (am_w I4 o 4 (I4 w1 4)) fun I5 =>
  am_let (am_w I5 o 5 (I5 w1 5)) fun I6 =>
  am_let (am_w I6 o 6 (I6 w1 6)) fun I7 =>
  am_let (am_w I7 o 7 (I7 w1 7)) fun I8 =>
  am_let (am_cpy I8 (w1 + 1) (o + 1) 6) fun I9 =>
  some I9
set_option maxRecDepth 100000 in
set_option maxHeartbeats 4000000 in
theorem am_X0_takeOver {sh : aS} {P : aP} {I : aI} {J : aJ} {o : Nat} {w1 : Nat} (hL : L0 sh P o) (hW1 : L0 sh P w1)  {I9 : aI} (hf : f_X0_takeOver o w1 I = some I9) : AM yX0_takeOver cX0_takeOver 2 none 2 47 [.ref o, .ref w1] sh P I J none sh P I9 J 0 0 := by
  refine am_met (by decide +kernel) (Nat.le_of_ble_eq_true rfl) (fun K X hR => ?_)
  have X : am_C K cX0_takeOver 2 RX0 "takeOver" ({ frames := 2, cells := 0, slots := 0, locals := 47 } : Room) := X
  show AW K 2 0 [(0, .ref o), (1, .ref w1)] [] sh P I J 0 0
  unfold f_X0_takeOver at hf
  refine ar_aload_n X dX0_takeOver_0 rfl 0 rfl ?_
  refine ar_aload_n X dX0_takeOver_1 rfl 1 rfl ?_
  refine ar_geti X dX0_takeOver_2 fg_X0_18 rfl (L0_s0 hW1) ?_
  refine ar_puti X dX0_takeOver_5 fd_X0_18 rfl ⟨rfl, rfl⟩ (L0_s0 hL) hf (fun I1 hf => ?_)
  refine ar_aload_n X dX0_takeOver_8 rfl 0 rfl ?_
  refine ar_aload_n X dX0_takeOver_9 rfl 1 rfl ?_
  refine ar_geti X dX0_takeOver_10 fg_X0_22 rfl (L0_s0 hW1) ?_
  refine ar_puti X dX0_takeOver_13 fd_X0_22 rfl ⟨rfl, rfl⟩ (L0_s0 hL) hf (fun I2 hf => ?_)
  refine ar_aload_n X dX0_takeOver_16 rfl 0 rfl ?_
  refine ar_aload_n X dX0_takeOver_17 rfl 1 rfl ?_
  refine ar_geti X dX0_takeOver_18 fg_X0_25 rfl (L0_s0 hW1) ?_
  refine ar_puti X dX0_takeOver_21 fd_X0_25 rfl ⟨rfl, rfl⟩ (L0_s0 hL) hf (fun I3 hf => ?_)
  refine ar_aload_n X dX0_takeOver_24 rfl 0 rfl ?_
  refine ar_aload_n X dX0_takeOver_25 rfl 1 rfl ?_
  refine ar_geti X dX0_takeOver_26 fg_X0_28 rfl (L0_s0 hW1) ?_
  refine ar_puti X dX0_takeOver_29 fd_X0_28 rfl ⟨rfl, rfl⟩ (L0_s0 hL) hf (fun I4 hf => ?_)
  refine ar_aload_n X dX0_takeOver_32 rfl 0 rfl ?_
  refine ar_aload_n X dX0_takeOver_33 rfl 1 rfl ?_
  refine ar_geti X dX0_takeOver_34 fg_X0_31 rfl (L0_s0 hW1) ?_
  refine ar_puti X dX0_takeOver_37 fd_X0_31 rfl ⟨rfl, rfl⟩ (L0_s0 hL) hf (fun I5 hf => ?_)
  refine ar_aload_n X dX0_takeOver_40 rfl 0 rfl ?_
  refine ar_aload_n X dX0_takeOver_41 rfl 1 rfl ?_
  refine ar_geti X dX0_takeOver_42 fg_X0_34 rfl (L0_s0 hW1) ?_
  refine ar_puti X dX0_takeOver_45 fd_X0_34 rfl ⟨rfl, rfl⟩ (L0_s0 hL) hf (fun I6 hf => ?_)
  refine ar_aload_n X dX0_takeOver_48 rfl 0 rfl ?_
  refine ar_aload_n X dX0_takeOver_49 rfl 1 rfl ?_
  refine ar_geti X dX0_takeOver_50 fg_X0_37 rfl (L0_s0 hW1) ?_
  refine ar_puti X dX0_takeOver_53 fd_X0_37 rfl ⟨rfl, rfl⟩ (L0_s0 hL) hf (fun I7 hf => ?_)
  refine ar_aload_n X dX0_takeOver_56 rfl 0 rfl ?_
  refine ar_aload_n X dX0_takeOver_57 rfl 1 rfl ?_
  refine ar_geti X dX0_takeOver_58 fg_X0_40 rfl (L0_s0 hW1) ?_
  refine ar_puti X dX0_takeOver_61 fd_X0_40 rfl ⟨rfl, rfl⟩ (L0_s0 hL) hf (fun I8 hf => ?_)
  refine ar_aload_n X dX0_takeOver_64 rfl 1 rfl ?_
  refine ar_getr X dX0_takeOver_65 fg_X0_9 rfl (L0_s0 hW1) (L0_p0_8 hW1) ?_
  refine ar_aload_n X dX0_takeOver_68 rfl 0 rfl ?_
  refine ar_getr X dX0_takeOver_69 fg_X0_9 rfl (L0_s0 hL) (L0_p0_8 hL) ?_
  refine ar_cSv (As := [.ref (w1 + 1), .ref (o + 1)]) (st := []) X dX0_takeOver_72 (am_X6_copyRow (L0_s1 hW1) (L0_s1 hL) (by decide)) lk_X0_43 mt_X6_copyRow ms_X6_copyRow rfl (Nat.le_of_ble_eq_true rfl) ⟨by decide, by decide⟩ ⟨Nat.zero_le _, Nat.zero_le _⟩ rfl ?_
  refine ar_letM hf (fun I9 hf => ?_)
  cases hf
  exact ar_vret X dX0_takeOver_75 hR (Nat.le_refl _) (Nat.le_refl _)
def f_X6_isSetting  (a0 : Int32) : Option Int32 :=
  am_b1 (f_X6_within a0 (0 : Int32) (5 : Int32)) fun r1 =>
  am_g (am_zk r1) (some r1)
set_option maxRecDepth 100000 in
set_option maxHeartbeats 4000000 in
theorem am_X6_isSetting {sh : aS} {P : aP} {I : aI} {J : aJ}   {a0 : Int32} {r : Int32} (hf : f_X6_isSetting a0 = some r) : AM yX6_isSetting cX6_isSetting 1 (some .boolean) 1 22 [.int a0] sh P I J (some (.int r)) sh P I J 0 0 := by
  refine am_met (by decide +kernel) (Nat.le_of_ble_eq_true rfl) (fun K X hR => ?_)
  have X : am_C K cX6_isSetting 1 RX6 "isSetting" ({ frames := 1, cells := 0, slots := 0, locals := 22 } : Room) := X
  show AW K 1 0 [(0, .int a0)] [] sh P I J 0 0
  unfold f_X6_isSetting at hf
  refine ar_iload_n X dX6_isSetting_0 rfl 0 rfl ?_
  refine ar_iconst (v := 0) X dX6_isSetting_1 (by decide) ?_
  refine ar_iconst (v := 5) X dX6_isSetting_2 (by decide) ?_
  obtain ⟨r1, h1, hf⟩ := am_b1_e hf
  refine ar_cSi (As := [.int a0, .int (0 : Int32), .int (5 : Int32)]) (st := []) X dX6_isSetting_3 (am_X6_within h1) lk_X6_41 mt_X6_within ms_X6_within rfl (Nat.le_of_ble_eq_true rfl) ⟨by decide, by decide⟩ ⟨Nat.zero_le _, Nat.zero_le _⟩ rfl ?_
  obtain ⟨h2, hf⟩ := am_g_elim hf
  cases hf
  exact ar_zret X dX6_isSetting_6 (am_zn h2).1 hR (Nat.le_refl _) (Nat.le_refl _)
def f_X1_changeSetting (o : Nat) (a1 : Int32) (a2 : Int32) (I : aI) : Option (Int32 × aI) :=
  am_b1 (f_X6_isSetting a1) fun r1 =>
  if r1 = 0 then (
    some ((-2 : Int32), I))
  else (
    am_g (am_ok a1 6) (
    am_let (I (o + 1) (Int32.toNatClampNeg a1)) fun x3 =>
    am_g (am_ok a1 6) (am_let (am_w I (o + 1) (Int32.toNatClampNeg a1) a2) fun I4 =>
    some (x3, I4))))
set_option maxRecDepth 100000 in
set_option maxHeartbeats 4000000 in
theorem am_X1_changeSetting {sh : aS} {P : aP} {I : aI} {J : aJ} {o : Nat} (hL : L1 sh P o) {a1 : Int32} {a2 : Int32} {r : Int32} {I9 : aI} (hf : f_X1_changeSetting o a1 a2 I = some (r, I9)) : AM yX1_changeSetting cX1_changeSetting 4 (some .int) 2 42 [.ref o, .int a1, .int a2] sh P I J (some (.int r)) sh P I9 J 0 0 := by
  refine am_met (by decide +kernel) (Nat.le_of_ble_eq_true rfl) (fun K X hR => ?_)
  have X : am_C K cX1_changeSetting 4 RX1 "changeSetting" ({ frames := 2, cells := 0, slots := 0, locals := 42 } : Room) := X
  show AW K 4 0 [(0, .ref o), (1, .int a1), (2, .int a2)] [] sh P I J 0 0
  unfold f_X1_changeSetting at hf
  refine ar_iload_n X dX1_changeSetting_0 rfl 1 rfl ?_
  obtain ⟨r1, h1, hf⟩ := am_b1_e hf
  refine ar_cSi (As := [.int a1]) (st := []) X dX1_changeSetting_1 (am_X6_isSetting h1) lk_X1_70 mt_X6_isSetting ms_X6_isSetting rfl (Nat.le_of_ble_eq_true rfl) ⟨by decide, by decide⟩ ⟨Nat.zero_le _, Nat.zero_le _⟩ rfl ?_
  refine ar_if_ne (tgt := 10) X dX1_changeSetting_4 (by decide) hf (fun h2 hf => ?_) (fun h2 hf => ?_)
  · refine ar_bipush (v := -2) X dX1_changeSetting_7 (by decide) ?_
    cases hf
    exact ar_iret X dX1_changeSetting_9 hR (Nat.le_refl _) (Nat.le_refl _)
  · refine ar_aload_n X dX1_changeSetting_10 rfl 0 rfl ?_
    refine ar_getr X dX1_changeSetting_11 fg_X1_18 rfl (L1_s0 hL) (L1_p0_0 hL) ?_
    refine ar_iload_n X dX1_changeSetting_14 rfl 1 rfl ?_
    refine ar_iald X dX1_changeSetting_15 (L1_s1 hL) hf (fun hf => ?_)
    refine ar_letI hf (fun x3 hf => ?_)
    refine ar_istore_n X dX1_changeSetting_16 rfl (by decide) rfl ?_
    refine ar_aload_n X dX1_changeSetting_17 rfl 1 rfl ?_
    refine ar_getr X dX1_changeSetting_18 fg_X1_18 rfl (L1_s0 hL) (L1_p0_0 hL) ?_
    refine ar_iload_n X dX1_changeSetting_21 rfl 2 rfl ?_
    refine ar_iload_n X dX1_changeSetting_22 rfl 3 rfl ?_
    refine ar_iast X dX1_changeSetting_23 (L1_s1 hL) hf (fun I4 hf => ?_)
    refine ar_iload_n X dX1_changeSetting_24 rfl 0 rfl ?_
    cases hf
    exact ar_iret X dX1_changeSetting_25 hR (Nat.le_refl _) (Nat.le_refl _)
def f_X4_hasSeat (o : Nat) (a1 : Int32) (I : aI) : Option Int32 :=
  if a1 < 0 then (
    some (0 : Int32))
  else (
    if (I o 0) ≤ a1 then (
      some (0 : Int32))
    else (
      some (1 : Int32)))
set_option maxRecDepth 100000 in
set_option maxHeartbeats 4000000 in
theorem am_X4_hasSeat {sh : aS} {P : aP} {I : aI} {J : aJ} {o : Nat} (hL : L4 sh P o) {a1 : Int32} {r : Int32} (hf : f_X4_hasSeat o a1 I = some r) : AM yX4_hasSeat cX4_hasSeat 2 (some .boolean) 0 0 [.ref o, .int a1] sh P I J (some (.int r)) sh P I J 0 0 := by
  refine am_met (by decide +kernel) (Nat.le_of_ble_eq_true rfl) (fun K X hR => ?_)
  have X : am_C K cX4_hasSeat 2 RX4 "hasSeat" ({ frames := 0, cells := 0, slots := 0, locals := 0 } : Room) := X
  show AW K 2 0 [(0, .ref o), (1, .int a1)] [] sh P I J 0 0
  unfold f_X4_hasSeat at hf
  refine ar_iload_n X dX4_hasSeat_0 rfl 1 rfl ?_
  refine ar_if_lt (tgt := 16) X dX4_hasSeat_1 (by decide) hf (fun h1 hf => ?_) (fun h1 hf => ?_)
  · refine ar_iconst (v := 0) X dX4_hasSeat_16 (by decide) ?_
    cases hf
    exact ar_zret X dX4_hasSeat_17 rfl hR (Nat.le_refl _) (Nat.le_refl _)
  · refine ar_iload_n X dX4_hasSeat_4 rfl 1 rfl ?_
    refine ar_aload_n X dX4_hasSeat_5 rfl 0 rfl ?_
    refine ar_geti X dX4_hasSeat_6 fg_X4_9 rfl (L4_s0 hL) ?_
    refine ar_icmp_ge (tgt := 16) X dX4_hasSeat_9 (by decide) hf (fun h2 hf => ?_) (fun h2 hf => ?_)
    · refine ar_iconst (v := 0) X dX4_hasSeat_16 (by decide) ?_
      cases hf
      exact ar_zret X dX4_hasSeat_17 rfl hR (Nat.le_refl _) (Nat.le_refl _)
    · refine ar_iconst (v := 1) X dX4_hasSeat_12 (by decide) ?_
      refine ar_goto (tgt := 17) X dX4_hasSeat_13 (by decide) ?_
      cases hf
      exact ar_zret X dX4_hasSeat_17 rfl hR (Nat.le_refl _) (Nat.le_refl _)
def f_X4_amountOf (o : Nat) (a1 : Int32) (I : aI) : Option Int32 :=
  am_b1 (f_X4_hasSeat o a1 I) fun r1 =>
  if r1 = 0 then (
    some (0 : Int32))
  else (
    am_g (am_ok a1 6) (
    some (I (o + 1) (Int32.toNatClampNeg a1))))
set_option maxRecDepth 100000 in
set_option maxHeartbeats 4000000 in
theorem am_X4_amountOf {sh : aS} {P : aP} {I : aI} {J : aJ} {o : Nat} (hL : L4 sh P o) {a1 : Int32} {r : Int32} (hf : f_X4_amountOf o a1 I = some r) : AM yX4_amountOf cX4_amountOf 2 (some .int) 1 21 [.ref o, .int a1] sh P I J (some (.int r)) sh P I J 0 0 := by
  refine am_met (by decide +kernel) (Nat.le_of_ble_eq_true rfl) (fun K X hR => ?_)
  have X : am_C K cX4_amountOf 2 RX4 "amountOf" ({ frames := 1, cells := 0, slots := 0, locals := 21 } : Room) := X
  show AW K 2 0 [(0, .ref o), (1, .int a1)] [] sh P I J 0 0
  unfold f_X4_amountOf at hf
  refine ar_aload_n X dX4_amountOf_0 rfl 0 rfl ?_
  refine ar_iload_n X dX4_amountOf_1 rfl 1 rfl ?_
  obtain ⟨r1, h1, hf⟩ := am_b1_e hf
  refine ar_cVi (As := [.int a1]) (st := []) X dX4_amountOf_2 (am_X4_hasSeat hL h1) lk_X4_41 mt_X4_hasSeat mi_X4_hasSeat (L4_s0 hL) rfl rfl (Nat.le_of_ble_eq_true rfl) ⟨by decide, by decide⟩ ⟨Nat.zero_le _, Nat.zero_le _⟩ rfl ?_
  refine ar_if_eq (tgt := 17) X dX4_amountOf_5 (by decide) hf (fun h2 hf => ?_) (fun h2 hf => ?_)
  · refine ar_iconst (v := 0) X dX4_amountOf_17 (by decide) ?_
    cases hf
    exact ar_iret X dX4_amountOf_18 hR (Nat.le_refl _) (Nat.le_refl _)
  · refine ar_aload_n X dX4_amountOf_8 rfl 0 rfl ?_
    refine ar_getr X dX4_amountOf_9 fg_X4_15 rfl (L4_s0 hL) (L4_p0_1 hL) ?_
    refine ar_iload_n X dX4_amountOf_12 rfl 1 rfl ?_
    refine ar_iald X dX4_amountOf_13 (L4_s1 hL) hf (fun hf => ?_)
    refine ar_goto (tgt := 18) X dX4_amountOf_14 (by decide) ?_
    cases hf
    exact ar_iret X dX4_amountOf_18 hR (Nat.le_refl _) (Nat.le_refl _)
def f_X4_learnAtLeast (o : Nat) (a1 : Int32) (a2 : Int32) (I : aI) : Option aI :=
  am_b1 (f_X4_hasSeat o a1 I) fun r1 =>
  if r1 = 0 then (
    some I)
  else (
    am_g (am_ok a1 6) (
    if a2 ≤ (I (o + 4) (Int32.toNatClampNeg a1)) then (
      some I)
    else (
      am_g (am_ok a1 6) (am_let (am_w I (o + 4) (Int32.toNatClampNeg a1) a2) fun I4 =>
      some I4))))
set_option maxRecDepth 100000 in
set_option maxHeartbeats 4000000 in
theorem am_X4_learnAtLeast {sh : aS} {P : aP} {I : aI} {J : aJ} {o : Nat} (hL : L4 sh P o) {a1 : Int32} {a2 : Int32} {I9 : aI} (hf : f_X4_learnAtLeast o a1 a2 I = some I9) : AM yX4_learnAtLeast cX4_learnAtLeast 3 none 1 21 [.ref o, .int a1, .int a2] sh P I J none sh P I9 J 0 0 := by
  refine am_met (by decide +kernel) (Nat.le_of_ble_eq_true rfl) (fun K X hR => ?_)
  have X : am_C K cX4_learnAtLeast 3 RX4 "learnAtLeast" ({ frames := 1, cells := 0, slots := 0, locals := 21 } : Room) := X
  show AW K 3 0 [(0, .ref o), (1, .int a1), (2, .int a2)] [] sh P I J 0 0
  unfold f_X4_learnAtLeast at hf
  refine ar_aload_n X dX4_learnAtLeast_0 rfl 0 rfl ?_
  refine ar_iload_n X dX4_learnAtLeast_1 rfl 1 rfl ?_
  obtain ⟨r1, h1, hf⟩ := am_b1_e hf
  refine ar_cVi (As := [.int a1]) (st := []) X dX4_learnAtLeast_2 (am_X4_hasSeat hL h1) lk_X4_41 mt_X4_hasSeat mi_X4_hasSeat (L4_s0 hL) rfl rfl (Nat.le_of_ble_eq_true rfl) ⟨by decide, by decide⟩ ⟨Nat.zero_le _, Nat.zero_le _⟩ rfl ?_
  refine ar_if_eq (tgt := 25) X dX4_learnAtLeast_5 (by decide) hf (fun h2 hf => ?_) (fun h2 hf => ?_)
  · cases hf
    exact ar_vret X dX4_learnAtLeast_25 hR (Nat.le_refl _) (Nat.le_refl _)
  · refine ar_aload_n X dX4_learnAtLeast_8 rfl 0 rfl ?_
    refine ar_getr X dX4_learnAtLeast_9 fg_X4_25 rfl (L4_s0 hL) (L4_p0_4 hL) ?_
    refine ar_iload_n X dX4_learnAtLeast_12 rfl 1 rfl ?_
    refine ar_iald X dX4_learnAtLeast_13 (L4_s4 hL) hf (fun hf => ?_)
    refine ar_iload_n X dX4_learnAtLeast_14 rfl 2 rfl ?_
    refine ar_icmp_ge (tgt := 25) X dX4_learnAtLeast_15 (by decide) hf (fun h3 hf => ?_) (fun h3 hf => ?_)
    · cases hf
      exact ar_vret X dX4_learnAtLeast_25 hR (Nat.le_refl _) (Nat.le_refl _)
    · refine ar_aload_n X dX4_learnAtLeast_18 rfl 0 rfl ?_
      refine ar_getr X dX4_learnAtLeast_19 fg_X4_25 rfl (L4_s0 hL) (L4_p0_4 hL) ?_
      refine ar_iload_n X dX4_learnAtLeast_22 rfl 1 rfl ?_
      refine ar_iload_n X dX4_learnAtLeast_23 rfl 2 rfl ?_
      refine ar_iast X dX4_learnAtLeast_24 (L4_s4 hL) hf (fun I4 hf => ?_)
      cases hf
      exact ar_vret X dX4_learnAtLeast_25 hR (Nat.le_refl _) (Nat.le_refl _)
def f_X1_claim (o : Nat) (a1 : Int32) (a2 : Int32) (I : aI) : Option (Int32 × aI) :=
  am_b1 (f_X0_bidOf (o + 13) a1 I) fun r1 =>
  if r1 = (-6 : Int32) then (
    if a2 = (I (o + 13) 2) then (
      am_b1 (f_X4_amountOf (o + 2) a1 I) fun r4 =>
      if a2 ≤ r4 then (
        am_b1 (f_X0_noteBid (o + 13) a1 a2 I) fun I6 =>
        am_b1 (f_X4_learnAtLeast (o + 2) a1 a2 I6) fun I7 =>
        some ((-6 : Int32), I7))
      else (
        some ((-2 : Int32), I)))
    else (
      some ((-2 : Int32), I)))
  else (
    some ((-5 : Int32), I))
set_option maxRecDepth 100000 in
set_option maxHeartbeats 4000000 in
theorem am_X1_claim {sh : aS} {P : aP} {I : aI} {J : aJ} {o : Nat} (hL : L1 sh P o) {a1 : Int32} {a2 : Int32} {r : Int32} {I9 : aI} (hf : f_X1_claim o a1 a2 I = some (r, I9)) : AM yX1_claim cX1_claim 3 (some .int) 2 44 [.ref o, .int a1, .int a2] sh P I J (some (.int r)) sh P I9 J 0 0 := by
  refine am_met (by decide +kernel) (Nat.le_of_ble_eq_true rfl) (fun K X hR => ?_)
  have X : am_C K cX1_claim 3 RX1 "claim" ({ frames := 2, cells := 0, slots := 0, locals := 44 } : Room) := X
  show AW K 3 0 [(0, .ref o), (1, .int a1), (2, .int a2)] [] sh P I J 0 0
  unfold f_X1_claim at hf
  refine ar_aload_n X dX1_claim_0 rfl 0 rfl ?_
  refine ar_getr X dX1_claim_1 fg_X1_40 rfl (L1_s0 hL) (L1_p0_3 hL) ?_
  refine ar_iload_n X dX1_claim_4 rfl 1 rfl ?_
  obtain ⟨r1, h1, hf⟩ := am_b1_e hf
  refine ar_cVi (As := [.int a1]) (st := []) X dX1_claim_5 (am_X0_bidOf (L1_c13 hL) h1) lk_X1_209 mt_X0_bidOf mi_X0_bidOf (L1_s13 hL) rfl rfl (Nat.le_of_ble_eq_true rfl) ⟨by decide, by decide⟩ ⟨Nat.zero_le _, Nat.zero_le _⟩ rfl ?_
  refine ar_bipush (v := -6) X dX1_claim_8 (by decide) ?_
  refine ar_icmp_eq (tgt := 16) X dX1_claim_10 (by decide) hf (fun h2 hf => ?_) (fun h2 hf => ?_)
  · refine ar_iload_n X dX1_claim_16 rfl 2 rfl ?_
    refine ar_aload_n X dX1_claim_17 rfl 0 rfl ?_
    refine ar_getr X dX1_claim_18 fg_X1_40 rfl (L1_s0 hL) (L1_p0_3 hL) ?_
    refine ar_geti X dX1_claim_21 fg_X1_151 rfl (L1_s13 hL) ?_
    refine ar_icmp_ne (tgt := 39) X dX1_claim_24 (by decide) hf (fun h3 hf => ?_) (fun h3 hf => ?_)
    · refine ar_iload_n X dX1_claim_27 rfl 2 rfl ?_
      refine ar_aload_n X dX1_claim_28 rfl 0 rfl ?_
      refine ar_getr X dX1_claim_29 fg_X1_26 rfl (L1_s0 hL) (L1_p0_1 hL) ?_
      refine ar_iload_n X dX1_claim_32 rfl 1 rfl ?_
      obtain ⟨r4, h4, hf⟩ := am_b1_e hf
      refine ar_cVi (As := [.int a1]) (st := [.int a2]) X dX1_claim_33 (am_X4_amountOf (L1_c2 hL) h4) lk_X1_180 mt_X4_amountOf mi_X4_amountOf (L1_s2 hL) rfl rfl (Nat.le_of_ble_eq_true rfl) ⟨by decide, by decide⟩ ⟨Nat.zero_le _, Nat.zero_le _⟩ rfl ?_
      refine ar_icmp_le (tgt := 42) X dX1_claim_36 (by decide) hf (fun h5 hf => ?_) (fun h5 hf => ?_)
      · refine ar_aload_n X dX1_claim_42 rfl 0 rfl ?_
        refine ar_getr X dX1_claim_43 fg_X1_40 rfl (L1_s0 hL) (L1_p0_3 hL) ?_
        refine ar_iload_n X dX1_claim_46 rfl 1 rfl ?_
        refine ar_iload_n X dX1_claim_47 rfl 2 rfl ?_
        obtain ⟨I6, h6, hf⟩ := am_b1_e hf
        refine ar_cVv (As := [.int a1, .int a2]) (st := []) X dX1_claim_48 (am_X0_noteBid (L1_c13 hL) h6) lk_X1_187 mt_X0_noteBid mi_X0_noteBid (L1_s13 hL) rfl rfl (Nat.le_of_ble_eq_true rfl) ⟨by decide, by decide⟩ ⟨Nat.zero_le _, Nat.zero_le _⟩ rfl ?_
        refine ar_aload_n X dX1_claim_51 rfl 0 rfl ?_
        refine ar_getr X dX1_claim_52 fg_X1_26 rfl (L1_s0 hL) (L1_p0_1 hL) ?_
        refine ar_iload_n X dX1_claim_55 rfl 1 rfl ?_
        refine ar_iload_n X dX1_claim_56 rfl 2 rfl ?_
        obtain ⟨I7, h7, hf⟩ := am_b1_e hf
        refine ar_cVv (As := [.int a1, .int a2]) (st := []) X dX1_claim_57 (am_X4_learnAtLeast (L1_c2 hL) h7) lk_X1_190 mt_X4_learnAtLeast mi_X4_learnAtLeast (L1_s2 hL) rfl rfl (Nat.le_of_ble_eq_true rfl) ⟨by decide, by decide⟩ ⟨Nat.zero_le _, Nat.zero_le _⟩ rfl ?_
        refine ar_bipush (v := -6) X dX1_claim_60 (by decide) ?_
        cases hf
        exact ar_iret X dX1_claim_62 hR (Nat.le_refl _) (Nat.le_refl _)
      · refine ar_bipush (v := -2) X dX1_claim_39 (by decide) ?_
        cases hf
        exact ar_iret X dX1_claim_41 hR (Nat.le_refl _) (Nat.le_refl _)
    · refine ar_bipush (v := -2) X dX1_claim_39 (by decide) ?_
      cases hf
      exact ar_iret X dX1_claim_41 hR (Nat.le_refl _) (Nat.le_refl _)
  · refine ar_bipush (v := -5) X dX1_claim_13 (by decide) ?_
    cases hf
    exact ar_iret X dX1_claim_15 hR (Nat.le_refl _) (Nat.le_refl _)
def f_X2_next (o : Nat)  (I : aI) : Option Int32 :=
  if (I o 0) ≤ (I o 1) then (
    some (-6 : Int32))
  else (
    some (I o 1))
set_option maxRecDepth 100000 in
set_option maxHeartbeats 4000000 in
theorem am_X2_next {sh : aS} {P : aP} {I : aI} {J : aJ} {o : Nat} (hL : L2 sh P o)  {r : Int32} (hf : f_X2_next o I = some r) : AM yX2_next cX2_next 1 (some .int) 0 0 [.ref o] sh P I J (some (.int r)) sh P I J 0 0 := by
  refine am_met (by decide +kernel) (Nat.le_of_ble_eq_true rfl) (fun K X hR => ?_)
  have X : am_C K cX2_next 1 RX2 "next" ({ frames := 0, cells := 0, slots := 0, locals := 0 } : Room) := X
  show AW K 1 0 [(0, .ref o)] [] sh P I J 0 0
  unfold f_X2_next at hf
  refine ar_aload_n X dX2_next_0 rfl 0 rfl ?_
  refine ar_geti X dX2_next_1 fg_X2_28 rfl (L2_s0 hL) ?_
  refine ar_aload_n X dX2_next_4 rfl 0 rfl ?_
  refine ar_geti X dX2_next_5 fg_X2_24 rfl (L2_s0 hL) ?_
  refine ar_icmp_ge (tgt := 18) X dX2_next_8 (by decide) hf (fun h1 hf => ?_) (fun h1 hf => ?_)
  · refine ar_bipush (v := -6) X dX2_next_18 (by decide) ?_
    cases hf
    exact ar_iret X dX2_next_20 hR (Nat.le_refl _) (Nat.le_refl _)
  · refine ar_aload_n X dX2_next_11 rfl 0 rfl ?_
    refine ar_geti X dX2_next_12 fg_X2_28 rfl (L2_s0 hL) ?_
    refine ar_goto (tgt := 20) X dX2_next_15 (by decide) ?_
    cases hf
    exact ar_iret X dX2_next_20 hR (Nat.le_refl _) (Nat.le_refl _)
def f_X1_settingOf (o : Nat) (a1 : Int32) (I : aI) : Option Int32 :=
  if a1 < 0 then (
    some (0 : Int32))
  else (
    if (6 : Int32) ≤ a1 then (
      some (0 : Int32))
    else (
      am_g (am_ok a1 6) (
      some (I (o + 1) (Int32.toNatClampNeg a1)))))
set_option maxRecDepth 100000 in
set_option maxHeartbeats 4000000 in
theorem am_X1_settingOf {sh : aS} {P : aP} {I : aI} {J : aJ} {o : Nat} (hL : L1 sh P o) {a1 : Int32} {r : Int32} (hf : f_X1_settingOf o a1 I = some r) : AM yX1_settingOf cX1_settingOf 2 (some .int) 0 0 [.ref o, .int a1] sh P I J (some (.int r)) sh P I J 0 0 := by
  refine am_met (by decide +kernel) (Nat.le_of_ble_eq_true rfl) (fun K X hR => ?_)
  have X : am_C K cX1_settingOf 2 RX1 "settingOf" ({ frames := 0, cells := 0, slots := 0, locals := 0 } : Room) := X
  show AW K 2 0 [(0, .ref o), (1, .int a1)] [] sh P I J 0 0
  unfold f_X1_settingOf at hf
  refine ar_iload_n X dX1_settingOf_0 rfl 1 rfl ?_
  refine ar_if_lt (tgt := 22) X dX1_settingOf_1 (by decide) hf (fun h1 hf => ?_) (fun h1 hf => ?_)
  · refine ar_iconst (v := 0) X dX1_settingOf_22 (by decide) ?_
    cases hf
    exact ar_iret X dX1_settingOf_23 hR (Nat.le_refl _) (Nat.le_refl _)
  · refine ar_iload_n X dX1_settingOf_4 rfl 1 rfl ?_
    refine ar_aload_n X dX1_settingOf_5 rfl 0 rfl ?_
    refine ar_getr X dX1_settingOf_6 fg_X1_18 rfl (L1_s0 hL) (L1_p0_0 hL) ?_
    refine ar_alen (v := 6) X dX1_settingOf_9 (L1_s1 hL) (by decide) (by decide) ?_
    refine ar_icmp_ge (tgt := 22) X dX1_settingOf_10 (by decide) hf (fun h2 hf => ?_) (fun h2 hf => ?_)
    · refine ar_iconst (v := 0) X dX1_settingOf_22 (by decide) ?_
      cases hf
      exact ar_iret X dX1_settingOf_23 hR (Nat.le_refl _) (Nat.le_refl _)
    · refine ar_aload_n X dX1_settingOf_13 rfl 0 rfl ?_
      refine ar_getr X dX1_settingOf_14 fg_X1_18 rfl (L1_s0 hL) (L1_p0_0 hL) ?_
      refine ar_iload_n X dX1_settingOf_17 rfl 1 rfl ?_
      refine ar_iald X dX1_settingOf_18 (L1_s1 hL) hf (fun hf => ?_)
      refine ar_goto (tgt := 23) X dX1_settingOf_19 (by decide) ?_
      cases hf
      exact ar_iret X dX1_settingOf_23 hR (Nat.le_refl _) (Nat.le_refl _)
def f_X2_hasLot (o : Nat) (a1 : Int32) (I : aI) : Option Int32 :=
  if a1 < 0 then (
    some (0 : Int32))
  else (
    if (I o 0) ≤ a1 then (
      some (0 : Int32))
    else (
      some (1 : Int32)))
set_option maxRecDepth 100000 in
set_option maxHeartbeats 4000000 in
theorem am_X2_hasLot {sh : aS} {P : aP} {I : aI} {J : aJ} {o : Nat} (hL : L2 sh P o) {a1 : Int32} {r : Int32} (hf : f_X2_hasLot o a1 I = some r) : AM yX2_hasLot cX2_hasLot 2 (some .boolean) 0 0 [.ref o, .int a1] sh P I J (some (.int r)) sh P I J 0 0 := by
  refine am_met (by decide +kernel) (Nat.le_of_ble_eq_true rfl) (fun K X hR => ?_)
  have X : am_C K cX2_hasLot 2 RX2 "hasLot" ({ frames := 0, cells := 0, slots := 0, locals := 0 } : Room) := X
  show AW K 2 0 [(0, .ref o), (1, .int a1)] [] sh P I J 0 0
  unfold f_X2_hasLot at hf
  refine ar_iload_n X dX2_hasLot_0 rfl 1 rfl ?_
  refine ar_if_lt (tgt := 16) X dX2_hasLot_1 (by decide) hf (fun h1 hf => ?_) (fun h1 hf => ?_)
  · refine ar_iconst (v := 0) X dX2_hasLot_16 (by decide) ?_
    cases hf
    exact ar_zret X dX2_hasLot_17 rfl hR (Nat.le_refl _) (Nat.le_refl _)
  · refine ar_iload_n X dX2_hasLot_4 rfl 1 rfl ?_
    refine ar_aload_n X dX2_hasLot_5 rfl 0 rfl ?_
    refine ar_geti X dX2_hasLot_6 fg_X2_24 rfl (L2_s0 hL) ?_
    refine ar_icmp_ge (tgt := 16) X dX2_hasLot_9 (by decide) hf (fun h2 hf => ?_) (fun h2 hf => ?_)
    · refine ar_iconst (v := 0) X dX2_hasLot_16 (by decide) ?_
      cases hf
      exact ar_zret X dX2_hasLot_17 rfl hR (Nat.le_refl _) (Nat.le_refl _)
    · refine ar_iconst (v := 1) X dX2_hasLot_12 (by decide) ?_
      refine ar_goto (tgt := 17) X dX2_hasLot_13 (by decide) ?_
      cases hf
      exact ar_zret X dX2_hasLot_17 rfl hR (Nat.le_refl _) (Nat.le_refl _)
def f_X2_gainFor_b109 (o : Nat) (l2 : Int32) (l3 : Int32) (l4 : Int32) (s0 : Int32) (I : aI) : Option Int32 :=
  am_g (am_ok (I o 1) 12) (
  if s0 = 0 then (
    some (((I (o + 2) (Int32.toNatClampNeg (I o 1))) + (l2 * l4)) + (0 : Int32)))
  else (
    some (((I (o + 2) (Int32.toNatClampNeg (I o 1))) + (l2 * l4)) + l3)))
set_option maxRecDepth 100000 in
set_option maxHeartbeats 4000000 in
theorem ab_X2_gainFor_b109 {K : aK} {sh : aS} {P : aP} {I : aI} {J : aJ} {o : Nat} (X : am_C K cX2_gainFor 7 RX2 "gainFor" ({ frames := 1, cells := 0, slots := 0, locals := 21 } : Room)) (hL : L2 sh P o) {r : Int32} (hR : am_R K (some .int) (some (.int r)) sh P I J 0 0) (l2 : Int32) (l3 : Int32) (l4 : Int32) (s0 : Int32) (hf : f_X2_gainFor_b109 o l2 l3 l4 s0 I = some r) : AW K 7 109 [(0, .ref o), (2, .int l2), (3, .int l3), (4, .int l4)] [.int s0] sh P I J 0 0 := by
  unfold f_X2_gainFor_b109 at hf
  refine ar_istore X dX2_gainFor_109 (by decide) rfl ?_
  refine ar_aload_n X dX2_gainFor_111 rfl 1 rfl ?_
  refine ar_getr X dX2_gainFor_112 fg_X2_15 rfl (L2_s0 hL) (L2_p0_3 hL) ?_
  refine ar_aload_n X dX2_gainFor_115 rfl 1 rfl ?_
  refine ar_geti X dX2_gainFor_116 fg_X2_28 rfl (L2_s0 hL) ?_
  refine ar_iald X dX2_gainFor_119 (L2_s2 hL) hf (fun hf => ?_)
  refine ar_iload_n X dX2_gainFor_120 rfl 2 rfl ?_
  refine ar_iload X dX2_gainFor_121 4 rfl ?_
  refine ar_imul X dX2_gainFor_123 ?_
  refine ar_iadd X dX2_gainFor_124 ?_
  refine ar_iload X dX2_gainFor_125 0 rfl ?_
  refine ar_if_eq (tgt := 134) X dX2_gainFor_127 (by decide) hf (fun h1 hf => ?_) (fun h1 hf => ?_)
  · refine ar_iconst (v := 0) X dX2_gainFor_134 (by decide) ?_
    refine ar_iadd X dX2_gainFor_135 ?_
    cases hf
    exact ar_iret X dX2_gainFor_136 hR (Nat.le_refl _) (Nat.le_refl _)
  · refine ar_iload_n X dX2_gainFor_130 rfl 3 rfl ?_
    refine ar_goto (tgt := 135) X dX2_gainFor_131 (by decide) ?_
    refine ar_iadd X dX2_gainFor_135 ?_
    cases hf
    exact ar_iret X dX2_gainFor_136 hR (Nat.le_refl _) (Nat.le_refl _)
def f_X2_gainFor_b90 (o : Nat) (l2 : Int32) (l3 : Int32) (l4 : Int32) (l5 : Int32) (I : aI) : Option Int32 :=
  if l4 = 0 then (
    am_b1 (f_J6_bitCount_0f7a4 l5) fun r2 =>
    if r2 = (3 : Int32) then (
      f_X2_gainFor_b109 o l2 l3 l4 (1 : Int32) I)
    else (
      f_X2_gainFor_b109 o l2 l3 l4 (0 : Int32) I))
  else (
    f_X2_gainFor_b109 o l2 l3 l4 (0 : Int32) I)
set_option maxRecDepth 100000 in
set_option maxHeartbeats 4000000 in
theorem ab_X2_gainFor_b90 {K : aK} {sh : aS} {P : aP} {I : aI} {J : aJ} {o : Nat} (X : am_C K cX2_gainFor 7 RX2 "gainFor" ({ frames := 1, cells := 0, slots := 0, locals := 21 } : Room)) (hL : L2 sh P o) {r : Int32} (hR : am_R K (some .int) (some (.int r)) sh P I J 0 0) (l2 : Int32) (l3 : Int32) (l4 : Int32) (l5 : Int32) (hf : f_X2_gainFor_b90 o l2 l3 l4 l5 I = some r) : AW K 7 90 [(0, .ref o), (2, .int l2), (3, .int l3), (4, .int l4), (5, .int l5)] [] sh P I J 0 0 := by
  unfold f_X2_gainFor_b90 at hf
  refine ar_iload X dX2_gainFor_90 3 rfl ?_
  refine ar_if_ne (tgt := 108) X dX2_gainFor_92 (by decide) hf (fun h1 hf => ?_) (fun h1 hf => ?_)
  · refine ar_iload X dX2_gainFor_95 4 rfl ?_
    obtain ⟨r2, h2, hf⟩ := am_b1_e hf
    refine ar_cSi (As := [.int l5]) (st := []) X dX2_gainFor_97 (am_J6_bitCount_0f7a4 h2) lk_X2_58 mt_J6_bitCount_0f7a4 ms_J6_bitCount_0f7a4 rfl (Nat.le_of_ble_eq_true rfl) ⟨by decide, by decide⟩ ⟨Nat.zero_le _, Nat.zero_le _⟩ rfl ?_
    refine ar_iconst (v := 3) X dX2_gainFor_100 (by decide) ?_
    refine ar_icmp_ne (tgt := 108) X dX2_gainFor_101 (by decide) hf (fun h3 hf => ?_) (fun h3 hf => ?_)
    · refine ar_iconst (v := 1) X dX2_gainFor_104 (by decide) ?_
      refine ar_goto (tgt := 109) X dX2_gainFor_105 (by decide) ?_
      refine ar_lo [0, 1, 2, 3] rfl ?_
      exact ab_X2_gainFor_b109 X hL hR l2 l3 l4 (1 : Int32) hf
    · refine ar_iconst (v := 0) X dX2_gainFor_108 (by decide) ?_
      refine ar_lo [0, 1, 2, 3] rfl ?_
      exact ab_X2_gainFor_b109 X hL hR l2 l3 l4 (0 : Int32) hf
  · refine ar_iconst (v := 0) X dX2_gainFor_108 (by decide) ?_
    refine ar_lo [0, 1, 2, 3] rfl ?_
    exact ab_X2_gainFor_b109 X hL hR l2 l3 l4 (0 : Int32) hf
def f_X2_gainFor_b70 (o : Nat) (kh : Int32 → Int32 → Int32 → Int32 → Int32 → Int32 → aI → Option Int32) (l1 : Int32) (l2 : Int32) (l3 : Int32) (l4 : Int32) (l5 : Int32) (l6 : Int32) (I : aI) : Option Int32 :=
  am_g (am_ok l6 12) (
  am_let (l5 ||| (am_shl (1 : Int32) (I (o + 1) (Int32.toNatClampNeg l6)))) fun x1 =>
  kh l1 l2 l3 l4 x1 (l6 + 1) I)
set_option maxRecDepth 100000 in
set_option maxHeartbeats 4000000 in
theorem ab_X2_gainFor_b70 {K : aK} {sh : aS} {P : aP} {I : aI} {J : aJ} {o : Nat} (X : am_C K cX2_gainFor 7 RX2 "gainFor" ({ frames := 1, cells := 0, slots := 0, locals := 21 } : Room)) (hL : L2 sh P o) {r : Int32} (hR : am_R K (some .int) (some (.int r)) sh P I J 0 0) {kh : Int32 → Int32 → Int32 → Int32 → Int32 → Int32 → aI → Option Int32} (hk : ∀ (l1 : Int32) (l2 : Int32) (l3 : Int32) (l4 : Int32) (l5 : Int32) (l6 : Int32) , kh l1 l2 l3 l4 l5 l6 I = some r → AW K 7 22 [(0, .ref o), (1, .int l1), (2, .int l2), (3, .int l3), (4, .int l4), (5, .int l5), (6, .int l6)] [] sh P I J 0 0) (l1 : Int32) (l2 : Int32) (l3 : Int32) (l4 : Int32) (l5 : Int32) (l6 : Int32) (hf : f_X2_gainFor_b70 o kh l1 l2 l3 l4 l5 l6 I = some r) : AW K 7 70 [(0, .ref o), (1, .int l1), (2, .int l2), (3, .int l3), (4, .int l4), (5, .int l5), (6, .int l6)] [] sh P I J 0 0 := by
  unfold f_X2_gainFor_b70 at hf
  refine ar_iload X dX2_gainFor_70 5 rfl ?_
  refine ar_iconst (v := 1) X dX2_gainFor_72 (by decide) ?_
  refine ar_aload_n X dX2_gainFor_73 rfl 0 rfl ?_
  refine ar_getr X dX2_gainFor_74 fg_X2_9 rfl (L2_s0 hL) (L2_p0_2 hL) ?_
  refine ar_iload X dX2_gainFor_77 6 rfl ?_
  refine ar_iald X dX2_gainFor_79 (L2_s1 hL) hf (fun hf => ?_)
  refine ar_ishl X dX2_gainFor_80 ?_
  refine ar_ior X dX2_gainFor_81 ?_
  refine ar_letI hf (fun x1 hf => ?_)
  refine ar_istore X dX2_gainFor_82 (by decide) rfl ?_
  refine ar_iinc (j := 6) (v := (l6 + 1)) X dX2_gainFor_84 rfl rfl (by decide) rfl ?_
  refine ar_goto (tgt := 22) X dX2_gainFor_87 (by decide) ?_
  refine ar_lo [2, 3, 4, 5, 6, 1, 0] rfl ?_
  exact hk l1 l2 l3 l4 x1 (l6 + 1) hf
def f_X2_gainFor_h22 (o : Nat) : Nat → Int32 → Int32 → Int32 → Int32 → Int32 → Int32 → aI → Option Int32
  | 0, _, _, _, _, _, _, _ => none
  | n + 1, l1, l2, l3, l4, l5, l6, I =>
    if (I o 1) ≤ l6 then (
      f_X2_gainFor_b90 o l2 l3 l4 l5 I)
    else (
      am_g (am_ok l6 12) (
      if ((am_shr (I (o + 3) (Int32.toNatClampNeg l6)) l1) &&& (1 : Int32)) = 0 then (
        f_X2_gainFor_h22 o n l1 l2 l3 l4 l5 (l6 + 1) I)
      else (
        am_g (am_ok l6 12) (
        am_g (am_ok (I o 1) 12) (
        if (I (o + 1) (Int32.toNatClampNeg l6)) = (I (o + 1) (Int32.toNatClampNeg (I o 1))) then (
          f_X2_gainFor_b70 o (f_X2_gainFor_h22 o n) l1 l2 l3 (l4 + 1) l5 l6 I)
        else (
          f_X2_gainFor_b70 o (f_X2_gainFor_h22 o n) l1 l2 l3 l4 l5 l6 I))))))
set_option maxRecDepth 100000 in
set_option maxHeartbeats 4000000 in
theorem ab_X2_gainFor_h22 {K : aK} {sh : aS} {P : aP} {I : aI} {J : aJ} {o : Nat} (X : am_C K cX2_gainFor 7 RX2 "gainFor" ({ frames := 1, cells := 0, slots := 0, locals := 21 } : Room)) (hL : L2 sh P o) {r : Int32} (hR : am_R K (some .int) (some (.int r)) sh P I J 0 0) : ∀ (n : Nat) (l1 : Int32) (l2 : Int32) (l3 : Int32) (l4 : Int32) (l5 : Int32) (l6 : Int32) , f_X2_gainFor_h22 o n l1 l2 l3 l4 l5 l6 I = some r → AW K 7 22 [(0, .ref o), (1, .int l1), (2, .int l2), (3, .int l3), (4, .int l4), (5, .int l5), (6, .int l6)] [] sh P I J 0 0 := by
  intro n
  induction n with
  | zero =>
    intro l1 l2 l3 l4 l5 l6 hf
    cases hf
  | succ n ih =>
    intro l1 l2 l3 l4 l5 l6 hf
    rw [f_X2_gainFor_h22] at hf
    refine ar_iload X dX2_gainFor_22 6 rfl ?_
    refine ar_aload_n X dX2_gainFor_24 rfl 0 rfl ?_
    refine ar_geti X dX2_gainFor_25 fg_X2_28 rfl (L2_s0 hL) ?_
    refine ar_icmp_ge (tgt := 90) X dX2_gainFor_28 (by decide) hf (fun h1 hf => ?_) (fun h1 hf => ?_)
    · refine ar_lo [0, 2, 3, 4, 5] rfl ?_
      exact ab_X2_gainFor_b90 X hL hR l2 l3 l4 l5 hf
    · refine ar_aload_n X dX2_gainFor_31 rfl 0 rfl ?_
      refine ar_getr X dX2_gainFor_32 fg_X2_18 rfl (L2_s0 hL) (L2_p0_4 hL) ?_
      refine ar_iload X dX2_gainFor_35 6 rfl ?_
      refine ar_iald X dX2_gainFor_37 (L2_s3 hL) hf (fun hf => ?_)
      refine ar_iload_n X dX2_gainFor_38 rfl 1 rfl ?_
      refine ar_ishr X dX2_gainFor_39 ?_
      refine ar_iconst (v := 1) X dX2_gainFor_40 (by decide) ?_
      refine ar_iand X dX2_gainFor_41 ?_
      refine ar_if_ne (tgt := 48) X dX2_gainFor_42 (by decide) hf (fun h2 hf => ?_) (fun h2 hf => ?_)
      · refine ar_goto (tgt := 84) X dX2_gainFor_45 (by decide) ?_
        refine ar_iinc (j := 6) (v := (l6 + 1)) X dX2_gainFor_84 rfl rfl (by decide) rfl ?_
        refine ar_goto (tgt := 22) X dX2_gainFor_87 (by decide) ?_
        refine ar_lo [1, 2, 3, 4, 5, 6, 0] rfl ?_
        exact ih l1 l2 l3 l4 l5 (l6 + 1) hf
      · refine ar_aload_n X dX2_gainFor_48 rfl 0 rfl ?_
        refine ar_getr X dX2_gainFor_49 fg_X2_9 rfl (L2_s0 hL) (L2_p0_2 hL) ?_
        refine ar_iload X dX2_gainFor_52 6 rfl ?_
        refine ar_iald X dX2_gainFor_54 (L2_s1 hL) hf (fun hf => ?_)
        refine ar_aload_n X dX2_gainFor_55 rfl 0 rfl ?_
        refine ar_getr X dX2_gainFor_56 fg_X2_9 rfl (L2_s0 hL) (L2_p0_2 hL) ?_
        refine ar_aload_n X dX2_gainFor_59 rfl 0 rfl ?_
        refine ar_geti X dX2_gainFor_60 fg_X2_28 rfl (L2_s0 hL) ?_
        refine ar_iald X dX2_gainFor_63 (L2_s1 hL) hf (fun hf => ?_)
        refine ar_icmp_ne (tgt := 70) X dX2_gainFor_64 (by decide) hf (fun h3 hf => ?_) (fun h3 hf => ?_)
        · refine ar_iinc (j := 4) (v := (l4 + 1)) X dX2_gainFor_67 rfl rfl (by decide) rfl ?_
          refine ar_lo [1, 2, 3, 4, 0, 5, 6] rfl ?_
          exact ab_X2_gainFor_b70 X hL hR ih l1 l2 l3 (l4 + 1) l5 l6 hf
        · exact ab_X2_gainFor_b70 X hL hR ih l1 l2 l3 l4 l5 l6 hf
def f_X2_gainFor (o : Nat) (a1 : Int32) (a2 : Int32) (a3 : Int32) (I : aI) : Option Int32 :=
  am_b1 (f_X2_hasLot o (I o 1) I) fun r1 =>
  if r1 = 0 then (
    some (0 : Int32))
  else (
    f_X2_gainFor_h22 o am_F a1 a2 a3 (0 : Int32) (0 : Int32) (0 : Int32) I)
set_option maxRecDepth 100000 in
set_option maxHeartbeats 4000000 in
theorem am_X2_gainFor {sh : aS} {P : aP} {I : aI} {J : aJ} {o : Nat} (hL : L2 sh P o) {a1 : Int32} {a2 : Int32} {a3 : Int32} {r : Int32} (hf : f_X2_gainFor o a1 a2 a3 I = some r) : AM yX2_gainFor cX2_gainFor 7 (some .int) 1 21 [.ref o, .int a1, .int a2, .int a3] sh P I J (some (.int r)) sh P I J 0 0 := by
  refine am_met (by decide +kernel) (Nat.le_of_ble_eq_true rfl) (fun K X hR => ?_)
  have X : am_C K cX2_gainFor 7 RX2 "gainFor" ({ frames := 1, cells := 0, slots := 0, locals := 21 } : Room) := X
  show AW K 7 0 [(0, .ref o), (1, .int a1), (2, .int a2), (3, .int a3)] [] sh P I J 0 0
  unfold f_X2_gainFor at hf
  refine ar_aload_n X dX2_gainFor_0 rfl 0 rfl ?_
  refine ar_aload_n X dX2_gainFor_1 rfl 0 rfl ?_
  refine ar_geti X dX2_gainFor_2 fg_X2_28 rfl (L2_s0 hL) ?_
  obtain ⟨r1, h1, hf⟩ := am_b1_e hf
  refine ar_cVi (As := [.int (I o 1)]) (st := []) X dX2_gainFor_5 (am_X2_hasLot hL h1) lk_X2_39 mt_X2_hasLot mi_X2_hasLot (L2_s0 hL) rfl rfl (Nat.le_of_ble_eq_true rfl) ⟨by decide, by decide⟩ ⟨Nat.zero_le _, Nat.zero_le _⟩ rfl ?_
  refine ar_if_ne (tgt := 13) X dX2_gainFor_8 (by decide) hf (fun h2 hf => ?_) (fun h2 hf => ?_)
  · refine ar_iconst (v := 0) X dX2_gainFor_11 (by decide) ?_
    cases hf
    exact ar_iret X dX2_gainFor_12 hR (Nat.le_refl _) (Nat.le_refl _)
  · refine ar_iconst (v := 0) X dX2_gainFor_13 (by decide) ?_
    refine ar_istore X dX2_gainFor_14 (by decide) rfl ?_
    refine ar_iconst (v := 0) X dX2_gainFor_16 (by decide) ?_
    refine ar_istore X dX2_gainFor_17 (by decide) rfl ?_
    refine ar_iconst (v := 0) X dX2_gainFor_19 (by decide) ?_
    refine ar_istore X dX2_gainFor_20 (by decide) rfl ?_
    refine ar_lo [3, 4, 5, 6, 2, 1, 0] rfl ?_
    exact ab_X2_gainFor_h22 X hL hR am_F a1 a2 a3 (0 : Int32) (0 : Int32) (0 : Int32) hf
def f_X4_boldnessOf (o : Nat) (a1 : Int32) (I : aI) : Option Int32 :=
  am_b1 (f_X4_hasSeat o a1 I) fun r1 =>
  if r1 = 0 then (
    some (0 : Int32))
  else (
    am_g (am_ok a1 6) (
    some (I (o + 2) (Int32.toNatClampNeg a1))))
set_option maxRecDepth 100000 in
set_option maxHeartbeats 4000000 in
theorem am_X4_boldnessOf {sh : aS} {P : aP} {I : aI} {J : aJ} {o : Nat} (hL : L4 sh P o) {a1 : Int32} {r : Int32} (hf : f_X4_boldnessOf o a1 I = some r) : AM yX4_boldnessOf cX4_boldnessOf 2 (some .int) 1 21 [.ref o, .int a1] sh P I J (some (.int r)) sh P I J 0 0 := by
  refine am_met (by decide +kernel) (Nat.le_of_ble_eq_true rfl) (fun K X hR => ?_)
  have X : am_C K cX4_boldnessOf 2 RX4 "boldnessOf" ({ frames := 1, cells := 0, slots := 0, locals := 21 } : Room) := X
  show AW K 2 0 [(0, .ref o), (1, .int a1)] [] sh P I J 0 0
  unfold f_X4_boldnessOf at hf
  refine ar_aload_n X dX4_boldnessOf_0 rfl 0 rfl ?_
  refine ar_iload_n X dX4_boldnessOf_1 rfl 1 rfl ?_
  obtain ⟨r1, h1, hf⟩ := am_b1_e hf
  refine ar_cVi (As := [.int a1]) (st := []) X dX4_boldnessOf_2 (am_X4_hasSeat hL h1) lk_X4_41 mt_X4_hasSeat mi_X4_hasSeat (L4_s0 hL) rfl rfl (Nat.le_of_ble_eq_true rfl) ⟨by decide, by decide⟩ ⟨Nat.zero_le _, Nat.zero_le _⟩ rfl ?_
  refine ar_if_eq (tgt := 17) X dX4_boldnessOf_5 (by decide) hf (fun h2 hf => ?_) (fun h2 hf => ?_)
  · refine ar_iconst (v := 0) X dX4_boldnessOf_17 (by decide) ?_
    cases hf
    exact ar_iret X dX4_boldnessOf_18 hR (Nat.le_refl _) (Nat.le_refl _)
  · refine ar_aload_n X dX4_boldnessOf_8 rfl 0 rfl ?_
    refine ar_getr X dX4_boldnessOf_9 fg_X4_19 rfl (L4_s0 hL) (L4_p0_2 hL) ?_
    refine ar_iload_n X dX4_boldnessOf_12 rfl 1 rfl ?_
    refine ar_iald X dX4_boldnessOf_13 (L4_s2 hL) hf (fun hf => ?_)
    refine ar_goto (tgt := 18) X dX4_boldnessOf_14 (by decide) ?_
    cases hf
    exact ar_iret X dX4_boldnessOf_18 hR (Nat.le_refl _) (Nat.le_refl _)
def f_X1_limitOf (o : Nat) (a1 : Int32) (I : aI) : Option Int32 :=
  am_b1 (f_X2_next (o + 8) I) fun r1 =>
  if r1 = (-6 : Int32) then (
    some (-6 : Int32))
  else (
    am_b1 (f_X1_settingOf o (3 : Int32) I) fun r3 =>
    am_b1 (f_X1_settingOf o (4 : Int32) I) fun r4 =>
    am_b1 (f_X2_gainFor (o + 8) a1 r3 r4 I) fun r5 =>
    am_b1 (f_X4_amountOf (o + 2) a1 I) fun r6 =>
    am_b1 (f_X4_boldnessOf (o + 2) a1 I) fun r7 =>
    am_g (decide (¬ (10 : Int32) = 0)) (
    some (am_min r6 ((r5 * r7) / (10 : Int32)))))
set_option maxRecDepth 100000 in
set_option maxHeartbeats 4000000 in
theorem am_X1_limitOf {sh : aS} {P : aP} {I : aI} {J : aJ} {o : Nat} (hL : L1 sh P o) {a1 : Int32} {r : Int32} (hf : f_X1_limitOf o a1 I = some r) : AM yX1_limitOf cX1_limitOf 3 (some .int) 2 47 [.ref o, .int a1] sh P I J (some (.int r)) sh P I J 0 0 := by
  refine am_met (by decide +kernel) (Nat.le_of_ble_eq_true rfl) (fun K X hR => ?_)
  have X : am_C K cX1_limitOf 3 RX1 "limitOf" ({ frames := 2, cells := 0, slots := 0, locals := 47 } : Room) := X
  show AW K 3 0 [(0, .ref o), (1, .int a1)] [] sh P I J 0 0
  unfold f_X1_limitOf at hf
  refine ar_aload_n X dX1_limitOf_0 rfl 0 rfl ?_
  refine ar_getr X dX1_limitOf_1 fg_X1_33 rfl (L1_s0 hL) (L1_p0_2 hL) ?_
  obtain ⟨r1, h1, hf⟩ := am_b1_e hf
  refine ar_cVi (As := []) (st := []) X dX1_limitOf_4 (am_X2_next (L1_c8 hL) h1) lk_X1_102 mt_X2_next mi_X2_next (L1_s8 hL) rfl rfl (Nat.le_of_ble_eq_true rfl) ⟨by decide, by decide⟩ ⟨Nat.zero_le _, Nat.zero_le _⟩ rfl ?_
  refine ar_bipush (v := -6) X dX1_limitOf_7 (by decide) ?_
  refine ar_icmp_ne (tgt := 15) X dX1_limitOf_9 (by decide) hf (fun h2 hf => ?_) (fun h2 hf => ?_)
  · refine ar_bipush (v := -6) X dX1_limitOf_12 (by decide) ?_
    cases hf
    exact ar_iret X dX1_limitOf_14 hR (Nat.le_refl _) (Nat.le_refl _)
  · refine ar_aload_n X dX1_limitOf_15 rfl 0 rfl ?_
    refine ar_getr X dX1_limitOf_16 fg_X1_33 rfl (L1_s0 hL) (L1_p0_2 hL) ?_
    refine ar_iload_n X dX1_limitOf_19 rfl 1 rfl ?_
    refine ar_aload_n X dX1_limitOf_20 rfl 0 rfl ?_
    refine ar_iconst (v := 3) X dX1_limitOf_21 (by decide) ?_
    obtain ⟨r3, h3, hf⟩ := am_b1_e hf
    refine ar_cVi (As := [.int (3 : Int32)]) (st := [.int a1, .ref (o + 8)]) X dX1_limitOf_22 (am_X1_settingOf hL h3) lk_X1_44 mt_X1_settingOf mi_X1_settingOf (L1_s0 hL) rfl rfl (Nat.le_of_ble_eq_true rfl) ⟨by decide, by decide⟩ ⟨Nat.zero_le _, Nat.zero_le _⟩ rfl ?_
    refine ar_aload_n X dX1_limitOf_25 rfl 0 rfl ?_
    refine ar_iconst (v := 4) X dX1_limitOf_26 (by decide) ?_
    obtain ⟨r4, h4, hf⟩ := am_b1_e hf
    refine ar_cVi (As := [.int (4 : Int32)]) (st := [.int r3, .int a1, .ref (o + 8)]) X dX1_limitOf_27 (am_X1_settingOf hL h4) lk_X1_44 mt_X1_settingOf mi_X1_settingOf (L1_s0 hL) rfl rfl (Nat.le_of_ble_eq_true rfl) ⟨by decide, by decide⟩ ⟨Nat.zero_le _, Nat.zero_le _⟩ rfl ?_
    obtain ⟨r5, h5, hf⟩ := am_b1_e hf
    refine ar_cVi (As := [.int a1, .int r3, .int r4]) (st := []) X dX1_limitOf_30 (am_X2_gainFor (L1_c8 hL) h5) lk_X1_215 mt_X2_gainFor mi_X2_gainFor (L1_s8 hL) rfl rfl (Nat.le_of_ble_eq_true rfl) ⟨by decide, by decide⟩ ⟨Nat.zero_le _, Nat.zero_le _⟩ rfl ?_
    refine ar_istore_n X dX1_limitOf_33 rfl (by decide) rfl ?_
    refine ar_aload_n X dX1_limitOf_34 rfl 1 rfl ?_
    refine ar_getr X dX1_limitOf_35 fg_X1_26 rfl (L1_s0 hL) (L1_p0_1 hL) ?_
    refine ar_iload_n X dX1_limitOf_38 rfl 2 rfl ?_
    obtain ⟨r6, h6, hf⟩ := am_b1_e hf
    refine ar_cVi (As := [.int a1]) (st := []) X dX1_limitOf_39 (am_X4_amountOf (L1_c2 hL) h6) lk_X1_180 mt_X4_amountOf mi_X4_amountOf (L1_s2 hL) rfl rfl (Nat.le_of_ble_eq_true rfl) ⟨by decide, by decide⟩ ⟨Nat.zero_le _, Nat.zero_le _⟩ rfl ?_
    refine ar_iload_n X dX1_limitOf_42 rfl 0 rfl ?_
    refine ar_aload_n X dX1_limitOf_43 rfl 1 rfl ?_
    refine ar_getr X dX1_limitOf_44 fg_X1_26 rfl (L1_s0 hL) (L1_p0_1 hL) ?_
    refine ar_iload_n X dX1_limitOf_47 rfl 2 rfl ?_
    obtain ⟨r7, h7, hf⟩ := am_b1_e hf
    refine ar_cVi (As := [.int a1]) (st := [.int r5, .int r6]) X dX1_limitOf_48 (am_X4_boldnessOf (L1_c2 hL) h7) lk_X1_219 mt_X4_boldnessOf mi_X4_boldnessOf (L1_s2 hL) rfl rfl (Nat.le_of_ble_eq_true rfl) ⟨by decide, by decide⟩ ⟨Nat.zero_le _, Nat.zero_le _⟩ rfl ?_
    refine ar_imul X dX1_limitOf_51 ?_
    refine ar_bipush (v := 10) X dX1_limitOf_52 (by decide) ?_
    obtain ⟨h8, hf⟩ := am_g_elim hf
    refine ar_idiv X dX1_limitOf_54 h8 ?_
    refine ar_min X dX1_limitOf_55 jm_min_X1_222 jm_min_s jm_i jm_min_c (by decide) (Nat.le_of_ble_eq_true rfl) ⟨Nat.zero_le _, Nat.zero_le _⟩ ?_
    cases hf
    exact ar_iret X dX1_limitOf_58 hR (Nat.le_refl _) (Nat.le_refl _)
def f_X1_claimAlone_h2 (o : Nat) : Nat → Int32 → aI → Option aI
  | 0, _, _ => none
  | n + 1, l1, I =>
    if (I (o + 2) 0) ≤ l1 then (
      some I)
    else (
      am_b1 (f_X0_bidOf (o + 13) l1 I) fun r2 =>
      if r2 = (-6 : Int32) then (
        am_b1 (f_X1_limitOf o l1 I) fun r4 =>
        if r4 < (I (o + 13) 2) then (
          f_X1_claimAlone_h2 o n (l1 + 1) I)
        else (
          am_b2 (f_X1_claim o l1 (I (o + 13) 2) I) fun r6 I6 =>
          f_X1_claimAlone_h2 o n (l1 + 1) I6))
      else (
        f_X1_claimAlone_h2 o n (l1 + 1) I))
set_option maxRecDepth 100000 in
set_option maxHeartbeats 4000000 in
theorem ab_X1_claimAlone_h2 {K : aK} {sh : aS} {P : aP} {J : aJ} {o : Nat} (X : am_C K cX1_claimAlone 2 RX1 "claimAlone" ({ frames := 3, cells := 0, slots := 0, locals := 69 } : Room)) (hL : L1 sh P o) {I9 : aI} (hR : am_R K none none sh P I9 J 0 0) : ∀ (n : Nat) (l1 : Int32) (I : aI) , f_X1_claimAlone_h2 o n l1 I = some I9 → AW K 2 2 [(0, .ref o), (1, .int l1)] [] sh P I J 0 0 := by
  intro n
  induction n with
  | zero =>
    intro l1 I hf
    cases hf
  | succ n ih =>
    intro l1 I hf
    rw [f_X1_claimAlone_h2] at hf
    refine ar_iload_n X dX1_claimAlone_2 rfl 1 rfl ?_
    refine ar_aload_n X dX1_claimAlone_3 rfl 0 rfl ?_
    refine ar_getr X dX1_claimAlone_4 fg_X1_26 rfl (L1_s0 hL) (L1_p0_1 hL) ?_
    refine ar_geti X dX1_claimAlone_7 fg_X1_82 rfl (L1_s2 hL) ?_
    refine ar_icmp_ge (tgt := 60) X dX1_claimAlone_10 (by decide) hf (fun h1 hf => ?_) (fun h1 hf => ?_)
    · cases hf
      exact ar_vret X dX1_claimAlone_60 hR (Nat.le_refl _) (Nat.le_refl _)
    · refine ar_aload_n X dX1_claimAlone_13 rfl 0 rfl ?_
      refine ar_getr X dX1_claimAlone_14 fg_X1_40 rfl (L1_s0 hL) (L1_p0_3 hL) ?_
      refine ar_iload_n X dX1_claimAlone_17 rfl 1 rfl ?_
      obtain ⟨r2, h2, hf⟩ := am_b1_e hf
      refine ar_cVi (As := [.int l1]) (st := []) X dX1_claimAlone_18 (am_X0_bidOf (L1_c13 hL) h2) lk_X1_209 mt_X0_bidOf mi_X0_bidOf (L1_s13 hL) rfl rfl (Nat.le_of_ble_eq_true rfl) ⟨by decide, by decide⟩ ⟨Nat.zero_le _, Nat.zero_le _⟩ rfl ?_
      refine ar_bipush (v := -6) X dX1_claimAlone_21 (by decide) ?_
      refine ar_icmp_ne (tgt := 54) X dX1_claimAlone_23 (by decide) hf (fun h3 hf => ?_) (fun h3 hf => ?_)
      · refine ar_aload_n X dX1_claimAlone_26 rfl 0 rfl ?_
        refine ar_getr X dX1_claimAlone_27 fg_X1_40 rfl (L1_s0 hL) (L1_p0_3 hL) ?_
        refine ar_geti X dX1_claimAlone_30 fg_X1_151 rfl (L1_s13 hL) ?_
        refine ar_aload_n X dX1_claimAlone_33 rfl 0 rfl ?_
        refine ar_iload_n X dX1_claimAlone_34 rfl 1 rfl ?_
        obtain ⟨r4, h4, hf⟩ := am_b1_e hf
        refine ar_cVi (As := [.int l1]) (st := [.int (I (o + 13) 2)]) X dX1_claimAlone_35 (am_X1_limitOf hL h4) lk_X1_139 mt_X1_limitOf mi_X1_limitOf (L1_s0 hL) rfl rfl (Nat.le_of_ble_eq_true rfl) ⟨by decide, by decide⟩ ⟨Nat.zero_le _, Nat.zero_le _⟩ rfl ?_
        refine ar_icmp_gt (tgt := 54) X dX1_claimAlone_38 (by decide) hf (fun h5 hf => ?_) (fun h5 hf => ?_)
        · refine ar_iinc (j := 1) (v := (l1 + 1)) X dX1_claimAlone_54 rfl rfl (by decide) rfl ?_
          refine ar_goto (tgt := 2) X dX1_claimAlone_57 (by decide) ?_
          refine ar_lo [1, 0] rfl ?_
          exact ih (l1 + 1) I hf
        · refine ar_aload_n X dX1_claimAlone_41 rfl 0 rfl ?_
          refine ar_iload_n X dX1_claimAlone_42 rfl 1 rfl ?_
          refine ar_aload_n X dX1_claimAlone_43 rfl 0 rfl ?_
          refine ar_getr X dX1_claimAlone_44 fg_X1_40 rfl (L1_s0 hL) (L1_p0_3 hL) ?_
          refine ar_geti X dX1_claimAlone_47 fg_X1_151 rfl (L1_s13 hL) ?_
          obtain ⟨r6, I6, h6, hf⟩ := am_b2_e hf
          refine ar_cVi (As := [.int l1, .int (I (o + 13) 2)]) (st := []) X dX1_claimAlone_50 (am_X1_claim hL h6) lk_X1_118 mt_X1_claim mi_X1_claim (L1_s0 hL) rfl rfl (Nat.le_of_ble_eq_true rfl) ⟨by decide, by decide⟩ ⟨Nat.zero_le _, Nat.zero_le _⟩ rfl ?_
          refine ar_pop X dX1_claimAlone_53 rfl ?_
          refine ar_iinc (j := 1) (v := (l1 + 1)) X dX1_claimAlone_54 rfl rfl (by decide) rfl ?_
          refine ar_goto (tgt := 2) X dX1_claimAlone_57 (by decide) ?_
          refine ar_lo [1, 0] rfl ?_
          exact ih (l1 + 1) I6 hf
      · refine ar_iinc (j := 1) (v := (l1 + 1)) X dX1_claimAlone_54 rfl rfl (by decide) rfl ?_
        refine ar_goto (tgt := 2) X dX1_claimAlone_57 (by decide) ?_
        refine ar_lo [1, 0] rfl ?_
        exact ih (l1 + 1) I hf
def f_X1_claimAlone (o : Nat)  (I : aI) : Option aI :=
  f_X1_claimAlone_h2 o am_F (0 : Int32) I
set_option maxRecDepth 100000 in
set_option maxHeartbeats 4000000 in
theorem am_X1_claimAlone {sh : aS} {P : aP} {I : aI} {J : aJ} {o : Nat} (hL : L1 sh P o)  {I9 : aI} (hf : f_X1_claimAlone o I = some I9) : AM yX1_claimAlone cX1_claimAlone 2 none 3 69 [.ref o] sh P I J none sh P I9 J 0 0 := by
  refine am_met (by decide +kernel) (Nat.le_of_ble_eq_true rfl) (fun K X hR => ?_)
  have X : am_C K cX1_claimAlone 2 RX1 "claimAlone" ({ frames := 3, cells := 0, slots := 0, locals := 69 } : Room) := X
  show AW K 2 0 [(0, .ref o)] [] sh P I J 0 0
  unfold f_X1_claimAlone at hf
  refine ar_iconst (v := 0) X dX1_claimAlone_0 (by decide) ?_
  refine ar_istore_n X dX1_claimAlone_1 rfl (by decide) rfl ?_
  refine ar_lo [1, 0] rfl ?_
  exact ab_X1_claimAlone_h2 X hL hR am_F (0 : Int32) I hf
def f_X1_starter (o : Nat)  (I : aI) : Option Int32 :=
  if (I (o + 2) 0) ≤ 0 then (
    some (0 : Int32))
  else (
    am_g (decide (¬ (I (o + 2) 0) = 0)) (
    some (am_rem (I (o + 8) 1) (I (o + 2) 0))))
set_option maxRecDepth 100000 in
set_option maxHeartbeats 4000000 in
theorem am_X1_starter {sh : aS} {P : aP} {I : aI} {J : aJ} {o : Nat} (hL : L1 sh P o)  {r : Int32} (hf : f_X1_starter o I = some r) : AM yX1_starter cX1_starter 1 (some .int) 0 0 [.ref o] sh P I J (some (.int r)) sh P I J 0 0 := by
  refine am_met (by decide +kernel) (Nat.le_of_ble_eq_true rfl) (fun K X hR => ?_)
  have X : am_C K cX1_starter 1 RX1 "starter" ({ frames := 0, cells := 0, slots := 0, locals := 0 } : Room) := X
  show AW K 1 0 [(0, .ref o)] [] sh P I J 0 0
  unfold f_X1_starter at hf
  refine ar_aload_n X dX1_starter_0 rfl 0 rfl ?_
  refine ar_getr X dX1_starter_1 fg_X1_26 rfl (L1_s0 hL) (L1_p0_1 hL) ?_
  refine ar_geti X dX1_starter_4 fg_X1_82 rfl (L1_s2 hL) ?_
  refine ar_if_le (tgt := 28) X dX1_starter_7 (by decide) hf (fun h1 hf => ?_) (fun h1 hf => ?_)
  · refine ar_iconst (v := 0) X dX1_starter_28 (by decide) ?_
    cases hf
    exact ar_iret X dX1_starter_29 hR (Nat.le_refl _) (Nat.le_refl _)
  · refine ar_aload_n X dX1_starter_10 rfl 0 rfl ?_
    refine ar_getr X dX1_starter_11 fg_X1_33 rfl (L1_s0 hL) (L1_p0_2 hL) ?_
    refine ar_geti X dX1_starter_14 fg_X1_74 rfl (L1_s8 hL) ?_
    refine ar_aload_n X dX1_starter_17 rfl 0 rfl ?_
    refine ar_getr X dX1_starter_18 fg_X1_26 rfl (L1_s0 hL) (L1_p0_1 hL) ?_
    refine ar_geti X dX1_starter_21 fg_X1_82 rfl (L1_s2 hL) ?_
    obtain ⟨h2, hf⟩ := am_g_elim hf
    refine ar_irem X dX1_starter_24 h2 ?_
    refine ar_goto (tgt := 29) X dX1_starter_25 (by decide) ?_
    cases hf
    exact ar_iret X dX1_starter_29 hR (Nat.le_refl _) (Nat.le_refl _)
def f_X4_seatBehind (o : Nat) (a1 : Int32) (a2 : Int32) (I : aI) : Option Int32 :=
  am_let (a1 + a2) fun x1 =>
  if (I o 0) ≤ x1 then (
    some (x1 - (I o 0)))
  else (
    some x1)
set_option maxRecDepth 100000 in
set_option maxHeartbeats 4000000 in
theorem am_X4_seatBehind {sh : aS} {P : aP} {I : aI} {J : aJ} {o : Nat} (hL : L4 sh P o) {a1 : Int32} {a2 : Int32} {r : Int32} (hf : f_X4_seatBehind o a1 a2 I = some r) : AM yX4_seatBehind cX4_seatBehind 4 (some .int) 0 0 [.ref o, .int a1, .int a2] sh P I J (some (.int r)) sh P I J 0 0 := by
  refine am_met (by decide +kernel) (Nat.le_of_ble_eq_true rfl) (fun K X hR => ?_)
  have X : am_C K cX4_seatBehind 4 RX4 "seatBehind" ({ frames := 0, cells := 0, slots := 0, locals := 0 } : Room) := X
  show AW K 4 0 [(0, .ref o), (1, .int a1), (2, .int a2)] [] sh P I J 0 0
  unfold f_X4_seatBehind at hf
  refine ar_iload_n X dX4_seatBehind_0 rfl 1 rfl ?_
  refine ar_iload_n X dX4_seatBehind_1 rfl 2 rfl ?_
  refine ar_iadd X dX4_seatBehind_2 ?_
  refine ar_letI hf (fun x1 hf => ?_)
  refine ar_istore_n X dX4_seatBehind_3 rfl (by decide) rfl ?_
  refine ar_iload_n X dX4_seatBehind_4 rfl 0 rfl ?_
  refine ar_aload_n X dX4_seatBehind_5 rfl 1 rfl ?_
  refine ar_geti X dX4_seatBehind_6 fg_X4_9 rfl (L4_s0 hL) ?_
  refine ar_icmp_ge (tgt := 16) X dX4_seatBehind_9 (by decide) hf (fun h2 hf => ?_) (fun h2 hf => ?_)
  · refine ar_iload_n X dX4_seatBehind_16 rfl 0 rfl ?_
    refine ar_aload_n X dX4_seatBehind_17 rfl 1 rfl ?_
    refine ar_geti X dX4_seatBehind_18 fg_X4_9 rfl (L4_s0 hL) ?_
    refine ar_isub X dX4_seatBehind_21 ?_
    cases hf
    exact ar_iret X dX4_seatBehind_22 hR (Nat.le_refl _) (Nat.le_refl _)
  · refine ar_iload_n X dX4_seatBehind_12 rfl 0 rfl ?_
    refine ar_goto (tgt := 22) X dX4_seatBehind_13 (by decide) ?_
    cases hf
    exact ar_iret X dX4_seatBehind_22 hR (Nat.le_refl _) (Nat.le_refl _)
def f_X4_takeFrom (o : Nat) (a1 : Int32) (a2 : Int32) (I : aI) : Option aI :=
  am_b1 (f_X4_hasSeat o a1 I) fun r1 =>
  if r1 = 0 then (
    some I)
  else (
    am_g (am_ok a1 6) (
    am_g (am_ok a1 6) (am_let (am_w I (o + 1) (Int32.toNatClampNeg a1) ((I (o + 1) (Int32.toNatClampNeg a1)) - a2)) fun I3 =>
    am_g (am_ok a1 6) (
    am_g (am_ok a1 6) (am_let (am_w I3 (o + 3) (Int32.toNatClampNeg a1) ((I3 (o + 3) (Int32.toNatClampNeg a1)) + a2)) fun I4 =>
    am_g (am_ok a1 6) (
    am_g (am_ok a1 6) (am_let (am_w I4 (o + 4) (Int32.toNatClampNeg a1) (am_max (0 : Int32) ((I4 (o + 4) (Int32.toNatClampNeg a1)) - a2))) fun I5 =>
    am_g (am_ok a1 6) (
    am_g (am_ok a1 6) (am_let (am_w I5 (o + 5) (Int32.toNatClampNeg a1) ((I5 (o + 5) (Int32.toNatClampNeg a1)) - a2)) fun I6 =>
    some I6)))))))))
set_option maxRecDepth 100000 in
set_option maxHeartbeats 4000000 in
theorem am_X4_takeFrom {sh : aS} {P : aP} {I : aI} {J : aJ} {o : Nat} (hL : L4 sh P o) {a1 : Int32} {a2 : Int32} {I9 : aI} (hf : f_X4_takeFrom o a1 a2 I = some I9) : AM yX4_takeFrom cX4_takeFrom 3 none 1 26 [.ref o, .int a1, .int a2] sh P I J none sh P I9 J 0 0 := by
  refine am_met (by decide +kernel) (Nat.le_of_ble_eq_true rfl) (fun K X hR => ?_)
  have X : am_C K cX4_takeFrom 3 RX4 "takeFrom" ({ frames := 1, cells := 0, slots := 0, locals := 26 } : Room) := X
  show AW K 3 0 [(0, .ref o), (1, .int a1), (2, .int a2)] [] sh P I J 0 0
  unfold f_X4_takeFrom at hf
  refine ar_aload_n X dX4_takeFrom_0 rfl 0 rfl ?_
  refine ar_iload_n X dX4_takeFrom_1 rfl 1 rfl ?_
  obtain ⟨r1, h1, hf⟩ := am_b1_e hf
  refine ar_cVi (As := [.int a1]) (st := []) X dX4_takeFrom_2 (am_X4_hasSeat hL h1) lk_X4_41 mt_X4_hasSeat mi_X4_hasSeat (L4_s0 hL) rfl rfl (Nat.le_of_ble_eq_true rfl) ⟨by decide, by decide⟩ ⟨Nat.zero_le _, Nat.zero_le _⟩ rfl ?_
  refine ar_if_ne (tgt := 9) X dX4_takeFrom_5 (by decide) hf (fun h2 hf => ?_) (fun h2 hf => ?_)
  · cases hf
    exact ar_vret X dX4_takeFrom_8 hR (Nat.le_refl _) (Nat.le_refl _)
  · refine ar_aload_n X dX4_takeFrom_9 rfl 0 rfl ?_
    refine ar_getr X dX4_takeFrom_10 fg_X4_15 rfl (L4_s0 hL) (L4_p0_1 hL) ?_
    refine ar_iload_n X dX4_takeFrom_13 rfl 1 rfl ?_
    refine ar_dup2 X dX4_takeFrom_14 rfl rfl ?_
    refine ar_iald X dX4_takeFrom_15 (L4_s1 hL) hf (fun hf => ?_)
    refine ar_iload_n X dX4_takeFrom_16 rfl 2 rfl ?_
    refine ar_isub X dX4_takeFrom_17 ?_
    refine ar_iast X dX4_takeFrom_18 (L4_s1 hL) hf (fun I3 hf => ?_)
    refine ar_aload_n X dX4_takeFrom_19 rfl 0 rfl ?_
    refine ar_getr X dX4_takeFrom_20 fg_X4_22 rfl (L4_s0 hL) (L4_p0_3 hL) ?_
    refine ar_iload_n X dX4_takeFrom_23 rfl 1 rfl ?_
    refine ar_dup2 X dX4_takeFrom_24 rfl rfl ?_
    refine ar_iald X dX4_takeFrom_25 (L4_s3 hL) hf (fun hf => ?_)
    refine ar_iload_n X dX4_takeFrom_26 rfl 2 rfl ?_
    refine ar_iadd X dX4_takeFrom_27 ?_
    refine ar_iast X dX4_takeFrom_28 (L4_s3 hL) hf (fun I4 hf => ?_)
    refine ar_aload_n X dX4_takeFrom_29 rfl 0 rfl ?_
    refine ar_getr X dX4_takeFrom_30 fg_X4_25 rfl (L4_s0 hL) (L4_p0_4 hL) ?_
    refine ar_iload_n X dX4_takeFrom_33 rfl 1 rfl ?_
    refine ar_iconst (v := 0) X dX4_takeFrom_34 (by decide) ?_
    refine ar_aload_n X dX4_takeFrom_35 rfl 0 rfl ?_
    refine ar_getr X dX4_takeFrom_36 fg_X4_25 rfl (L4_s0 hL) (L4_p0_4 hL) ?_
    refine ar_iload_n X dX4_takeFrom_39 rfl 1 rfl ?_
    refine ar_iald X dX4_takeFrom_40 (L4_s4 hL) hf (fun hf => ?_)
    refine ar_iload_n X dX4_takeFrom_41 rfl 2 rfl ?_
    refine ar_isub X dX4_takeFrom_42 ?_
    refine ar_max X dX4_takeFrom_43 jm_max_X4_56 jm_max_s jm_i jm_max_c (by decide) (Nat.le_of_ble_eq_true rfl) ⟨Nat.zero_le _, Nat.zero_le _⟩ ?_
    refine ar_iast X dX4_takeFrom_46 (L4_s4 hL) hf (fun I5 hf => ?_)
    refine ar_aload_n X dX4_takeFrom_47 rfl 0 rfl ?_
    refine ar_getr X dX4_takeFrom_48 fg_X4_28 rfl (L4_s0 hL) (L4_p0_5 hL) ?_
    refine ar_iload_n X dX4_takeFrom_51 rfl 1 rfl ?_
    refine ar_dup2 X dX4_takeFrom_52 rfl rfl ?_
    refine ar_iald X dX4_takeFrom_53 (L4_s5 hL) hf (fun hf => ?_)
    refine ar_iload_n X dX4_takeFrom_54 rfl 2 rfl ?_
    refine ar_isub X dX4_takeFrom_55 ?_
    refine ar_iast X dX4_takeFrom_56 (L4_s5 hL) hf (fun I6 hf => ?_)
    cases hf
    exact ar_vret X dX4_takeFrom_57 hR (Nat.le_refl _) (Nat.le_refl _)
def f_X1_collect_h29 (o : Nat) : Nat → Int32 → Int32 → Int32 → Int32 → Int32 → aI → Option aI
  | 0, _, _, _, _, _, _ => none
  | n + 1, l1, l4, l5, l6, l7, I =>
    if (I (o + 2) 0) ≤ l7 then (
      some I)
    else (
      am_b1 (f_X4_seatBehind (o + 2) l6 l7 I) fun r2 =>
      if ((am_shr l1 r2) &&& (1 : Int32)) = 0 then (
        f_X1_collect_h29 o n l1 l4 l5 l6 (l7 + 1) I)
      else (
        if l5 ≤ 0 then (
          am_b1 (f_X4_takeFrom (o + 2) r2 l4 I) fun I5 =>
          f_X1_collect_h29 o n l1 l4 (l5 + (-1)) l6 (l7 + 1) I5)
        else (
          am_b1 (f_X4_takeFrom (o + 2) r2 (l4 + (1 : Int32)) I) fun I6 =>
          f_X1_collect_h29 o n l1 l4 (l5 + (-1)) l6 (l7 + 1) I6)))
set_option maxRecDepth 100000 in
set_option maxHeartbeats 4000000 in
theorem ab_X1_collect_h29 {K : aK} {sh : aS} {P : aP} {J : aJ} {o : Nat} (X : am_C K cX1_collect 9 RX1 "collect" ({ frames := 2, cells := 0, slots := 0, locals := 48 } : Room)) (hL : L1 sh P o) {I9 : aI} (hR : am_R K none none sh P I9 J 0 0) : ∀ (n : Nat) (l1 : Int32) (l4 : Int32) (l5 : Int32) (l6 : Int32) (l7 : Int32) (I : aI) , f_X1_collect_h29 o n l1 l4 l5 l6 l7 I = some I9 → AW K 9 29 [(0, .ref o), (1, .int l1), (4, .int l4), (5, .int l5), (6, .int l6), (7, .int l7)] [] sh P I J 0 0 := by
  intro n
  induction n with
  | zero =>
    intro l1 l4 l5 l6 l7 I hf
    cases hf
  | succ n ih =>
    intro l1 l4 l5 l6 l7 I hf
    rw [f_X1_collect_h29] at hf
    refine ar_iload X dX1_collect_29 5 rfl ?_
    refine ar_aload_n X dX1_collect_31 rfl 0 rfl ?_
    refine ar_getr X dX1_collect_32 fg_X1_26 rfl (L1_s0 hL) (L1_p0_1 hL) ?_
    refine ar_geti X dX1_collect_35 fg_X1_82 rfl (L1_s2 hL) ?_
    refine ar_icmp_ge (tgt := 98) X dX1_collect_38 (by decide) hf (fun h1 hf => ?_) (fun h1 hf => ?_)
    · cases hf
      exact ar_vret X dX1_collect_98 hR (Nat.le_refl _) (Nat.le_refl _)
    · refine ar_aload_n X dX1_collect_41 rfl 0 rfl ?_
      refine ar_getr X dX1_collect_42 fg_X1_26 rfl (L1_s0 hL) (L1_p0_1 hL) ?_
      refine ar_iload X dX1_collect_45 4 rfl ?_
      refine ar_iload X dX1_collect_47 5 rfl ?_
      obtain ⟨r2, h2, hf⟩ := am_b1_e hf
      refine ar_cVi (As := [.int l6, .int l7]) (st := []) X dX1_collect_49 (am_X4_seatBehind (L1_c2 hL) h2) lk_X1_165 mt_X4_seatBehind mi_X4_seatBehind (L1_s2 hL) rfl rfl (Nat.le_of_ble_eq_true rfl) ⟨by decide, by decide⟩ ⟨Nat.zero_le _, Nat.zero_le _⟩ rfl ?_
      refine ar_istore X dX1_collect_52 (by decide) rfl ?_
      refine ar_iload_n X dX1_collect_54 rfl 2 rfl ?_
      refine ar_iload X dX1_collect_55 0 rfl ?_
      refine ar_ishr X dX1_collect_57 ?_
      refine ar_iconst (v := 1) X dX1_collect_58 (by decide) ?_
      refine ar_iand X dX1_collect_59 ?_
      refine ar_if_ne (tgt := 66) X dX1_collect_60 (by decide) hf (fun h3 hf => ?_) (fun h3 hf => ?_)
      · refine ar_goto (tgt := 92) X dX1_collect_63 (by decide) ?_
        refine ar_iinc (j := 6) (v := (l7 + 1)) X dX1_collect_92 rfl rfl (by decide) rfl ?_
        refine ar_goto (tgt := 29) X dX1_collect_95 (by decide) ?_
        refine ar_lo [2, 3, 4, 5, 6, 0] rfl ?_
        exact ih l1 l4 l5 l6 (l7 + 1) I hf
      · refine ar_aload_n X dX1_collect_66 rfl 1 rfl ?_
        refine ar_getr X dX1_collect_67 fg_X1_26 rfl (L1_s0 hL) (L1_p0_1 hL) ?_
        refine ar_iload X dX1_collect_70 0 rfl ?_
        refine ar_iload X dX1_collect_72 4 rfl ?_
        refine ar_if_le (tgt := 84) X dX1_collect_74 (by decide) hf (fun h4 hf => ?_) (fun h4 hf => ?_)
        · refine ar_iload X dX1_collect_84 3 rfl ?_
          obtain ⟨I5, h5, hf⟩ := am_b1_e hf
          refine ar_cVv (As := [.int r2, .int l4]) (st := []) X dX1_collect_86 (am_X4_takeFrom (L1_c2 hL) h5) lk_X1_168 mt_X4_takeFrom mi_X4_takeFrom (L1_s2 hL) rfl rfl (Nat.le_of_ble_eq_true rfl) ⟨by decide, by decide⟩ ⟨Nat.zero_le _, Nat.zero_le _⟩ rfl ?_
          refine ar_iinc (j := 4) (v := (l5 + (-1))) X dX1_collect_89 rfl rfl (by decide) rfl ?_
          refine ar_iinc (j := 6) (v := (l7 + 1)) X dX1_collect_92 rfl rfl (by decide) rfl ?_
          refine ar_goto (tgt := 29) X dX1_collect_95 (by decide) ?_
          refine ar_lo [3, 4, 5, 1, 6, 0] rfl ?_
          exact ih l1 l4 (l5 + (-1)) l6 (l7 + 1) I5 hf
        · refine ar_iload X dX1_collect_77 3 rfl ?_
          refine ar_iconst (v := 1) X dX1_collect_79 (by decide) ?_
          refine ar_iadd X dX1_collect_80 ?_
          refine ar_goto (tgt := 86) X dX1_collect_81 (by decide) ?_
          obtain ⟨I6, h6, hf⟩ := am_b1_e hf
          refine ar_cVv (As := [.int r2, .int (l4 + (1 : Int32))]) (st := []) X dX1_collect_86 (am_X4_takeFrom (L1_c2 hL) h6) lk_X1_168 mt_X4_takeFrom mi_X4_takeFrom (L1_s2 hL) rfl rfl (Nat.le_of_ble_eq_true rfl) ⟨by decide, by decide⟩ ⟨Nat.zero_le _, Nat.zero_le _⟩ rfl ?_
          refine ar_iinc (j := 4) (v := (l5 + (-1))) X dX1_collect_89 rfl rfl (by decide) rfl ?_
          refine ar_iinc (j := 6) (v := (l7 + 1)) X dX1_collect_92 rfl rfl (by decide) rfl ?_
          refine ar_goto (tgt := 29) X dX1_collect_95 (by decide) ?_
          refine ar_lo [3, 4, 5, 1, 6, 0] rfl ?_
          exact ih l1 l4 (l5 + (-1)) l6 (l7 + 1) I6 hf
def f_X1_collect (o : Nat) (a1 : Int32) (a2 : Int32) (I : aI) : Option aI :=
  am_b1 (f_J6_bitCount_0f7a4 a1) fun r1 =>
  if r1 = 0 then (
    some I)
  else (
    am_g (decide (¬ r1 = 0)) (
    am_let (a2 / r1) fun x4 =>
    am_g (decide (¬ r1 = 0)) (
    am_let (am_rem a2 r1) fun x6 =>
    am_b1 (f_X1_starter o I) fun r7 =>
    f_X1_collect_h29 o am_F a1 x4 x6 r7 (0 : Int32) I)))
set_option maxRecDepth 100000 in
set_option maxHeartbeats 4000000 in
theorem am_X1_collect {sh : aS} {P : aP} {I : aI} {J : aJ} {o : Nat} (hL : L1 sh P o) {a1 : Int32} {a2 : Int32} {I9 : aI} (hf : f_X1_collect o a1 a2 I = some I9) : AM yX1_collect cX1_collect 9 none 2 48 [.ref o, .int a1, .int a2] sh P I J none sh P I9 J 0 0 := by
  refine am_met (by decide +kernel) (Nat.le_of_ble_eq_true rfl) (fun K X hR => ?_)
  have X : am_C K cX1_collect 9 RX1 "collect" ({ frames := 2, cells := 0, slots := 0, locals := 48 } : Room) := X
  show AW K 9 0 [(0, .ref o), (1, .int a1), (2, .int a2)] [] sh P I J 0 0
  unfold f_X1_collect at hf
  refine ar_iload_n X dX1_collect_0 rfl 1 rfl ?_
  obtain ⟨r1, h1, hf⟩ := am_b1_e hf
  refine ar_cSi (As := [.int a1]) (st := []) X dX1_collect_1 (am_J6_bitCount_0f7a4 h1) lk_X1_160 mt_J6_bitCount_0f7a4 ms_J6_bitCount_0f7a4 rfl (Nat.le_of_ble_eq_true rfl) ⟨by decide, by decide⟩ ⟨Nat.zero_le _, Nat.zero_le _⟩ rfl ?_
  refine ar_istore_n X dX1_collect_4 rfl (by decide) rfl ?_
  refine ar_iload_n X dX1_collect_5 rfl 0 rfl ?_
  refine ar_if_ne (tgt := 10) X dX1_collect_6 (by decide) hf (fun h2 hf => ?_) (fun h2 hf => ?_)
  · cases hf
    exact ar_vret X dX1_collect_9 hR (Nat.le_refl _) (Nat.le_refl _)
  · refine ar_iload_n X dX1_collect_10 rfl 3 rfl ?_
    refine ar_iload_n X dX1_collect_11 rfl 0 rfl ?_
    obtain ⟨h3, hf⟩ := am_g_elim hf
    refine ar_idiv X dX1_collect_12 h3 ?_
    refine ar_letI hf (fun x4 hf => ?_)
    refine ar_istore X dX1_collect_13 (by decide) rfl ?_
    refine ar_iload_n X dX1_collect_15 rfl 4 rfl ?_
    refine ar_iload_n X dX1_collect_16 rfl 1 rfl ?_
    obtain ⟨h5, hf⟩ := am_g_elim hf
    refine ar_irem X dX1_collect_17 h5 ?_
    refine ar_letI hf (fun x6 hf => ?_)
    refine ar_istore X dX1_collect_18 (by decide) rfl ?_
    refine ar_aload_n X dX1_collect_20 rfl 3 rfl ?_
    obtain ⟨r7, h7, hf⟩ := am_b1_e hf
    refine ar_cVi (As := []) (st := []) X dX1_collect_21 (am_X1_starter hL h7) lk_X1_94 mt_X1_starter mi_X1_starter (L1_s0 hL) rfl rfl (Nat.le_of_ble_eq_true rfl) ⟨by decide, by decide⟩ ⟨Nat.zero_le _, Nat.zero_le _⟩ rfl ?_
    refine ar_istore X dX1_collect_24 (by decide) rfl ?_
    refine ar_iconst (v := 0) X dX1_collect_26 (by decide) ?_
    refine ar_istore X dX1_collect_27 (by decide) rfl ?_
    refine ar_lo [5, 6, 3, 2, 1, 0] rfl ?_
    exact ab_X1_collect_h29 X hL hR am_F a1 x4 x6 r7 (0 : Int32) I hf
def f_X1_firstWithoutBid_h7 (o : Nat) : Nat → Int32 → Int32 → aI → Option Int32
  | 0, _, _, _ => none
  | n + 1, l1, l2, I =>
    if (I (o + 2) 0) ≤ l2 then (
      some (-6 : Int32))
    else (
      am_b1 (f_X4_seatBehind (o + 2) l1 l2 I) fun r2 =>
      am_b1 (f_X0_bidOf (o + 13) r2 I) fun r3 =>
      if r3 = (-6 : Int32) then (
        some r2)
      else (
        f_X1_firstWithoutBid_h7 o n l1 (l2 + 1) I))
set_option maxRecDepth 100000 in
set_option maxHeartbeats 4000000 in
theorem ab_X1_firstWithoutBid_h7 {K : aK} {sh : aS} {P : aP} {I : aI} {J : aJ} {o : Nat} (X : am_C K cX1_firstWithoutBid 4 RX1 "firstWithoutBid" ({ frames := 2, cells := 0, slots := 0, locals := 43 } : Room)) (hL : L1 sh P o) {r : Int32} (hR : am_R K (some .int) (some (.int r)) sh P I J 0 0) : ∀ (n : Nat) (l1 : Int32) (l2 : Int32) , f_X1_firstWithoutBid_h7 o n l1 l2 I = some r → AW K 4 7 [(0, .ref o), (1, .int l1), (2, .int l2)] [] sh P I J 0 0 := by
  intro n
  induction n with
  | zero =>
    intro l1 l2 hf
    cases hf
  | succ n ih =>
    intro l1 l2 hf
    rw [f_X1_firstWithoutBid_h7] at hf
    refine ar_iload_n X dX1_firstWithoutBid_7 rfl 2 rfl ?_
    refine ar_aload_n X dX1_firstWithoutBid_8 rfl 0 rfl ?_
    refine ar_getr X dX1_firstWithoutBid_9 fg_X1_26 rfl (L1_s0 hL) (L1_p0_1 hL) ?_
    refine ar_geti X dX1_firstWithoutBid_12 fg_X1_82 rfl (L1_s2 hL) ?_
    refine ar_icmp_ge (tgt := 49) X dX1_firstWithoutBid_15 (by decide) hf (fun h1 hf => ?_) (fun h1 hf => ?_)
    · refine ar_bipush (v := -6) X dX1_firstWithoutBid_49 (by decide) ?_
      cases hf
      exact ar_iret X dX1_firstWithoutBid_51 hR (Nat.le_refl _) (Nat.le_refl _)
    · refine ar_aload_n X dX1_firstWithoutBid_18 rfl 0 rfl ?_
      refine ar_getr X dX1_firstWithoutBid_19 fg_X1_26 rfl (L1_s0 hL) (L1_p0_1 hL) ?_
      refine ar_iload_n X dX1_firstWithoutBid_22 rfl 1 rfl ?_
      refine ar_iload_n X dX1_firstWithoutBid_23 rfl 2 rfl ?_
      obtain ⟨r2, h2, hf⟩ := am_b1_e hf
      refine ar_cVi (As := [.int l1, .int l2]) (st := []) X dX1_firstWithoutBid_24 (am_X4_seatBehind (L1_c2 hL) h2) lk_X1_165 mt_X4_seatBehind mi_X4_seatBehind (L1_s2 hL) rfl rfl (Nat.le_of_ble_eq_true rfl) ⟨by decide, by decide⟩ ⟨Nat.zero_le _, Nat.zero_le _⟩ rfl ?_
      refine ar_istore_n X dX1_firstWithoutBid_27 rfl (by decide) rfl ?_
      refine ar_aload_n X dX1_firstWithoutBid_28 rfl 1 rfl ?_
      refine ar_getr X dX1_firstWithoutBid_29 fg_X1_40 rfl (L1_s0 hL) (L1_p0_3 hL) ?_
      refine ar_iload_n X dX1_firstWithoutBid_32 rfl 0 rfl ?_
      obtain ⟨r3, h3, hf⟩ := am_b1_e hf
      refine ar_cVi (As := [.int r2]) (st := []) X dX1_firstWithoutBid_33 (am_X0_bidOf (L1_c13 hL) h3) lk_X1_209 mt_X0_bidOf mi_X0_bidOf (L1_s13 hL) rfl rfl (Nat.le_of_ble_eq_true rfl) ⟨by decide, by decide⟩ ⟨Nat.zero_le _, Nat.zero_le _⟩ rfl ?_
      refine ar_bipush (v := -6) X dX1_firstWithoutBid_36 (by decide) ?_
      refine ar_icmp_ne (tgt := 43) X dX1_firstWithoutBid_38 (by decide) hf (fun h4 hf => ?_) (fun h4 hf => ?_)
      · refine ar_iload_n X dX1_firstWithoutBid_41 rfl 0 rfl ?_
        cases hf
        exact ar_iret X dX1_firstWithoutBid_42 hR (Nat.le_refl _) (Nat.le_refl _)
      · refine ar_iinc (j := 3) (v := (l2 + 1)) X dX1_firstWithoutBid_43 rfl rfl (by decide) rfl ?_
        refine ar_goto (tgt := 7) X dX1_firstWithoutBid_46 (by decide) ?_
        refine ar_lo [2, 3, 0] rfl ?_
        exact ih l1 (l2 + 1) hf
def f_X1_firstWithoutBid (o : Nat)  (I : aI) : Option Int32 :=
  am_b1 (f_X1_starter o I) fun r1 =>
  f_X1_firstWithoutBid_h7 o am_F r1 (0 : Int32) I
set_option maxRecDepth 100000 in
set_option maxHeartbeats 4000000 in
theorem am_X1_firstWithoutBid {sh : aS} {P : aP} {I : aI} {J : aJ} {o : Nat} (hL : L1 sh P o)  {r : Int32} (hf : f_X1_firstWithoutBid o I = some r) : AM yX1_firstWithoutBid cX1_firstWithoutBid 4 (some .int) 2 43 [.ref o] sh P I J (some (.int r)) sh P I J 0 0 := by
  refine am_met (by decide +kernel) (Nat.le_of_ble_eq_true rfl) (fun K X hR => ?_)
  have X : am_C K cX1_firstWithoutBid 4 RX1 "firstWithoutBid" ({ frames := 2, cells := 0, slots := 0, locals := 43 } : Room) := X
  show AW K 4 0 [(0, .ref o)] [] sh P I J 0 0
  unfold f_X1_firstWithoutBid at hf
  refine ar_aload_n X dX1_firstWithoutBid_0 rfl 0 rfl ?_
  obtain ⟨r1, h1, hf⟩ := am_b1_e hf
  refine ar_cVi (As := []) (st := []) X dX1_firstWithoutBid_1 (am_X1_starter hL h1) lk_X1_94 mt_X1_starter mi_X1_starter (L1_s0 hL) rfl rfl (Nat.le_of_ble_eq_true rfl) ⟨by decide, by decide⟩ ⟨Nat.zero_le _, Nat.zero_le _⟩ rfl ?_
  refine ar_istore_n X dX1_firstWithoutBid_4 rfl (by decide) rfl ?_
  refine ar_iconst (v := 0) X dX1_firstWithoutBid_5 (by decide) ?_
  refine ar_istore_n X dX1_firstWithoutBid_6 rfl (by decide) rfl ?_
  refine ar_lo [2, 1, 0] rfl ?_
  exact ab_X1_firstWithoutBid_h7 X hL hR am_F r1 (0 : Int32) hf
def f_X2_nextIsLast (o : Nat)  (I : aI) : Option Int32 :=
  if (I o 0) ≤ 0 then (
    some (0 : Int32))
  else (
    if (I o 1) = ((I o 0) - (1 : Int32)) then (
      some (1 : Int32))
    else (
      some (0 : Int32)))
set_option maxRecDepth 100000 in
set_option maxHeartbeats 4000000 in
theorem am_X2_nextIsLast {sh : aS} {P : aP} {I : aI} {J : aJ} {o : Nat} (hL : L2 sh P o)  {r : Int32} (hf : f_X2_nextIsLast o I = some r) : AM yX2_nextIsLast cX2_nextIsLast 1 (some .boolean) 0 0 [.ref o] sh P I J (some (.int r)) sh P I J 0 0 := by
  refine am_met (by decide +kernel) (Nat.le_of_ble_eq_true rfl) (fun K X hR => ?_)
  have X : am_C K cX2_nextIsLast 1 RX2 "nextIsLast" ({ frames := 0, cells := 0, slots := 0, locals := 0 } : Room) := X
  show AW K 1 0 [(0, .ref o)] [] sh P I J 0 0
  unfold f_X2_nextIsLast at hf
  refine ar_aload_n X dX2_nextIsLast_0 rfl 0 rfl ?_
  refine ar_geti X dX2_nextIsLast_1 fg_X2_24 rfl (L2_s0 hL) ?_
  refine ar_if_le (tgt := 24) X dX2_nextIsLast_4 (by decide) hf (fun h1 hf => ?_) (fun h1 hf => ?_)
  · refine ar_iconst (v := 0) X dX2_nextIsLast_24 (by decide) ?_
    cases hf
    exact ar_zret X dX2_nextIsLast_25 rfl hR (Nat.le_refl _) (Nat.le_refl _)
  · refine ar_aload_n X dX2_nextIsLast_7 rfl 0 rfl ?_
    refine ar_geti X dX2_nextIsLast_8 fg_X2_28 rfl (L2_s0 hL) ?_
    refine ar_aload_n X dX2_nextIsLast_11 rfl 0 rfl ?_
    refine ar_geti X dX2_nextIsLast_12 fg_X2_24 rfl (L2_s0 hL) ?_
    refine ar_iconst (v := 1) X dX2_nextIsLast_15 (by decide) ?_
    refine ar_isub X dX2_nextIsLast_16 ?_
    refine ar_icmp_ne (tgt := 24) X dX2_nextIsLast_17 (by decide) hf (fun h2 hf => ?_) (fun h2 hf => ?_)
    · refine ar_iconst (v := 1) X dX2_nextIsLast_20 (by decide) ?_
      refine ar_goto (tgt := 25) X dX2_nextIsLast_21 (by decide) ?_
      cases hf
      exact ar_zret X dX2_nextIsLast_25 rfl hR (Nat.le_refl _) (Nat.le_refl _)
    · refine ar_iconst (v := 0) X dX2_nextIsLast_24 (by decide) ?_
      cases hf
      exact ar_zret X dX2_nextIsLast_25 rfl hR (Nat.le_refl _) (Nat.le_refl _)
def f_X4_poorest_h4 (o : Nat) : Nat → Int32 → Int32 → Int32 → aI → Option Int32
  | 0, _, _, _, _ => none
  | n + 1, l1, l2, l3, I =>
    if (I o 0) ≤ l3 then (
      some l2)
    else (
      am_b1 (f_X4_seatBehind o l1 l3 I) fun r2 =>
      am_b1 (f_X4_amountOf o r2 I) fun r3 =>
      am_b1 (f_X4_amountOf o l2 I) fun r4 =>
      if r4 ≤ r3 then (
        f_X4_poorest_h4 o n l1 l2 (l3 + 1) I)
      else (
        f_X4_poorest_h4 o n l1 r2 (l3 + 1) I))
set_option maxRecDepth 100000 in
set_option maxHeartbeats 4000000 in
theorem ab_X4_poorest_h4 {K : aK} {sh : aS} {P : aP} {I : aI} {J : aJ} {o : Nat} (X : am_C K cX4_poorest 5 RX4 "poorest" ({ frames := 2, cells := 0, slots := 0, locals := 42 } : Room)) (hL : L4 sh P o) {r : Int32} (hR : am_R K (some .int) (some (.int r)) sh P I J 0 0) : ∀ (n : Nat) (l1 : Int32) (l2 : Int32) (l3 : Int32) , f_X4_poorest_h4 o n l1 l2 l3 I = some r → AW K 5 4 [(0, .ref o), (1, .int l1), (2, .int l2), (3, .int l3)] [] sh P I J 0 0 := by
  intro n
  induction n with
  | zero =>
    intro l1 l2 l3 hf
    cases hf
  | succ n ih =>
    intro l1 l2 l3 hf
    rw [f_X4_poorest_h4] at hf
    refine ar_iload_n X dX4_poorest_4 rfl 3 rfl ?_
    refine ar_aload_n X dX4_poorest_5 rfl 0 rfl ?_
    refine ar_geti X dX4_poorest_6 fg_X4_9 rfl (L4_s0 hL) ?_
    refine ar_icmp_ge (tgt := 43) X dX4_poorest_9 (by decide) hf (fun h1 hf => ?_) (fun h1 hf => ?_)
    · refine ar_iload_n X dX4_poorest_43 rfl 2 rfl ?_
      cases hf
      exact ar_iret X dX4_poorest_44 hR (Nat.le_refl _) (Nat.le_refl _)
    · refine ar_aload_n X dX4_poorest_12 rfl 0 rfl ?_
      refine ar_iload_n X dX4_poorest_13 rfl 1 rfl ?_
      refine ar_iload_n X dX4_poorest_14 rfl 3 rfl ?_
      obtain ⟨r2, h2, hf⟩ := am_b1_e hf
      refine ar_cVi (As := [.int l1, .int l3]) (st := []) X dX4_poorest_15 (am_X4_seatBehind hL h2) lk_X4_62 mt_X4_seatBehind mi_X4_seatBehind (L4_s0 hL) rfl rfl (Nat.le_of_ble_eq_true rfl) ⟨by decide, by decide⟩ ⟨Nat.zero_le _, Nat.zero_le _⟩ rfl ?_
      refine ar_istore X dX4_poorest_18 (by decide) rfl ?_
      refine ar_aload_n X dX4_poorest_20 rfl 1 rfl ?_
      refine ar_iload X dX4_poorest_21 0 rfl ?_
      obtain ⟨r3, h3, hf⟩ := am_b1_e hf
      refine ar_cVi (As := [.int r2]) (st := []) X dX4_poorest_23 (am_X4_amountOf hL h3) lk_X4_45 mt_X4_amountOf mi_X4_amountOf (L4_s0 hL) rfl rfl (Nat.le_of_ble_eq_true rfl) ⟨by decide, by decide⟩ ⟨Nat.zero_le _, Nat.zero_le _⟩ rfl ?_
      refine ar_aload_n X dX4_poorest_26 rfl 1 rfl ?_
      refine ar_iload_n X dX4_poorest_27 rfl 3 rfl ?_
      obtain ⟨r4, h4, hf⟩ := am_b1_e hf
      refine ar_cVi (As := [.int l2]) (st := [.int r3]) X dX4_poorest_28 (am_X4_amountOf hL h4) lk_X4_45 mt_X4_amountOf mi_X4_amountOf (L4_s0 hL) rfl rfl (Nat.le_of_ble_eq_true rfl) ⟨by decide, by decide⟩ ⟨Nat.zero_le _, Nat.zero_le _⟩ rfl ?_
      refine ar_icmp_ge (tgt := 37) X dX4_poorest_31 (by decide) hf (fun h5 hf => ?_) (fun h5 hf => ?_)
      · refine ar_iinc (j := 4) (v := (l3 + 1)) X dX4_poorest_37 rfl rfl (by decide) rfl ?_
        refine ar_goto (tgt := 4) X dX4_poorest_40 (by decide) ?_
        refine ar_lo [2, 3, 4, 0] rfl ?_
        exact ih l1 l2 (l3 + 1) hf
      · refine ar_iload X dX4_poorest_34 0 rfl ?_
        refine ar_istore_n X dX4_poorest_36 rfl (by decide) rfl ?_
        refine ar_iinc (j := 4) (v := (l3 + 1)) X dX4_poorest_37 rfl rfl (by decide) rfl ?_
        refine ar_goto (tgt := 4) X dX4_poorest_40 (by decide) ?_
        refine ar_lo [3, 4, 1, 0] rfl ?_
        exact ih l1 r2 (l3 + 1) hf
def f_X4_poorest (o : Nat) (a1 : Int32) (I : aI) : Option Int32 :=
  f_X4_poorest_h4 o am_F a1 a1 (1 : Int32) I
set_option maxRecDepth 100000 in
set_option maxHeartbeats 4000000 in
theorem am_X4_poorest {sh : aS} {P : aP} {I : aI} {J : aJ} {o : Nat} (hL : L4 sh P o) {a1 : Int32} {r : Int32} (hf : f_X4_poorest o a1 I = some r) : AM yX4_poorest cX4_poorest 5 (some .int) 2 42 [.ref o, .int a1] sh P I J (some (.int r)) sh P I J 0 0 := by
  refine am_met (by decide +kernel) (Nat.le_of_ble_eq_true rfl) (fun K X hR => ?_)
  have X : am_C K cX4_poorest 5 RX4 "poorest" ({ frames := 2, cells := 0, slots := 0, locals := 42 } : Room) := X
  show AW K 5 0 [(0, .ref o), (1, .int a1)] [] sh P I J 0 0
  unfold f_X4_poorest at hf
  refine ar_iload_n X dX4_poorest_0 rfl 1 rfl ?_
  refine ar_istore_n X dX4_poorest_1 rfl (by decide) rfl ?_
  refine ar_iconst (v := 1) X dX4_poorest_2 (by decide) ?_
  refine ar_istore_n X dX4_poorest_3 rfl (by decide) rfl ?_
  refine ar_lo [2, 3, 1, 0] rfl ?_
  exact ab_X4_poorest_h4 X hL hR am_F a1 a1 (1 : Int32) hf
def f_X2_close (o : Nat) (a1 : Int32) (a2 : Int32) (I : aI) : Option aI :=
  if (I o 1) < 0 then (
    some I)
  else (
    if (I o 1) < (I o 0) then (
      am_g (am_ok (I o 1) 12) (am_let (am_w I (o + 3) (Int32.toNatClampNeg (I o 1)) a1) fun I3 =>
      am_g (am_ok (I3 o 1) 12) (am_let (am_w I3 (o + 4) (Int32.toNatClampNeg (I3 o 1)) a2) fun I4 =>
      am_let (am_w I4 o 1 ((I4 o 1) + (1 : Int32))) fun I5 =>
      some I5)))
    else (
      some I))
set_option maxRecDepth 100000 in
set_option maxHeartbeats 4000000 in
theorem am_X2_close {sh : aS} {P : aP} {I : aI} {J : aJ} {o : Nat} (hL : L2 sh P o) {a1 : Int32} {a2 : Int32} {I9 : aI} (hf : f_X2_close o a1 a2 I = some I9) : AM yX2_close cX2_close 3 none 0 0 [.ref o, .int a1, .int a2] sh P I J none sh P I9 J 0 0 := by
  refine am_met (by decide +kernel) (Nat.le_of_ble_eq_true rfl) (fun K X hR => ?_)
  have X : am_C K cX2_close 3 RX2 "close" ({ frames := 0, cells := 0, slots := 0, locals := 0 } : Room) := X
  show AW K 3 0 [(0, .ref o), (1, .int a1), (2, .int a2)] [] sh P I J 0 0
  unfold f_X2_close at hf
  refine ar_aload_n X dX2_close_0 rfl 0 rfl ?_
  refine ar_geti X dX2_close_1 fg_X2_28 rfl (L2_s0 hL) ?_
  refine ar_if_lt (tgt := 18) X dX2_close_4 (by decide) hf (fun h1 hf => ?_) (fun h1 hf => ?_)
  · cases hf
    exact ar_vret X dX2_close_18 hR (Nat.le_refl _) (Nat.le_refl _)
  · refine ar_aload_n X dX2_close_7 rfl 0 rfl ?_
    refine ar_geti X dX2_close_8 fg_X2_28 rfl (L2_s0 hL) ?_
    refine ar_aload_n X dX2_close_11 rfl 0 rfl ?_
    refine ar_geti X dX2_close_12 fg_X2_24 rfl (L2_s0 hL) ?_
    refine ar_icmp_lt (tgt := 19) X dX2_close_15 (by decide) hf (fun h2 hf => ?_) (fun h2 hf => ?_)
    · refine ar_aload_n X dX2_close_19 rfl 0 rfl ?_
      refine ar_getr X dX2_close_20 fg_X2_18 rfl (L2_s0 hL) (L2_p0_4 hL) ?_
      refine ar_aload_n X dX2_close_23 rfl 0 rfl ?_
      refine ar_geti X dX2_close_24 fg_X2_28 rfl (L2_s0 hL) ?_
      refine ar_iload_n X dX2_close_27 rfl 1 rfl ?_
      refine ar_iast X dX2_close_28 (L2_s3 hL) hf (fun I3 hf => ?_)
      refine ar_aload_n X dX2_close_29 rfl 0 rfl ?_
      refine ar_getr X dX2_close_30 fg_X2_21 rfl (L2_s0 hL) (L2_p0_5 hL) ?_
      refine ar_aload_n X dX2_close_33 rfl 0 rfl ?_
      refine ar_geti X dX2_close_34 fg_X2_28 rfl (L2_s0 hL) ?_
      refine ar_iload_n X dX2_close_37 rfl 2 rfl ?_
      refine ar_iast X dX2_close_38 (L2_s4 hL) hf (fun I4 hf => ?_)
      refine ar_aload_n X dX2_close_39 rfl 0 rfl ?_
      refine ar_dup X dX2_close_40 rfl ?_
      refine ar_geti X dX2_close_41 fg_X2_28 rfl (L2_s0 hL) ?_
      refine ar_iconst (v := 1) X dX2_close_44 (by decide) ?_
      refine ar_iadd X dX2_close_45 ?_
      refine ar_puti X dX2_close_46 fd_X2_28 rfl ⟨rfl, rfl⟩ (L2_s0 hL) hf (fun I5 hf => ?_)
      cases hf
      exact ar_vret X dX2_close_49 hR (Nat.le_refl _) (Nat.le_refl _)
    · cases hf
      exact ar_vret X dX2_close_18 hR (Nat.le_refl _) (Nat.le_refl _)
def f_X1_giveLast (o : Nat)  (I : aI) : Option (Int32 × aI) :=
  am_b1 (f_X2_nextIsLast (o + 8) I) fun r1 =>
  if r1 = 0 then (
    some ((-5 : Int32), I))
  else (
    am_b1 (f_X1_starter o I) fun r3 =>
    am_b1 (f_X4_poorest (o + 2) r3 I) fun r4 =>
    am_b1 (f_X2_close (o + 8) (am_shl (1 : Int32) r4) (0 : Int32) I) fun I5 =>
    some (r4, I5))
set_option maxRecDepth 100000 in
set_option maxHeartbeats 4000000 in
theorem am_X1_giveLast {sh : aS} {P : aP} {I : aI} {J : aJ} {o : Nat} (hL : L1 sh P o)  {r : Int32} {I9 : aI} (hf : f_X1_giveLast o I = some (r, I9)) : AM yX1_giveLast cX1_giveLast 2 (some .int) 3 66 [.ref o] sh P I J (some (.int r)) sh P I9 J 0 0 := by
  refine am_met (by decide +kernel) (Nat.le_of_ble_eq_true rfl) (fun K X hR => ?_)
  have X : am_C K cX1_giveLast 2 RX1 "giveLast" ({ frames := 3, cells := 0, slots := 0, locals := 66 } : Room) := X
  show AW K 2 0 [(0, .ref o)] [] sh P I J 0 0
  unfold f_X1_giveLast at hf
  refine ar_aload_n X dX1_giveLast_0 rfl 0 rfl ?_
  refine ar_getr X dX1_giveLast_1 fg_X1_33 rfl (L1_s0 hL) (L1_p0_2 hL) ?_
  obtain ⟨r1, h1, hf⟩ := am_b1_e hf
  refine ar_cVi (As := []) (st := []) X dX1_giveLast_4 (am_X2_nextIsLast (L1_c8 hL) h1) lk_X1_171 mt_X2_nextIsLast mi_X2_nextIsLast (L1_s8 hL) rfl rfl (Nat.le_of_ble_eq_true rfl) ⟨by decide, by decide⟩ ⟨Nat.zero_le _, Nat.zero_le _⟩ rfl ?_
  refine ar_if_ne (tgt := 13) X dX1_giveLast_7 (by decide) hf (fun h2 hf => ?_) (fun h2 hf => ?_)
  · refine ar_bipush (v := -5) X dX1_giveLast_10 (by decide) ?_
    cases hf
    exact ar_iret X dX1_giveLast_12 hR (Nat.le_refl _) (Nat.le_refl _)
  · refine ar_aload_n X dX1_giveLast_13 rfl 0 rfl ?_
    refine ar_getr X dX1_giveLast_14 fg_X1_26 rfl (L1_s0 hL) (L1_p0_1 hL) ?_
    refine ar_aload_n X dX1_giveLast_17 rfl 0 rfl ?_
    obtain ⟨r3, h3, hf⟩ := am_b1_e hf
    refine ar_cVi (As := []) (st := [.ref (o + 2)]) X dX1_giveLast_18 (am_X1_starter hL h3) lk_X1_94 mt_X1_starter mi_X1_starter (L1_s0 hL) rfl rfl (Nat.le_of_ble_eq_true rfl) ⟨by decide, by decide⟩ ⟨Nat.zero_le _, Nat.zero_le _⟩ rfl ?_
    obtain ⟨r4, h4, hf⟩ := am_b1_e hf
    refine ar_cVi (As := [.int r3]) (st := []) X dX1_giveLast_21 (am_X4_poorest (L1_c2 hL) h4) lk_X1_174 mt_X4_poorest mi_X4_poorest (L1_s2 hL) rfl rfl (Nat.le_of_ble_eq_true rfl) ⟨by decide, by decide⟩ ⟨Nat.zero_le _, Nat.zero_le _⟩ rfl ?_
    refine ar_istore_n X dX1_giveLast_24 rfl (by decide) rfl ?_
    refine ar_aload_n X dX1_giveLast_25 rfl 1 rfl ?_
    refine ar_getr X dX1_giveLast_26 fg_X1_33 rfl (L1_s0 hL) (L1_p0_2 hL) ?_
    refine ar_iconst (v := 1) X dX1_giveLast_29 (by decide) ?_
    refine ar_iload_n X dX1_giveLast_30 rfl 0 rfl ?_
    refine ar_ishl X dX1_giveLast_31 ?_
    refine ar_iconst (v := 0) X dX1_giveLast_32 (by decide) ?_
    obtain ⟨I5, h5, hf⟩ := am_b1_e hf
    refine ar_cVv (As := [.int (am_shl (1 : Int32) r4), .int (0 : Int32)]) (st := []) X dX1_giveLast_33 (am_X2_close (L1_c8 hL) h5) lk_X1_157 mt_X2_close mi_X2_close (L1_s8 hL) rfl rfl (Nat.le_of_ble_eq_true rfl) ⟨by decide, by decide⟩ ⟨Nat.zero_le _, Nat.zero_le _⟩ rfl ?_
    refine ar_iload_n X dX1_giveLast_36 rfl 0 rfl ?_
    cases hf
    exact ar_iret X dX1_giveLast_37 hR (Nat.le_refl _) (Nat.le_refl _)
def f_X1_openBids_b66 (o : Nat) (l1 : Int32) (l2 : Int32) (I : aI) : Option aI :=
  am_let (am_w I (o + 13) 2 l1) fun I1 =>
  if l1 < (I1 (o + 13) 1) then (
    am_let (am_w I1 (o + 13) 7 (0 : Int32)) fun I3 =>
    some I3)
  else (
    am_let (am_w I1 (o + 13) 7 l2) fun I4 =>
    some I4)
set_option maxRecDepth 100000 in
set_option maxHeartbeats 4000000 in
theorem ab_X1_openBids_b66 {K : aK} {sh : aS} {P : aP} {J : aJ} {o : Nat} (X : am_C K cX1_openBids 5 RX1 "openBids" ({ frames := 2, cells := 0, slots := 0, locals := 43 } : Room)) (hL : L1 sh P o) {I9 : aI} (hR : am_R K none none sh P I9 J 0 0) (l1 : Int32) (l2 : Int32) (I : aI) (hf : f_X1_openBids_b66 o l1 l2 I = some I9) : AW K 5 66 [(0, .ref o), (1, .int l1), (2, .int l2)] [] sh P I J 0 0 := by
  unfold f_X1_openBids_b66 at hf
  refine ar_aload_n X dX1_openBids_66 rfl 0 rfl ?_
  refine ar_getr X dX1_openBids_67 fg_X1_40 rfl (L1_s0 hL) (L1_p0_3 hL) ?_
  refine ar_iload_n X dX1_openBids_70 rfl 1 rfl ?_
  refine ar_puti X dX1_openBids_71 fd_X1_151 rfl ⟨rfl, rfl⟩ (L1_s13 hL) hf (fun I1 hf => ?_)
  refine ar_aload_n X dX1_openBids_74 rfl 0 rfl ?_
  refine ar_getr X dX1_openBids_75 fg_X1_40 rfl (L1_s0 hL) (L1_p0_3 hL) ?_
  refine ar_iload_n X dX1_openBids_78 rfl 1 rfl ?_
  refine ar_aload_n X dX1_openBids_79 rfl 0 rfl ?_
  refine ar_getr X dX1_openBids_80 fg_X1_40 rfl (L1_s0 hL) (L1_p0_3 hL) ?_
  refine ar_geti X dX1_openBids_83 fg_X1_142 rfl (L1_s13 hL) ?_
  refine ar_icmp_lt (tgt := 93) X dX1_openBids_86 (by decide) hf (fun h2 hf => ?_) (fun h2 hf => ?_)
  · refine ar_iconst (v := 0) X dX1_openBids_93 (by decide) ?_
    refine ar_puti X dX1_openBids_94 fd_X1_148 rfl ⟨rfl, rfl⟩ (L1_s13 hL) hf (fun I3 hf => ?_)
    cases hf
    exact ar_vret X dX1_openBids_97 hR (Nat.le_refl _) (Nat.le_refl _)
  · refine ar_iload_n X dX1_openBids_89 rfl 2 rfl ?_
    refine ar_goto (tgt := 94) X dX1_openBids_90 (by decide) ?_
    refine ar_puti X dX1_openBids_94 fd_X1_148 rfl ⟨rfl, rfl⟩ (L1_s13 hL) hf (fun I4 hf => ?_)
    cases hf
    exact ar_vret X dX1_openBids_97 hR (Nat.le_refl _) (Nat.le_refl _)
def f_X1_openBids_b48 (o : Nat) (kh : Int32 → Int32 → Int32 → aI → Option aI) (l1 : Int32) (l2 : Int32) (l3 : Int32) (l4 : Int32) (I : aI) : Option aI :=
  if l4 = l1 then (
    am_let (l2 ||| (am_shl (1 : Int32) l3)) fun x2 =>
    kh l1 x2 (l3 + 1) I)
  else (
    kh l1 l2 (l3 + 1) I)
set_option maxRecDepth 100000 in
set_option maxHeartbeats 4000000 in
theorem ab_X1_openBids_b48 {K : aK} {sh : aS} {P : aP} {J : aJ} {o : Nat} (X : am_C K cX1_openBids 5 RX1 "openBids" ({ frames := 2, cells := 0, slots := 0, locals := 43 } : Room)) (hL : L1 sh P o) {I9 : aI} (hR : am_R K none none sh P I9 J 0 0) {kh : Int32 → Int32 → Int32 → aI → Option aI} (hk : ∀ (l1 : Int32) (l2 : Int32) (l3 : Int32) (I : aI) , kh l1 l2 l3 I = some I9 → AW K 5 6 [(0, .ref o), (1, .int l1), (2, .int l2), (3, .int l3)] [] sh P I J 0 0) (l1 : Int32) (l2 : Int32) (l3 : Int32) (l4 : Int32) (I : aI) (hf : f_X1_openBids_b48 o kh l1 l2 l3 l4 I = some I9) : AW K 5 48 [(0, .ref o), (1, .int l1), (2, .int l2), (3, .int l3), (4, .int l4)] [] sh P I J 0 0 := by
  unfold f_X1_openBids_b48 at hf
  refine ar_iload X dX1_openBids_48 4 rfl ?_
  refine ar_iload_n X dX1_openBids_50 rfl 1 rfl ?_
  refine ar_icmp_ne (tgt := 60) X dX1_openBids_51 (by decide) hf (fun h1 hf => ?_) (fun h1 hf => ?_)
  · refine ar_iload_n X dX1_openBids_54 rfl 2 rfl ?_
    refine ar_iconst (v := 1) X dX1_openBids_55 (by decide) ?_
    refine ar_iload_n X dX1_openBids_56 rfl 3 rfl ?_
    refine ar_ishl X dX1_openBids_57 ?_
    refine ar_ior X dX1_openBids_58 ?_
    refine ar_letI hf (fun x2 hf => ?_)
    refine ar_istore_n X dX1_openBids_59 rfl (by decide) rfl ?_
    refine ar_iinc (j := 3) (v := (l3 + 1)) X dX1_openBids_60 rfl rfl (by decide) rfl ?_
    refine ar_goto (tgt := 6) X dX1_openBids_63 (by decide) ?_
    refine ar_lo [2, 3, 1, 0] rfl ?_
    exact hk l1 x2 (l3 + 1) I hf
  · refine ar_iinc (j := 3) (v := (l3 + 1)) X dX1_openBids_60 rfl rfl (by decide) rfl ?_
    refine ar_goto (tgt := 6) X dX1_openBids_63 (by decide) ?_
    refine ar_lo [1, 2, 3, 0] rfl ?_
    exact hk l1 l2 (l3 + 1) I hf
def f_X1_openBids_h6 (o : Nat) : Nat → Int32 → Int32 → Int32 → aI → Option aI
  | 0, _, _, _, _ => none
  | n + 1, l1, l2, l3, I =>
    if (I (o + 2) 0) ≤ l3 then (
      f_X1_openBids_b66 o l1 l2 I)
    else (
      am_b1 (f_X0_bidOf (o + 13) l3 I) fun r2 =>
      am_b1 (f_X4_learnAtLeast (o + 2) l3 r2 I) fun I3 =>
      if r2 ≤ l1 then (
        f_X1_openBids_b48 o (f_X1_openBids_h6 o n) l1 l2 l3 r2 I3)
      else (
        f_X1_openBids_b48 o (f_X1_openBids_h6 o n) r2 (0 : Int32) l3 r2 I3))
set_option maxRecDepth 100000 in
set_option maxHeartbeats 4000000 in
theorem ab_X1_openBids_h6 {K : aK} {sh : aS} {P : aP} {J : aJ} {o : Nat} (X : am_C K cX1_openBids 5 RX1 "openBids" ({ frames := 2, cells := 0, slots := 0, locals := 43 } : Room)) (hL : L1 sh P o) {I9 : aI} (hR : am_R K none none sh P I9 J 0 0) : ∀ (n : Nat) (l1 : Int32) (l2 : Int32) (l3 : Int32) (I : aI) , f_X1_openBids_h6 o n l1 l2 l3 I = some I9 → AW K 5 6 [(0, .ref o), (1, .int l1), (2, .int l2), (3, .int l3)] [] sh P I J 0 0 := by
  intro n
  induction n with
  | zero =>
    intro l1 l2 l3 I hf
    cases hf
  | succ n ih =>
    intro l1 l2 l3 I hf
    rw [f_X1_openBids_h6] at hf
    refine ar_iload_n X dX1_openBids_6 rfl 3 rfl ?_
    refine ar_aload_n X dX1_openBids_7 rfl 0 rfl ?_
    refine ar_getr X dX1_openBids_8 fg_X1_26 rfl (L1_s0 hL) (L1_p0_1 hL) ?_
    refine ar_geti X dX1_openBids_11 fg_X1_82 rfl (L1_s2 hL) ?_
    refine ar_icmp_ge (tgt := 66) X dX1_openBids_14 (by decide) hf (fun h1 hf => ?_) (fun h1 hf => ?_)
    · refine ar_lo [0, 1, 2] rfl ?_
      exact ab_X1_openBids_b66 X hL hR l1 l2 I hf
    · refine ar_aload_n X dX1_openBids_17 rfl 0 rfl ?_
      refine ar_getr X dX1_openBids_18 fg_X1_40 rfl (L1_s0 hL) (L1_p0_3 hL) ?_
      refine ar_iload_n X dX1_openBids_21 rfl 3 rfl ?_
      obtain ⟨r2, h2, hf⟩ := am_b1_e hf
      refine ar_cVi (As := [.int l3]) (st := []) X dX1_openBids_22 (am_X0_bidOf (L1_c13 hL) h2) lk_X1_209 mt_X0_bidOf mi_X0_bidOf (L1_s13 hL) rfl rfl (Nat.le_of_ble_eq_true rfl) ⟨by decide, by decide⟩ ⟨Nat.zero_le _, Nat.zero_le _⟩ rfl ?_
      refine ar_istore X dX1_openBids_25 (by decide) rfl ?_
      refine ar_aload_n X dX1_openBids_27 rfl 1 rfl ?_
      refine ar_getr X dX1_openBids_28 fg_X1_26 rfl (L1_s0 hL) (L1_p0_1 hL) ?_
      refine ar_iload_n X dX1_openBids_31 rfl 4 rfl ?_
      refine ar_iload X dX1_openBids_32 0 rfl ?_
      obtain ⟨I3, h3, hf⟩ := am_b1_e hf
      refine ar_cVv (As := [.int l3, .int r2]) (st := []) X dX1_openBids_34 (am_X4_learnAtLeast (L1_c2 hL) h3) lk_X1_190 mt_X4_learnAtLeast mi_X4_learnAtLeast (L1_s2 hL) rfl rfl (Nat.le_of_ble_eq_true rfl) ⟨by decide, by decide⟩ ⟨Nat.zero_le _, Nat.zero_le _⟩ rfl ?_
      refine ar_iload X dX1_openBids_37 0 rfl ?_
      refine ar_iload_n X dX1_openBids_39 rfl 2 rfl ?_
      refine ar_icmp_le (tgt := 48) X dX1_openBids_40 (by decide) hf (fun h4 hf => ?_) (fun h4 hf => ?_)
      · refine ar_lo [1, 2, 3, 4, 0] rfl ?_
        exact ab_X1_openBids_b48 X hL hR ih l1 l2 l3 r2 I3 hf
      · refine ar_iload X dX1_openBids_43 0 rfl ?_
        refine ar_istore_n X dX1_openBids_45 rfl (by decide) rfl ?_
        refine ar_iconst (v := 0) X dX1_openBids_46 (by decide) ?_
        refine ar_istore_n X dX1_openBids_47 rfl (by decide) rfl ?_
        refine ar_lo [3, 1, 0, 4, 2] rfl ?_
        exact ab_X1_openBids_b48 X hL hR ih r2 (0 : Int32) l3 r2 I3 hf
def f_X1_openBids (o : Nat)  (I : aI) : Option aI :=
  f_X1_openBids_h6 o am_F (0 : Int32) (0 : Int32) (0 : Int32) I
set_option maxRecDepth 100000 in
set_option maxHeartbeats 4000000 in
theorem am_X1_openBids {sh : aS} {P : aP} {I : aI} {J : aJ} {o : Nat} (hL : L1 sh P o)  {I9 : aI} (hf : f_X1_openBids o I = some I9) : AM yX1_openBids cX1_openBids 5 none 2 43 [.ref o] sh P I J none sh P I9 J 0 0 := by
  refine am_met (by decide +kernel) (Nat.le_of_ble_eq_true rfl) (fun K X hR => ?_)
  have X : am_C K cX1_openBids 5 RX1 "openBids" ({ frames := 2, cells := 0, slots := 0, locals := 43 } : Room) := X
  show AW K 5 0 [(0, .ref o)] [] sh P I J 0 0
  unfold f_X1_openBids at hf
  refine ar_iconst (v := 0) X dX1_openBids_0 (by decide) ?_
  refine ar_istore_n X dX1_openBids_1 rfl (by decide) rfl ?_
  refine ar_iconst (v := 0) X dX1_openBids_2 (by decide) ?_
  refine ar_istore_n X dX1_openBids_3 rfl (by decide) rfl ?_
  refine ar_iconst (v := 0) X dX1_openBids_4 (by decide) ?_
  refine ar_istore_n X dX1_openBids_5 rfl (by decide) rfl ?_
  refine ar_lo [3, 2, 1, 0] rfl ?_
  exact ab_X1_openBids_h6 X hL hR am_F (0 : Int32) (0 : Int32) (0 : Int32) I hf
def f_X1_handIn (o : Nat) (a1 : Int32) (a2 : Int32) (I : aI) : Option (Int32 × aI) :=
  am_b1 (f_X0_bidOf (o + 13) a1 I) fun r1 =>
  if r1 = (-6 : Int32) then (
    am_b1 (f_X4_amountOf (o + 2) a1 I) fun r3 =>
    am_b1 (f_X6_within a2 (0 : Int32) r3) fun r4 =>
    if r4 = 0 then (
      some ((-2 : Int32), I))
    else (
      am_b1 (f_X0_noteBid (o + 13) a1 a2 I) fun I6 =>
      if (I6 (o + 13) 5) = (I6 (o + 2) 0) then (
        am_b1 (f_X1_openBids o I6) fun I8 =>
        some ((-6 : Int32), I8))
      else (
        some ((-6 : Int32), I6))))
  else (
    some ((-5 : Int32), I))
set_option maxRecDepth 100000 in
set_option maxHeartbeats 4000000 in
theorem am_X1_handIn {sh : aS} {P : aP} {I : aI} {J : aJ} {o : Nat} (hL : L1 sh P o) {a1 : Int32} {a2 : Int32} {r : Int32} {I9 : aI} (hf : f_X1_handIn o a1 a2 I = some (r, I9)) : AM yX1_handIn cX1_handIn 3 (some .int) 3 67 [.ref o, .int a1, .int a2] sh P I J (some (.int r)) sh P I9 J 0 0 := by
  refine am_met (by decide +kernel) (Nat.le_of_ble_eq_true rfl) (fun K X hR => ?_)
  have X : am_C K cX1_handIn 3 RX1 "handIn" ({ frames := 3, cells := 0, slots := 0, locals := 67 } : Room) := X
  show AW K 3 0 [(0, .ref o), (1, .int a1), (2, .int a2)] [] sh P I J 0 0
  unfold f_X1_handIn at hf
  refine ar_aload_n X dX1_handIn_0 rfl 0 rfl ?_
  refine ar_getr X dX1_handIn_1 fg_X1_40 rfl (L1_s0 hL) (L1_p0_3 hL) ?_
  refine ar_iload_n X dX1_handIn_4 rfl 1 rfl ?_
  obtain ⟨r1, h1, hf⟩ := am_b1_e hf
  refine ar_cVi (As := [.int a1]) (st := []) X dX1_handIn_5 (am_X0_bidOf (L1_c13 hL) h1) lk_X1_209 mt_X0_bidOf mi_X0_bidOf (L1_s13 hL) rfl rfl (Nat.le_of_ble_eq_true rfl) ⟨by decide, by decide⟩ ⟨Nat.zero_le _, Nat.zero_le _⟩ rfl ?_
  refine ar_bipush (v := -6) X dX1_handIn_8 (by decide) ?_
  refine ar_icmp_eq (tgt := 16) X dX1_handIn_10 (by decide) hf (fun h2 hf => ?_) (fun h2 hf => ?_)
  · refine ar_iload_n X dX1_handIn_16 rfl 2 rfl ?_
    refine ar_iconst (v := 0) X dX1_handIn_17 (by decide) ?_
    refine ar_aload_n X dX1_handIn_18 rfl 0 rfl ?_
    refine ar_getr X dX1_handIn_19 fg_X1_26 rfl (L1_s0 hL) (L1_p0_1 hL) ?_
    refine ar_iload_n X dX1_handIn_22 rfl 1 rfl ?_
    obtain ⟨r3, h3, hf⟩ := am_b1_e hf
    refine ar_cVi (As := [.int a1]) (st := [.int (0 : Int32), .int a2]) X dX1_handIn_23 (am_X4_amountOf (L1_c2 hL) h3) lk_X1_180 mt_X4_amountOf mi_X4_amountOf (L1_s2 hL) rfl rfl (Nat.le_of_ble_eq_true rfl) ⟨by decide, by decide⟩ ⟨Nat.zero_le _, Nat.zero_le _⟩ rfl ?_
    obtain ⟨r4, h4, hf⟩ := am_b1_e hf
    refine ar_cSi (As := [.int a2, .int (0 : Int32), .int r3]) (st := []) X dX1_handIn_26 (am_X6_within h4) lk_X1_183 mt_X6_within ms_X6_within rfl (Nat.le_of_ble_eq_true rfl) ⟨by decide, by decide⟩ ⟨Nat.zero_le _, Nat.zero_le _⟩ rfl ?_
    refine ar_if_ne (tgt := 35) X dX1_handIn_29 (by decide) hf (fun h5 hf => ?_) (fun h5 hf => ?_)
    · refine ar_bipush (v := -2) X dX1_handIn_32 (by decide) ?_
      cases hf
      exact ar_iret X dX1_handIn_34 hR (Nat.le_refl _) (Nat.le_refl _)
    · refine ar_aload_n X dX1_handIn_35 rfl 0 rfl ?_
      refine ar_getr X dX1_handIn_36 fg_X1_40 rfl (L1_s0 hL) (L1_p0_3 hL) ?_
      refine ar_iload_n X dX1_handIn_39 rfl 1 rfl ?_
      refine ar_iload_n X dX1_handIn_40 rfl 2 rfl ?_
      obtain ⟨I6, h6, hf⟩ := am_b1_e hf
      refine ar_cVv (As := [.int a1, .int a2]) (st := []) X dX1_handIn_41 (am_X0_noteBid (L1_c13 hL) h6) lk_X1_187 mt_X0_noteBid mi_X0_noteBid (L1_s13 hL) rfl rfl (Nat.le_of_ble_eq_true rfl) ⟨by decide, by decide⟩ ⟨Nat.zero_le _, Nat.zero_le _⟩ rfl ?_
      refine ar_aload_n X dX1_handIn_44 rfl 0 rfl ?_
      refine ar_getr X dX1_handIn_45 fg_X1_40 rfl (L1_s0 hL) (L1_p0_3 hL) ?_
      refine ar_geti X dX1_handIn_48 fg_X1_200 rfl (L1_s13 hL) ?_
      refine ar_aload_n X dX1_handIn_51 rfl 0 rfl ?_
      refine ar_getr X dX1_handIn_52 fg_X1_26 rfl (L1_s0 hL) (L1_p0_1 hL) ?_
      refine ar_geti X dX1_handIn_55 fg_X1_82 rfl (L1_s2 hL) ?_
      refine ar_icmp_ne (tgt := 65) X dX1_handIn_58 (by decide) hf (fun h7 hf => ?_) (fun h7 hf => ?_)
      · refine ar_aload_n X dX1_handIn_61 rfl 0 rfl ?_
        obtain ⟨I8, h8, hf⟩ := am_b1_e hf
        refine ar_cVv (As := []) (st := []) X dX1_handIn_62 (am_X1_openBids hL h8) lk_X1_212 mt_X1_openBids mi_X1_openBids (L1_s0 hL) rfl rfl (Nat.le_of_ble_eq_true rfl) ⟨by decide, by decide⟩ ⟨Nat.zero_le _, Nat.zero_le _⟩ rfl ?_
        refine ar_bipush (v := -6) X dX1_handIn_65 (by decide) ?_
        cases hf
        exact ar_iret X dX1_handIn_67 hR (Nat.le_refl _) (Nat.le_refl _)
      · refine ar_bipush (v := -6) X dX1_handIn_65 (by decide) ?_
        cases hf
        exact ar_iret X dX1_handIn_67 hR (Nat.le_refl _) (Nat.le_refl _)
  · refine ar_bipush (v := -5) X dX1_handIn_13 (by decide) ?_
    cases hf
    exact ar_iret X dX1_handIn_15 hR (Nat.le_refl _) (Nat.le_refl _)
def f_X1_isUnopened (o : Nat)  (I : aI) : Option Int32 :=
  if (I (o + 8) 1) = 0 then (
    am_b1 (f_X0_goesOn (o + 13) I) fun r2 =>
    if r2 = 0 then (
      some (1 : Int32))
    else (
      some (0 : Int32)))
  else (
    some (0 : Int32))
set_option maxRecDepth 100000 in
set_option maxHeartbeats 4000000 in
theorem am_X1_isUnopened {sh : aS} {P : aP} {I : aI} {J : aJ} {o : Nat} (hL : L1 sh P o)  {r : Int32} (hf : f_X1_isUnopened o I = some r) : AM yX1_isUnopened cX1_isUnopened 1 (some .boolean) 1 20 [.ref o] sh P I J (some (.int r)) sh P I J 0 0 := by
  refine am_met (by decide +kernel) (Nat.le_of_ble_eq_true rfl) (fun K X hR => ?_)
  have X : am_C K cX1_isUnopened 1 RX1 "isUnopened" ({ frames := 1, cells := 0, slots := 0, locals := 20 } : Room) := X
  show AW K 1 0 [(0, .ref o)] [] sh P I J 0 0
  unfold f_X1_isUnopened at hf
  refine ar_aload_n X dX1_isUnopened_0 rfl 0 rfl ?_
  refine ar_getr X dX1_isUnopened_1 fg_X1_33 rfl (L1_s0 hL) (L1_p0_2 hL) ?_
  refine ar_geti X dX1_isUnopened_4 fg_X1_74 rfl (L1_s8 hL) ?_
  refine ar_if_ne (tgt := 24) X dX1_isUnopened_7 (by decide) hf (fun h1 hf => ?_) (fun h1 hf => ?_)
  · refine ar_aload_n X dX1_isUnopened_10 rfl 0 rfl ?_
    refine ar_getr X dX1_isUnopened_11 fg_X1_40 rfl (L1_s0 hL) (L1_p0_3 hL) ?_
    obtain ⟨r2, h2, hf⟩ := am_b1_e hf
    refine ar_cVi (As := []) (st := []) X dX1_isUnopened_14 (am_X0_goesOn (L1_c13 hL) h2) lk_X1_78 mt_X0_goesOn mi_X0_goesOn (L1_s13 hL) rfl rfl (Nat.le_of_ble_eq_true rfl) ⟨by decide, by decide⟩ ⟨Nat.zero_le _, Nat.zero_le _⟩ rfl ?_
    refine ar_if_ne (tgt := 24) X dX1_isUnopened_17 (by decide) hf (fun h3 hf => ?_) (fun h3 hf => ?_)
    · refine ar_iconst (v := 1) X dX1_isUnopened_20 (by decide) ?_
      refine ar_goto (tgt := 25) X dX1_isUnopened_21 (by decide) ?_
      cases hf
      exact ar_zret X dX1_isUnopened_25 rfl hR (Nat.le_refl _) (Nat.le_refl _)
    · refine ar_iconst (v := 0) X dX1_isUnopened_24 (by decide) ?_
      cases hf
      exact ar_zret X dX1_isUnopened_25 rfl hR (Nat.le_refl _) (Nat.le_refl _)
  · refine ar_iconst (v := 0) X dX1_isUnopened_24 (by decide) ?_
    cases hf
    exact ar_zret X dX1_isUnopened_25 rfl hR (Nat.le_refl _) (Nat.le_refl _)
end
