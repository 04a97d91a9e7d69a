noncomputable section
def f_X7_goOn_b84 (o : Nat)  (I : aI) : Option (Int32 × aI) :=
  am_b2 (f_X7_sellTo o (I (o + 1) 7) (I (o + 1) 6) I) fun r1 I1 =>
  some (r1, I1)
set_option maxRecDepth 100000 in
set_option maxHeartbeats 4000000 in
theorem ab_X7_goOn_b84 {K : aK} {sh : aS} {P : aP} {J : aJ} {o : Nat} (X : am_C K cX7_goOn 5 RX7 "goOn" ({ frames := 4, cells := 0, slots := 0, locals := 89 } : Room)) (hL : L7 sh P o) {r : Int32} {I9 : aI} (hR : am_R K (some .int) (some (.int r)) sh P I9 J 0 0)  (I : aI) (hf : f_X7_goOn_b84 o I = some (r, I9)) : AW K 5 84 [(0, .ref o)] [] sh P I J 0 0 := by
  unfold f_X7_goOn_b84 at hf
  refine ar_aload_n X dX7_goOn_84 rfl 0 rfl ?_
  refine ar_aload_n X dX7_goOn_85 rfl 0 rfl ?_
  refine ar_getr X dX7_goOn_86 fg_X7_7 rfl (L7_s0 hL) (L7_p0_0 hL) ?_
  refine ar_bipush (v := 7) X dX7_goOn_89 (by decide) ?_
  refine ar_ialdK (k := 7) X dX7_goOn_91 (L7_s1 hL) (by decide) (by decide) ?_
  refine ar_aload_n X dX7_goOn_92 rfl 0 rfl ?_
  refine ar_getr X dX7_goOn_93 fg_X7_7 rfl (L7_s0 hL) (L7_p0_0 hL) ?_
  refine ar_bipush (v := 6) X dX7_goOn_96 (by decide) ?_
  refine ar_ialdK (k := 6) X dX7_goOn_98 (L7_s1 hL) (by decide) (by decide) ?_
  obtain ⟨r1, I1, h1, hf⟩ := am_b2_e hf
  refine ar_cVi (As := [.int (I (o + 1) 7), .int (I (o + 1) 6)]) (st := []) X dX7_goOn_99 (am_X7_sellTo hL h1) lk_X7_109 mt_X7_sellTo mi_X7_sellTo (L7_s0 hL) rfl rfl (Nat.le_of_ble_eq_true rfl) ⟨by decide, by decide⟩ ⟨Nat.zero_le _, Nat.zero_le _⟩ rfl ?_
  cases hf
  exact ar_iret X dX7_goOn_102 hR (Nat.le_refl _) (Nat.le_refl _)
def f_X7_goOn_b65 (o : Nat) (l2 : Int32) (I : aI) : Option (Int32 × aI) :=
  if l2 < 0 then (
    f_X7_goOn_b84 o I)
  else (
    am_b1 (f_X7_setting o (2 : Int32) I) fun r2 =>
    if (I (o + 1) 9) < r2 then (
      am_let (am_w I (o + 1) 8 l2) fun I4 =>
      some ((-6 : Int32), I4))
    else (
      f_X7_goOn_b84 o I))
set_option maxRecDepth 100000 in
set_option maxHeartbeats 4000000 in
theorem ab_X7_goOn_b65 {K : aK} {sh : aS} {P : aP} {J : aJ} {o : Nat} (X : am_C K cX7_goOn 5 RX7 "goOn" ({ frames := 4, cells := 0, slots := 0, locals := 89 } : Room)) (hL : L7 sh P o) {r : Int32} {I9 : aI} (hR : am_R K (some .int) (some (.int r)) sh P I9 J 0 0) (l2 : Int32) (I : aI) (hf : f_X7_goOn_b65 o l2 I = some (r, I9)) : AW K 5 65 [(0, .ref o), (2, .int l2)] [] sh P I J 0 0 := by
  unfold f_X7_goOn_b65 at hf
  refine ar_iload_n X dX7_goOn_65 rfl 1 rfl ?_
  refine ar_if_lt (tgt := 84) X dX7_goOn_66 (by decide) hf (fun h1 hf => ?_) (fun h1 hf => ?_)
  · refine ar_lo [0] rfl ?_
    exact ab_X7_goOn_b84 X hL hR I hf
  · refine ar_aload_n X dX7_goOn_69 rfl 0 rfl ?_
    refine ar_getr X dX7_goOn_70 fg_X7_7 rfl (L7_s0 hL) (L7_p0_0 hL) ?_
    refine ar_bipush (v := 9) X dX7_goOn_73 (by decide) ?_
    refine ar_ialdK (k := 9) X dX7_goOn_75 (L7_s1 hL) (by decide) (by decide) ?_
    refine ar_aload_n X dX7_goOn_76 rfl 0 rfl ?_
    refine ar_iconst (v := 2) X dX7_goOn_77 (by decide) ?_
    obtain ⟨r2, h2, hf⟩ := am_b1_e hf
    refine ar_cVi (As := [.int (2 : Int32)]) (st := [.int (I (o + 1) 9)]) X dX7_goOn_78 (am_X7_setting hL h2) lk_X7_51 mt_X7_setting mi_X7_setting (L7_s0 hL) rfl rfl (Nat.le_of_ble_eq_true rfl) ⟨by decide, by decide⟩ ⟨Nat.zero_le _, Nat.zero_le _⟩ rfl ?_
    refine ar_icmp_lt (tgt := 103) X dX7_goOn_81 (by decide) hf (fun h3 hf => ?_) (fun h3 hf => ?_)
    · refine ar_aload_n X dX7_goOn_103 rfl 0 rfl ?_
      refine ar_getr X dX7_goOn_104 fg_X7_7 rfl (L7_s0 hL) (L7_p0_0 hL) ?_
      refine ar_bipush (v := 8) X dX7_goOn_107 (by decide) ?_
      refine ar_iload_n X dX7_goOn_109 rfl 1 rfl ?_
      refine ar_iastK (k := 8) X dX7_goOn_110 (L7_s1 hL) (by decide) (by decide) hf (fun I4 hf => ?_)
      refine ar_bipush (v := -6) X dX7_goOn_111 (by decide) ?_
      cases hf
      exact ar_iret X dX7_goOn_113 hR (Nat.le_refl _) (Nat.le_refl _)
    · refine ar_lo [0] rfl ?_
      exact ab_X7_goOn_b84 X hL hR I hf
def f_X7_goOn_h12 (o : Nat) : Nat → Int32 → Int32 → Int32 → aI → Option (Int32 × aI)
  | 0, _, _, _, _ => none
  | n + 1, l1, l2, l3, I =>
    if l3 < (1 : Int32) then (
      f_X7_goOn_b65 o l2 I)
    else (
      am_g (decide (¬ (I (o + 1) 0) = 0)) (
      am_let (am_rem (l1 + l3) (I (o + 1) 0)) fun x3 =>
      am_b1 (f_X7_of o x3 (6 : Int32) I) fun r4 =>
      if r4 = 0 then (
        if x3 = (I (o + 1) 7) then (
          f_X7_goOn_h12 o n l1 l2 (l3 + (-1)) I)
        else (
          f_X7_goOn_h12 o n l1 x3 (l3 + (-1)) I))
      else (
        f_X7_goOn_h12 o n l1 l2 (l3 + (-1)) I)))
set_option maxRecDepth 100000 in
set_option maxHeartbeats 4000000 in
theorem ab_X7_goOn_h12 {K : aK} {sh : aS} {P : aP} {J : aJ} {o : Nat} (X : am_C K cX7_goOn 5 RX7 "goOn" ({ frames := 4, cells := 0, slots := 0, locals := 89 } : Room)) (hL : L7 sh P o) {r : Int32} {I9 : aI} (hR : am_R K (some .int) (some (.int r)) sh P I9 J 0 0) : ∀ (n : Nat) (l1 : Int32) (l2 : Int32) (l3 : Int32) (I : aI) , f_X7_goOn_h12 o n l1 l2 l3 I = some (r, I9) → AW K 5 12 [(0, .ref o), (1, .int l1), (2, .int l2), (3, .int l3)] [] sh P I J 0 0 := by
  intro n
  induction n with
  | zero =>
    intro l1 l2 l3 I hf
    cases hf
  | succ n ih =>
    intro l1 l2 l3 I hf
    rw [f_X7_goOn_h12] at hf
    refine ar_iload_n X dX7_goOn_12 rfl 3 rfl ?_
    refine ar_iconst (v := 1) X dX7_goOn_13 (by decide) ?_
    refine ar_icmp_lt (tgt := 65) X dX7_goOn_14 (by decide) hf (fun h1 hf => ?_) (fun h1 hf => ?_)
    · refine ar_lo [0, 2] rfl ?_
      exact ab_X7_goOn_b65 X hL hR l2 I hf
    · refine ar_iload_n X dX7_goOn_17 rfl 1 rfl ?_
      refine ar_iload_n X dX7_goOn_18 rfl 3 rfl ?_
      refine ar_iadd X dX7_goOn_19 ?_
      refine ar_aload_n X dX7_goOn_20 rfl 0 rfl ?_
      refine ar_getr X dX7_goOn_21 fg_X7_7 rfl (L7_s0 hL) (L7_p0_0 hL) ?_
      refine ar_iconst (v := 0) X dX7_goOn_24 (by decide) ?_
      refine ar_ialdK (k := 0) X dX7_goOn_25 (L7_s1 hL) (by decide) (by decide) ?_
      obtain ⟨h2, hf⟩ := am_g_elim hf
      refine ar_irem X dX7_goOn_26 h2 ?_
      refine ar_letI hf (fun x3 hf => ?_)
      refine ar_istore X dX7_goOn_27 (by decide) rfl ?_
      refine ar_aload_n X dX7_goOn_29 rfl 1 rfl ?_
      refine ar_iload X dX7_goOn_30 0 rfl ?_
      refine ar_bipush (v := 6) X dX7_goOn_32 (by decide) ?_
      obtain ⟨r4, h4, hf⟩ := am_b1_e hf
      refine ar_cVi (As := [.int x3, .int (6 : Int32)]) (st := []) X dX7_goOn_34 (am_X7_of hL h4) lk_X7_70 mt_X7_of mi_X7_of (L7_s0 hL) rfl rfl (Nat.le_of_ble_eq_true rfl) ⟨by decide, by decide⟩ ⟨Nat.zero_le _, Nat.zero_le _⟩ rfl ?_
      refine ar_if_ne (tgt := 57) X dX7_goOn_37 (by decide) hf (fun h5 hf => ?_) (fun h5 hf => ?_)
      · refine ar_iload X dX7_goOn_40 0 rfl ?_
        refine ar_aload_n X dX7_goOn_42 rfl 1 rfl ?_
        refine ar_getr X dX7_goOn_43 fg_X7_7 rfl (L7_s0 hL) (L7_p0_0 hL) ?_
        refine ar_bipush (v := 7) X dX7_goOn_46 (by decide) ?_
        refine ar_ialdK (k := 7) X dX7_goOn_48 (L7_s1 hL) (by decide) (by decide) ?_
        refine ar_icmp_eq (tgt := 57) X dX7_goOn_49 (by decide) hf (fun h6 hf => ?_) (fun h6 hf => ?_)
        · refine ar_iload_n X dX7_goOn_57 rfl 3 rfl ?_
          refine ar_istore_n X dX7_goOn_58 rfl (by decide) rfl ?_
          refine ar_iinc (j := 4) (v := (l3 + (-1))) X dX7_goOn_59 rfl rfl (by decide) rfl ?_
          refine ar_goto (tgt := 12) X dX7_goOn_62 (by decide) ?_
          refine ar_lo [3, 4, 1, 0] rfl ?_
          exact ih l1 l2 (l3 + (-1)) I hf
        · refine ar_iload X dX7_goOn_52 0 rfl ?_
          refine ar_goto (tgt := 58) X dX7_goOn_54 (by decide) ?_
          refine ar_istore_n X dX7_goOn_58 rfl (by decide) rfl ?_
          refine ar_iinc (j := 4) (v := (l3 + (-1))) X dX7_goOn_59 rfl rfl (by decide) rfl ?_
          refine ar_goto (tgt := 12) X dX7_goOn_62 (by decide) ?_
          refine ar_lo [3, 4, 1, 0] rfl ?_
          exact ih l1 x3 (l3 + (-1)) I hf
      · refine ar_iload_n X dX7_goOn_57 rfl 3 rfl ?_
        refine ar_istore_n X dX7_goOn_58 rfl (by decide) rfl ?_
        refine ar_iinc (j := 4) (v := (l3 + (-1))) X dX7_goOn_59 rfl rfl (by decide) rfl ?_
        refine ar_goto (tgt := 12) X dX7_goOn_62 (by decide) ?_
        refine ar_lo [3, 4, 1, 0] rfl ?_
        exact ih l1 l2 (l3 + (-1)) I hf
def f_X7_goOn (o : Nat) (a1 : Int32) (I : aI) : Option (Int32 × aI) :=
  am_let ((I (o + 1) 0) - (1 : Int32)) fun x1 =>
  f_X7_goOn_h12 o am_F a1 (-6 : Int32) x1 I
set_option maxRecDepth 100000 in
set_option maxHeartbeats 4000000 in
theorem am_X7_goOn {sh : aS} {P : aP} {I : aI} {J : aJ} {o : Nat} (hL : L7 sh P o) {a1 : Int32} {r : Int32} {I9 : aI} (hf : f_X7_goOn o a1 I = some (r, I9)) : AM yX7_goOn cX7_goOn 5 (some .int) 4 89 [.ref o, .int a1] sh P I J (some (.int r)) sh P I9 J 0 0 := by
  refine am_met (by decide +kernel) (Nat.le_of_ble_eq_true rfl) (fun K X hR => ?_)
  have X : am_C K cX7_goOn 5 RX7 "goOn" ({ frames := 4, cells := 0, slots := 0, locals := 89 } : Room) := X
  show AW K 5 0 [(0, .ref o), (1, .int a1)] [] sh P I J 0 0
  unfold f_X7_goOn at hf
  refine ar_bipush (v := -6) X dX7_goOn_0 (by decide) ?_
  refine ar_istore_n X dX7_goOn_2 rfl (by decide) rfl ?_
  refine ar_aload_n X dX7_goOn_3 rfl 1 rfl ?_
  refine ar_getr X dX7_goOn_4 fg_X7_7 rfl (L7_s0 hL) (L7_p0_0 hL) ?_
  refine ar_iconst (v := 0) X dX7_goOn_7 (by decide) ?_
  refine ar_ialdK (k := 0) X dX7_goOn_8 (L7_s1 hL) (by decide) (by decide) ?_
  refine ar_iconst (v := 1) X dX7_goOn_9 (by decide) ?_
  refine ar_isub X dX7_goOn_10 ?_
  refine ar_letI hf (fun x1 hf => ?_)
  refine ar_istore_n X dX7_goOn_11 rfl (by decide) rfl ?_
  refine ar_lo [2, 3, 1, 0] rfl ?_
  exact ab_X7_goOn_h12 X hL hR am_F a1 (-6 : Int32) x1 I hf
def f_X7_bidOpen (o : Nat) (a1 : Int32) (a2 : Int32) (I : aI) : Option (Int32 × aI) :=
  am_b1 (f_X7_know o a1 a2 I) fun I1 =>
  am_b1 (f_X7_lay o a1 (5 : Int32) a2 I1) fun I2 =>
  am_let (am_w I2 (o + 1) 6 a2) fun I3 =>
  am_let (am_w I3 (o + 1) 7 a1) fun I4 =>
  am_let (am_w I4 (o + 1) 9 ((I4 (o + 1) 9) + (1 : Int32))) fun I5 =>
  am_b2 (f_X7_goOn o a1 I5) fun r6 I6 =>
  some (r6, I6)
set_option maxRecDepth 100000 in
set_option maxHeartbeats 4000000 in
theorem am_X7_bidOpen {sh : aS} {P : aP} {I : aI} {J : aJ} {o : Nat} (hL : L7 sh P o) {a1 : Int32} {a2 : Int32} {r : Int32} {I9 : aI} (hf : f_X7_bidOpen o a1 a2 I = some (r, I9)) : AM yX7_bidOpen cX7_bidOpen 3 (some .int) 5 113 [.ref o, .int a1, .int a2] sh P I J (some (.int r)) sh P I9 J 0 0 := by
  refine am_met (by decide +kernel) (Nat.le_of_ble_eq_true rfl) (fun K X hR => ?_)
  have X : am_C K cX7_bidOpen 3 RX7 "bidOpen" ({ frames := 5, cells := 0, slots := 0, locals := 113 } : Room) := X
  show AW K 3 0 [(0, .ref o), (1, .int a1), (2, .int a2)] [] sh P I J 0 0
  unfold f_X7_bidOpen at hf
  refine ar_aload_n X dX7_bidOpen_0 rfl 0 rfl ?_
  refine ar_iload_n X dX7_bidOpen_1 rfl 1 rfl ?_
  refine ar_iload_n X dX7_bidOpen_2 rfl 2 rfl ?_
  obtain ⟨I1, h1, hf⟩ := am_b1_e hf
  refine ar_cVv (As := [.int a1, .int a2]) (st := []) X dX7_bidOpen_3 (am_X7_know hL h1) lk_X7_112 mt_X7_know mi_X7_know (L7_s0 hL) rfl rfl (Nat.le_of_ble_eq_true rfl) ⟨by decide, by decide⟩ ⟨Nat.zero_le _, Nat.zero_le _⟩ rfl ?_
  refine ar_aload_n X dX7_bidOpen_6 rfl 0 rfl ?_
  refine ar_iload_n X dX7_bidOpen_7 rfl 1 rfl ?_
  refine ar_iconst (v := 5) X dX7_bidOpen_8 (by decide) ?_
  refine ar_iload_n X dX7_bidOpen_9 rfl 2 rfl ?_
  obtain ⟨I2, h2, hf⟩ := am_b1_e hf
  refine ar_cVv (As := [.int a1, .int (5 : Int32), .int a2]) (st := []) X dX7_bidOpen_10 (am_X7_lay hL h2) lk_X7_47 mt_X7_lay mi_X7_lay (L7_s0 hL) rfl rfl (Nat.le_of_ble_eq_true rfl) ⟨by decide, by decide⟩ ⟨Nat.zero_le _, Nat.zero_le _⟩ rfl ?_
  refine ar_aload_n X dX7_bidOpen_13 rfl 0 rfl ?_
  refine ar_getr X dX7_bidOpen_14 fg_X7_7 rfl (L7_s0 hL) (L7_p0_0 hL) ?_
  refine ar_bipush (v := 6) X dX7_bidOpen_17 (by decide) ?_
  refine ar_iload_n X dX7_bidOpen_19 rfl 2 rfl ?_
  refine ar_iastK (k := 6) X dX7_bidOpen_20 (L7_s1 hL) (by decide) (by decide) hf (fun I3 hf => ?_)
  refine ar_aload_n X dX7_bidOpen_21 rfl 0 rfl ?_
  refine ar_getr X dX7_bidOpen_22 fg_X7_7 rfl (L7_s0 hL) (L7_p0_0 hL) ?_
  refine ar_bipush (v := 7) X dX7_bidOpen_25 (by decide) ?_
  refine ar_iload_n X dX7_bidOpen_27 rfl 1 rfl ?_
  refine ar_iastK (k := 7) X dX7_bidOpen_28 (L7_s1 hL) (by decide) (by decide) hf (fun I4 hf => ?_)
  refine ar_aload_n X dX7_bidOpen_29 rfl 0 rfl ?_
  refine ar_getr X dX7_bidOpen_30 fg_X7_7 rfl (L7_s0 hL) (L7_p0_0 hL) ?_
  refine ar_bipush (v := 9) X dX7_bidOpen_33 (by decide) ?_
  refine ar_dup2 X dX7_bidOpen_35 rfl rfl ?_
  refine ar_ialdK (k := 9) X dX7_bidOpen_36 (L7_s1 hL) (by decide) (by decide) ?_
  refine ar_iconst (v := 1) X dX7_bidOpen_37 (by decide) ?_
  refine ar_iadd X dX7_bidOpen_38 ?_
  refine ar_iastK (k := 9) X dX7_bidOpen_39 (L7_s1 hL) (by decide) (by decide) hf (fun I5 hf => ?_)
  refine ar_aload_n X dX7_bidOpen_40 rfl 0 rfl ?_
  refine ar_iload_n X dX7_bidOpen_41 rfl 1 rfl ?_
  obtain ⟨r6, I6, h6, hf⟩ := am_b2_e hf
  refine ar_cVi (As := [.int a1]) (st := []) X dX7_bidOpen_42 (am_X7_goOn hL h6) lk_X7_115 mt_X7_goOn mi_X7_goOn (L7_s0 hL) rfl rfl (Nat.le_of_ble_eq_true rfl) ⟨by decide, by decide⟩ ⟨Nat.zero_le _, Nat.zero_le _⟩ rfl ?_
  cases hf
  exact ar_iret X dX7_bidOpen_45 hR (Nat.le_refl _) (Nat.le_refl _)
def f_X7_passOpen (o : Nat) (a1 : Int32) (I : aI) : Option (Int32 × aI) :=
  am_b1 (f_X7_lay o a1 (6 : Int32) (1 : Int32) I) fun I1 =>
  am_b2 (f_X7_goOn o a1 I1) fun r2 I2 =>
  some (r2, I2)
set_option maxRecDepth 100000 in
set_option maxHeartbeats 4000000 in
theorem am_X7_passOpen {sh : aS} {P : aP} {I : aI} {J : aJ} {o : Nat} (hL : L7 sh P o) {a1 : Int32} {r : Int32} {I9 : aI} (hf : f_X7_passOpen o a1 I = some (r, I9)) : AM yX7_passOpen cX7_passOpen 2 (some .int) 5 113 [.ref o, .int a1] sh P I J (some (.int r)) sh P I9 J 0 0 := by
  refine am_met (by decide +kernel) (Nat.le_of_ble_eq_true rfl) (fun K X hR => ?_)
  have X : am_C K cX7_passOpen 2 RX7 "passOpen" ({ frames := 5, cells := 0, slots := 0, locals := 113 } : Room) := X
  show AW K 2 0 [(0, .ref o), (1, .int a1)] [] sh P I J 0 0
  unfold f_X7_passOpen at hf
  refine ar_aload_n X dX7_passOpen_0 rfl 0 rfl ?_
  refine ar_iload_n X dX7_passOpen_1 rfl 1 rfl ?_
  refine ar_bipush (v := 6) X dX7_passOpen_2 (by decide) ?_
  refine ar_iconst (v := 1) X dX7_passOpen_4 (by decide) ?_
  obtain ⟨I1, h1, hf⟩ := am_b1_e hf
  refine ar_cVv (As := [.int a1, .int (6 : Int32), .int (1 : Int32)]) (st := []) X dX7_passOpen_5 (am_X7_lay hL h1) lk_X7_47 mt_X7_lay mi_X7_lay (L7_s0 hL) rfl rfl (Nat.le_of_ble_eq_true rfl) ⟨by decide, by decide⟩ ⟨Nat.zero_le _, Nat.zero_le _⟩ rfl ?_
  refine ar_aload_n X dX7_passOpen_8 rfl 0 rfl ?_
  refine ar_iload_n X dX7_passOpen_9 rfl 1 rfl ?_
  obtain ⟨r2, I2, h2, hf⟩ := am_b2_e hf
  refine ar_cVi (As := [.int a1]) (st := []) X dX7_passOpen_10 (am_X7_goOn hL h2) lk_X7_115 mt_X7_goOn mi_X7_goOn (L7_s0 hL) rfl rfl (Nat.le_of_ble_eq_true rfl) ⟨by decide, by decide⟩ ⟨Nat.zero_le _, Nat.zero_le _⟩ rfl ?_
  cases hf
  exact ar_iret X dX7_passOpen_13 hR (Nat.le_refl _) (Nat.le_refl _)
def f_X7_seat (o : Nat) (a1 : Int32) (I : aI) : Option Int32 :=
  am_b1 (f_X7_starter o I) fun r1 =>
  am_g (decide (¬ (I (o + 1) 0) = 0)) (
  some (am_rem (r1 + a1) (I (o + 1) 0)))
set_option maxRecDepth 100000 in
set_option maxHeartbeats 4000000 in
theorem am_X7_seat {sh : aS} {P : aP} {I : aI} {J : aJ} {o : Nat} (hL : L7 sh P o) {a1 : Int32} {r : Int32} (hf : f_X7_seat o a1 I = some r) : AM yX7_seat cX7_seat 2 (some .int) 1 20 [.ref o, .int a1] sh P I J (some (.int r)) sh P I J 0 0 := by
  refine am_met (by decide +kernel) (Nat.le_of_ble_eq_true rfl) (fun K X hR => ?_)
  have X : am_C K cX7_seat 2 RX7 "seat" ({ frames := 1, cells := 0, slots := 0, locals := 20 } : Room) := X
  show AW K 2 0 [(0, .ref o), (1, .int a1)] [] sh P I J 0 0
  unfold f_X7_seat at hf
  refine ar_aload_n X dX7_seat_0 rfl 0 rfl ?_
  obtain ⟨r1, h1, hf⟩ := am_b1_e hf
  refine ar_cVi (As := []) (st := []) X dX7_seat_1 (am_X7_starter hL h1) lk_X7_93 mt_X7_starter mi_X7_starter (L7_s0 hL) rfl rfl (Nat.le_of_ble_eq_true rfl) ⟨by decide, by decide⟩ ⟨Nat.zero_le _, Nat.zero_le _⟩ rfl ?_
  refine ar_iload_n X dX7_seat_4 rfl 1 rfl ?_
  refine ar_iadd X dX7_seat_5 ?_
  refine ar_aload_n X dX7_seat_6 rfl 0 rfl ?_
  refine ar_getr X dX7_seat_7 fg_X7_7 rfl (L7_s0 hL) (L7_p0_0 hL) ?_
  refine ar_iconst (v := 0) X dX7_seat_10 (by decide) ?_
  refine ar_ialdK (k := 0) X dX7_seat_11 (L7_s1 hL) (by decide) (by decide) ?_
  obtain ⟨h2, hf⟩ := am_g_elim hf
  refine ar_irem X dX7_seat_12 h2 ?_
  cases hf
  exact ar_iret X dX7_seat_13 hR (Nat.le_refl _) (Nat.le_refl _)
def f_X7_sealedOf (o : Nat) (a1 : Int32) (a2 : Int32) (I : aI) : Option (Int32 × aI) :=
  am_b2 (f_X7_limitOf o a1 I) fun r1 I1 =>
  if r1 < a2 then (
    some ((0 : Int32), I1))
  else (
    am_b2 (f_X7_limitOf o a1 I1) fun r3 I3 =>
    some (r3, I3))
set_option maxRecDepth 100000 in
set_option maxHeartbeats 4000000 in
theorem am_X7_sealedOf {sh : aS} {P : aP} {I : aI} {J : aJ} {o : Nat} (hL : L7 sh P o) {a1 : Int32} {a2 : Int32} {r : Int32} {I9 : aI} (hf : f_X7_sealedOf o a1 a2 I = some (r, I9)) : AM yX7_sealedOf cX7_sealedOf 3 (some .int) 3 70 [.ref o, .int a1, .int a2] sh P I J (some (.int r)) sh P I9 J 0 0 := by
  refine am_met (by decide +kernel) (Nat.le_of_ble_eq_true rfl) (fun K X hR => ?_)
  have X : am_C K cX7_sealedOf 3 RX7 "sealedOf" ({ frames := 3, cells := 0, slots := 0, locals := 70 } : Room) := X
  show AW K 3 0 [(0, .ref o), (1, .int a1), (2, .int a2)] [] sh P I J 0 0
  unfold f_X7_sealedOf at hf
  refine ar_aload_n X dX7_sealedOf_0 rfl 0 rfl ?_
  refine ar_iload_n X dX7_sealedOf_1 rfl 1 rfl ?_
  obtain ⟨r1, I1, h1, hf⟩ := am_b2_e hf
  refine ar_cVi (As := [.int a1]) (st := []) X dX7_sealedOf_2 (am_X7_limitOf hL h1) lk_X7_145 mt_X7_limitOf mi_X7_limitOf (L7_s0 hL) rfl rfl (Nat.le_of_ble_eq_true rfl) ⟨by decide, by decide⟩ ⟨Nat.zero_le _, Nat.zero_le _⟩ rfl ?_
  refine ar_iload_n X dX7_sealedOf_5 rfl 2 rfl ?_
  refine ar_icmp_lt (tgt := 17) X dX7_sealedOf_6 (by decide) hf (fun h2 hf => ?_) (fun h2 hf => ?_)
  · refine ar_iconst (v := 0) X dX7_sealedOf_17 (by decide) ?_
    cases hf
    exact ar_iret X dX7_sealedOf_18 hR (Nat.le_refl _) (Nat.le_refl _)
  · refine ar_aload_n X dX7_sealedOf_9 rfl 0 rfl ?_
    refine ar_iload_n X dX7_sealedOf_10 rfl 1 rfl ?_
    obtain ⟨r3, I3, h3, hf⟩ := am_b2_e hf
    refine ar_cVi (As := [.int a1]) (st := []) X dX7_sealedOf_11 (am_X7_limitOf hL h3) lk_X7_145 mt_X7_limitOf mi_X7_limitOf (L7_s0 hL) rfl rfl (Nat.le_of_ble_eq_true rfl) ⟨by decide, by decide⟩ ⟨Nat.zero_le _, Nat.zero_le _⟩ rfl ?_
    refine ar_goto (tgt := 18) X dX7_sealedOf_14 (by decide) ?_
    cases hf
    exact ar_iret X dX7_sealedOf_18 hR (Nat.le_refl _) (Nat.le_refl _)
def f_X7_openSealed_b171 (o : Nat) (kh : Int32 → Int32 → Int32 → Int32 → Int32 → aI → Option (Int32 × aI)) (l1 : Int32) (l2 : Int32) (l3 : Int32) (l4 : Int32) (l5 : Int32) (s0 : Int32) (s1 : Int32) (s2 : Int32) (I : aI) : Option (Int32 × aI) :=
  am_b1 (f_X7_pay o s2 (s1 + s0) I) fun I1 =>
  if l4 ≤ 0 then (
    am_let (l4 - (0 : Int32)) fun x3 =>
    kh l1 l2 l3 x3 (l5 + 1) I1)
  else (
    am_let (l4 - (1 : Int32)) fun x4 =>
    kh l1 l2 l3 x4 (l5 + 1) I1)
set_option maxRecDepth 100000 in
set_option maxHeartbeats 4000000 in
theorem ab_X7_openSealed_b171 {K : aK} {sh : aS} {P : aP} {J : aJ} {o : Nat} (X : am_C K cX7_openSealed 7 RX7 "openSealed" ({ frames := 3, cells := 0, slots := 0, locals := 67 } : Room)) (hL : L7 sh P o) {r : Int32} {I9 : aI} (hR : am_R K (some .int) (some (.int r)) sh P I9 J 0 0) {kh : Int32 → Int32 → Int32 → Int32 → Int32 → aI → Option (Int32 × aI)} (hk : ∀ (l1 : Int32) (l2 : Int32) (l3 : Int32) (l4 : Int32) (l5 : Int32) (I : aI) , kh l1 l2 l3 l4 l5 I = some (r, I9) → AW K 7 128 [(0, .ref o), (1, .int l1), (2, .int l2), (3, .int l3), (4, .int l4), (5, .int l5)] [] sh P I J 0 0) (l1 : Int32) (l2 : Int32) (l3 : Int32) (l4 : Int32) (l5 : Int32) (s0 : Int32) (s1 : Int32) (s2 : Int32) (I : aI) (hf : f_X7_openSealed_b171 o kh l1 l2 l3 l4 l5 s0 s1 s2 I = some (r, I9)) : AW K 7 171 [(0, .ref o), (1, .int l1), (2, .int l2), (3, .int l3), (4, .int l4), (5, .int l5)] [.int s0, .int s1, .int s2, .ref o] sh P I J 0 0 := by
  unfold f_X7_openSealed_b171 at hf
  refine ar_iadd X dX7_openSealed_171 ?_
  obtain ⟨I1, h1, hf⟩ := am_b1_e hf
  refine ar_cVv (As := [.int s2, .int (s1 + s0)]) (st := []) X dX7_openSealed_172 (am_X7_pay hL h1) lk_X7_105 mt_X7_pay mi_X7_pay (L7_s0 hL) rfl rfl (Nat.le_of_ble_eq_true rfl) ⟨by decide, by decide⟩ ⟨Nat.zero_le _, Nat.zero_le _⟩ rfl ?_
  refine ar_iload X dX7_openSealed_175 4 rfl ?_
  refine ar_iload X dX7_openSealed_177 4 rfl ?_
  refine ar_if_le (tgt := 186) X dX7_openSealed_179 (by decide) hf (fun h2 hf => ?_) (fun h2 hf => ?_)
  · refine ar_iconst (v := 0) X dX7_openSealed_186 (by decide) ?_
    refine ar_isub X dX7_openSealed_187 ?_
    refine ar_letI hf (fun x3 hf => ?_)
    refine ar_istore X dX7_openSealed_188 (by decide) rfl ?_
    refine ar_iinc (j := 5) (v := (l5 + 1)) X dX7_openSealed_190 rfl rfl (by decide) rfl ?_
    refine ar_goto (tgt := 128) X dX7_openSealed_193 (by decide) ?_
    refine ar_lo [2, 3, 4, 5, 1, 0] rfl ?_
    exact hk l1 l2 l3 x3 (l5 + 1) I1 hf
  · refine ar_iconst (v := 1) X dX7_openSealed_182 (by decide) ?_
    refine ar_goto (tgt := 187) X dX7_openSealed_183 (by decide) ?_
    refine ar_isub X dX7_openSealed_187 ?_
    refine ar_letI hf (fun x4 hf => ?_)
    refine ar_istore X dX7_openSealed_188 (by decide) rfl ?_
    refine ar_iinc (j := 5) (v := (l5 + 1)) X dX7_openSealed_190 rfl rfl (by decide) rfl ?_
    refine ar_goto (tgt := 128) X dX7_openSealed_193 (by decide) ?_
    refine ar_lo [2, 3, 4, 5, 1, 0] rfl ?_
    exact hk l1 l2 l3 x4 (l5 + 1) I1 hf
def f_X7_openSealed_h128 (o : Nat) : Nat → Int32 → Int32 → Int32 → Int32 → Int32 → aI → Option (Int32 × aI)
  | 0, _, _, _, _, _, _ => none
  | n + 1, l1, l2, l3, l4, l5, I =>
    if (I (o + 1) 0) ≤ l5 then (
      am_b2 (f_X7_finish o l2 l1 I) fun r2 I2 =>
      some (r2, I2))
    else (
      am_b1 (f_X7_seat o l5 I) fun r3 =>
      if ((am_shr l2 r3) &&& (1 : Int32)) = (1 : Int32) then (
        if l4 ≤ 0 then (
          f_X7_openSealed_b171 o (f_X7_openSealed_h128 o n) l1 l2 l3 l4 l5 (0 : Int32) l3 r3 I)
        else (
          f_X7_openSealed_b171 o (f_X7_openSealed_h128 o n) l1 l2 l3 l4 l5 (1 : Int32) l3 r3 I))
      else (
        f_X7_openSealed_h128 o n l1 l2 l3 l4 (l5 + 1) I))
set_option maxRecDepth 100000 in
set_option maxHeartbeats 4000000 in
theorem ab_X7_openSealed_h128 {K : aK} {sh : aS} {P : aP} {J : aJ} {o : Nat} (X : am_C K cX7_openSealed 7 RX7 "openSealed" ({ frames := 3, cells := 0, slots := 0, locals := 67 } : Room)) (hL : L7 sh P o) {r : Int32} {I9 : aI} (hR : am_R K (some .int) (some (.int r)) sh P I9 J 0 0) : ∀ (n : Nat) (l1 : Int32) (l2 : Int32) (l3 : Int32) (l4 : Int32) (l5 : Int32) (I : aI) , f_X7_openSealed_h128 o n l1 l2 l3 l4 l5 I = some (r, I9) → AW K 7 128 [(0, .ref o), (1, .int l1), (2, .int l2), (3, .int l3), (4, .int l4), (5, .int l5)] [] sh P I J 0 0 := by
  intro n
  induction n with
  | zero =>
    intro l1 l2 l3 l4 l5 I hf
    cases hf
  | succ n ih =>
    intro l1 l2 l3 l4 l5 I hf
    rw [f_X7_openSealed_h128] at hf
    refine ar_iload X dX7_openSealed_128 5 rfl ?_
    refine ar_aload_n X dX7_openSealed_130 rfl 0 rfl ?_
    refine ar_getr X dX7_openSealed_131 fg_X7_7 rfl (L7_s0 hL) (L7_p0_0 hL) ?_
    refine ar_iconst (v := 0) X dX7_openSealed_134 (by decide) ?_
    refine ar_ialdK (k := 0) X dX7_openSealed_135 (L7_s1 hL) (by decide) (by decide) ?_
    refine ar_icmp_ge (tgt := 196) X dX7_openSealed_136 (by decide) hf (fun h1 hf => ?_) (fun h1 hf => ?_)
    · refine ar_aload_n X dX7_openSealed_196 rfl 0 rfl ?_
      refine ar_iload_n X dX7_openSealed_197 rfl 2 rfl ?_
      refine ar_iload_n X dX7_openSealed_198 rfl 1 rfl ?_
      obtain ⟨r2, I2, h2, hf⟩ := am_b2_e hf
      refine ar_cVi (As := [.int l2, .int l1]) (st := []) X dX7_openSealed_199 (am_X7_finish hL h2) lk_X7_102 mt_X7_finish mi_X7_finish (L7_s0 hL) rfl rfl (Nat.le_of_ble_eq_true rfl) ⟨by decide, by decide⟩ ⟨Nat.zero_le _, Nat.zero_le _⟩ rfl ?_
      cases hf
      exact ar_iret X dX7_openSealed_202 hR (Nat.le_refl _) (Nat.le_refl _)
    · refine ar_aload_n X dX7_openSealed_139 rfl 0 rfl ?_
      refine ar_iload X dX7_openSealed_140 5 rfl ?_
      obtain ⟨r3, h3, hf⟩ := am_b1_e hf
      refine ar_cVi (As := [.int l5]) (st := []) X dX7_openSealed_142 (am_X7_seat hL h3) lk_X7_121 mt_X7_seat mi_X7_seat (L7_s0 hL) rfl rfl (Nat.le_of_ble_eq_true rfl) ⟨by decide, by decide⟩ ⟨Nat.zero_le _, Nat.zero_le _⟩ rfl ?_
      refine ar_istore X dX7_openSealed_145 (by decide) rfl ?_
      refine ar_iload_n X dX7_openSealed_147 rfl 3 rfl ?_
      refine ar_iload X dX7_openSealed_148 0 rfl ?_
      refine ar_ishr X dX7_openSealed_150 ?_
      refine ar_iconst (v := 1) X dX7_openSealed_151 (by decide) ?_
      refine ar_iand X dX7_openSealed_152 ?_
      refine ar_iconst (v := 1) X dX7_openSealed_153 (by decide) ?_
      refine ar_icmp_ne (tgt := 190) X dX7_openSealed_154 (by decide) hf (fun h4 hf => ?_) (fun h4 hf => ?_)
      · refine ar_aload_n X dX7_openSealed_157 rfl 1 rfl ?_
        refine ar_iload X dX7_openSealed_158 0 rfl ?_
        refine ar_iload_n X dX7_openSealed_160 rfl 4 rfl ?_
        refine ar_iload X dX7_openSealed_161 5 rfl ?_
        refine ar_if_le (tgt := 170) X dX7_openSealed_163 (by decide) hf (fun h5 hf => ?_) (fun h5 hf => ?_)
        · refine ar_iconst (v := 0) X dX7_openSealed_170 (by decide) ?_
          refine ar_lo [1, 2, 3, 4, 5, 6] rfl ?_
          exact ab_X7_openSealed_b171 X hL hR ih l1 l2 l3 l4 l5 (0 : Int32) l3 r3 I hf
        · refine ar_iconst (v := 1) X dX7_openSealed_166 (by decide) ?_
          refine ar_goto (tgt := 171) X dX7_openSealed_167 (by decide) ?_
          refine ar_lo [1, 2, 3, 4, 5, 6] rfl ?_
          exact ab_X7_openSealed_b171 X hL hR ih l1 l2 l3 l4 l5 (1 : Int32) l3 r3 I hf
      · refine ar_iinc (j := 6) (v := (l5 + 1)) X dX7_openSealed_190 rfl rfl (by decide) rfl ?_
        refine ar_goto (tgt := 128) X dX7_openSealed_193 (by decide) ?_
        refine ar_lo [2, 3, 4, 5, 6, 0] rfl ?_
        exact ih l1 l2 l3 l4 (l5 + 1) I hf
def f_X7_openSealed_b110 (o : Nat) (l1 : Int32) (l2 : Int32) (I : aI) : Option (Int32 × aI) :=
  am_b1 (f_X7_sizeOf l2) fun r1 =>
  am_g (decide (¬ r1 = 0)) (
  am_let (l1 / r1) fun x3 =>
  am_b1 (f_X7_sizeOf l2) fun r4 =>
  am_g (decide (¬ r4 = 0)) (
  am_let (am_rem l1 r4) fun x6 =>
  f_X7_openSealed_h128 o am_F l1 l2 x3 x6 (0 : Int32) I))
set_option maxRecDepth 100000 in
set_option maxHeartbeats 4000000 in
theorem ab_X7_openSealed_b110 {K : aK} {sh : aS} {P : aP} {J : aJ} {o : Nat} (X : am_C K cX7_openSealed 7 RX7 "openSealed" ({ frames := 3, cells := 0, slots := 0, locals := 67 } : Room)) (hL : L7 sh P o) {r : Int32} {I9 : aI} (hR : am_R K (some .int) (some (.int r)) sh P I9 J 0 0) (l1 : Int32) (l2 : Int32) (I : aI) (hf : f_X7_openSealed_b110 o l1 l2 I = some (r, I9)) : AW K 7 110 [(0, .ref o), (1, .int l1), (2, .int l2)] [] sh P I J 0 0 := by
  unfold f_X7_openSealed_b110 at hf
  refine ar_iload_n X dX7_openSealed_110 rfl 1 rfl ?_
  refine ar_iload_n X dX7_openSealed_111 rfl 2 rfl ?_
  obtain ⟨r1, h1, hf⟩ := am_b1_e hf
  refine ar_cSi (As := [.int l2]) (st := [.int l1]) X dX7_openSealed_112 (am_X7_sizeOf h1) lk_X7_80 mt_X7_sizeOf ms_X7_sizeOf rfl (Nat.le_of_ble_eq_true rfl) ⟨by decide, by decide⟩ ⟨Nat.zero_le _, Nat.zero_le _⟩ rfl ?_
  obtain ⟨h2, hf⟩ := am_g_elim hf
  refine ar_idiv X dX7_openSealed_115 h2 ?_
  refine ar_letI hf (fun x3 hf => ?_)
  refine ar_istore_n X dX7_openSealed_116 rfl (by decide) rfl ?_
  refine ar_iload_n X dX7_openSealed_117 rfl 2 rfl ?_
  refine ar_iload_n X dX7_openSealed_118 rfl 3 rfl ?_
  obtain ⟨r4, h4, hf⟩ := am_b1_e hf
  refine ar_cSi (As := [.int l2]) (st := [.int l1]) X dX7_openSealed_119 (am_X7_sizeOf h4) lk_X7_80 mt_X7_sizeOf ms_X7_sizeOf rfl (Nat.le_of_ble_eq_true rfl) ⟨by decide, by decide⟩ ⟨Nat.zero_le _, Nat.zero_le _⟩ rfl ?_
  obtain ⟨h5, hf⟩ := am_g_elim hf
  refine ar_irem X dX7_openSealed_122 h5 ?_
  refine ar_letI hf (fun x6 hf => ?_)
  refine ar_istore X dX7_openSealed_123 (by decide) rfl ?_
  refine ar_iconst (v := 0) X dX7_openSealed_125 (by decide) ?_
  refine ar_istore X dX7_openSealed_126 (by decide) rfl ?_
  refine ar_lo [3, 4, 5, 2, 1, 0] rfl ?_
  exact ab_X7_openSealed_h128 X hL hR am_F l1 l2 x3 x6 (0 : Int32) I hf
def f_X7_openSealed_h74 (o : Nat) : Nat → Int32 → Int32 → Int32 → aI → Option (Int32 × aI)
  | 0, _, _, _, _ => none
  | n + 1, l1, l2, l3, I =>
    if (I (o + 1) 0) ≤ l3 then (
      f_X7_openSealed_b110 o l1 l2 I)
    else (
      am_b1 (f_X7_of o l3 (5 : Int32) I) fun r2 =>
      if r2 = l1 then (
        am_let (l2 ||| (am_shl (1 : Int32) l3)) fun x4 =>
        f_X7_openSealed_h74 o n l1 x4 (l3 + 1) I)
      else (
        am_let (l2 ||| (0 : Int32)) fun x5 =>
        f_X7_openSealed_h74 o n l1 x5 (l3 + 1) I))
set_option maxRecDepth 100000 in
set_option maxHeartbeats 4000000 in
theorem ab_X7_openSealed_h74 {K : aK} {sh : aS} {P : aP} {J : aJ} {o : Nat} (X : am_C K cX7_openSealed 7 RX7 "openSealed" ({ frames := 3, cells := 0, slots := 0, locals := 67 } : Room)) (hL : L7 sh P o) {r : Int32} {I9 : aI} (hR : am_R K (some .int) (some (.int r)) sh P I9 J 0 0) : ∀ (n : Nat) (l1 : Int32) (l2 : Int32) (l3 : Int32) (I : aI) , f_X7_openSealed_h74 o n l1 l2 l3 I = some (r, I9) → AW K 7 74 [(0, .ref o), (1, .int l1), (2, .int l2), (3, .int l3)] [] sh P I J 0 0 := by
  intro n
  induction n with
  | zero =>
    intro l1 l2 l3 I hf
    cases hf
  | succ n ih =>
    intro l1 l2 l3 I hf
    rw [f_X7_openSealed_h74] at hf
    refine ar_iload_n X dX7_openSealed_74 rfl 3 rfl ?_
    refine ar_aload_n X dX7_openSealed_75 rfl 0 rfl ?_
    refine ar_getr X dX7_openSealed_76 fg_X7_7 rfl (L7_s0 hL) (L7_p0_0 hL) ?_
    refine ar_iconst (v := 0) X dX7_openSealed_79 (by decide) ?_
    refine ar_ialdK (k := 0) X dX7_openSealed_80 (L7_s1 hL) (by decide) (by decide) ?_
    refine ar_icmp_ge (tgt := 110) X dX7_openSealed_81 (by decide) hf (fun h1 hf => ?_) (fun h1 hf => ?_)
    · refine ar_lo [0, 1, 2] rfl ?_
      exact ab_X7_openSealed_b110 X hL hR l1 l2 I hf
    · refine ar_iload_n X dX7_openSealed_84 rfl 2 rfl ?_
      refine ar_aload_n X dX7_openSealed_85 rfl 0 rfl ?_
      refine ar_iload_n X dX7_openSealed_86 rfl 3 rfl ?_
      refine ar_iconst (v := 5) X dX7_openSealed_87 (by decide) ?_
      obtain ⟨r2, h2, hf⟩ := am_b1_e hf
      refine ar_cVi (As := [.int l3, .int (5 : Int32)]) (st := [.int l2]) X dX7_openSealed_88 (am_X7_of hL h2) lk_X7_70 mt_X7_of mi_X7_of (L7_s0 hL) rfl rfl (Nat.le_of_ble_eq_true rfl) ⟨by decide, by decide⟩ ⟨Nat.zero_le _, Nat.zero_le _⟩ rfl ?_
      refine ar_iload_n X dX7_openSealed_91 rfl 1 rfl ?_
      refine ar_icmp_ne (tgt := 101) X dX7_openSealed_92 (by decide) hf (fun h3 hf => ?_) (fun h3 hf => ?_)
      · refine ar_iconst (v := 1) X dX7_openSealed_95 (by decide) ?_
        refine ar_iload_n X dX7_openSealed_96 rfl 3 rfl ?_
        refine ar_ishl X dX7_openSealed_97 ?_
        refine ar_goto (tgt := 102) X dX7_openSealed_98 (by decide) ?_
        refine ar_ior X dX7_openSealed_102 ?_
        refine ar_letI hf (fun x4 hf => ?_)
        refine ar_istore_n X dX7_openSealed_103 rfl (by decide) rfl ?_
        refine ar_iinc (j := 3) (v := (l3 + 1)) X dX7_openSealed_104 rfl rfl (by decide) rfl ?_
        refine ar_goto (tgt := 74) X dX7_openSealed_107 (by decide) ?_
        refine ar_lo [2, 3, 1, 0] rfl ?_
        exact ih l1 x4 (l3 + 1) I hf
      · refine ar_iconst (v := 0) X dX7_openSealed_101 (by decide) ?_
        refine ar_ior X dX7_openSealed_102 ?_
        refine ar_letI hf (fun x5 hf => ?_)
        refine ar_istore_n X dX7_openSealed_103 rfl (by decide) rfl ?_
        refine ar_iinc (j := 3) (v := (l3 + 1)) X dX7_openSealed_104 rfl rfl (by decide) rfl ?_
        refine ar_goto (tgt := 74) X dX7_openSealed_107 (by decide) ?_
        refine ar_lo [2, 3, 1, 0] rfl ?_
        exact ih l1 x5 (l3 + 1) I hf
def f_X7_openSealed_b52 (o : Nat) (l1 : Int32) (I : aI) : Option (Int32 × aI) :=
  if (I (o + 1) 5) ≤ l1 then (
    f_X7_openSealed_h74 o am_F l1 (0 : Int32) (0 : Int32) I)
  else (
    am_b2 (f_X7_finish o (0 : Int32) (-6 : Int32) I) fun r2 I2 =>
    some (r2, I2))
set_option maxRecDepth 100000 in
set_option maxHeartbeats 4000000 in
theorem ab_X7_openSealed_b52 {K : aK} {sh : aS} {P : aP} {J : aJ} {o : Nat} (X : am_C K cX7_openSealed 7 RX7 "openSealed" ({ frames := 3, cells := 0, slots := 0, locals := 67 } : Room)) (hL : L7 sh P o) {r : Int32} {I9 : aI} (hR : am_R K (some .int) (some (.int r)) sh P I9 J 0 0) (l1 : Int32) (I : aI) (hf : f_X7_openSealed_b52 o l1 I = some (r, I9)) : AW K 7 52 [(0, .ref o), (1, .int l1)] [] sh P I J 0 0 := by
  unfold f_X7_openSealed_b52 at hf
  refine ar_iload_n X dX7_openSealed_52 rfl 1 rfl ?_
  refine ar_aload_n X dX7_openSealed_53 rfl 0 rfl ?_
  refine ar_getr X dX7_openSealed_54 fg_X7_7 rfl (L7_s0 hL) (L7_p0_0 hL) ?_
  refine ar_iconst (v := 5) X dX7_openSealed_57 (by decide) ?_
  refine ar_ialdK (k := 5) X dX7_openSealed_58 (L7_s1 hL) (by decide) (by decide) ?_
  refine ar_icmp_ge (tgt := 70) X dX7_openSealed_59 (by decide) hf (fun h1 hf => ?_) (fun h1 hf => ?_)
  · refine ar_iconst (v := 0) X dX7_openSealed_70 (by decide) ?_
    refine ar_istore_n X dX7_openSealed_71 rfl (by decide) rfl ?_
    refine ar_iconst (v := 0) X dX7_openSealed_72 (by decide) ?_
    refine ar_istore_n X dX7_openSealed_73 rfl (by decide) rfl ?_
    refine ar_lo [2, 3, 1, 0] rfl ?_
    exact ab_X7_openSealed_h74 X hL hR am_F l1 (0 : Int32) (0 : Int32) I hf
  · refine ar_aload_n X dX7_openSealed_62 rfl 0 rfl ?_
    refine ar_iconst (v := 0) X dX7_openSealed_63 (by decide) ?_
    refine ar_bipush (v := -6) X dX7_openSealed_64 (by decide) ?_
    obtain ⟨r2, I2, h2, hf⟩ := am_b2_e hf
    refine ar_cVi (As := [.int (0 : Int32), .int (-6 : Int32)]) (st := []) X dX7_openSealed_66 (am_X7_finish hL h2) lk_X7_102 mt_X7_finish mi_X7_finish (L7_s0 hL) rfl rfl (Nat.le_of_ble_eq_true rfl) ⟨by decide, by decide⟩ ⟨Nat.zero_le _, Nat.zero_le _⟩ rfl ?_
    cases hf
    exact ar_iret X dX7_openSealed_69 hR (Nat.le_refl _) (Nat.le_refl _)
def f_X7_openSealed_h4 (o : Nat) : Nat → Int32 → Int32 → aI → Option (Int32 × aI)
  | 0, _, _, _ => none
  | n + 1, l1, l2, I =>
    if (I (o + 1) 0) ≤ l2 then (
      f_X7_openSealed_b52 o l1 I)
    else (
      am_b1 (f_X7_of o l2 (5 : Int32) I) fun r2 =>
      am_b1 (f_X7_know o l2 r2 I) fun I3 =>
      am_b1 (f_X7_of o l2 (5 : Int32) I3) fun r4 =>
      if r4 ≤ l1 then (
        f_X7_openSealed_h4 o n l1 (l2 + 1) I3)
      else (
        am_b1 (f_X7_of o l2 (5 : Int32) I3) fun r6 =>
        f_X7_openSealed_h4 o n r6 (l2 + 1) I3))
set_option maxRecDepth 100000 in
set_option maxHeartbeats 4000000 in
theorem ab_X7_openSealed_h4 {K : aK} {sh : aS} {P : aP} {J : aJ} {o : Nat} (X : am_C K cX7_openSealed 7 RX7 "openSealed" ({ frames := 3, cells := 0, slots := 0, locals := 67 } : Room)) (hL : L7 sh P o) {r : Int32} {I9 : aI} (hR : am_R K (some .int) (some (.int r)) sh P I9 J 0 0) : ∀ (n : Nat) (l1 : Int32) (l2 : Int32) (I : aI) , f_X7_openSealed_h4 o n l1 l2 I = some (r, I9) → AW K 7 4 [(0, .ref o), (1, .int l1), (2, .int l2)] [] sh P I J 0 0 := by
  intro n
  induction n with
  | zero =>
    intro l1 l2 I hf
    cases hf
  | succ n ih =>
    intro l1 l2 I hf
    rw [f_X7_openSealed_h4] at hf
    refine ar_iload_n X dX7_openSealed_4 rfl 2 rfl ?_
    refine ar_aload_n X dX7_openSealed_5 rfl 0 rfl ?_
    refine ar_getr X dX7_openSealed_6 fg_X7_7 rfl (L7_s0 hL) (L7_p0_0 hL) ?_
    refine ar_iconst (v := 0) X dX7_openSealed_9 (by decide) ?_
    refine ar_ialdK (k := 0) X dX7_openSealed_10 (L7_s1 hL) (by decide) (by decide) ?_
    refine ar_icmp_ge (tgt := 52) X dX7_openSealed_11 (by decide) hf (fun h1 hf => ?_) (fun h1 hf => ?_)
    · refine ar_lo [0, 1] rfl ?_
      exact ab_X7_openSealed_b52 X hL hR l1 I hf
    · refine ar_aload_n X dX7_openSealed_14 rfl 0 rfl ?_
      refine ar_iload_n X dX7_openSealed_15 rfl 2 rfl ?_
      refine ar_aload_n X dX7_openSealed_16 rfl 0 rfl ?_
      refine ar_iload_n X dX7_openSealed_17 rfl 2 rfl ?_
      refine ar_iconst (v := 5) X dX7_openSealed_18 (by decide) ?_
      obtain ⟨r2, h2, hf⟩ := am_b1_e hf
      refine ar_cVi (As := [.int l2, .int (5 : Int32)]) (st := [.int l2, .ref o]) X dX7_openSealed_19 (am_X7_of hL h2) lk_X7_70 mt_X7_of mi_X7_of (L7_s0 hL) rfl rfl (Nat.le_of_ble_eq_true rfl) ⟨by decide, by decide⟩ ⟨Nat.zero_le _, Nat.zero_le _⟩ rfl ?_
      obtain ⟨I3, h3, hf⟩ := am_b1_e hf
      refine ar_cVv (As := [.int l2, .int r2]) (st := []) X dX7_openSealed_22 (am_X7_know hL h3) lk_X7_112 mt_X7_know mi_X7_know (L7_s0 hL) rfl rfl (Nat.le_of_ble_eq_true rfl) ⟨by decide, by decide⟩ ⟨Nat.zero_le _, Nat.zero_le _⟩ rfl ?_
      refine ar_aload_n X dX7_openSealed_25 rfl 0 rfl ?_
      refine ar_iload_n X dX7_openSealed_26 rfl 2 rfl ?_
      refine ar_iconst (v := 5) X dX7_openSealed_27 (by decide) ?_
      obtain ⟨r4, h4, hf⟩ := am_b1_e hf
      refine ar_cVi (As := [.int l2, .int (5 : Int32)]) (st := []) X dX7_openSealed_28 (am_X7_of hL h4) lk_X7_70 mt_X7_of mi_X7_of (L7_s0 hL) rfl rfl (Nat.le_of_ble_eq_true rfl) ⟨by decide, by decide⟩ ⟨Nat.zero_le _, Nat.zero_le _⟩ rfl ?_
      refine ar_iload_n X dX7_openSealed_31 rfl 1 rfl ?_
      refine ar_icmp_le (tgt := 44) X dX7_openSealed_32 (by decide) hf (fun h5 hf => ?_) (fun h5 hf => ?_)
      · refine ar_iload_n X dX7_openSealed_44 rfl 1 rfl ?_
        refine ar_istore_n X dX7_openSealed_45 rfl (by decide) rfl ?_
        refine ar_iinc (j := 2) (v := (l2 + 1)) X dX7_openSealed_46 rfl rfl (by decide) rfl ?_
        refine ar_goto (tgt := 4) X dX7_openSealed_49 (by decide) ?_
        refine ar_lo [2, 1, 0] rfl ?_
        exact ih l1 (l2 + 1) I3 hf
      · refine ar_aload_n X dX7_openSealed_35 rfl 0 rfl ?_
        refine ar_iload_n X dX7_openSealed_36 rfl 2 rfl ?_
        refine ar_iconst (v := 5) X dX7_openSealed_37 (by decide) ?_
        obtain ⟨r6, h6, hf⟩ := am_b1_e hf
        refine ar_cVi (As := [.int l2, .int (5 : Int32)]) (st := []) X dX7_openSealed_38 (am_X7_of hL h6) lk_X7_70 mt_X7_of mi_X7_of (L7_s0 hL) rfl rfl (Nat.le_of_ble_eq_true rfl) ⟨by decide, by decide⟩ ⟨Nat.zero_le _, Nat.zero_le _⟩ rfl ?_
        refine ar_goto (tgt := 45) X dX7_openSealed_41 (by decide) ?_
        refine ar_istore_n X dX7_openSealed_45 rfl (by decide) rfl ?_
        refine ar_iinc (j := 2) (v := (l2 + 1)) X dX7_openSealed_46 rfl rfl (by decide) rfl ?_
        refine ar_goto (tgt := 4) X dX7_openSealed_49 (by decide) ?_
        refine ar_lo [2, 1, 0] rfl ?_
        exact ih r6 (l2 + 1) I3 hf
def f_X7_openSealed (o : Nat)  (I : aI) : Option (Int32 × aI) :=
  f_X7_openSealed_h4 o am_F (0 : Int32) (0 : Int32) I
set_option maxRecDepth 100000 in
set_option maxHeartbeats 4000000 in
theorem am_X7_openSealed {sh : aS} {P : aP} {I : aI} {J : aJ} {o : Nat} (hL : L7 sh P o)  {r : Int32} {I9 : aI} (hf : f_X7_openSealed o I = some (r, I9)) : AM yX7_openSealed cX7_openSealed 7 (some .int) 3 67 [.ref o] sh P I J (some (.int r)) sh P I9 J 0 0 := by
  refine am_met (by decide +kernel) (Nat.le_of_ble_eq_true rfl) (fun K X hR => ?_)
  have X : am_C K cX7_openSealed 7 RX7 "openSealed" ({ frames := 3, cells := 0, slots := 0, locals := 67 } : Room) := X
  show AW K 7 0 [(0, .ref o)] [] sh P I J 0 0
  unfold f_X7_openSealed at hf
  refine ar_iconst (v := 0) X dX7_openSealed_0 (by decide) ?_
  refine ar_istore_n X dX7_openSealed_1 rfl (by decide) rfl ?_
  refine ar_iconst (v := 0) X dX7_openSealed_2 (by decide) ?_
  refine ar_istore_n X dX7_openSealed_3 rfl (by decide) rfl ?_
  refine ar_lo [2, 1, 0] rfl ?_
  exact ab_X7_openSealed_h4 X hL hR am_F (0 : Int32) (0 : Int32) I hf
def f_X7_bidSealed (o : Nat) (a1 : Int32) (a2 : Int32) (I : aI) : Option (Int32 × aI) :=
  am_b1 (f_X7_lay o a1 (5 : Int32) a2 I) fun I1 =>
  am_let (am_w I1 (o + 1) 9 ((I1 (o + 1) 9) + (1 : Int32))) fun I2 =>
  if (I2 (o + 1) 9) = (I2 (o + 1) 0) then (
    am_b2 (f_X7_openSealed o I2) fun r4 I4 =>
    some (r4, I4))
  else (
    some ((-6 : Int32), I2))
set_option maxRecDepth 100000 in
set_option maxHeartbeats 4000000 in
theorem am_X7_bidSealed {sh : aS} {P : aP} {I : aI} {J : aJ} {o : Nat} (hL : L7 sh P o) {a1 : Int32} {a2 : Int32} {r : Int32} {I9 : aI} (hf : f_X7_bidSealed o a1 a2 I = some (r, I9)) : AM yX7_bidSealed cX7_bidSealed 3 (some .int) 4 93 [.ref o, .int a1, .int a2] sh P I J (some (.int r)) sh P I9 J 0 0 := by
  refine am_met (by decide +kernel) (Nat.le_of_ble_eq_true rfl) (fun K X hR => ?_)
  have X : am_C K cX7_bidSealed 3 RX7 "bidSealed" ({ frames := 4, cells := 0, slots := 0, locals := 93 } : Room) := X
  show AW K 3 0 [(0, .ref o), (1, .int a1), (2, .int a2)] [] sh P I J 0 0
  unfold f_X7_bidSealed at hf
  refine ar_aload_n X dX7_bidSealed_0 rfl 0 rfl ?_
  refine ar_iload_n X dX7_bidSealed_1 rfl 1 rfl ?_
  refine ar_iconst (v := 5) X dX7_bidSealed_2 (by decide) ?_
  refine ar_iload_n X dX7_bidSealed_3 rfl 2 rfl ?_
  obtain ⟨I1, h1, hf⟩ := am_b1_e hf
  refine ar_cVv (As := [.int a1, .int (5 : Int32), .int a2]) (st := []) X dX7_bidSealed_4 (am_X7_lay hL h1) lk_X7_47 mt_X7_lay mi_X7_lay (L7_s0 hL) rfl rfl (Nat.le_of_ble_eq_true rfl) ⟨by decide, by decide⟩ ⟨Nat.zero_le _, Nat.zero_le _⟩ rfl ?_
  refine ar_aload_n X dX7_bidSealed_7 rfl 0 rfl ?_
  refine ar_getr X dX7_bidSealed_8 fg_X7_7 rfl (L7_s0 hL) (L7_p0_0 hL) ?_
  refine ar_bipush (v := 9) X dX7_bidSealed_11 (by decide) ?_
  refine ar_dup2 X dX7_bidSealed_13 rfl rfl ?_
  refine ar_ialdK (k := 9) X dX7_bidSealed_14 (L7_s1 hL) (by decide) (by decide) ?_
  refine ar_iconst (v := 1) X dX7_bidSealed_15 (by decide) ?_
  refine ar_iadd X dX7_bidSealed_16 ?_
  refine ar_iastK (k := 9) X dX7_bidSealed_17 (L7_s1 hL) (by decide) (by decide) hf (fun I2 hf => ?_)
  refine ar_aload_n X dX7_bidSealed_18 rfl 0 rfl ?_
  refine ar_getr X dX7_bidSealed_19 fg_X7_7 rfl (L7_s0 hL) (L7_p0_0 hL) ?_
  refine ar_bipush (v := 9) X dX7_bidSealed_22 (by decide) ?_
  refine ar_ialdK (k := 9) X dX7_bidSealed_24 (L7_s1 hL) (by decide) (by decide) ?_
  refine ar_aload_n X dX7_bidSealed_25 rfl 0 rfl ?_
  refine ar_getr X dX7_bidSealed_26 fg_X7_7 rfl (L7_s0 hL) (L7_p0_0 hL) ?_
  refine ar_iconst (v := 0) X dX7_bidSealed_29 (by decide) ?_
  refine ar_ialdK (k := 0) X dX7_bidSealed_30 (L7_s1 hL) (by decide) (by decide) ?_
  refine ar_icmp_ne (tgt := 41) X dX7_bidSealed_31 (by decide) hf (fun h3 hf => ?_) (fun h3 hf => ?_)
  · refine ar_aload_n X dX7_bidSealed_34 rfl 0 rfl ?_
    obtain ⟨r4, I4, h4, hf⟩ := am_b2_e hf
    refine ar_cVi (As := []) (st := []) X dX7_bidSealed_35 (am_X7_openSealed hL h4) lk_X7_118 mt_X7_openSealed mi_X7_openSealed (L7_s0 hL) rfl rfl (Nat.le_of_ble_eq_true rfl) ⟨by decide, by decide⟩ ⟨Nat.zero_le _, Nat.zero_le _⟩ rfl ?_
    refine ar_goto (tgt := 43) X dX7_bidSealed_38 (by decide) ?_
    cases hf
    exact ar_iret X dX7_bidSealed_43 hR (Nat.le_refl _) (Nat.le_refl _)
  · refine ar_bipush (v := -6) X dX7_bidSealed_41 (by decide) ?_
    cases hf
    exact ar_iret X dX7_bidSealed_43 hR (Nat.le_refl _) (Nat.le_refl _)
def f_X7_moveSealed_b45 (o : Nat) (l1 : Int32) (I : aI) : Option (Int32 × aI) :=
  am_b2 (f_X7_sealedOf o l1 (I (o + 1) 5) I) fun r1 I1 =>
  am_b2 (f_X7_bidSealed o l1 r1 I1) fun r2 I2 =>
  some (r2, I2)
set_option maxRecDepth 100000 in
set_option maxHeartbeats 4000000 in
theorem ab_X7_moveSealed_b45 {K : aK} {sh : aS} {P : aP} {J : aJ} {o : Nat} (X : am_C K cX7_moveSealed 3 RX7 "moveSealed" ({ frames := 5, cells := 0, slots := 0, locals := 115 } : Room)) (hL : L7 sh P o) {r : Int32} {I9 : aI} (hR : am_R K (some .int) (some (.int r)) sh P I9 J 0 0) (l1 : Int32) (I : aI) (hf : f_X7_moveSealed_b45 o l1 I = some (r, I9)) : AW K 3 45 [(0, .ref o), (1, .int l1)] [] sh P I J 0 0 := by
  unfold f_X7_moveSealed_b45 at hf
  refine ar_aload_n X dX7_moveSealed_45 rfl 0 rfl ?_
  refine ar_iload_n X dX7_moveSealed_46 rfl 1 rfl ?_
  refine ar_aload_n X dX7_moveSealed_47 rfl 0 rfl ?_
  refine ar_iload_n X dX7_moveSealed_48 rfl 1 rfl ?_
  refine ar_aload_n X dX7_moveSealed_49 rfl 0 rfl ?_
  refine ar_getr X dX7_moveSealed_50 fg_X7_7 rfl (L7_s0 hL) (L7_p0_0 hL) ?_
  refine ar_iconst (v := 5) X dX7_moveSealed_53 (by decide) ?_
  refine ar_ialdK (k := 5) X dX7_moveSealed_54 (L7_s1 hL) (by decide) (by decide) ?_
  obtain ⟨r1, I1, h1, hf⟩ := am_b2_e hf
  refine ar_cVi (As := [.int l1, .int (I (o + 1) 5)]) (st := [.int l1, .ref o]) X dX7_moveSealed_55 (am_X7_sealedOf hL h1) lk_X7_148 mt_X7_sealedOf mi_X7_sealedOf (L7_s0 hL) rfl rfl (Nat.le_of_ble_eq_true rfl) ⟨by decide, by decide⟩ ⟨Nat.zero_le _, Nat.zero_le _⟩ rfl ?_
  obtain ⟨r2, I2, h2, hf⟩ := am_b2_e hf
  refine ar_cVi (As := [.int l1, .int r1]) (st := []) X dX7_moveSealed_58 (am_X7_bidSealed hL h2) lk_X7_133 mt_X7_bidSealed mi_X7_bidSealed (L7_s0 hL) rfl rfl (Nat.le_of_ble_eq_true rfl) ⟨by decide, by decide⟩ ⟨Nat.zero_le _, Nat.zero_le _⟩ rfl ?_
  cases hf
  exact ar_iret X dX7_moveSealed_61 hR (Nat.le_refl _) (Nat.le_refl _)
def f_X7_moveSealed_h12 (o : Nat) : Nat → Int32 → Int32 → aI → Option (Int32 × aI)
  | 0, _, _, _ => none
  | n + 1, l1, l2, I =>
    if l2 < 0 then (
      f_X7_moveSealed_b45 o l1 I)
    else (
      am_b1 (f_X7_seat o l2 I) fun r2 =>
      am_b1 (f_X7_of o r2 (5 : Int32) I) fun r3 =>
      if 0 ≤ r3 then (
        f_X7_moveSealed_h12 o n l1 (l2 + (-1)) I)
      else (
        am_b1 (f_X7_seat o l2 I) fun r5 =>
        f_X7_moveSealed_h12 o n r5 (l2 + (-1)) I))
set_option maxRecDepth 100000 in
set_option maxHeartbeats 4000000 in
theorem ab_X7_moveSealed_h12 {K : aK} {sh : aS} {P : aP} {J : aJ} {o : Nat} (X : am_C K cX7_moveSealed 3 RX7 "moveSealed" ({ frames := 5, cells := 0, slots := 0, locals := 115 } : Room)) (hL : L7 sh P o) {r : Int32} {I9 : aI} (hR : am_R K (some .int) (some (.int r)) sh P I9 J 0 0) : ∀ (n : Nat) (l1 : Int32) (l2 : Int32) (I : aI) , f_X7_moveSealed_h12 o n l1 l2 I = some (r, I9) → AW K 3 12 [(0, .ref o), (1, .int l1), (2, .int l2)] [] sh P I J 0 0 := by
  intro n
  induction n with
  | zero =>
    intro l1 l2 I hf
    cases hf
  | succ n ih =>
    intro l1 l2 I hf
    rw [f_X7_moveSealed_h12] at hf
    refine ar_iload_n X dX7_moveSealed_12 rfl 2 rfl ?_
    refine ar_if_lt (tgt := 45) X dX7_moveSealed_13 (by decide) hf (fun h1 hf => ?_) (fun h1 hf => ?_)
    · refine ar_lo [0, 1] rfl ?_
      exact ab_X7_moveSealed_b45 X hL hR l1 I hf
    · refine ar_aload_n X dX7_moveSealed_16 rfl 0 rfl ?_
      refine ar_aload_n X dX7_moveSealed_17 rfl 0 rfl ?_
      refine ar_iload_n X dX7_moveSealed_18 rfl 2 rfl ?_
      obtain ⟨r2, h2, hf⟩ := am_b1_e hf
      refine ar_cVi (As := [.int l2]) (st := [.ref o]) X dX7_moveSealed_19 (am_X7_seat hL h2) lk_X7_121 mt_X7_seat mi_X7_seat (L7_s0 hL) rfl rfl (Nat.le_of_ble_eq_true rfl) ⟨by decide, by decide⟩ ⟨Nat.zero_le _, Nat.zero_le _⟩ rfl ?_
      refine ar_iconst (v := 5) X dX7_moveSealed_22 (by decide) ?_
      obtain ⟨r3, h3, hf⟩ := am_b1_e hf
      refine ar_cVi (As := [.int r2, .int (5 : Int32)]) (st := []) X dX7_moveSealed_23 (am_X7_of hL h3) lk_X7_70 mt_X7_of mi_X7_of (L7_s0 hL) rfl rfl (Nat.le_of_ble_eq_true rfl) ⟨by decide, by decide⟩ ⟨Nat.zero_le _, Nat.zero_le _⟩ rfl ?_
      refine ar_if_ge (tgt := 37) X dX7_moveSealed_26 (by decide) hf (fun h4 hf => ?_) (fun h4 hf => ?_)
      · refine ar_iload_n X dX7_moveSealed_37 rfl 1 rfl ?_
        refine ar_istore_n X dX7_moveSealed_38 rfl (by decide) rfl ?_
        refine ar_iinc (j := 2) (v := (l2 + (-1))) X dX7_moveSealed_39 rfl rfl (by decide) rfl ?_
        refine ar_goto (tgt := 12) X dX7_moveSealed_42 (by decide) ?_
        refine ar_lo [2, 1, 0] rfl ?_
        exact ih l1 (l2 + (-1)) I hf
      · refine ar_aload_n X dX7_moveSealed_29 rfl 0 rfl ?_
        refine ar_iload_n X dX7_moveSealed_30 rfl 2 rfl ?_
        obtain ⟨r5, h5, hf⟩ := am_b1_e hf
        refine ar_cVi (As := [.int l2]) (st := []) X dX7_moveSealed_31 (am_X7_seat hL h5) lk_X7_121 mt_X7_seat mi_X7_seat (L7_s0 hL) rfl rfl (Nat.le_of_ble_eq_true rfl) ⟨by decide, by decide⟩ ⟨Nat.zero_le _, Nat.zero_le _⟩ rfl ?_
        refine ar_goto (tgt := 38) X dX7_moveSealed_34 (by decide) ?_
        refine ar_istore_n X dX7_moveSealed_38 rfl (by decide) rfl ?_
        refine ar_iinc (j := 2) (v := (l2 + (-1))) X dX7_moveSealed_39 rfl rfl (by decide) rfl ?_
        refine ar_goto (tgt := 12) X dX7_moveSealed_42 (by decide) ?_
        refine ar_lo [2, 1, 0] rfl ?_
        exact ih r5 (l2 + (-1)) I hf
def f_X7_moveSealed (o : Nat)  (I : aI) : Option (Int32 × aI) :=
  am_let ((I (o + 1) 0) - (1 : Int32)) fun x1 =>
  f_X7_moveSealed_h12 o am_F (-6 : Int32) x1 I
set_option maxRecDepth 100000 in
set_option maxHeartbeats 4000000 in
theorem am_X7_moveSealed {sh : aS} {P : aP} {I : aI} {J : aJ} {o : Nat} (hL : L7 sh P o)  {r : Int32} {I9 : aI} (hf : f_X7_moveSealed o I = some (r, I9)) : AM yX7_moveSealed cX7_moveSealed 3 (some .int) 5 115 [.ref o] sh P I J (some (.int r)) sh P I9 J 0 0 := by
  refine am_met (by decide +kernel) (Nat.le_of_ble_eq_true rfl) (fun K X hR => ?_)
  have X : am_C K cX7_moveSealed 3 RX7 "moveSealed" ({ frames := 5, cells := 0, slots := 0, locals := 115 } : Room) := X
  show AW K 3 0 [(0, .ref o)] [] sh P I J 0 0
  unfold f_X7_moveSealed at hf
  refine ar_bipush (v := -6) X dX7_moveSealed_0 (by decide) ?_
  refine ar_istore_n X dX7_moveSealed_2 rfl (by decide) rfl ?_
  refine ar_aload_n X dX7_moveSealed_3 rfl 1 rfl ?_
  refine ar_getr X dX7_moveSealed_4 fg_X7_7 rfl (L7_s0 hL) (L7_p0_0 hL) ?_
  refine ar_iconst (v := 0) X dX7_moveSealed_7 (by decide) ?_
  refine ar_ialdK (k := 0) X dX7_moveSealed_8 (L7_s1 hL) (by decide) (by decide) ?_
  refine ar_iconst (v := 1) X dX7_moveSealed_9 (by decide) ?_
  refine ar_isub X dX7_moveSealed_10 ?_
  refine ar_letI hf (fun x1 hf => ?_)
  refine ar_istore_n X dX7_moveSealed_11 rfl (by decide) rfl ?_
  refine ar_lo [2, 1, 0] rfl ?_
  exact ab_X7_moveSealed_h12 X hL hR am_F (-6 : Int32) x1 I hf
def f_X7_claim (o : Nat) (a1 : Int32) (I : aI) : Option (Int32 × aI) :=
  am_b1 (f_X7_know o a1 (I (o + 1) 5) I) fun I1 =>
  am_b1 (f_X7_lay o a1 (5 : Int32) (I1 (o + 1) 5) I1) fun I2 =>
  am_let (am_w I2 (o + 1) 9 ((I2 (o + 1) 9) + (1 : Int32))) fun I3 =>
  some ((-6 : Int32), I3)
set_option maxRecDepth 100000 in
set_option maxHeartbeats 4000000 in
theorem am_X7_claim {sh : aS} {P : aP} {I : aI} {J : aJ} {o : Nat} (hL : L7 sh P o) {a1 : Int32} {r : Int32} {I9 : aI} (hf : f_X7_claim o a1 I = some (r, I9)) : AM yX7_claim cX7_claim 2 (some .int) 2 45 [.ref o, .int a1] sh P I J (some (.int r)) sh P I9 J 0 0 := by
  refine am_met (by decide +kernel) (Nat.le_of_ble_eq_true rfl) (fun K X hR => ?_)
  have X : am_C K cX7_claim 2 RX7 "claim" ({ frames := 2, cells := 0, slots := 0, locals := 45 } : Room) := X
  show AW K 2 0 [(0, .ref o), (1, .int a1)] [] sh P I J 0 0
  unfold f_X7_claim at hf
  refine ar_aload_n X dX7_claim_0 rfl 0 rfl ?_
  refine ar_iload_n X dX7_claim_1 rfl 1 rfl ?_
  refine ar_aload_n X dX7_claim_2 rfl 0 rfl ?_
  refine ar_getr X dX7_claim_3 fg_X7_7 rfl (L7_s0 hL) (L7_p0_0 hL) ?_
  refine ar_iconst (v := 5) X dX7_claim_6 (by decide) ?_
  refine ar_ialdK (k := 5) X dX7_claim_7 (L7_s1 hL) (by decide) (by decide) ?_
  obtain ⟨I1, h1, hf⟩ := am_b1_e hf
  refine ar_cVv (As := [.int a1, .int (I (o + 1) 5)]) (st := []) X dX7_claim_8 (am_X7_know hL h1) lk_X7_112 mt_X7_know mi_X7_know (L7_s0 hL) rfl rfl (Nat.le_of_ble_eq_true rfl) ⟨by decide, by decide⟩ ⟨Nat.zero_le _, Nat.zero_le _⟩ rfl ?_
  refine ar_aload_n X dX7_claim_11 rfl 0 rfl ?_
  refine ar_iload_n X dX7_claim_12 rfl 1 rfl ?_
  refine ar_iconst (v := 5) X dX7_claim_13 (by decide) ?_
  refine ar_aload_n X dX7_claim_14 rfl 0 rfl ?_
  refine ar_getr X dX7_claim_15 fg_X7_7 rfl (L7_s0 hL) (L7_p0_0 hL) ?_
  refine ar_iconst (v := 5) X dX7_claim_18 (by decide) ?_
  refine ar_ialdK (k := 5) X dX7_claim_19 (L7_s1 hL) (by decide) (by decide) ?_
  obtain ⟨I2, h2, hf⟩ := am_b1_e hf
  refine ar_cVv (As := [.int a1, .int (5 : Int32), .int (I1 (o + 1) 5)]) (st := []) X dX7_claim_20 (am_X7_lay hL h2) lk_X7_47 mt_X7_lay mi_X7_lay (L7_s0 hL) rfl rfl (Nat.le_of_ble_eq_true rfl) ⟨by decide, by decide⟩ ⟨Nat.zero_le _, Nat.zero_le _⟩ rfl ?_
  refine ar_aload_n X dX7_claim_23 rfl 0 rfl ?_
  refine ar_getr X dX7_claim_24 fg_X7_7 rfl (L7_s0 hL) (L7_p0_0 hL) ?_
  refine ar_bipush (v := 9) X dX7_claim_27 (by decide) ?_
  refine ar_dup2 X dX7_claim_29 rfl rfl ?_
  refine ar_ialdK (k := 9) X dX7_claim_30 (L7_s1 hL) (by decide) (by decide) ?_
  refine ar_iconst (v := 1) X dX7_claim_31 (by decide) ?_
  refine ar_iadd X dX7_claim_32 ?_
  refine ar_iastK (k := 9) X dX7_claim_33 (L7_s1 hL) (by decide) (by decide) hf (fun I3 hf => ?_)
  refine ar_bipush (v := -6) X dX7_claim_34 (by decide) ?_
  cases hf
  exact ar_iret X dX7_claim_36 hR (Nat.le_refl _) (Nat.le_refl _)
def f_X7_fall_b47 (o : Nat)  (I : aI) : Option (Int32 × aI) :=
  am_b1 (f_X7_setting o (1 : Int32) I) fun r1 =>
  am_let (am_w I (o + 1) 5 ((I (o + 1) 5) - r1)) fun I2 =>
  if (1 : Int32) ≤ (I2 (o + 1) 5) then (
    some ((-6 : Int32), I2))
  else (
    am_b2 (f_X7_finish o (0 : Int32) (-6 : Int32) I2) fun r4 I4 =>
    some (r4, I4))
set_option maxRecDepth 100000 in
set_option maxHeartbeats 4000000 in
theorem ab_X7_fall_b47 {K : aK} {sh : aS} {P : aP} {J : aJ} {o : Nat} (X : am_C K cX7_fall 2 RX7 "fall" ({ frames := 4, cells := 0, slots := 0, locals := 89 } : Room)) (hL : L7 sh P o) {r : Int32} {I9 : aI} (hR : am_R K (some .int) (some (.int r)) sh P I9 J 0 0)  (I : aI) (hf : f_X7_fall_b47 o I = some (r, I9)) : AW K 2 47 [(0, .ref o)] [] sh P I J 0 0 := by
  unfold f_X7_fall_b47 at hf
  refine ar_aload_n X dX7_fall_47 rfl 0 rfl ?_
  refine ar_getr X dX7_fall_48 fg_X7_7 rfl (L7_s0 hL) (L7_p0_0 hL) ?_
  refine ar_iconst (v := 5) X dX7_fall_51 (by decide) ?_
  refine ar_dup2 X dX7_fall_52 rfl rfl ?_
  refine ar_ialdK (k := 5) X dX7_fall_53 (L7_s1 hL) (by decide) (by decide) ?_
  refine ar_aload_n X dX7_fall_54 rfl 0 rfl ?_
  refine ar_iconst (v := 1) X dX7_fall_55 (by decide) ?_
  obtain ⟨r1, h1, hf⟩ := am_b1_e hf
  refine ar_cVi (As := [.int (1 : Int32)]) (st := [.int (I (o + 1) 5), .int (5 : Int32), .ref (o + 1)]) X dX7_fall_56 (am_X7_setting hL h1) lk_X7_51 mt_X7_setting mi_X7_setting (L7_s0 hL) rfl rfl (Nat.le_of_ble_eq_true rfl) ⟨by decide, by decide⟩ ⟨Nat.zero_le _, Nat.zero_le _⟩ rfl ?_
  refine ar_isub X dX7_fall_59 ?_
  refine ar_iastK (k := 5) X dX7_fall_60 (L7_s1 hL) (by decide) (by decide) hf (fun I2 hf => ?_)
  refine ar_aload_n X dX7_fall_61 rfl 0 rfl ?_
  refine ar_getr X dX7_fall_62 fg_X7_7 rfl (L7_s0 hL) (L7_p0_0 hL) ?_
  refine ar_iconst (v := 5) X dX7_fall_65 (by decide) ?_
  refine ar_ialdK (k := 5) X dX7_fall_66 (L7_s1 hL) (by decide) (by decide) ?_
  refine ar_iconst (v := 1) X dX7_fall_67 (by decide) ?_
  refine ar_icmp_ge (tgt := 81) X dX7_fall_68 (by decide) hf (fun h3 hf => ?_) (fun h3 hf => ?_)
  · refine ar_bipush (v := -6) X dX7_fall_81 (by decide) ?_
    cases hf
    exact ar_iret X dX7_fall_83 hR (Nat.le_refl _) (Nat.le_refl _)
  · refine ar_aload_n X dX7_fall_71 rfl 0 rfl ?_
    refine ar_iconst (v := 0) X dX7_fall_72 (by decide) ?_
    refine ar_bipush (v := -6) X dX7_fall_73 (by decide) ?_
    obtain ⟨r4, I4, h4, hf⟩ := am_b2_e hf
    refine ar_cVi (As := [.int (0 : Int32), .int (-6 : Int32)]) (st := []) X dX7_fall_75 (am_X7_finish hL h4) lk_X7_102 mt_X7_finish mi_X7_finish (L7_s0 hL) rfl rfl (Nat.le_of_ble_eq_true rfl) ⟨by decide, by decide⟩ ⟨Nat.zero_le _, Nat.zero_le _⟩ rfl ?_
    refine ar_goto (tgt := 83) X dX7_fall_78 (by decide) ?_
    cases hf
    exact ar_iret X dX7_fall_83 hR (Nat.le_refl _) (Nat.le_refl _)
def f_X7_fall_b25 (o : Nat) (l1 : Int32) (I : aI) : Option (Int32 × aI) :=
  am_b1 (f_X7_seat o l1 I) fun r1 =>
  am_b2 (f_X7_sellTo o r1 (I (o + 1) 5) I) fun r2 I2 =>
  some (r2, I2)
set_option maxRecDepth 100000 in
set_option maxHeartbeats 4000000 in
theorem ab_X7_fall_b25 {K : aK} {sh : aS} {P : aP} {J : aJ} {o : Nat} (X : am_C K cX7_fall 2 RX7 "fall" ({ frames := 4, cells := 0, slots := 0, locals := 89 } : Room)) (hL : L7 sh P o) {r : Int32} {I9 : aI} (hR : am_R K (some .int) (some (.int r)) sh P I9 J 0 0) (l1 : Int32) (I : aI) (hf : f_X7_fall_b25 o l1 I = some (r, I9)) : AW K 2 25 [(0, .ref o), (1, .int l1)] [] sh P I J 0 0 := by
  unfold f_X7_fall_b25 at hf
  refine ar_aload_n X dX7_fall_25 rfl 0 rfl ?_
  refine ar_aload_n X dX7_fall_26 rfl 0 rfl ?_
  refine ar_iload_n X dX7_fall_27 rfl 1 rfl ?_
  obtain ⟨r1, h1, hf⟩ := am_b1_e hf
  refine ar_cVi (As := [.int l1]) (st := [.ref o]) X dX7_fall_28 (am_X7_seat hL h1) lk_X7_121 mt_X7_seat mi_X7_seat (L7_s0 hL) rfl rfl (Nat.le_of_ble_eq_true rfl) ⟨by decide, by decide⟩ ⟨Nat.zero_le _, Nat.zero_le _⟩ rfl ?_
  refine ar_aload_n X dX7_fall_31 rfl 0 rfl ?_
  refine ar_getr X dX7_fall_32 fg_X7_7 rfl (L7_s0 hL) (L7_p0_0 hL) ?_
  refine ar_iconst (v := 5) X dX7_fall_35 (by decide) ?_
  refine ar_ialdK (k := 5) X dX7_fall_36 (L7_s1 hL) (by decide) (by decide) ?_
  obtain ⟨r2, I2, h2, hf⟩ := am_b2_e hf
  refine ar_cVi (As := [.int r1, .int (I (o + 1) 5)]) (st := []) X dX7_fall_37 (am_X7_sellTo hL h2) lk_X7_109 mt_X7_sellTo mi_X7_sellTo (L7_s0 hL) rfl rfl (Nat.le_of_ble_eq_true rfl) ⟨by decide, by decide⟩ ⟨Nat.zero_le _, Nat.zero_le _⟩ rfl ?_
  cases hf
  exact ar_iret X dX7_fall_40 hR (Nat.le_refl _) (Nat.le_refl _)
def f_X7_fall_h2 (o : Nat) : Nat → Int32 → aI → Option (Int32 × aI)
  | 0, _, _ => none
  | n + 1, l1, I =>
    if (I (o + 1) 0) ≤ l1 then (
      f_X7_fall_b47 o I)
    else (
      am_b1 (f_X7_seat o l1 I) fun r2 =>
      am_b1 (f_X7_of o r2 (5 : Int32) I) fun r3 =>
      if r3 < 0 then (
        f_X7_fall_h2 o n (l1 + 1) I)
      else (
        f_X7_fall_b25 o l1 I))
set_option maxRecDepth 100000 in
set_option maxHeartbeats 4000000 in
theorem ab_X7_fall_h2 {K : aK} {sh : aS} {P : aP} {J : aJ} {o : Nat} (X : am_C K cX7_fall 2 RX7 "fall" ({ frames := 4, cells := 0, slots := 0, locals := 89 } : Room)) (hL : L7 sh P o) {r : Int32} {I9 : aI} (hR : am_R K (some .int) (some (.int r)) sh P I9 J 0 0) : ∀ (n : Nat) (l1 : Int32) (I : aI) , f_X7_fall_h2 o n l1 I = some (r, I9) → AW K 2 2 [(0, .ref o), (1, .int l1)] [] sh P I J 0 0 := by
  intro n
  induction n with
  | zero =>
    intro l1 I hf
    cases hf
  | succ n ih =>
    intro l1 I hf
    rw [f_X7_fall_h2] at hf
    refine ar_iload_n X dX7_fall_2 rfl 1 rfl ?_
    refine ar_aload_n X dX7_fall_3 rfl 0 rfl ?_
    refine ar_getr X dX7_fall_4 fg_X7_7 rfl (L7_s0 hL) (L7_p0_0 hL) ?_
    refine ar_iconst (v := 0) X dX7_fall_7 (by decide) ?_
    refine ar_ialdK (k := 0) X dX7_fall_8 (L7_s1 hL) (by decide) (by decide) ?_
    refine ar_icmp_ge (tgt := 47) X dX7_fall_9 (by decide) hf (fun h1 hf => ?_) (fun h1 hf => ?_)
    · refine ar_lo [0] rfl ?_
      exact ab_X7_fall_b47 X hL hR I hf
    · refine ar_aload_n X dX7_fall_12 rfl 0 rfl ?_
      refine ar_aload_n X dX7_fall_13 rfl 0 rfl ?_
      refine ar_iload_n X dX7_fall_14 rfl 1 rfl ?_
      obtain ⟨r2, h2, hf⟩ := am_b1_e hf
      refine ar_cVi (As := [.int l1]) (st := [.ref o]) X dX7_fall_15 (am_X7_seat hL h2) lk_X7_121 mt_X7_seat mi_X7_seat (L7_s0 hL) rfl rfl (Nat.le_of_ble_eq_true rfl) ⟨by decide, by decide⟩ ⟨Nat.zero_le _, Nat.zero_le _⟩ rfl ?_
      refine ar_iconst (v := 5) X dX7_fall_18 (by decide) ?_
      obtain ⟨r3, h3, hf⟩ := am_b1_e hf
      refine ar_cVi (As := [.int r2, .int (5 : Int32)]) (st := []) X dX7_fall_19 (am_X7_of hL h3) lk_X7_70 mt_X7_of mi_X7_of (L7_s0 hL) rfl rfl (Nat.le_of_ble_eq_true rfl) ⟨by decide, by decide⟩ ⟨Nat.zero_le _, Nat.zero_le _⟩ rfl ?_
      refine ar_if_lt (tgt := 41) X dX7_fall_22 (by decide) hf (fun h4 hf => ?_) (fun h4 hf => ?_)
      · refine ar_iinc (j := 1) (v := (l1 + 1)) X dX7_fall_41 rfl rfl (by decide) rfl ?_
        refine ar_goto (tgt := 2) X dX7_fall_44 (by decide) ?_
        refine ar_lo [1, 0] rfl ?_
        exact ih (l1 + 1) I hf
      · exact ab_X7_fall_b25 X hL hR l1 I hf
def f_X7_fall (o : Nat)  (I : aI) : Option (Int32 × aI) :=
  f_X7_fall_h2 o am_F (0 : Int32) I
set_option maxRecDepth 100000 in
set_option maxHeartbeats 4000000 in
theorem am_X7_fall {sh : aS} {P : aP} {I : aI} {J : aJ} {o : Nat} (hL : L7 sh P o)  {r : Int32} {I9 : aI} (hf : f_X7_fall o I = some (r, I9)) : AM yX7_fall cX7_fall 2 (some .int) 4 89 [.ref o] sh P I J (some (.int r)) sh P I9 J 0 0 := by
  refine am_met (by decide +kernel) (Nat.le_of_ble_eq_true rfl) (fun K X hR => ?_)
  have X : am_C K cX7_fall 2 RX7 "fall" ({ frames := 4, cells := 0, slots := 0, locals := 89 } : Room) := X
  show AW K 2 0 [(0, .ref o)] [] sh P I J 0 0
  unfold f_X7_fall at hf
  refine ar_iconst (v := 0) X dX7_fall_0 (by decide) ?_
  refine ar_istore_n X dX7_fall_1 rfl (by decide) rfl ?_
  refine ar_lo [1, 0] rfl ?_
  exact ab_X7_fall_h2 X hL hR am_F (0 : Int32) I hf
def f_X7_moveFalling_h2 (o : Nat) : Nat → Int32 → aI → Option (Int32 × aI)
  | 0, _, _ => none
  | n + 1, l1, I =>
    if (I (o + 1) 0) ≤ l1 then (
      am_b2 (f_X7_fall o I) fun r2 I2 =>
      some (r2, I2))
    else (
      am_b1 (f_X7_of o l1 (5 : Int32) I) fun r3 =>
      if 0 ≤ r3 then (
        f_X7_moveFalling_h2 o n (l1 + 1) I)
      else (
        am_b2 (f_X7_limitOf o l1 I) fun r5 I5 =>
        if r5 < (I (o + 1) 5) then (
          f_X7_moveFalling_h2 o n (l1 + 1) I5)
        else (
          am_b2 (f_X7_claim o l1 I5) fun r7 I7 =>
          am_let (am_w I7 (o + 1) 7 r7) fun I8 =>
          f_X7_moveFalling_h2 o n (l1 + 1) I8)))
set_option maxRecDepth 100000 in
set_option maxHeartbeats 4000000 in
theorem ab_X7_moveFalling_h2 {K : aK} {sh : aS} {P : aP} {J : aJ} {o : Nat} (X : am_C K cX7_moveFalling 3 RX7 "moveFalling" ({ frames := 5, cells := 0, slots := 0, locals := 110 } : Room)) (hL : L7 sh P o) {r : Int32} {I9 : aI} (hR : am_R K (some .int) (some (.int r)) sh P I9 J 0 0) : ∀ (n : Nat) (l1 : Int32) (I : aI) , f_X7_moveFalling_h2 o n l1 I = some (r, I9) → AW K 3 2 [(0, .ref o), (1, .int l1)] [] sh P I J 0 0 := by
  intro n
  induction n with
  | zero =>
    intro l1 I hf
    cases hf
  | succ n ih =>
    intro l1 I hf
    rw [f_X7_moveFalling_h2] at hf
    refine ar_iload_n X dX7_moveFalling_2 rfl 1 rfl ?_
    refine ar_aload_n X dX7_moveFalling_3 rfl 0 rfl ?_
    refine ar_getr X dX7_moveFalling_4 fg_X7_7 rfl (L7_s0 hL) (L7_p0_0 hL) ?_
    refine ar_iconst (v := 0) X dX7_moveFalling_7 (by decide) ?_
    refine ar_ialdK (k := 0) X dX7_moveFalling_8 (L7_s1 hL) (by decide) (by decide) ?_
    refine ar_icmp_ge (tgt := 55) X dX7_moveFalling_9 (by decide) hf (fun h1 hf => ?_) (fun h1 hf => ?_)
    · refine ar_aload_n X dX7_moveFalling_55 rfl 0 rfl ?_
      obtain ⟨r2, I2, h2, hf⟩ := am_b2_e hf
      refine ar_cVi (As := []) (st := []) X dX7_moveFalling_56 (am_X7_fall hL h2) lk_X7_142 mt_X7_fall mi_X7_fall (L7_s0 hL) rfl rfl (Nat.le_of_ble_eq_true rfl) ⟨by decide, by decide⟩ ⟨Nat.zero_le _, Nat.zero_le _⟩ rfl ?_
      cases hf
      exact ar_iret X dX7_moveFalling_59 hR (Nat.le_refl _) (Nat.le_refl _)
    · refine ar_aload_n X dX7_moveFalling_12 rfl 0 rfl ?_
      refine ar_iload_n X dX7_moveFalling_13 rfl 1 rfl ?_
      refine ar_iconst (v := 5) X dX7_moveFalling_14 (by decide) ?_
      obtain ⟨r3, h3, hf⟩ := am_b1_e hf
      refine ar_cVi (As := [.int l1, .int (5 : Int32)]) (st := []) X dX7_moveFalling_15 (am_X7_of hL h3) lk_X7_70 mt_X7_of mi_X7_of (L7_s0 hL) rfl rfl (Nat.le_of_ble_eq_true rfl) ⟨by decide, by decide⟩ ⟨Nat.zero_le _, Nat.zero_le _⟩ rfl ?_
      refine ar_if_ge (tgt := 49) X dX7_moveFalling_18 (by decide) hf (fun h4 hf => ?_) (fun h4 hf => ?_)
      · refine ar_iinc (j := 1) (v := (l1 + 1)) X dX7_moveFalling_49 rfl rfl (by decide) rfl ?_
        refine ar_goto (tgt := 2) X dX7_moveFalling_52 (by decide) ?_
        refine ar_lo [1, 0] rfl ?_
        exact ih (l1 + 1) I hf
      · refine ar_aload_n X dX7_moveFalling_21 rfl 0 rfl ?_
        refine ar_getr X dX7_moveFalling_22 fg_X7_7 rfl (L7_s0 hL) (L7_p0_0 hL) ?_
        refine ar_iconst (v := 5) X dX7_moveFalling_25 (by decide) ?_
        refine ar_ialdK (k := 5) X dX7_moveFalling_26 (L7_s1 hL) (by decide) (by decide) ?_
        refine ar_aload_n X dX7_moveFalling_27 rfl 0 rfl ?_
        refine ar_iload_n X dX7_moveFalling_28 rfl 1 rfl ?_
        obtain ⟨r5, I5, h5, hf⟩ := am_b2_e hf
        refine ar_cVi (As := [.int l1]) (st := [.int (I (o + 1) 5)]) X dX7_moveFalling_29 (am_X7_limitOf hL h5) lk_X7_145 mt_X7_limitOf mi_X7_limitOf (L7_s0 hL) rfl rfl (Nat.le_of_ble_eq_true rfl) ⟨by decide, by decide⟩ ⟨Nat.zero_le _, Nat.zero_le _⟩ rfl ?_
        refine ar_icmp_gt (tgt := 49) X dX7_moveFalling_32 (by decide) hf (fun h6 hf => ?_) (fun h6 hf => ?_)
        · refine ar_iinc (j := 1) (v := (l1 + 1)) X dX7_moveFalling_49 rfl rfl (by decide) rfl ?_
          refine ar_goto (tgt := 2) X dX7_moveFalling_52 (by decide) ?_
          refine ar_lo [1, 0] rfl ?_
          exact ih (l1 + 1) I5 hf
        · refine ar_aload_n X dX7_moveFalling_35 rfl 0 rfl ?_
          refine ar_iload_n X dX7_moveFalling_36 rfl 1 rfl ?_
          obtain ⟨r7, I7, h7, hf⟩ := am_b2_e hf
          refine ar_cVi (As := [.int l1]) (st := []) X dX7_moveFalling_37 (am_X7_claim hL h7) lk_X7_136 mt_X7_claim mi_X7_claim (L7_s0 hL) rfl rfl (Nat.le_of_ble_eq_true rfl) ⟨by decide, by decide⟩ ⟨Nat.zero_le _, Nat.zero_le _⟩ rfl ?_
          refine ar_istore_n X dX7_moveFalling_40 rfl (by decide) rfl ?_
          refine ar_aload_n X dX7_moveFalling_41 rfl 1 rfl ?_
          refine ar_getr X dX7_moveFalling_42 fg_X7_7 rfl (L7_s0 hL) (L7_p0_0 hL) ?_
          refine ar_bipush (v := 7) X dX7_moveFalling_45 (by decide) ?_
          refine ar_iload_n X dX7_moveFalling_47 rfl 0 rfl ?_
          refine ar_iastK (k := 7) X dX7_moveFalling_48 (L7_s1 hL) (by decide) (by decide) hf (fun I8 hf => ?_)
          refine ar_iinc (j := 2) (v := (l1 + 1)) X dX7_moveFalling_49 rfl rfl (by decide) rfl ?_
          refine ar_goto (tgt := 2) X dX7_moveFalling_52 (by decide) ?_
          refine ar_lo [2, 0] rfl ?_
          exact ih (l1 + 1) I8 hf
def f_X7_moveFalling (o : Nat)  (I : aI) : Option (Int32 × aI) :=
  f_X7_moveFalling_h2 o am_F (0 : Int32) I
set_option maxRecDepth 100000 in
set_option maxHeartbeats 4000000 in
theorem am_X7_moveFalling {sh : aS} {P : aP} {I : aI} {J : aJ} {o : Nat} (hL : L7 sh P o)  {r : Int32} {I9 : aI} (hf : f_X7_moveFalling o I = some (r, I9)) : AM yX7_moveFalling cX7_moveFalling 3 (some .int) 5 110 [.ref o] sh P I J (some (.int r)) sh P I9 J 0 0 := by
  refine am_met (by decide +kernel) (Nat.le_of_ble_eq_true rfl) (fun K X hR => ?_)
  have X : am_C K cX7_moveFalling 3 RX7 "moveFalling" ({ frames := 5, cells := 0, slots := 0, locals := 110 } : Room) := X
  show AW K 3 0 [(0, .ref o)] [] sh P I J 0 0
  unfold f_X7_moveFalling at hf
  refine ar_iconst (v := 0) X dX7_moveFalling_0 (by decide) ?_
  refine ar_istore_n X dX7_moveFalling_1 rfl (by decide) rfl ?_
  refine ar_lo [1, 0] rfl ?_
  exact ab_X7_moveFalling_h2 X hL hR am_F (0 : Int32) I hf
def f_X7_makeMove (o : Nat)  (I : aI) : Option (Int32 × aI) :=
  if (I (o + 1) 4) = (0 : Int32) then (
    am_let (I (o + 1) 8) fun x2 =>
    am_b1 (f_X7_leastOpen o I) fun r3 =>
    am_b2 (f_X7_limitOf o x2 I) fun r4 I4 =>
    if r4 < r3 then (
      am_b2 (f_X7_passOpen o x2 I4) fun r6 I6 =>
      some (r6, I6))
    else (
      am_b1 (f_X7_leastOpen o I4) fun r7 =>
      am_b2 (f_X7_bidOpen o x2 r7 I4) fun r8 I8 =>
      some (r8, I8)))
  else if (I (o + 1) 4) = (1 : Int32) then (
    am_b2 (f_X7_moveSealed o I) fun r10 I10 =>
    some (r10, I10))
  else (
    am_b2 (f_X7_moveFalling o I) fun r11 I11 =>
  some (r11, I11))
set_option maxRecDepth 100000 in
set_option maxHeartbeats 4000000 in
theorem am_X7_makeMove {sh : aS} {P : aP} {I : aI} {J : aJ} {o : Nat} (hL : L7 sh P o)  {r : Int32} {I9 : aI} (hf : f_X7_makeMove o I = some (r, I9)) : AM yX7_makeMove cX7_makeMove 2 (some .int) 6 137 [.ref o] sh P I J (some (.int r)) sh P I9 J 0 0 := by
  refine am_met (by decide +kernel) (Nat.le_of_ble_eq_true rfl) (fun K X hR => ?_)
  have X : am_C K cX7_makeMove 2 RX7 "makeMove" ({ frames := 6, cells := 0, slots := 0, locals := 137 } : Room) := X
  show AW K 2 0 [(0, .ref o)] [] sh P I J 0 0
  unfold f_X7_makeMove at hf
  refine ar_aload_n X dX7_makeMove_0 rfl 0 rfl ?_
  refine ar_getr X dX7_makeMove_1 fg_X7_7 rfl (L7_s0 hL) (L7_p0_0 hL) ?_
  refine ar_iconst (v := 4) X dX7_makeMove_4 (by decide) ?_
  refine ar_ialdK (k := 4) X dX7_makeMove_5 (L7_s1 hL) (by decide) (by decide) ?_
  rcases am_ite hf with ⟨h1, hf⟩ | ⟨h1, hf⟩
  · refine ar_lookup (tgt := 32) X dX7_makeMove_6 (by decide) (by rw [h1] <;> rfl) (by decide) ?_
    refine ar_aload_n X dX7_makeMove_32 rfl 0 rfl ?_
    refine ar_getr X dX7_makeMove_33 fg_X7_7 rfl (L7_s0 hL) (L7_p0_0 hL) ?_
    refine ar_bipush (v := 8) X dX7_makeMove_36 (by decide) ?_
    refine ar_ialdK (k := 8) X dX7_makeMove_38 (L7_s1 hL) (by decide) (by decide) ?_
    refine ar_letI hf (fun x2 hf => ?_)
    refine ar_istore_n X dX7_makeMove_39 rfl (by decide) rfl ?_
    refine ar_aload_n X dX7_makeMove_40 rfl 1 rfl ?_
    obtain ⟨r3, h3, hf⟩ := am_b1_e hf
    refine ar_cVi (As := []) (st := []) X dX7_makeMove_41 (am_X7_leastOpen hL h3) lk_X7_124 mt_X7_leastOpen mi_X7_leastOpen (L7_s0 hL) rfl rfl (Nat.le_of_ble_eq_true rfl) ⟨by decide, by decide⟩ ⟨Nat.zero_le _, Nat.zero_le _⟩ rfl ?_
    refine ar_aload_n X dX7_makeMove_44 rfl 1 rfl ?_
    refine ar_iload_n X dX7_makeMove_45 rfl 0 rfl ?_
    obtain ⟨r4, I4, h4, hf⟩ := am_b2_e hf
    refine ar_cVi (As := [.int x2]) (st := [.int r3]) X dX7_makeMove_46 (am_X7_limitOf hL h4) lk_X7_145 mt_X7_limitOf mi_X7_limitOf (L7_s0 hL) rfl rfl (Nat.le_of_ble_eq_true rfl) ⟨by decide, by decide⟩ ⟨Nat.zero_le _, Nat.zero_le _⟩ rfl ?_
    refine ar_icmp_gt (tgt := 64) X dX7_makeMove_49 (by decide) hf (fun h5 hf => ?_) (fun h5 hf => ?_)
    · refine ar_aload_n X dX7_makeMove_64 rfl 1 rfl ?_
      refine ar_iload_n X dX7_makeMove_65 rfl 0 rfl ?_
      obtain ⟨r6, I6, h6, hf⟩ := am_b2_e hf
      refine ar_cVi (As := [.int x2]) (st := []) X dX7_makeMove_66 (am_X7_passOpen hL h6) lk_X7_139 mt_X7_passOpen mi_X7_passOpen (L7_s0 hL) rfl rfl (Nat.le_of_ble_eq_true rfl) ⟨by decide, by decide⟩ ⟨Nat.zero_le _, Nat.zero_le _⟩ rfl ?_
      cases hf
      exact ar_iret X dX7_makeMove_69 hR (Nat.le_refl _) (Nat.le_refl _)
    · refine ar_aload_n X dX7_makeMove_52 rfl 1 rfl ?_
      refine ar_iload_n X dX7_makeMove_53 rfl 0 rfl ?_
      refine ar_aload_n X dX7_makeMove_54 rfl 1 rfl ?_
      obtain ⟨r7, h7, hf⟩ := am_b1_e hf
      refine ar_cVi (As := []) (st := [.int x2, .ref o]) X dX7_makeMove_55 (am_X7_leastOpen hL h7) lk_X7_124 mt_X7_leastOpen mi_X7_leastOpen (L7_s0 hL) rfl rfl (Nat.le_of_ble_eq_true rfl) ⟨by decide, by decide⟩ ⟨Nat.zero_le _, Nat.zero_le _⟩ rfl ?_
      obtain ⟨r8, I8, h8, hf⟩ := am_b2_e hf
      refine ar_cVi (As := [.int x2, .int r7]) (st := []) X dX7_makeMove_58 (am_X7_bidOpen hL h8) lk_X7_130 mt_X7_bidOpen mi_X7_bidOpen (L7_s0 hL) rfl rfl (Nat.le_of_ble_eq_true rfl) ⟨by decide, by decide⟩ ⟨Nat.zero_le _, Nat.zero_le _⟩ rfl ?_
      refine ar_goto (tgt := 69) X dX7_makeMove_61 (by decide) ?_
      cases hf
      exact ar_iret X dX7_makeMove_69 hR (Nat.le_refl _) (Nat.le_refl _)
  rcases am_ite hf with ⟨h9, hf⟩ | ⟨h9, hf⟩
  · refine ar_lookup (tgt := 70) X dX7_makeMove_6 (by decide) (by rw [h9] <;> rfl) (by decide) ?_
    refine ar_aload_n X dX7_makeMove_70 rfl 0 rfl ?_
    obtain ⟨r10, I10, h10, hf⟩ := am_b2_e hf
    refine ar_cVi (As := []) (st := []) X dX7_makeMove_71 (am_X7_moveSealed hL h10) lk_X7_151 mt_X7_moveSealed mi_X7_moveSealed (L7_s0 hL) rfl rfl (Nat.le_of_ble_eq_true rfl) ⟨by decide, by decide⟩ ⟨Nat.zero_le _, Nat.zero_le _⟩ rfl ?_
    cases hf
    exact ar_iret X dX7_makeMove_74 hR (Nat.le_refl _) (Nat.le_refl _)
  refine ar_lookup (tgt := 75) (off := 69) X dX7_makeMove_6 (by decide) ?_ (by decide) ?_
  · simp only [Op.lookupswitch.offset]
    have h1' : ¬ (I (o + 1) 4).toInt = 0 := fun h => h1 (Int32.toInt_inj.mp h)
    have h1'' : ¬ 0 = (I (o + 1) 4).toInt := fun h => h1' h.symm
    have h9' : ¬ (I (o + 1) 4).toInt = 1 := fun h => h9 (Int32.toInt_inj.mp h)
    have h9'' : ¬ 1 = (I (o + 1) 4).toInt := fun h => h9' h.symm
    simp [h1', h1'', h9', h9'']
  refine ar_aload_n X dX7_makeMove_75 rfl 0 rfl ?_
  obtain ⟨r11, I11, h11, hf⟩ := am_b2_e hf
  refine ar_cVi (As := []) (st := []) X dX7_makeMove_76 (am_X7_moveFalling hL h11) lk_X7_154 mt_X7_moveFalling mi_X7_moveFalling (L7_s0 hL) rfl rfl (Nat.le_of_ble_eq_true rfl) ⟨by decide, by decide⟩ ⟨Nat.zero_le _, Nat.zero_le _⟩ rfl ?_
  cases hf
  exact ar_iret X dX7_makeMove_79 hR (Nat.le_refl _) (Nat.le_refl _)
def f_X7_giveLast_b52 (o : Nat) (l1 : Int32) (I : aI) : Option (Int32 × aI) :=
  am_b2 (f_X7_finish o (am_shl (1 : Int32) l1) (0 : Int32) I) fun r1 I1 =>
  if r1 ≤ 0 then (
    some ((-6 : Int32), I1))
  else (
    some (l1, I1))
set_option maxRecDepth 100000 in
set_option maxHeartbeats 4000000 in
theorem ab_X7_giveLast_b52 {K : aK} {sh : aS} {P : aP} {J : aJ} {o : Nat} (X : am_C K cX7_giveLast 3 RX7 "giveLast" ({ frames := 3, cells := 0, slots := 0, locals := 67 } : Room)) (hL : L7 sh P o) {r : Int32} {I9 : aI} (hR : am_R K (some .int) (some (.int r)) sh P I9 J 0 0) (l1 : Int32) (I : aI) (hf : f_X7_giveLast_b52 o l1 I = some (r, I9)) : AW K 3 52 [(0, .ref o), (1, .int l1)] [] sh P I J 0 0 := by
  unfold f_X7_giveLast_b52 at hf
  refine ar_aload_n X dX7_giveLast_52 rfl 0 rfl ?_
  refine ar_iconst (v := 1) X dX7_giveLast_53 (by decide) ?_
  refine ar_iload_n X dX7_giveLast_54 rfl 1 rfl ?_
  refine ar_ishl X dX7_giveLast_55 ?_
  refine ar_iconst (v := 0) X dX7_giveLast_56 (by decide) ?_
  obtain ⟨r1, I1, h1, hf⟩ := am_b2_e hf
  refine ar_cVi (As := [.int (am_shl (1 : Int32) l1), .int (0 : Int32)]) (st := []) X dX7_giveLast_57 (am_X7_finish hL h1) lk_X7_102 mt_X7_finish mi_X7_finish (L7_s0 hL) rfl rfl (Nat.le_of_ble_eq_true rfl) ⟨by decide, by decide⟩ ⟨Nat.zero_le _, Nat.zero_le _⟩ rfl ?_
  refine ar_istore_n X dX7_giveLast_60 rfl (by decide) rfl ?_
  refine ar_iload_n X dX7_giveLast_61 rfl 0 rfl ?_
  refine ar_if_le (tgt := 69) X dX7_giveLast_62 (by decide) hf (fun h2 hf => ?_) (fun h2 hf => ?_)
  · refine ar_bipush (v := -6) X dX7_giveLast_69 (by decide) ?_
    cases hf
    exact ar_iret X dX7_giveLast_71 hR (Nat.le_refl _) (Nat.le_refl _)
  · refine ar_iload_n X dX7_giveLast_65 rfl 2 rfl ?_
    refine ar_goto (tgt := 71) X dX7_giveLast_66 (by decide) ?_
    cases hf
    exact ar_iret X dX7_giveLast_71 hR (Nat.le_refl _) (Nat.le_refl _)
def f_X7_giveLast_h7 (o : Nat) : Nat → Int32 → Int32 → aI → Option (Int32 × aI)
  | 0, _, _, _ => none
  | n + 1, l1, l2, I =>
    if (I (o + 1) 0) ≤ l2 then (
      f_X7_giveLast_b52 o l1 I)
    else (
      am_b1 (f_X7_seat o l2 I) fun r2 =>
      am_b1 (f_X7_of o r2 (0 : Int32) I) fun r3 =>
      am_b1 (f_X7_of o l1 (0 : Int32) I) fun r4 =>
      if r4 ≤ r3 then (
        f_X7_giveLast_h7 o n l1 (l2 + 1) I)
      else (
        am_b1 (f_X7_seat o l2 I) fun r6 =>
        f_X7_giveLast_h7 o n r6 (l2 + 1) I))
set_option maxRecDepth 100000 in
set_option maxHeartbeats 4000000 in
theorem ab_X7_giveLast_h7 {K : aK} {sh : aS} {P : aP} {J : aJ} {o : Nat} (X : am_C K cX7_giveLast 3 RX7 "giveLast" ({ frames := 3, cells := 0, slots := 0, locals := 67 } : Room)) (hL : L7 sh P o) {r : Int32} {I9 : aI} (hR : am_R K (some .int) (some (.int r)) sh P I9 J 0 0) : ∀ (n : Nat) (l1 : Int32) (l2 : Int32) (I : aI) , f_X7_giveLast_h7 o n l1 l2 I = some (r, I9) → AW K 3 7 [(0, .ref o), (1, .int l1), (2, .int l2)] [] sh P I J 0 0 := by
  intro n
  induction n with
  | zero =>
    intro l1 l2 I hf
    cases hf
  | succ n ih =>
    intro l1 l2 I hf
    rw [f_X7_giveLast_h7] at hf
    refine ar_iload_n X dX7_giveLast_7 rfl 2 rfl ?_
    refine ar_aload_n X dX7_giveLast_8 rfl 0 rfl ?_
    refine ar_getr X dX7_giveLast_9 fg_X7_7 rfl (L7_s0 hL) (L7_p0_0 hL) ?_
    refine ar_iconst (v := 0) X dX7_giveLast_12 (by decide) ?_
    refine ar_ialdK (k := 0) X dX7_giveLast_13 (L7_s1 hL) (by decide) (by decide) ?_
    refine ar_icmp_ge (tgt := 52) X dX7_giveLast_14 (by decide) hf (fun h1 hf => ?_) (fun h1 hf => ?_)
    · refine ar_lo [0, 1] rfl ?_
      exact ab_X7_giveLast_b52 X hL hR l1 I hf
    · refine ar_aload_n X dX7_giveLast_17 rfl 0 rfl ?_
      refine ar_aload_n X dX7_giveLast_18 rfl 0 rfl ?_
      refine ar_iload_n X dX7_giveLast_19 rfl 2 rfl ?_
      obtain ⟨r2, h2, hf⟩ := am_b1_e hf
      refine ar_cVi (As := [.int l2]) (st := [.ref o]) X dX7_giveLast_20 (am_X7_seat hL h2) lk_X7_121 mt_X7_seat mi_X7_seat (L7_s0 hL) rfl rfl (Nat.le_of_ble_eq_true rfl) ⟨by decide, by decide⟩ ⟨Nat.zero_le _, Nat.zero_le _⟩ rfl ?_
      refine ar_iconst (v := 0) X dX7_giveLast_23 (by decide) ?_
      obtain ⟨r3, h3, hf⟩ := am_b1_e hf
      refine ar_cVi (As := [.int r2, .int (0 : Int32)]) (st := []) X dX7_giveLast_24 (am_X7_of hL h3) lk_X7_70 mt_X7_of mi_X7_of (L7_s0 hL) rfl rfl (Nat.le_of_ble_eq_true rfl) ⟨by decide, by decide⟩ ⟨Nat.zero_le _, Nat.zero_le _⟩ rfl ?_
      refine ar_aload_n X dX7_giveLast_27 rfl 0 rfl ?_
      refine ar_iload_n X dX7_giveLast_28 rfl 1 rfl ?_
      refine ar_iconst (v := 0) X dX7_giveLast_29 (by decide) ?_
      obtain ⟨r4, h4, hf⟩ := am_b1_e hf
      refine ar_cVi (As := [.int l1, .int (0 : Int32)]) (st := [.int r3]) X dX7_giveLast_30 (am_X7_of hL h4) lk_X7_70 mt_X7_of mi_X7_of (L7_s0 hL) rfl rfl (Nat.le_of_ble_eq_true rfl) ⟨by decide, by decide⟩ ⟨Nat.zero_le _, Nat.zero_le _⟩ rfl ?_
      refine ar_icmp_ge (tgt := 44) X dX7_giveLast_33 (by decide) hf (fun h5 hf => ?_) (fun h5 hf => ?_)
      · refine ar_iload_n X dX7_giveLast_44 rfl 1 rfl ?_
        refine ar_istore_n X dX7_giveLast_45 rfl (by decide) rfl ?_
        refine ar_iinc (j := 2) (v := (l2 + 1)) X dX7_giveLast_46 rfl rfl (by decide) rfl ?_
        refine ar_goto (tgt := 7) X dX7_giveLast_49 (by decide) ?_
        refine ar_lo [2, 1, 0] rfl ?_
        exact ih l1 (l2 + 1) I hf
      · refine ar_aload_n X dX7_giveLast_36 rfl 0 rfl ?_
        refine ar_iload_n X dX7_giveLast_37 rfl 2 rfl ?_
        obtain ⟨r6, h6, hf⟩ := am_b1_e hf
        refine ar_cVi (As := [.int l2]) (st := []) X dX7_giveLast_38 (am_X7_seat hL h6) lk_X7_121 mt_X7_seat mi_X7_seat (L7_s0 hL) rfl rfl (Nat.le_of_ble_eq_true rfl) ⟨by decide, by decide⟩ ⟨Nat.zero_le _, Nat.zero_le _⟩ rfl ?_
        refine ar_goto (tgt := 45) X dX7_giveLast_41 (by decide) ?_
        refine ar_istore_n X dX7_giveLast_45 rfl (by decide) rfl ?_
        refine ar_iinc (j := 2) (v := (l2 + 1)) X dX7_giveLast_46 rfl rfl (by decide) rfl ?_
        refine ar_goto (tgt := 7) X dX7_giveLast_49 (by decide) ?_
        refine ar_lo [2, 1, 0] rfl ?_
        exact ih r6 (l2 + 1) I hf
def f_X7_giveLast (o : Nat)  (I : aI) : Option (Int32 × aI) :=
  am_b1 (f_X7_starter o I) fun r1 =>
  f_X7_giveLast_h7 o am_F r1 (1 : Int32) I
set_option maxRecDepth 100000 in
set_option maxHeartbeats 4000000 in
theorem am_X7_giveLast {sh : aS} {P : aP} {I : aI} {J : aJ} {o : Nat} (hL : L7 sh P o)  {r : Int32} {I9 : aI} (hf : f_X7_giveLast o I = some (r, I9)) : AM yX7_giveLast cX7_giveLast 3 (some .int) 3 67 [.ref o] sh P I J (some (.int r)) sh P I9 J 0 0 := by
  refine am_met (by decide +kernel) (Nat.le_of_ble_eq_true rfl) (fun K X hR => ?_)
  have X : am_C K cX7_giveLast 3 RX7 "giveLast" ({ frames := 3, cells := 0, slots := 0, locals := 67 } : Room) := X
  show AW K 3 0 [(0, .ref o)] [] sh P I J 0 0
  unfold f_X7_giveLast at hf
  refine ar_aload_n X dX7_giveLast_0 rfl 0 rfl ?_
  obtain ⟨r1, h1, hf⟩ := am_b1_e hf
  refine ar_cVi (As := []) (st := []) X dX7_giveLast_1 (am_X7_starter hL h1) lk_X7_93 mt_X7_starter mi_X7_starter (L7_s0 hL) rfl rfl (Nat.le_of_ble_eq_true rfl) ⟨by decide, by decide⟩ ⟨Nat.zero_le _, Nat.zero_le _⟩ rfl ?_
  refine ar_istore_n X dX7_giveLast_4 rfl (by decide) rfl ?_
  refine ar_iconst (v := 1) X dX7_giveLast_5 (by decide) ?_
  refine ar_istore_n X dX7_giveLast_6 rfl (by decide) rfl ?_
  refine ar_lo [2, 1, 0] rfl ?_
  exact ab_X7_giveLast_h7 X hL hR am_F r1 (1 : Int32) I hf
def f_X7_scoreOf (o : Nat) (a1 : Int32) (I : aI) : Option (Int32 × aI) :=
  am_b2 (f_X7_valueWith o a1 (-6 : Int32) I) fun r1 I1 =>
  am_b1 (f_X7_of o a1 (0 : Int32) I1) fun r2 =>
  am_b1 (f_X7_setting o (5 : Int32) I1) fun r3 =>
  am_g (decide (¬ r3 = 0)) (
  some ((r1 + (r2 / r3)), I1))
set_option maxRecDepth 100000 in
set_option maxHeartbeats 4000000 in
theorem am_X7_scoreOf {sh : aS} {P : aP} {I : aI} {J : aJ} {o : Nat} (hL : L7 sh P o) {a1 : Int32} {r : Int32} {I9 : aI} (hf : f_X7_scoreOf o a1 I = some (r, I9)) : AM yX7_scoreOf cX7_scoreOf 2 (some .int) 2 47 [.ref o, .int a1] sh P I J (some (.int r)) sh P I9 J 0 0 := by
  refine am_met (by decide +kernel) (Nat.le_of_ble_eq_true rfl) (fun K X hR => ?_)
  have X : am_C K cX7_scoreOf 2 RX7 "scoreOf" ({ frames := 2, cells := 0, slots := 0, locals := 47 } : Room) := X
  show AW K 2 0 [(0, .ref o), (1, .int a1)] [] sh P I J 0 0
  unfold f_X7_scoreOf at hf
  refine ar_aload_n X dX7_scoreOf_0 rfl 0 rfl ?_
  refine ar_iload_n X dX7_scoreOf_1 rfl 1 rfl ?_
  refine ar_bipush (v := -6) X dX7_scoreOf_2 (by decide) ?_
  obtain ⟨r1, I1, h1, hf⟩ := am_b2_e hf
  refine ar_cVi (As := [.int a1, .int (-6 : Int32)]) (st := []) X dX7_scoreOf_4 (am_X7_valueWith hL h1) lk_X7_83 mt_X7_valueWith mi_X7_valueWith (L7_s0 hL) rfl rfl (Nat.le_of_ble_eq_true rfl) ⟨by decide, by decide⟩ ⟨Nat.zero_le _, Nat.zero_le _⟩ rfl ?_
  refine ar_aload_n X dX7_scoreOf_7 rfl 0 rfl ?_
  refine ar_iload_n X dX7_scoreOf_8 rfl 1 rfl ?_
  refine ar_iconst (v := 0) X dX7_scoreOf_9 (by decide) ?_
  obtain ⟨r2, h2, hf⟩ := am_b1_e hf
  refine ar_cVi (As := [.int a1, .int (0 : Int32)]) (st := [.int r1]) X dX7_scoreOf_10 (am_X7_of hL h2) lk_X7_70 mt_X7_of mi_X7_of (L7_s0 hL) rfl rfl (Nat.le_of_ble_eq_true rfl) ⟨by decide, by decide⟩ ⟨Nat.zero_le _, Nat.zero_le _⟩ rfl ?_
  refine ar_aload_n X dX7_scoreOf_13 rfl 0 rfl ?_
  refine ar_iconst (v := 5) X dX7_scoreOf_14 (by decide) ?_
  obtain ⟨r3, h3, hf⟩ := am_b1_e hf
  refine ar_cVi (As := [.int (5 : Int32)]) (st := [.int r2, .int r1]) X dX7_scoreOf_15 (am_X7_setting hL h3) lk_X7_51 mt_X7_setting mi_X7_setting (L7_s0 hL) rfl rfl (Nat.le_of_ble_eq_true rfl) ⟨by decide, by decide⟩ ⟨Nat.zero_le _, Nat.zero_le _⟩ rfl ?_
  obtain ⟨h4, hf⟩ := am_g_elim hf
  refine ar_idiv X dX7_scoreOf_18 h4 ?_
  refine ar_iadd X dX7_scoreOf_19 ?_
  cases hf
  exact ar_iret X dX7_scoreOf_20 hR (Nat.le_refl _) (Nat.le_refl _)
def f_X7_putBack_h2 (o : Nat) : Nat → Int32 → aI → Option aI
  | 0, _, _ => none
  | n + 1, l1, I =>
    if (118 : Int32) ≤ l1 then (
      some I)
    else (
      am_g (am_ok l1 118) (
      am_g (am_ok l1 118) (am_let (am_w I (o + 1) (Int32.toNatClampNeg l1) (I (o + 2) (Int32.toNatClampNeg l1))) fun I2 =>
      f_X7_putBack_h2 o n (l1 + 1) I2)))
set_option maxRecDepth 100000 in
set_option maxHeartbeats 4000000 in
theorem ab_X7_putBack_h2 {K : aK} {sh : aS} {P : aP} {J : aJ} {o : Nat} (X : am_C K cX7_putBack 2 RX7 "putBack" ({ frames := 0, cells := 0, slots := 0, locals := 0 } : Room)) (hL : L7 sh P o) {I9 : aI} (hR : am_R K none none sh P I9 J 0 0) : ∀ (n : Nat) (l1 : Int32) (I : aI) , f_X7_putBack_h2 o n l1 I = some I9 → AW K 2 2 [(0, .ref o), (1, .int l1)] [] sh P I J 0 0 := by
  intro n
  induction n with
  | zero =>
    intro l1 I hf
    cases hf
  | succ n ih =>
    intro l1 I hf
    rw [f_X7_putBack_h2] at hf
    refine ar_iload_n X dX7_putBack_2 rfl 1 rfl ?_
    refine ar_bipush (v := 118) X dX7_putBack_3 (by decide) ?_
    refine ar_icmp_ge (tgt := 26) X dX7_putBack_5 (by decide) hf (fun h1 hf => ?_) (fun h1 hf => ?_)
    · cases hf
      exact ar_vret X dX7_putBack_26 hR (Nat.le_refl _) (Nat.le_refl _)
    · refine ar_aload_n X dX7_putBack_8 rfl 0 rfl ?_
      refine ar_getr X dX7_putBack_9 fg_X7_7 rfl (L7_s0 hL) (L7_p0_0 hL) ?_
      refine ar_iload_n X dX7_putBack_12 rfl 1 rfl ?_
      refine ar_aload_n X dX7_putBack_13 rfl 0 rfl ?_
      refine ar_getr X dX7_putBack_14 fg_X7_13 rfl (L7_s0 hL) (L7_p0_1 hL) ?_
      refine ar_iload_n X dX7_putBack_17 rfl 1 rfl ?_
      refine ar_iald X dX7_putBack_18 (L7_s2 hL) hf (fun hf => ?_)
      refine ar_iast X dX7_putBack_19 (L7_s1 hL) hf (fun I2 hf => ?_)
      refine ar_iinc (j := 1) (v := (l1 + 1)) X dX7_putBack_20 rfl rfl (by decide) rfl ?_
      refine ar_goto (tgt := 2) X dX7_putBack_23 (by decide) ?_
      refine ar_lo [1, 0] rfl ?_
      exact ih (l1 + 1) I2 hf
def f_X7_putBack (o : Nat)  (I : aI) : Option aI :=
  f_X7_putBack_h2 o am_F (0 : Int32) I
set_option maxRecDepth 100000 in
set_option maxHeartbeats 4000000 in
theorem am_X7_putBack {sh : aS} {P : aP} {I : aI} {J : aJ} {o : Nat} (hL : L7 sh P o)  {I9 : aI} (hf : f_X7_putBack o I = some I9) : AM yX7_putBack cX7_putBack 2 none 0 0 [.ref o] sh P I J none sh P I9 J 0 0 := by
  refine am_met (by decide +kernel) (Nat.le_of_ble_eq_true rfl) (fun K X hR => ?_)
  have X : am_C K cX7_putBack 2 RX7 "putBack" ({ frames := 0, cells := 0, slots := 0, locals := 0 } : Room) := X
  show AW K 2 0 [(0, .ref o)] [] sh P I J 0 0
  unfold f_X7_putBack at hf
  refine ar_iconst (v := 0) X dX7_putBack_0 (by decide) ?_
  refine ar_istore_n X dX7_putBack_1 rfl (by decide) rfl ?_
  refine ar_lo [1, 0] rfl ?_
  exact ab_X7_putBack_h2 X hL hR am_F (0 : Int32) I hf
def f_X7_scoreAtEnd_b56 (o : Nat) (l3 : Int32) (I : aI) : Option (Int32 × aI) :=
  am_b2 (f_X7_scoreOf o l3 I) fun r1 I1 =>
  am_b1 (f_X7_putBack o I1) fun I2 =>
  some (r1, I2)
set_option maxRecDepth 100000 in
set_option maxHeartbeats 4000000 in
theorem ab_X7_scoreAtEnd_b56 {K : aK} {sh : aS} {P : aP} {J : aJ} {o : Nat} (X : am_C K cX7_scoreAtEnd 5 RX7 "scoreAtEnd" ({ frames := 7, cells := 0, slots := 0, locals := 158 } : Room)) (hL : L7 sh P o) {r : Int32} {I9 : aI} (hR : am_R K (some .int) (some (.int r)) sh P I9 J 0 0) (l3 : Int32) (I : aI) (hf : f_X7_scoreAtEnd_b56 o l3 I = some (r, I9)) : AW K 5 56 [(0, .ref o), (3, .int l3)] [] sh P I J 0 0 := by
  unfold f_X7_scoreAtEnd_b56 at hf
  refine ar_aload_n X dX7_scoreAtEnd_56 rfl 0 rfl ?_
  refine ar_iload_n X dX7_scoreAtEnd_57 rfl 1 rfl ?_
  obtain ⟨r1, I1, h1, hf⟩ := am_b2_e hf
  refine ar_cVi (As := [.int l3]) (st := []) X dX7_scoreAtEnd_58 (am_X7_scoreOf hL h1) lk_X7_86 mt_X7_scoreOf mi_X7_scoreOf (L7_s0 hL) rfl rfl (Nat.le_of_ble_eq_true rfl) ⟨by decide, by decide⟩ ⟨Nat.zero_le _, Nat.zero_le _⟩ rfl ?_
  refine ar_istore X dX7_scoreAtEnd_61 (by decide) rfl ?_
  refine ar_aload_n X dX7_scoreAtEnd_63 rfl 1 rfl ?_
  obtain ⟨I2, h2, hf⟩ := am_b1_e hf
  refine ar_cVv (As := []) (st := []) X dX7_scoreAtEnd_64 (am_X7_putBack hL h2) lk_X7_202 mt_X7_putBack mi_X7_putBack (L7_s0 hL) rfl rfl (Nat.le_of_ble_eq_true rfl) ⟨by decide, by decide⟩ ⟨Nat.zero_le _, Nat.zero_le _⟩ rfl ?_
  refine ar_iload X dX7_scoreAtEnd_67 0 rfl ?_
  cases hf
  exact ar_iret X dX7_scoreAtEnd_69 hR (Nat.le_refl _) (Nat.le_refl _)
def f_X7_scoreAtEnd_h7 (o : Nat) : Nat → Int32 → Int32 → Int32 → Int32 → aI → Option (Int32 × aI)
  | 0, _, _, _, _, _ => none
  | n + 1, l1, l2, l3, l4, I =>
    am_b1 (f_X7_nextLot o I) fun r1 =>
    if r1 < 0 then (
      f_X7_scoreAtEnd_b56 o l3 I)
    else (
      am_b1 (f_X7_goes o I) fun r3 =>
      if r3 = 0 then (
        am_b1 (f_X7_isLastNext o I) fun r5 =>
        if r5 = 0 then (
          am_b2 (f_X7_start o l1 l2 I) fun r7 I7 =>
          am_let (l4 + r7) fun x8 =>
          f_X7_scoreAtEnd_h7 o n l1 l2 l3 x8 I7)
        else (
          am_b2 (f_X7_giveLast o I) fun r9 I9 =>
          am_let (l4 + r9) fun x10 =>
          f_X7_scoreAtEnd_h7 o n l1 l2 l3 x10 I9))
      else (
        am_b2 (f_X7_makeMove o I) fun r11 I11 =>
        am_let (l4 + r11) fun x12 =>
        f_X7_scoreAtEnd_h7 o n l1 l2 l3 x12 I11))
set_option maxRecDepth 100000 in
set_option maxHeartbeats 4000000 in
theorem ab_X7_scoreAtEnd_h7 {K : aK} {sh : aS} {P : aP} {J : aJ} {o : Nat} (X : am_C K cX7_scoreAtEnd 5 RX7 "scoreAtEnd" ({ frames := 7, cells := 0, slots := 0, locals := 158 } : Room)) (hL : L7 sh P o) {r : Int32} {I9 : aI} (hR : am_R K (some .int) (some (.int r)) sh P I9 J 0 0) : ∀ (n : Nat) (l1 : Int32) (l2 : Int32) (l3 : Int32) (l4 : Int32) (I : aI) , f_X7_scoreAtEnd_h7 o n l1 l2 l3 l4 I = some (r, I9) → AW K 5 7 [(0, .ref o), (1, .int l1), (2, .int l2), (3, .int l3), (4, .int l4)] [] sh P I J 0 0 := by
  intro n
  induction n with
  | zero =>
    intro l1 l2 l3 l4 I hf
    cases hf
  | succ n ih =>
    intro l1 l2 l3 l4 I hf
    rw [f_X7_scoreAtEnd_h7] at hf
    refine ar_aload_n X dX7_scoreAtEnd_7 rfl 0 rfl ?_
    obtain ⟨r1, h1, hf⟩ := am_b1_e hf
    refine ar_cVi (As := []) (st := []) X dX7_scoreAtEnd_8 (am_X7_nextLot hL h1) lk_X7_89 mt_X7_nextLot mi_X7_nextLot (L7_s0 hL) rfl rfl (Nat.le_of_ble_eq_true rfl) ⟨by decide, by decide⟩ ⟨Nat.zero_le _, Nat.zero_le _⟩ rfl ?_
    refine ar_if_lt (tgt := 56) X dX7_scoreAtEnd_11 (by decide) hf (fun h2 hf => ?_) (fun h2 hf => ?_)
    · refine ar_lo [0, 3] rfl ?_
      exact ab_X7_scoreAtEnd_b56 X hL hR l3 I hf
    · refine ar_iload X dX7_scoreAtEnd_14 4 rfl ?_
      refine ar_aload_n X dX7_scoreAtEnd_16 rfl 0 rfl ?_
      obtain ⟨r3, h3, hf⟩ := am_b1_e hf
      refine ar_cVi (As := []) (st := [.int l4]) X dX7_scoreAtEnd_17 (am_X7_goes hL h3) lk_X7_62 mt_X7_goes mi_X7_goes (L7_s0 hL) rfl rfl (Nat.le_of_ble_eq_true rfl) ⟨by decide, by decide⟩ ⟨Nat.zero_le _, Nat.zero_le _⟩ rfl ?_
      refine ar_if_eq (tgt := 30) X dX7_scoreAtEnd_20 (by decide) hf (fun h4 hf => ?_) (fun h4 hf => ?_)
      · refine ar_aload_n X dX7_scoreAtEnd_30 rfl 0 rfl ?_
        obtain ⟨r5, h5, hf⟩ := am_b1_e hf
        refine ar_cVi (As := []) (st := [.int l4]) X dX7_scoreAtEnd_31 (am_X7_isLastNext hL h5) lk_X7_96 mt_X7_isLastNext mi_X7_isLastNext (L7_s0 hL) rfl rfl (Nat.le_of_ble_eq_true rfl) ⟨by decide, by decide⟩ ⟨Nat.zero_le _, Nat.zero_le _⟩ rfl ?_
        refine ar_if_eq (tgt := 44) X dX7_scoreAtEnd_34 (by decide) hf (fun h6 hf => ?_) (fun h6 hf => ?_)
        · refine ar_aload_n X dX7_scoreAtEnd_44 rfl 0 rfl ?_
          refine ar_iload_n X dX7_scoreAtEnd_45 rfl 1 rfl ?_
          refine ar_iload_n X dX7_scoreAtEnd_46 rfl 2 rfl ?_
          obtain ⟨r7, I7, h7, hf⟩ := am_b2_e hf
          refine ar_cVi (As := [.int l1, .int l2]) (st := [.int l4]) X dX7_scoreAtEnd_47 (am_X7_start hL h7) lk_X7_99 mt_X7_start mi_X7_start (L7_s0 hL) rfl rfl (Nat.le_of_ble_eq_true rfl) ⟨by decide, by decide⟩ ⟨Nat.zero_le _, Nat.zero_le _⟩ rfl ?_
          refine ar_iadd X dX7_scoreAtEnd_50 ?_
          refine ar_letI hf (fun x8 hf => ?_)
          refine ar_istore X dX7_scoreAtEnd_51 (by decide) rfl ?_
          refine ar_goto (tgt := 7) X dX7_scoreAtEnd_53 (by decide) ?_
          refine ar_lo [1, 2, 3, 4, 0] rfl ?_
          exact ih l1 l2 l3 x8 I7 hf
        · refine ar_aload_n X dX7_scoreAtEnd_37 rfl 0 rfl ?_
          obtain ⟨r9, I9, h9, hf⟩ := am_b2_e hf
          refine ar_cVi (As := []) (st := [.int l4]) X dX7_scoreAtEnd_38 (am_X7_giveLast hL h9) lk_X7_160 mt_X7_giveLast mi_X7_giveLast (L7_s0 hL) rfl rfl (Nat.le_of_ble_eq_true rfl) ⟨by decide, by decide⟩ ⟨Nat.zero_le _, Nat.zero_le _⟩ rfl ?_
          refine ar_goto (tgt := 50) X dX7_scoreAtEnd_41 (by decide) ?_
          refine ar_iadd X dX7_scoreAtEnd_50 ?_
          refine ar_letI hf (fun x10 hf => ?_)
          refine ar_istore X dX7_scoreAtEnd_51 (by decide) rfl ?_
          refine ar_goto (tgt := 7) X dX7_scoreAtEnd_53 (by decide) ?_
          refine ar_lo [1, 2, 3, 4, 0] rfl ?_
          exact ih l1 l2 l3 x10 I9 hf
      · refine ar_aload_n X dX7_scoreAtEnd_23 rfl 0 rfl ?_
        obtain ⟨r11, I11, h11, hf⟩ := am_b2_e hf
        refine ar_cVi (As := []) (st := [.int l4]) X dX7_scoreAtEnd_24 (am_X7_makeMove hL h11) lk_X7_157 mt_X7_makeMove mi_X7_makeMove (L7_s0 hL) rfl rfl (Nat.le_of_ble_eq_true rfl) ⟨by decide, by decide⟩ ⟨Nat.zero_le _, Nat.zero_le _⟩ rfl ?_
        refine ar_goto (tgt := 50) X dX7_scoreAtEnd_27 (by decide) ?_
        refine ar_iadd X dX7_scoreAtEnd_50 ?_
        refine ar_letI hf (fun x12 hf => ?_)
        refine ar_istore X dX7_scoreAtEnd_51 (by decide) rfl ?_
        refine ar_goto (tgt := 7) X dX7_scoreAtEnd_53 (by decide) ?_
        refine ar_lo [1, 2, 3, 4, 0] rfl ?_
        exact ih l1 l2 l3 x12 I11 hf
def f_X7_scoreAtEnd (o : Nat) (a1 : Int32) (a2 : Int32) (a3 : Int32) (I : aI) : Option (Int32 × aI) :=
  am_b1 (f_X7_putAside o I) fun I1 =>
  f_X7_scoreAtEnd_h7 o am_F a1 a2 a3 (0 : Int32) I1
set_option maxRecDepth 100000 in
set_option maxHeartbeats 4000000 in
theorem am_X7_scoreAtEnd {sh : aS} {P : aP} {I : aI} {J : aJ} {o : Nat} (hL : L7 sh P o) {a1 : Int32} {a2 : Int32} {a3 : Int32} {r : Int32} {I9 : aI} (hf : f_X7_scoreAtEnd o a1 a2 a3 I = some (r, I9)) : AM yX7_scoreAtEnd cX7_scoreAtEnd 5 (some .int) 7 158 [.ref o, .int a1, .int a2, .int a3] sh P I J (some (.int r)) sh P I9 J 0 0 := by
  refine am_met (by decide +kernel) (Nat.le_of_ble_eq_true rfl) (fun K X hR => ?_)
  have X : am_C K cX7_scoreAtEnd 5 RX7 "scoreAtEnd" ({ frames := 7, cells := 0, slots := 0, locals := 158 } : Room) := X
  show AW K 5 0 [(0, .ref o), (1, .int a1), (2, .int a2), (3, .int a3)] [] sh P I J 0 0
  unfold f_X7_scoreAtEnd at hf
  refine ar_aload_n X dX7_scoreAtEnd_0 rfl 0 rfl ?_
  obtain ⟨I1, h1, hf⟩ := am_b1_e hf
  refine ar_cVv (As := []) (st := []) X dX7_scoreAtEnd_1 (am_X7_putAside hL h1) lk_X7_199 mt_X7_putAside mi_X7_putAside (L7_s0 hL) rfl rfl (Nat.le_of_ble_eq_true rfl) ⟨by decide, by decide⟩ ⟨Nat.zero_le _, Nat.zero_le _⟩ rfl ?_
  refine ar_iconst (v := 0) X dX7_scoreAtEnd_4 (by decide) ?_
  refine ar_istore X dX7_scoreAtEnd_5 (by decide) rfl ?_
  refine ar_lo [1, 2, 3, 4, 0] rfl ?_
  exact ab_X7_scoreAtEnd_h7 X hL hR am_F a1 a2 a3 (0 : Int32) I1 hf
def f_X7_bestMode_b67 (o : Nat) (kh : Int32 → Int32 → Int32 → Int32 → Int32 → aI → Option (Int32 × aI)) (l1 : Int32) (l2 : Int32) (l4 : Int32) (l5 : Int32) (l6 : Int32) (s0 : Int32) (I : aI) : Option (Int32 × aI) :=
  if l6 ≤ l4 then (
    kh l1 l2 s0 l4 (l5 + 1) I)
  else (
    kh l1 l2 s0 l6 (l5 + 1) I)
set_option maxRecDepth 100000 in
set_option maxHeartbeats 4000000 in
theorem ab_X7_bestMode_b67 {K : aK} {sh : aS} {P : aP} {J : aJ} {o : Nat} (X : am_C K cX7_bestMode 7 RX7 "bestMode" ({ frames := 8, cells := 0, slots := 0, locals := 182 } : Room)) (hL : L7 sh P o) {r : Int32} {I9 : aI} (hR : am_R K (some .int) (some (.int r)) sh P I9 J 0 0) {kh : Int32 → Int32 → Int32 → Int32 → Int32 → aI → Option (Int32 × aI)} (hk : ∀ (l1 : Int32) (l2 : Int32) (l3 : Int32) (l4 : Int32) (l5 : Int32) (I : aI) , kh l1 l2 l3 l4 l5 I = some (r, I9) → AW K 7 38 [(0, .ref o), (1, .int l1), (2, .int l2), (3, .int l3), (4, .int l4), (5, .int l5)] [] sh P I J 0 0) (l1 : Int32) (l2 : Int32) (l4 : Int32) (l5 : Int32) (l6 : Int32) (s0 : Int32) (I : aI) (hf : f_X7_bestMode_b67 o kh l1 l2 l4 l5 l6 s0 I = some (r, I9)) : AW K 7 67 [(0, .ref o), (1, .int l1), (2, .int l2), (4, .int l4), (5, .int l5), (6, .int l6)] [.int s0] sh P I J 0 0 := by
  unfold f_X7_bestMode_b67 at hf
  refine ar_istore_n X dX7_bestMode_67 rfl (by decide) rfl ?_
  refine ar_iload X dX7_bestMode_68 6 rfl ?_
  refine ar_iload X dX7_bestMode_70 4 rfl ?_
  refine ar_icmp_le (tgt := 80) X dX7_bestMode_72 (by decide) hf (fun h1 hf => ?_) (fun h1 hf => ?_)
  · refine ar_iload X dX7_bestMode_80 4 rfl ?_
    refine ar_istore X dX7_bestMode_82 (by decide) rfl ?_
    refine ar_iinc (j := 5) (v := (l5 + 1)) X dX7_bestMode_84 rfl rfl (by decide) rfl ?_
    refine ar_goto (tgt := 38) X dX7_bestMode_87 (by decide) ?_
    refine ar_lo [3, 4, 5, 2, 1, 0] rfl ?_
    exact hk l1 l2 s0 l4 (l5 + 1) I hf
  · refine ar_iload X dX7_bestMode_75 6 rfl ?_
    refine ar_goto (tgt := 82) X dX7_bestMode_77 (by decide) ?_
    refine ar_istore X dX7_bestMode_82 (by decide) rfl ?_
    refine ar_iinc (j := 5) (v := (l5 + 1)) X dX7_bestMode_84 rfl rfl (by decide) rfl ?_
    refine ar_goto (tgt := 38) X dX7_bestMode_87 (by decide) ?_
    refine ar_lo [3, 4, 5, 2, 1, 0] rfl ?_
    exact hk l1 l2 s0 l6 (l5 + 1) I hf
def f_X7_bestMode_h38 (o : Nat) : Nat → Int32 → Int32 → Int32 → Int32 → Int32 → aI → Option (Int32 × aI)
  | 0, _, _, _, _, _, _ => none
  | n + 1, l1, l2, l3, l4, l5, I =>
    if (2 : Int32) < l5 then (
      some (l3, I))
    else (
      am_b2 (f_X7_scoreAtEnd o l5 l2 l1 I) fun r2 I2 =>
      if r2 ≤ l4 then (
        f_X7_bestMode_b67 o (f_X7_bestMode_h38 o n) l1 l2 l4 l5 r2 l3 I2)
      else (
        f_X7_bestMode_b67 o (f_X7_bestMode_h38 o n) l1 l2 l4 l5 r2 l5 I2))
set_option maxRecDepth 100000 in
set_option maxHeartbeats 4000000 in
theorem ab_X7_bestMode_h38 {K : aK} {sh : aS} {P : aP} {J : aJ} {o : Nat} (X : am_C K cX7_bestMode 7 RX7 "bestMode" ({ frames := 8, cells := 0, slots := 0, locals := 182 } : Room)) (hL : L7 sh P o) {r : Int32} {I9 : aI} (hR : am_R K (some .int) (some (.int r)) sh P I9 J 0 0) : ∀ (n : Nat) (l1 : Int32) (l2 : Int32) (l3 : Int32) (l4 : Int32) (l5 : Int32) (I : aI) , f_X7_bestMode_h38 o n l1 l2 l3 l4 l5 I = some (r, I9) → AW K 7 38 [(0, .ref o), (1, .int l1), (2, .int l2), (3, .int l3), (4, .int l4), (5, .int l5)] [] sh P I J 0 0 := by
  intro n
  induction n with
  | zero =>
    intro l1 l2 l3 l4 l5 I hf
    cases hf
  | succ n ih =>
    intro l1 l2 l3 l4 l5 I hf
    rw [f_X7_bestMode_h38] at hf
    refine ar_iload X dX7_bestMode_38 5 rfl ?_
    refine ar_iconst (v := 2) X dX7_bestMode_40 (by decide) ?_
    refine ar_icmp_gt (tgt := 90) X dX7_bestMode_41 (by decide) hf (fun h1 hf => ?_) (fun h1 hf => ?_)
    · refine ar_iload_n X dX7_bestMode_90 rfl 3 rfl ?_
      cases hf
      exact ar_iret X dX7_bestMode_91 hR (Nat.le_refl _) (Nat.le_refl _)
    · refine ar_aload_n X dX7_bestMode_44 rfl 0 rfl ?_
      refine ar_iload X dX7_bestMode_45 5 rfl ?_
      refine ar_iload_n X dX7_bestMode_47 rfl 2 rfl ?_
      refine ar_iload_n X dX7_bestMode_48 rfl 1 rfl ?_
      obtain ⟨r2, I2, h2, hf⟩ := am_b2_e hf
      refine ar_cVi (As := [.int l5, .int l2, .int l1]) (st := []) X dX7_bestMode_49 (am_X7_scoreAtEnd hL h2) lk_X7_205 mt_X7_scoreAtEnd mi_X7_scoreAtEnd (L7_s0 hL) rfl rfl (Nat.le_of_ble_eq_true rfl) ⟨by decide, by decide⟩ ⟨Nat.zero_le _, Nat.zero_le _⟩ rfl ?_
      refine ar_istore X dX7_bestMode_52 (by decide) rfl ?_
      refine ar_iload X dX7_bestMode_54 0 rfl ?_
      refine ar_iload X dX7_bestMode_56 5 rfl ?_
      refine ar_icmp_le (tgt := 66) X dX7_bestMode_58 (by decide) hf (fun h3 hf => ?_) (fun h3 hf => ?_)
      · refine ar_iload_n X dX7_bestMode_66 rfl 4 rfl ?_
        refine ar_lo [1, 2, 3, 5, 6, 0] rfl ?_
        exact ab_X7_bestMode_b67 X hL hR ih l1 l2 l4 l5 r2 l3 I2 hf
      · refine ar_iload X dX7_bestMode_61 6 rfl ?_
        refine ar_goto (tgt := 67) X dX7_bestMode_63 (by decide) ?_
        refine ar_lo [1, 2, 3, 5, 6, 0] rfl ?_
        exact ab_X7_bestMode_b67 X hL hR ih l1 l2 l4 l5 r2 l5 I2 hf
def f_X7_bestMode (o : Nat) (a1 : Int32) (a2 : Int32) (I : aI) : Option (Int32 × aI) :=
  am_b1 (f_X7_isPlayer o a1 I) fun r1 =>
  if r1 = 0 then (
    some ((-1 : Int32), I))
  else (
    am_b1 (f_X7_in a2 (1 : Int32) (300 : Int32)) fun r3 =>
    if r3 = 0 then (
      some ((-2 : Int32), I))
    else (
      am_b2 (f_X7_scoreAtEnd o (0 : Int32) a2 a1 I) fun r5 I5 =>
      f_X7_bestMode_h38 o am_F a1 a2 (0 : Int32) r5 (1 : Int32) I5))
set_option maxRecDepth 100000 in
set_option maxHeartbeats 4000000 in
theorem am_X7_bestMode {sh : aS} {P : aP} {I : aI} {J : aJ} {o : Nat} (hL : L7 sh P o) {a1 : Int32} {a2 : Int32} {r : Int32} {I9 : aI} (hf : f_X7_bestMode o a1 a2 I = some (r, I9)) : AM yX7_bestMode cX7_bestMode 7 (some .int) 8 182 [.ref o, .int a1, .int a2] sh P I J (some (.int r)) sh P I9 J 0 0 := by
  refine am_met (by decide +kernel) (Nat.le_of_ble_eq_true rfl) (fun K X hR => ?_)
  have X : am_C K cX7_bestMode 7 RX7 "bestMode" ({ frames := 8, cells := 0, slots := 0, locals := 182 } : Room) := X
  show AW K 7 0 [(0, .ref o), (1, .int a1), (2, .int a2)] [] sh P I J 0 0
  unfold f_X7_bestMode at hf
  refine ar_aload_n X dX7_bestMode_0 rfl 0 rfl ?_
  refine ar_iload_n X dX7_bestMode_1 rfl 1 rfl ?_
  obtain ⟨r1, h1, hf⟩ := am_b1_e hf
  refine ar_cVi (As := [.int a1]) (st := []) X dX7_bestMode_2 (am_X7_isPlayer hL h1) lk_X7_66 mt_X7_isPlayer mi_X7_isPlayer (L7_s0 hL) rfl rfl (Nat.le_of_ble_eq_true rfl) ⟨by decide, by decide⟩ ⟨Nat.zero_le _, Nat.zero_le _⟩ rfl ?_
  refine ar_if_ne (tgt := 10) X dX7_bestMode_5 (by decide) hf (fun h2 hf => ?_) (fun h2 hf => ?_)
  · refine ar_iconst (v := -1) X dX7_bestMode_8 (by decide) ?_
    cases hf
    exact ar_iret X dX7_bestMode_9 hR (Nat.le_refl _) (Nat.le_refl _)
  · refine ar_iload_n X dX7_bestMode_10 rfl 2 rfl ?_
    refine ar_iconst (v := 1) X dX7_bestMode_11 (by decide) ?_
    refine ar_sipush (v := 300) X dX7_bestMode_12 (by decide) ?_
    obtain ⟨r3, h3, hf⟩ := am_b1_e hf
    refine ar_cSi (As := [.int a2, .int (1 : Int32), .int (300 : Int32)]) (st := []) X dX7_bestMode_15 (am_X7_in h3) lk_X7_43 mt_X7_in ms_X7_in rfl (Nat.le_of_ble_eq_true rfl) ⟨by decide, by decide⟩ ⟨Nat.zero_le _, Nat.zero_le _⟩ rfl ?_
    refine ar_if_ne (tgt := 24) X dX7_bestMode_18 (by decide) hf (fun h4 hf => ?_) (fun h4 hf => ?_)
    · refine ar_bipush (v := -2) X dX7_bestMode_21 (by decide) ?_
      cases hf
      exact ar_iret X dX7_bestMode_23 hR (Nat.le_refl _) (Nat.le_refl _)
    · refine ar_iconst (v := 0) X dX7_bestMode_24 (by decide) ?_
      refine ar_istore_n X dX7_bestMode_25 rfl (by decide) rfl ?_
      refine ar_aload_n X dX7_bestMode_26 rfl 1 rfl ?_
      refine ar_iconst (v := 0) X dX7_bestMode_27 (by decide) ?_
      refine ar_iload_n X dX7_bestMode_28 rfl 3 rfl ?_
      refine ar_iload_n X dX7_bestMode_29 rfl 2 rfl ?_
      obtain ⟨r5, I5, h5, hf⟩ := am_b2_e hf
      refine ar_cVi (As := [.int (0 : Int32), .int a2, .int a1]) (st := []) X dX7_bestMode_30 (am_X7_scoreAtEnd hL h5) lk_X7_205 mt_X7_scoreAtEnd mi_X7_scoreAtEnd (L7_s0 hL) rfl rfl (Nat.le_of_ble_eq_true rfl) ⟨by decide, by decide⟩ ⟨Nat.zero_le _, Nat.zero_le _⟩ rfl ?_
      refine ar_istore X dX7_bestMode_33 (by decide) rfl ?_
      refine ar_iconst (v := 1) X dX7_bestMode_35 (by decide) ?_
      refine ar_istore X dX7_bestMode_36 (by decide) rfl ?_
      refine ar_lo [3, 4, 5, 2, 1, 0] rfl ?_
      exact ab_X7_bestMode_h38 X hL hR am_F a1 a2 (0 : Int32) r5 (1 : Int32) I5 hf
def f_X7_isBid (o : Nat) (a1 : Int32) (a2 : Int32) (I : aI) : Option Int32 :=
  am_b1 (f_X7_of o a1 (0 : Int32) I) fun r1 =>
  if (I (o + 1) 4) = (0 : Int32) then (
    am_b1 (f_X7_leastOpen o I) fun r3 =>
    am_b1 (f_X7_in a2 r3 r1) fun r4 =>
    am_g (am_zk r4) (some r4))
  else if (I (o + 1) 4) = (1 : Int32) then (
    am_b1 (f_X7_in a2 (0 : Int32) r1) fun r7 =>
    am_g (am_zk r7) (some r7))
  else (
    if a2 = (I (o + 1) 5) then (
    if r1 < a2 then (
      some (0 : Int32))
    else (
      some (1 : Int32)))
  else (
    some (0 : Int32)))
set_option maxRecDepth 100000 in
set_option maxHeartbeats 4000000 in
theorem am_X7_isBid {sh : aS} {P : aP} {I : aI} {J : aJ} {o : Nat} (hL : L7 sh P o) {a1 : Int32} {a2 : Int32} {r : Int32} (hf : f_X7_isBid o a1 a2 I = some r) : AM yX7_isBid cX7_isBid 4 (some .boolean) 2 41 [.ref o, .int a1, .int a2] sh P I J (some (.int r)) sh P I J 0 0 := by
  refine am_met (by decide +kernel) (Nat.le_of_ble_eq_true rfl) (fun K X hR => ?_)
  have X : am_C K cX7_isBid 4 RX7 "isBid" ({ frames := 2, cells := 0, slots := 0, locals := 41 } : Room) := X
  show AW K 4 0 [(0, .ref o), (1, .int a1), (2, .int a2)] [] sh P I J 0 0
  unfold f_X7_isBid at hf
  refine ar_aload_n X dX7_isBid_0 rfl 0 rfl ?_
  refine ar_iload_n X dX7_isBid_1 rfl 1 rfl ?_
  refine ar_iconst (v := 0) X dX7_isBid_2 (by decide) ?_
  obtain ⟨r1, h1, hf⟩ := am_b1_e hf
  refine ar_cVi (As := [.int a1, .int (0 : Int32)]) (st := []) X dX7_isBid_3 (am_X7_of hL h1) lk_X7_70 mt_X7_of mi_X7_of (L7_s0 hL) rfl rfl (Nat.le_of_ble_eq_true rfl) ⟨by decide, by decide⟩ ⟨Nat.zero_le _, Nat.zero_le _⟩ rfl ?_
  refine ar_istore_n X dX7_isBid_6 rfl (by decide) rfl ?_
  refine ar_aload_n X dX7_isBid_7 rfl 1 rfl ?_
  refine ar_getr X dX7_isBid_8 fg_X7_7 rfl (L7_s0 hL) (L7_p0_0 hL) ?_
  refine ar_iconst (v := 4) X dX7_isBid_11 (by decide) ?_
  refine ar_ialdK (k := 4) X dX7_isBid_12 (L7_s1 hL) (by decide) (by decide) ?_
  rcases am_ite hf with ⟨h2, hf⟩ | ⟨h2, hf⟩
  · refine ar_lookup (tgt := 40) X dX7_isBid_13 (by decide) (by rw [h2] <;> rfl) (by decide) ?_
    refine ar_iload_n X dX7_isBid_40 rfl 3 rfl ?_
    refine ar_aload_n X dX7_isBid_41 rfl 1 rfl ?_
    obtain ⟨r3, h3, hf⟩ := am_b1_e hf
    refine ar_cVi (As := []) (st := [.int a2]) X dX7_isBid_42 (am_X7_leastOpen hL h3) lk_X7_124 mt_X7_leastOpen mi_X7_leastOpen (L7_s0 hL) rfl rfl (Nat.le_of_ble_eq_true rfl) ⟨by decide, by decide⟩ ⟨Nat.zero_le _, Nat.zero_le _⟩ rfl ?_
    refine ar_iload_n X dX7_isBid_45 rfl 0 rfl ?_
    obtain ⟨r4, h4, hf⟩ := am_b1_e hf
    refine ar_cSi (As := [.int a2, .int r3, .int r1]) (st := []) X dX7_isBid_46 (am_X7_in h4) lk_X7_43 mt_X7_in ms_X7_in rfl (Nat.le_of_ble_eq_true rfl) ⟨by decide, by decide⟩ ⟨Nat.zero_le _, Nat.zero_le _⟩ rfl ?_
    obtain ⟨h5, hf⟩ := am_g_elim hf
    cases hf
    exact ar_zret X dX7_isBid_49 (am_zn h5).1 hR (Nat.le_refl _) (Nat.le_refl _)
  rcases am_ite hf with ⟨h6, hf⟩ | ⟨h6, hf⟩
  · refine ar_lookup (tgt := 50) X dX7_isBid_13 (by decide) (by rw [h6] <;> rfl) (by decide) ?_
    refine ar_iload_n X dX7_isBid_50 rfl 3 rfl ?_
    refine ar_iconst (v := 0) X dX7_isBid_51 (by decide) ?_
    refine ar_iload_n X dX7_isBid_52 rfl 0 rfl ?_
    obtain ⟨r7, h7, hf⟩ := am_b1_e hf
    refine ar_cSi (As := [.int a2, .int (0 : Int32), .int r1]) (st := []) X dX7_isBid_53 (am_X7_in h7) lk_X7_43 mt_X7_in ms_X7_in rfl (Nat.le_of_ble_eq_true rfl) ⟨by decide, by decide⟩ ⟨Nat.zero_le _, Nat.zero_le _⟩ rfl ?_
    obtain ⟨h8, hf⟩ := am_g_elim hf
    cases hf
    exact ar_zret X dX7_isBid_56 (am_zn h8).1 hR (Nat.le_refl _) (Nat.le_refl _)
  refine ar_lookup (tgt := 57) (off := 44) X dX7_isBid_13 (by decide) ?_ (by decide) ?_
  · simp only [Op.lookupswitch.offset]
    have h2' : ¬ (I (o + 1) 4).toInt = 0 := fun h => h2 (Int32.toInt_inj.mp h)
    have h2'' : ¬ 0 = (I (o + 1) 4).toInt := fun h => h2' h.symm
    have h6' : ¬ (I (o + 1) 4).toInt = 1 := fun h => h6 (Int32.toInt_inj.mp h)
    have h6'' : ¬ 1 = (I (o + 1) 4).toInt := fun h => h6' h.symm
    simp [h2', h2'', h6', h6'']
  refine ar_iload_n X dX7_isBid_57 rfl 3 rfl ?_
  refine ar_aload_n X dX7_isBid_58 rfl 1 rfl ?_
  refine ar_getr X dX7_isBid_59 fg_X7_7 rfl (L7_s0 hL) (L7_p0_0 hL) ?_
  refine ar_iconst (v := 5) X dX7_isBid_62 (by decide) ?_
  refine ar_ialdK (k := 5) X dX7_isBid_63 (L7_s1 hL) (by decide) (by decide) ?_
  refine ar_icmp_ne (tgt := 76) X dX7_isBid_64 (by decide) hf (fun h9 hf => ?_) (fun h9 hf => ?_)
  · refine ar_iload_n X dX7_isBid_67 rfl 3 rfl ?_
    refine ar_iload_n X dX7_isBid_68 rfl 0 rfl ?_
    refine ar_icmp_gt (tgt := 76) X dX7_isBid_69 (by decide) hf (fun h10 hf => ?_) (fun h10 hf => ?_)
    · refine ar_iconst (v := 0) X dX7_isBid_76 (by decide) ?_
      cases hf
      exact ar_zret X dX7_isBid_77 rfl hR (Nat.le_refl _) (Nat.le_refl _)
    · refine ar_iconst (v := 1) X dX7_isBid_72 (by decide) ?_
      refine ar_goto (tgt := 77) X dX7_isBid_73 (by decide) ?_
      cases hf
      exact ar_zret X dX7_isBid_77 rfl hR (Nat.le_refl _) (Nat.le_refl _)
  · refine ar_iconst (v := 0) X dX7_isBid_76 (by decide) ?_
    cases hf
    exact ar_zret X dX7_isBid_77 rfl hR (Nat.le_refl _) (Nat.le_refl _)
def f_X7_bid_b52 (o : Nat) (l1 : Int32) (l2 : Int32) (I : aI) : Option (Int32 × aI) :=
  am_b1 (f_X7_isBid o l1 l2 I) fun r1 =>
  if r1 = 0 then (
    some ((-2 : Int32), I))
  else (
    if (I (o + 1) 4) = 0 then (
      am_b2 (f_X7_bidOpen o l1 l2 I) fun r4 I4 =>
      some (r4, I4))
    else (
      if (I (o + 1) 4) = (1 : Int32) then (
        am_b2 (f_X7_bidSealed o l1 l2 I) fun r6 I6 =>
        some (r6, I6))
      else (
        am_b2 (f_X7_claim o l1 I) fun r7 I7 =>
        some (r7, I7))))
set_option maxRecDepth 100000 in
set_option maxHeartbeats 4000000 in
theorem ab_X7_bid_b52 {K : aK} {sh : aS} {P : aP} {J : aJ} {o : Nat} (X : am_C K cX7_bid 3 RX7 "bid" ({ frames := 6, cells := 0, slots := 0, locals := 135 } : Room)) (hL : L7 sh P o) {r : Int32} {I9 : aI} (hR : am_R K (some .int) (some (.int r)) sh P I9 J 0 0) (l1 : Int32) (l2 : Int32) (I : aI) (hf : f_X7_bid_b52 o l1 l2 I = some (r, I9)) : AW K 3 52 [(0, .ref o), (1, .int l1), (2, .int l2)] [] sh P I J 0 0 := by
  unfold f_X7_bid_b52 at hf
  refine ar_aload_n X dX7_bid_52 rfl 0 rfl ?_
  refine ar_iload_n X dX7_bid_53 rfl 1 rfl ?_
  refine ar_iload_n X dX7_bid_54 rfl 2 rfl ?_
  obtain ⟨r1, h1, hf⟩ := am_b1_e hf
  refine ar_cVi (As := [.int l1, .int l2]) (st := []) X dX7_bid_55 (am_X7_isBid hL h1) lk_X7_127 mt_X7_isBid mi_X7_isBid (L7_s0 hL) rfl rfl (Nat.le_of_ble_eq_true rfl) ⟨by decide, by decide⟩ ⟨Nat.zero_le _, Nat.zero_le _⟩ rfl ?_
  refine ar_if_ne (tgt := 64) X dX7_bid_58 (by decide) hf (fun h2 hf => ?_) (fun h2 hf => ?_)
  · refine ar_bipush (v := -2) X dX7_bid_61 (by decide) ?_
    cases hf
    exact ar_iret X dX7_bid_63 hR (Nat.le_refl _) (Nat.le_refl _)
  · refine ar_aload_n X dX7_bid_64 rfl 0 rfl ?_
    refine ar_getr X dX7_bid_65 fg_X7_7 rfl (L7_s0 hL) (L7_p0_0 hL) ?_
    refine ar_iconst (v := 4) X dX7_bid_68 (by decide) ?_
    refine ar_ialdK (k := 4) X dX7_bid_69 (L7_s1 hL) (by decide) (by decide) ?_
    refine ar_if_ne (tgt := 82) X dX7_bid_70 (by decide) hf (fun h3 hf => ?_) (fun h3 hf => ?_)
    · refine ar_aload_n X dX7_bid_73 rfl 0 rfl ?_
      refine ar_iload_n X dX7_bid_74 rfl 1 rfl ?_
      refine ar_iload_n X dX7_bid_75 rfl 2 rfl ?_
      obtain ⟨r4, I4, h4, hf⟩ := am_b2_e hf
      refine ar_cVi (As := [.int l1, .int l2]) (st := []) X dX7_bid_76 (am_X7_bidOpen hL h4) lk_X7_130 mt_X7_bidOpen mi_X7_bidOpen (L7_s0 hL) rfl rfl (Nat.le_of_ble_eq_true rfl) ⟨by decide, by decide⟩ ⟨Nat.zero_le _, Nat.zero_le _⟩ rfl ?_
      refine ar_goto (tgt := 106) X dX7_bid_79 (by decide) ?_
      cases hf
      exact ar_iret X dX7_bid_106 hR (Nat.le_refl _) (Nat.le_refl _)
    · refine ar_aload_n X dX7_bid_82 rfl 0 rfl ?_
      refine ar_getr X dX7_bid_83 fg_X7_7 rfl (L7_s0 hL) (L7_p0_0 hL) ?_
      refine ar_iconst (v := 4) X dX7_bid_86 (by decide) ?_
      refine ar_ialdK (k := 4) X dX7_bid_87 (L7_s1 hL) (by decide) (by decide) ?_
      refine ar_iconst (v := 1) X dX7_bid_88 (by decide) ?_
      refine ar_icmp_ne (tgt := 101) X dX7_bid_89 (by decide) hf (fun h5 hf => ?_) (fun h5 hf => ?_)
      · refine ar_aload_n X dX7_bid_92 rfl 0 rfl ?_
        refine ar_iload_n X dX7_bid_93 rfl 1 rfl ?_
        refine ar_iload_n X dX7_bid_94 rfl 2 rfl ?_
        obtain ⟨r6, I6, h6, hf⟩ := am_b2_e hf
        refine ar_cVi (As := [.int l1, .int l2]) (st := []) X dX7_bid_95 (am_X7_bidSealed hL h6) lk_X7_133 mt_X7_bidSealed mi_X7_bidSealed (L7_s0 hL) rfl rfl (Nat.le_of_ble_eq_true rfl) ⟨by decide, by decide⟩ ⟨Nat.zero_le _, Nat.zero_le _⟩ rfl ?_
        refine ar_goto (tgt := 106) X dX7_bid_98 (by decide) ?_
        cases hf
        exact ar_iret X dX7_bid_106 hR (Nat.le_refl _) (Nat.le_refl _)
      · refine ar_aload_n X dX7_bid_101 rfl 0 rfl ?_
        refine ar_iload_n X dX7_bid_102 rfl 1 rfl ?_
        obtain ⟨r7, I7, h7, hf⟩ := am_b2_e hf
        refine ar_cVi (As := [.int l1]) (st := []) X dX7_bid_103 (am_X7_claim hL h7) lk_X7_136 mt_X7_claim mi_X7_claim (L7_s0 hL) rfl rfl (Nat.le_of_ble_eq_true rfl) ⟨by decide, by decide⟩ ⟨Nat.zero_le _, Nat.zero_le _⟩ rfl ?_
        cases hf
        exact ar_iret X dX7_bid_106 hR (Nat.le_refl _) (Nat.le_refl _)
def f_X7_bid (o : Nat) (a1 : Int32) (a2 : Int32) (I : aI) : Option (Int32 × aI) :=
  am_b1 (f_X7_isPlayer o a1 I) fun r1 =>
  if r1 = 0 then (
    some ((-1 : Int32), I))
  else (
    am_b1 (f_X7_goes o I) fun r3 =>
    if r3 = 0 then (
      some ((-5 : Int32), I))
    else (
      if (I (o + 1) 4) = 0 then (
        if (I (o + 1) 8) = a1 then (
          f_X7_bid_b52 o a1 a2 I)
        else (
          some ((-5 : Int32), I)))
      else (
        am_b1 (f_X7_of o a1 (5 : Int32) I) fun r7 =>
        if r7 < 0 then (
          f_X7_bid_b52 o a1 a2 I)
        else (
          some ((-5 : Int32), I)))))
set_option maxRecDepth 100000 in
set_option maxHeartbeats 4000000 in
theorem am_X7_bid {sh : aS} {P : aP} {I : aI} {J : aJ} {o : Nat} (hL : L7 sh P o) {a1 : Int32} {a2 : Int32} {r : Int32} {I9 : aI} (hf : f_X7_bid o a1 a2 I = some (r, I9)) : AM yX7_bid cX7_bid 3 (some .int) 6 135 [.ref o, .int a1, .int a2] sh P I J (some (.int r)) sh P I9 J 0 0 := by
  refine am_met (by decide +kernel) (Nat.le_of_ble_eq_true rfl) (fun K X hR => ?_)
  have X : am_C K cX7_bid 3 RX7 "bid" ({ frames := 6, cells := 0, slots := 0, locals := 135 } : Room) := X
  show AW K 3 0 [(0, .ref o), (1, .int a1), (2, .int a2)] [] sh P I J 0 0
  unfold f_X7_bid at hf
  refine ar_aload_n X dX7_bid_0 rfl 0 rfl ?_
  refine ar_iload_n X dX7_bid_1 rfl 1 rfl ?_
  obtain ⟨r1, h1, hf⟩ := am_b1_e hf
  refine ar_cVi (As := [.int a1]) (st := []) X dX7_bid_2 (am_X7_isPlayer hL h1) lk_X7_66 mt_X7_isPlayer mi_X7_isPlayer (L7_s0 hL) rfl rfl (Nat.le_of_ble_eq_true rfl) ⟨by decide, by decide⟩ ⟨Nat.zero_le _, Nat.zero_le _⟩ rfl ?_
  refine ar_if_ne (tgt := 10) X dX7_bid_5 (by decide) hf (fun h2 hf => ?_) (fun h2 hf => ?_)
  · refine ar_iconst (v := -1) X dX7_bid_8 (by decide) ?_
    cases hf
    exact ar_iret X dX7_bid_9 hR (Nat.le_refl _) (Nat.le_refl _)
  · refine ar_aload_n X dX7_bid_10 rfl 0 rfl ?_
    obtain ⟨r3, h3, hf⟩ := am_b1_e hf
    refine ar_cVi (As := []) (st := []) X dX7_bid_11 (am_X7_goes hL h3) lk_X7_62 mt_X7_goes mi_X7_goes (L7_s0 hL) rfl rfl (Nat.le_of_ble_eq_true rfl) ⟨by decide, by decide⟩ ⟨Nat.zero_le _, Nat.zero_le _⟩ rfl ?_
    refine ar_if_eq (tgt := 49) X dX7_bid_14 (by decide) hf (fun h4 hf => ?_) (fun h4 hf => ?_)
    · refine ar_bipush (v := -5) X dX7_bid_49 (by decide) ?_
      cases hf
      exact ar_iret X dX7_bid_51 hR (Nat.le_refl _) (Nat.le_refl _)
    · refine ar_aload_n X dX7_bid_17 rfl 0 rfl ?_
      refine ar_getr X dX7_bid_18 fg_X7_7 rfl (L7_s0 hL) (L7_p0_0 hL) ?_
      refine ar_iconst (v := 4) X dX7_bid_21 (by decide) ?_
      refine ar_ialdK (k := 4) X dX7_bid_22 (L7_s1 hL) (by decide) (by decide) ?_
      refine ar_if_ne (tgt := 40) X dX7_bid_23 (by decide) hf (fun h5 hf => ?_) (fun h5 hf => ?_)
      · refine ar_aload_n X dX7_bid_26 rfl 0 rfl ?_
        refine ar_getr X dX7_bid_27 fg_X7_7 rfl (L7_s0 hL) (L7_p0_0 hL) ?_
        refine ar_bipush (v := 8) X dX7_bid_30 (by decide) ?_
        refine ar_ialdK (k := 8) X dX7_bid_32 (L7_s1 hL) (by decide) (by decide) ?_
        refine ar_iload_n X dX7_bid_33 rfl 1 rfl ?_
        refine ar_icmp_eq (tgt := 52) X dX7_bid_34 (by decide) hf (fun h6 hf => ?_) (fun h6 hf => ?_)
        · exact ab_X7_bid_b52 X hL hR a1 a2 I hf
        · refine ar_goto (tgt := 49) X dX7_bid_37 (by decide) ?_
          refine ar_bipush (v := -5) X dX7_bid_49 (by decide) ?_
          cases hf
          exact ar_iret X dX7_bid_51 hR (Nat.le_refl _) (Nat.le_refl _)
      · refine ar_aload_n X dX7_bid_40 rfl 0 rfl ?_
        refine ar_iload_n X dX7_bid_41 rfl 1 rfl ?_
        refine ar_iconst (v := 5) X dX7_bid_42 (by decide) ?_
        obtain ⟨r7, h7, hf⟩ := am_b1_e hf
        refine ar_cVi (As := [.int a1, .int (5 : Int32)]) (st := []) X dX7_bid_43 (am_X7_of hL h7) lk_X7_70 mt_X7_of mi_X7_of (L7_s0 hL) rfl rfl (Nat.le_of_ble_eq_true rfl) ⟨by decide, by decide⟩ ⟨Nat.zero_le _, Nat.zero_le _⟩ rfl ?_
        refine ar_if_lt (tgt := 52) X dX7_bid_46 (by decide) hf (fun h8 hf => ?_) (fun h8 hf => ?_)
        · exact ab_X7_bid_b52 X hL hR a1 a2 I hf
        · refine ar_bipush (v := -5) X dX7_bid_49 (by decide) ?_
          cases hf
          exact ar_iret X dX7_bid_51 hR (Nat.le_refl _) (Nat.le_refl _)
def f_X7_canPay_h49 (o : Nat) : Nat → Int32 → Int32 → Int32 → Int64 → Int32 → aI → aJ → Option (Int64 × aJ)
  | 0, _, _, _, _, _, _, _ => none
  | n + 1, l1, l2, l3, l4, l6, I, J =>
    am_b1 (f_X7_of o l1 (4 : Int32) I) fun r1 =>
    if r1 < l6 then (
      some (l4, J))
    else (
      if l3 < l6 then (
        some (l4, J))
      else (
        if l6 < l2 then (
          am_let (l4 + (0 : Int64)) fun x5 =>
          f_X7_canPay_h49 o n l1 l2 l3 x5 (l6 + 1) I J)
        else (
          am_g (am_ok (l3 - l6) 1801) (
          am_let (l4 + (J (o + 7) (Int32.toNatClampNeg (l3 - l6)))) fun x6 =>
          f_X7_canPay_h49 o n l1 l2 l3 x6 (l6 + 1) I J))))
set_option maxRecDepth 100000 in
set_option maxHeartbeats 4000000 in
theorem ab_X7_canPay_h49 {K : aK} {sh : aS} {P : aP} {I : aI} {o : Nat} (X : am_C K cX7_canPay 7 RX7 "canPay" ({ frames := 2, cells := 0, slots := 0, locals := 47 } : Room)) (hL : L7 sh P o) {r : Int64} {J9 : aJ} (hR : am_R K (some .long) (some (.long r)) sh P I J9 0 0) : ∀ (n : Nat) (l1 : Int32) (l2 : Int32) (l3 : Int32) (l4 : Int64) (l6 : Int32) (J : aJ) , f_X7_canPay_h49 o n l1 l2 l3 l4 l6 I J = some (r, J9) → AW K 7 49 [(0, .ref o), (1, .int l1), (2, .int l2), (3, .int l3), (4, .long l4), (6, .int l6)] [] sh P I J 0 0 := by
  intro n
  induction n with
  | zero =>
    intro l1 l2 l3 l4 l6 J hf
    cases hf
  | succ n ih =>
    intro l1 l2 l3 l4 l6 J hf
    rw [f_X7_canPay_h49] at hf
    refine ar_iload X dX7_canPay_49 5 rfl ?_
    refine ar_aload_n X dX7_canPay_51 rfl 0 rfl ?_
    refine ar_iload_n X dX7_canPay_52 rfl 1 rfl ?_
    refine ar_iconst (v := 4) X dX7_canPay_53 (by decide) ?_
    obtain ⟨r1, h1, hf⟩ := am_b1_e hf
    refine ar_cVi (As := [.int l1, .int (4 : Int32)]) (st := [.int l6]) X dX7_canPay_54 (am_X7_of hL h1) lk_X7_70 mt_X7_of mi_X7_of (L7_s0 hL) rfl rfl (Nat.le_of_ble_eq_true rfl) ⟨by decide, by decide⟩ ⟨Nat.zero_le _, Nat.zero_le _⟩ rfl ?_
    refine ar_icmp_gt (tgt := 96) X dX7_canPay_57 (by decide) hf (fun h2 hf => ?_) (fun h2 hf => ?_)
    · refine ar_lload X dX7_canPay_96 4 rfl ?_
      cases hf
      exact ar_lret X dX7_canPay_98 hR (Nat.le_refl _) (Nat.le_refl _)
    · refine ar_iload X dX7_canPay_60 5 rfl ?_
      refine ar_iload_n X dX7_canPay_62 rfl 3 rfl ?_
      refine ar_icmp_gt (tgt := 96) X dX7_canPay_63 (by decide) hf (fun h3 hf => ?_) (fun h3 hf => ?_)
      · refine ar_lload X dX7_canPay_96 4 rfl ?_
        cases hf
        exact ar_lret X dX7_canPay_98 hR (Nat.le_refl _) (Nat.le_refl _)
      · refine ar_lload X dX7_canPay_66 4 rfl ?_
        refine ar_iload X dX7_canPay_68 5 rfl ?_
        refine ar_iload_n X dX7_canPay_70 rfl 2 rfl ?_
        refine ar_icmp_lt (tgt := 86) X dX7_canPay_71 (by decide) hf (fun h4 hf => ?_) (fun h4 hf => ?_)
        · refine ar_lconst (v := 0) X dX7_canPay_86 (by decide) ?_
          refine ar_ladd X dX7_canPay_87 ?_
          refine ar_letL hf (fun x5 hf => ?_)
          refine ar_lstore X dX7_canPay_88 (by decide) rfl ?_
          refine ar_iinc (j := 5) (v := (l6 + 1)) X dX7_canPay_90 rfl rfl (by decide) rfl ?_
          refine ar_goto (tgt := 49) X dX7_canPay_93 (by decide) ?_
          refine ar_lo [2, 3, 4, 5, 1, 0] rfl ?_
          exact ih l1 l2 l3 x5 (l6 + 1) J hf
        · refine ar_aload_n X dX7_canPay_74 rfl 0 rfl ?_
          refine ar_getr X dX7_canPay_75 fg_X7_29 rfl (L7_s0 hL) (L7_p0_7 hL) ?_
          refine ar_iload_n X dX7_canPay_78 rfl 3 rfl ?_
          refine ar_iload X dX7_canPay_79 5 rfl ?_
          refine ar_isub X dX7_canPay_81 ?_
          refine ar_lald X dX7_canPay_82 (L7_s7 hL) hf (fun hf => ?_)
          refine ar_goto (tgt := 87) X dX7_canPay_83 (by decide) ?_
          refine ar_ladd X dX7_canPay_87 ?_
          refine ar_letL hf (fun x6 hf => ?_)
          refine ar_lstore X dX7_canPay_88 (by decide) rfl ?_
          refine ar_iinc (j := 5) (v := (l6 + 1)) X dX7_canPay_90 rfl rfl (by decide) rfl ?_
          refine ar_goto (tgt := 49) X dX7_canPay_93 (by decide) ?_
          refine ar_lo [2, 3, 4, 5, 1, 0] rfl ?_
          exact ih l1 l2 l3 x6 (l6 + 1) J hf
def f_X7_canPay (o : Nat) (a1 : Int32) (a2 : Int32) (I : aI) (J : aJ) : Option (Int64 × aJ) :=
  am_b1 (f_X7_isPlayer o a1 I) fun r1 =>
  if r1 = 0 then (
    some ((-1 : Int64), J))
  else (
    am_b1 (f_X7_in a2 (0 : Int32) (300 : Int32)) fun r3 =>
    if r3 = 0 then (
      some ((-2 : Int64), J))
    else (
      am_b1 (f_X7_layWays o a1 I J) fun J5 =>
      am_b1 (f_X7_sumOf o (0 : Int32) I) fun r6 =>
      am_b1 (f_X7_of o a1 (3 : Int32) I) fun r7 =>
      f_X7_canPay_h49 o am_F a1 a2 r6 (0 : Int64) r7 I J5))
set_option maxRecDepth 100000 in
set_option maxHeartbeats 4000000 in
theorem am_X7_canPay {sh : aS} {P : aP} {I : aI} {J : aJ} {o : Nat} (hL : L7 sh P o) {a1 : Int32} {a2 : Int32} {r : Int64} {J9 : aJ} (hf : f_X7_canPay o a1 a2 I J = some (r, J9)) : AM yX7_canPay cX7_canPay 7 (some .long) 2 47 [.ref o, .int a1, .int a2] sh P I J (some (.long r)) sh P I J9 0 0 := by
  refine am_met (by decide +kernel) (Nat.le_of_ble_eq_true rfl) (fun K X hR => ?_)
  have X : am_C K cX7_canPay 7 RX7 "canPay" ({ frames := 2, cells := 0, slots := 0, locals := 47 } : Room) := X
  show AW K 7 0 [(0, .ref o), (1, .int a1), (2, .int a2)] [] sh P I J 0 0
  unfold f_X7_canPay at hf
  refine ar_aload_n X dX7_canPay_0 rfl 0 rfl ?_
  refine ar_iload_n X dX7_canPay_1 rfl 1 rfl ?_
  obtain ⟨r1, h1, hf⟩ := am_b1_e hf
  refine ar_cVi (As := [.int a1]) (st := []) X dX7_canPay_2 (am_X7_isPlayer hL h1) lk_X7_66 mt_X7_isPlayer mi_X7_isPlayer (L7_s0 hL) rfl rfl (Nat.le_of_ble_eq_true rfl) ⟨by decide, by decide⟩ ⟨Nat.zero_le _, Nat.zero_le _⟩ rfl ?_
  refine ar_if_ne (tgt := 12) X dX7_canPay_5 (by decide) hf (fun h2 hf => ?_) (fun h2 hf => ?_)
  · refine ar_ldc2 X dX7_canPay_8 ct_X7_195 ?_
    cases hf
    exact ar_lret X dX7_canPay_11 hR (Nat.le_refl _) (Nat.le_refl _)
  · refine ar_iload_n X dX7_canPay_12 rfl 2 rfl ?_
    refine ar_iconst (v := 0) X dX7_canPay_13 (by decide) ?_
    refine ar_sipush (v := 300) X dX7_canPay_14 (by decide) ?_
    obtain ⟨r3, h3, hf⟩ := am_b1_e hf
    refine ar_cSi (As := [.int a2, .int (0 : Int32), .int (300 : Int32)]) (st := []) X dX7_canPay_17 (am_X7_in h3) lk_X7_43 mt_X7_in ms_X7_in rfl (Nat.le_of_ble_eq_true rfl) ⟨by decide, by decide⟩ ⟨Nat.zero_le _, Nat.zero_le _⟩ rfl ?_
    refine ar_if_ne (tgt := 27) X dX7_canPay_20 (by decide) hf (fun h4 hf => ?_) (fun h4 hf => ?_)
    · refine ar_ldc2 X dX7_canPay_23 ct_X7_197 ?_
      cases hf
      exact ar_lret X dX7_canPay_26 hR (Nat.le_refl _) (Nat.le_refl _)
    · refine ar_aload_n X dX7_canPay_27 rfl 0 rfl ?_
      refine ar_iload_n X dX7_canPay_28 rfl 1 rfl ?_
      obtain ⟨J5, h5, hf⟩ := am_b1_e hf
      refine ar_cVv (As := [.int a1]) (st := []) X dX7_canPay_29 (am_X7_layWays hL h5) lk_X7_185 mt_X7_layWays mi_X7_layWays (L7_s0 hL) rfl rfl (Nat.le_of_ble_eq_true rfl) ⟨by decide, by decide⟩ ⟨Nat.zero_le _, Nat.zero_le _⟩ rfl ?_
      refine ar_aload_n X dX7_canPay_32 rfl 0 rfl ?_
      refine ar_iconst (v := 0) X dX7_canPay_33 (by decide) ?_
      obtain ⟨r6, h6, hf⟩ := am_b1_e hf
      refine ar_cVi (As := [.int (0 : Int32)]) (st := []) X dX7_canPay_34 (am_X7_sumOf hL h6) lk_X7_175 mt_X7_sumOf mi_X7_sumOf (L7_s0 hL) rfl rfl (Nat.le_of_ble_eq_true rfl) ⟨by decide, by decide⟩ ⟨Nat.zero_le _, Nat.zero_le _⟩ rfl ?_
      refine ar_istore_n X dX7_canPay_37 rfl (by decide) rfl ?_
      refine ar_lconst (v := 0) X dX7_canPay_38 (by decide) ?_
      refine ar_lstore X dX7_canPay_39 (by decide) rfl ?_
      refine ar_aload_n X dX7_canPay_41 rfl 2 rfl ?_
      refine ar_iload_n X dX7_canPay_42 rfl 3 rfl ?_
      refine ar_iconst (v := 3) X dX7_canPay_43 (by decide) ?_
      obtain ⟨r7, h7, hf⟩ := am_b1_e hf
      refine ar_cVi (As := [.int a1, .int (3 : Int32)]) (st := []) X dX7_canPay_44 (am_X7_of hL h7) lk_X7_70 mt_X7_of mi_X7_of (L7_s0 hL) rfl rfl (Nat.le_of_ble_eq_true rfl) ⟨by decide, by decide⟩ ⟨Nat.zero_le _, Nat.zero_le _⟩ rfl ?_
      refine ar_istore X dX7_canPay_47 (by decide) rfl ?_
      refine ar_lo [3, 4, 5, 2, 1, 0] rfl ?_
      exact ab_X7_canPay_h49 X hL hR am_F a1 a2 r6 (0 : Int64) r7 J5 hf
def f_X7_next (o : Nat)  (I : aI) : Option Int32 :=
  if (I o 5) ≤ (I o 9) then (
    some (0 : Int32))
  else (
    am_g (am_ok (I o 9) 60) (
    some (I (o + 5) (Int32.toNatClampNeg (I o 9)))))
set_option maxRecDepth 100000 in
set_option maxHeartbeats 4000000 in
theorem am_X7_next {sh : aS} {P : aP} {I : aI} {J : aJ} {o : Nat} (hL : L7 sh P o)  {r : Int32} (hf : f_X7_next o I = some r) : AM yX7_next cX7_next 1 (some .int) 0 0 [.ref o] sh P I J (some (.int r)) sh P I J 0 0 := by
  refine am_met (by decide +kernel) (Nat.le_of_ble_eq_true rfl) (fun K X hR => ?_)
  have X : am_C K cX7_next 1 RX7 "next" ({ frames := 0, cells := 0, slots := 0, locals := 0 } : Room) := X
  show AW K 1 0 [(0, .ref o)] [] sh P I J 0 0
  unfold f_X7_next at hf
  refine ar_aload_n X dX7_next_0 rfl 0 rfl ?_
  refine ar_geti X dX7_next_1 fg_X7_211 rfl (L7_s0 hL) ?_
  refine ar_aload_n X dX7_next_4 rfl 0 rfl ?_
  refine ar_geti X dX7_next_5 fg_X7_178 rfl (L7_s0 hL) ?_
  refine ar_icmp_ge (tgt := 23) X dX7_next_8 (by decide) hf (fun h1 hf => ?_) (fun h1 hf => ?_)
  · refine ar_iconst (v := 0) X dX7_next_23 (by decide) ?_
    cases hf
    exact ar_iret X dX7_next_24 hR (Nat.le_refl _) (Nat.le_refl _)
  · refine ar_aload_n X dX7_next_11 rfl 0 rfl ?_
    refine ar_getr X dX7_next_12 fg_X7_23 rfl (L7_s0 hL) (L7_p0_4 hL) ?_
    refine ar_aload_n X dX7_next_15 rfl 0 rfl ?_
    refine ar_geti X dX7_next_16 fg_X7_211 rfl (L7_s0 hL) ?_
    refine ar_iald X dX7_next_19 (L7_s5 hL) hf (fun hf => ?_)
    refine ar_goto (tgt := 24) X dX7_next_20 (by decide) ?_
    cases hf
    exact ar_iret X dX7_next_24 hR (Nat.le_refl _) (Nat.le_refl _)
def f_X7_takeNumber_h72 (o : Nat) : Nat → Int32 → Int32 → aI → Option (Int32 × aI)
  | 0, _, _, _ => none
  | n + 1, l2, l3, I =>
    if l3 ≤ 0 then (
      some (l3, I))
    else (
      am_b1 (f_X7_next o I) fun r2 =>
      am_b1 (f_X7_in r2 (48 : Int32) (57 : Int32)) fun r3 =>
      if r3 = 0 then (
        some (l3, I))
      else (
        am_b1 (f_X7_next o I) fun r5 =>
        if l2 < ((((10 : Int32) * l3) + r5) - (48 : Int32)) then (
          some (l3, I))
        else (
          am_b1 (f_X7_next o I) fun r7 =>
          am_let ((((10 : Int32) * l3) + r7) - (48 : Int32)) fun x8 =>
          am_let (am_w I o 9 ((I o 9) + (1 : Int32))) fun I9 =>
          f_X7_takeNumber_h72 o n l2 x8 I9)))
set_option maxRecDepth 100000 in
set_option maxHeartbeats 4000000 in
theorem ab_X7_takeNumber_h72 {K : aK} {sh : aS} {P : aP} {J : aJ} {o : Nat} (X : am_C K cX7_takeNumber 4 RX7 "takeNumber" ({ frames := 1, cells := 0, slots := 0, locals := 22 } : Room)) (hL : L7 sh P o) {r : Int32} {I9 : aI} (hR : am_R K (some .int) (some (.int r)) sh P I9 J 0 0) : ∀ (n : Nat) (l2 : Int32) (l3 : Int32) (I : aI) , f_X7_takeNumber_h72 o n l2 l3 I = some (r, I9) → AW K 4 72 [(0, .ref o), (2, .int l2), (3, .int l3)] [] sh P I J 0 0 := by
  intro n
  induction n with
  | zero =>
    intro l2 l3 I hf
    cases hf
  | succ n ih =>
    intro l2 l3 I hf
    rw [f_X7_takeNumber_h72] at hf
    refine ar_iload_n X dX7_takeNumber_72 rfl 2 rfl ?_
    refine ar_if_le (tgt := 132) X dX7_takeNumber_73 (by decide) hf (fun h1 hf => ?_) (fun h1 hf => ?_)
    · refine ar_iload_n X dX7_takeNumber_132 rfl 2 rfl ?_
      cases hf
      exact ar_iret X dX7_takeNumber_133 hR (Nat.le_refl _) (Nat.le_refl _)
    · refine ar_aload_n X dX7_takeNumber_76 rfl 0 rfl ?_
      obtain ⟨r2, h2, hf⟩ := am_b1_e hf
      refine ar_cVi (As := []) (st := []) X dX7_takeNumber_77 (am_X7_next hL h2) lk_X7_218 mt_X7_next mi_X7_next (L7_s0 hL) rfl rfl (Nat.le_of_ble_eq_true rfl) ⟨by decide, by decide⟩ ⟨Nat.zero_le _, Nat.zero_le _⟩ rfl ?_
      refine ar_bipush (v := 48) X dX7_takeNumber_80 (by decide) ?_
      refine ar_bipush (v := 57) X dX7_takeNumber_82 (by decide) ?_
      obtain ⟨r3, h3, hf⟩ := am_b1_e hf
      refine ar_cSi (As := [.int r2, .int (48 : Int32), .int (57 : Int32)]) (st := []) X dX7_takeNumber_84 (am_X7_in h3) lk_X7_43 mt_X7_in ms_X7_in rfl (Nat.le_of_ble_eq_true rfl) ⟨by decide, by decide⟩ ⟨Nat.zero_le _, Nat.zero_le _⟩ rfl ?_
      refine ar_if_eq (tgt := 132) X dX7_takeNumber_87 (by decide) hf (fun h4 hf => ?_) (fun h4 hf => ?_)
      · refine ar_iload_n X dX7_takeNumber_132 rfl 2 rfl ?_
        cases hf
        exact ar_iret X dX7_takeNumber_133 hR (Nat.le_refl _) (Nat.le_refl _)
      · refine ar_bipush (v := 10) X dX7_takeNumber_90 (by decide) ?_
        refine ar_iload_n X dX7_takeNumber_92 rfl 2 rfl ?_
        refine ar_imul X dX7_takeNumber_93 ?_
        refine ar_aload_n X dX7_takeNumber_94 rfl 0 rfl ?_
        obtain ⟨r5, h5, hf⟩ := am_b1_e hf
        refine ar_cVi (As := []) (st := [.int ((10 : Int32) * l3)]) X dX7_takeNumber_95 (am_X7_next hL h5) lk_X7_218 mt_X7_next mi_X7_next (L7_s0 hL) rfl rfl (Nat.le_of_ble_eq_true rfl) ⟨by decide, by decide⟩ ⟨Nat.zero_le _, Nat.zero_le _⟩ rfl ?_
        refine ar_iadd X dX7_takeNumber_98 ?_
        refine ar_bipush (v := 48) X dX7_takeNumber_99 (by decide) ?_
        refine ar_isub X dX7_takeNumber_101 ?_
        refine ar_iload_n X dX7_takeNumber_102 rfl 1 rfl ?_
        refine ar_icmp_gt (tgt := 132) X dX7_takeNumber_103 (by decide) hf (fun h6 hf => ?_) (fun h6 hf => ?_)
        · refine ar_iload_n X dX7_takeNumber_132 rfl 2 rfl ?_
          cases hf
          exact ar_iret X dX7_takeNumber_133 hR (Nat.le_refl _) (Nat.le_refl _)
        · refine ar_bipush (v := 10) X dX7_takeNumber_106 (by decide) ?_
          refine ar_iload_n X dX7_takeNumber_108 rfl 2 rfl ?_
          refine ar_imul X dX7_takeNumber_109 ?_
          refine ar_aload_n X dX7_takeNumber_110 rfl 0 rfl ?_
          obtain ⟨r7, h7, hf⟩ := am_b1_e hf
          refine ar_cVi (As := []) (st := [.int ((10 : Int32) * l3)]) X dX7_takeNumber_111 (am_X7_next hL h7) lk_X7_218 mt_X7_next mi_X7_next (L7_s0 hL) rfl rfl (Nat.le_of_ble_eq_true rfl) ⟨by decide, by decide⟩ ⟨Nat.zero_le _, Nat.zero_le _⟩ rfl ?_
          refine ar_iadd X dX7_takeNumber_114 ?_
          refine ar_bipush (v := 48) X dX7_takeNumber_115 (by decide) ?_
          refine ar_isub X dX7_takeNumber_117 ?_
          refine ar_letI hf (fun x8 hf => ?_)
          refine ar_istore_n X dX7_takeNumber_118 rfl (by decide) rfl ?_
          refine ar_aload_n X dX7_takeNumber_119 rfl 1 rfl ?_
          refine ar_dup X dX7_takeNumber_120 rfl ?_
          refine ar_geti X dX7_takeNumber_121 fg_X7_211 rfl (L7_s0 hL) ?_
          refine ar_iconst (v := 1) X dX7_takeNumber_124 (by decide) ?_
          refine ar_iadd X dX7_takeNumber_125 ?_
          refine ar_puti X dX7_takeNumber_126 fd_X7_211 rfl ⟨rfl, rfl⟩ (L7_s0 hL) hf (fun I9 hf => ?_)
          refine ar_goto (tgt := 72) X dX7_takeNumber_129 (by decide) ?_
          refine ar_lo [1, 2, 0] rfl ?_
          exact ih l2 x8 I9 hf
def f_X7_takeNumber_b42 (o : Nat) (l2 : Int32) (s0 : Int32) (I : aI) : Option (Int32 × aI) :=
  am_g (am_zk s0) (
  am_let (am_w I o 10 s0) fun I1 =>
  if (I1 o 10) = 0 then (
    am_b1 (f_X7_next o I1) fun r4 =>
    am_let (r4 - (48 : Int32)) fun x5 =>
    am_let (am_w I1 o 9 ((I1 o 9) + (1 : Int32))) fun I6 =>
    f_X7_takeNumber_h72 o am_F l2 x5 I6)
  else (
    some ((0 : Int32), I1)))
set_option maxRecDepth 100000 in
set_option maxHeartbeats 4000000 in
theorem ab_X7_takeNumber_b42 {K : aK} {sh : aS} {P : aP} {J : aJ} {o : Nat} (X : am_C K cX7_takeNumber 4 RX7 "takeNumber" ({ frames := 1, cells := 0, slots := 0, locals := 22 } : Room)) (hL : L7 sh P o) {r : Int32} {I9 : aI} (hR : am_R K (some .int) (some (.int r)) sh P I9 J 0 0) (l2 : Int32) (s0 : Int32) (I : aI) (hf : f_X7_takeNumber_b42 o l2 s0 I = some (r, I9)) : AW K 4 42 [(0, .ref o), (2, .int l2)] [.int s0, .ref o] sh P I J 0 0 := by
  unfold f_X7_takeNumber_b42 at hf
  obtain ⟨h2, hf⟩ := am_g_elim hf
  refine ar_puti X dX7_takeNumber_42 fd_X7_214 rfl (am_zn h2) (L7_s0 hL) hf (fun I1 hf => ?_)
  refine ar_aload_n X dX7_takeNumber_45 rfl 0 rfl ?_
  refine ar_geti X dX7_takeNumber_46 fg_X7_214 rfl (L7_s0 hL) ?_
  refine ar_if_eq (tgt := 54) X dX7_takeNumber_49 (by decide) hf (fun h3 hf => ?_) (fun h3 hf => ?_)
  · refine ar_aload_n X dX7_takeNumber_54 rfl 0 rfl ?_
    obtain ⟨r4, h4, hf⟩ := am_b1_e hf
    refine ar_cVi (As := []) (st := []) X dX7_takeNumber_55 (am_X7_next hL h4) lk_X7_218 mt_X7_next mi_X7_next (L7_s0 hL) rfl rfl (Nat.le_of_ble_eq_true rfl) ⟨by decide, by decide⟩ ⟨Nat.zero_le _, Nat.zero_le _⟩ rfl ?_
    refine ar_bipush (v := 48) X dX7_takeNumber_58 (by decide) ?_
    refine ar_isub X dX7_takeNumber_60 ?_
    refine ar_letI hf (fun x5 hf => ?_)
    refine ar_istore_n X dX7_takeNumber_61 rfl (by decide) rfl ?_
    refine ar_aload_n X dX7_takeNumber_62 rfl 1 rfl ?_
    refine ar_dup X dX7_takeNumber_63 rfl ?_
    refine ar_geti X dX7_takeNumber_64 fg_X7_211 rfl (L7_s0 hL) ?_
    refine ar_iconst (v := 1) X dX7_takeNumber_67 (by decide) ?_
    refine ar_iadd X dX7_takeNumber_68 ?_
    refine ar_puti X dX7_takeNumber_69 fd_X7_211 rfl ⟨rfl, rfl⟩ (L7_s0 hL) hf (fun I6 hf => ?_)
    refine ar_lo [1, 2, 0] rfl ?_
    exact ab_X7_takeNumber_h72 X hL hR am_F l2 x5 I6 hf
  · refine ar_iconst (v := 0) X dX7_takeNumber_52 (by decide) ?_
    cases hf
    exact ar_iret X dX7_takeNumber_53 hR (Nat.le_refl _) (Nat.le_refl _)
def f_X7_takeNumber (o : Nat) (a1 : Int32) (a2 : Int32) (I : aI) : Option (Int32 × aI) :=
  if (I o 10) = 0 then (
    am_b1 (f_X7_next o I) fun r2 =>
    if (9 : Int32) ≤ a2 then (
      am_b1 (f_X7_in r2 ((48 : Int32) + a1) (57 : Int32)) fun r4 =>
      if r4 = 0 then (
        f_X7_takeNumber_b42 o a2 (1 : Int32) I)
      else (
        f_X7_takeNumber_b42 o a2 (0 : Int32) I))
    else (
      am_b1 (f_X7_in r2 ((48 : Int32) + a1) ((48 : Int32) + a2)) fun r6 =>
      if r6 = 0 then (
        f_X7_takeNumber_b42 o a2 (1 : Int32) I)
      else (
        f_X7_takeNumber_b42 o a2 (0 : Int32) I)))
  else (
    f_X7_takeNumber_b42 o a2 (1 : Int32) I)
set_option maxRecDepth 100000 in
set_option maxHeartbeats 4000000 in
theorem am_X7_takeNumber {sh : aS} {P : aP} {I : aI} {J : aJ} {o : Nat} (hL : L7 sh P o) {a1 : Int32} {a2 : Int32} {r : Int32} {I9 : aI} (hf : f_X7_takeNumber o a1 a2 I = some (r, I9)) : AM yX7_takeNumber cX7_takeNumber 4 (some .int) 1 22 [.ref o, .int a1, .int a2] sh P I J (some (.int r)) sh P I9 J 0 0 := by
  refine am_met (by decide +kernel) (Nat.le_of_ble_eq_true rfl) (fun K X hR => ?_)
  have X : am_C K cX7_takeNumber 4 RX7 "takeNumber" ({ frames := 1, cells := 0, slots := 0, locals := 22 } : Room) := X
  show AW K 4 0 [(0, .ref o), (1, .int a1), (2, .int a2)] [] sh P I J 0 0
  unfold f_X7_takeNumber at hf
  refine ar_aload_n X dX7_takeNumber_0 rfl 0 rfl ?_
  refine ar_aload_n X dX7_takeNumber_1 rfl 0 rfl ?_
  refine ar_geti X dX7_takeNumber_2 fg_X7_214 rfl (L7_s0 hL) ?_
  refine ar_if_ne (tgt := 37) X dX7_takeNumber_5 (by decide) hf (fun h1 hf => ?_) (fun h1 hf => ?_)
  · refine ar_aload_n X dX7_takeNumber_8 rfl 0 rfl ?_
    obtain ⟨r2, h2, hf⟩ := am_b1_e hf
    refine ar_cVi (As := []) (st := [.ref o]) X dX7_takeNumber_9 (am_X7_next hL h2) lk_X7_218 mt_X7_next mi_X7_next (L7_s0 hL) rfl rfl (Nat.le_of_ble_eq_true rfl) ⟨by decide, by decide⟩ ⟨Nat.zero_le _, Nat.zero_le _⟩ rfl ?_
    refine ar_bipush (v := 48) X dX7_takeNumber_12 (by decide) ?_
    refine ar_iload_n X dX7_takeNumber_14 rfl 1 rfl ?_
    refine ar_iadd X dX7_takeNumber_15 ?_
    refine ar_iload_n X dX7_takeNumber_16 rfl 2 rfl ?_
    refine ar_bipush (v := 9) X dX7_takeNumber_17 (by decide) ?_
    refine ar_icmp_ge (tgt := 29) X dX7_takeNumber_19 (by decide) hf (fun h3 hf => ?_) (fun h3 hf => ?_)
    · refine ar_bipush (v := 57) X dX7_takeNumber_29 (by decide) ?_
      obtain ⟨r4, h4, hf⟩ := am_b1_e hf
      refine ar_cSi (As := [.int r2, .int ((48 : Int32) + a1), .int (57 : Int32)]) (st := [.ref o]) X dX7_takeNumber_31 (am_X7_in h4) lk_X7_43 mt_X7_in ms_X7_in rfl (Nat.le_of_ble_eq_true rfl) ⟨by decide, by decide⟩ ⟨Nat.zero_le _, Nat.zero_le _⟩ rfl ?_
      refine ar_if_ne (tgt := 41) X dX7_takeNumber_34 (by decide) hf (fun h5 hf => ?_) (fun h5 hf => ?_)
      · refine ar_iconst (v := 1) X dX7_takeNumber_37 (by decide) ?_
        refine ar_goto (tgt := 42) X dX7_takeNumber_38 (by decide) ?_
        refine ar_lo [0, 2] rfl ?_
        exact ab_X7_takeNumber_b42 X hL hR a2 (1 : Int32) I hf
      · refine ar_iconst (v := 0) X dX7_takeNumber_41 (by decide) ?_
        refine ar_lo [0, 2] rfl ?_
        exact ab_X7_takeNumber_b42 X hL hR a2 (0 : Int32) I hf
    · refine ar_bipush (v := 48) X dX7_takeNumber_22 (by decide) ?_
      refine ar_iload_n X dX7_takeNumber_24 rfl 2 rfl ?_
      refine ar_iadd X dX7_takeNumber_25 ?_
      refine ar_goto (tgt := 31) X dX7_takeNumber_26 (by decide) ?_
      obtain ⟨r6, h6, hf⟩ := am_b1_e hf
      refine ar_cSi (As := [.int r2, .int ((48 : Int32) + a1), .int ((48 : Int32) + a2)]) (st := [.ref o]) X dX7_takeNumber_31 (am_X7_in h6) lk_X7_43 mt_X7_in ms_X7_in rfl (Nat.le_of_ble_eq_true rfl) ⟨by decide, by decide⟩ ⟨Nat.zero_le _, Nat.zero_le _⟩ rfl ?_
      refine ar_if_ne (tgt := 41) X dX7_takeNumber_34 (by decide) hf (fun h7 hf => ?_) (fun h7 hf => ?_)
      · refine ar_iconst (v := 1) X dX7_takeNumber_37 (by decide) ?_
        refine ar_goto (tgt := 42) X dX7_takeNumber_38 (by decide) ?_
        refine ar_lo [0, 2] rfl ?_
        exact ab_X7_takeNumber_b42 X hL hR a2 (1 : Int32) I hf
      · refine ar_iconst (v := 0) X dX7_takeNumber_41 (by decide) ?_
        refine ar_lo [0, 2] rfl ?_
        exact ab_X7_takeNumber_b42 X hL hR a2 (0 : Int32) I hf
  · refine ar_iconst (v := 1) X dX7_takeNumber_37 (by decide) ?_
    refine ar_goto (tgt := 42) X dX7_takeNumber_38 (by decide) ?_
    refine ar_lo [0, 2] rfl ?_
    exact ab_X7_takeNumber_b42 X hL hR a2 (1 : Int32) I hf
def f_X7_need_b21 (o : Nat) (s0 : Int32) (I : aI) : Option aI :=
  am_g (am_zk s0) (
  am_let (am_w I o 10 s0) fun I1 =>
  if (I1 o 10) = 0 then (
    am_let (am_w I1 o 9 ((I1 o 9) + (1 : Int32))) fun I4 =>
    some I4)
  else (
    am_let (am_w I1 o 9 ((I1 o 9) + (0 : Int32))) fun I5 =>
    some I5))
set_option maxRecDepth 100000 in
set_option maxHeartbeats 4000000 in
theorem ab_X7_need_b21 {K : aK} {sh : aS} {P : aP} {J : aJ} {o : Nat} (X : am_C K cX7_need 2 RX7 "need" ({ frames := 1, cells := 0, slots := 0, locals := 20 } : Room)) (hL : L7 sh P o) {I9 : aI} (hR : am_R K none none sh P I9 J 0 0) (s0 : Int32) (I : aI) (hf : f_X7_need_b21 o s0 I = some I9) : AW K 2 21 [(0, .ref o)] [.int s0, .ref o] sh P I J 0 0 := by
  unfold f_X7_need_b21 at hf
  obtain ⟨h2, hf⟩ := am_g_elim hf
  refine ar_puti X dX7_need_21 fd_X7_214 rfl (am_zn h2) (L7_s0 hL) hf (fun I1 hf => ?_)
  refine ar_aload_n X dX7_need_24 rfl 0 rfl ?_
  refine ar_dup X dX7_need_25 rfl ?_
  refine ar_geti X dX7_need_26 fg_X7_211 rfl (L7_s0 hL) ?_
  refine ar_aload_n X dX7_need_29 rfl 0 rfl ?_
  refine ar_geti X dX7_need_30 fg_X7_214 rfl (L7_s0 hL) ?_
  refine ar_if_eq (tgt := 40) X dX7_need_33 (by decide) hf (fun h3 hf => ?_) (fun h3 hf => ?_)
  · refine ar_iconst (v := 1) X dX7_need_40 (by decide) ?_
    refine ar_iadd X dX7_need_41 ?_
    refine ar_puti X dX7_need_42 fd_X7_211 rfl ⟨rfl, rfl⟩ (L7_s0 hL) hf (fun I4 hf => ?_)
    cases hf
    exact ar_vret X dX7_need_45 hR (Nat.le_refl _) (Nat.le_refl _)
  · refine ar_iconst (v := 0) X dX7_need_36 (by decide) ?_
    refine ar_goto (tgt := 41) X dX7_need_37 (by decide) ?_
    refine ar_iadd X dX7_need_41 ?_
    refine ar_puti X dX7_need_42 fd_X7_211 rfl ⟨rfl, rfl⟩ (L7_s0 hL) hf (fun I5 hf => ?_)
    cases hf
    exact ar_vret X dX7_need_45 hR (Nat.le_refl _) (Nat.le_refl _)
def f_X7_need (o : Nat) (a1 : Int32) (I : aI) : Option aI :=
  if (I o 10) = 0 then (
    am_b1 (f_X7_next o I) fun r2 =>
    if r2 = a1 then (
      f_X7_need_b21 o (0 : Int32) I)
    else (
      f_X7_need_b21 o (1 : Int32) I))
  else (
    f_X7_need_b21 o (1 : Int32) I)
set_option maxRecDepth 100000 in
set_option maxHeartbeats 4000000 in
theorem am_X7_need {sh : aS} {P : aP} {I : aI} {J : aJ} {o : Nat} (hL : L7 sh P o) {a1 : Int32} {I9 : aI} (hf : f_X7_need o a1 I = some I9) : AM yX7_need cX7_need 2 none 1 20 [.ref o, .int a1] sh P I J none sh P I9 J 0 0 := by
  refine am_met (by decide +kernel) (Nat.le_of_ble_eq_true rfl) (fun K X hR => ?_)
  have X : am_C K cX7_need 2 RX7 "need" ({ frames := 1, cells := 0, slots := 0, locals := 20 } : Room) := X
  show AW K 2 0 [(0, .ref o), (1, .int a1)] [] sh P I J 0 0
  unfold f_X7_need at hf
  refine ar_aload_n X dX7_need_0 rfl 0 rfl ?_
  refine ar_aload_n X dX7_need_1 rfl 0 rfl ?_
  refine ar_geti X dX7_need_2 fg_X7_214 rfl (L7_s0 hL) ?_
  refine ar_if_ne (tgt := 16) X dX7_need_5 (by decide) hf (fun h1 hf => ?_) (fun h1 hf => ?_)
  · refine ar_aload_n X dX7_need_8 rfl 0 rfl ?_
    obtain ⟨r2, h2, hf⟩ := am_b1_e hf
    refine ar_cVi (As := []) (st := [.ref o]) X dX7_need_9 (am_X7_next hL h2) lk_X7_218 mt_X7_next mi_X7_next (L7_s0 hL) rfl rfl (Nat.le_of_ble_eq_true rfl) ⟨by decide, by decide⟩ ⟨Nat.zero_le _, Nat.zero_le _⟩ rfl ?_
    refine ar_iload_n X dX7_need_12 rfl 1 rfl ?_
    refine ar_icmp_eq (tgt := 20) X dX7_need_13 (by decide) hf (fun h3 hf => ?_) (fun h3 hf => ?_)
    · refine ar_iconst (v := 0) X dX7_need_20 (by decide) ?_
      refine ar_lo [0] rfl ?_
      exact ab_X7_need_b21 X hL hR (0 : Int32) I hf
    · refine ar_iconst (v := 1) X dX7_need_16 (by decide) ?_
      refine ar_goto (tgt := 21) X dX7_need_17 (by decide) ?_
      refine ar_lo [0] rfl ?_
      exact ab_X7_need_b21 X hL hR (1 : Int32) I hf
  · refine ar_iconst (v := 1) X dX7_need_16 (by decide) ?_
    refine ar_goto (tgt := 21) X dX7_need_17 (by decide) ?_
    refine ar_lo [0] rfl ?_
    exact ab_X7_need_b21 X hL hR (1 : Int32) I hf
def f_X7_takeAct_b147 (o : Nat) (s0 : Int32) (s2 : Int32) (I : aI) : Option aI :=
  am_b2 (f_X7_takeNumber o s0 (300 : Int32) I) fun r1 I1 =>
  am_g (am_ok s2 93) (am_let (am_w I1 (o + 9) (Int32.toNatClampNeg s2) r1) fun I2 =>
  am_let (am_w I2 o 12 ((I2 o 12) + (1 : Int32))) fun I3 =>
  some I3)
set_option maxRecDepth 100000 in
set_option maxHeartbeats 4000000 in
theorem ab_X7_takeAct_b147 {K : aK} {sh : aS} {P : aP} {J : aJ} {o : Nat} (X : am_C K cX7_takeAct 3 RX7 "takeAct" ({ frames := 2, cells := 0, slots := 0, locals := 45 } : Room)) (hL : L7 sh P o) {I9 : aI} (hR : am_R K none none sh P I9 J 0 0) (s0 : Int32) (s2 : Int32) (I : aI) (hf : f_X7_takeAct_b147 o s0 s2 I = some I9) : AW K 3 147 [(0, .ref o)] [.int s0, .ref o, .int s2, .ref (o + 9)] sh P I J 0 0 := by
  unfold f_X7_takeAct_b147 at hf
  refine ar_sipush (v := 300) X dX7_takeAct_147 (by decide) ?_
  obtain ⟨r1, I1, h1, hf⟩ := am_b2_e hf
  refine ar_cVi (As := [.int s0, .int (300 : Int32)]) (st := [.int s2, .ref (o + 9)]) X dX7_takeAct_150 (am_X7_takeNumber hL h1) lk_X7_224 mt_X7_takeNumber mi_X7_takeNumber (L7_s0 hL) rfl rfl (Nat.le_of_ble_eq_true rfl) ⟨by decide, by decide⟩ ⟨Nat.zero_le _, Nat.zero_le _⟩ rfl ?_
  refine ar_iast X dX7_takeAct_153 (L7_s9 hL) hf (fun I2 hf => ?_)
  refine ar_aload_n X dX7_takeAct_154 rfl 0 rfl ?_
  refine ar_dup X dX7_takeAct_155 rfl ?_
  refine ar_geti X dX7_takeAct_156 fg_X7_221 rfl (L7_s0 hL) ?_
  refine ar_iconst (v := 1) X dX7_takeAct_159 (by decide) ?_
  refine ar_iadd X dX7_takeAct_160 ?_
  refine ar_puti X dX7_takeAct_161 fd_X7_221 rfl ⟨rfl, rfl⟩ (L7_s0 hL) hf (fun I3 hf => ?_)
  cases hf
  exact ar_vret X dX7_takeAct_164 hR (Nat.le_refl _) (Nat.le_refl _)
def f_X7_takeAct_b122 (o : Nat) (l1 : Int32) (l2 : Int32) (I : aI) : Option aI :=
  am_b1 (f_X7_need o (58 : Int32) I) fun I1 =>
  if l1 = (115 : Int32) then (
    f_X7_takeAct_b147 o (1 : Int32) (l2 + (2 : Int32)) I1)
  else (
    f_X7_takeAct_b147 o (0 : Int32) (l2 + (2 : Int32)) I1)
set_option maxRecDepth 100000 in
set_option maxHeartbeats 4000000 in
theorem ab_X7_takeAct_b122 {K : aK} {sh : aS} {P : aP} {J : aJ} {o : Nat} (X : am_C K cX7_takeAct 3 RX7 "takeAct" ({ frames := 2, cells := 0, slots := 0, locals := 45 } : Room)) (hL : L7 sh P o) {I9 : aI} (hR : am_R K none none sh P I9 J 0 0) (l1 : Int32) (l2 : Int32) (I : aI) (hf : f_X7_takeAct_b122 o l1 l2 I = some I9) : AW K 3 122 [(0, .ref o), (1, .int l1), (2, .int l2)] [] sh P I J 0 0 := by
  unfold f_X7_takeAct_b122 at hf
  refine ar_aload_n X dX7_takeAct_122 rfl 0 rfl ?_
  refine ar_bipush (v := 58) X dX7_takeAct_123 (by decide) ?_
  obtain ⟨I1, h1, hf⟩ := am_b1_e hf
  refine ar_cVv (As := [.int (58 : Int32)]) (st := []) X dX7_takeAct_125 (am_X7_need hL h1) lk_X7_227 mt_X7_need mi_X7_need (L7_s0 hL) rfl rfl (Nat.le_of_ble_eq_true rfl) ⟨by decide, by decide⟩ ⟨Nat.zero_le _, Nat.zero_le _⟩ rfl ?_
  refine ar_aload_n X dX7_takeAct_128 rfl 0 rfl ?_
  refine ar_getr X dX7_takeAct_129 fg_X7_36 rfl (L7_s0 hL) (L7_p0_11 hL) ?_
  refine ar_iload_n X dX7_takeAct_132 rfl 2 rfl ?_
  refine ar_iconst (v := 2) X dX7_takeAct_133 (by decide) ?_
  refine ar_iadd X dX7_takeAct_134 ?_
  refine ar_aload_n X dX7_takeAct_135 rfl 0 rfl ?_
  refine ar_iload_n X dX7_takeAct_136 rfl 1 rfl ?_
  refine ar_bipush (v := 115) X dX7_takeAct_137 (by decide) ?_
  refine ar_icmp_ne (tgt := 146) X dX7_takeAct_139 (by decide) hf (fun h2 hf => ?_) (fun h2 hf => ?_)
  · refine ar_iconst (v := 1) X dX7_takeAct_142 (by decide) ?_
    refine ar_goto (tgt := 147) X dX7_takeAct_143 (by decide) ?_
    refine ar_lo [0] rfl ?_
    exact ab_X7_takeAct_b147 X hL hR (1 : Int32) (l2 + (2 : Int32)) I1 hf
  · refine ar_iconst (v := 0) X dX7_takeAct_146 (by decide) ?_
    refine ar_lo [0] rfl ?_
    exact ab_X7_takeAct_b147 X hL hR (0 : Int32) (l2 + (2 : Int32)) I1 hf
def f_X7_takeAct_b109 (o : Nat) (l1 : Int32) (l2 : Int32) (s0 : Int32) (s1 : Int32) (I : aI) : Option aI :=
  am_g (am_ok s1 93) (am_let (am_w I (o + 9) (Int32.toNatClampNeg s1) s0) fun I1 =>
  if l1 = (115 : Int32) then (
    f_X7_takeAct_b122 o l1 l2 I1)
  else (
    if l1 = (98 : Int32) then (
      f_X7_takeAct_b122 o l1 l2 I1)
    else (
      am_let (am_w I1 o 12 ((I1 o 12) + (1 : Int32))) fun I4 =>
      some I4)))
set_option maxRecDepth 100000 in
set_option maxHeartbeats 4000000 in
theorem ab_X7_takeAct_b109 {K : aK} {sh : aS} {P : aP} {J : aJ} {o : Nat} (X : am_C K cX7_takeAct 3 RX7 "takeAct" ({ frames := 2, cells := 0, slots := 0, locals := 45 } : Room)) (hL : L7 sh P o) {I9 : aI} (hR : am_R K none none sh P I9 J 0 0) (l1 : Int32) (l2 : Int32) (s0 : Int32) (s1 : Int32) (I : aI) (hf : f_X7_takeAct_b109 o l1 l2 s0 s1 I = some I9) : AW K 3 109 [(0, .ref o), (1, .int l1), (2, .int l2)] [.int s0, .int s1, .ref (o + 9)] sh P I J 0 0 := by
  unfold f_X7_takeAct_b109 at hf
  refine ar_iast X dX7_takeAct_109 (L7_s9 hL) hf (fun I1 hf => ?_)
  refine ar_iload_n X dX7_takeAct_110 rfl 1 rfl ?_
  refine ar_bipush (v := 115) X dX7_takeAct_111 (by decide) ?_
  refine ar_icmp_eq (tgt := 122) X dX7_takeAct_113 (by decide) hf (fun h2 hf => ?_) (fun h2 hf => ?_)
  · exact ab_X7_takeAct_b122 X hL hR l1 l2 I1 hf
  · refine ar_iload_n X dX7_takeAct_116 rfl 1 rfl ?_
    refine ar_bipush (v := 98) X dX7_takeAct_117 (by decide) ?_
    refine ar_icmp_ne (tgt := 154) X dX7_takeAct_119 (by decide) hf (fun h3 hf => ?_) (fun h3 hf => ?_)
    · exact ab_X7_takeAct_b122 X hL hR l1 l2 I1 hf
    · refine ar_aload_n X dX7_takeAct_154 rfl 0 rfl ?_
      refine ar_dup X dX7_takeAct_155 rfl ?_
      refine ar_geti X dX7_takeAct_156 fg_X7_221 rfl (L7_s0 hL) ?_
      refine ar_iconst (v := 1) X dX7_takeAct_159 (by decide) ?_
      refine ar_iadd X dX7_takeAct_160 ?_
      refine ar_puti X dX7_takeAct_161 fd_X7_221 rfl ⟨rfl, rfl⟩ (L7_s0 hL) hf (fun I4 hf => ?_)
      cases hf
      exact ar_vret X dX7_takeAct_164 hR (Nat.le_refl _) (Nat.le_refl _)
def f_X7_takeAct_b48 (o : Nat) (l1 : Int32) (l2 : Int32) (I : aI) : Option aI :=
  am_let (am_w I o 9 ((I o 9) + (1 : Int32))) fun I1 =>
  am_g (am_ok l2 93) (am_let (am_w I1 (o + 9) (Int32.toNatClampNeg l2) l1) fun I2 =>
  if l1 = (115 : Int32) then (
    am_b2 (f_X7_takeNumber o (0 : Int32) (2 : Int32) I2) fun r4 I4 =>
    f_X7_takeAct_b109 o l1 l2 r4 (l2 + (1 : Int32)) I4)
  else (
    if l1 = (98 : Int32) then (
      am_b2 (f_X7_takeNumber o (0 : Int32) (5 : Int32) I2) fun r6 I6 =>
      f_X7_takeAct_b109 o l1 l2 r6 (l2 + (1 : Int32)) I6)
    else (
      if l1 = (112 : Int32) then (
        am_b2 (f_X7_takeNumber o (0 : Int32) (5 : Int32) I2) fun r8 I8 =>
        f_X7_takeAct_b109 o l1 l2 r8 (l2 + (1 : Int32)) I8)
      else (
        f_X7_takeAct_b109 o l1 l2 (0 : Int32) (l2 + (1 : Int32)) I2))))
set_option maxRecDepth 100000 in
set_option maxHeartbeats 4000000 in
theorem ab_X7_takeAct_b48 {K : aK} {sh : aS} {P : aP} {J : aJ} {o : Nat} (X : am_C K cX7_takeAct 3 RX7 "takeAct" ({ frames := 2, cells := 0, slots := 0, locals := 45 } : Room)) (hL : L7 sh P o) {I9 : aI} (hR : am_R K none none sh P I9 J 0 0) (l1 : Int32) (l2 : Int32) (I : aI) (hf : f_X7_takeAct_b48 o l1 l2 I = some I9) : AW K 3 48 [(0, .ref o), (1, .int l1), (2, .int l2)] [] sh P I J 0 0 := by
  unfold f_X7_takeAct_b48 at hf
  refine ar_aload_n X dX7_takeAct_48 rfl 0 rfl ?_
  refine ar_dup X dX7_takeAct_49 rfl ?_
  refine ar_geti X dX7_takeAct_50 fg_X7_211 rfl (L7_s0 hL) ?_
  refine ar_iconst (v := 1) X dX7_takeAct_53 (by decide) ?_
  refine ar_iadd X dX7_takeAct_54 ?_
  refine ar_puti X dX7_takeAct_55 fd_X7_211 rfl ⟨rfl, rfl⟩ (L7_s0 hL) hf (fun I1 hf => ?_)
  refine ar_aload_n X dX7_takeAct_58 rfl 0 rfl ?_
  refine ar_getr X dX7_takeAct_59 fg_X7_36 rfl (L7_s0 hL) (L7_p0_11 hL) ?_
  refine ar_iload_n X dX7_takeAct_62 rfl 2 rfl ?_
  refine ar_iload_n X dX7_takeAct_63 rfl 1 rfl ?_
  refine ar_iast X dX7_takeAct_64 (L7_s9 hL) hf (fun I2 hf => ?_)
  refine ar_aload_n X dX7_takeAct_65 rfl 0 rfl ?_
  refine ar_getr X dX7_takeAct_66 fg_X7_36 rfl (L7_s0 hL) (L7_p0_11 hL) ?_
  refine ar_iload_n X dX7_takeAct_69 rfl 2 rfl ?_
  refine ar_iconst (v := 1) X dX7_takeAct_70 (by decide) ?_
  refine ar_iadd X dX7_takeAct_71 ?_
  refine ar_iload_n X dX7_takeAct_72 rfl 1 rfl ?_
  refine ar_bipush (v := 115) X dX7_takeAct_73 (by decide) ?_
  refine ar_icmp_ne (tgt := 87) X dX7_takeAct_75 (by decide) hf (fun h3 hf => ?_) (fun h3 hf => ?_)
  · refine ar_aload_n X dX7_takeAct_78 rfl 0 rfl ?_
    refine ar_iconst (v := 0) X dX7_takeAct_79 (by decide) ?_
    refine ar_iconst (v := 2) X dX7_takeAct_80 (by decide) ?_
    obtain ⟨r4, I4, h4, hf⟩ := am_b2_e hf
    refine ar_cVi (As := [.int (0 : Int32), .int (2 : Int32)]) (st := [.int (l2 + (1 : Int32)), .ref (o + 9)]) X dX7_takeAct_81 (am_X7_takeNumber hL h4) lk_X7_224 mt_X7_takeNumber mi_X7_takeNumber (L7_s0 hL) rfl rfl (Nat.le_of_ble_eq_true rfl) ⟨by decide, by decide⟩ ⟨Nat.zero_le _, Nat.zero_le _⟩ rfl ?_
    refine ar_goto (tgt := 109) X dX7_takeAct_84 (by decide) ?_
    exact ab_X7_takeAct_b109 X hL hR l1 l2 r4 (l2 + (1 : Int32)) I4 hf
  · refine ar_iload_n X dX7_takeAct_87 rfl 1 rfl ?_
    refine ar_bipush (v := 98) X dX7_takeAct_88 (by decide) ?_
    refine ar_icmp_eq (tgt := 99) X dX7_takeAct_90 (by decide) hf (fun h5 hf => ?_) (fun h5 hf => ?_)
    · refine ar_aload_n X dX7_takeAct_99 rfl 0 rfl ?_
      refine ar_iconst (v := 0) X dX7_takeAct_100 (by decide) ?_
      refine ar_iconst (v := 5) X dX7_takeAct_101 (by decide) ?_
      obtain ⟨r6, I6, h6, hf⟩ := am_b2_e hf
      refine ar_cVi (As := [.int (0 : Int32), .int (5 : Int32)]) (st := [.int (l2 + (1 : Int32)), .ref (o + 9)]) X dX7_takeAct_102 (am_X7_takeNumber hL h6) lk_X7_224 mt_X7_takeNumber mi_X7_takeNumber (L7_s0 hL) rfl rfl (Nat.le_of_ble_eq_true rfl) ⟨by decide, by decide⟩ ⟨Nat.zero_le _, Nat.zero_le _⟩ rfl ?_
      refine ar_goto (tgt := 109) X dX7_takeAct_105 (by decide) ?_
      exact ab_X7_takeAct_b109 X hL hR l1 l2 r6 (l2 + (1 : Int32)) I6 hf
    · refine ar_iload_n X dX7_takeAct_93 rfl 1 rfl ?_
      refine ar_bipush (v := 112) X dX7_takeAct_94 (by decide) ?_
      refine ar_icmp_ne (tgt := 108) X dX7_takeAct_96 (by decide) hf (fun h7 hf => ?_) (fun h7 hf => ?_)
      · refine ar_aload_n X dX7_takeAct_99 rfl 0 rfl ?_
        refine ar_iconst (v := 0) X dX7_takeAct_100 (by decide) ?_
        refine ar_iconst (v := 5) X dX7_takeAct_101 (by decide) ?_
        obtain ⟨r8, I8, h8, hf⟩ := am_b2_e hf
        refine ar_cVi (As := [.int (0 : Int32), .int (5 : Int32)]) (st := [.int (l2 + (1 : Int32)), .ref (o + 9)]) X dX7_takeAct_102 (am_X7_takeNumber hL h8) lk_X7_224 mt_X7_takeNumber mi_X7_takeNumber (L7_s0 hL) rfl rfl (Nat.le_of_ble_eq_true rfl) ⟨by decide, by decide⟩ ⟨Nat.zero_le _, Nat.zero_le _⟩ rfl ?_
        refine ar_goto (tgt := 109) X dX7_takeAct_105 (by decide) ?_
        exact ab_X7_takeAct_b109 X hL hR l1 l2 r8 (l2 + (1 : Int32)) I8 hf
      · refine ar_iconst (v := 0) X dX7_takeAct_108 (by decide) ?_
        exact ab_X7_takeAct_b109 X hL hR l1 l2 (0 : Int32) (l2 + (1 : Int32)) I2 hf
def f_X7_takeAct (o : Nat)  (I : aI) : Option aI :=
  am_b1 (f_X7_next o I) fun r1 =>
  am_let ((3 : Int32) * (I o 12)) fun x2 =>
  if r1 = (115 : Int32) then (
    f_X7_takeAct_b48 o r1 x2 I)
  else (
    if r1 = (98 : Int32) then (
      f_X7_takeAct_b48 o r1 x2 I)
    else (
      if r1 = (112 : Int32) then (
        f_X7_takeAct_b48 o r1 x2 I)
      else (
        if r1 = (109 : Int32) then (
          f_X7_takeAct_b48 o r1 x2 I)
        else (
          if r1 = (102 : Int32) then (
            f_X7_takeAct_b48 o r1 x2 I)
          else (
            am_let (am_w I o 10 (1 : Int32)) fun I8 =>
            some I8)))))
set_option maxRecDepth 100000 in
set_option maxHeartbeats 4000000 in
theorem am_X7_takeAct {sh : aS} {P : aP} {I : aI} {J : aJ} {o : Nat} (hL : L7 sh P o)  {I9 : aI} (hf : f_X7_takeAct o I = some I9) : AM yX7_takeAct cX7_takeAct 3 none 2 45 [.ref o] sh P I J none sh P I9 J 0 0 := by
  refine am_met (by decide +kernel) (Nat.le_of_ble_eq_true rfl) (fun K X hR => ?_)
  have X : am_C K cX7_takeAct 3 RX7 "takeAct" ({ frames := 2, cells := 0, slots := 0, locals := 45 } : Room) := X
  show AW K 3 0 [(0, .ref o)] [] sh P I J 0 0
  unfold f_X7_takeAct at hf
  refine ar_aload_n X dX7_takeAct_0 rfl 0 rfl ?_
  obtain ⟨r1, h1, hf⟩ := am_b1_e hf
  refine ar_cVi (As := []) (st := []) X dX7_takeAct_1 (am_X7_next hL h1) lk_X7_218 mt_X7_next mi_X7_next (L7_s0 hL) rfl rfl (Nat.le_of_ble_eq_true rfl) ⟨by decide, by decide⟩ ⟨Nat.zero_le _, Nat.zero_le _⟩ rfl ?_
  refine ar_istore_n X dX7_takeAct_4 rfl (by decide) rfl ?_
  refine ar_iconst (v := 3) X dX7_takeAct_5 (by decide) ?_
  refine ar_aload_n X dX7_takeAct_6 rfl 1 rfl ?_
  refine ar_geti X dX7_takeAct_7 fg_X7_221 rfl (L7_s0 hL) ?_
  refine ar_imul X dX7_takeAct_10 ?_
  refine ar_letI hf (fun x2 hf => ?_)
  refine ar_istore_n X dX7_takeAct_11 rfl (by decide) rfl ?_
  refine ar_iload_n X dX7_takeAct_12 rfl 1 rfl ?_
  refine ar_bipush (v := 115) X dX7_takeAct_13 (by decide) ?_
  refine ar_icmp_eq (tgt := 48) X dX7_takeAct_15 (by decide) hf (fun h3 hf => ?_) (fun h3 hf => ?_)
  · refine ar_lo [2, 1, 0] rfl ?_
    exact ab_X7_takeAct_b48 X hL hR r1 x2 I hf
  · refine ar_iload_n X dX7_takeAct_18 rfl 1 rfl ?_
    refine ar_bipush (v := 98) X dX7_takeAct_19 (by decide) ?_
    refine ar_icmp_eq (tgt := 48) X dX7_takeAct_21 (by decide) hf (fun h4 hf => ?_) (fun h4 hf => ?_)
    · refine ar_lo [2, 1, 0] rfl ?_
      exact ab_X7_takeAct_b48 X hL hR r1 x2 I hf
    · refine ar_iload_n X dX7_takeAct_24 rfl 1 rfl ?_
      refine ar_bipush (v := 112) X dX7_takeAct_25 (by decide) ?_
      refine ar_icmp_eq (tgt := 48) X dX7_takeAct_27 (by decide) hf (fun h5 hf => ?_) (fun h5 hf => ?_)
      · refine ar_lo [2, 1, 0] rfl ?_
        exact ab_X7_takeAct_b48 X hL hR r1 x2 I hf
      · refine ar_iload_n X dX7_takeAct_30 rfl 1 rfl ?_
        refine ar_bipush (v := 109) X dX7_takeAct_31 (by decide) ?_
        refine ar_icmp_eq (tgt := 48) X dX7_takeAct_33 (by decide) hf (fun h6 hf => ?_) (fun h6 hf => ?_)
        · refine ar_lo [2, 1, 0] rfl ?_
          exact ab_X7_takeAct_b48 X hL hR r1 x2 I hf
        · refine ar_iload_n X dX7_takeAct_36 rfl 1 rfl ?_
          refine ar_bipush (v := 102) X dX7_takeAct_37 (by decide) ?_
          refine ar_icmp_eq (tgt := 48) X dX7_takeAct_39 (by decide) hf (fun h7 hf => ?_) (fun h7 hf => ?_)
          · refine ar_lo [2, 1, 0] rfl ?_
            exact ab_X7_takeAct_b48 X hL hR r1 x2 I hf
          · refine ar_aload_n X dX7_takeAct_42 rfl 2 rfl ?_
            refine ar_iconst (v := 1) X dX7_takeAct_43 (by decide) ?_
            refine ar_puti X dX7_takeAct_44 fd_X7_214 rfl ⟨rfl, rfl⟩ (L7_s0 hL) hf (fun I8 hf => ?_)
            cases hf
            exact ar_vret X dX7_takeAct_47 hR (Nat.le_refl _) (Nat.le_refl _)
def f_X7_fault_b52 (o : Nat)  (I : aI) : Option (Int32 × aI) :=
  if (I o 10) = 0 then (
    if (I o 5) ≤ (I o 9) then (
      some ((-6 : Int32), I))
    else (
      some ((I o 9), I)))
  else (
    some ((I o 9), I))
set_option maxRecDepth 100000 in
set_option maxHeartbeats 4000000 in
theorem ab_X7_fault_b52 {K : aK} {sh : aS} {P : aP} {J : aJ} {o : Nat} (X : am_C K cX7_fault 1 RX7 "fault" ({ frames := 3, cells := 0, slots := 0, locals := 67 } : Room)) (hL : L7 sh P o) {r : Int32} {I9 : aI} (hR : am_R K (some .int) (some (.int r)) sh P I9 J 0 0)  (I : aI) (hf : f_X7_fault_b52 o I = some (r, I9)) : AW K 1 52 [(0, .ref o)] [] sh P I J 0 0 := by
  unfold f_X7_fault_b52 at hf
  refine ar_aload_n X dX7_fault_52 rfl 0 rfl ?_
  refine ar_geti X dX7_fault_53 fg_X7_214 rfl (L7_s0 hL) ?_
  refine ar_if_ne (tgt := 70) X dX7_fault_56 (by decide) hf (fun h1 hf => ?_) (fun h1 hf => ?_)
  · refine ar_aload_n X dX7_fault_59 rfl 0 rfl ?_
    refine ar_geti X dX7_fault_60 fg_X7_211 rfl (L7_s0 hL) ?_
    refine ar_aload_n X dX7_fault_63 rfl 0 rfl ?_
    refine ar_geti X dX7_fault_64 fg_X7_178 rfl (L7_s0 hL) ?_
    refine ar_icmp_ge (tgt := 77) X dX7_fault_67 (by decide) hf (fun h2 hf => ?_) (fun h2 hf => ?_)
    · refine ar_bipush (v := -6) X dX7_fault_77 (by decide) ?_
      cases hf
      exact ar_iret X dX7_fault_79 hR (Nat.le_refl _) (Nat.le_refl _)
    · refine ar_aload_n X dX7_fault_70 rfl 0 rfl ?_
      refine ar_geti X dX7_fault_71 fg_X7_211 rfl (L7_s0 hL) ?_
      refine ar_goto (tgt := 79) X dX7_fault_74 (by decide) ?_
      cases hf
      exact ar_iret X dX7_fault_79 hR (Nat.le_refl _) (Nat.le_refl _)
  · refine ar_aload_n X dX7_fault_70 rfl 0 rfl ?_
    refine ar_geti X dX7_fault_71 fg_X7_211 rfl (L7_s0 hL) ?_
    refine ar_goto (tgt := 79) X dX7_fault_74 (by decide) ?_
    cases hf
    exact ar_iret X dX7_fault_79 hR (Nat.le_refl _) (Nat.le_refl _)
def f_X7_fault_h19 (o : Nat) : Nat → aI → Option (Int32 × aI)
  | 0, _ => none
  | n + 1, I =>
    if (I o 10) = 0 then (
      am_b1 (f_X7_next o I) fun r2 =>
      if r2 = (44 : Int32) then (
        am_let (am_w I o 9 ((I o 9) + (1 : Int32))) fun I4 =>
        am_b1 (f_X7_takeAct o I4) fun I5 =>
        f_X7_fault_h19 o n I5)
      else (
        f_X7_fault_b52 o I))
    else (
      f_X7_fault_b52 o I)
set_option maxRecDepth 100000 in
set_option maxHeartbeats 4000000 in
theorem ab_X7_fault_h19 {K : aK} {sh : aS} {P : aP} {J : aJ} {o : Nat} (X : am_C K cX7_fault 1 RX7 "fault" ({ frames := 3, cells := 0, slots := 0, locals := 67 } : Room)) (hL : L7 sh P o) {r : Int32} {I9 : aI} (hR : am_R K (some .int) (some (.int r)) sh P I9 J 0 0) : ∀ (n : Nat)  (I : aI) , f_X7_fault_h19 o n I = some (r, I9) → AW K 1 19 [(0, .ref o)] [] sh P I J 0 0 := by
  intro n
  induction n with
  | zero =>
    intro I hf
    cases hf
  | succ n ih =>
    intro I hf
    rw [f_X7_fault_h19] at hf
    refine ar_aload_n X dX7_fault_19 rfl 0 rfl ?_
    refine ar_geti X dX7_fault_20 fg_X7_214 rfl (L7_s0 hL) ?_
    refine ar_if_ne (tgt := 52) X dX7_fault_23 (by decide) hf (fun h1 hf => ?_) (fun h1 hf => ?_)
    · refine ar_aload_n X dX7_fault_26 rfl 0 rfl ?_
      obtain ⟨r2, h2, hf⟩ := am_b1_e hf
      refine ar_cVi (As := []) (st := []) X dX7_fault_27 (am_X7_next hL h2) lk_X7_218 mt_X7_next mi_X7_next (L7_s0 hL) rfl rfl (Nat.le_of_ble_eq_true rfl) ⟨by decide, by decide⟩ ⟨Nat.zero_le _, Nat.zero_le _⟩ rfl ?_
      refine ar_bipush (v := 44) X dX7_fault_30 (by decide) ?_
      refine ar_icmp_ne (tgt := 52) X dX7_fault_32 (by decide) hf (fun h3 hf => ?_) (fun h3 hf => ?_)
      · refine ar_aload_n X dX7_fault_35 rfl 0 rfl ?_
        refine ar_dup X dX7_fault_36 rfl ?_
        refine ar_geti X dX7_fault_37 fg_X7_211 rfl (L7_s0 hL) ?_
        refine ar_iconst (v := 1) X dX7_fault_40 (by decide) ?_
        refine ar_iadd X dX7_fault_41 ?_
        refine ar_puti X dX7_fault_42 fd_X7_211 rfl ⟨rfl, rfl⟩ (L7_s0 hL) hf (fun I4 hf => ?_)
        refine ar_aload_n X dX7_fault_45 rfl 0 rfl ?_
        obtain ⟨I5, h5, hf⟩ := am_b1_e hf
        refine ar_cVv (As := []) (st := []) X dX7_fault_46 (am_X7_takeAct hL h5) lk_X7_230 mt_X7_takeAct mi_X7_takeAct (L7_s0 hL) rfl rfl (Nat.le_of_ble_eq_true rfl) ⟨by decide, by decide⟩ ⟨Nat.zero_le _, Nat.zero_le _⟩ rfl ?_
        refine ar_goto (tgt := 19) X dX7_fault_49 (by decide) ?_
        exact ih I5 hf
      · exact ab_X7_fault_b52 X hL hR I hf
    · exact ab_X7_fault_b52 X hL hR I hf
def f_X7_fault (o : Nat)  (I : aI) : Option (Int32 × aI) :=
  am_let (am_w I o 9 (0 : Int32)) fun I1 =>
  am_let (am_w I1 o 10 (0 : Int32)) fun I2 =>
  am_let (am_w I2 o 12 (0 : Int32)) fun I3 =>
  am_b1 (f_X7_takeAct o I3) fun I4 =>
  f_X7_fault_h19 o am_F I4
set_option maxRecDepth 100000 in
set_option maxHeartbeats 4000000 in
theorem am_X7_fault {sh : aS} {P : aP} {I : aI} {J : aJ} {o : Nat} (hL : L7 sh P o)  {r : Int32} {I9 : aI} (hf : f_X7_fault o I = some (r, I9)) : AM yX7_fault cX7_fault 1 (some .int) 3 67 [.ref o] sh P I J (some (.int r)) sh P I9 J 0 0 := by
  refine am_met (by decide +kernel) (Nat.le_of_ble_eq_true rfl) (fun K X hR => ?_)
  have X : am_C K cX7_fault 1 RX7 "fault" ({ frames := 3, cells := 0, slots := 0, locals := 67 } : Room) := X
  show AW K 1 0 [(0, .ref o)] [] sh P I J 0 0
  unfold f_X7_fault at hf
  refine ar_aload_n X dX7_fault_0 rfl 0 rfl ?_
  refine ar_iconst (v := 0) X dX7_fault_1 (by decide) ?_
  refine ar_puti X dX7_fault_2 fd_X7_211 rfl ⟨rfl, rfl⟩ (L7_s0 hL) hf (fun I1 hf => ?_)
  refine ar_aload_n X dX7_fault_5 rfl 0 rfl ?_
  refine ar_iconst (v := 0) X dX7_fault_6 (by decide) ?_
  refine ar_puti X dX7_fault_7 fd_X7_214 rfl ⟨rfl, rfl⟩ (L7_s0 hL) hf (fun I2 hf => ?_)
  refine ar_aload_n X dX7_fault_10 rfl 0 rfl ?_
  refine ar_iconst (v := 0) X dX7_fault_11 (by decide) ?_
  refine ar_puti X dX7_fault_12 fd_X7_221 rfl ⟨rfl, rfl⟩ (L7_s0 hL) hf (fun I3 hf => ?_)
  refine ar_aload_n X dX7_fault_15 rfl 0 rfl ?_
  obtain ⟨I4, h4, hf⟩ := am_b1_e hf
  refine ar_cVv (As := []) (st := []) X dX7_fault_16 (am_X7_takeAct hL h4) lk_X7_230 mt_X7_takeAct mi_X7_takeAct (L7_s0 hL) rfl rfl (Nat.le_of_ble_eq_true rfl) ⟨by decide, by decide⟩ ⟨Nat.zero_le _, Nat.zero_le _⟩ rfl ?_
  exact ab_X7_fault_h19 X hL hR am_F I4 hf
def f_X7_pass_b50 (o : Nat) (l1 : Int32) (I : aI) : Option (Int32 × aI) :=
  if (I (o + 1) 4) = 0 then (
    am_b2 (f_X7_passOpen o l1 I) fun r2 I2 =>
    some (r2, I2))
  else (
    am_b2 (f_X7_fall o I) fun r3 I3 =>
    some (r3, I3))
set_option maxRecDepth 100000 in
set_option maxHeartbeats 4000000 in
theorem ab_X7_pass_b50 {K : aK} {sh : aS} {P : aP} {J : aJ} {o : Nat} (X : am_C K cX7_pass 2 RX7 "pass" ({ frames := 6, cells := 0, slots := 0, locals := 134 } : Room)) (hL : L7 sh P o) {r : Int32} {I9 : aI} (hR : am_R K (some .int) (some (.int r)) sh P I9 J 0 0) (l1 : Int32) (I : aI) (hf : f_X7_pass_b50 o l1 I = some (r, I9)) : AW K 2 50 [(0, .ref o), (1, .int l1)] [] sh P I J 0 0 := by
  unfold f_X7_pass_b50 at hf
  refine ar_aload_n X dX7_pass_50 rfl 0 rfl ?_
  refine ar_getr X dX7_pass_51 fg_X7_7 rfl (L7_s0 hL) (L7_p0_0 hL) ?_
  refine ar_iconst (v := 4) X dX7_pass_54 (by decide) ?_
  refine ar_ialdK (k := 4) X dX7_pass_55 (L7_s1 hL) (by decide) (by decide) ?_
  refine ar_if_ne (tgt := 67) X dX7_pass_56 (by decide) hf (fun h1 hf => ?_) (fun h1 hf => ?_)
  · refine ar_aload_n X dX7_pass_59 rfl 0 rfl ?_
    refine ar_iload_n X dX7_pass_60 rfl 1 rfl ?_
    obtain ⟨r2, I2, h2, hf⟩ := am_b2_e hf
    refine ar_cVi (As := [.int l1]) (st := []) X dX7_pass_61 (am_X7_passOpen hL h2) lk_X7_139 mt_X7_passOpen mi_X7_passOpen (L7_s0 hL) rfl rfl (Nat.le_of_ble_eq_true rfl) ⟨by decide, by decide⟩ ⟨Nat.zero_le _, Nat.zero_le _⟩ rfl ?_
    refine ar_goto (tgt := 71) X dX7_pass_64 (by decide) ?_
    cases hf
    exact ar_iret X dX7_pass_71 hR (Nat.le_refl _) (Nat.le_refl _)
  · refine ar_aload_n X dX7_pass_67 rfl 0 rfl ?_
    obtain ⟨r3, I3, h3, hf⟩ := am_b2_e hf
    refine ar_cVi (As := []) (st := []) X dX7_pass_68 (am_X7_fall hL h3) lk_X7_142 mt_X7_fall mi_X7_fall (L7_s0 hL) rfl rfl (Nat.le_of_ble_eq_true rfl) ⟨by decide, by decide⟩ ⟨Nat.zero_le _, Nat.zero_le _⟩ rfl ?_
    cases hf
    exact ar_iret X dX7_pass_71 hR (Nat.le_refl _) (Nat.le_refl _)
def f_X7_pass (o : Nat) (a1 : Int32) (I : aI) : Option (Int32 × aI) :=
  am_b1 (f_X7_isPlayer o a1 I) fun r1 =>
  if r1 = 0 then (
    some ((-1 : Int32), I))
  else (
    am_b1 (f_X7_goes o I) fun r3 =>
    if r3 = 0 then (
      some ((-5 : Int32), I))
    else (
      if (I (o + 1) 4) = (1 : Int32) then (
        some ((-5 : Int32), I))
      else (
        if (I (o + 1) 4) = 0 then (
          if (I (o + 1) 8) = a1 then (
            f_X7_pass_b50 o a1 I)
          else (
            some ((-5 : Int32), I)))
        else (
          f_X7_pass_b50 o a1 I))))
set_option maxRecDepth 100000 in
set_option maxHeartbeats 4000000 in
theorem am_X7_pass {sh : aS} {P : aP} {I : aI} {J : aJ} {o : Nat} (hL : L7 sh P o) {a1 : Int32} {r : Int32} {I9 : aI} (hf : f_X7_pass o a1 I = some (r, I9)) : AM yX7_pass cX7_pass 2 (some .int) 6 134 [.ref o, .int a1] sh P I J (some (.int r)) sh P I9 J 0 0 := by
  refine am_met (by decide +kernel) (Nat.le_of_ble_eq_true rfl) (fun K X hR => ?_)
  have X : am_C K cX7_pass 2 RX7 "pass" ({ frames := 6, cells := 0, slots := 0, locals := 134 } : Room) := X
  show AW K 2 0 [(0, .ref o), (1, .int a1)] [] sh P I J 0 0
  unfold f_X7_pass at hf
  refine ar_aload_n X dX7_pass_0 rfl 0 rfl ?_
  refine ar_iload_n X dX7_pass_1 rfl 1 rfl ?_
  obtain ⟨r1, h1, hf⟩ := am_b1_e hf
  refine ar_cVi (As := [.int a1]) (st := []) X dX7_pass_2 (am_X7_isPlayer hL h1) lk_X7_66 mt_X7_isPlayer mi_X7_isPlayer (L7_s0 hL) rfl rfl (Nat.le_of_ble_eq_true rfl) ⟨by decide, by decide⟩ ⟨Nat.zero_le _, Nat.zero_le _⟩ rfl ?_
  refine ar_if_ne (tgt := 10) X dX7_pass_5 (by decide) hf (fun h2 hf => ?_) (fun h2 hf => ?_)
  · refine ar_iconst (v := -1) X dX7_pass_8 (by decide) ?_
    cases hf
    exact ar_iret X dX7_pass_9 hR (Nat.le_refl _) (Nat.le_refl _)
  · refine ar_aload_n X dX7_pass_10 rfl 0 rfl ?_
    obtain ⟨r3, h3, hf⟩ := am_b1_e hf
    refine ar_cVi (As := []) (st := []) X dX7_pass_11 (am_X7_goes hL h3) lk_X7_62 mt_X7_goes mi_X7_goes (L7_s0 hL) rfl rfl (Nat.le_of_ble_eq_true rfl) ⟨by decide, by decide⟩ ⟨Nat.zero_le _, Nat.zero_le _⟩ rfl ?_
    refine ar_if_eq (tgt := 47) X dX7_pass_14 (by decide) hf (fun h4 hf => ?_) (fun h4 hf => ?_)
    · refine ar_bipush (v := -5) X dX7_pass_47 (by decide) ?_
      cases hf
      exact ar_iret X dX7_pass_49 hR (Nat.le_refl _) (Nat.le_refl _)
    · refine ar_aload_n X dX7_pass_17 rfl 0 rfl ?_
      refine ar_getr X dX7_pass_18 fg_X7_7 rfl (L7_s0 hL) (L7_p0_0 hL) ?_
      refine ar_iconst (v := 4) X dX7_pass_21 (by decide) ?_
      refine ar_ialdK (k := 4) X dX7_pass_22 (L7_s1 hL) (by decide) (by decide) ?_
      refine ar_iconst (v := 1) X dX7_pass_23 (by decide) ?_
      refine ar_icmp_eq (tgt := 47) X dX7_pass_24 (by decide) hf (fun h5 hf => ?_) (fun h5 hf => ?_)
      · refine ar_bipush (v := -5) X dX7_pass_47 (by decide) ?_
        cases hf
        exact ar_iret X dX7_pass_49 hR (Nat.le_refl _) (Nat.le_refl _)
      · refine ar_aload_n X dX7_pass_27 rfl 0 rfl ?_
        refine ar_getr X dX7_pass_28 fg_X7_7 rfl (L7_s0 hL) (L7_p0_0 hL) ?_
        refine ar_iconst (v := 4) X dX7_pass_31 (by decide) ?_
        refine ar_ialdK (k := 4) X dX7_pass_32 (L7_s1 hL) (by decide) (by decide) ?_
        refine ar_if_ne (tgt := 50) X dX7_pass_33 (by decide) hf (fun h6 hf => ?_) (fun h6 hf => ?_)
        · refine ar_aload_n X dX7_pass_36 rfl 0 rfl ?_
          refine ar_getr X dX7_pass_37 fg_X7_7 rfl (L7_s0 hL) (L7_p0_0 hL) ?_
          refine ar_bipush (v := 8) X dX7_pass_40 (by decide) ?_
          refine ar_ialdK (k := 8) X dX7_pass_42 (L7_s1 hL) (by decide) (by decide) ?_
          refine ar_iload_n X dX7_pass_43 rfl 1 rfl ?_
          refine ar_icmp_eq (tgt := 50) X dX7_pass_44 (by decide) hf (fun h7 hf => ?_) (fun h7 hf => ?_)
          · exact ab_X7_pass_b50 X hL hR a1 I hf
          · refine ar_bipush (v := -5) X dX7_pass_47 (by decide) ?_
            cases hf
            exact ar_iret X dX7_pass_49 hR (Nat.le_refl _) (Nat.le_refl _)
        · exact ab_X7_pass_b50 X hL hR a1 I hf
def f_X7_move (o : Nat)  (I : aI) : Option (Int32 × aI) :=
  am_b1 (f_X7_goes o I) fun r1 =>
  if r1 = 0 then (
    some ((-5 : Int32), I))
  else (
    am_b2 (f_X7_makeMove o I) fun r3 I3 =>
    some (r3, I3))
set_option maxRecDepth 100000 in
set_option maxHeartbeats 4000000 in
theorem am_X7_move {sh : aS} {P : aP} {I : aI} {J : aJ} {o : Nat} (hL : L7 sh P o)  {r : Int32} {I9 : aI} (hf : f_X7_move o I = some (r, I9)) : AM yX7_move cX7_move 1 (some .int) 7 158 [.ref o] sh P I J (some (.int r)) sh P I9 J 0 0 := by
  refine am_met (by decide +kernel) (Nat.le_of_ble_eq_true rfl) (fun K X hR => ?_)
  have X : am_C K cX7_move 1 RX7 "move" ({ frames := 7, cells := 0, slots := 0, locals := 158 } : Room) := X
  show AW K 1 0 [(0, .ref o)] [] sh P I J 0 0
  unfold f_X7_move at hf
  refine ar_aload_n X dX7_move_0 rfl 0 rfl ?_
  obtain ⟨r1, h1, hf⟩ := am_b1_e hf
  refine ar_cVi (As := []) (st := []) X dX7_move_1 (am_X7_goes hL h1) lk_X7_62 mt_X7_goes mi_X7_goes (L7_s0 hL) rfl rfl (Nat.le_of_ble_eq_true rfl) ⟨by decide, by decide⟩ ⟨Nat.zero_le _, Nat.zero_le _⟩ rfl ?_
  refine ar_if_eq (tgt := 14) X dX7_move_4 (by decide) hf (fun h2 hf => ?_) (fun h2 hf => ?_)
  · refine ar_bipush (v := -5) X dX7_move_14 (by decide) ?_
    cases hf
    exact ar_iret X dX7_move_16 hR (Nat.le_refl _) (Nat.le_refl _)
  · refine ar_aload_n X dX7_move_7 rfl 0 rfl ?_
    obtain ⟨r3, I3, h3, hf⟩ := am_b2_e hf
    refine ar_cVi (As := []) (st := []) X dX7_move_8 (am_X7_makeMove hL h3) lk_X7_157 mt_X7_makeMove mi_X7_makeMove (L7_s0 hL) rfl rfl (Nat.le_of_ble_eq_true rfl) ⟨by decide, by decide⟩ ⟨Nat.zero_le _, Nat.zero_le _⟩ rfl ?_
    refine ar_goto (tgt := 16) X dX7_move_11 (by decide) ?_
    cases hf
    exact ar_iret X dX7_move_16 hR (Nat.le_refl _) (Nat.le_refl _)
def f_X7_last (o : Nat)  (I : aI) : Option (Int32 × aI) :=
  am_b1 (f_X7_isLastNext o I) fun r1 =>
  if r1 = 0 then (
    some ((-5 : Int32), I))
  else (
    am_b1 (f_X7_goes o I) fun r3 =>
    if r3 = 0 then (
      am_b2 (f_X7_giveLast o I) fun r5 I5 =>
      some (r5, I5))
    else (
      some ((-5 : Int32), I)))
set_option maxRecDepth 100000 in
set_option maxHeartbeats 4000000 in
theorem am_X7_last {sh : aS} {P : aP} {I : aI} {J : aJ} {o : Nat} (hL : L7 sh P o)  {r : Int32} {I9 : aI} (hf : f_X7_last o I = some (r, I9)) : AM yX7_last cX7_last 1 (some .int) 4 89 [.ref o] sh P I J (some (.int r)) sh P I9 J 0 0 := by
  refine am_met (by decide +kernel) (Nat.le_of_ble_eq_true rfl) (fun K X hR => ?_)
  have X : am_C K cX7_last 1 RX7 "last" ({ frames := 4, cells := 0, slots := 0, locals := 89 } : Room) := X
  show AW K 1 0 [(0, .ref o)] [] sh P I J 0 0
  unfold f_X7_last at hf
  refine ar_aload_n X dX7_last_0 rfl 0 rfl ?_
  obtain ⟨r1, h1, hf⟩ := am_b1_e hf
  refine ar_cVi (As := []) (st := []) X dX7_last_1 (am_X7_isLastNext hL h1) lk_X7_96 mt_X7_isLastNext mi_X7_isLastNext (L7_s0 hL) rfl rfl (Nat.le_of_ble_eq_true rfl) ⟨by decide, by decide⟩ ⟨Nat.zero_le _, Nat.zero_le _⟩ rfl ?_
  refine ar_if_eq (tgt := 21) X dX7_last_4 (by decide) hf (fun h2 hf => ?_) (fun h2 hf => ?_)
  · refine ar_bipush (v := -5) X dX7_last_21 (by decide) ?_
    cases hf
    exact ar_iret X dX7_last_23 hR (Nat.le_refl _) (Nat.le_refl _)
  · refine ar_aload_n X dX7_last_7 rfl 0 rfl ?_
    obtain ⟨r3, h3, hf⟩ := am_b1_e hf
    refine ar_cVi (As := []) (st := []) X dX7_last_8 (am_X7_goes hL h3) lk_X7_62 mt_X7_goes mi_X7_goes (L7_s0 hL) rfl rfl (Nat.le_of_ble_eq_true rfl) ⟨by decide, by decide⟩ ⟨Nat.zero_le _, Nat.zero_le _⟩ rfl ?_
    refine ar_if_ne (tgt := 21) X dX7_last_11 (by decide) hf (fun h4 hf => ?_) (fun h4 hf => ?_)
    · refine ar_aload_n X dX7_last_14 rfl 0 rfl ?_
      obtain ⟨r5, I5, h5, hf⟩ := am_b2_e hf
      refine ar_cVi (As := []) (st := []) X dX7_last_15 (am_X7_giveLast hL h5) lk_X7_160 mt_X7_giveLast mi_X7_giveLast (L7_s0 hL) rfl rfl (Nat.le_of_ble_eq_true rfl) ⟨by decide, by decide⟩ ⟨Nat.zero_le _, Nat.zero_le _⟩ rfl ?_
      refine ar_goto (tgt := 23) X dX7_last_18 (by decide) ?_
      cases hf
      exact ar_iret X dX7_last_23 hR (Nat.le_refl _) (Nat.le_refl _)
    · refine ar_bipush (v := -5) X dX7_last_21 (by decide) ?_
      cases hf
      exact ar_iret X dX7_last_23 hR (Nat.le_refl _) (Nat.le_refl _)
def f_X7_does (o : Nat) (a1 : Int32) (I : aI) : Option (Int32 × aI) :=
  am_g (am_ok a1 93) (
  if (I (o + 9) (Int32.toNatClampNeg a1)) = (98 : Int32) then (
    am_g (am_ok (a1 + (1 : Int32)) 93) (
    am_g (am_ok (a1 + (2 : Int32)) 93) (
    am_b2 (f_X7_bid o (I (o + 9) (Int32.toNatClampNeg (a1 + (1 : Int32)))) (I (o + 9) (Int32.toNatClampNeg (a1 + (2 : Int32)))) I) fun r2 I2 =>
    some (r2, I2))))
  else if (I (o + 9) (Int32.toNatClampNeg a1)) = (109 : Int32) then (
    am_b2 (f_X7_move o I) fun r4 I4 =>
    some (r4, I4))
  else if (I (o + 9) (Int32.toNatClampNeg a1)) = (112 : Int32) then (
    am_g (am_ok (a1 + (1 : Int32)) 93) (
    am_b2 (f_X7_pass o (I (o + 9) (Int32.toNatClampNeg (a1 + (1 : Int32)))) I) fun r6 I6 =>
    some (r6, I6)))
  else if (I (o + 9) (Int32.toNatClampNeg a1)) = (115 : Int32) then (
    am_g (am_ok (a1 + (1 : Int32)) 93) (
    am_g (am_ok (a1 + (2 : Int32)) 93) (
    am_b2 (f_X7_begin o (I (o + 9) (Int32.toNatClampNeg (a1 + (1 : Int32)))) (I (o + 9) (Int32.toNatClampNeg (a1 + (2 : Int32)))) I) fun r8 I8 =>
    some (r8, I8))))
  else (
    am_b2 (f_X7_last o I) fun r9 I9 =>
  some (r9, I9)))
set_option maxRecDepth 100000 in
set_option maxHeartbeats 4000000 in
theorem am_X7_does {sh : aS} {P : aP} {I : aI} {J : aJ} {o : Nat} (hL : L7 sh P o) {a1 : Int32} {r : Int32} {I9 : aI} (hf : f_X7_does o a1 I = some (r, I9)) : AM yX7_does cX7_does 2 (some .int) 8 178 [.ref o, .int a1] sh P I J (some (.int r)) sh P I9 J 0 0 := by
  refine am_met (by decide +kernel) (Nat.le_of_ble_eq_true rfl) (fun K X hR => ?_)
  have X : am_C K cX7_does 2 RX7 "does" ({ frames := 8, cells := 0, slots := 0, locals := 178 } : Room) := X
  show AW K 2 0 [(0, .ref o), (1, .int a1)] [] sh P I J 0 0
  unfold f_X7_does at hf
  refine ar_aload_n X dX7_does_0 rfl 0 rfl ?_
  refine ar_getr X dX7_does_1 fg_X7_36 rfl (L7_s0 hL) (L7_p0_11 hL) ?_
  refine ar_iload_n X dX7_does_4 rfl 1 rfl ?_
  refine ar_iald X dX7_does_5 (L7_s9 hL) hf (fun hf => ?_)
  rcases am_ite hf with ⟨h1, hf⟩ | ⟨h1, hf⟩
  · refine ar_lookup (tgt := 69) X dX7_does_6 (by decide) (by rw [h1] <;> rfl) (by decide) ?_
    refine ar_aload_n X dX7_does_69 rfl 0 rfl ?_
    refine ar_aload_n X dX7_does_70 rfl 0 rfl ?_
    refine ar_getr X dX7_does_71 fg_X7_36 rfl (L7_s0 hL) (L7_p0_11 hL) ?_
    refine ar_iload_n X dX7_does_74 rfl 1 rfl ?_
    refine ar_iconst (v := 1) X dX7_does_75 (by decide) ?_
    refine ar_iadd X dX7_does_76 ?_
    refine ar_iald X dX7_does_77 (L7_s9 hL) hf (fun hf => ?_)
    refine ar_aload_n X dX7_does_78 rfl 0 rfl ?_
    refine ar_getr X dX7_does_79 fg_X7_36 rfl (L7_s0 hL) (L7_p0_11 hL) ?_
    refine ar_iload_n X dX7_does_82 rfl 1 rfl ?_
    refine ar_iconst (v := 2) X dX7_does_83 (by decide) ?_
    refine ar_iadd X dX7_does_84 ?_
    refine ar_iald X dX7_does_85 (L7_s9 hL) hf (fun hf => ?_)
    obtain ⟨r2, I2, h2, hf⟩ := am_b2_e hf
    refine ar_cVi (As := [.int (I (o + 9) (Int32.toNatClampNeg (a1 + (1 : Int32)))), .int (I (o + 9) (Int32.toNatClampNeg (a1 + (2 : Int32))))]) (st := []) X dX7_does_86 (am_X7_bid hL h2) lk_X7_236 mt_X7_bid mi_X7_bid (L7_s0 hL) rfl rfl (Nat.le_of_ble_eq_true rfl) ⟨by decide, by decide⟩ ⟨Nat.zero_le _, Nat.zero_le _⟩ rfl ?_
    cases hf
    exact ar_iret X dX7_does_89 hR (Nat.le_refl _) (Nat.le_refl _)
  rcases am_ite hf with ⟨h3, hf⟩ | ⟨h3, hf⟩
  · refine ar_lookup (tgt := 103) X dX7_does_6 (by decide) (by rw [h3] <;> rfl) (by decide) ?_
    refine ar_aload_n X dX7_does_103 rfl 0 rfl ?_
    obtain ⟨r4, I4, h4, hf⟩ := am_b2_e hf
    refine ar_cVi (As := []) (st := []) X dX7_does_104 (am_X7_move hL h4) lk_X7_242 mt_X7_move mi_X7_move (L7_s0 hL) rfl rfl (Nat.le_of_ble_eq_true rfl) ⟨by decide, by decide⟩ ⟨Nat.zero_le _, Nat.zero_le _⟩ rfl ?_
    cases hf
    exact ar_iret X dX7_does_107 hR (Nat.le_refl _) (Nat.le_refl _)
  rcases am_ite hf with ⟨h5, hf⟩ | ⟨h5, hf⟩
  · refine ar_lookup (tgt := 90) X dX7_does_6 (by decide) (by rw [h5] <;> rfl) (by decide) ?_
    refine ar_aload_n X dX7_does_90 rfl 0 rfl ?_
    refine ar_aload_n X dX7_does_91 rfl 0 rfl ?_
    refine ar_getr X dX7_does_92 fg_X7_36 rfl (L7_s0 hL) (L7_p0_11 hL) ?_
    refine ar_iload_n X dX7_does_95 rfl 1 rfl ?_
    refine ar_iconst (v := 1) X dX7_does_96 (by decide) ?_
    refine ar_iadd X dX7_does_97 ?_
    refine ar_iald X dX7_does_98 (L7_s9 hL) hf (fun hf => ?_)
    obtain ⟨r6, I6, h6, hf⟩ := am_b2_e hf
    refine ar_cVi (As := [.int (I (o + 9) (Int32.toNatClampNeg (a1 + (1 : Int32))))]) (st := []) X dX7_does_99 (am_X7_pass hL h6) lk_X7_239 mt_X7_pass mi_X7_pass (L7_s0 hL) rfl rfl (Nat.le_of_ble_eq_true rfl) ⟨by decide, by decide⟩ ⟨Nat.zero_le _, Nat.zero_le _⟩ rfl ?_
    cases hf
    exact ar_iret X dX7_does_102 hR (Nat.le_refl _) (Nat.le_refl _)
  rcases am_ite hf with ⟨h7, hf⟩ | ⟨h7, hf⟩
  · refine ar_lookup (tgt := 48) X dX7_does_6 (by decide) (by rw [h7] <;> rfl) (by decide) ?_
    refine ar_aload_n X dX7_does_48 rfl 0 rfl ?_
    refine ar_aload_n X dX7_does_49 rfl 0 rfl ?_
    refine ar_getr X dX7_does_50 fg_X7_36 rfl (L7_s0 hL) (L7_p0_11 hL) ?_
    refine ar_iload_n X dX7_does_53 rfl 1 rfl ?_
    refine ar_iconst (v := 1) X dX7_does_54 (by decide) ?_
    refine ar_iadd X dX7_does_55 ?_
    refine ar_iald X dX7_does_56 (L7_s9 hL) hf (fun hf => ?_)
    refine ar_aload_n X dX7_does_57 rfl 0 rfl ?_
    refine ar_getr X dX7_does_58 fg_X7_36 rfl (L7_s0 hL) (L7_p0_11 hL) ?_
    refine ar_iload_n X dX7_does_61 rfl 1 rfl ?_
    refine ar_iconst (v := 2) X dX7_does_62 (by decide) ?_
    refine ar_iadd X dX7_does_63 ?_
    refine ar_iald X dX7_does_64 (L7_s9 hL) hf (fun hf => ?_)
    obtain ⟨r8, I8, h8, hf⟩ := am_b2_e hf
    refine ar_cVi (As := [.int (I (o + 9) (Int32.toNatClampNeg (a1 + (1 : Int32)))), .int (I (o + 9) (Int32.toNatClampNeg (a1 + (2 : Int32))))]) (st := []) X dX7_does_65 (am_X7_begin hL h8) lk_X7_233 mt_X7_begin mi_X7_begin (L7_s0 hL) rfl rfl (Nat.le_of_ble_eq_true rfl) ⟨by decide, by decide⟩ ⟨Nat.zero_le _, Nat.zero_le _⟩ rfl ?_
    cases hf
    exact ar_iret X dX7_does_68 hR (Nat.le_refl _) (Nat.le_refl _)
  refine ar_lookup (tgt := 108) (off := 102) X dX7_does_6 (by decide) ?_ (by decide) ?_
  · simp only [Op.lookupswitch.offset]
    have h1' : ¬ (I (o + 9) (Int32.toNatClampNeg a1)).toInt = 98 := fun h => h1 (Int32.toInt_inj.mp h)
    have h1'' : ¬ 98 = (I (o + 9) (Int32.toNatClampNeg a1)).toInt := fun h => h1' h.symm
    have h3' : ¬ (I (o + 9) (Int32.toNatClampNeg a1)).toInt = 109 := fun h => h3 (Int32.toInt_inj.mp h)
    have h3'' : ¬ 109 = (I (o + 9) (Int32.toNatClampNeg a1)).toInt := fun h => h3' h.symm
    have h5' : ¬ (I (o + 9) (Int32.toNatClampNeg a1)).toInt = 112 := fun h => h5 (Int32.toInt_inj.mp h)
    have h5'' : ¬ 112 = (I (o + 9) (Int32.toNatClampNeg a1)).toInt := fun h => h5' h.symm
    have h7' : ¬ (I (o + 9) (Int32.toNatClampNeg a1)).toInt = 115 := fun h => h7 (Int32.toInt_inj.mp h)
    have h7'' : ¬ 115 = (I (o + 9) (Int32.toNatClampNeg a1)).toInt := fun h => h7' h.symm
    simp [h1', h1'', h3', h3'', h5', h5'', h7', h7'']
  refine ar_aload_n X dX7_does_108 rfl 0 rfl ?_
  obtain ⟨r9, I9, h9, hf⟩ := am_b2_e hf
  refine ar_cVi (As := []) (st := []) X dX7_does_109 (am_X7_last hL h9) lk_X7_245 mt_X7_last mi_X7_last (L7_s0 hL) rfl rfl (Nat.le_of_ble_eq_true rfl) ⟨by decide, by decide⟩ ⟨Nat.zero_le _, Nat.zero_le _⟩ rfl ?_
  cases hf
  exact ar_iret X dX7_does_112 hR (Nat.le_refl _) (Nat.le_refl _)
def f_X7_carryOut_b51 (o : Nat) (kh : Int32 → Int32 → aI → Option (Int32 × aI)) (l1 : Int32) (s0 : Int32) (I : aI) : Option (Int32 × aI) :=
  if s0 = 0 then (
    am_let (l1 + (0 : Int32)) fun x2 =>
    kh x2 s0 I)
  else (
    am_let (l1 + (1 : Int32)) fun x3 =>
    kh x3 s0 I)
set_option maxRecDepth 100000 in
set_option maxHeartbeats 4000000 in
theorem ab_X7_carryOut_b51 {K : aK} {sh : aS} {P : aP} {J : aJ} {o : Nat} (X : am_C K cX7_carryOut 4 RX7 "carryOut" ({ frames := 9, cells := 0, slots := 0, locals := 199 } : Room)) (hL : L7 sh P o) {r : Int32} {I9 : aI} (hR : am_R K (some .int) (some (.int r)) sh P I9 J 0 0) {kh : Int32 → Int32 → aI → Option (Int32 × aI)} (hk : ∀ (l1 : Int32) (l2 : Int32) (I : aI) , kh l1 l2 I = some (r, I9) → AW K 4 16 [(0, .ref o), (1, .int l1), (2, .int l2)] [] sh P I J 0 0) (l1 : Int32) (s0 : Int32) (I : aI) (hf : f_X7_carryOut_b51 o kh l1 s0 I = some (r, I9)) : AW K 4 51 [(0, .ref o), (1, .int l1)] [.int s0] sh P I J 0 0 := by
  unfold f_X7_carryOut_b51 at hf
  refine ar_istore_n X dX7_carryOut_51 rfl (by decide) rfl ?_
  refine ar_iload_n X dX7_carryOut_52 rfl 2 rfl ?_
  refine ar_iload_n X dX7_carryOut_53 rfl 0 rfl ?_
  refine ar_if_eq (tgt := 61) X dX7_carryOut_54 (by decide) hf (fun h1 hf => ?_) (fun h1 hf => ?_)
  · refine ar_iconst (v := 0) X dX7_carryOut_61 (by decide) ?_
    refine ar_iadd X dX7_carryOut_62 ?_
    refine ar_letI hf (fun x2 hf => ?_)
    refine ar_istore_n X dX7_carryOut_63 rfl (by decide) rfl ?_
    refine ar_goto (tgt := 16) X dX7_carryOut_64 (by decide) ?_
    refine ar_lo [2, 0, 1] rfl ?_
    exact hk x2 s0 I hf
  · refine ar_iconst (v := 1) X dX7_carryOut_57 (by decide) ?_
    refine ar_goto (tgt := 62) X dX7_carryOut_58 (by decide) ?_
    refine ar_iadd X dX7_carryOut_62 ?_
    refine ar_letI hf (fun x3 hf => ?_)
    refine ar_istore_n X dX7_carryOut_63 rfl (by decide) rfl ?_
    refine ar_goto (tgt := 16) X dX7_carryOut_64 (by decide) ?_
    refine ar_lo [2, 0, 1] rfl ?_
    exact hk x3 s0 I hf
def f_X7_carryOut_h16 (o : Nat) : Nat → Int32 → Int32 → aI → Option (Int32 × aI)
  | 0, _, _, _ => none
  | n + 1, l1, l2, I =>
    if l2 = 0 then (
      am_let (am_w I o 5 (0 : Int32)) fun I2 =>
      some (l1, I2))
    else (
      if (I o 12) ≤ l1 then (
        am_let (am_w I o 5 (0 : Int32)) fun I4 =>
        some (l1, I4))
      else (
        am_b2 (f_X7_does o ((3 : Int32) * l1) I) fun r5 I5 =>
        if 0 ≤ r5 then (
          f_X7_carryOut_b51 o (f_X7_carryOut_h16 o n) l1 (1 : Int32) I5)
        else (
          if r5 = (-6 : Int32) then (
            f_X7_carryOut_b51 o (f_X7_carryOut_h16 o n) l1 (1 : Int32) I5)
          else (
            f_X7_carryOut_b51 o (f_X7_carryOut_h16 o n) l1 (0 : Int32) I5))))
set_option maxRecDepth 100000 in
set_option maxHeartbeats 4000000 in
theorem ab_X7_carryOut_h16 {K : aK} {sh : aS} {P : aP} {J : aJ} {o : Nat} (X : am_C K cX7_carryOut 4 RX7 "carryOut" ({ frames := 9, cells := 0, slots := 0, locals := 199 } : Room)) (hL : L7 sh P o) {r : Int32} {I9 : aI} (hR : am_R K (some .int) (some (.int r)) sh P I9 J 0 0) : ∀ (n : Nat) (l1 : Int32) (l2 : Int32) (I : aI) , f_X7_carryOut_h16 o n l1 l2 I = some (r, I9) → AW K 4 16 [(0, .ref o), (1, .int l1), (2, .int l2)] [] sh P I J 0 0 := by
  intro n
  induction n with
  | zero =>
    intro l1 l2 I hf
    cases hf
  | succ n ih =>
    intro l1 l2 I hf
    rw [f_X7_carryOut_h16] at hf
    refine ar_iload_n X dX7_carryOut_16 rfl 2 rfl ?_
    refine ar_if_eq (tgt := 67) X dX7_carryOut_17 (by decide) hf (fun h1 hf => ?_) (fun h1 hf => ?_)
    · refine ar_aload_n X dX7_carryOut_67 rfl 0 rfl ?_
      refine ar_iconst (v := 0) X dX7_carryOut_68 (by decide) ?_
      refine ar_puti X dX7_carryOut_69 fd_X7_178 rfl ⟨rfl, rfl⟩ (L7_s0 hL) hf (fun I2 hf => ?_)
      refine ar_iload_n X dX7_carryOut_72 rfl 1 rfl ?_
      cases hf
      exact ar_iret X dX7_carryOut_73 hR (Nat.le_refl _) (Nat.le_refl _)
    · refine ar_iload_n X dX7_carryOut_20 rfl 1 rfl ?_
      refine ar_aload_n X dX7_carryOut_21 rfl 0 rfl ?_
      refine ar_geti X dX7_carryOut_22 fg_X7_221 rfl (L7_s0 hL) ?_
      refine ar_icmp_ge (tgt := 67) X dX7_carryOut_25 (by decide) hf (fun h3 hf => ?_) (fun h3 hf => ?_)
      · refine ar_aload_n X dX7_carryOut_67 rfl 0 rfl ?_
        refine ar_iconst (v := 0) X dX7_carryOut_68 (by decide) ?_
        refine ar_puti X dX7_carryOut_69 fd_X7_178 rfl ⟨rfl, rfl⟩ (L7_s0 hL) hf (fun I4 hf => ?_)
        refine ar_iload_n X dX7_carryOut_72 rfl 1 rfl ?_
        cases hf
        exact ar_iret X dX7_carryOut_73 hR (Nat.le_refl _) (Nat.le_refl _)
      · refine ar_aload_n X dX7_carryOut_28 rfl 0 rfl ?_
        refine ar_iconst (v := 3) X dX7_carryOut_29 (by decide) ?_
        refine ar_iload_n X dX7_carryOut_30 rfl 1 rfl ?_
        refine ar_imul X dX7_carryOut_31 ?_
        obtain ⟨r5, I5, h5, hf⟩ := am_b2_e hf
        refine ar_cVi (As := [.int ((3 : Int32) * l1)]) (st := []) X dX7_carryOut_32 (am_X7_does hL h5) lk_X7_251 mt_X7_does mi_X7_does (L7_s0 hL) rfl rfl (Nat.le_of_ble_eq_true rfl) ⟨by decide, by decide⟩ ⟨Nat.zero_le _, Nat.zero_le _⟩ rfl ?_
        refine ar_istore_n X dX7_carryOut_35 rfl (by decide) rfl ?_
        refine ar_iload_n X dX7_carryOut_36 rfl 0 rfl ?_
        refine ar_if_ge (tgt := 46) X dX7_carryOut_37 (by decide) hf (fun h6 hf => ?_) (fun h6 hf => ?_)
        · refine ar_iconst (v := 1) X dX7_carryOut_46 (by decide) ?_
          refine ar_goto (tgt := 51) X dX7_carryOut_47 (by decide) ?_
          refine ar_lo [1, 2] rfl ?_
          exact ab_X7_carryOut_b51 X hL hR ih l1 (1 : Int32) I5 hf
        · refine ar_iload_n X dX7_carryOut_40 rfl 0 rfl ?_
          refine ar_bipush (v := -6) X dX7_carryOut_41 (by decide) ?_
          refine ar_icmp_ne (tgt := 50) X dX7_carryOut_43 (by decide) hf (fun h7 hf => ?_) (fun h7 hf => ?_)
          · refine ar_iconst (v := 1) X dX7_carryOut_46 (by decide) ?_
            refine ar_goto (tgt := 51) X dX7_carryOut_47 (by decide) ?_
            refine ar_lo [1, 2] rfl ?_
            exact ab_X7_carryOut_b51 X hL hR ih l1 (1 : Int32) I5 hf
          · refine ar_iconst (v := 0) X dX7_carryOut_50 (by decide) ?_
            refine ar_lo [1, 2] rfl ?_
            exact ab_X7_carryOut_b51 X hL hR ih l1 (0 : Int32) I5 hf
def f_X7_carryOut (o : Nat)  (I : aI) : Option (Int32 × aI) :=
  am_b2 (f_X7_fault o I) fun r1 I1 =>
  if r1 = (-6 : Int32) then (
    f_X7_carryOut_h16 o am_F (0 : Int32) (1 : Int32) I1)
  else (
    some ((-3 : Int32), I1))
set_option maxRecDepth 100000 in
set_option maxHeartbeats 4000000 in
theorem am_X7_carryOut {sh : aS} {P : aP} {I : aI} {J : aJ} {o : Nat} (hL : L7 sh P o)  {r : Int32} {I9 : aI} (hf : f_X7_carryOut o I = some (r, I9)) : AM yX7_carryOut cX7_carryOut 4 (some .int) 9 199 [.ref o] sh P I J (some (.int r)) sh P I9 J 0 0 := by
  refine am_met (by decide +kernel) (Nat.le_of_ble_eq_true rfl) (fun K X hR => ?_)
  have X : am_C K cX7_carryOut 4 RX7 "carryOut" ({ frames := 9, cells := 0, slots := 0, locals := 199 } : Room) := X
  show AW K 4 0 [(0, .ref o)] [] sh P I J 0 0
  unfold f_X7_carryOut at hf
  refine ar_aload_n X dX7_carryOut_0 rfl 0 rfl ?_
  obtain ⟨r1, I1, h1, hf⟩ := am_b2_e hf
  refine ar_cVi (As := []) (st := []) X dX7_carryOut_1 (am_X7_fault hL h1) lk_X7_248 mt_X7_fault mi_X7_fault (L7_s0 hL) rfl rfl (Nat.le_of_ble_eq_true rfl) ⟨by decide, by decide⟩ ⟨Nat.zero_le _, Nat.zero_le _⟩ rfl ?_
  refine ar_bipush (v := -6) X dX7_carryOut_4 (by decide) ?_
  refine ar_icmp_eq (tgt := 12) X dX7_carryOut_6 (by decide) hf (fun h2 hf => ?_) (fun h2 hf => ?_)
  · refine ar_iconst (v := 0) X dX7_carryOut_12 (by decide) ?_
    refine ar_istore_n X dX7_carryOut_13 rfl (by decide) rfl ?_
    refine ar_iconst (v := 1) X dX7_carryOut_14 (by decide) ?_
    refine ar_istore_n X dX7_carryOut_15 rfl (by decide) rfl ?_
    refine ar_lo [2, 1, 0] rfl ?_
    exact ab_X7_carryOut_h16 X hL hR am_F (0 : Int32) (1 : Int32) I1 hf
  · refine ar_bipush (v := -3) X dX7_carryOut_9 (by decide) ?_
    cases hf
    exact ar_iret X dX7_carryOut_11 hR (Nat.le_refl _) (Nat.le_refl _)
end
