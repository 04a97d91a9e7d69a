noncomputable section
def f_X2_worthOf (o : Nat) (a1 : Int32) (I : aI) : Option Int32 :=
  am_b1 (f_X2_hasLot o a1 I) fun r1 =>
  if r1 = 0 then (
    some (0 : Int32))
  else (
    am_g (am_ok a1 12) (
    some (I (o + 2) (Int32.toNatClampNeg a1))))
set_option maxRecDepth 100000 in
set_option maxHeartbeats 4000000 in
theorem am_X2_worthOf {sh : aS} {P : aP} {I : aI} {J : aJ} {o : Nat} (hL : L2 sh P o) {a1 : Int32} {r : Int32} (hf : f_X2_worthOf o a1 I = some r) : AM yX2_worthOf cX2_worthOf 2 (some .int) 1 21 [.ref o, .int a1] sh P I J (some (.int r)) sh P I J 0 0 := by
  refine am_met (by decide +kernel) (Nat.le_of_ble_eq_true rfl) (fun K X hR => ?_)
  have X : am_C K cX2_worthOf 2 RX2 "worthOf" ({ frames := 1, cells := 0, slots := 0, locals := 21 } : Room) := X
  show AW K 2 0 [(0, .ref o), (1, .int a1)] [] sh P I J 0 0
  unfold f_X2_worthOf at hf
  refine ar_aload_n X dX2_worthOf_0 rfl 0 rfl ?_
  refine ar_iload_n X dX2_worthOf_1 rfl 1 rfl ?_
  obtain ⟨r1, h1, hf⟩ := am_b1_e hf
  refine ar_cVi (As := [.int a1]) (st := []) X dX2_worthOf_2 (am_X2_hasLot hL h1) lk_X2_39 mt_X2_hasLot mi_X2_hasLot (L2_s0 hL) rfl rfl (Nat.le_of_ble_eq_true rfl) ⟨by decide, by decide⟩ ⟨Nat.zero_le _, Nat.zero_le _⟩ rfl ?_
  refine ar_if_eq (tgt := 17) X dX2_worthOf_5 (by decide) hf (fun h2 hf => ?_) (fun h2 hf => ?_)
  · refine ar_iconst (v := 0) X dX2_worthOf_17 (by decide) ?_
    cases hf
    exact ar_iret X dX2_worthOf_18 hR (Nat.le_refl _) (Nat.le_refl _)
  · refine ar_aload_n X dX2_worthOf_8 rfl 0 rfl ?_
    refine ar_getr X dX2_worthOf_9 fg_X2_15 rfl (L2_s0 hL) (L2_p0_3 hL) ?_
    refine ar_iload_n X dX2_worthOf_12 rfl 1 rfl ?_
    refine ar_iald X dX2_worthOf_13 (L2_s2 hL) hf (fun hf => ?_)
    refine ar_goto (tgt := 18) X dX2_worthOf_14 (by decide) ?_
    cases hf
    exact ar_iret X dX2_worthOf_18 hR (Nat.le_refl _) (Nat.le_refl _)
def f_X3_append (o : Nat) (a1 : Int32) (I : aI) : Option aI :=
  if (I o 1) < (60 : Int32) then (
    am_g (am_ok (I o 1) 60) (am_let (am_w I (o + 1) (Int32.toNatClampNeg (I o 1)) (vp_nar .char a1)) fun I2 =>
    am_let (am_w I2 o 1 ((I2 o 1) + (1 : Int32))) fun I3 =>
    some I3))
  else (
    some I)
set_option maxRecDepth 100000 in
set_option maxHeartbeats 4000000 in
theorem am_X3_append {sh : aS} {P : aP} {I : aI} {J : aJ} {o : Nat} (hL : L3 sh P o) {a1 : Int32} {I9 : aI} (hf : f_X3_append o a1 I = some I9) : AM yX3_append cX3_append 2 none 0 0 [.ref o, .int a1] sh P I J none sh P I9 J 0 0 := by
  refine am_met (by decide +kernel) (Nat.le_of_ble_eq_true rfl) (fun K X hR => ?_)
  have X : am_C K cX3_append 2 RX3 "append" ({ frames := 0, cells := 0, slots := 0, locals := 0 } : Room) := X
  show AW K 2 0 [(0, .ref o), (1, .int a1)] [] sh P I J 0 0
  unfold f_X3_append at hf
  refine ar_aload_n X dX3_append_0 rfl 0 rfl ?_
  refine ar_geti X dX3_append_1 fg_X3_15 rfl (L3_s0 hL) ?_
  refine ar_bipush (v := 60) X dX3_append_4 (by decide) ?_
  refine ar_icmp_lt (tgt := 10) X dX3_append_6 (by decide) hf (fun h1 hf => ?_) (fun h1 hf => ?_)
  · refine ar_aload_n X dX3_append_10 rfl 0 rfl ?_
    refine ar_getr X dX3_append_11 fg_X3_9 rfl (L3_s0 hL) (L3_p0_0 hL) ?_
    refine ar_aload_n X dX3_append_14 rfl 0 rfl ?_
    refine ar_geti X dX3_append_15 fg_X3_15 rfl (L3_s0 hL) ?_
    refine ar_iload_n X dX3_append_18 rfl 1 rfl ?_
    refine ar_cast X dX3_append_19 (L3_s1 hL) hf (fun I2 hf => ?_)
    refine ar_aload_n X dX3_append_20 rfl 0 rfl ?_
    refine ar_dup X dX3_append_21 rfl ?_
    refine ar_geti X dX3_append_22 fg_X3_15 rfl (L3_s0 hL) ?_
    refine ar_iconst (v := 1) X dX3_append_25 (by decide) ?_
    refine ar_iadd X dX3_append_26 ?_
    refine ar_puti X dX3_append_27 fd_X3_15 rfl ⟨rfl, rfl⟩ (L3_s0 hL) hf (fun I3 hf => ?_)
    cases hf
    exact ar_vret X dX3_append_30 hR (Nat.le_refl _) (Nat.le_refl _)
  · cases hf
    exact ar_vret X dX3_append_9 hR (Nat.le_refl _) (Nat.le_refl _)
def f_X3_signAt (o : Nat) (a1 : Int32) (I : aI) : Option Int32 :=
  if a1 < 0 then (
    some (0 : Int32))
  else (
    if (I o 1) ≤ a1 then (
      some (0 : Int32))
    else (
      am_g (am_ok a1 60) (
      some (I (o + 1) (Int32.toNatClampNeg a1)))))
set_option maxRecDepth 100000 in
set_option maxHeartbeats 4000000 in
theorem am_X3_signAt {sh : aS} {P : aP} {I : aI} {J : aJ} {o : Nat} (hL : L3 sh P o) {a1 : Int32} {r : Int32} (hf : f_X3_signAt o a1 I = some r) : AM yX3_signAt cX3_signAt 2 (some .int) 0 0 [.ref o, .int a1] sh P I J (some (.int r)) sh P I J 0 0 := by
  refine am_met (by decide +kernel) (Nat.le_of_ble_eq_true rfl) (fun K X hR => ?_)
  have X : am_C K cX3_signAt 2 RX3 "signAt" ({ frames := 0, cells := 0, slots := 0, locals := 0 } : Room) := X
  show AW K 2 0 [(0, .ref o), (1, .int a1)] [] sh P I J 0 0
  unfold f_X3_signAt at hf
  refine ar_iload_n X dX3_signAt_0 rfl 1 rfl ?_
  refine ar_if_lt (tgt := 21) X dX3_signAt_1 (by decide) hf (fun h1 hf => ?_) (fun h1 hf => ?_)
  · refine ar_iconst (v := 0) X dX3_signAt_21 (by decide) ?_
    cases hf
    exact ar_iret X dX3_signAt_22 hR (Nat.le_refl _) (Nat.le_refl _)
  · refine ar_iload_n X dX3_signAt_4 rfl 1 rfl ?_
    refine ar_aload_n X dX3_signAt_5 rfl 0 rfl ?_
    refine ar_geti X dX3_signAt_6 fg_X3_15 rfl (L3_s0 hL) ?_
    refine ar_icmp_ge (tgt := 21) X dX3_signAt_9 (by decide) hf (fun h2 hf => ?_) (fun h2 hf => ?_)
    · refine ar_iconst (v := 0) X dX3_signAt_21 (by decide) ?_
      cases hf
      exact ar_iret X dX3_signAt_22 hR (Nat.le_refl _) (Nat.le_refl _)
    · refine ar_aload_n X dX3_signAt_12 rfl 0 rfl ?_
      refine ar_getr X dX3_signAt_13 fg_X3_9 rfl (L3_s0 hL) (L3_p0_0 hL) ?_
      refine ar_iload_n X dX3_signAt_16 rfl 1 rfl ?_
      refine ar_cald X dX3_signAt_17 (L3_s1 hL) hf (fun hf => ?_)
      refine ar_goto (tgt := 22) X dX3_signAt_18 (by decide) ?_
      cases hf
      exact ar_iret X dX3_signAt_22 hR (Nat.le_refl _) (Nat.le_refl _)
def f_X3_digitAt (o : Nat) (a1 : Int32) (I : aI) : Option Int32 :=
  am_b1 (f_X3_signAt o a1 I) fun r1 =>
  am_b1 (f_X6_within r1 (48 : Int32) (57 : Int32)) fun r2 =>
  if r2 = 0 then (
    some (-6 : Int32))
  else (
    some (r1 - (48 : Int32)))
set_option maxRecDepth 100000 in
set_option maxHeartbeats 4000000 in
theorem am_X3_digitAt {sh : aS} {P : aP} {I : aI} {J : aJ} {o : Nat} (hL : L3 sh P o) {a1 : Int32} {r : Int32} (hf : f_X3_digitAt o a1 I = some r) : AM yX3_digitAt cX3_digitAt 3 (some .int) 1 22 [.ref o, .int a1] sh P I J (some (.int r)) sh P I J 0 0 := by
  refine am_met (by decide +kernel) (Nat.le_of_ble_eq_true rfl) (fun K X hR => ?_)
  have X : am_C K cX3_digitAt 3 RX3 "digitAt" ({ frames := 1, cells := 0, slots := 0, locals := 22 } : Room) := X
  show AW K 3 0 [(0, .ref o), (1, .int a1)] [] sh P I J 0 0
  unfold f_X3_digitAt at hf
  refine ar_aload_n X dX3_digitAt_0 rfl 0 rfl ?_
  refine ar_iload_n X dX3_digitAt_1 rfl 1 rfl ?_
  obtain ⟨r1, h1, hf⟩ := am_b1_e hf
  refine ar_cVi (As := [.int a1]) (st := []) X dX3_digitAt_2 (am_X3_signAt hL h1) lk_X3_33 mt_X3_signAt mi_X3_signAt (L3_s0 hL) rfl rfl (Nat.le_of_ble_eq_true rfl) ⟨by decide, by decide⟩ ⟨Nat.zero_le _, Nat.zero_le _⟩ rfl ?_
  refine ar_istore_n X dX3_digitAt_5 rfl (by decide) rfl ?_
  refine ar_iload_n X dX3_digitAt_6 rfl 0 rfl ?_
  refine ar_bipush (v := 48) X dX3_digitAt_7 (by decide) ?_
  refine ar_bipush (v := 57) X dX3_digitAt_9 (by decide) ?_
  obtain ⟨r2, h2, hf⟩ := am_b1_e hf
  refine ar_cSi (As := [.int r1, .int (48 : Int32), .int (57 : Int32)]) (st := []) X dX3_digitAt_11 (am_X6_within h2) lk_X3_57 mt_X6_within ms_X6_within rfl (Nat.le_of_ble_eq_true rfl) ⟨by decide, by decide⟩ ⟨Nat.zero_le _, Nat.zero_le _⟩ rfl ?_
  refine ar_if_eq (tgt := 24) X dX3_digitAt_14 (by decide) hf (fun h3 hf => ?_) (fun h3 hf => ?_)
  · refine ar_bipush (v := -6) X dX3_digitAt_24 (by decide) ?_
    cases hf
    exact ar_iret X dX3_digitAt_26 hR (Nat.le_refl _) (Nat.le_refl _)
  · refine ar_iload_n X dX3_digitAt_17 rfl 0 rfl ?_
    refine ar_bipush (v := 48) X dX3_digitAt_18 (by decide) ?_
    refine ar_isub X dX3_digitAt_20 ?_
    refine ar_goto (tgt := 26) X dX3_digitAt_21 (by decide) ?_
    cases hf
    exact ar_iret X dX3_digitAt_26 hR (Nat.le_refl _) (Nat.le_refl _)
def f_X3_empty (o : Nat)  (I : aI) : Option aI :=
  am_let (am_w I o 1 (0 : Int32)) fun I1 =>
  some I1
set_option maxRecDepth 100000 in
set_option maxHeartbeats 4000000 in
theorem am_X3_empty {sh : aS} {P : aP} {I : aI} {J : aJ} {o : Nat} (hL : L3 sh P o)  {I9 : aI} (hf : f_X3_empty o I = some I9) : AM yX3_empty cX3_empty 1 none 0 0 [.ref o] sh P I J none sh P I9 J 0 0 := by
  refine am_met (by decide +kernel) (Nat.le_of_ble_eq_true rfl) (fun K X hR => ?_)
  have X : am_C K cX3_empty 1 RX3 "empty" ({ frames := 0, cells := 0, slots := 0, locals := 0 } : Room) := X
  show AW K 1 0 [(0, .ref o)] [] sh P I J 0 0
  unfold f_X3_empty at hf
  refine ar_aload_n X dX3_empty_0 rfl 0 rfl ?_
  refine ar_iconst (v := 0) X dX3_empty_1 (by decide) ?_
  refine ar_puti X dX3_empty_2 fd_X3_15 rfl ⟨rfl, rfl⟩ (L3_s0 hL) hf (fun I1 hf => ?_)
  cases hf
  exact ar_vret X dX3_empty_5 hR (Nat.le_refl _) (Nat.le_refl _)
def f_X3_toStart (o : Nat)  (I : aI) : Option aI :=
  am_let (am_w I o 2 (0 : Int32)) fun I1 =>
  some I1
set_option maxRecDepth 100000 in
set_option maxHeartbeats 4000000 in
theorem am_X3_toStart {sh : aS} {P : aP} {I : aI} {J : aJ} {o : Nat} (hL : L3 sh P o)  {I9 : aI} (hf : f_X3_toStart o I = some I9) : AM yX3_toStart cX3_toStart 1 none 0 0 [.ref o] sh P I J none sh P I9 J 0 0 := by
  refine am_met (by decide +kernel) (Nat.le_of_ble_eq_true rfl) (fun K X hR => ?_)
  have X : am_C K cX3_toStart 1 RX3 "toStart" ({ frames := 0, cells := 0, slots := 0, locals := 0 } : Room) := X
  show AW K 1 0 [(0, .ref o)] [] sh P I J 0 0
  unfold f_X3_toStart at hf
  refine ar_aload_n X dX3_toStart_0 rfl 0 rfl ?_
  refine ar_iconst (v := 0) X dX3_toStart_1 (by decide) ?_
  refine ar_puti X dX3_toStart_2 fd_X3_19 rfl ⟨rfl, rfl⟩ (L3_s0 hL) hf (fun I1 hf => ?_)
  cases hf
  exact ar_vret X dX3_toStart_5 hR (Nat.le_refl _) (Nat.le_refl _)
def f_X3_readNumber_h35 (o : Nat) : Nat → Int32 → Int32 → Int32 → aI → Option (Int32 × aI)
  | 0, _, _, _, _ => none
  | n + 1, l2, l3, l4, I =>
    if (3 : Int32) ≤ l4 then (
      some (l3, I))
    else (
      if l3 ≤ 0 then (
        some (l3, I))
      else (
        am_b1 (f_X3_digitAt o (I o 2) I) fun r3 =>
        if r3 = (-6 : Int32) then (
          some (l3, I))
        else (
          if ((l3 * (10 : Int32)) + r3) ≤ l2 then (
            am_let ((l3 * (10 : Int32)) + r3) fun x6 =>
            am_let (am_w I o 2 ((I o 2) + (1 : Int32))) fun I7 =>
            f_X3_readNumber_h35 o n l2 x6 (l4 + 1) I7)
          else (
            some (l3, I)))))
set_option maxRecDepth 100000 in
set_option maxHeartbeats 4000000 in
theorem ab_X3_readNumber_h35 {K : aK} {sh : aS} {P : aP} {J : aJ} {o : Nat} (X : am_C K cX3_readNumber 6 RX3 "readNumber" ({ frames := 2, cells := 0, slots := 0, locals := 44 } : Room)) (hL : L3 sh P o) {r : Int32} {I9 : aI} (hR : am_R K (some .int) (some (.int r)) sh P I9 J 0 0) : ∀ (n : Nat) (l2 : Int32) (l3 : Int32) (l4 : Int32) (I : aI) , f_X3_readNumber_h35 o n l2 l3 l4 I = some (r, I9) → AW K 6 35 [(0, .ref o), (2, .int l2), (3, .int l3), (4, .int l4)] [] sh P I J 0 0 := by
  intro n
  induction n with
  | zero =>
    intro l2 l3 l4 I hf
    cases hf
  | succ n ih =>
    intro l2 l3 l4 I hf
    rw [f_X3_readNumber_h35] at hf
    refine ar_iload X dX3_readNumber_35 3 rfl ?_
    refine ar_iconst (v := 3) X dX3_readNumber_37 (by decide) ?_
    refine ar_icmp_ge (tgt := 100) X dX3_readNumber_38 (by decide) hf (fun h1 hf => ?_) (fun h1 hf => ?_)
    · refine ar_iload_n X dX3_readNumber_100 rfl 2 rfl ?_
      cases hf
      exact ar_iret X dX3_readNumber_101 hR (Nat.le_refl _) (Nat.le_refl _)
    · refine ar_iload_n X dX3_readNumber_41 rfl 2 rfl ?_
      refine ar_if_le (tgt := 100) X dX3_readNumber_42 (by decide) hf (fun h2 hf => ?_) (fun h2 hf => ?_)
      · refine ar_iload_n X dX3_readNumber_100 rfl 2 rfl ?_
        cases hf
        exact ar_iret X dX3_readNumber_101 hR (Nat.le_refl _) (Nat.le_refl _)
      · refine ar_aload_n X dX3_readNumber_45 rfl 0 rfl ?_
        refine ar_aload_n X dX3_readNumber_46 rfl 0 rfl ?_
        refine ar_geti X dX3_readNumber_47 fg_X3_19 rfl (L3_s0 hL) ?_
        obtain ⟨r3, h3, hf⟩ := am_b1_e hf
        refine ar_cVi (As := [.int (I o 2)]) (st := []) X dX3_readNumber_50 (am_X3_digitAt hL h3) lk_X3_54 mt_X3_digitAt mi_X3_digitAt (L3_s0 hL) rfl rfl (Nat.le_of_ble_eq_true rfl) ⟨by decide, by decide⟩ ⟨Nat.zero_le _, Nat.zero_le _⟩ rfl ?_
        refine ar_istore X dX3_readNumber_53 (by decide) rfl ?_
        refine ar_iload X dX3_readNumber_55 0 rfl ?_
        refine ar_bipush (v := -6) X dX3_readNumber_57 (by decide) ?_
        refine ar_icmp_eq (tgt := 100) X dX3_readNumber_59 (by decide) hf (fun h4 hf => ?_) (fun h4 hf => ?_)
        · refine ar_iload_n X dX3_readNumber_100 rfl 3 rfl ?_
          cases hf
          exact ar_iret X dX3_readNumber_101 hR (Nat.le_refl _) (Nat.le_refl _)
        · refine ar_iload_n X dX3_readNumber_62 rfl 3 rfl ?_
          refine ar_bipush (v := 10) X dX3_readNumber_63 (by decide) ?_
          refine ar_imul X dX3_readNumber_65 ?_
          refine ar_iload X dX3_readNumber_66 0 rfl ?_
          refine ar_iadd X dX3_readNumber_68 ?_
          refine ar_iload_n X dX3_readNumber_69 rfl 2 rfl ?_
          refine ar_icmp_le (tgt := 76) X dX3_readNumber_70 (by decide) hf (fun h5 hf => ?_) (fun h5 hf => ?_)
          · refine ar_iload_n X dX3_readNumber_76 rfl 3 rfl ?_
            refine ar_bipush (v := 10) X dX3_readNumber_77 (by decide) ?_
            refine ar_imul X dX3_readNumber_79 ?_
            refine ar_iload X dX3_readNumber_80 0 rfl ?_
            refine ar_iadd X dX3_readNumber_82 ?_
            refine ar_letI hf (fun x6 hf => ?_)
            refine ar_istore_n X dX3_readNumber_83 rfl (by decide) rfl ?_
            refine ar_aload_n X dX3_readNumber_84 rfl 2 rfl ?_
            refine ar_dup X dX3_readNumber_85 rfl ?_
            refine ar_geti X dX3_readNumber_86 fg_X3_19 rfl (L3_s0 hL) ?_
            refine ar_iconst (v := 1) X dX3_readNumber_89 (by decide) ?_
            refine ar_iadd X dX3_readNumber_90 ?_
            refine ar_puti X dX3_readNumber_91 fd_X3_19 rfl ⟨rfl, rfl⟩ (L3_s0 hL) hf (fun I7 hf => ?_)
            refine ar_iinc (j := 4) (v := (l4 + 1)) X dX3_readNumber_94 rfl rfl (by decide) rfl ?_
            refine ar_goto (tgt := 35) X dX3_readNumber_97 (by decide) ?_
            refine ar_lo [3, 4, 1, 0] rfl ?_
            exact ih l2 x6 (l4 + 1) I7 hf
          · refine ar_goto (tgt := 100) X dX3_readNumber_73 (by decide) ?_
            refine ar_iload_n X dX3_readNumber_100 rfl 3 rfl ?_
            cases hf
            exact ar_iret X dX3_readNumber_101 hR (Nat.le_refl _) (Nat.le_refl _)
def f_X3_readNumber (o : Nat) (a1 : Int32) (a2 : Int32) (I : aI) : Option (Int32 × aI) :=
  am_b1 (f_X3_digitAt o (I o 2) I) fun r1 =>
  if r1 < a1 then (
    some ((-6 : Int32), I))
  else (
    if r1 ≤ a2 then (
      am_let (am_w I o 2 ((I o 2) + (1 : Int32))) fun I4 =>
      f_X3_readNumber_h35 o am_F a2 r1 (1 : Int32) I4)
    else (
      some ((-6 : Int32), I)))
set_option maxRecDepth 100000 in
set_option maxHeartbeats 4000000 in
theorem am_X3_readNumber {sh : aS} {P : aP} {I : aI} {J : aJ} {o : Nat} (hL : L3 sh P o) {a1 : Int32} {a2 : Int32} {r : Int32} {I9 : aI} (hf : f_X3_readNumber o a1 a2 I = some (r, I9)) : AM yX3_readNumber cX3_readNumber 6 (some .int) 2 44 [.ref o, .int a1, .int a2] sh P I J (some (.int r)) sh P I9 J 0 0 := by
  refine am_met (by decide +kernel) (Nat.le_of_ble_eq_true rfl) (fun K X hR => ?_)
  have X : am_C K cX3_readNumber 6 RX3 "readNumber" ({ frames := 2, cells := 0, slots := 0, locals := 44 } : Room) := X
  show AW K 6 0 [(0, .ref o), (1, .int a1), (2, .int a2)] [] sh P I J 0 0
  unfold f_X3_readNumber at hf
  refine ar_aload_n X dX3_readNumber_0 rfl 0 rfl ?_
  refine ar_aload_n X dX3_readNumber_1 rfl 0 rfl ?_
  refine ar_geti X dX3_readNumber_2 fg_X3_19 rfl (L3_s0 hL) ?_
  obtain ⟨r1, h1, hf⟩ := am_b1_e hf
  refine ar_cVi (As := [.int (I o 2)]) (st := []) X dX3_readNumber_5 (am_X3_digitAt hL h1) lk_X3_54 mt_X3_digitAt mi_X3_digitAt (L3_s0 hL) rfl rfl (Nat.le_of_ble_eq_true rfl) ⟨by decide, by decide⟩ ⟨Nat.zero_le _, Nat.zero_le _⟩ rfl ?_
  refine ar_istore_n X dX3_readNumber_8 rfl (by decide) rfl ?_
  refine ar_iload_n X dX3_readNumber_9 rfl 0 rfl ?_
  refine ar_iload_n X dX3_readNumber_10 rfl 2 rfl ?_
  refine ar_icmp_lt (tgt := 19) X dX3_readNumber_11 (by decide) hf (fun h2 hf => ?_) (fun h2 hf => ?_)
  · refine ar_bipush (v := -6) X dX3_readNumber_19 (by decide) ?_
    cases hf
    exact ar_iret X dX3_readNumber_21 hR (Nat.le_refl _) (Nat.le_refl _)
  · refine ar_iload_n X dX3_readNumber_14 rfl 0 rfl ?_
    refine ar_iload_n X dX3_readNumber_15 rfl 3 rfl ?_
    refine ar_icmp_le (tgt := 22) X dX3_readNumber_16 (by decide) hf (fun h3 hf => ?_) (fun h3 hf => ?_)
    · refine ar_aload_n X dX3_readNumber_22 rfl 1 rfl ?_
      refine ar_dup X dX3_readNumber_23 rfl ?_
      refine ar_geti X dX3_readNumber_24 fg_X3_19 rfl (L3_s0 hL) ?_
      refine ar_iconst (v := 1) X dX3_readNumber_27 (by decide) ?_
      refine ar_iadd X dX3_readNumber_28 ?_
      refine ar_puti X dX3_readNumber_29 fd_X3_19 rfl ⟨rfl, rfl⟩ (L3_s0 hL) hf (fun I4 hf => ?_)
      refine ar_iconst (v := 1) X dX3_readNumber_32 (by decide) ?_
      refine ar_istore X dX3_readNumber_33 (by decide) rfl ?_
      refine ar_lo [2, 4, 1, 0] rfl ?_
      exact ab_X3_readNumber_h35 X hL hR am_F a2 r1 (1 : Int32) I4 hf
    · refine ar_bipush (v := -6) X dX3_readNumber_19 (by decide) ?_
      cases hf
      exact ar_iret X dX3_readNumber_21 hR (Nat.le_refl _) (Nat.le_refl _)
def f_X3_readSign (o : Nat) (a1 : Int32) (I : aI) : Option (Int32 × aI) :=
  am_b1 (f_X3_signAt o (I o 2) I) fun r1 =>
  if r1 = a1 then (
    am_let (am_w I o 2 ((I o 2) + (1 : Int32))) fun I3 =>
    some ((1 : Int32), I3))
  else (
    some ((0 : Int32), I))
set_option maxRecDepth 100000 in
set_option maxHeartbeats 4000000 in
theorem am_X3_readSign {sh : aS} {P : aP} {I : aI} {J : aJ} {o : Nat} (hL : L3 sh P o) {a1 : Int32} {r : Int32} {I9 : aI} (hf : f_X3_readSign o a1 I = some (r, I9)) : AM yX3_readSign cX3_readSign 2 (some .boolean) 1 21 [.ref o, .int a1] sh P I J (some (.int r)) sh P I9 J 0 0 := by
  refine am_met (by decide +kernel) (Nat.le_of_ble_eq_true rfl) (fun K X hR => ?_)
  have X : am_C K cX3_readSign 2 RX3 "readSign" ({ frames := 1, cells := 0, slots := 0, locals := 21 } : Room) := X
  show AW K 2 0 [(0, .ref o), (1, .int a1)] [] sh P I J 0 0
  unfold f_X3_readSign at hf
  refine ar_aload_n X dX3_readSign_0 rfl 0 rfl ?_
  refine ar_aload_n X dX3_readSign_1 rfl 0 rfl ?_
  refine ar_geti X dX3_readSign_2 fg_X3_19 rfl (L3_s0 hL) ?_
  obtain ⟨r1, h1, hf⟩ := am_b1_e hf
  refine ar_cVi (As := [.int (I o 2)]) (st := []) X dX3_readSign_5 (am_X3_signAt hL h1) lk_X3_33 mt_X3_signAt mi_X3_signAt (L3_s0 hL) rfl rfl (Nat.le_of_ble_eq_true rfl) ⟨by decide, by decide⟩ ⟨Nat.zero_le _, Nat.zero_le _⟩ rfl ?_
  refine ar_iload_n X dX3_readSign_8 rfl 1 rfl ?_
  refine ar_icmp_eq (tgt := 14) X dX3_readSign_9 (by decide) hf (fun h2 hf => ?_) (fun h2 hf => ?_)
  · refine ar_aload_n X dX3_readSign_14 rfl 0 rfl ?_
    refine ar_dup X dX3_readSign_15 rfl ?_
    refine ar_geti X dX3_readSign_16 fg_X3_19 rfl (L3_s0 hL) ?_
    refine ar_iconst (v := 1) X dX3_readSign_19 (by decide) ?_
    refine ar_iadd X dX3_readSign_20 ?_
    refine ar_puti X dX3_readSign_21 fd_X3_19 rfl ⟨rfl, rfl⟩ (L3_s0 hL) hf (fun I3 hf => ?_)
    refine ar_iconst (v := 1) X dX3_readSign_24 (by decide) ?_
    cases hf
    exact ar_zret X dX3_readSign_25 rfl hR (Nat.le_refl _) (Nat.le_refl _)
  · refine ar_iconst (v := 0) X dX3_readSign_12 (by decide) ?_
    cases hf
    exact ar_zret X dX3_readSign_13 rfl hR (Nat.le_refl _) (Nat.le_refl _)
def f_X3_readPair (o : Nat) (a1 : Int32) (a2 : Int32) (I : aI) : Option (Int32 × aI) :=
  am_b2 (f_X3_readNumber o (0 : Int32) a1 I) fun r1 I1 =>
  am_let (am_w I1 o 4 r1) fun I2 =>
  if (I2 o 4) = (-6 : Int32) then (
    some ((0 : Int32), I2))
  else (
    am_b2 (f_X3_readSign o (58 : Int32) I2) fun r4 I4 =>
    if r4 = 0 then (
      some ((0 : Int32), I4))
    else (
      am_b2 (f_X3_readNumber o a2 (300 : Int32) I4) fun r6 I6 =>
      am_let (am_w I6 o 5 r6) fun I7 =>
      if (I7 o 5) = (-6 : Int32) then (
        some ((0 : Int32), I7))
      else (
        some ((1 : Int32), I7))))
set_option maxRecDepth 100000 in
set_option maxHeartbeats 4000000 in
theorem am_X3_readPair {sh : aS} {P : aP} {I : aI} {J : aJ} {o : Nat} (hL : L3 sh P o) {a1 : Int32} {a2 : Int32} {r : Int32} {I9 : aI} (hf : f_X3_readPair o a1 a2 I = some (r, I9)) : AM yX3_readPair cX3_readPair 3 (some .boolean) 3 69 [.ref o, .int a1, .int a2] sh P I J (some (.int r)) sh P I9 J 0 0 := by
  refine am_met (by decide +kernel) (Nat.le_of_ble_eq_true rfl) (fun K X hR => ?_)
  have X : am_C K cX3_readPair 3 RX3 "readPair" ({ frames := 3, cells := 0, slots := 0, locals := 69 } : Room) := X
  show AW K 3 0 [(0, .ref o), (1, .int a1), (2, .int a2)] [] sh P I J 0 0
  unfold f_X3_readPair at hf
  refine ar_aload_n X dX3_readPair_0 rfl 0 rfl ?_
  refine ar_aload_n X dX3_readPair_1 rfl 0 rfl ?_
  refine ar_iconst (v := 0) X dX3_readPair_2 (by decide) ?_
  refine ar_iload_n X dX3_readPair_3 rfl 1 rfl ?_
  obtain ⟨r1, I1, h1, hf⟩ := am_b2_e hf
  refine ar_cVi (As := [.int (0 : Int32), .int a1]) (st := [.ref o]) X dX3_readPair_4 (am_X3_readNumber hL h1) lk_X3_44 mt_X3_readNumber mi_X3_readNumber (L3_s0 hL) rfl rfl (Nat.le_of_ble_eq_true rfl) ⟨by decide, by decide⟩ ⟨Nat.zero_le _, Nat.zero_le _⟩ rfl ?_
  refine ar_puti X dX3_readPair_7 fd_X3_48 rfl ⟨rfl, rfl⟩ (L3_s0 hL) hf (fun I2 hf => ?_)
  refine ar_aload_n X dX3_readPair_10 rfl 0 rfl ?_
  refine ar_geti X dX3_readPair_11 fg_X3_48 rfl (L3_s0 hL) ?_
  refine ar_bipush (v := -6) X dX3_readPair_14 (by decide) ?_
  refine ar_icmp_eq (tgt := 28) X dX3_readPair_16 (by decide) hf (fun h3 hf => ?_) (fun h3 hf => ?_)
  · refine ar_iconst (v := 0) X dX3_readPair_28 (by decide) ?_
    cases hf
    exact ar_zret X dX3_readPair_29 rfl hR (Nat.le_refl _) (Nat.le_refl _)
  · refine ar_aload_n X dX3_readPair_19 rfl 0 rfl ?_
    refine ar_bipush (v := 58) X dX3_readPair_20 (by decide) ?_
    obtain ⟨r4, I4, h4, hf⟩ := am_b2_e hf
    refine ar_cVi (As := [.int (58 : Int32)]) (st := []) X dX3_readPair_22 (am_X3_readSign hL h4) lk_X3_29 mt_X3_readSign mi_X3_readSign (L3_s0 hL) rfl rfl (Nat.le_of_ble_eq_true rfl) ⟨by decide, by decide⟩ ⟨Nat.zero_le _, Nat.zero_le _⟩ rfl ?_
    refine ar_if_ne (tgt := 30) X dX3_readPair_25 (by decide) hf (fun h5 hf => ?_) (fun h5 hf => ?_)
    · refine ar_iconst (v := 0) X dX3_readPair_28 (by decide) ?_
      cases hf
      exact ar_zret X dX3_readPair_29 rfl hR (Nat.le_refl _) (Nat.le_refl _)
    · refine ar_aload_n X dX3_readPair_30 rfl 0 rfl ?_
      refine ar_aload_n X dX3_readPair_31 rfl 0 rfl ?_
      refine ar_iload_n X dX3_readPair_32 rfl 2 rfl ?_
      refine ar_sipush (v := 300) X dX3_readPair_33 (by decide) ?_
      obtain ⟨r6, I6, h6, hf⟩ := am_b2_e hf
      refine ar_cVi (As := [.int a2, .int (300 : Int32)]) (st := [.ref o]) X dX3_readPair_36 (am_X3_readNumber hL h6) lk_X3_44 mt_X3_readNumber mi_X3_readNumber (L3_s0 hL) rfl rfl (Nat.le_of_ble_eq_true rfl) ⟨by decide, by decide⟩ ⟨Nat.zero_le _, Nat.zero_le _⟩ rfl ?_
      refine ar_puti X dX3_readPair_39 fd_X3_51 rfl ⟨rfl, rfl⟩ (L3_s0 hL) hf (fun I7 hf => ?_)
      refine ar_aload_n X dX3_readPair_42 rfl 0 rfl ?_
      refine ar_geti X dX3_readPair_43 fg_X3_51 rfl (L3_s0 hL) ?_
      refine ar_bipush (v := -6) X dX3_readPair_46 (by decide) ?_
      refine ar_icmp_eq (tgt := 55) X dX3_readPair_48 (by decide) hf (fun h8 hf => ?_) (fun h8 hf => ?_)
      · refine ar_iconst (v := 0) X dX3_readPair_55 (by decide) ?_
        cases hf
        exact ar_zret X dX3_readPair_56 rfl hR (Nat.le_refl _) (Nat.le_refl _)
      · refine ar_iconst (v := 1) X dX3_readPair_51 (by decide) ?_
        refine ar_goto (tgt := 56) X dX3_readPair_52 (by decide) ?_
        cases hf
        exact ar_zret X dX3_readPair_56 rfl hR (Nat.le_refl _) (Nat.le_refl _)
def f_X3_readAct (o : Nat)  (I : aI) : Option (Int32 × aI) :=
  am_b1 (f_X3_signAt o (I o 2) I) fun r1 =>
  am_let (am_w I o 3 r1) fun I2 =>
  if (I2 o 3) = (98 : Int32) then (
    am_let (am_w I2 o 2 ((I2 o 2) + (1 : Int32))) fun I4 =>
    am_b2 (f_X3_readPair o (5 : Int32) (0 : Int32) I4) fun r5 I5 =>
    am_g (am_zk r5) (some (r5, I5)))
  else if (I2 o 3) = (102 : Int32) then (
    am_let (am_w I2 o 2 ((I2 o 2) + (1 : Int32))) fun I8 =>
    some ((1 : Int32), I8))
  else if (I2 o 3) = (109 : Int32) then (
    am_let (am_w I2 o 2 ((I2 o 2) + (1 : Int32))) fun I10 =>
    some ((1 : Int32), I10))
  else if (I2 o 3) = (112 : Int32) then (
    am_let (am_w I2 o 2 ((I2 o 2) + (1 : Int32))) fun I12 =>
    am_b2 (f_X3_readNumber o (0 : Int32) (5 : Int32) I12) fun r13 I13 =>
    am_let (am_w I13 o 4 r13) fun I14 =>
    if (I14 o 4) = (-6 : Int32) then (
      some ((0 : Int32), I14))
    else (
      some ((1 : Int32), I14)))
  else if (I2 o 3) = (115 : Int32) then (
    am_let (am_w I2 o 2 ((I2 o 2) + (1 : Int32))) fun I17 =>
    am_b2 (f_X3_readPair o (2 : Int32) (1 : Int32) I17) fun r18 I18 =>
    am_g (am_zk r18) (some (r18, I18)))
  else (
    some ((0 : Int32), I2))
set_option maxRecDepth 100000 in
set_option maxHeartbeats 4000000 in
theorem am_X3_readAct {sh : aS} {P : aP} {I : aI} {J : aJ} {o : Nat} (hL : L3 sh P o)  {r : Int32} {I9 : aI} (hf : f_X3_readAct o I = some (r, I9)) : AM yX3_readAct cX3_readAct 1 (some .boolean) 4 91 [.ref o] sh P I J (some (.int r)) sh P I9 J 0 0 := by
  refine am_met (by decide +kernel) (Nat.le_of_ble_eq_true rfl) (fun K X hR => ?_)
  have X : am_C K cX3_readAct 1 RX3 "readAct" ({ frames := 4, cells := 0, slots := 0, locals := 91 } : Room) := X
  show AW K 1 0 [(0, .ref o)] [] sh P I J 0 0
  unfold f_X3_readAct at hf
  refine ar_aload_n X dX3_readAct_0 rfl 0 rfl ?_
  refine ar_aload_n X dX3_readAct_1 rfl 0 rfl ?_
  refine ar_aload_n X dX3_readAct_2 rfl 0 rfl ?_
  refine ar_geti X dX3_readAct_3 fg_X3_19 rfl (L3_s0 hL) ?_
  obtain ⟨r1, h1, hf⟩ := am_b1_e hf
  refine ar_cVi (As := [.int (I o 2)]) (st := [.ref o]) X dX3_readAct_6 (am_X3_signAt hL h1) lk_X3_33 mt_X3_signAt mi_X3_signAt (L3_s0 hL) rfl rfl (Nat.le_of_ble_eq_true rfl) ⟨by decide, by decide⟩ ⟨Nat.zero_le _, Nat.zero_le _⟩ rfl ?_
  refine ar_puti X dX3_readAct_9 fd_X3_37 rfl ⟨rfl, rfl⟩ (L3_s0 hL) hf (fun I2 hf => ?_)
  refine ar_aload_n X dX3_readAct_12 rfl 0 rfl ?_
  refine ar_geti X dX3_readAct_13 fg_X3_37 rfl (L3_s0 hL) ?_
  rcases am_ite hf with ⟨h3, hf⟩ | ⟨h3, hf⟩
  · refine ar_lookup (tgt := 85) X dX3_readAct_16 (by decide) (by rw [h3] <;> rfl) (by decide) ?_
    refine ar_aload_n X dX3_readAct_85 rfl 0 rfl ?_
    refine ar_dup X dX3_readAct_86 rfl ?_
    refine ar_geti X dX3_readAct_87 fg_X3_19 rfl (L3_s0 hL) ?_
    refine ar_iconst (v := 1) X dX3_readAct_90 (by decide) ?_
    refine ar_iadd X dX3_readAct_91 ?_
    refine ar_puti X dX3_readAct_92 fd_X3_19 rfl ⟨rfl, rfl⟩ (L3_s0 hL) hf (fun I4 hf => ?_)
    refine ar_aload_n X dX3_readAct_95 rfl 0 rfl ?_
    refine ar_iconst (v := 5) X dX3_readAct_96 (by decide) ?_
    refine ar_iconst (v := 0) X dX3_readAct_97 (by decide) ?_
    obtain ⟨r5, I5, h5, hf⟩ := am_b2_e hf
    refine ar_cVi (As := [.int (5 : Int32), .int (0 : Int32)]) (st := []) X dX3_readAct_98 (am_X3_readPair hL h5) lk_X3_40 mt_X3_readPair mi_X3_readPair (L3_s0 hL) rfl rfl (Nat.le_of_ble_eq_true rfl) ⟨by decide, by decide⟩ ⟨Nat.zero_le _, Nat.zero_le _⟩ rfl ?_
    obtain ⟨h6, hf⟩ := am_g_elim hf
    cases hf
    exact ar_zret X dX3_readAct_101 (am_zn h6).1 hR (Nat.le_refl _) (Nat.le_refl _)
  rcases am_ite hf with ⟨h7, hf⟩ | ⟨h7, hf⟩
  · refine ar_lookup (tgt := 137) X dX3_readAct_16 (by decide) (by rw [h7] <;> rfl) (by decide) ?_
    refine ar_aload_n X dX3_readAct_137 rfl 0 rfl ?_
    refine ar_dup X dX3_readAct_138 rfl ?_
    refine ar_geti X dX3_readAct_139 fg_X3_19 rfl (L3_s0 hL) ?_
    refine ar_iconst (v := 1) X dX3_readAct_142 (by decide) ?_
    refine ar_iadd X dX3_readAct_143 ?_
    refine ar_puti X dX3_readAct_144 fd_X3_19 rfl ⟨rfl, rfl⟩ (L3_s0 hL) hf (fun I8 hf => ?_)
    refine ar_iconst (v := 1) X dX3_readAct_147 (by decide) ?_
    cases hf
    exact ar_zret X dX3_readAct_148 rfl hR (Nat.le_refl _) (Nat.le_refl _)
  rcases am_ite hf with ⟨h9, hf⟩ | ⟨h9, hf⟩
  · refine ar_lookup (tgt := 137) X dX3_readAct_16 (by decide) (by rw [h9] <;> rfl) (by decide) ?_
    refine ar_aload_n X dX3_readAct_137 rfl 0 rfl ?_
    refine ar_dup X dX3_readAct_138 rfl ?_
    refine ar_geti X dX3_readAct_139 fg_X3_19 rfl (L3_s0 hL) ?_
    refine ar_iconst (v := 1) X dX3_readAct_142 (by decide) ?_
    refine ar_iadd X dX3_readAct_143 ?_
    refine ar_puti X dX3_readAct_144 fd_X3_19 rfl ⟨rfl, rfl⟩ (L3_s0 hL) hf (fun I10 hf => ?_)
    refine ar_iconst (v := 1) X dX3_readAct_147 (by decide) ?_
    cases hf
    exact ar_zret X dX3_readAct_148 rfl hR (Nat.le_refl _) (Nat.le_refl _)
  rcases am_ite hf with ⟨h11, hf⟩ | ⟨h11, hf⟩
  · refine ar_lookup (tgt := 102) X dX3_readAct_16 (by decide) (by rw [h11] <;> rfl) (by decide) ?_
    refine ar_aload_n X dX3_readAct_102 rfl 0 rfl ?_
    refine ar_dup X dX3_readAct_103 rfl ?_
    refine ar_geti X dX3_readAct_104 fg_X3_19 rfl (L3_s0 hL) ?_
    refine ar_iconst (v := 1) X dX3_readAct_107 (by decide) ?_
    refine ar_iadd X dX3_readAct_108 ?_
    refine ar_puti X dX3_readAct_109 fd_X3_19 rfl ⟨rfl, rfl⟩ (L3_s0 hL) hf (fun I12 hf => ?_)
    refine ar_aload_n X dX3_readAct_112 rfl 0 rfl ?_
    refine ar_aload_n X dX3_readAct_113 rfl 0 rfl ?_
    refine ar_iconst (v := 0) X dX3_readAct_114 (by decide) ?_
    refine ar_iconst (v := 5) X dX3_readAct_115 (by decide) ?_
    obtain ⟨r13, I13, h13, hf⟩ := am_b2_e hf
    refine ar_cVi (As := [.int (0 : Int32), .int (5 : Int32)]) (st := [.ref o]) X dX3_readAct_116 (am_X3_readNumber hL h13) lk_X3_44 mt_X3_readNumber mi_X3_readNumber (L3_s0 hL) rfl rfl (Nat.le_of_ble_eq_true rfl) ⟨by decide, by decide⟩ ⟨Nat.zero_le _, Nat.zero_le _⟩ rfl ?_
    refine ar_puti X dX3_readAct_119 fd_X3_48 rfl ⟨rfl, rfl⟩ (L3_s0 hL) hf (fun I14 hf => ?_)
    refine ar_aload_n X dX3_readAct_122 rfl 0 rfl ?_
    refine ar_geti X dX3_readAct_123 fg_X3_48 rfl (L3_s0 hL) ?_
    refine ar_bipush (v := -6) X dX3_readAct_126 (by decide) ?_
    refine ar_icmp_eq (tgt := 135) X dX3_readAct_128 (by decide) hf (fun h15 hf => ?_) (fun h15 hf => ?_)
    · refine ar_iconst (v := 0) X dX3_readAct_135 (by decide) ?_
      cases hf
      exact ar_zret X dX3_readAct_136 rfl hR (Nat.le_refl _) (Nat.le_refl _)
    · refine ar_iconst (v := 1) X dX3_readAct_131 (by decide) ?_
      refine ar_goto (tgt := 136) X dX3_readAct_132 (by decide) ?_
      cases hf
      exact ar_zret X dX3_readAct_136 rfl hR (Nat.le_refl _) (Nat.le_refl _)
  rcases am_ite hf with ⟨h16, hf⟩ | ⟨h16, hf⟩
  · refine ar_lookup (tgt := 68) X dX3_readAct_16 (by decide) (by rw [h16] <;> rfl) (by decide) ?_
    refine ar_aload_n X dX3_readAct_68 rfl 0 rfl ?_
    refine ar_dup X dX3_readAct_69 rfl ?_
    refine ar_geti X dX3_readAct_70 fg_X3_19 rfl (L3_s0 hL) ?_
    refine ar_iconst (v := 1) X dX3_readAct_73 (by decide) ?_
    refine ar_iadd X dX3_readAct_74 ?_
    refine ar_puti X dX3_readAct_75 fd_X3_19 rfl ⟨rfl, rfl⟩ (L3_s0 hL) hf (fun I17 hf => ?_)
    refine ar_aload_n X dX3_readAct_78 rfl 0 rfl ?_
    refine ar_iconst (v := 2) X dX3_readAct_79 (by decide) ?_
    refine ar_iconst (v := 1) X dX3_readAct_80 (by decide) ?_
    obtain ⟨r18, I18, h18, hf⟩ := am_b2_e hf
    refine ar_cVi (As := [.int (2 : Int32), .int (1 : Int32)]) (st := []) X dX3_readAct_81 (am_X3_readPair hL h18) lk_X3_40 mt_X3_readPair mi_X3_readPair (L3_s0 hL) rfl rfl (Nat.le_of_ble_eq_true rfl) ⟨by decide, by decide⟩ ⟨Nat.zero_le _, Nat.zero_le _⟩ rfl ?_
    obtain ⟨h19, hf⟩ := am_g_elim hf
    cases hf
    exact ar_zret X dX3_readAct_84 (am_zn h19).1 hR (Nat.le_refl _) (Nat.le_refl _)
  refine ar_lookup (tgt := 149) (off := 133) X dX3_readAct_16 (by decide) ?_ (by decide) ?_
  · simp only [Op.lookupswitch.offset]
    have h3' : ¬ (I2 o 3).toInt = 98 := fun h => h3 (Int32.toInt_inj.mp h)
    have h3'' : ¬ 98 = (I2 o 3).toInt := fun h => h3' h.symm
    have h7' : ¬ (I2 o 3).toInt = 102 := fun h => h7 (Int32.toInt_inj.mp h)
    have h7'' : ¬ 102 = (I2 o 3).toInt := fun h => h7' h.symm
    have h9' : ¬ (I2 o 3).toInt = 109 := fun h => h9 (Int32.toInt_inj.mp h)
    have h9'' : ¬ 109 = (I2 o 3).toInt := fun h => h9' h.symm
    have h11' : ¬ (I2 o 3).toInt = 112 := fun h => h11 (Int32.toInt_inj.mp h)
    have h11'' : ¬ 112 = (I2 o 3).toInt := fun h => h11' h.symm
    have h16' : ¬ (I2 o 3).toInt = 115 := fun h => h16 (Int32.toInt_inj.mp h)
    have h16'' : ¬ 115 = (I2 o 3).toInt := fun h => h16' h.symm
    simp [h3', h3'', h7', h7'', h9', h9'', h11', h11'', h16', h16'']
  refine ar_iconst (v := 0) X dX3_readAct_149 (by decide) ?_
  cases hf
  exact ar_zret X dX3_readAct_150 rfl hR (Nat.le_refl _) (Nat.le_refl _)
def f_X3_firstFault_b60 (o : Nat) (l1 : Int32) (I : aI) : Option (Int32 × aI) :=
  if l1 = 0 then (
    some ((I o 2), I))
  else (
    some ((-6 : Int32), I))
set_option maxRecDepth 100000 in
set_option maxHeartbeats 4000000 in
theorem ab_X3_firstFault_b60 {K : aK} {sh : aS} {P : aP} {J : aJ} {o : Nat} (X : am_C K cX3_firstFault 3 RX3 "firstFault" ({ frames := 5, cells := 0, slots := 0, locals := 111 } : Room)) (hL : L3 sh P o) {r : Int32} {I9 : aI} (hR : am_R K (some .int) (some (.int r)) sh P I9 J 0 0) (l1 : Int32) (I : aI) (hf : f_X3_firstFault_b60 o l1 I = some (r, I9)) : AW K 3 60 [(0, .ref o), (1, .int l1)] [] sh P I J 0 0 := by
  unfold f_X3_firstFault_b60 at hf
  refine ar_iload_n X dX3_firstFault_60 rfl 1 rfl ?_
  refine ar_if_eq (tgt := 69) X dX3_firstFault_61 (by decide) hf (fun h1 hf => ?_) (fun h1 hf => ?_)
  · refine ar_aload_n X dX3_firstFault_69 rfl 0 rfl ?_
    refine ar_geti X dX3_firstFault_70 fg_X3_19 rfl (L3_s0 hL) ?_
    cases hf
    exact ar_iret X dX3_firstFault_73 hR (Nat.le_refl _) (Nat.le_refl _)
  · refine ar_bipush (v := -6) X dX3_firstFault_64 (by decide) ?_
    refine ar_goto (tgt := 73) X dX3_firstFault_66 (by decide) ?_
    cases hf
    exact ar_iret X dX3_firstFault_73 hR (Nat.le_refl _) (Nat.le_refl _)
def f_X3_firstFault_h11 (o : Nat) : Nat → Int32 → Int32 → aI → Option (Int32 × aI)
  | 0, _, _, _ => none
  | n + 1, l1, l2, I =>
    if (60 : Int32) ≤ l2 then (
      f_X3_firstFault_b60 o l1 I)
    else (
      if l1 = 0 then (
        f_X3_firstFault_b60 o l1 I)
      else (
        if (I o 1) ≤ (I o 2) then (
          f_X3_firstFault_b60 o l1 I)
        else (
          am_b2 (f_X3_readSign o (44 : Int32) I) fun r4 I4 =>
          if r4 = 0 then (
            f_X3_firstFault_h11 o n (0 : Int32) (l2 + 1) I4)
          else (
            am_b2 (f_X3_readAct o I4) fun r6 I6 =>
            if r6 = 0 then (
              f_X3_firstFault_h11 o n (0 : Int32) (l2 + 1) I6)
            else (
              f_X3_firstFault_h11 o n (1 : Int32) (l2 + 1) I6)))))
set_option maxRecDepth 100000 in
set_option maxHeartbeats 4000000 in
theorem ab_X3_firstFault_h11 {K : aK} {sh : aS} {P : aP} {J : aJ} {o : Nat} (X : am_C K cX3_firstFault 3 RX3 "firstFault" ({ frames := 5, cells := 0, slots := 0, locals := 111 } : Room)) (hL : L3 sh P o) {r : Int32} {I9 : aI} (hR : am_R K (some .int) (some (.int r)) sh P I9 J 0 0) : ∀ (n : Nat) (l1 : Int32) (l2 : Int32) (I : aI) , f_X3_firstFault_h11 o n l1 l2 I = some (r, I9) → AW K 3 11 [(0, .ref o), (1, .int l1), (2, .int l2)] [] sh P I J 0 0 := by
  intro n
  induction n with
  | zero =>
    intro l1 l2 I hf
    cases hf
  | succ n ih =>
    intro l1 l2 I hf
    rw [f_X3_firstFault_h11] at hf
    refine ar_iload_n X dX3_firstFault_11 rfl 2 rfl ?_
    refine ar_bipush (v := 60) X dX3_firstFault_12 (by decide) ?_
    refine ar_icmp_ge (tgt := 60) X dX3_firstFault_14 (by decide) hf (fun h1 hf => ?_) (fun h1 hf => ?_)
    · refine ar_lo [0, 1] rfl ?_
      exact ab_X3_firstFault_b60 X hL hR l1 I hf
    · refine ar_iload_n X dX3_firstFault_17 rfl 1 rfl ?_
      refine ar_if_eq (tgt := 60) X dX3_firstFault_18 (by decide) hf (fun h2 hf => ?_) (fun h2 hf => ?_)
      · refine ar_lo [0, 1] rfl ?_
        exact ab_X3_firstFault_b60 X hL hR l1 I hf
      · refine ar_aload_n X dX3_firstFault_21 rfl 0 rfl ?_
        refine ar_geti X dX3_firstFault_22 fg_X3_19 rfl (L3_s0 hL) ?_
        refine ar_aload_n X dX3_firstFault_25 rfl 0 rfl ?_
        refine ar_geti X dX3_firstFault_26 fg_X3_15 rfl (L3_s0 hL) ?_
        refine ar_icmp_ge (tgt := 60) X dX3_firstFault_29 (by decide) hf (fun h3 hf => ?_) (fun h3 hf => ?_)
        · refine ar_lo [0, 1] rfl ?_
          exact ab_X3_firstFault_b60 X hL hR l1 I hf
        · refine ar_aload_n X dX3_firstFault_32 rfl 0 rfl ?_
          refine ar_bipush (v := 44) X dX3_firstFault_33 (by decide) ?_
          obtain ⟨r4, I4, h4, hf⟩ := am_b2_e hf
          refine ar_cVi (As := [.int (44 : Int32)]) (st := []) X dX3_firstFault_35 (am_X3_readSign hL h4) lk_X3_29 mt_X3_readSign mi_X3_readSign (L3_s0 hL) rfl rfl (Nat.le_of_ble_eq_true rfl) ⟨by decide, by decide⟩ ⟨Nat.zero_le _, Nat.zero_le _⟩ rfl ?_
          refine ar_if_eq (tgt := 52) X dX3_firstFault_38 (by decide) hf (fun h5 hf => ?_) (fun h5 hf => ?_)
          · refine ar_iconst (v := 0) X dX3_firstFault_52 (by decide) ?_
            refine ar_istore_n X dX3_firstFault_53 rfl (by decide) rfl ?_
            refine ar_iinc (j := 2) (v := (l2 + 1)) X dX3_firstFault_54 rfl rfl (by decide) rfl ?_
            refine ar_goto (tgt := 11) X dX3_firstFault_57 (by decide) ?_
            refine ar_lo [2, 1, 0] rfl ?_
            exact ih (0 : Int32) (l2 + 1) I4 hf
          · refine ar_aload_n X dX3_firstFault_41 rfl 0 rfl ?_
            obtain ⟨r6, I6, h6, hf⟩ := am_b2_e hf
            refine ar_cVi (As := []) (st := []) X dX3_firstFault_42 (am_X3_readAct hL h6) lk_X3_25 mt_X3_readAct mi_X3_readAct (L3_s0 hL) rfl rfl (Nat.le_of_ble_eq_true rfl) ⟨by decide, by decide⟩ ⟨Nat.zero_le _, Nat.zero_le _⟩ rfl ?_
            refine ar_if_eq (tgt := 52) X dX3_firstFault_45 (by decide) hf (fun h7 hf => ?_) (fun h7 hf => ?_)
            · refine ar_iconst (v := 0) X dX3_firstFault_52 (by decide) ?_
              refine ar_istore_n X dX3_firstFault_53 rfl (by decide) rfl ?_
              refine ar_iinc (j := 2) (v := (l2 + 1)) X dX3_firstFault_54 rfl rfl (by decide) rfl ?_
              refine ar_goto (tgt := 11) X dX3_firstFault_57 (by decide) ?_
              refine ar_lo [2, 1, 0] rfl ?_
              exact ih (0 : Int32) (l2 + 1) I6 hf
            · refine ar_iconst (v := 1) X dX3_firstFault_48 (by decide) ?_
              refine ar_goto (tgt := 53) X dX3_firstFault_49 (by decide) ?_
              refine ar_istore_n X dX3_firstFault_53 rfl (by decide) rfl ?_
              refine ar_iinc (j := 2) (v := (l2 + 1)) X dX3_firstFault_54 rfl rfl (by decide) rfl ?_
              refine ar_goto (tgt := 11) X dX3_firstFault_57 (by decide) ?_
              refine ar_lo [2, 1, 0] rfl ?_
              exact ih (1 : Int32) (l2 + 1) I6 hf
def f_X3_firstFault (o : Nat)  (I : aI) : Option (Int32 × aI) :=
  am_b1 (f_X3_toStart o I) fun I1 =>
  am_b2 (f_X3_readAct o I1) fun r2 I2 =>
  f_X3_firstFault_h11 o am_F r2 (1 : Int32) I2
set_option maxRecDepth 100000 in
set_option maxHeartbeats 4000000 in
theorem am_X3_firstFault {sh : aS} {P : aP} {I : aI} {J : aJ} {o : Nat} (hL : L3 sh P o)  {r : Int32} {I9 : aI} (hf : f_X3_firstFault o I = some (r, I9)) : AM yX3_firstFault cX3_firstFault 3 (some .int) 5 111 [.ref o] sh P I J (some (.int r)) sh P I9 J 0 0 := by
  refine am_met (by decide +kernel) (Nat.le_of_ble_eq_true rfl) (fun K X hR => ?_)
  have X : am_C K cX3_firstFault 3 RX3 "firstFault" ({ frames := 5, cells := 0, slots := 0, locals := 111 } : Room) := X
  show AW K 3 0 [(0, .ref o)] [] sh P I J 0 0
  unfold f_X3_firstFault at hf
  refine ar_aload_n X dX3_firstFault_0 rfl 0 rfl ?_
  obtain ⟨I1, h1, hf⟩ := am_b1_e hf
  refine ar_cVv (As := []) (st := []) X dX3_firstFault_1 (am_X3_toStart hL h1) lk_X3_22 mt_X3_toStart mi_X3_toStart (L3_s0 hL) rfl rfl (Nat.le_of_ble_eq_true rfl) ⟨by decide, by decide⟩ ⟨Nat.zero_le _, Nat.zero_le _⟩ rfl ?_
  refine ar_aload_n X dX3_firstFault_4 rfl 0 rfl ?_
  obtain ⟨r2, I2, h2, hf⟩ := am_b2_e hf
  refine ar_cVi (As := []) (st := []) X dX3_firstFault_5 (am_X3_readAct hL h2) lk_X3_25 mt_X3_readAct mi_X3_readAct (L3_s0 hL) rfl rfl (Nat.le_of_ble_eq_true rfl) ⟨by decide, by decide⟩ ⟨Nat.zero_le _, Nat.zero_le _⟩ rfl ?_
  refine ar_istore_n X dX3_firstFault_8 rfl (by decide) rfl ?_
  refine ar_iconst (v := 1) X dX3_firstFault_9 (by decide) ?_
  refine ar_istore_n X dX3_firstFault_10 rfl (by decide) rfl ?_
  refine ar_lo [2, 1, 0] rfl ?_
  exact ab_X3_firstFault_h11 X hL hR am_F r2 (1 : Int32) I2 hf
def f_X4_changeBoldness (o : Nat) (a1 : Int32) (a2 : Int32) (I : aI) : Option (Int32 × aI) :=
  am_b1 (f_X4_hasSeat o a1 I) fun r1 =>
  if r1 = 0 then (
    some ((-1 : Int32), I))
  else (
    am_g (am_ok a1 6) (
    am_let (I (o + 2) (Int32.toNatClampNeg a1)) fun x3 =>
    am_g (am_ok a1 6) (am_let (am_w I (o + 2) (Int32.toNatClampNeg a1) a2) fun I4 =>
    some (x3, I4))))
set_option maxRecDepth 100000 in
set_option maxHeartbeats 4000000 in
theorem am_X4_changeBoldness {sh : aS} {P : aP} {I : aI} {J : aJ} {o : Nat} (hL : L4 sh P o) {a1 : Int32} {a2 : Int32} {r : Int32} {I9 : aI} (hf : f_X4_changeBoldness o a1 a2 I = some (r, I9)) : AM yX4_changeBoldness cX4_changeBoldness 4 (some .int) 1 21 [.ref o, .int a1, .int a2] sh P I J (some (.int r)) sh P I9 J 0 0 := by
  refine am_met (by decide +kernel) (Nat.le_of_ble_eq_true rfl) (fun K X hR => ?_)
  have X : am_C K cX4_changeBoldness 4 RX4 "changeBoldness" ({ frames := 1, cells := 0, slots := 0, locals := 21 } : Room) := X
  show AW K 4 0 [(0, .ref o), (1, .int a1), (2, .int a2)] [] sh P I J 0 0
  unfold f_X4_changeBoldness at hf
  refine ar_aload_n X dX4_changeBoldness_0 rfl 0 rfl ?_
  refine ar_iload_n X dX4_changeBoldness_1 rfl 1 rfl ?_
  obtain ⟨r1, h1, hf⟩ := am_b1_e hf
  refine ar_cVi (As := [.int a1]) (st := []) X dX4_changeBoldness_2 (am_X4_hasSeat hL h1) lk_X4_41 mt_X4_hasSeat mi_X4_hasSeat (L4_s0 hL) rfl rfl (Nat.le_of_ble_eq_true rfl) ⟨by decide, by decide⟩ ⟨Nat.zero_le _, Nat.zero_le _⟩ rfl ?_
  refine ar_if_ne (tgt := 10) X dX4_changeBoldness_5 (by decide) hf (fun h2 hf => ?_) (fun h2 hf => ?_)
  · refine ar_iconst (v := -1) X dX4_changeBoldness_8 (by decide) ?_
    cases hf
    exact ar_iret X dX4_changeBoldness_9 hR (Nat.le_refl _) (Nat.le_refl _)
  · refine ar_aload_n X dX4_changeBoldness_10 rfl 0 rfl ?_
    refine ar_getr X dX4_changeBoldness_11 fg_X4_19 rfl (L4_s0 hL) (L4_p0_2 hL) ?_
    refine ar_iload_n X dX4_changeBoldness_14 rfl 1 rfl ?_
    refine ar_iald X dX4_changeBoldness_15 (L4_s2 hL) hf (fun hf => ?_)
    refine ar_letI hf (fun x3 hf => ?_)
    refine ar_istore_n X dX4_changeBoldness_16 rfl (by decide) rfl ?_
    refine ar_aload_n X dX4_changeBoldness_17 rfl 1 rfl ?_
    refine ar_getr X dX4_changeBoldness_18 fg_X4_19 rfl (L4_s0 hL) (L4_p0_2 hL) ?_
    refine ar_iload_n X dX4_changeBoldness_21 rfl 2 rfl ?_
    refine ar_iload_n X dX4_changeBoldness_22 rfl 3 rfl ?_
    refine ar_iast X dX4_changeBoldness_23 (L4_s2 hL) hf (fun I4 hf => ?_)
    refine ar_iload_n X dX4_changeBoldness_24 rfl 0 rfl ?_
    cases hf
    exact ar_iret X dX4_changeBoldness_25 hR (Nat.le_refl _) (Nat.le_refl _)
def f_X4_fillAnew (o : Nat) (a1 : Int32) (a2 : Int32) (I : aI) : Option (Int32 × aI) :=
  am_b1 (f_X4_hasSeat o a1 I) fun r1 =>
  if r1 = 0 then (
    some ((-1 : Int32), I))
  else (
    am_g (am_ok a1 6) (
    am_let (I (o + 1) (Int32.toNatClampNeg a1)) fun x3 =>
    am_g (am_ok a1 6) (am_let (am_w I (o + 1) (Int32.toNatClampNeg a1) a2) fun I4 =>
    am_g (am_ok a1 6) (am_let (am_w I4 (o + 4) (Int32.toNatClampNeg a1) (0 : Int32)) fun I5 =>
    am_g (am_ok a1 6) (am_let (am_w I5 (o + 5) (Int32.toNatClampNeg a1) (300 : Int32)) fun I6 =>
    some (x3, I6))))))
set_option maxRecDepth 100000 in
set_option maxHeartbeats 4000000 in
theorem am_X4_fillAnew {sh : aS} {P : aP} {I : aI} {J : aJ} {o : Nat} (hL : L4 sh P o) {a1 : Int32} {a2 : Int32} {r : Int32} {I9 : aI} (hf : f_X4_fillAnew o a1 a2 I = some (r, I9)) : AM yX4_fillAnew cX4_fillAnew 4 (some .int) 1 21 [.ref o, .int a1, .int a2] sh P I J (some (.int r)) sh P I9 J 0 0 := by
  refine am_met (by decide +kernel) (Nat.le_of_ble_eq_true rfl) (fun K X hR => ?_)
  have X : am_C K cX4_fillAnew 4 RX4 "fillAnew" ({ frames := 1, cells := 0, slots := 0, locals := 21 } : Room) := X
  show AW K 4 0 [(0, .ref o), (1, .int a1), (2, .int a2)] [] sh P I J 0 0
  unfold f_X4_fillAnew at hf
  refine ar_aload_n X dX4_fillAnew_0 rfl 0 rfl ?_
  refine ar_iload_n X dX4_fillAnew_1 rfl 1 rfl ?_
  obtain ⟨r1, h1, hf⟩ := am_b1_e hf
  refine ar_cVi (As := [.int a1]) (st := []) X dX4_fillAnew_2 (am_X4_hasSeat hL h1) lk_X4_41 mt_X4_hasSeat mi_X4_hasSeat (L4_s0 hL) rfl rfl (Nat.le_of_ble_eq_true rfl) ⟨by decide, by decide⟩ ⟨Nat.zero_le _, Nat.zero_le _⟩ rfl ?_
  refine ar_if_ne (tgt := 10) X dX4_fillAnew_5 (by decide) hf (fun h2 hf => ?_) (fun h2 hf => ?_)
  · refine ar_iconst (v := -1) X dX4_fillAnew_8 (by decide) ?_
    cases hf
    exact ar_iret X dX4_fillAnew_9 hR (Nat.le_refl _) (Nat.le_refl _)
  · refine ar_aload_n X dX4_fillAnew_10 rfl 0 rfl ?_
    refine ar_getr X dX4_fillAnew_11 fg_X4_15 rfl (L4_s0 hL) (L4_p0_1 hL) ?_
    refine ar_iload_n X dX4_fillAnew_14 rfl 1 rfl ?_
    refine ar_iald X dX4_fillAnew_15 (L4_s1 hL) hf (fun hf => ?_)
    refine ar_letI hf (fun x3 hf => ?_)
    refine ar_istore_n X dX4_fillAnew_16 rfl (by decide) rfl ?_
    refine ar_aload_n X dX4_fillAnew_17 rfl 1 rfl ?_
    refine ar_getr X dX4_fillAnew_18 fg_X4_15 rfl (L4_s0 hL) (L4_p0_1 hL) ?_
    refine ar_iload_n X dX4_fillAnew_21 rfl 2 rfl ?_
    refine ar_iload_n X dX4_fillAnew_22 rfl 3 rfl ?_
    refine ar_iast X dX4_fillAnew_23 (L4_s1 hL) hf (fun I4 hf => ?_)
    refine ar_aload_n X dX4_fillAnew_24 rfl 1 rfl ?_
    refine ar_getr X dX4_fillAnew_25 fg_X4_25 rfl (L4_s0 hL) (L4_p0_4 hL) ?_
    refine ar_iload_n X dX4_fillAnew_28 rfl 2 rfl ?_
    refine ar_iconst (v := 0) X dX4_fillAnew_29 (by decide) ?_
    refine ar_iast X dX4_fillAnew_30 (L4_s4 hL) hf (fun I5 hf => ?_)
    refine ar_aload_n X dX4_fillAnew_31 rfl 1 rfl ?_
    refine ar_getr X dX4_fillAnew_32 fg_X4_28 rfl (L4_s0 hL) (L4_p0_5 hL) ?_
    refine ar_iload_n X dX4_fillAnew_35 rfl 2 rfl ?_
    refine ar_sipush (v := 300) X dX4_fillAnew_36 (by decide) ?_
    refine ar_iast X dX4_fillAnew_39 (L4_s5 hL) hf (fun I6 hf => ?_)
    refine ar_iload_n X dX4_fillAnew_40 rfl 0 rfl ?_
    cases hf
    exact ar_iret X dX4_fillAnew_41 hR (Nat.le_refl _) (Nat.le_refl _)
def f_X4_greatestOf (o : Nat) (a1 : Int32) (I : aI) : Option Int32 :=
  am_b1 (f_X4_hasSeat o a1 I) fun r1 =>
  if r1 = 0 then (
    some (0 : Int32))
  else (
    am_g (am_ok a1 6) (
    some (I (o + 5) (Int32.toNatClampNeg a1))))
set_option maxRecDepth 100000 in
set_option maxHeartbeats 4000000 in
theorem am_X4_greatestOf {sh : aS} {P : aP} {I : aI} {J : aJ} {o : Nat} (hL : L4 sh P o) {a1 : Int32} {r : Int32} (hf : f_X4_greatestOf o a1 I = some r) : AM yX4_greatestOf cX4_greatestOf 2 (some .int) 1 21 [.ref o, .int a1] sh P I J (some (.int r)) sh P I J 0 0 := by
  refine am_met (by decide +kernel) (Nat.le_of_ble_eq_true rfl) (fun K X hR => ?_)
  have X : am_C K cX4_greatestOf 2 RX4 "greatestOf" ({ frames := 1, cells := 0, slots := 0, locals := 21 } : Room) := X
  show AW K 2 0 [(0, .ref o), (1, .int a1)] [] sh P I J 0 0
  unfold f_X4_greatestOf at hf
  refine ar_aload_n X dX4_greatestOf_0 rfl 0 rfl ?_
  refine ar_iload_n X dX4_greatestOf_1 rfl 1 rfl ?_
  obtain ⟨r1, h1, hf⟩ := am_b1_e hf
  refine ar_cVi (As := [.int a1]) (st := []) X dX4_greatestOf_2 (am_X4_hasSeat hL h1) lk_X4_41 mt_X4_hasSeat mi_X4_hasSeat (L4_s0 hL) rfl rfl (Nat.le_of_ble_eq_true rfl) ⟨by decide, by decide⟩ ⟨Nat.zero_le _, Nat.zero_le _⟩ rfl ?_
  refine ar_if_eq (tgt := 17) X dX4_greatestOf_5 (by decide) hf (fun h2 hf => ?_) (fun h2 hf => ?_)
  · refine ar_iconst (v := 0) X dX4_greatestOf_17 (by decide) ?_
    cases hf
    exact ar_iret X dX4_greatestOf_18 hR (Nat.le_refl _) (Nat.le_refl _)
  · refine ar_aload_n X dX4_greatestOf_8 rfl 0 rfl ?_
    refine ar_getr X dX4_greatestOf_9 fg_X4_28 rfl (L4_s0 hL) (L4_p0_5 hL) ?_
    refine ar_iload_n X dX4_greatestOf_12 rfl 1 rfl ?_
    refine ar_iald X dX4_greatestOf_13 (L4_s5 hL) hf (fun hf => ?_)
    refine ar_goto (tgt := 18) X dX4_greatestOf_14 (by decide) ?_
    cases hf
    exact ar_iret X dX4_greatestOf_18 hR (Nat.le_refl _) (Nat.le_refl _)
def f_X4_learnAtMost (o : Nat) (a1 : Int32) (a2 : Int32) (I : aI) : Option aI :=
  am_b1 (f_X4_hasSeat o a1 I) fun r1 =>
  if r1 = 0 then (
    some I)
  else (
    am_g (am_ok a1 6) (
    if (I (o + 5) (Int32.toNatClampNeg a1)) ≤ a2 then (
      some I)
    else (
      am_g (am_ok a1 6) (am_let (am_w I (o + 5) (Int32.toNatClampNeg a1) a2) fun I4 =>
      some I4))))
set_option maxRecDepth 100000 in
set_option maxHeartbeats 4000000 in
theorem am_X4_learnAtMost {sh : aS} {P : aP} {I : aI} {J : aJ} {o : Nat} (hL : L4 sh P o) {a1 : Int32} {a2 : Int32} {I9 : aI} (hf : f_X4_learnAtMost o a1 a2 I = some I9) : AM yX4_learnAtMost cX4_learnAtMost 3 none 1 21 [.ref o, .int a1, .int a2] sh P I J none sh P I9 J 0 0 := by
  refine am_met (by decide +kernel) (Nat.le_of_ble_eq_true rfl) (fun K X hR => ?_)
  have X : am_C K cX4_learnAtMost 3 RX4 "learnAtMost" ({ frames := 1, cells := 0, slots := 0, locals := 21 } : Room) := X
  show AW K 3 0 [(0, .ref o), (1, .int a1), (2, .int a2)] [] sh P I J 0 0
  unfold f_X4_learnAtMost at hf
  refine ar_aload_n X dX4_learnAtMost_0 rfl 0 rfl ?_
  refine ar_iload_n X dX4_learnAtMost_1 rfl 1 rfl ?_
  obtain ⟨r1, h1, hf⟩ := am_b1_e hf
  refine ar_cVi (As := [.int a1]) (st := []) X dX4_learnAtMost_2 (am_X4_hasSeat hL h1) lk_X4_41 mt_X4_hasSeat mi_X4_hasSeat (L4_s0 hL) rfl rfl (Nat.le_of_ble_eq_true rfl) ⟨by decide, by decide⟩ ⟨Nat.zero_le _, Nat.zero_le _⟩ rfl ?_
  refine ar_if_eq (tgt := 25) X dX4_learnAtMost_5 (by decide) hf (fun h2 hf => ?_) (fun h2 hf => ?_)
  · cases hf
    exact ar_vret X dX4_learnAtMost_25 hR (Nat.le_refl _) (Nat.le_refl _)
  · refine ar_aload_n X dX4_learnAtMost_8 rfl 0 rfl ?_
    refine ar_getr X dX4_learnAtMost_9 fg_X4_28 rfl (L4_s0 hL) (L4_p0_5 hL) ?_
    refine ar_iload_n X dX4_learnAtMost_12 rfl 1 rfl ?_
    refine ar_iald X dX4_learnAtMost_13 (L4_s5 hL) hf (fun hf => ?_)
    refine ar_iload_n X dX4_learnAtMost_14 rfl 2 rfl ?_
    refine ar_icmp_le (tgt := 25) X dX4_learnAtMost_15 (by decide) hf (fun h3 hf => ?_) (fun h3 hf => ?_)
    · cases hf
      exact ar_vret X dX4_learnAtMost_25 hR (Nat.le_refl _) (Nat.le_refl _)
    · refine ar_aload_n X dX4_learnAtMost_18 rfl 0 rfl ?_
      refine ar_getr X dX4_learnAtMost_19 fg_X4_28 rfl (L4_s0 hL) (L4_p0_5 hL) ?_
      refine ar_iload_n X dX4_learnAtMost_22 rfl 1 rfl ?_
      refine ar_iload_n X dX4_learnAtMost_23 rfl 2 rfl ?_
      refine ar_iast X dX4_learnAtMost_24 (L4_s5 hL) hf (fun I4 hf => ?_)
      cases hf
      exact ar_vret X dX4_learnAtMost_25 hR (Nat.le_refl _) (Nat.le_refl _)
def f_X4_leastOf (o : Nat) (a1 : Int32) (I : aI) : Option Int32 :=
  am_b1 (f_X4_hasSeat o a1 I) fun r1 =>
  if r1 = 0 then (
    some (0 : Int32))
  else (
    am_g (am_ok a1 6) (
    some (I (o + 4) (Int32.toNatClampNeg a1))))
set_option maxRecDepth 100000 in
set_option maxHeartbeats 4000000 in
theorem am_X4_leastOf {sh : aS} {P : aP} {I : aI} {J : aJ} {o : Nat} (hL : L4 sh P o) {a1 : Int32} {r : Int32} (hf : f_X4_leastOf o a1 I = some r) : AM yX4_leastOf cX4_leastOf 2 (some .int) 1 21 [.ref o, .int a1] sh P I J (some (.int r)) sh P I J 0 0 := by
  refine am_met (by decide +kernel) (Nat.le_of_ble_eq_true rfl) (fun K X hR => ?_)
  have X : am_C K cX4_leastOf 2 RX4 "leastOf" ({ frames := 1, cells := 0, slots := 0, locals := 21 } : Room) := X
  show AW K 2 0 [(0, .ref o), (1, .int a1)] [] sh P I J 0 0
  unfold f_X4_leastOf at hf
  refine ar_aload_n X dX4_leastOf_0 rfl 0 rfl ?_
  refine ar_iload_n X dX4_leastOf_1 rfl 1 rfl ?_
  obtain ⟨r1, h1, hf⟩ := am_b1_e hf
  refine ar_cVi (As := [.int a1]) (st := []) X dX4_leastOf_2 (am_X4_hasSeat hL h1) lk_X4_41 mt_X4_hasSeat mi_X4_hasSeat (L4_s0 hL) rfl rfl (Nat.le_of_ble_eq_true rfl) ⟨by decide, by decide⟩ ⟨Nat.zero_le _, Nat.zero_le _⟩ rfl ?_
  refine ar_if_eq (tgt := 17) X dX4_leastOf_5 (by decide) hf (fun h2 hf => ?_) (fun h2 hf => ?_)
  · refine ar_iconst (v := 0) X dX4_leastOf_17 (by decide) ?_
    cases hf
    exact ar_iret X dX4_leastOf_18 hR (Nat.le_refl _) (Nat.le_refl _)
  · refine ar_aload_n X dX4_leastOf_8 rfl 0 rfl ?_
    refine ar_getr X dX4_leastOf_9 fg_X4_25 rfl (L4_s0 hL) (L4_p0_4 hL) ?_
    refine ar_iload_n X dX4_leastOf_12 rfl 1 rfl ?_
    refine ar_iald X dX4_leastOf_13 (L4_s4 hL) hf (fun hf => ?_)
    refine ar_goto (tgt := 18) X dX4_leastOf_14 (by decide) ?_
    cases hf
    exact ar_iret X dX4_leastOf_18 hR (Nat.le_refl _) (Nat.le_refl _)
def f_X4_paidBy (o : Nat) (a1 : Int32) (I : aI) : Option Int32 :=
  am_b1 (f_X4_hasSeat o a1 I) fun r1 =>
  if r1 = 0 then (
    some (0 : Int32))
  else (
    am_g (am_ok a1 6) (
    some (I (o + 3) (Int32.toNatClampNeg a1))))
set_option maxRecDepth 100000 in
set_option maxHeartbeats 4000000 in
theorem am_X4_paidBy {sh : aS} {P : aP} {I : aI} {J : aJ} {o : Nat} (hL : L4 sh P o) {a1 : Int32} {r : Int32} (hf : f_X4_paidBy o a1 I = some r) : AM yX4_paidBy cX4_paidBy 2 (some .int) 1 21 [.ref o, .int a1] sh P I J (some (.int r)) sh P I J 0 0 := by
  refine am_met (by decide +kernel) (Nat.le_of_ble_eq_true rfl) (fun K X hR => ?_)
  have X : am_C K cX4_paidBy 2 RX4 "paidBy" ({ frames := 1, cells := 0, slots := 0, locals := 21 } : Room) := X
  show AW K 2 0 [(0, .ref o), (1, .int a1)] [] sh P I J 0 0
  unfold f_X4_paidBy at hf
  refine ar_aload_n X dX4_paidBy_0 rfl 0 rfl ?_
  refine ar_iload_n X dX4_paidBy_1 rfl 1 rfl ?_
  obtain ⟨r1, h1, hf⟩ := am_b1_e hf
  refine ar_cVi (As := [.int a1]) (st := []) X dX4_paidBy_2 (am_X4_hasSeat hL h1) lk_X4_41 mt_X4_hasSeat mi_X4_hasSeat (L4_s0 hL) rfl rfl (Nat.le_of_ble_eq_true rfl) ⟨by decide, by decide⟩ ⟨Nat.zero_le _, Nat.zero_le _⟩ rfl ?_
  refine ar_if_eq (tgt := 17) X dX4_paidBy_5 (by decide) hf (fun h2 hf => ?_) (fun h2 hf => ?_)
  · refine ar_iconst (v := 0) X dX4_paidBy_17 (by decide) ?_
    cases hf
    exact ar_iret X dX4_paidBy_18 hR (Nat.le_refl _) (Nat.le_refl _)
  · refine ar_aload_n X dX4_paidBy_8 rfl 0 rfl ?_
    refine ar_getr X dX4_paidBy_9 fg_X4_22 rfl (L4_s0 hL) (L4_p0_3 hL) ?_
    refine ar_iload_n X dX4_paidBy_12 rfl 1 rfl ?_
    refine ar_iald X dX4_paidBy_13 (L4_s3 hL) hf (fun hf => ?_)
    refine ar_goto (tgt := 18) X dX4_paidBy_14 (by decide) ?_
    cases hf
    exact ar_iret X dX4_paidBy_18 hR (Nat.le_refl _) (Nat.le_refl _)
def f_X4_paidByAll_h4 (o : Nat) : Nat → Int32 → Int32 → aI → Option Int32
  | 0, _, _, _ => none
  | n + 1, l1, l2, I =>
    if (I o 0) ≤ l2 then (
      some l1)
    else (
      am_b1 (f_X4_paidBy o l2 I) fun r2 =>
      am_let (l1 + r2) fun x3 =>
      f_X4_paidByAll_h4 o n x3 (l2 + 1) I)
set_option maxRecDepth 100000 in
set_option maxHeartbeats 4000000 in
theorem ab_X4_paidByAll_h4 {K : aK} {sh : aS} {P : aP} {I : aI} {J : aJ} {o : Nat} (X : am_C K cX4_paidByAll 3 RX4 "paidByAll" ({ frames := 2, cells := 0, slots := 0, locals := 42 } : Room)) (hL : L4 sh P o) {r : Int32} (hR : am_R K (some .int) (some (.int r)) sh P I J 0 0) : ∀ (n : Nat) (l1 : Int32) (l2 : Int32) , f_X4_paidByAll_h4 o n l1 l2 I = some r → AW K 3 4 [(0, .ref o), (1, .int l1), (2, .int l2)] [] sh P I J 0 0 := by
  intro n
  induction n with
  | zero =>
    intro l1 l2 hf
    cases hf
  | succ n ih =>
    intro l1 l2 hf
    rw [f_X4_paidByAll_h4] at hf
    refine ar_iload_n X dX4_paidByAll_4 rfl 2 rfl ?_
    refine ar_aload_n X dX4_paidByAll_5 rfl 0 rfl ?_
    refine ar_geti X dX4_paidByAll_6 fg_X4_9 rfl (L4_s0 hL) ?_
    refine ar_icmp_ge (tgt := 26) X dX4_paidByAll_9 (by decide) hf (fun h1 hf => ?_) (fun h1 hf => ?_)
    · refine ar_iload_n X dX4_paidByAll_26 rfl 1 rfl ?_
      cases hf
      exact ar_iret X dX4_paidByAll_27 hR (Nat.le_refl _) (Nat.le_refl _)
    · refine ar_iload_n X dX4_paidByAll_12 rfl 1 rfl ?_
      refine ar_aload_n X dX4_paidByAll_13 rfl 0 rfl ?_
      refine ar_iload_n X dX4_paidByAll_14 rfl 2 rfl ?_
      obtain ⟨r2, h2, hf⟩ := am_b1_e hf
      refine ar_cVi (As := [.int l2]) (st := [.int l1]) X dX4_paidByAll_15 (am_X4_paidBy hL h2) lk_X4_59 mt_X4_paidBy mi_X4_paidBy (L4_s0 hL) rfl rfl (Nat.le_of_ble_eq_true rfl) ⟨by decide, by decide⟩ ⟨Nat.zero_le _, Nat.zero_le _⟩ rfl ?_
      refine ar_iadd X dX4_paidByAll_18 ?_
      refine ar_letI hf (fun x3 hf => ?_)
      refine ar_istore_n X dX4_paidByAll_19 rfl (by decide) rfl ?_
      refine ar_iinc (j := 2) (v := (l2 + 1)) X dX4_paidByAll_20 rfl rfl (by decide) rfl ?_
      refine ar_goto (tgt := 4) X dX4_paidByAll_23 (by decide) ?_
      refine ar_lo [2, 1, 0] rfl ?_
      exact ih x3 (l2 + 1) hf
def f_X4_paidByAll (o : Nat)  (I : aI) : Option Int32 :=
  f_X4_paidByAll_h4 o am_F (0 : Int32) (0 : Int32) I
set_option maxRecDepth 100000 in
set_option maxHeartbeats 4000000 in
theorem am_X4_paidByAll {sh : aS} {P : aP} {I : aI} {J : aJ} {o : Nat} (hL : L4 sh P o)  {r : Int32} (hf : f_X4_paidByAll o I = some r) : AM yX4_paidByAll cX4_paidByAll 3 (some .int) 2 42 [.ref o] sh P I J (some (.int r)) sh P I J 0 0 := by
  refine am_met (by decide +kernel) (Nat.le_of_ble_eq_true rfl) (fun K X hR => ?_)
  have X : am_C K cX4_paidByAll 3 RX4 "paidByAll" ({ frames := 2, cells := 0, slots := 0, locals := 42 } : Room) := X
  show AW K 3 0 [(0, .ref o)] [] sh P I J 0 0
  unfold f_X4_paidByAll at hf
  refine ar_iconst (v := 0) X dX4_paidByAll_0 (by decide) ?_
  refine ar_istore_n X dX4_paidByAll_1 rfl (by decide) rfl ?_
  refine ar_iconst (v := 0) X dX4_paidByAll_2 (by decide) ?_
  refine ar_istore_n X dX4_paidByAll_3 rfl (by decide) rfl ?_
  refine ar_lo [2, 1, 0] rfl ?_
  exact ab_X4_paidByAll_h4 X hL hR am_F (0 : Int32) (0 : Int32) hf
def f_X4_question_b14 (o : Nat) (l1 : Int32) (l2 : Int32) (s0 : Int32) (I : aI) : Option (Int32 × aI) :=
  if s0 = 0 then (
    am_b1 (f_X4_learnAtMost o l1 (l2 - (1 : Int32)) I) fun I2 =>
    am_g (am_zk s0) (some (s0, I2)))
  else (
    am_b1 (f_X4_learnAtLeast o l1 l2 I) fun I4 =>
    am_g (am_zk s0) (some (s0, I4)))
set_option maxRecDepth 100000 in
set_option maxHeartbeats 4000000 in
theorem ab_X4_question_b14 {K : aK} {sh : aS} {P : aP} {J : aJ} {o : Nat} (X : am_C K cX4_question 4 RX4 "question" ({ frames := 2, cells := 0, slots := 0, locals := 43 } : Room)) (hL : L4 sh P o) {r : Int32} {I9 : aI} (hR : am_R K (some .boolean) (some (.int r)) sh P I9 J 0 0) (l1 : Int32) (l2 : Int32) (s0 : Int32) (I : aI) (hf : f_X4_question_b14 o l1 l2 s0 I = some (r, I9)) : AW K 4 14 [(0, .ref o), (1, .int l1), (2, .int l2)] [.int s0] sh P I J 0 0 := by
  unfold f_X4_question_b14 at hf
  refine ar_istore_n X dX4_question_14 rfl (by decide) rfl ?_
  refine ar_iload_n X dX4_question_15 rfl 0 rfl ?_
  refine ar_if_eq (tgt := 28) X dX4_question_16 (by decide) hf (fun h1 hf => ?_) (fun h1 hf => ?_)
  · refine ar_aload_n X dX4_question_28 rfl 1 rfl ?_
    refine ar_iload_n X dX4_question_29 rfl 2 rfl ?_
    refine ar_iload_n X dX4_question_30 rfl 3 rfl ?_
    refine ar_iconst (v := 1) X dX4_question_31 (by decide) ?_
    refine ar_isub X dX4_question_32 ?_
    obtain ⟨I2, h2, hf⟩ := am_b1_e hf
    refine ar_cVv (As := [.int l1, .int (l2 - (1 : Int32))]) (st := []) X dX4_question_33 (am_X4_learnAtMost hL h2) lk_X4_53 mt_X4_learnAtMost mi_X4_learnAtMost (L4_s0 hL) rfl rfl (Nat.le_of_ble_eq_true rfl) ⟨by decide, by decide⟩ ⟨Nat.zero_le _, Nat.zero_le _⟩ rfl ?_
    refine ar_iload_n X dX4_question_36 rfl 0 rfl ?_
    obtain ⟨h3, hf⟩ := am_g_elim hf
    cases hf
    exact ar_zret X dX4_question_37 (am_zn h3).1 hR (Nat.le_refl _) (Nat.le_refl _)
  · refine ar_aload_n X dX4_question_19 rfl 1 rfl ?_
    refine ar_iload_n X dX4_question_20 rfl 2 rfl ?_
    refine ar_iload_n X dX4_question_21 rfl 3 rfl ?_
    obtain ⟨I4, h4, hf⟩ := am_b1_e hf
    refine ar_cVv (As := [.int l1, .int l2]) (st := []) X dX4_question_22 (am_X4_learnAtLeast hL h4) lk_X4_49 mt_X4_learnAtLeast mi_X4_learnAtLeast (L4_s0 hL) rfl rfl (Nat.le_of_ble_eq_true rfl) ⟨by decide, by decide⟩ ⟨Nat.zero_le _, Nat.zero_le _⟩ rfl ?_
    refine ar_goto (tgt := 36) X dX4_question_25 (by decide) ?_
    refine ar_iload_n X dX4_question_36 rfl 0 rfl ?_
    obtain ⟨h5, hf⟩ := am_g_elim hf
    cases hf
    exact ar_zret X dX4_question_37 (am_zn h5).1 hR (Nat.le_refl _) (Nat.le_refl _)
def f_X4_question (o : Nat) (a1 : Int32) (a2 : Int32) (I : aI) : Option (Int32 × aI) :=
  am_b1 (f_X4_amountOf o a1 I) fun r1 =>
  if r1 < a2 then (
    f_X4_question_b14 o a1 a2 (0 : Int32) I)
  else (
    f_X4_question_b14 o a1 a2 (1 : Int32) I)
set_option maxRecDepth 100000 in
set_option maxHeartbeats 4000000 in
theorem am_X4_question {sh : aS} {P : aP} {I : aI} {J : aJ} {o : Nat} (hL : L4 sh P o) {a1 : Int32} {a2 : Int32} {r : Int32} {I9 : aI} (hf : f_X4_question o a1 a2 I = some (r, I9)) : AM yX4_question cX4_question 4 (some .boolean) 2 43 [.ref o, .int a1, .int a2] sh P I J (some (.int r)) sh P I9 J 0 0 := by
  refine am_met (by decide +kernel) (Nat.le_of_ble_eq_true rfl) (fun K X hR => ?_)
  have X : am_C K cX4_question 4 RX4 "question" ({ frames := 2, cells := 0, slots := 0, locals := 43 } : Room) := X
  show AW K 4 0 [(0, .ref o), (1, .int a1), (2, .int a2)] [] sh P I J 0 0
  unfold f_X4_question at hf
  refine ar_aload_n X dX4_question_0 rfl 0 rfl ?_
  refine ar_iload_n X dX4_question_1 rfl 1 rfl ?_
  obtain ⟨r1, h1, hf⟩ := am_b1_e hf
  refine ar_cVi (As := [.int a1]) (st := []) X dX4_question_2 (am_X4_amountOf hL h1) lk_X4_45 mt_X4_amountOf mi_X4_amountOf (L4_s0 hL) rfl rfl (Nat.le_of_ble_eq_true rfl) ⟨by decide, by decide⟩ ⟨Nat.zero_le _, Nat.zero_le _⟩ rfl ?_
  refine ar_iload_n X dX4_question_5 rfl 2 rfl ?_
  refine ar_icmp_lt (tgt := 13) X dX4_question_6 (by decide) hf (fun h2 hf => ?_) (fun h2 hf => ?_)
  · refine ar_iconst (v := 0) X dX4_question_13 (by decide) ?_
    exact ab_X4_question_b14 X hL hR a1 a2 (0 : Int32) I hf
  · refine ar_iconst (v := 1) X dX4_question_9 (by decide) ?_
    refine ar_goto (tgt := 14) X dX4_question_10 (by decide) ?_
    exact ab_X4_question_b14 X hL hR a1 a2 (1 : Int32) I hf
def f_X4_sum_h4 (o : Nat) : Nat → Int32 → Int32 → aI → Option Int32
  | 0, _, _, _ => none
  | n + 1, l1, l2, I =>
    if (I o 0) ≤ l2 then (
      some l1)
    else (
      am_b1 (f_X4_amountOf o l2 I) fun r2 =>
      am_let (l1 + r2) fun x3 =>
      f_X4_sum_h4 o n x3 (l2 + 1) I)
set_option maxRecDepth 100000 in
set_option maxHeartbeats 4000000 in
theorem ab_X4_sum_h4 {K : aK} {sh : aS} {P : aP} {I : aI} {J : aJ} {o : Nat} (X : am_C K cX4_sum 3 RX4 "sum" ({ frames := 2, cells := 0, slots := 0, locals := 42 } : Room)) (hL : L4 sh P o) {r : Int32} (hR : am_R K (some .int) (some (.int r)) sh P I J 0 0) : ∀ (n : Nat) (l1 : Int32) (l2 : Int32) , f_X4_sum_h4 o n l1 l2 I = some r → AW K 3 4 [(0, .ref o), (1, .int l1), (2, .int l2)] [] sh P I J 0 0 := by
  intro n
  induction n with
  | zero =>
    intro l1 l2 hf
    cases hf
  | succ n ih =>
    intro l1 l2 hf
    rw [f_X4_sum_h4] at hf
    refine ar_iload_n X dX4_sum_4 rfl 2 rfl ?_
    refine ar_aload_n X dX4_sum_5 rfl 0 rfl ?_
    refine ar_geti X dX4_sum_6 fg_X4_9 rfl (L4_s0 hL) ?_
    refine ar_icmp_ge (tgt := 26) X dX4_sum_9 (by decide) hf (fun h1 hf => ?_) (fun h1 hf => ?_)
    · refine ar_iload_n X dX4_sum_26 rfl 1 rfl ?_
      cases hf
      exact ar_iret X dX4_sum_27 hR (Nat.le_refl _) (Nat.le_refl _)
    · refine ar_iload_n X dX4_sum_12 rfl 1 rfl ?_
      refine ar_aload_n X dX4_sum_13 rfl 0 rfl ?_
      refine ar_iload_n X dX4_sum_14 rfl 2 rfl ?_
      obtain ⟨r2, h2, hf⟩ := am_b1_e hf
      refine ar_cVi (As := [.int l2]) (st := [.int l1]) X dX4_sum_15 (am_X4_amountOf hL h2) lk_X4_45 mt_X4_amountOf mi_X4_amountOf (L4_s0 hL) rfl rfl (Nat.le_of_ble_eq_true rfl) ⟨by decide, by decide⟩ ⟨Nat.zero_le _, Nat.zero_le _⟩ rfl ?_
      refine ar_iadd X dX4_sum_18 ?_
      refine ar_letI hf (fun x3 hf => ?_)
      refine ar_istore_n X dX4_sum_19 rfl (by decide) rfl ?_
      refine ar_iinc (j := 2) (v := (l2 + 1)) X dX4_sum_20 rfl rfl (by decide) rfl ?_
      refine ar_goto (tgt := 4) X dX4_sum_23 (by decide) ?_
      refine ar_lo [2, 1, 0] rfl ?_
      exact ih x3 (l2 + 1) hf
def f_X4_sum (o : Nat)  (I : aI) : Option Int32 :=
  f_X4_sum_h4 o am_F (0 : Int32) (0 : Int32) I
set_option maxRecDepth 100000 in
set_option maxHeartbeats 4000000 in
theorem am_X4_sum {sh : aS} {P : aP} {I : aI} {J : aJ} {o : Nat} (hL : L4 sh P o)  {r : Int32} (hf : f_X4_sum o I = some r) : AM yX4_sum cX4_sum 3 (some .int) 2 42 [.ref o] sh P I J (some (.int r)) sh P I J 0 0 := by
  refine am_met (by decide +kernel) (Nat.le_of_ble_eq_true rfl) (fun K X hR => ?_)
  have X : am_C K cX4_sum 3 RX4 "sum" ({ frames := 2, cells := 0, slots := 0, locals := 42 } : Room) := X
  show AW K 3 0 [(0, .ref o)] [] sh P I J 0 0
  unfold f_X4_sum at hf
  refine ar_iconst (v := 0) X dX4_sum_0 (by decide) ?_
  refine ar_istore_n X dX4_sum_1 rfl (by decide) rfl ?_
  refine ar_iconst (v := 0) X dX4_sum_2 (by decide) ?_
  refine ar_istore_n X dX4_sum_3 rfl (by decide) rfl ?_
  refine ar_lo [2, 1, 0] rfl ?_
  exact ab_X4_sum_h4 X hL hR am_F (0 : Int32) (0 : Int32) hf
def f_X5_waysUpTo (o : Nat) (a1 : Int32) (J : aJ) : Option Int64 :=
  am_b1 (f_X6_within a1 (0 : Int32) (1800 : Int32)) fun r1 =>
  if r1 = 0 then (
    some (0 : Int64))
  else (
    am_g (am_ok a1 1801) (
    some (J (o + 2) (Int32.toNatClampNeg a1))))
set_option maxRecDepth 100000 in
set_option maxHeartbeats 4000000 in
theorem am_X5_waysUpTo {sh : aS} {P : aP} {I : aI} {J : aJ} {o : Nat} (hL : L5 sh P o) {a1 : Int32} {r : Int64} (hf : f_X5_waysUpTo o a1 J = some r) : AM yX5_waysUpTo cX5_waysUpTo 2 (some .long) 1 22 [.ref o, .int a1] sh P I J (some (.long r)) sh P I J 0 0 := by
  refine am_met (by decide +kernel) (Nat.le_of_ble_eq_true rfl) (fun K X hR => ?_)
  have X : am_C K cX5_waysUpTo 2 RX5 "waysUpTo" ({ frames := 1, cells := 0, slots := 0, locals := 22 } : Room) := X
  show AW K 2 0 [(0, .ref o), (1, .int a1)] [] sh P I J 0 0
  unfold f_X5_waysUpTo at hf
  refine ar_iload_n X dX5_waysUpTo_0 rfl 1 rfl ?_
  refine ar_iconst (v := 0) X dX5_waysUpTo_1 (by decide) ?_
  refine ar_sipush (v := 1800) X dX5_waysUpTo_2 (by decide) ?_
  obtain ⟨r1, h1, hf⟩ := am_b1_e hf
  refine ar_cSi (As := [.int a1, .int (0 : Int32), .int (1800 : Int32)]) (st := []) X dX5_waysUpTo_5 (am_X6_within h1) lk_X5_56 mt_X6_within ms_X6_within rfl (Nat.le_of_ble_eq_true rfl) ⟨by decide, by decide⟩ ⟨Nat.zero_le _, Nat.zero_le _⟩ rfl ?_
  refine ar_if_eq (tgt := 20) X dX5_waysUpTo_8 (by decide) hf (fun h2 hf => ?_) (fun h2 hf => ?_)
  · refine ar_lconst (v := 0) X dX5_waysUpTo_20 (by decide) ?_
    cases hf
    exact ar_lret X dX5_waysUpTo_21 hR (Nat.le_refl _) (Nat.le_refl _)
  · refine ar_aload_n X dX5_waysUpTo_11 rfl 0 rfl ?_
    refine ar_getr X dX5_waysUpTo_12 fg_X5_15 rfl (L5_s0 hL) (L5_p0_1 hL) ?_
    refine ar_iload_n X dX5_waysUpTo_15 rfl 1 rfl ?_
    refine ar_lald X dX5_waysUpTo_16 (L5_s2 hL) hf (fun hf => ?_)
    refine ar_goto (tgt := 21) X dX5_waysUpTo_17 (by decide) ?_
    cases hf
    exact ar_lret X dX5_waysUpTo_21 hR (Nat.le_refl _) (Nat.le_refl _)
def f_X5_takeIn_h40 (o : Nat) : Nat → Int32 → Int32 → Int32 → aJ → Option aJ
  | 0, _, _, _, _ => none
  | n + 1, l1, l2, l5, J =>
    if (1801 : Int32) ≤ l5 then (
      some J)
    else (
      am_b1 (f_X5_waysUpTo o (l5 - l1) J) fun r2 =>
      am_b1 (f_X5_waysUpTo o ((l5 - l2) - (1 : Int32)) J) fun r3 =>
      am_g (am_ok l5 1801) (am_let (am_wJ J (o + 1) (Int32.toNatClampNeg l5) (r2 - r3)) fun J4 =>
      f_X5_takeIn_h40 o n l1 l2 (l5 + 1) J4))
set_option maxRecDepth 100000 in
set_option maxHeartbeats 4000000 in
theorem ab_X5_takeIn_h40 {K : aK} {sh : aS} {P : aP} {I : aI} {o : Nat} (X : am_C K cX5_takeIn 6 RX5 "takeIn" ({ frames := 2, cells := 0, slots := 0, locals := 43 } : Room)) (hL : L5 sh P o) {J9 : aJ} (hR : am_R K none none sh P I J9 0 0) : ∀ (n : Nat) (l1 : Int32) (l2 : Int32) (l5 : Int32) (J : aJ) , f_X5_takeIn_h40 o n l1 l2 l5 J = some J9 → AW K 6 40 [(0, .ref o), (1, .int l1), (2, .int l2), (5, .int l5)] [] sh P I J 0 0 := by
  intro n
  induction n with
  | zero =>
    intro l1 l2 l5 J hf
    cases hf
  | succ n ih =>
    intro l1 l2 l5 J hf
    rw [f_X5_takeIn_h40] at hf
    refine ar_iload X dX5_takeIn_40 3 rfl ?_
    refine ar_sipush (v := 1801) X dX5_takeIn_42 (by decide) ?_
    refine ar_icmp_ge (tgt := 80) X dX5_takeIn_45 (by decide) hf (fun h1 hf => ?_) (fun h1 hf => ?_)
    · cases hf
      exact ar_vret X dX5_takeIn_80 hR (Nat.le_refl _) (Nat.le_refl _)
    · refine ar_aload_n X dX5_takeIn_48 rfl 0 rfl ?_
      refine ar_getr X dX5_takeIn_49 fg_X5_11 rfl (L5_s0 hL) (L5_p0_0 hL) ?_
      refine ar_iload X dX5_takeIn_52 3 rfl ?_
      refine ar_aload_n X dX5_takeIn_54 rfl 0 rfl ?_
      refine ar_iload X dX5_takeIn_55 3 rfl ?_
      refine ar_iload_n X dX5_takeIn_57 rfl 1 rfl ?_
      refine ar_isub X dX5_takeIn_58 ?_
      obtain ⟨r2, h2, hf⟩ := am_b1_e hf
      refine ar_cVl (As := [.int (l5 - l1)]) (st := [.int l5, .ref (o + 1)]) X dX5_takeIn_59 (am_X5_waysUpTo hL h2) lk_X5_53 mt_X5_waysUpTo mi_X5_waysUpTo (L5_s0 hL) rfl rfl (Nat.le_of_ble_eq_true rfl) ⟨by decide, by decide⟩ ⟨Nat.zero_le _, Nat.zero_le _⟩ rfl ?_
      refine ar_aload_n X dX5_takeIn_62 rfl 0 rfl ?_
      refine ar_iload X dX5_takeIn_63 3 rfl ?_
      refine ar_iload_n X dX5_takeIn_65 rfl 2 rfl ?_
      refine ar_isub X dX5_takeIn_66 ?_
      refine ar_iconst (v := 1) X dX5_takeIn_67 (by decide) ?_
      refine ar_isub X dX5_takeIn_68 ?_
      obtain ⟨r3, h3, hf⟩ := am_b1_e hf
      refine ar_cVl (As := [.int ((l5 - l2) - (1 : Int32))]) (st := [.long r2, .int l5, .ref (o + 1)]) X dX5_takeIn_69 (am_X5_waysUpTo hL h3) lk_X5_53 mt_X5_waysUpTo mi_X5_waysUpTo (L5_s0 hL) rfl rfl (Nat.le_of_ble_eq_true rfl) ⟨by decide, by decide⟩ ⟨Nat.zero_le _, Nat.zero_le _⟩ rfl ?_
      refine ar_lsub X dX5_takeIn_72 ?_
      refine ar_last X dX5_takeIn_73 (L5_s1 hL) hf (fun J4 hf => ?_)
      refine ar_iinc (j := 3) (v := (l5 + 1)) X dX5_takeIn_74 rfl rfl (by decide) rfl ?_
      refine ar_goto (tgt := 40) X dX5_takeIn_77 (by decide) ?_
      refine ar_lo [1, 2, 3, 0] rfl ?_
      exact ih l1 l2 (l5 + 1) J4 hf
def f_X5_takeIn_h5 (o : Nat) : Nat → Int32 → Int32 → Int64 → Int32 → aJ → Option aJ
  | 0, _, _, _, _, _ => none
  | n + 1, l1, l2, l3, l5, J =>
    if (1801 : Int32) ≤ l5 then (
      f_X5_takeIn_h40 o am_F l1 l2 (0 : Int32) J)
    else (
      am_g (am_ok l5 1801) (
      am_let (l3 + (J (o + 1) (Int32.toNatClampNeg l5))) fun x2 =>
      am_g (am_ok l5 1801) (am_let (am_wJ J (o + 2) (Int32.toNatClampNeg l5) x2) fun J3 =>
      f_X5_takeIn_h5 o n l1 l2 x2 (l5 + 1) J3)))
set_option maxRecDepth 100000 in
set_option maxHeartbeats 4000000 in
theorem ab_X5_takeIn_h5 {K : aK} {sh : aS} {P : aP} {I : aI} {o : Nat} (X : am_C K cX5_takeIn 6 RX5 "takeIn" ({ frames := 2, cells := 0, slots := 0, locals := 43 } : Room)) (hL : L5 sh P o) {J9 : aJ} (hR : am_R K none none sh P I J9 0 0) : ∀ (n : Nat) (l1 : Int32) (l2 : Int32) (l3 : Int64) (l5 : Int32) (J : aJ) , f_X5_takeIn_h5 o n l1 l2 l3 l5 J = some J9 → AW K 6 5 [(0, .ref o), (1, .int l1), (2, .int l2), (3, .long l3), (5, .int l5)] [] sh P I J 0 0 := by
  intro n
  induction n with
  | zero =>
    intro l1 l2 l3 l5 J hf
    cases hf
  | succ n ih =>
    intro l1 l2 l3 l5 J hf
    rw [f_X5_takeIn_h5] at hf
    refine ar_iload X dX5_takeIn_5 4 rfl ?_
    refine ar_sipush (v := 1801) X dX5_takeIn_7 (by decide) ?_
    refine ar_icmp_ge (tgt := 37) X dX5_takeIn_10 (by decide) hf (fun h1 hf => ?_) (fun h1 hf => ?_)
    · refine ar_iconst (v := 0) X dX5_takeIn_37 (by decide) ?_
      refine ar_istore X dX5_takeIn_38 (by decide) rfl ?_
      refine ar_lo [1, 2, 3, 0] rfl ?_
      exact ab_X5_takeIn_h40 X hL hR am_F l1 l2 (0 : Int32) J hf
    · refine ar_lload_n X dX5_takeIn_13 rfl 3 rfl ?_
      refine ar_aload_n X dX5_takeIn_14 rfl 0 rfl ?_
      refine ar_getr X dX5_takeIn_15 fg_X5_11 rfl (L5_s0 hL) (L5_p0_0 hL) ?_
      refine ar_iload X dX5_takeIn_18 4 rfl ?_
      refine ar_lald X dX5_takeIn_20 (L5_s1 hL) hf (fun hf => ?_)
      refine ar_ladd X dX5_takeIn_21 ?_
      refine ar_letL hf (fun x2 hf => ?_)
      refine ar_lstore_n X dX5_takeIn_22 rfl (by decide) rfl ?_
      refine ar_aload_n X dX5_takeIn_23 rfl 1 rfl ?_
      refine ar_getr X dX5_takeIn_24 fg_X5_15 rfl (L5_s0 hL) (L5_p0_1 hL) ?_
      refine ar_iload X dX5_takeIn_27 4 rfl ?_
      refine ar_lload_n X dX5_takeIn_29 rfl 0 rfl ?_
      refine ar_last X dX5_takeIn_30 (L5_s2 hL) hf (fun J3 hf => ?_)
      refine ar_iinc (j := 4) (v := (l5 + 1)) X dX5_takeIn_31 rfl rfl (by decide) rfl ?_
      refine ar_goto (tgt := 5) X dX5_takeIn_34 (by decide) ?_
      refine ar_lo [2, 3, 4, 1, 0] rfl ?_
      exact ih l1 l2 x2 (l5 + 1) J3 hf
def f_X5_takeIn (o : Nat) (a1 : Int32) (a2 : Int32) (J : aJ) : Option aJ :=
  f_X5_takeIn_h5 o am_F a1 a2 (0 : Int64) (0 : Int32) J
set_option maxRecDepth 100000 in
set_option maxHeartbeats 4000000 in
theorem am_X5_takeIn {sh : aS} {P : aP} {I : aI} {J : aJ} {o : Nat} (hL : L5 sh P o) {a1 : Int32} {a2 : Int32} {J9 : aJ} (hf : f_X5_takeIn o a1 a2 J = some J9) : AM yX5_takeIn cX5_takeIn 6 none 2 43 [.ref o, .int a1, .int a2] sh P I J none sh P I J9 0 0 := by
  refine am_met (by decide +kernel) (Nat.le_of_ble_eq_true rfl) (fun K X hR => ?_)
  have X : am_C K cX5_takeIn 6 RX5 "takeIn" ({ frames := 2, cells := 0, slots := 0, locals := 43 } : Room) := X
  show AW K 6 0 [(0, .ref o), (1, .int a1), (2, .int a2)] [] sh P I J 0 0
  unfold f_X5_takeIn at hf
  refine ar_lconst (v := 0) X dX5_takeIn_0 (by decide) ?_
  refine ar_lstore_n X dX5_takeIn_1 rfl (by decide) rfl ?_
  refine ar_iconst (v := 0) X dX5_takeIn_2 (by decide) ?_
  refine ar_istore X dX5_takeIn_3 (by decide) rfl ?_
  refine ar_lo [2, 3, 4, 1, 0] rfl ?_
  exact ab_X5_takeIn_h5 X hL hR am_F a1 a2 (0 : Int64) (0 : Int32) J hf
def f_X5_takeInOthers_h32 (o : Nat) (w1 : Nat) : Nat → Int32 → Int32 → aI → aJ → Option aJ
  | 0, _, _, _, _ => none
  | n + 1, l2, l3, I, J =>
    if (I w1 0) ≤ l3 then (
      some J)
    else (
      if l3 = l2 then (
        f_X5_takeInOthers_h32 o w1 n l2 (l3 + 1) I J)
      else (
        am_b1 (f_X4_leastOf w1 l3 I) fun r3 =>
        am_b1 (f_X4_greatestOf w1 l3 I) fun r4 =>
        am_b1 (f_X5_takeIn o r3 r4 J) fun J5 =>
        f_X5_takeInOthers_h32 o w1 n l2 (l3 + 1) I J5))
set_option maxRecDepth 100000 in
set_option maxHeartbeats 4000000 in
theorem ab_X5_takeInOthers_h32 {K : aK} {sh : aS} {P : aP} {I : aI} {o : Nat} {w1 : Nat} (X : am_C K cX5_takeInOthers 4 RX5 "takeInOthers" ({ frames := 3, cells := 0, slots := 0, locals := 68 } : Room)) (hL : L5 sh P o) (hW1 : L4 sh P w1) {J9 : aJ} (hR : am_R K none none sh P I J9 0 0) : ∀ (n : Nat) (l2 : Int32) (l3 : Int32) (J : aJ) , f_X5_takeInOthers_h32 o w1 n l2 l3 I J = some J9 → AW K 4 32 [(0, .ref o), (1, .ref w1), (2, .int l2), (3, .int l3)] [] sh P I J 0 0 := by
  intro n
  induction n with
  | zero =>
    intro l2 l3 J hf
    cases hf
  | succ n ih =>
    intro l2 l3 J hf
    rw [f_X5_takeInOthers_h32] at hf
    refine ar_iload_n X dX5_takeInOthers_32 rfl 3 rfl ?_
    refine ar_aload_n X dX5_takeInOthers_33 rfl 1 rfl ?_
    refine ar_geti X dX5_takeInOthers_34 fg_X5_45 rfl (L4_s0 hW1) ?_
    refine ar_icmp_ge (tgt := 65) X dX5_takeInOthers_37 (by decide) hf (fun h1 hf => ?_) (fun h1 hf => ?_)
    · cases hf
      exact ar_vret X dX5_takeInOthers_65 hR (Nat.le_refl _) (Nat.le_refl _)
    · refine ar_iload_n X dX5_takeInOthers_40 rfl 3 rfl ?_
      refine ar_iload_n X dX5_takeInOthers_41 rfl 2 rfl ?_
      refine ar_icmp_eq (tgt := 59) X dX5_takeInOthers_42 (by decide) hf (fun h2 hf => ?_) (fun h2 hf => ?_)
      · refine ar_iinc (j := 3) (v := (l3 + 1)) X dX5_takeInOthers_59 rfl rfl (by decide) rfl ?_
        refine ar_goto (tgt := 32) X dX5_takeInOthers_62 (by decide) ?_
        refine ar_lo [1, 2, 3, 0] rfl ?_
        exact ih l2 (l3 + 1) J hf
      · refine ar_aload_n X dX5_takeInOthers_45 rfl 0 rfl ?_
        refine ar_aload_n X dX5_takeInOthers_46 rfl 1 rfl ?_
        refine ar_iload_n X dX5_takeInOthers_47 rfl 3 rfl ?_
        obtain ⟨r3, h3, hf⟩ := am_b1_e hf
        refine ar_cVi (As := [.int l3]) (st := [.ref o]) X dX5_takeInOthers_48 (am_X4_leastOf hW1 h3) lk_X5_28 mt_X4_leastOf mi_X4_leastOf (L4_s0 hW1) rfl rfl (Nat.le_of_ble_eq_true rfl) ⟨by decide, by decide⟩ ⟨Nat.zero_le _, Nat.zero_le _⟩ rfl ?_
        refine ar_aload_n X dX5_takeInOthers_51 rfl 1 rfl ?_
        refine ar_iload_n X dX5_takeInOthers_52 rfl 3 rfl ?_
        obtain ⟨r4, h4, hf⟩ := am_b1_e hf
        refine ar_cVi (As := [.int l3]) (st := [.int r3, .ref o]) X dX5_takeInOthers_53 (am_X4_greatestOf hW1 h4) lk_X5_32 mt_X4_greatestOf mi_X4_greatestOf (L4_s0 hW1) rfl rfl (Nat.le_of_ble_eq_true rfl) ⟨by decide, by decide⟩ ⟨Nat.zero_le _, Nat.zero_le _⟩ rfl ?_
        obtain ⟨J5, h5, hf⟩ := am_b1_e hf
        refine ar_cVv (As := [.int r3, .int r4]) (st := []) X dX5_takeInOthers_56 (am_X5_takeIn hL h5) lk_X5_49 mt_X5_takeIn mi_X5_takeIn (L5_s0 hL) rfl rfl (Nat.le_of_ble_eq_true rfl) ⟨by decide, by decide⟩ ⟨Nat.zero_le _, Nat.zero_le _⟩ rfl ?_
        refine ar_iinc (j := 3) (v := (l3 + 1)) X dX5_takeInOthers_59 rfl rfl (by decide) rfl ?_
        refine ar_goto (tgt := 32) X dX5_takeInOthers_62 (by decide) ?_
        refine ar_lo [1, 2, 3, 0] rfl ?_
        exact ih l2 (l3 + 1) J5 hf
def f_X5_takeInOthers_h2 (o : Nat) (w1 : Nat) : Nat → Int32 → Int32 → aI → aJ → Option aJ
  | 0, _, _, _, _ => none
  | n + 1, l2, l3, I, J =>
    if (1801 : Int32) ≤ l3 then (
      f_X5_takeInOthers_h32 o w1 am_F l2 (0 : Int32) I J)
    else (
      if l3 = 0 then (
        am_g (am_ok l3 1801) (am_let (am_wJ J (o + 1) (Int32.toNatClampNeg l3) (1 : Int64)) fun J3 =>
        f_X5_takeInOthers_h2 o w1 n l2 (l3 + 1) I J3))
      else (
        am_g (am_ok l3 1801) (am_let (am_wJ J (o + 1) (Int32.toNatClampNeg l3) (0 : Int64)) fun J4 =>
        f_X5_takeInOthers_h2 o w1 n l2 (l3 + 1) I J4)))
set_option maxRecDepth 100000 in
set_option maxHeartbeats 4000000 in
theorem ab_X5_takeInOthers_h2 {K : aK} {sh : aS} {P : aP} {I : aI} {o : Nat} {w1 : Nat} (X : am_C K cX5_takeInOthers 4 RX5 "takeInOthers" ({ frames := 3, cells := 0, slots := 0, locals := 68 } : Room)) (hL : L5 sh P o) (hW1 : L4 sh P w1) {J9 : aJ} (hR : am_R K none none sh P I J9 0 0) : ∀ (n : Nat) (l2 : Int32) (l3 : Int32) (J : aJ) , f_X5_takeInOthers_h2 o w1 n l2 l3 I J = some J9 → AW K 4 2 [(0, .ref o), (1, .ref w1), (2, .int l2), (3, .int l3)] [] sh P I J 0 0 := by
  intro n
  induction n with
  | zero =>
    intro l2 l3 J hf
    cases hf
  | succ n ih =>
    intro l2 l3 J hf
    rw [f_X5_takeInOthers_h2] at hf
    refine ar_iload_n X dX5_takeInOthers_2 rfl 3 rfl ?_
    refine ar_sipush (v := 1801) X dX5_takeInOthers_3 (by decide) ?_
    refine ar_icmp_ge (tgt := 30) X dX5_takeInOthers_6 (by decide) hf (fun h1 hf => ?_) (fun h1 hf => ?_)
    · refine ar_iconst (v := 0) X dX5_takeInOthers_30 (by decide) ?_
      refine ar_istore_n X dX5_takeInOthers_31 rfl (by decide) rfl ?_
      refine ar_lo [1, 2, 3, 0] rfl ?_
      exact ab_X5_takeInOthers_h32 X hL hW1 hR am_F l2 (0 : Int32) J hf
    · refine ar_aload_n X dX5_takeInOthers_9 rfl 0 rfl ?_
      refine ar_getr X dX5_takeInOthers_10 fg_X5_11 rfl (L5_s0 hL) (L5_p0_0 hL) ?_
      refine ar_iload_n X dX5_takeInOthers_13 rfl 3 rfl ?_
      refine ar_iload_n X dX5_takeInOthers_14 rfl 3 rfl ?_
      refine ar_if_ne (tgt := 22) X dX5_takeInOthers_15 (by decide) hf (fun h2 hf => ?_) (fun h2 hf => ?_)
      · refine ar_lconst (v := 1) X dX5_takeInOthers_18 (by decide) ?_
        refine ar_goto (tgt := 23) X dX5_takeInOthers_19 (by decide) ?_
        refine ar_last X dX5_takeInOthers_23 (L5_s1 hL) hf (fun J3 hf => ?_)
        refine ar_iinc (j := 3) (v := (l3 + 1)) X dX5_takeInOthers_24 rfl rfl (by decide) rfl ?_
        refine ar_goto (tgt := 2) X dX5_takeInOthers_27 (by decide) ?_
        refine ar_lo [1, 2, 3, 0] rfl ?_
        exact ih l2 (l3 + 1) J3 hf
      · refine ar_lconst (v := 0) X dX5_takeInOthers_22 (by decide) ?_
        refine ar_last X dX5_takeInOthers_23 (L5_s1 hL) hf (fun J4 hf => ?_)
        refine ar_iinc (j := 3) (v := (l3 + 1)) X dX5_takeInOthers_24 rfl rfl (by decide) rfl ?_
        refine ar_goto (tgt := 2) X dX5_takeInOthers_27 (by decide) ?_
        refine ar_lo [1, 2, 3, 0] rfl ?_
        exact ih l2 (l3 + 1) J4 hf
def f_X5_takeInOthers (o : Nat) (w1 : Nat) (a2 : Int32) (I : aI) (J : aJ) : Option aJ :=
  f_X5_takeInOthers_h2 o w1 am_F a2 (0 : Int32) I J
set_option maxRecDepth 100000 in
set_option maxHeartbeats 4000000 in
theorem am_X5_takeInOthers {sh : aS} {P : aP} {I : aI} {J : aJ} {o : Nat} {w1 : Nat} (hL : L5 sh P o) (hW1 : L4 sh P w1) {a2 : Int32} {J9 : aJ} (hf : f_X5_takeInOthers o w1 a2 I J = some J9) : AM yX5_takeInOthers cX5_takeInOthers 4 none 3 68 [.ref o, .ref w1, .int a2] sh P I J none sh P I J9 0 0 := by
  refine am_met (by decide +kernel) (Nat.le_of_ble_eq_true rfl) (fun K X hR => ?_)
  have X : am_C K cX5_takeInOthers 4 RX5 "takeInOthers" ({ frames := 3, cells := 0, slots := 0, locals := 68 } : Room) := X
  show AW K 4 0 [(0, .ref o), (1, .ref w1), (2, .int a2)] [] sh P I J 0 0
  unfold f_X5_takeInOthers at hf
  refine ar_iconst (v := 0) X dX5_takeInOthers_0 (by decide) ?_
  refine ar_istore_n X dX5_takeInOthers_1 rfl (by decide) rfl ?_
  refine ar_lo [1, 2, 3, 0] rfl ?_
  exact ab_X5_takeInOthers_h2 X hL hW1 hR am_F a2 (0 : Int32) J hf
def f_X5_waysOf (o : Nat) (a1 : Int32) (J : aJ) : Option Int64 :=
  am_b1 (f_X6_within a1 (0 : Int32) (1800 : Int32)) fun r1 =>
  if r1 = 0 then (
    some (0 : Int64))
  else (
    am_g (am_ok a1 1801) (
    some (J (o + 1) (Int32.toNatClampNeg a1))))
set_option maxRecDepth 100000 in
set_option maxHeartbeats 4000000 in
theorem am_X5_waysOf {sh : aS} {P : aP} {I : aI} {J : aJ} {o : Nat} (hL : L5 sh P o) {a1 : Int32} {r : Int64} (hf : f_X5_waysOf o a1 J = some r) : AM yX5_waysOf cX5_waysOf 2 (some .long) 1 22 [.ref o, .int a1] sh P I J (some (.long r)) sh P I J 0 0 := by
  refine am_met (by decide +kernel) (Nat.le_of_ble_eq_true rfl) (fun K X hR => ?_)
  have X : am_C K cX5_waysOf 2 RX5 "waysOf" ({ frames := 1, cells := 0, slots := 0, locals := 22 } : Room) := X
  show AW K 2 0 [(0, .ref o), (1, .int a1)] [] sh P I J 0 0
  unfold f_X5_waysOf at hf
  refine ar_iload_n X dX5_waysOf_0 rfl 1 rfl ?_
  refine ar_iconst (v := 0) X dX5_waysOf_1 (by decide) ?_
  refine ar_sipush (v := 1800) X dX5_waysOf_2 (by decide) ?_
  obtain ⟨r1, h1, hf⟩ := am_b1_e hf
  refine ar_cSi (As := [.int a1, .int (0 : Int32), .int (1800 : Int32)]) (st := []) X dX5_waysOf_5 (am_X6_within h1) lk_X5_56 mt_X6_within ms_X6_within rfl (Nat.le_of_ble_eq_true rfl) ⟨by decide, by decide⟩ ⟨Nat.zero_le _, Nat.zero_le _⟩ rfl ?_
  refine ar_if_eq (tgt := 20) X dX5_waysOf_8 (by decide) hf (fun h2 hf => ?_) (fun h2 hf => ?_)
  · refine ar_lconst (v := 0) X dX5_waysOf_20 (by decide) ?_
    cases hf
    exact ar_lret X dX5_waysOf_21 hR (Nat.le_refl _) (Nat.le_refl _)
  · refine ar_aload_n X dX5_waysOf_11 rfl 0 rfl ?_
    refine ar_getr X dX5_waysOf_12 fg_X5_11 rfl (L5_s0 hL) (L5_p0_0 hL) ?_
    refine ar_iload_n X dX5_waysOf_15 rfl 1 rfl ?_
    refine ar_lald X dX5_waysOf_16 (L5_s1 hL) hf (fun hf => ?_)
    refine ar_goto (tgt := 21) X dX5_waysOf_17 (by decide) ?_
    cases hf
    exact ar_lret X dX5_waysOf_21 hR (Nat.le_refl _) (Nat.le_refl _)
def f_X5_averageIn_b68 (o : Nat) (w1 : Nat) (l4 : Int64) (l6 : Int64) (I : aI) (J : aJ) : Option (Int32 × aJ) :=
  if (lg_cmp l4 (0 : Int64)) ≤ 0 then (
    some ((0 : Int32), J))
  else (
    am_g (decide (¬ l4 = 0)) (
    some ((Int64.toInt32 (l6 / l4)), J)))
set_option maxRecDepth 100000 in
set_option maxHeartbeats 4000000 in
theorem ab_X5_averageIn_b68 {K : aK} {sh : aS} {P : aP} {I : aI} {o : Nat} {w1 : Nat} (X : am_C K cX5_averageIn 11 RX5 "averageIn" ({ frames := 4, cells := 0, slots := 0, locals := 91 } : Room)) (hL : L5 sh P o) (hW1 : L4 sh P w1) {r : Int32} {J9 : aJ} (hR : am_R K (some .int) (some (.int r)) sh P I J9 0 0) (l4 : Int64) (l6 : Int64) (J : aJ) (hf : f_X5_averageIn_b68 o w1 l4 l6 I J = some (r, J9)) : AW K 11 68 [(4, .long l4), (6, .long l6)] [] sh P I J 0 0 := by
  unfold f_X5_averageIn_b68 at hf
  refine ar_lload X dX5_averageIn_68 0 rfl ?_
  refine ar_lconst (v := 0) X dX5_averageIn_70 (by decide) ?_
  refine ar_lcmp X dX5_averageIn_71 ?_
  refine ar_if_le (tgt := 84) X dX5_averageIn_72 (by decide) hf (fun h1 hf => ?_) (fun h1 hf => ?_)
  · refine ar_iconst (v := 0) X dX5_averageIn_84 (by decide) ?_
    cases hf
    exact ar_iret X dX5_averageIn_85 hR (Nat.le_refl _) (Nat.le_refl _)
  · refine ar_lload X dX5_averageIn_75 1 rfl ?_
    refine ar_lload X dX5_averageIn_77 0 rfl ?_
    obtain ⟨h2, hf⟩ := am_g_elim hf
    refine ar_ldiv X dX5_averageIn_79 h2 ?_
    refine ar_l2i X dX5_averageIn_80 ?_
    refine ar_goto (tgt := 85) X dX5_averageIn_81 (by decide) ?_
    cases hf
    exact ar_iret X dX5_averageIn_85 hR (Nat.le_refl _) (Nat.le_refl _)
def f_X5_averageIn_h24 (o : Nat) (w1 : Nat) : Nat → Int32 → Int32 → Int64 → Int64 → Int32 → aI → aJ → Option (Int32 × aJ)
  | 0, _, _, _, _, _, _, _ => none
  | n + 1, l2, l3, l4, l6, l8, I, J =>
    am_b1 (f_X4_greatestOf w1 l2 I) fun r1 =>
    if r1 < l8 then (
      f_X5_averageIn_b68 o w1 l4 l6 I J)
    else (
      am_b1 (f_X5_waysOf o (l3 - l8) J) fun r3 =>
      am_let (l4 + r3) fun x4 =>
      am_let (l6 + (r3 * (Int32.toInt64 l8))) fun x5 =>
      f_X5_averageIn_h24 o w1 n l2 l3 x4 x5 (l8 + 1) I J)
set_option maxRecDepth 100000 in
set_option maxHeartbeats 4000000 in
theorem ab_X5_averageIn_h24 {K : aK} {sh : aS} {P : aP} {I : aI} {o : Nat} {w1 : Nat} (X : am_C K cX5_averageIn 11 RX5 "averageIn" ({ frames := 4, cells := 0, slots := 0, locals := 91 } : Room)) (hL : L5 sh P o) (hW1 : L4 sh P w1) {r : Int32} {J9 : aJ} (hR : am_R K (some .int) (some (.int r)) sh P I J9 0 0) : ∀ (n : Nat) (l2 : Int32) (l3 : Int32) (l4 : Int64) (l6 : Int64) (l8 : Int32) (J : aJ) , f_X5_averageIn_h24 o w1 n l2 l3 l4 l6 l8 I J = some (r, J9) → AW K 11 24 [(0, .ref o), (1, .ref w1), (2, .int l2), (3, .int l3), (4, .long l4), (6, .long l6), (8, .int l8)] [] sh P I J 0 0 := by
  intro n
  induction n with
  | zero =>
    intro l2 l3 l4 l6 l8 J hf
    cases hf
  | succ n ih =>
    intro l2 l3 l4 l6 l8 J hf
    rw [f_X5_averageIn_h24] at hf
    refine ar_iload X dX5_averageIn_24 6 rfl ?_
    refine ar_aload_n X dX5_averageIn_26 rfl 1 rfl ?_
    refine ar_iload_n X dX5_averageIn_27 rfl 2 rfl ?_
    obtain ⟨r1, h1, hf⟩ := am_b1_e hf
    refine ar_cVi (As := [.int l2]) (st := [.int l8]) X dX5_averageIn_28 (am_X4_greatestOf hW1 h1) lk_X5_32 mt_X4_greatestOf mi_X4_greatestOf (L4_s0 hW1) rfl rfl (Nat.le_of_ble_eq_true rfl) ⟨by decide, by decide⟩ ⟨Nat.zero_le _, Nat.zero_le _⟩ rfl ?_
    refine ar_icmp_gt (tgt := 68) X dX5_averageIn_31 (by decide) hf (fun h2 hf => ?_) (fun h2 hf => ?_)
    · refine ar_lo [4, 5] rfl ?_
      exact ab_X5_averageIn_b68 X hL hW1 hR l4 l6 J hf
    · refine ar_aload_n X dX5_averageIn_34 rfl 0 rfl ?_
      refine ar_iload_n X dX5_averageIn_35 rfl 3 rfl ?_
      refine ar_iload X dX5_averageIn_36 6 rfl ?_
      refine ar_isub X dX5_averageIn_38 ?_
      obtain ⟨r3, h3, hf⟩ := am_b1_e hf
      refine ar_cVl (As := [.int (l3 - l8)]) (st := []) X dX5_averageIn_39 (am_X5_waysOf hL h3) lk_X5_35 mt_X5_waysOf mi_X5_waysOf (L5_s0 hL) rfl rfl (Nat.le_of_ble_eq_true rfl) ⟨by decide, by decide⟩ ⟨Nat.zero_le _, Nat.zero_le _⟩ rfl ?_
      refine ar_lstore X dX5_averageIn_42 (by decide) rfl ?_
      refine ar_lload X dX5_averageIn_44 5 rfl ?_
      refine ar_lload X dX5_averageIn_46 0 rfl ?_
      refine ar_ladd X dX5_averageIn_48 ?_
      refine ar_letL hf (fun x4 hf => ?_)
      refine ar_lstore X dX5_averageIn_49 (by decide) rfl ?_
      refine ar_lload X dX5_averageIn_51 6 rfl ?_
      refine ar_lload X dX5_averageIn_53 1 rfl ?_
      refine ar_iload X dX5_averageIn_55 7 rfl ?_
      refine ar_i2l X dX5_averageIn_57 ?_
      refine ar_lmul X dX5_averageIn_58 ?_
      refine ar_ladd X dX5_averageIn_59 ?_
      refine ar_letL hf (fun x5 hf => ?_)
      refine ar_lstore X dX5_averageIn_60 (by decide) rfl ?_
      refine ar_iinc (j := 7) (v := (l8 + 1)) X dX5_averageIn_62 rfl rfl (by decide) rfl ?_
      refine ar_goto (tgt := 24) X dX5_averageIn_65 (by decide) ?_
      refine ar_lo [4, 5, 6, 7, 2, 1, 0] rfl ?_
      exact ih l2 l3 x4 x5 (l8 + 1) J hf
def f_X5_averageIn (o : Nat) (w1 : Nat) (a2 : Int32) (I : aI) (J : aJ) : Option (Int32 × aJ) :=
  am_b1 (f_X5_takeInOthers o w1 a2 I J) fun J1 =>
  am_b1 (f_X4_sum w1 I) fun r2 =>
  am_b1 (f_X4_leastOf w1 a2 I) fun r3 =>
  f_X5_averageIn_h24 o w1 am_F a2 r2 (0 : Int64) (0 : Int64) r3 I J1
set_option maxRecDepth 100000 in
set_option maxHeartbeats 4000000 in
theorem am_X5_averageIn {sh : aS} {P : aP} {I : aI} {J : aJ} {o : Nat} {w1 : Nat} (hL : L5 sh P o) (hW1 : L4 sh P w1) {a2 : Int32} {r : Int32} {J9 : aJ} (hf : f_X5_averageIn o w1 a2 I J = some (r, J9)) : AM yX5_averageIn cX5_averageIn 11 (some .int) 4 91 [.ref o, .ref w1, .int a2] sh P I J (some (.int r)) sh P I J9 0 0 := by
  refine am_met (by decide +kernel) (Nat.le_of_ble_eq_true rfl) (fun K X hR => ?_)
  have X : am_C K cX5_averageIn 11 RX5 "averageIn" ({ frames := 4, cells := 0, slots := 0, locals := 91 } : Room) := X
  show AW K 11 0 [(0, .ref o), (1, .ref w1), (2, .int a2)] [] sh P I J 0 0
  unfold f_X5_averageIn at hf
  refine ar_aload_n X dX5_averageIn_0 rfl 0 rfl ?_
  refine ar_aload_n X dX5_averageIn_1 rfl 1 rfl ?_
  refine ar_iload_n X dX5_averageIn_2 rfl 2 rfl ?_
  obtain ⟨J1, h1, hf⟩ := am_b1_e hf
  refine ar_cVv (As := [.ref w1, .int a2]) (st := []) X dX5_averageIn_3 (am_X5_takeInOthers hL hW1 h1) lk_X5_18 mt_X5_takeInOthers mi_X5_takeInOthers (L5_s0 hL) rfl rfl (Nat.le_of_ble_eq_true rfl) ⟨by decide, by decide⟩ ⟨Nat.zero_le _, Nat.zero_le _⟩ rfl ?_
  refine ar_aload_n X dX5_averageIn_6 rfl 1 rfl ?_
  obtain ⟨r2, h2, hf⟩ := am_b1_e hf
  refine ar_cVi (As := []) (st := []) X dX5_averageIn_7 (am_X4_sum hW1 h2) lk_X5_22 mt_X4_sum mi_X4_sum (L4_s0 hW1) rfl rfl (Nat.le_of_ble_eq_true rfl) ⟨by decide, by decide⟩ ⟨Nat.zero_le _, Nat.zero_le _⟩ rfl ?_
  refine ar_istore_n X dX5_averageIn_10 rfl (by decide) rfl ?_
  refine ar_lconst (v := 0) X dX5_averageIn_11 (by decide) ?_
  refine ar_lstore X dX5_averageIn_12 (by decide) rfl ?_
  refine ar_lconst (v := 0) X dX5_averageIn_14 (by decide) ?_
  refine ar_lstore X dX5_averageIn_15 (by decide) rfl ?_
  refine ar_aload_n X dX5_averageIn_17 rfl 4 rfl ?_
  refine ar_iload_n X dX5_averageIn_18 rfl 5 rfl ?_
  obtain ⟨r3, h3, hf⟩ := am_b1_e hf
  refine ar_cVi (As := [.int a2]) (st := []) X dX5_averageIn_19 (am_X4_leastOf hW1 h3) lk_X5_28 mt_X4_leastOf mi_X4_leastOf (L4_s0 hW1) rfl rfl (Nat.le_of_ble_eq_true rfl) ⟨by decide, by decide⟩ ⟨Nat.zero_le _, Nat.zero_le _⟩ rfl ?_
  refine ar_istore X dX5_averageIn_22 (by decide) rfl ?_
  refine ar_lo [4, 5, 6, 3, 2, 1, 0] rfl ?_
  exact ab_X5_averageIn_h24 X hL hW1 hR am_F a2 r2 (0 : Int64) (0 : Int64) r3 J1 hf
def f_X5_greatestIn_h22 (o : Nat) (w1 : Nat) : Nat → Int32 → Int32 → Int32 → Int32 → aI → aJ → Option (Int32 × aJ)
  | 0, _, _, _, _, _, _ => none
  | n + 1, l2, l3, l4, l5, I, J =>
    am_b1 (f_X4_leastOf w1 l2 I) fun r1 =>
    if l5 < r1 then (
      some (l4, J))
    else (
      am_b1 (f_X5_waysOf o (l3 - l5) J) fun r3 =>
      if (lg_cmp r3 (0 : Int64)) ≤ 0 then (
        f_X5_greatestIn_h22 o w1 n l2 l3 l4 (l5 + (-1)) I J)
      else (
        some (l5, J)))
set_option maxRecDepth 100000 in
set_option maxHeartbeats 4000000 in
theorem ab_X5_greatestIn_h22 {K : aK} {sh : aS} {P : aP} {I : aI} {o : Nat} {w1 : Nat} (X : am_C K cX5_greatestIn 6 RX5 "greatestIn" ({ frames := 4, cells := 0, slots := 0, locals := 91 } : Room)) (hL : L5 sh P o) (hW1 : L4 sh P w1) {r : Int32} {J9 : aJ} (hR : am_R K (some .int) (some (.int r)) sh P I J9 0 0) : ∀ (n : Nat) (l2 : Int32) (l3 : Int32) (l4 : Int32) (l5 : Int32) (J : aJ) , f_X5_greatestIn_h22 o w1 n l2 l3 l4 l5 I J = some (r, J9) → AW K 6 22 [(0, .ref o), (1, .ref w1), (2, .int l2), (3, .int l3), (4, .int l4), (5, .int l5)] [] sh P I J 0 0 := by
  intro n
  induction n with
  | zero =>
    intro l2 l3 l4 l5 J hf
    cases hf
  | succ n ih =>
    intro l2 l3 l4 l5 J hf
    rw [f_X5_greatestIn_h22] at hf
    refine ar_iload X dX5_greatestIn_22 5 rfl ?_
    refine ar_aload_n X dX5_greatestIn_24 rfl 1 rfl ?_
    refine ar_iload_n X dX5_greatestIn_25 rfl 2 rfl ?_
    obtain ⟨r1, h1, hf⟩ := am_b1_e hf
    refine ar_cVi (As := [.int l2]) (st := [.int l5]) X dX5_greatestIn_26 (am_X4_leastOf hW1 h1) lk_X5_28 mt_X4_leastOf mi_X4_leastOf (L4_s0 hW1) rfl rfl (Nat.le_of_ble_eq_true rfl) ⟨by decide, by decide⟩ ⟨Nat.zero_le _, Nat.zero_le _⟩ rfl ?_
    refine ar_icmp_lt (tgt := 54) X dX5_greatestIn_29 (by decide) hf (fun h2 hf => ?_) (fun h2 hf => ?_)
    · refine ar_iload X dX5_greatestIn_54 4 rfl ?_
      cases hf
      exact ar_iret X dX5_greatestIn_56 hR (Nat.le_refl _) (Nat.le_refl _)
    · refine ar_aload_n X dX5_greatestIn_32 rfl 0 rfl ?_
      refine ar_iload_n X dX5_greatestIn_33 rfl 3 rfl ?_
      refine ar_iload X dX5_greatestIn_34 5 rfl ?_
      refine ar_isub X dX5_greatestIn_36 ?_
      obtain ⟨r3, h3, hf⟩ := am_b1_e hf
      refine ar_cVl (As := [.int (l3 - l5)]) (st := []) X dX5_greatestIn_37 (am_X5_waysOf hL h3) lk_X5_35 mt_X5_waysOf mi_X5_waysOf (L5_s0 hL) rfl rfl (Nat.le_of_ble_eq_true rfl) ⟨by decide, by decide⟩ ⟨Nat.zero_le _, Nat.zero_le _⟩ rfl ?_
      refine ar_lconst (v := 0) X dX5_greatestIn_40 (by decide) ?_
      refine ar_lcmp X dX5_greatestIn_41 ?_
      refine ar_if_le (tgt := 48) X dX5_greatestIn_42 (by decide) hf (fun h4 hf => ?_) (fun h4 hf => ?_)
      · refine ar_iinc (j := 5) (v := (l5 + (-1))) X dX5_greatestIn_48 rfl rfl (by decide) rfl ?_
        refine ar_goto (tgt := 22) X dX5_greatestIn_51 (by decide) ?_
        refine ar_lo [1, 2, 3, 4, 5, 0] rfl ?_
        exact ih l2 l3 l4 (l5 + (-1)) J hf
      · refine ar_iload X dX5_greatestIn_45 5 rfl ?_
        cases hf
        exact ar_iret X dX5_greatestIn_47 hR (Nat.le_refl _) (Nat.le_refl _)
def f_X5_greatestIn (o : Nat) (w1 : Nat) (a2 : Int32) (I : aI) (J : aJ) : Option (Int32 × aJ) :=
  am_b1 (f_X5_takeInOthers o w1 a2 I J) fun J1 =>
  am_b1 (f_X4_sum w1 I) fun r2 =>
  am_b1 (f_X4_greatestOf w1 a2 I) fun r3 =>
  f_X5_greatestIn_h22 o w1 am_F a2 r2 r3 r3 I J1
set_option maxRecDepth 100000 in
set_option maxHeartbeats 4000000 in
theorem am_X5_greatestIn {sh : aS} {P : aP} {I : aI} {J : aJ} {o : Nat} {w1 : Nat} (hL : L5 sh P o) (hW1 : L4 sh P w1) {a2 : Int32} {r : Int32} {J9 : aJ} (hf : f_X5_greatestIn o w1 a2 I J = some (r, J9)) : AM yX5_greatestIn cX5_greatestIn 6 (some .int) 4 91 [.ref o, .ref w1, .int a2] sh P I J (some (.int r)) sh P I J9 0 0 := by
  refine am_met (by decide +kernel) (Nat.le_of_ble_eq_true rfl) (fun K X hR => ?_)
  have X : am_C K cX5_greatestIn 6 RX5 "greatestIn" ({ frames := 4, cells := 0, slots := 0, locals := 91 } : Room) := X
  show AW K 6 0 [(0, .ref o), (1, .ref w1), (2, .int a2)] [] sh P I J 0 0
  unfold f_X5_greatestIn at hf
  refine ar_aload_n X dX5_greatestIn_0 rfl 0 rfl ?_
  refine ar_aload_n X dX5_greatestIn_1 rfl 1 rfl ?_
  refine ar_iload_n X dX5_greatestIn_2 rfl 2 rfl ?_
  obtain ⟨J1, h1, hf⟩ := am_b1_e hf
  refine ar_cVv (As := [.ref w1, .int a2]) (st := []) X dX5_greatestIn_3 (am_X5_takeInOthers hL hW1 h1) lk_X5_18 mt_X5_takeInOthers mi_X5_takeInOthers (L5_s0 hL) rfl rfl (Nat.le_of_ble_eq_true rfl) ⟨by decide, by decide⟩ ⟨Nat.zero_le _, Nat.zero_le _⟩ rfl ?_
  refine ar_aload_n X dX5_greatestIn_6 rfl 1 rfl ?_
  obtain ⟨r2, h2, hf⟩ := am_b1_e hf
  refine ar_cVi (As := []) (st := []) X dX5_greatestIn_7 (am_X4_sum hW1 h2) lk_X5_22 mt_X4_sum mi_X4_sum (L4_s0 hW1) rfl rfl (Nat.le_of_ble_eq_true rfl) ⟨by decide, by decide⟩ ⟨Nat.zero_le _, Nat.zero_le _⟩ rfl ?_
  refine ar_istore_n X dX5_greatestIn_10 rfl (by decide) rfl ?_
  refine ar_aload_n X dX5_greatestIn_11 rfl 2 rfl ?_
  refine ar_iload_n X dX5_greatestIn_12 rfl 3 rfl ?_
  obtain ⟨r3, h3, hf⟩ := am_b1_e hf
  refine ar_cVi (As := [.int a2]) (st := []) X dX5_greatestIn_13 (am_X4_greatestOf hW1 h3) lk_X5_32 mt_X4_greatestOf mi_X4_greatestOf (L4_s0 hW1) rfl rfl (Nat.le_of_ble_eq_true rfl) ⟨by decide, by decide⟩ ⟨Nat.zero_le _, Nat.zero_le _⟩ rfl ?_
  refine ar_istore X dX5_greatestIn_16 (by decide) rfl ?_
  refine ar_iload X dX5_greatestIn_18 0 rfl ?_
  refine ar_istore X dX5_greatestIn_20 (by decide) rfl ?_
  refine ar_lo [3, 4, 5, 2, 1, 0] rfl ?_
  exact ab_X5_greatestIn_h22 X hL hW1 hR am_F a2 r2 r3 r3 J1 hf
def f_X5_leastIn_h22 (o : Nat) (w1 : Nat) : Nat → Int32 → Int32 → Int32 → Int32 → aI → aJ → Option (Int32 × aJ)
  | 0, _, _, _, _, _, _ => none
  | n + 1, l2, l3, l4, l5, I, J =>
    am_b1 (f_X4_greatestOf w1 l2 I) fun r1 =>
    if r1 < l5 then (
      some (l4, J))
    else (
      am_b1 (f_X5_waysOf o (l3 - l5) J) fun r3 =>
      if (lg_cmp r3 (0 : Int64)) ≤ 0 then (
        f_X5_leastIn_h22 o w1 n l2 l3 l4 (l5 + 1) I J)
      else (
        some (l5, J)))
set_option maxRecDepth 100000 in
set_option maxHeartbeats 4000000 in
theorem ab_X5_leastIn_h22 {K : aK} {sh : aS} {P : aP} {I : aI} {o : Nat} {w1 : Nat} (X : am_C K cX5_leastIn 6 RX5 "leastIn" ({ frames := 4, cells := 0, slots := 0, locals := 91 } : Room)) (hL : L5 sh P o) (hW1 : L4 sh P w1) {r : Int32} {J9 : aJ} (hR : am_R K (some .int) (some (.int r)) sh P I J9 0 0) : ∀ (n : Nat) (l2 : Int32) (l3 : Int32) (l4 : Int32) (l5 : Int32) (J : aJ) , f_X5_leastIn_h22 o w1 n l2 l3 l4 l5 I J = some (r, J9) → AW K 6 22 [(0, .ref o), (1, .ref w1), (2, .int l2), (3, .int l3), (4, .int l4), (5, .int l5)] [] sh P I J 0 0 := by
  intro n
  induction n with
  | zero =>
    intro l2 l3 l4 l5 J hf
    cases hf
  | succ n ih =>
    intro l2 l3 l4 l5 J hf
    rw [f_X5_leastIn_h22] at hf
    refine ar_iload X dX5_leastIn_22 5 rfl ?_
    refine ar_aload_n X dX5_leastIn_24 rfl 1 rfl ?_
    refine ar_iload_n X dX5_leastIn_25 rfl 2 rfl ?_
    obtain ⟨r1, h1, hf⟩ := am_b1_e hf
    refine ar_cVi (As := [.int l2]) (st := [.int l5]) X dX5_leastIn_26 (am_X4_greatestOf hW1 h1) lk_X5_32 mt_X4_greatestOf mi_X4_greatestOf (L4_s0 hW1) rfl rfl (Nat.le_of_ble_eq_true rfl) ⟨by decide, by decide⟩ ⟨Nat.zero_le _, Nat.zero_le _⟩ rfl ?_
    refine ar_icmp_gt (tgt := 54) X dX5_leastIn_29 (by decide) hf (fun h2 hf => ?_) (fun h2 hf => ?_)
    · refine ar_iload X dX5_leastIn_54 4 rfl ?_
      cases hf
      exact ar_iret X dX5_leastIn_56 hR (Nat.le_refl _) (Nat.le_refl _)
    · refine ar_aload_n X dX5_leastIn_32 rfl 0 rfl ?_
      refine ar_iload_n X dX5_leastIn_33 rfl 3 rfl ?_
      refine ar_iload X dX5_leastIn_34 5 rfl ?_
      refine ar_isub X dX5_leastIn_36 ?_
      obtain ⟨r3, h3, hf⟩ := am_b1_e hf
      refine ar_cVl (As := [.int (l3 - l5)]) (st := []) X dX5_leastIn_37 (am_X5_waysOf hL h3) lk_X5_35 mt_X5_waysOf mi_X5_waysOf (L5_s0 hL) rfl rfl (Nat.le_of_ble_eq_true rfl) ⟨by decide, by decide⟩ ⟨Nat.zero_le _, Nat.zero_le _⟩ rfl ?_
      refine ar_lconst (v := 0) X dX5_leastIn_40 (by decide) ?_
      refine ar_lcmp X dX5_leastIn_41 ?_
      refine ar_if_le (tgt := 48) X dX5_leastIn_42 (by decide) hf (fun h4 hf => ?_) (fun h4 hf => ?_)
      · refine ar_iinc (j := 5) (v := (l5 + 1)) X dX5_leastIn_48 rfl rfl (by decide) rfl ?_
        refine ar_goto (tgt := 22) X dX5_leastIn_51 (by decide) ?_
        refine ar_lo [1, 2, 3, 4, 5, 0] rfl ?_
        exact ih l2 l3 l4 (l5 + 1) J hf
      · refine ar_iload X dX5_leastIn_45 5 rfl ?_
        cases hf
        exact ar_iret X dX5_leastIn_47 hR (Nat.le_refl _) (Nat.le_refl _)
def f_X5_leastIn (o : Nat) (w1 : Nat) (a2 : Int32) (I : aI) (J : aJ) : Option (Int32 × aJ) :=
  am_b1 (f_X5_takeInOthers o w1 a2 I J) fun J1 =>
  am_b1 (f_X4_sum w1 I) fun r2 =>
  am_b1 (f_X4_leastOf w1 a2 I) fun r3 =>
  f_X5_leastIn_h22 o w1 am_F a2 r2 r3 r3 I J1
set_option maxRecDepth 100000 in
set_option maxHeartbeats 4000000 in
theorem am_X5_leastIn {sh : aS} {P : aP} {I : aI} {J : aJ} {o : Nat} {w1 : Nat} (hL : L5 sh P o) (hW1 : L4 sh P w1) {a2 : Int32} {r : Int32} {J9 : aJ} (hf : f_X5_leastIn o w1 a2 I J = some (r, J9)) : AM yX5_leastIn cX5_leastIn 6 (some .int) 4 91 [.ref o, .ref w1, .int a2] sh P I J (some (.int r)) sh P I J9 0 0 := by
  refine am_met (by decide +kernel) (Nat.le_of_ble_eq_true rfl) (fun K X hR => ?_)
  have X : am_C K cX5_leastIn 6 RX5 "leastIn" ({ frames := 4, cells := 0, slots := 0, locals := 91 } : Room) := X
  show AW K 6 0 [(0, .ref o), (1, .ref w1), (2, .int a2)] [] sh P I J 0 0
  unfold f_X5_leastIn at hf
  refine ar_aload_n X dX5_leastIn_0 rfl 0 rfl ?_
  refine ar_aload_n X dX5_leastIn_1 rfl 1 rfl ?_
  refine ar_iload_n X dX5_leastIn_2 rfl 2 rfl ?_
  obtain ⟨J1, h1, hf⟩ := am_b1_e hf
  refine ar_cVv (As := [.ref w1, .int a2]) (st := []) X dX5_leastIn_3 (am_X5_takeInOthers hL hW1 h1) lk_X5_18 mt_X5_takeInOthers mi_X5_takeInOthers (L5_s0 hL) rfl rfl (Nat.le_of_ble_eq_true rfl) ⟨by decide, by decide⟩ ⟨Nat.zero_le _, Nat.zero_le _⟩ rfl ?_
  refine ar_aload_n X dX5_leastIn_6 rfl 1 rfl ?_
  obtain ⟨r2, h2, hf⟩ := am_b1_e hf
  refine ar_cVi (As := []) (st := []) X dX5_leastIn_7 (am_X4_sum hW1 h2) lk_X5_22 mt_X4_sum mi_X4_sum (L4_s0 hW1) rfl rfl (Nat.le_of_ble_eq_true rfl) ⟨by decide, by decide⟩ ⟨Nat.zero_le _, Nat.zero_le _⟩ rfl ?_
  refine ar_istore_n X dX5_leastIn_10 rfl (by decide) rfl ?_
  refine ar_aload_n X dX5_leastIn_11 rfl 2 rfl ?_
  refine ar_iload_n X dX5_leastIn_12 rfl 3 rfl ?_
  obtain ⟨r3, h3, hf⟩ := am_b1_e hf
  refine ar_cVi (As := [.int a2]) (st := []) X dX5_leastIn_13 (am_X4_leastOf hW1 h3) lk_X5_28 mt_X4_leastOf mi_X4_leastOf (L4_s0 hW1) rfl rfl (Nat.le_of_ble_eq_true rfl) ⟨by decide, by decide⟩ ⟨Nat.zero_le _, Nat.zero_le _⟩ rfl ?_
  refine ar_istore X dX5_leastIn_16 (by decide) rfl ?_
  refine ar_iload X dX5_leastIn_18 0 rfl ?_
  refine ar_istore X dX5_leastIn_20 (by decide) rfl ?_
  refine ar_lo [3, 4, 5, 2, 1, 0] rfl ?_
  exact ab_X5_leastIn_h22 X hL hW1 hR am_F a2 r2 r3 r3 J1 hf
def f_X5_waysWith_h26 (o : Nat) (w1 : Nat) : Nat → Int32 → Int32 → Int64 → Int32 → aI → aJ → Option (Int64 × aJ)
  | 0, _, _, _, _, _, _ => none
  | n + 1, l2, l4, l5, l7, I, J =>
    am_b1 (f_X4_greatestOf w1 l2 I) fun r1 =>
    if r1 < l7 then (
      some (l5, J))
    else (
      am_b1 (f_X5_waysOf o (l4 - l7) J) fun r3 =>
      am_let (l5 + r3) fun x4 =>
      f_X5_waysWith_h26 o w1 n l2 l4 x4 (l7 + 1) I J)
set_option maxRecDepth 100000 in
set_option maxHeartbeats 4000000 in
theorem ab_X5_waysWith_h26 {K : aK} {sh : aS} {P : aP} {I : aI} {o : Nat} {w1 : Nat} (X : am_C K cX5_waysWith 8 RX5 "waysWith" ({ frames := 4, cells := 0, slots := 0, locals := 91 } : Room)) (hL : L5 sh P o) (hW1 : L4 sh P w1) {r : Int64} {J9 : aJ} (hR : am_R K (some .long) (some (.long r)) sh P I J9 0 0) : ∀ (n : Nat) (l2 : Int32) (l4 : Int32) (l5 : Int64) (l7 : Int32) (J : aJ) , f_X5_waysWith_h26 o w1 n l2 l4 l5 l7 I J = some (r, J9) → AW K 8 26 [(0, .ref o), (1, .ref w1), (2, .int l2), (4, .int l4), (5, .long l5), (7, .int l7)] [] sh P I J 0 0 := by
  intro n
  induction n with
  | zero =>
    intro l2 l4 l5 l7 J hf
    cases hf
  | succ n ih =>
    intro l2 l4 l5 l7 J hf
    rw [f_X5_waysWith_h26] at hf
    refine ar_iload X dX5_waysWith_26 5 rfl ?_
    refine ar_aload_n X dX5_waysWith_28 rfl 1 rfl ?_
    refine ar_iload_n X dX5_waysWith_29 rfl 2 rfl ?_
    obtain ⟨r1, h1, hf⟩ := am_b1_e hf
    refine ar_cVi (As := [.int l2]) (st := [.int l7]) X dX5_waysWith_30 (am_X4_greatestOf hW1 h1) lk_X5_32 mt_X4_greatestOf mi_X4_greatestOf (L4_s0 hW1) rfl rfl (Nat.le_of_ble_eq_true rfl) ⟨by decide, by decide⟩ ⟨Nat.zero_le _, Nat.zero_le _⟩ rfl ?_
    refine ar_icmp_gt (tgt := 56) X dX5_waysWith_33 (by decide) hf (fun h2 hf => ?_) (fun h2 hf => ?_)
    · refine ar_lload X dX5_waysWith_56 4 rfl ?_
      cases hf
      exact ar_lret X dX5_waysWith_58 hR (Nat.le_refl _) (Nat.le_refl _)
    · refine ar_lload X dX5_waysWith_36 4 rfl ?_
      refine ar_aload_n X dX5_waysWith_38 rfl 0 rfl ?_
      refine ar_iload X dX5_waysWith_39 3 rfl ?_
      refine ar_iload X dX5_waysWith_41 5 rfl ?_
      refine ar_isub X dX5_waysWith_43 ?_
      obtain ⟨r3, h3, hf⟩ := am_b1_e hf
      refine ar_cVl (As := [.int (l4 - l7)]) (st := [.long l5]) X dX5_waysWith_44 (am_X5_waysOf hL h3) lk_X5_35 mt_X5_waysOf mi_X5_waysOf (L5_s0 hL) rfl rfl (Nat.le_of_ble_eq_true rfl) ⟨by decide, by decide⟩ ⟨Nat.zero_le _, Nat.zero_le _⟩ rfl ?_
      refine ar_ladd X dX5_waysWith_47 ?_
      refine ar_letL hf (fun x4 hf => ?_)
      refine ar_lstore X dX5_waysWith_48 (by decide) rfl ?_
      refine ar_iinc (j := 5) (v := (l7 + 1)) X dX5_waysWith_50 rfl rfl (by decide) rfl ?_
      refine ar_goto (tgt := 26) X dX5_waysWith_53 (by decide) ?_
      refine ar_lo [2, 3, 4, 5, 1, 0] rfl ?_
      exact ih l2 l4 x4 (l7 + 1) J hf
def f_X5_waysWith (o : Nat) (w1 : Nat) (a2 : Int32) (a3 : Int32) (I : aI) (J : aJ) : Option (Int64 × aJ) :=
  am_b1 (f_X5_takeInOthers o w1 a2 I J) fun J1 =>
  am_b1 (f_X4_sum w1 I) fun r2 =>
  am_b1 (f_X4_leastOf w1 a2 I) fun r3 =>
  am_let (am_max a3 r3) fun x4 =>
  f_X5_waysWith_h26 o w1 am_F a2 r2 (0 : Int64) x4 I J1
set_option maxRecDepth 100000 in
set_option maxHeartbeats 4000000 in
theorem am_X5_waysWith {sh : aS} {P : aP} {I : aI} {J : aJ} {o : Nat} {w1 : Nat} (hL : L5 sh P o) (hW1 : L4 sh P w1) {a2 : Int32} {a3 : Int32} {r : Int64} {J9 : aJ} (hf : f_X5_waysWith o w1 a2 a3 I J = some (r, J9)) : AM yX5_waysWith cX5_waysWith 8 (some .long) 4 91 [.ref o, .ref w1, .int a2, .int a3] sh P I J (some (.long r)) sh P I J9 0 0 := by
  refine am_met (by decide +kernel) (Nat.le_of_ble_eq_true rfl) (fun K X hR => ?_)
  have X : am_C K cX5_waysWith 8 RX5 "waysWith" ({ frames := 4, cells := 0, slots := 0, locals := 91 } : Room) := X
  show AW K 8 0 [(0, .ref o), (1, .ref w1), (2, .int a2), (3, .int a3)] [] sh P I J 0 0
  unfold f_X5_waysWith at hf
  refine ar_aload_n X dX5_waysWith_0 rfl 0 rfl ?_
  refine ar_aload_n X dX5_waysWith_1 rfl 1 rfl ?_
  refine ar_iload_n X dX5_waysWith_2 rfl 2 rfl ?_
  obtain ⟨J1, h1, hf⟩ := am_b1_e hf
  refine ar_cVv (As := [.ref w1, .int a2]) (st := []) X dX5_waysWith_3 (am_X5_takeInOthers hL hW1 h1) lk_X5_18 mt_X5_takeInOthers mi_X5_takeInOthers (L5_s0 hL) rfl rfl (Nat.le_of_ble_eq_true rfl) ⟨by decide, by decide⟩ ⟨Nat.zero_le _, Nat.zero_le _⟩ rfl ?_
  refine ar_aload_n X dX5_waysWith_6 rfl 1 rfl ?_
  obtain ⟨r2, h2, hf⟩ := am_b1_e hf
  refine ar_cVi (As := []) (st := []) X dX5_waysWith_7 (am_X4_sum hW1 h2) lk_X5_22 mt_X4_sum mi_X4_sum (L4_s0 hW1) rfl rfl (Nat.le_of_ble_eq_true rfl) ⟨by decide, by decide⟩ ⟨Nat.zero_le _, Nat.zero_le _⟩ rfl ?_
  refine ar_istore X dX5_waysWith_10 (by decide) rfl ?_
  refine ar_lconst (v := 0) X dX5_waysWith_12 (by decide) ?_
  refine ar_lstore X dX5_waysWith_13 (by decide) rfl ?_
  refine ar_iload_n X dX5_waysWith_15 rfl 5 rfl ?_
  refine ar_aload_n X dX5_waysWith_16 rfl 3 rfl ?_
  refine ar_iload_n X dX5_waysWith_17 rfl 4 rfl ?_
  obtain ⟨r3, h3, hf⟩ := am_b1_e hf
  refine ar_cVi (As := [.int a2]) (st := [.int a3]) X dX5_waysWith_18 (am_X4_leastOf hW1 h3) lk_X5_28 mt_X4_leastOf mi_X4_leastOf (L4_s0 hW1) rfl rfl (Nat.le_of_ble_eq_true rfl) ⟨by decide, by decide⟩ ⟨Nat.zero_le _, Nat.zero_le _⟩ rfl ?_
  refine ar_max X dX5_waysWith_21 jm_max_X5_39 jm_max_s jm_i jm_max_c (by decide) (Nat.le_of_ble_eq_true rfl) ⟨Nat.zero_le _, Nat.zero_le _⟩ ?_
  refine ar_letI hf (fun x4 hf => ?_)
  refine ar_istore X dX5_waysWith_24 (by decide) rfl ?_
  refine ar_lo [3, 4, 5, 2, 1, 0] rfl ?_
  exact ab_X5_waysWith_h26 X hL hW1 hR am_F a2 r2 (0 : Int64) x4 J1 hf
def f_X6_about (o : Nat) (a1 : Int32) (a2 : Int32) (I : aI) : Option Int32 :=
  am_b1 (f_X2_hasLot (o + 9) a1 I) fun r1 =>
  if r1 = 0 then (
    some (-1 : Int32))
  else (
    if a2 = (0 : Int32) then (
      am_b1 (f_X2_colourOf (o + 9) a1 I) fun r4 =>
      some r4)
    else if a2 = (1 : Int32) then (
      am_b1 (f_X2_worthOf (o + 9) a1 I) fun r6 =>
      some r6)
    else if a2 = (2 : Int32) then (
      am_b1 (f_X2_ownersOf (o + 9) a1 I) fun r8 =>
      some r8)
    else if a2 = (3 : Int32) then (
      am_b1 (f_X2_priceOf (o + 9) a1 I) fun r10 =>
      some r10)
    else if a2 = (4 : Int32) then (
      am_b1 (f_X2_stateOf (o + 9) a1 I) fun r12 =>
      some r12)
    else (
      some (-2 : Int32)))
set_option maxRecDepth 100000 in
set_option maxHeartbeats 4000000 in
theorem am_X6_about {sh : aS} {P : aP} {I : aI} {J : aJ} {o : Nat} (hL : L6 sh P o) {a1 : Int32} {a2 : Int32} {r : Int32} (hf : f_X6_about o a1 a2 I = some r) : AM yX6_about cX6_about 4 (some .int) 3 63 [.ref o, .int a1, .int a2] sh P I J (some (.int r)) sh P I J 0 0 := by
  refine am_met (by decide +kernel) (Nat.le_of_ble_eq_true rfl) (fun K X hR => ?_)
  have X : am_C K cX6_about 4 RX6 "about" ({ frames := 3, cells := 0, slots := 0, locals := 63 } : Room) := X
  show AW K 4 0 [(0, .ref o), (1, .int a1), (2, .int a2)] [] sh P I J 0 0
  unfold f_X6_about at hf
  refine ar_aload_n X dX6_about_0 rfl 0 rfl ?_
  refine ar_getr X dX6_about_1 fg_X6_10 rfl (L6_s0 hL) (L6_p0_0 hL) ?_
  refine ar_getr X dX6_about_4 fg_X6_86 rfl (L6_s1 hL) (L6_p1_2 hL) ?_
  refine ar_astore_n X dX6_about_7 rfl (by decide) rfl ?_
  refine ar_aload_n X dX6_about_8 rfl 0 rfl ?_
  refine ar_iload_n X dX6_about_9 rfl 2 rfl ?_
  obtain ⟨r1, h1, hf⟩ := am_b1_e hf
  refine ar_cVi (As := [.int a1]) (st := []) X dX6_about_10 (am_X2_hasLot (L6_c9 hL) h1) lk_X6_148 mt_X2_hasLot mi_X2_hasLot (L6_s9 hL) rfl rfl (Nat.le_of_ble_eq_true rfl) ⟨by decide, by decide⟩ ⟨Nat.zero_le _, Nat.zero_le _⟩ rfl ?_
  refine ar_if_ne (tgt := 18) X dX6_about_13 (by decide) hf (fun h2 hf => ?_) (fun h2 hf => ?_)
  · refine ar_iconst (v := -1) X dX6_about_16 (by decide) ?_
    cases hf
    exact ar_iret X dX6_about_17 hR (Nat.le_refl _) (Nat.le_refl _)
  · refine ar_iload_n X dX6_about_18 rfl 3 rfl ?_
    rcases am_ite hf with ⟨h3, hf⟩ | ⟨h3, hf⟩
    · refine ar_tableIn (tgt := 52) X dX6_about_19 (by rw [h3]; decide) (by rw [h3]; decide) (by rw [h3]; rfl) (by decide) ?_
      refine ar_aload_n X dX6_about_52 rfl 0 rfl ?_
      refine ar_iload_n X dX6_about_53 rfl 2 rfl ?_
      obtain ⟨r4, h4, hf⟩ := am_b1_e hf
      refine ar_cVi (As := [.int a1]) (st := []) X dX6_about_54 (am_X2_colourOf (L6_c9 hL) h4) lk_X6_151 mt_X2_colourOf mi_X2_colourOf (L6_s9 hL) rfl rfl (Nat.le_of_ble_eq_true rfl) ⟨by decide, by decide⟩ ⟨Nat.zero_le _, Nat.zero_le _⟩ rfl ?_
      cases hf
      exact ar_iret X dX6_about_57 hR (Nat.le_refl _) (Nat.le_refl _)
    rcases am_ite hf with ⟨h5, hf⟩ | ⟨h5, hf⟩
    · refine ar_tableIn (tgt := 58) X dX6_about_19 (by rw [h5]; decide) (by rw [h5]; decide) (by rw [h5]; rfl) (by decide) ?_
      refine ar_aload_n X dX6_about_58 rfl 0 rfl ?_
      refine ar_iload_n X dX6_about_59 rfl 2 rfl ?_
      obtain ⟨r6, h6, hf⟩ := am_b1_e hf
      refine ar_cVi (As := [.int a1]) (st := []) X dX6_about_60 (am_X2_worthOf (L6_c9 hL) h6) lk_X6_154 mt_X2_worthOf mi_X2_worthOf (L6_s9 hL) rfl rfl (Nat.le_of_ble_eq_true rfl) ⟨by decide, by decide⟩ ⟨Nat.zero_le _, Nat.zero_le _⟩ rfl ?_
      cases hf
      exact ar_iret X dX6_about_63 hR (Nat.le_refl _) (Nat.le_refl _)
    rcases am_ite hf with ⟨h7, hf⟩ | ⟨h7, hf⟩
    · refine ar_tableIn (tgt := 64) X dX6_about_19 (by rw [h7]; decide) (by rw [h7]; decide) (by rw [h7]; rfl) (by decide) ?_
      refine ar_aload_n X dX6_about_64 rfl 0 rfl ?_
      refine ar_iload_n X dX6_about_65 rfl 2 rfl ?_
      obtain ⟨r8, h8, hf⟩ := am_b1_e hf
      refine ar_cVi (As := [.int a1]) (st := []) X dX6_about_66 (am_X2_ownersOf (L6_c9 hL) h8) lk_X6_157 mt_X2_ownersOf mi_X2_ownersOf (L6_s9 hL) rfl rfl (Nat.le_of_ble_eq_true rfl) ⟨by decide, by decide⟩ ⟨Nat.zero_le _, Nat.zero_le _⟩ rfl ?_
      cases hf
      exact ar_iret X dX6_about_69 hR (Nat.le_refl _) (Nat.le_refl _)
    rcases am_ite hf with ⟨h9, hf⟩ | ⟨h9, hf⟩
    · refine ar_tableIn (tgt := 70) X dX6_about_19 (by rw [h9]; decide) (by rw [h9]; decide) (by rw [h9]; rfl) (by decide) ?_
      refine ar_aload_n X dX6_about_70 rfl 0 rfl ?_
      refine ar_iload_n X dX6_about_71 rfl 2 rfl ?_
      obtain ⟨r10, h10, hf⟩ := am_b1_e hf
      refine ar_cVi (As := [.int a1]) (st := []) X dX6_about_72 (am_X2_priceOf (L6_c9 hL) h10) lk_X6_160 mt_X2_priceOf mi_X2_priceOf (L6_s9 hL) rfl rfl (Nat.le_of_ble_eq_true rfl) ⟨by decide, by decide⟩ ⟨Nat.zero_le _, Nat.zero_le _⟩ rfl ?_
      cases hf
      exact ar_iret X dX6_about_75 hR (Nat.le_refl _) (Nat.le_refl _)
    rcases am_ite hf with ⟨h11, hf⟩ | ⟨h11, hf⟩
    · refine ar_tableIn (tgt := 76) X dX6_about_19 (by rw [h11]; decide) (by rw [h11]; decide) (by rw [h11]; rfl) (by decide) ?_
      refine ar_aload_n X dX6_about_76 rfl 0 rfl ?_
      refine ar_iload_n X dX6_about_77 rfl 2 rfl ?_
      obtain ⟨r12, h12, hf⟩ := am_b1_e hf
      refine ar_cVi (As := [.int a1]) (st := []) X dX6_about_78 (am_X2_stateOf (L6_c9 hL) h12) lk_X6_163 mt_X2_stateOf mi_X2_stateOf (L6_s9 hL) rfl rfl (Nat.le_of_ble_eq_true rfl) ⟨by decide, by decide⟩ ⟨Nat.zero_le _, Nat.zero_le _⟩ rfl ?_
      cases hf
      exact ar_iret X dX6_about_81 hR (Nat.le_refl _) (Nat.le_refl _)
    have hout : a2.toInt < 0 ∨ 4 < a2.toInt := by
      refine Classical.byContradiction (fun hn => ?_)
      have hTT : a2.toInt = 0 ∨ a2.toInt = 1 ∨ a2.toInt = 2 ∨ a2.toInt = 3 ∨ a2.toInt = 4 := by omega
      rcases hTT with hTT | hTT | hTT | hTT | hTT
      · exact h3 (Int32.toInt_inj.mp hTT)
      · exact h5 (Int32.toInt_inj.mp hTT)
      · exact h7 (Int32.toInt_inj.mp hTT)
      · exact h9 (Int32.toInt_inj.mp hTT)
      · exact h11 (Int32.toInt_inj.mp hTT)
    refine ar_tableOut (tgt := 82) X dX6_about_19 hout (by decide) ?_
    refine ar_bipush (v := -2) X dX6_about_82 (by decide) ?_
    cases hf
    exact ar_iret X dX6_about_84 hR (Nat.le_refl _) (Nat.le_refl _)
def f_X6_ask (o : Nat) (a1 : Int32) (a2 : Int32) (I : aI) : Option (Int32 × aI) :=
  am_b1 (f_X4_hasSeat (o + 3) a1 I) fun r1 =>
  if r1 = 0 then (
    some ((-1 : Int32), I))
  else (
    am_b1 (f_X6_within a2 (1 : Int32) (300 : Int32)) fun r3 =>
    if r3 = 0 then (
      some ((-2 : Int32), I))
    else (
      am_b1 (f_X0_goesOn (o + 14) I) fun r5 =>
      if r5 = 0 then (
        am_b2 (f_X4_question (o + 3) a1 a2 I) fun r7 I7 =>
        if r7 = 0 then (
          some ((0 : Int32), I7))
        else (
          some ((1 : Int32), I7)))
      else (
        some ((-5 : Int32), I))))
set_option maxRecDepth 100000 in
set_option maxHeartbeats 4000000 in
theorem am_X6_ask {sh : aS} {P : aP} {I : aI} {J : aJ} {o : Nat} (hL : L6 sh P o) {a1 : Int32} {a2 : Int32} {r : Int32} {I9 : aI} (hf : f_X6_ask o a1 a2 I = some (r, I9)) : AM yX6_ask cX6_ask 3 (some .int) 3 66 [.ref o, .int a1, .int a2] sh P I J (some (.int r)) sh P I9 J 0 0 := by
  refine am_met (by decide +kernel) (Nat.le_of_ble_eq_true rfl) (fun K X hR => ?_)
  have X : am_C K cX6_ask 3 RX6 "ask" ({ frames := 3, cells := 0, slots := 0, locals := 66 } : Room) := X
  show AW K 3 0 [(0, .ref o), (1, .int a1), (2, .int a2)] [] sh P I J 0 0
  unfold f_X6_ask at hf
  refine ar_aload_n X dX6_ask_0 rfl 0 rfl ?_
  refine ar_getr X dX6_ask_1 fg_X6_10 rfl (L6_s0 hL) (L6_p0_0 hL) ?_
  refine ar_getr X dX6_ask_4 fg_X6_45 rfl (L6_s1 hL) (L6_p1_1 hL) ?_
  refine ar_iload_n X dX6_ask_7 rfl 1 rfl ?_
  obtain ⟨r1, h1, hf⟩ := am_b1_e hf
  refine ar_cVi (As := [.int a1]) (st := []) X dX6_ask_8 (am_X4_hasSeat (L6_c3 hL) h1) lk_X6_73 mt_X4_hasSeat mi_X4_hasSeat (L6_s3 hL) rfl rfl (Nat.le_of_ble_eq_true rfl) ⟨by decide, by decide⟩ ⟨Nat.zero_le _, Nat.zero_le _⟩ rfl ?_
  refine ar_if_ne (tgt := 16) X dX6_ask_11 (by decide) hf (fun h2 hf => ?_) (fun h2 hf => ?_)
  · refine ar_iconst (v := -1) X dX6_ask_14 (by decide) ?_
    cases hf
    exact ar_iret X dX6_ask_15 hR (Nat.le_refl _) (Nat.le_refl _)
  · refine ar_iload_n X dX6_ask_16 rfl 2 rfl ?_
    refine ar_iconst (v := 1) X dX6_ask_17 (by decide) ?_
    refine ar_sipush (v := 300) X dX6_ask_18 (by decide) ?_
    obtain ⟨r3, h3, hf⟩ := am_b1_e hf
    refine ar_cSi (As := [.int a2, .int (1 : Int32), .int (300 : Int32)]) (st := []) X dX6_ask_21 (am_X6_within h3) lk_X6_41 mt_X6_within ms_X6_within rfl (Nat.le_of_ble_eq_true rfl) ⟨by decide, by decide⟩ ⟨Nat.zero_le _, Nat.zero_le _⟩ rfl ?_
    refine ar_if_ne (tgt := 30) X dX6_ask_24 (by decide) hf (fun h4 hf => ?_) (fun h4 hf => ?_)
    · refine ar_bipush (v := -2) X dX6_ask_27 (by decide) ?_
      cases hf
      exact ar_iret X dX6_ask_29 hR (Nat.le_refl _) (Nat.le_refl _)
    · refine ar_aload_n X dX6_ask_30 rfl 0 rfl ?_
      refine ar_getr X dX6_ask_31 fg_X6_10 rfl (L6_s0 hL) (L6_p0_0 hL) ?_
      refine ar_getr X dX6_ask_34 fg_X6_59 rfl (L6_s1 hL) (L6_p1_3 hL) ?_
      obtain ⟨r5, h5, hf⟩ := am_b1_e hf
      refine ar_cVi (As := []) (st := []) X dX6_ask_37 (am_X0_goesOn (L6_c14 hL) h5) lk_X6_63 mt_X0_goesOn mi_X0_goesOn (L6_s14 hL) rfl rfl (Nat.le_of_ble_eq_true rfl) ⟨by decide, by decide⟩ ⟨Nat.zero_le _, Nat.zero_le _⟩ rfl ?_
      refine ar_if_eq (tgt := 46) X dX6_ask_40 (by decide) hf (fun h6 hf => ?_) (fun h6 hf => ?_)
      · refine ar_aload_n X dX6_ask_46 rfl 0 rfl ?_
        refine ar_getr X dX6_ask_47 fg_X6_10 rfl (L6_s0 hL) (L6_p0_0 hL) ?_
        refine ar_getr X dX6_ask_50 fg_X6_45 rfl (L6_s1 hL) (L6_p1_1 hL) ?_
        refine ar_iload_n X dX6_ask_53 rfl 1 rfl ?_
        refine ar_iload_n X dX6_ask_54 rfl 2 rfl ?_
        obtain ⟨r7, I7, h7, hf⟩ := am_b2_e hf
        refine ar_cVi (As := [.int a1, .int a2]) (st := []) X dX6_ask_55 (am_X4_question (L6_c3 hL) h7) lk_X6_115 mt_X4_question mi_X4_question (L6_s3 hL) rfl rfl (Nat.le_of_ble_eq_true rfl) ⟨by decide, by decide⟩ ⟨Nat.zero_le _, Nat.zero_le _⟩ rfl ?_
        refine ar_if_eq (tgt := 65) X dX6_ask_58 (by decide) hf (fun h8 hf => ?_) (fun h8 hf => ?_)
        · refine ar_iconst (v := 0) X dX6_ask_65 (by decide) ?_
          cases hf
          exact ar_iret X dX6_ask_66 hR (Nat.le_refl _) (Nat.le_refl _)
        · refine ar_iconst (v := 1) X dX6_ask_61 (by decide) ?_
          refine ar_goto (tgt := 66) X dX6_ask_62 (by decide) ?_
          cases hf
          exact ar_iret X dX6_ask_66 hR (Nat.le_refl _) (Nat.le_refl _)
      · refine ar_bipush (v := -5) X dX6_ask_43 (by decide) ?_
        cases hf
        exact ar_iret X dX6_ask_45 hR (Nat.le_refl _) (Nat.le_refl _)
def f_X6_begin (o : Nat) (a1 : Int32) (a2 : Int32) (I : aI) : Option (Int32 × aI) :=
  am_b2 (f_X1_startAuction (o + 1) a1 a2 I) fun r1 I1 =>
  some (r1, I1)
set_option maxRecDepth 100000 in
set_option maxHeartbeats 4000000 in
theorem am_X6_begin {sh : aS} {P : aP} {I : aI} {J : aJ} {o : Nat} (hL : L6 sh P o) {a1 : Int32} {a2 : Int32} {r : Int32} {I9 : aI} (hf : f_X6_begin o a1 a2 I = some (r, I9)) : AM yX6_begin cX6_begin 3 (some .int) 3 66 [.ref o, .int a1, .int a2] sh P I J (some (.int r)) sh P I9 J 0 0 := by
  refine am_met (by decide +kernel) (Nat.le_of_ble_eq_true rfl) (fun K X hR => ?_)
  have X : am_C K cX6_begin 3 RX6 "begin" ({ frames := 3, cells := 0, slots := 0, locals := 66 } : Room) := X
  show AW K 3 0 [(0, .ref o), (1, .int a1), (2, .int a2)] [] sh P I J 0 0
  unfold f_X6_begin at hf
  refine ar_aload_n X dX6_begin_0 rfl 0 rfl ?_
  refine ar_getr X dX6_begin_1 fg_X6_10 rfl (L6_s0 hL) (L6_p0_0 hL) ?_
  refine ar_iload_n X dX6_begin_4 rfl 1 rfl ?_
  refine ar_iload_n X dX6_begin_5 rfl 2 rfl ?_
  obtain ⟨r1, I1, h1, hf⟩ := am_b2_e hf
  refine ar_cVi (As := [.int a1, .int a2]) (st := []) X dX6_begin_6 (am_X1_startAuction (L6_c1 hL) h1) lk_X6_98 mt_X1_startAuction mi_X1_startAuction (L6_s1 hL) rfl rfl (Nat.le_of_ble_eq_true rfl) ⟨by decide, by decide⟩ ⟨Nat.zero_le _, Nat.zero_le _⟩ rfl ?_
  cases hf
  exact ar_iret X dX6_begin_9 hR (Nat.le_refl _) (Nat.le_refl _)
def f_X6_forecast_h47 (o : Nat) : Nat → Int32 → Int32 → Int32 → Int32 → aI → Option (Int32 × aI)
  | 0, _, _, _, _, _ => none
  | n + 1, l1, l2, l3, l4, I =>
    if (1000000 : Int32) ≤ l4 then (
      am_b1 (f_X1_scoreOf (o + 16) l3 I) fun r2 =>
      some (r2, I))
    else (
      am_b1 (f_X2_next (o + 24) I) fun r3 =>
      if r3 = (-6 : Int32) then (
        am_b1 (f_X1_scoreOf (o + 16) l3 I) fun r5 =>
        some (r5, I))
      else (
        am_b1 (f_X0_goesOn (o + 29) I) fun r6 =>
        if r6 = 0 then (
          am_b1 (f_X2_nextIsForSale (o + 24) I) fun r8 =>
          if r8 = 0 then (
            am_b2 (f_X1_giveLast (o + 16) I) fun r10 I10 =>
            f_X6_forecast_h47 o n l1 l2 l3 (l4 + 1) I10)
          else (
            am_b2 (f_X1_startAuction (o + 16) l1 l2 I) fun r11 I11 =>
            f_X6_forecast_h47 o n l1 l2 l3 (l4 + 1) I11))
        else (
          am_b2 (f_X1_moveAlone (o + 16) I) fun r12 I12 =>
          f_X6_forecast_h47 o n l1 l2 l3 (l4 + 1) I12)))
set_option maxRecDepth 100000 in
set_option maxHeartbeats 4000000 in
theorem ab_X6_forecast_h47 {K : aK} {sh : aS} {P : aP} {J : aJ} {o : Nat} (X : am_C K cX6_forecast 5 RX6 "forecast" ({ frames := 5, cells := 0, slots := 0, locals := 119 } : Room)) (hL : L6 sh P o) {r : Int32} {I9 : aI} (hR : am_R K (some .int) (some (.int r)) sh P I9 J 0 0) : ∀ (n : Nat) (l1 : Int32) (l2 : Int32) (l3 : Int32) (l4 : Int32) (I : aI) , f_X6_forecast_h47 o n l1 l2 l3 l4 I = some (r, I9) → AW K 5 47 [(0, .ref o), (1, .int l1), (2, .int l2), (3, .int l3), (4, .int l4)] [] sh P I J 0 0 := by
  intro n
  induction n with
  | zero =>
    intro l1 l2 l3 l4 I hf
    cases hf
  | succ n ih =>
    intro l1 l2 l3 l4 I hf
    rw [f_X6_forecast_h47] at hf
    refine ar_iload X dX6_forecast_47 4 rfl ?_
    refine ar_ldc X dX6_forecast_49 ct_X6_239 ?_
    refine ar_icmp_ge (tgt := 133) X dX6_forecast_51 (by decide) hf (fun h1 hf => ?_) (fun h1 hf => ?_)
    · refine ar_aload_n X dX6_forecast_133 rfl 0 rfl ?_
      refine ar_getr X dX6_forecast_134 fg_X6_16 rfl (L6_s0 hL) (L6_p0_1 hL) ?_
      refine ar_iload_n X dX6_forecast_137 rfl 3 rfl ?_
      obtain ⟨r2, h2, hf⟩ := am_b1_e hf
      refine ar_cVi (As := [.int l3]) (st := []) X dX6_forecast_138 (am_X1_scoreOf (L6_c16 hL) h2) lk_X6_130 mt_X1_scoreOf mi_X1_scoreOf (L6_s16 hL) rfl rfl (Nat.le_of_ble_eq_true rfl) ⟨by decide, by decide⟩ ⟨Nat.zero_le _, Nat.zero_le _⟩ rfl ?_
      cases hf
      exact ar_iret X dX6_forecast_141 hR (Nat.le_refl _) (Nat.le_refl _)
    · refine ar_aload_n X dX6_forecast_54 rfl 0 rfl ?_
      refine ar_getr X dX6_forecast_55 fg_X6_16 rfl (L6_s0 hL) (L6_p0_1 hL) ?_
      refine ar_getr X dX6_forecast_58 fg_X6_86 rfl (L6_s16 hL) (L6_p16_2 hL) ?_
      obtain ⟨r3, h3, hf⟩ := am_b1_e hf
      refine ar_cVi (As := []) (st := []) X dX6_forecast_61 (am_X2_next (L6_c24 hL) h3) lk_X6_175 mt_X2_next mi_X2_next (L6_s24 hL) rfl rfl (Nat.le_of_ble_eq_true rfl) ⟨by decide, by decide⟩ ⟨Nat.zero_le _, Nat.zero_le _⟩ rfl ?_
      refine ar_bipush (v := -6) X dX6_forecast_64 (by decide) ?_
      refine ar_icmp_eq (tgt := 133) X dX6_forecast_66 (by decide) hf (fun h4 hf => ?_) (fun h4 hf => ?_)
      · refine ar_aload_n X dX6_forecast_133 rfl 0 rfl ?_
        refine ar_getr X dX6_forecast_134 fg_X6_16 rfl (L6_s0 hL) (L6_p0_1 hL) ?_
        refine ar_iload_n X dX6_forecast_137 rfl 3 rfl ?_
        obtain ⟨r5, h5, hf⟩ := am_b1_e hf
        refine ar_cVi (As := [.int l3]) (st := []) X dX6_forecast_138 (am_X1_scoreOf (L6_c16 hL) h5) lk_X6_130 mt_X1_scoreOf mi_X1_scoreOf (L6_s16 hL) rfl rfl (Nat.le_of_ble_eq_true rfl) ⟨by decide, by decide⟩ ⟨Nat.zero_le _, Nat.zero_le _⟩ rfl ?_
        cases hf
        exact ar_iret X dX6_forecast_141 hR (Nat.le_refl _) (Nat.le_refl _)
      · refine ar_aload_n X dX6_forecast_69 rfl 0 rfl ?_
        refine ar_getr X dX6_forecast_70 fg_X6_16 rfl (L6_s0 hL) (L6_p0_1 hL) ?_
        refine ar_getr X dX6_forecast_73 fg_X6_59 rfl (L6_s16 hL) (L6_p16_3 hL) ?_
        obtain ⟨r6, h6, hf⟩ := am_b1_e hf
        refine ar_cVi (As := []) (st := []) X dX6_forecast_76 (am_X0_goesOn (L6_c29 hL) h6) lk_X6_63 mt_X0_goesOn mi_X0_goesOn (L6_s29 hL) rfl rfl (Nat.le_of_ble_eq_true rfl) ⟨by decide, by decide⟩ ⟨Nat.zero_le _, Nat.zero_le _⟩ rfl ?_
        refine ar_if_eq (tgt := 93) X dX6_forecast_79 (by decide) hf (fun h7 hf => ?_) (fun h7 hf => ?_)
        · refine ar_aload_n X dX6_forecast_93 rfl 0 rfl ?_
          refine ar_getr X dX6_forecast_94 fg_X6_16 rfl (L6_s0 hL) (L6_p0_1 hL) ?_
          refine ar_getr X dX6_forecast_97 fg_X6_86 rfl (L6_s16 hL) (L6_p16_2 hL) ?_
          obtain ⟨r8, h8, hf⟩ := am_b1_e hf
          refine ar_cVi (As := []) (st := []) X dX6_forecast_100 (am_X2_nextIsForSale (L6_c24 hL) h8) lk_X6_240 mt_X2_nextIsForSale mi_X2_nextIsForSale (L6_s24 hL) rfl rfl (Nat.le_of_ble_eq_true rfl) ⟨by decide, by decide⟩ ⟨Nat.zero_le _, Nat.zero_le _⟩ rfl ?_
          refine ar_if_eq (tgt := 119) X dX6_forecast_103 (by decide) hf (fun h9 hf => ?_) (fun h9 hf => ?_)
          · refine ar_aload_n X dX6_forecast_119 rfl 0 rfl ?_
            refine ar_getr X dX6_forecast_120 fg_X6_16 rfl (L6_s0 hL) (L6_p0_1 hL) ?_
            obtain ⟨r10, I10, h10, hf⟩ := am_b2_e hf
            refine ar_cVi (As := []) (st := []) X dX6_forecast_123 (am_X1_giveLast (L6_c16 hL) h10) lk_X6_112 mt_X1_giveLast mi_X1_giveLast (L6_s16 hL) rfl rfl (Nat.le_of_ble_eq_true rfl) ⟨by decide, by decide⟩ ⟨Nat.zero_le _, Nat.zero_le _⟩ rfl ?_
            refine ar_pop X dX6_forecast_126 rfl ?_
            refine ar_iinc (j := 4) (v := (l4 + 1)) X dX6_forecast_127 rfl rfl (by decide) rfl ?_
            refine ar_goto (tgt := 47) X dX6_forecast_130 (by decide) ?_
            refine ar_lo [1, 2, 3, 4, 0] rfl ?_
            exact ih l1 l2 l3 (l4 + 1) I10 hf
          · refine ar_aload_n X dX6_forecast_106 rfl 0 rfl ?_
            refine ar_getr X dX6_forecast_107 fg_X6_16 rfl (L6_s0 hL) (L6_p0_1 hL) ?_
            refine ar_iload_n X dX6_forecast_110 rfl 1 rfl ?_
            refine ar_iload_n X dX6_forecast_111 rfl 2 rfl ?_
            obtain ⟨r11, I11, h11, hf⟩ := am_b2_e hf
            refine ar_cVi (As := [.int l1, .int l2]) (st := []) X dX6_forecast_112 (am_X1_startAuction (L6_c16 hL) h11) lk_X6_98 mt_X1_startAuction mi_X1_startAuction (L6_s16 hL) rfl rfl (Nat.le_of_ble_eq_true rfl) ⟨by decide, by decide⟩ ⟨Nat.zero_le _, Nat.zero_le _⟩ rfl ?_
            refine ar_pop X dX6_forecast_115 rfl ?_
            refine ar_goto (tgt := 127) X dX6_forecast_116 (by decide) ?_
            refine ar_iinc (j := 4) (v := (l4 + 1)) X dX6_forecast_127 rfl rfl (by decide) rfl ?_
            refine ar_goto (tgt := 47) X dX6_forecast_130 (by decide) ?_
            refine ar_lo [1, 2, 3, 4, 0] rfl ?_
            exact ih l1 l2 l3 (l4 + 1) I11 hf
        · refine ar_aload_n X dX6_forecast_82 rfl 0 rfl ?_
          refine ar_getr X dX6_forecast_83 fg_X6_16 rfl (L6_s0 hL) (L6_p0_1 hL) ?_
          obtain ⟨r12, I12, h12, hf⟩ := am_b2_e hf
          refine ar_cVi (As := []) (st := []) X dX6_forecast_86 (am_X1_moveAlone (L6_c16 hL) h12) lk_X6_108 mt_X1_moveAlone mi_X1_moveAlone (L6_s16 hL) rfl rfl (Nat.le_of_ble_eq_true rfl) ⟨by decide, by decide⟩ ⟨Nat.zero_le _, Nat.zero_le _⟩ rfl ?_
          refine ar_pop X dX6_forecast_89 rfl ?_
          refine ar_goto (tgt := 127) X dX6_forecast_90 (by decide) ?_
          refine ar_iinc (j := 4) (v := (l4 + 1)) X dX6_forecast_127 rfl rfl (by decide) rfl ?_
          refine ar_goto (tgt := 47) X dX6_forecast_130 (by decide) ?_
          refine ar_lo [1, 2, 3, 4, 0] rfl ?_
          exact ih l1 l2 l3 (l4 + 1) I12 hf
def f_X6_forecast (o : Nat) (a1 : Int32) (a2 : Int32) (a3 : Int32) (I : aI) : Option (Int32 × aI) :=
  am_b1 (f_X4_hasSeat (o + 3) a3 I) fun r1 =>
  if r1 = 0 then (
    some ((-1 : Int32), I))
  else (
    am_b1 (f_X6_isMode a1) fun r3 =>
    if r3 = 0 then (
      some ((-2 : Int32), I))
    else (
      am_b1 (f_X6_isReserve a2) fun r5 =>
      if r5 = 0 then (
        some ((-2 : Int32), I))
      else (
        am_b1 (f_X1_takeOver (o + 16) (o + 1) I) fun I7 =>
        f_X6_forecast_h47 o am_F a1 a2 a3 (0 : Int32) I7)))
set_option maxRecDepth 100000 in
set_option maxHeartbeats 4000000 in
theorem am_X6_forecast {sh : aS} {P : aP} {I : aI} {J : aJ} {o : Nat} (hL : L6 sh P o) {a1 : Int32} {a2 : Int32} {a3 : Int32} {r : Int32} {I9 : aI} (hf : f_X6_forecast o a1 a2 a3 I = some (r, I9)) : AM yX6_forecast cX6_forecast 5 (some .int) 5 119 [.ref o, .int a1, .int a2, .int a3] sh P I J (some (.int r)) sh P I9 J 0 0 := by
  refine am_met (by decide +kernel) (Nat.le_of_ble_eq_true rfl) (fun K X hR => ?_)
  have X : am_C K cX6_forecast 5 RX6 "forecast" ({ frames := 5, cells := 0, slots := 0, locals := 119 } : Room) := X
  show AW K 5 0 [(0, .ref o), (1, .int a1), (2, .int a2), (3, .int a3)] [] sh P I J 0 0
  unfold f_X6_forecast at hf
  refine ar_aload_n X dX6_forecast_0 rfl 0 rfl ?_
  refine ar_getr X dX6_forecast_1 fg_X6_10 rfl (L6_s0 hL) (L6_p0_0 hL) ?_
  refine ar_getr X dX6_forecast_4 fg_X6_45 rfl (L6_s1 hL) (L6_p1_1 hL) ?_
  refine ar_iload_n X dX6_forecast_7 rfl 3 rfl ?_
  obtain ⟨r1, h1, hf⟩ := am_b1_e hf
  refine ar_cVi (As := [.int a3]) (st := []) X dX6_forecast_8 (am_X4_hasSeat (L6_c3 hL) h1) lk_X6_73 mt_X4_hasSeat mi_X4_hasSeat (L6_s3 hL) rfl rfl (Nat.le_of_ble_eq_true rfl) ⟨by decide, by decide⟩ ⟨Nat.zero_le _, Nat.zero_le _⟩ rfl ?_
  refine ar_if_ne (tgt := 16) X dX6_forecast_11 (by decide) hf (fun h2 hf => ?_) (fun h2 hf => ?_)
  · refine ar_iconst (v := -1) X dX6_forecast_14 (by decide) ?_
    cases hf
    exact ar_iret X dX6_forecast_15 hR (Nat.le_refl _) (Nat.le_refl _)
  · refine ar_iload_n X dX6_forecast_16 rfl 1 rfl ?_
    obtain ⟨r3, h3, hf⟩ := am_b1_e hf
    refine ar_cSi (As := [.int a1]) (st := []) X dX6_forecast_17 (am_X6_isMode h3) lk_X6_229 mt_X6_isMode ms_X6_isMode rfl (Nat.le_of_ble_eq_true rfl) ⟨by decide, by decide⟩ ⟨Nat.zero_le _, Nat.zero_le _⟩ rfl ?_
    refine ar_if_eq (tgt := 30) X dX6_forecast_20 (by decide) hf (fun h4 hf => ?_) (fun h4 hf => ?_)
    · refine ar_bipush (v := -2) X dX6_forecast_30 (by decide) ?_
      cases hf
      exact ar_iret X dX6_forecast_32 hR (Nat.le_refl _) (Nat.le_refl _)
    · refine ar_iload_n X dX6_forecast_23 rfl 2 rfl ?_
      obtain ⟨r5, h5, hf⟩ := am_b1_e hf
      refine ar_cSi (As := [.int a2]) (st := []) X dX6_forecast_24 (am_X6_isReserve h5) lk_X6_232 mt_X6_isReserve ms_X6_isReserve rfl (Nat.le_of_ble_eq_true rfl) ⟨by decide, by decide⟩ ⟨Nat.zero_le _, Nat.zero_le _⟩ rfl ?_
      refine ar_if_ne (tgt := 33) X dX6_forecast_27 (by decide) hf (fun h6 hf => ?_) (fun h6 hf => ?_)
      · refine ar_bipush (v := -2) X dX6_forecast_30 (by decide) ?_
        cases hf
        exact ar_iret X dX6_forecast_32 hR (Nat.le_refl _) (Nat.le_refl _)
      · refine ar_aload_n X dX6_forecast_33 rfl 0 rfl ?_
        refine ar_getr X dX6_forecast_34 fg_X6_16 rfl (L6_s0 hL) (L6_p0_1 hL) ?_
        refine ar_aload_n X dX6_forecast_37 rfl 0 rfl ?_
        refine ar_getr X dX6_forecast_38 fg_X6_10 rfl (L6_s0 hL) (L6_p0_0 hL) ?_
        obtain ⟨I7, h7, hf⟩ := am_b1_e hf
        refine ar_cVv (As := [.ref (o + 1)]) (st := []) X dX6_forecast_41 (am_X1_takeOver (L6_c16 hL) (L6_c1 hL) h7) lk_X6_235 mt_X1_takeOver mi_X1_takeOver (L6_s16 hL) rfl rfl (Nat.le_of_ble_eq_true rfl) ⟨by decide, by decide⟩ ⟨Nat.zero_le _, Nat.zero_le _⟩ rfl ?_
        refine ar_iconst (v := 0) X dX6_forecast_44 (by decide) ?_
        refine ar_istore X dX6_forecast_45 (by decide) rfl ?_
        refine ar_lo [1, 2, 3, 4, 0] rfl ?_
        exact ab_X6_forecast_h47 X hL hR am_F a1 a2 a3 (0 : Int32) I7 hf
def f_X6_bestMode_h40 (o : Nat) : Nat → Int32 → Int32 → Int32 → Int32 → Int32 → aI → Option (Int32 × aI)
  | 0, _, _, _, _, _, _ => none
  | n + 1, l1, l2, l3, l4, l5, I =>
    if (2 : Int32) < l5 then (
      some (l3, I))
    else (
      am_b2 (f_X6_forecast o l5 l2 l1 I) fun r2 I2 =>
      if r2 ≤ l4 then (
        f_X6_bestMode_h40 o n l1 l2 l3 l4 (l5 + 1) I2)
      else (
        f_X6_bestMode_h40 o n l1 l2 l5 r2 (l5 + 1) I2))
set_option maxRecDepth 100000 in
set_option maxHeartbeats 4000000 in
theorem ab_X6_bestMode_h40 {K : aK} {sh : aS} {P : aP} {J : aJ} {o : Nat} (X : am_C K cX6_bestMode 7 RX6 "bestMode" ({ frames := 6, cells := 0, slots := 0, locals := 143 } : Room)) (hL : L6 sh P o) {r : Int32} {I9 : aI} (hR : am_R K (some .int) (some (.int r)) sh P I9 J 0 0) : ∀ (n : Nat) (l1 : Int32) (l2 : Int32) (l3 : Int32) (l4 : Int32) (l5 : Int32) (I : aI) , f_X6_bestMode_h40 o n l1 l2 l3 l4 l5 I = some (r, I9) → AW K 7 40 [(0, .ref o), (1, .int l1), (2, .int l2), (3, .int l3), (4, .int l4), (5, .int l5)] [] sh P I J 0 0 := by
  intro n
  induction n with
  | zero =>
    intro l1 l2 l3 l4 l5 I hf
    cases hf
  | succ n ih =>
    intro l1 l2 l3 l4 l5 I hf
    rw [f_X6_bestMode_h40] at hf
    refine ar_iload X dX6_bestMode_40 5 rfl ?_
    refine ar_iconst (v := 2) X dX6_bestMode_42 (by decide) ?_
    refine ar_icmp_gt (tgt := 76) X dX6_bestMode_43 (by decide) hf (fun h1 hf => ?_) (fun h1 hf => ?_)
    · refine ar_iload_n X dX6_bestMode_76 rfl 3 rfl ?_
      cases hf
      exact ar_iret X dX6_bestMode_77 hR (Nat.le_refl _) (Nat.le_refl _)
    · refine ar_aload_n X dX6_bestMode_46 rfl 0 rfl ?_
      refine ar_iload X dX6_bestMode_47 5 rfl ?_
      refine ar_iload_n X dX6_bestMode_49 rfl 2 rfl ?_
      refine ar_iload_n X dX6_bestMode_50 rfl 1 rfl ?_
      obtain ⟨r2, I2, h2, hf⟩ := am_b2_e hf
      refine ar_cVi (As := [.int l5, .int l2, .int l1]) (st := []) X dX6_bestMode_51 (am_X6_forecast hL h2) lk_X6_243 mt_X6_forecast mi_X6_forecast (L6_s0 hL) rfl rfl (Nat.le_of_ble_eq_true rfl) ⟨by decide, by decide⟩ ⟨Nat.zero_le _, Nat.zero_le _⟩ rfl ?_
      refine ar_istore X dX6_bestMode_54 (by decide) rfl ?_
      refine ar_iload X dX6_bestMode_56 0 rfl ?_
      refine ar_iload X dX6_bestMode_58 5 rfl ?_
      refine ar_icmp_le (tgt := 70) X dX6_bestMode_60 (by decide) hf (fun h3 hf => ?_) (fun h3 hf => ?_)
      · refine ar_iinc (j := 6) (v := (l5 + 1)) X dX6_bestMode_70 rfl rfl (by decide) rfl ?_
        refine ar_goto (tgt := 40) X dX6_bestMode_73 (by decide) ?_
        refine ar_lo [2, 3, 4, 5, 6, 0] rfl ?_
        exact ih l1 l2 l3 l4 (l5 + 1) I2 hf
      · refine ar_iload X dX6_bestMode_63 6 rfl ?_
        refine ar_istore_n X dX6_bestMode_65 rfl (by decide) rfl ?_
        refine ar_iload X dX6_bestMode_66 1 rfl ?_
        refine ar_istore X dX6_bestMode_68 (by decide) rfl ?_
        refine ar_iinc (j := 6) (v := (l5 + 1)) X dX6_bestMode_70 rfl rfl (by decide) rfl ?_
        refine ar_goto (tgt := 40) X dX6_bestMode_73 (by decide) ?_
        refine ar_lo [4, 5, 6, 2, 1, 0] rfl ?_
        exact ih l1 l2 l5 r2 (l5 + 1) I2 hf
def f_X6_bestMode (o : Nat) (a1 : Int32) (a2 : Int32) (I : aI) : Option (Int32 × aI) :=
  am_b1 (f_X4_hasSeat (o + 3) a1 I) fun r1 =>
  if r1 = 0 then (
    some ((-1 : Int32), I))
  else (
    am_b1 (f_X6_isReserve a2) fun r3 =>
    if r3 = 0 then (
      some ((-2 : Int32), I))
    else (
      am_b2 (f_X6_forecast o (0 : Int32) a2 a1 I) fun r5 I5 =>
      f_X6_bestMode_h40 o am_F a1 a2 (0 : Int32) r5 (1 : Int32) I5))
set_option maxRecDepth 100000 in
set_option maxHeartbeats 4000000 in
theorem am_X6_bestMode {sh : aS} {P : aP} {I : aI} {J : aJ} {o : Nat} (hL : L6 sh P o) {a1 : Int32} {a2 : Int32} {r : Int32} {I9 : aI} (hf : f_X6_bestMode o a1 a2 I = some (r, I9)) : AM yX6_bestMode cX6_bestMode 7 (some .int) 6 143 [.ref o, .int a1, .int a2] sh P I J (some (.int r)) sh P I9 J 0 0 := by
  refine am_met (by decide +kernel) (Nat.le_of_ble_eq_true rfl) (fun K X hR => ?_)
  have X : am_C K cX6_bestMode 7 RX6 "bestMode" ({ frames := 6, cells := 0, slots := 0, locals := 143 } : Room) := X
  show AW K 7 0 [(0, .ref o), (1, .int a1), (2, .int a2)] [] sh P I J 0 0
  unfold f_X6_bestMode at hf
  refine ar_aload_n X dX6_bestMode_0 rfl 0 rfl ?_
  refine ar_getr X dX6_bestMode_1 fg_X6_10 rfl (L6_s0 hL) (L6_p0_0 hL) ?_
  refine ar_getr X dX6_bestMode_4 fg_X6_45 rfl (L6_s1 hL) (L6_p1_1 hL) ?_
  refine ar_iload_n X dX6_bestMode_7 rfl 1 rfl ?_
  obtain ⟨r1, h1, hf⟩ := am_b1_e hf
  refine ar_cVi (As := [.int a1]) (st := []) X dX6_bestMode_8 (am_X4_hasSeat (L6_c3 hL) h1) lk_X6_73 mt_X4_hasSeat mi_X4_hasSeat (L6_s3 hL) rfl rfl (Nat.le_of_ble_eq_true rfl) ⟨by decide, by decide⟩ ⟨Nat.zero_le _, Nat.zero_le _⟩ rfl ?_
  refine ar_if_ne (tgt := 16) X dX6_bestMode_11 (by decide) hf (fun h2 hf => ?_) (fun h2 hf => ?_)
  · refine ar_iconst (v := -1) X dX6_bestMode_14 (by decide) ?_
    cases hf
    exact ar_iret X dX6_bestMode_15 hR (Nat.le_refl _) (Nat.le_refl _)
  · refine ar_iload_n X dX6_bestMode_16 rfl 2 rfl ?_
    obtain ⟨r3, h3, hf⟩ := am_b1_e hf
    refine ar_cSi (As := [.int a2]) (st := []) X dX6_bestMode_17 (am_X6_isReserve h3) lk_X6_232 mt_X6_isReserve ms_X6_isReserve rfl (Nat.le_of_ble_eq_true rfl) ⟨by decide, by decide⟩ ⟨Nat.zero_le _, Nat.zero_le _⟩ rfl ?_
    refine ar_if_ne (tgt := 26) X dX6_bestMode_20 (by decide) hf (fun h4 hf => ?_) (fun h4 hf => ?_)
    · refine ar_bipush (v := -2) X dX6_bestMode_23 (by decide) ?_
      cases hf
      exact ar_iret X dX6_bestMode_25 hR (Nat.le_refl _) (Nat.le_refl _)
    · refine ar_iconst (v := 0) X dX6_bestMode_26 (by decide) ?_
      refine ar_istore_n X dX6_bestMode_27 rfl (by decide) rfl ?_
      refine ar_aload_n X dX6_bestMode_28 rfl 1 rfl ?_
      refine ar_iconst (v := 0) X dX6_bestMode_29 (by decide) ?_
      refine ar_iload_n X dX6_bestMode_30 rfl 3 rfl ?_
      refine ar_iload_n X dX6_bestMode_31 rfl 2 rfl ?_
      obtain ⟨r5, I5, h5, hf⟩ := am_b2_e hf
      refine ar_cVi (As := [.int (0 : Int32), .int a2, .int a1]) (st := []) X dX6_bestMode_32 (am_X6_forecast hL h5) lk_X6_243 mt_X6_forecast mi_X6_forecast (L6_s0 hL) rfl rfl (Nat.le_of_ble_eq_true rfl) ⟨by decide, by decide⟩ ⟨Nat.zero_le _, Nat.zero_le _⟩ rfl ?_
      refine ar_istore X dX6_bestMode_35 (by decide) rfl ?_
      refine ar_iconst (v := 1) X dX6_bestMode_37 (by decide) ?_
      refine ar_istore X dX6_bestMode_38 (by decide) rfl ?_
      refine ar_lo [3, 4, 5, 2, 1, 0] rfl ?_
      exact ab_X6_bestMode_h40 X hL hR am_F a1 a2 (0 : Int32) r5 (1 : Int32) I5 hf
def f_X6_bid (o : Nat) (a1 : Int32) (a2 : Int32) (I : aI) : Option (Int32 × aI) :=
  am_b2 (f_X1_takeBid (o + 1) a1 a2 I) fun r1 I1 =>
  some (r1, I1)
set_option maxRecDepth 100000 in
set_option maxHeartbeats 4000000 in
theorem am_X6_bid {sh : aS} {P : aP} {I : aI} {J : aJ} {o : Nat} (hL : L6 sh P o) {a1 : Int32} {a2 : Int32} {r : Int32} {I9 : aI} (hf : f_X6_bid o a1 a2 I = some (r, I9)) : AM yX6_bid cX6_bid 3 (some .int) 5 120 [.ref o, .int a1, .int a2] sh P I J (some (.int r)) sh P I9 J 0 0 := by
  refine am_met (by decide +kernel) (Nat.le_of_ble_eq_true rfl) (fun K X hR => ?_)
  have X : am_C K cX6_bid 3 RX6 "bid" ({ frames := 5, cells := 0, slots := 0, locals := 120 } : Room) := X
  show AW K 3 0 [(0, .ref o), (1, .int a1), (2, .int a2)] [] sh P I J 0 0
  unfold f_X6_bid at hf
  refine ar_aload_n X dX6_bid_0 rfl 0 rfl ?_
  refine ar_getr X dX6_bid_1 fg_X6_10 rfl (L6_s0 hL) (L6_p0_0 hL) ?_
  refine ar_iload_n X dX6_bid_4 rfl 1 rfl ?_
  refine ar_iload_n X dX6_bid_5 rfl 2 rfl ?_
  obtain ⟨r1, I1, h1, hf⟩ := am_b2_e hf
  refine ar_cVi (As := [.int a1, .int a2]) (st := []) X dX6_bid_6 (am_X1_takeBid (L6_c1 hL) h1) lk_X6_101 mt_X1_takeBid mi_X1_takeBid (L6_s1 hL) rfl rfl (Nat.le_of_ble_eq_true rfl) ⟨by decide, by decide⟩ ⟨Nat.zero_le _, Nat.zero_le _⟩ rfl ?_
  cases hf
  exact ar_iret X dX6_bid_9 hR (Nat.le_refl _) (Nat.le_refl _)
def f_X6_canPay (o : Nat) (a1 : Int32) (a2 : Int32) (I : aI) (J : aJ) : Option (Int64 × aJ) :=
  am_b1 (f_X4_hasSeat (o + 3) a1 I) fun r1 =>
  if r1 = 0 then (
    some ((-1 : Int64), J))
  else (
    am_b1 (f_X6_within a2 (0 : Int32) (300 : Int32)) fun r3 =>
    if r3 = 0 then (
      some ((-2 : Int64), J))
    else (
      am_b2 (f_X5_waysWith (o + 32) (o + 3) a1 a2 I J) fun r5 J5 =>
      some (r5, J5)))
set_option maxRecDepth 100000 in
set_option maxHeartbeats 4000000 in
theorem am_X6_canPay {sh : aS} {P : aP} {I : aI} {J : aJ} {o : Nat} (hL : L6 sh P o) {a1 : Int32} {a2 : Int32} {r : Int64} {J9 : aJ} (hf : f_X6_canPay o a1 a2 I J = some (r, J9)) : AM yX6_canPay cX6_canPay 3 (some .long) 5 118 [.ref o, .int a1, .int a2] sh P I J (some (.long r)) sh P I J9 0 0 := by
  refine am_met (by decide +kernel) (Nat.le_of_ble_eq_true rfl) (fun K X hR => ?_)
  have X : am_C K cX6_canPay 3 RX6 "canPay" ({ frames := 5, cells := 0, slots := 0, locals := 118 } : Room) := X
  show AW K 3 0 [(0, .ref o), (1, .int a1), (2, .int a2)] [] sh P I J 0 0
  unfold f_X6_canPay at hf
  refine ar_aload_n X dX6_canPay_0 rfl 0 rfl ?_
  refine ar_getr X dX6_canPay_1 fg_X6_10 rfl (L6_s0 hL) (L6_p0_0 hL) ?_
  refine ar_getr X dX6_canPay_4 fg_X6_45 rfl (L6_s1 hL) (L6_p1_1 hL) ?_
  refine ar_iload_n X dX6_canPay_7 rfl 1 rfl ?_
  obtain ⟨r1, h1, hf⟩ := am_b1_e hf
  refine ar_cVi (As := [.int a1]) (st := []) X dX6_canPay_8 (am_X4_hasSeat (L6_c3 hL) h1) lk_X6_73 mt_X4_hasSeat mi_X4_hasSeat (L6_s3 hL) rfl rfl (Nat.le_of_ble_eq_true rfl) ⟨by decide, by decide⟩ ⟨Nat.zero_le _, Nat.zero_le _⟩ rfl ?_
  refine ar_if_ne (tgt := 18) X dX6_canPay_11 (by decide) hf (fun h2 hf => ?_) (fun h2 hf => ?_)
  · refine ar_ldc2 X dX6_canPay_14 ct_X6_225 ?_
    cases hf
    exact ar_lret X dX6_canPay_17 hR (Nat.le_refl _) (Nat.le_refl _)
  · refine ar_iload_n X dX6_canPay_18 rfl 2 rfl ?_
    refine ar_iconst (v := 0) X dX6_canPay_19 (by decide) ?_
    refine ar_sipush (v := 300) X dX6_canPay_20 (by decide) ?_
    obtain ⟨r3, h3, hf⟩ := am_b1_e hf
    refine ar_cSi (As := [.int a2, .int (0 : Int32), .int (300 : Int32)]) (st := []) X dX6_canPay_23 (am_X6_within h3) lk_X6_41 mt_X6_within ms_X6_within rfl (Nat.le_of_ble_eq_true rfl) ⟨by decide, by decide⟩ ⟨Nat.zero_le _, Nat.zero_le _⟩ rfl ?_
    refine ar_if_ne (tgt := 33) X dX6_canPay_26 (by decide) hf (fun h4 hf => ?_) (fun h4 hf => ?_)
    · refine ar_ldc2 X dX6_canPay_29 ct_X6_227 ?_
      cases hf
      exact ar_lret X dX6_canPay_32 hR (Nat.le_refl _) (Nat.le_refl _)
    · refine ar_aload_n X dX6_canPay_33 rfl 0 rfl ?_
      refine ar_getr X dX6_canPay_34 fg_X6_26 rfl (L6_s0 hL) (L6_p0_3 hL) ?_
      refine ar_aload_n X dX6_canPay_37 rfl 0 rfl ?_
      refine ar_getr X dX6_canPay_38 fg_X6_10 rfl (L6_s0 hL) (L6_p0_0 hL) ?_
      refine ar_getr X dX6_canPay_41 fg_X6_45 rfl (L6_s1 hL) (L6_p1_1 hL) ?_
      refine ar_iload_n X dX6_canPay_44 rfl 1 rfl ?_
      refine ar_iload_n X dX6_canPay_45 rfl 2 rfl ?_
      obtain ⟨r5, J5, h5, hf⟩ := am_b2_e hf
      refine ar_cVl (As := [.ref (o + 3), .int a1, .int a2]) (st := []) X dX6_canPay_46 (am_X5_waysWith (L6_c32 hL) (L6_c3 hL) h5) lk_X6_221 mt_X5_waysWith mi_X5_waysWith (L6_s32 hL) rfl rfl (Nat.le_of_ble_eq_true rfl) ⟨by decide, by decide⟩ ⟨Nat.zero_le _, Nat.zero_le _⟩ rfl ?_
      cases hf
      exact ar_lret X dX6_canPay_49 hR (Nat.le_refl _) (Nat.le_refl _)
end
