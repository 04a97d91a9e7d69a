noncomputable section
def f_X7_in  (a0 : Int32) (a1 : Int32) (a2 : Int32) : Option Int32 :=
  if a0 < a1 then (
    some (0 : Int32))
  else (
    if a2 < a0 then (
      some (0 : Int32))
    else (
      some (1 : Int32)))
set_option maxRecDepth 100000 in
set_option maxHeartbeats 4000000 in
theorem am_X7_in {sh : aS} {P : aP} {I : aI} {J : aJ}   {a0 : Int32} {a1 : Int32} {a2 : Int32} {r : Int32} (hf : f_X7_in a0 a1 a2 = some r) : AM yX7_in cX7_in 3 (some .boolean) 0 0 [.int a0, .int a1, .int a2] sh P I J (some (.int r)) sh P I J 0 0 := by
  refine am_met (by decide +kernel) (Nat.le_of_ble_eq_true rfl) (fun K X hR => ?_)
  have X : am_C K cX7_in 3 RX7 "in" ({ frames := 0, cells := 0, slots := 0, locals := 0 } : Room) := X
  show AW K 3 0 [(0, .int a0), (1, .int a1), (2, .int a2)] [] sh P I J 0 0
  unfold f_X7_in at hf
  refine ar_iload_n X dX7_in_0 rfl 0 rfl ?_
  refine ar_iload_n X dX7_in_1 rfl 1 rfl ?_
  refine ar_icmp_lt (tgt := 14) X dX7_in_2 (by decide) hf (fun h1 hf => ?_) (fun h1 hf => ?_)
  · refine ar_iconst (v := 0) X dX7_in_14 (by decide) ?_
    cases hf
    exact ar_zret X dX7_in_15 rfl hR (Nat.le_refl _) (Nat.le_refl _)
  · refine ar_iload_n X dX7_in_5 rfl 0 rfl ?_
    refine ar_iload_n X dX7_in_6 rfl 2 rfl ?_
    refine ar_icmp_gt (tgt := 14) X dX7_in_7 (by decide) hf (fun h2 hf => ?_) (fun h2 hf => ?_)
    · refine ar_iconst (v := 0) X dX7_in_14 (by decide) ?_
      cases hf
      exact ar_zret X dX7_in_15 rfl hR (Nat.le_refl _) (Nat.le_refl _)
    · refine ar_iconst (v := 1) X dX7_in_10 (by decide) ?_
      refine ar_goto (tgt := 15) X dX7_in_11 (by decide) ?_
      cases hf
      exact ar_zret X dX7_in_15 rfl hR (Nat.le_refl _) (Nat.le_refl _)
def f_X7_ofLot (o : Nat) (a1 : Int32) (a2 : Int32) (I : aI) : Option Int32 :=
  am_g (am_ok (((58 : Int32) + ((5 : Int32) * a1)) + a2) 118) (
  some (I (o + 1) (Int32.toNatClampNeg (((58 : Int32) + ((5 : Int32) * a1)) + a2))))
set_option maxRecDepth 100000 in
set_option maxHeartbeats 4000000 in
theorem am_X7_ofLot {sh : aS} {P : aP} {I : aI} {J : aJ} {o : Nat} (hL : L7 sh P o) {a1 : Int32} {a2 : Int32} {r : Int32} (hf : f_X7_ofLot o a1 a2 I = some r) : AM yX7_ofLot cX7_ofLot 3 (some .int) 0 0 [.ref o, .int a1, .int a2] sh P I J (some (.int r)) sh P I J 0 0 := by
  refine am_met (by decide +kernel) (Nat.le_of_ble_eq_true rfl) (fun K X hR => ?_)
  have X : am_C K cX7_ofLot 3 RX7 "ofLot" ({ frames := 0, cells := 0, slots := 0, locals := 0 } : Room) := X
  show AW K 3 0 [(0, .ref o), (1, .int a1), (2, .int a2)] [] sh P I J 0 0
  unfold f_X7_ofLot at hf
  refine ar_aload_n X dX7_ofLot_0 rfl 0 rfl ?_
  refine ar_getr X dX7_ofLot_1 fg_X7_7 rfl (L7_s0 hL) (L7_p0_0 hL) ?_
  refine ar_bipush (v := 58) X dX7_ofLot_4 (by decide) ?_
  refine ar_iconst (v := 5) X dX7_ofLot_6 (by decide) ?_
  refine ar_iload_n X dX7_ofLot_7 rfl 1 rfl ?_
  refine ar_imul X dX7_ofLot_8 ?_
  refine ar_iadd X dX7_ofLot_9 ?_
  refine ar_iload_n X dX7_ofLot_10 rfl 2 rfl ?_
  refine ar_iadd X dX7_ofLot_11 ?_
  refine ar_iald X dX7_ofLot_12 (L7_s1 hL) hf (fun hf => ?_)
  cases hf
  exact ar_iret X dX7_ofLot_13 hR (Nat.le_refl _) (Nat.le_refl _)
def f_X7_about (o : Nat) (a1 : Int32) (a2 : Int32) (I : aI) : Option Int32 :=
  am_b1 (f_X7_in a1 (0 : Int32) ((I (o + 1) 1) - (1 : Int32))) fun r1 =>
  if r1 = 0 then (
    some (-1 : Int32))
  else (
    am_b1 (f_X7_in a2 (0 : Int32) (4 : Int32)) fun r3 =>
    if r3 = 0 then (
      some (-2 : Int32))
    else (
      am_b1 (f_X7_ofLot o a1 a2 I) fun r5 =>
      some r5))
set_option maxRecDepth 100000 in
set_option maxHeartbeats 4000000 in
theorem am_X7_about {sh : aS} {P : aP} {I : aI} {J : aJ} {o : Nat} (hL : L7 sh P o) {a1 : Int32} {a2 : Int32} {r : Int32} (hf : f_X7_about o a1 a2 I = some r) : AM yX7_about cX7_about 3 (some .int) 1 22 [.ref o, .int a1, .int a2] sh P I J (some (.int r)) sh P I J 0 0 := by
  refine am_met (by decide +kernel) (Nat.le_of_ble_eq_true rfl) (fun K X hR => ?_)
  have X : am_C K cX7_about 3 RX7 "about" ({ frames := 1, cells := 0, slots := 0, locals := 22 } : Room) := X
  show AW K 3 0 [(0, .ref o), (1, .int a1), (2, .int a2)] [] sh P I J 0 0
  unfold f_X7_about at hf
  refine ar_iload_n X dX7_about_0 rfl 1 rfl ?_
  refine ar_iconst (v := 0) X dX7_about_1 (by decide) ?_
  refine ar_aload_n X dX7_about_2 rfl 0 rfl ?_
  refine ar_getr X dX7_about_3 fg_X7_7 rfl (L7_s0 hL) (L7_p0_0 hL) ?_
  refine ar_iconst (v := 1) X dX7_about_6 (by decide) ?_
  refine ar_ialdK (k := 1) X dX7_about_7 (L7_s1 hL) (by decide) (by decide) ?_
  refine ar_iconst (v := 1) X dX7_about_8 (by decide) ?_
  refine ar_isub X dX7_about_9 ?_
  obtain ⟨r1, h1, hf⟩ := am_b1_e hf
  refine ar_cSi (As := [.int a1, .int (0 : Int32), .int ((I (o + 1) 1) - (1 : Int32))]) (st := []) X dX7_about_10 (am_X7_in h1) lk_X7_43 mt_X7_in ms_X7_in rfl (Nat.le_of_ble_eq_true rfl) ⟨by decide, by decide⟩ ⟨Nat.zero_le _, Nat.zero_le _⟩ rfl ?_
  refine ar_if_ne (tgt := 18) X dX7_about_13 (by decide) hf (fun h2 hf => ?_) (fun h2 hf => ?_)
  · refine ar_iconst (v := -1) X dX7_about_16 (by decide) ?_
    cases hf
    exact ar_iret X dX7_about_17 hR (Nat.le_refl _) (Nat.le_refl _)
  · refine ar_iload_n X dX7_about_18 rfl 2 rfl ?_
    refine ar_iconst (v := 0) X dX7_about_19 (by decide) ?_
    refine ar_iconst (v := 4) X dX7_about_20 (by decide) ?_
    obtain ⟨r3, h3, hf⟩ := am_b1_e hf
    refine ar_cSi (As := [.int a2, .int (0 : Int32), .int (4 : Int32)]) (st := []) X dX7_about_21 (am_X7_in h3) lk_X7_43 mt_X7_in ms_X7_in rfl (Nat.le_of_ble_eq_true rfl) ⟨by decide, by decide⟩ ⟨Nat.zero_le _, Nat.zero_le _⟩ rfl ?_
    refine ar_if_eq (tgt := 36) X dX7_about_24 (by decide) hf (fun h4 hf => ?_) (fun h4 hf => ?_)
    · refine ar_bipush (v := -2) X dX7_about_36 (by decide) ?_
      cases hf
      exact ar_iret X dX7_about_38 hR (Nat.le_refl _) (Nat.le_refl _)
    · refine ar_aload_n X dX7_about_27 rfl 0 rfl ?_
      refine ar_iload_n X dX7_about_28 rfl 1 rfl ?_
      refine ar_iload_n X dX7_about_29 rfl 2 rfl ?_
      obtain ⟨r5, h5, hf⟩ := am_b1_e hf
      refine ar_cVi (As := [.int a1, .int a2]) (st := []) X dX7_about_30 (am_X7_ofLot hL h5) lk_X7_77 mt_X7_ofLot mi_X7_ofLot (L7_s0 hL) rfl rfl (Nat.le_of_ble_eq_true rfl) ⟨by decide, by decide⟩ ⟨Nat.zero_le _, Nat.zero_le _⟩ rfl ?_
      refine ar_goto (tgt := 38) X dX7_about_33 (by decide) ?_
      cases hf
      exact ar_iret X dX7_about_38 hR (Nat.le_refl _) (Nat.le_refl _)
def f_X7_addPurse_b84 (o : Nat) (kh : Int32 → Int32 → Int64 → Int32 → aJ → Option aJ) (l1 : Int32) (l2 : Int32) (l5 : Int32) (s0 : Int64) (s1 : Int64) (J : aJ) : Option aJ :=
  am_let (s1 - s0) fun x1 =>
  am_g (am_ok l5 1801) (am_let (am_wJ J (o + 7) (Int32.toNatClampNeg l5) x1) fun J2 =>
  kh l1 l2 x1 (l5 + 1) J2)
set_option maxRecDepth 100000 in
set_option maxHeartbeats 4000000 in
theorem ab_X7_addPurse_b84 {K : aK} {sh : aS} {P : aP} {I : aI} {o : Nat} (X : am_C K cX7_addPurse 6 RX7 "addPurse" ({ frames := 0, cells := 0, slots := 0, locals := 0 } : Room)) (hL : L7 sh P o) {J9 : aJ} (hR : am_R K none none sh P I J9 0 0) {kh : Int32 → Int32 → Int64 → Int32 → aJ → Option aJ} (hk : ∀ (l1 : Int32) (l2 : Int32) (l3 : Int64) (l5 : Int32) (J : aJ) , kh l1 l2 l3 l5 J = some J9 → AW K 6 32 [(0, .ref o), (1, .int l1), (2, .int l2), (3, .long l3), (5, .int l5)] [] sh P I J 0 0) (l1 : Int32) (l2 : Int32) (l5 : Int32) (s0 : Int64) (s1 : Int64) (J : aJ) (hf : f_X7_addPurse_b84 o kh l1 l2 l5 s0 s1 J = some J9) : AW K 6 84 [(0, .ref o), (1, .int l1), (2, .int l2), (5, .int l5)] [.long s0, .long s1] sh P I J 0 0 := by
  unfold f_X7_addPurse_b84 at hf
  refine ar_lsub X dX7_addPurse_84 ?_
  refine ar_letL hf (fun x1 hf => ?_)
  refine ar_lstore_n X dX7_addPurse_85 rfl (by decide) rfl ?_
  refine ar_aload_n X dX7_addPurse_86 rfl 1 rfl ?_
  refine ar_getr X dX7_addPurse_87 fg_X7_29 rfl (L7_s0 hL) (L7_p0_7 hL) ?_
  refine ar_iload X dX7_addPurse_90 4 rfl ?_
  refine ar_lload_n X dX7_addPurse_92 rfl 0 rfl ?_
  refine ar_last X dX7_addPurse_93 (L7_s7 hL) hf (fun J2 hf => ?_)
  refine ar_iinc (j := 4) (v := (l5 + 1)) X dX7_addPurse_94 rfl rfl (by decide) rfl ?_
  refine ar_goto (tgt := 32) X dX7_addPurse_97 (by decide) ?_
  refine ar_lo [2, 3, 4, 1, 0] rfl ?_
  exact hk l1 l2 x1 (l5 + 1) J2 hf
def f_X7_addPurse_b60 (o : Nat) (kh : Int32 → Int32 → Int64 → Int32 → aJ → Option aJ) (l1 : Int32) (l2 : Int32) (l5 : Int32) (s0 : Int64) (s1 : Int64) (J : aJ) : Option aJ :=
  am_let (s1 + s0) fun x1 =>
  if l5 ≤ l2 then (
    f_X7_addPurse_b84 o kh l1 l2 l5 (0 : Int64) x1 J)
  else (
    am_g (am_ok ((l5 - l2) - (1 : Int32)) 1801) (
    f_X7_addPurse_b84 o kh l1 l2 l5 (J (o + 8) (Int32.toNatClampNeg ((l5 - l2) - (1 : Int32)))) x1 J))
set_option maxRecDepth 100000 in
set_option maxHeartbeats 4000000 in
theorem ab_X7_addPurse_b60 {K : aK} {sh : aS} {P : aP} {I : aI} {o : Nat} (X : am_C K cX7_addPurse 6 RX7 "addPurse" ({ frames := 0, cells := 0, slots := 0, locals := 0 } : Room)) (hL : L7 sh P o) {J9 : aJ} (hR : am_R K none none sh P I J9 0 0) {kh : Int32 → Int32 → Int64 → Int32 → aJ → Option aJ} (hk : ∀ (l1 : Int32) (l2 : Int32) (l3 : Int64) (l5 : Int32) (J : aJ) , kh l1 l2 l3 l5 J = some J9 → AW K 6 32 [(0, .ref o), (1, .int l1), (2, .int l2), (3, .long l3), (5, .int l5)] [] sh P I J 0 0) (l1 : Int32) (l2 : Int32) (l5 : Int32) (s0 : Int64) (s1 : Int64) (J : aJ) (hf : f_X7_addPurse_b60 o kh l1 l2 l5 s0 s1 J = some J9) : AW K 6 60 [(0, .ref o), (1, .int l1), (2, .int l2), (5, .int l5)] [.long s0, .long s1] sh P I J 0 0 := by
  unfold f_X7_addPurse_b60 at hf
  refine ar_ladd X dX7_addPurse_60 ?_
  refine ar_letL hf (fun x1 hf => ?_)
  refine ar_lstore_n X dX7_addPurse_61 rfl (by decide) rfl ?_
  refine ar_lload_n X dX7_addPurse_62 rfl 0 rfl ?_
  refine ar_iload X dX7_addPurse_63 4 rfl ?_
  refine ar_iload_n X dX7_addPurse_65 rfl 3 rfl ?_
  refine ar_icmp_le (tgt := 83) X dX7_addPurse_66 (by decide) hf (fun h2 hf => ?_) (fun h2 hf => ?_)
  · refine ar_lconst (v := 0) X dX7_addPurse_83 (by decide) ?_
    refine ar_lo [1, 2, 3, 4] rfl ?_
    exact ab_X7_addPurse_b84 X hL hR hk l1 l2 l5 (0 : Int64) x1 J hf
  · refine ar_aload_n X dX7_addPurse_69 rfl 1 rfl ?_
    refine ar_getr X dX7_addPurse_70 fg_X7_33 rfl (L7_s0 hL) (L7_p0_8 hL) ?_
    refine ar_iload X dX7_addPurse_73 4 rfl ?_
    refine ar_iload_n X dX7_addPurse_75 rfl 3 rfl ?_
    refine ar_isub X dX7_addPurse_76 ?_
    refine ar_iconst (v := 1) X dX7_addPurse_77 (by decide) ?_
    refine ar_isub X dX7_addPurse_78 ?_
    refine ar_lald X dX7_addPurse_79 (L7_s8 hL) hf (fun hf => ?_)
    refine ar_goto (tgt := 84) X dX7_addPurse_80 (by decide) ?_
    refine ar_lo [1, 2, 3, 4] rfl ?_
    exact ab_X7_addPurse_b84 X hL hR hk l1 l2 l5 (J (o + 8) (Int32.toNatClampNeg ((l5 - l2) - (1 : Int32)))) x1 J hf
def f_X7_addPurse_h32 (o : Nat) : Nat → Int32 → Int32 → Int64 → Int32 → aJ → Option aJ
  | 0, _, _, _, _, _ => none
  | n + 1, l1, l2, l3, l5, J =>
    if (1801 : Int32) ≤ l5 then (
      some J)
    else (
      if l5 < l1 then (
        f_X7_addPurse_b60 o (f_X7_addPurse_h32 o n) l1 l2 l5 (0 : Int64) l3 J)
      else (
        am_g (am_ok (l5 - l1) 1801) (
        f_X7_addPurse_b60 o (f_X7_addPurse_h32 o n) l1 l2 l5 (J (o + 8) (Int32.toNatClampNeg (l5 - l1))) l3 J)))
set_option maxRecDepth 100000 in
set_option maxHeartbeats 4000000 in
theorem ab_X7_addPurse_h32 {K : aK} {sh : aS} {P : aP} {I : aI} {o : Nat} (X : am_C K cX7_addPurse 6 RX7 "addPurse" ({ frames := 0, cells := 0, slots := 0, locals := 0 } : Room)) (hL : L7 sh P o) {J9 : aJ} (hR : am_R K none none sh P I J9 0 0) : ∀ (n : Nat) (l1 : Int32) (l2 : Int32) (l3 : Int64) (l5 : Int32) (J : aJ) , f_X7_addPurse_h32 o n l1 l2 l3 l5 J = some J9 → AW K 6 32 [(0, .ref o), (1, .int l1), (2, .int l2), (3, .long l3), (5, .int l5)] [] sh P I J 0 0 := by
  intro n
  induction n with
  | zero =>
    intro l1 l2 l3 l5 J hf
    cases hf
  | succ n ih =>
    intro l1 l2 l3 l5 J hf
    rw [f_X7_addPurse_h32] at hf
    refine ar_iload X dX7_addPurse_32 4 rfl ?_
    refine ar_sipush (v := 1801) X dX7_addPurse_34 (by decide) ?_
    refine ar_icmp_ge (tgt := 100) X dX7_addPurse_37 (by decide) hf (fun h1 hf => ?_) (fun h1 hf => ?_)
    · cases hf
      exact ar_vret X dX7_addPurse_100 hR (Nat.le_refl _) (Nat.le_refl _)
    · refine ar_lload_n X dX7_addPurse_40 rfl 3 rfl ?_
      refine ar_iload X dX7_addPurse_41 4 rfl ?_
      refine ar_iload_n X dX7_addPurse_43 rfl 1 rfl ?_
      refine ar_icmp_lt (tgt := 59) X dX7_addPurse_44 (by decide) hf (fun h2 hf => ?_) (fun h2 hf => ?_)
      · refine ar_lconst (v := 0) X dX7_addPurse_59 (by decide) ?_
        refine ar_lo [0, 1, 2, 4] rfl ?_
        exact ab_X7_addPurse_b60 X hL hR ih l1 l2 l5 (0 : Int64) l3 J hf
      · refine ar_aload_n X dX7_addPurse_47 rfl 0 rfl ?_
        refine ar_getr X dX7_addPurse_48 fg_X7_33 rfl (L7_s0 hL) (L7_p0_8 hL) ?_
        refine ar_iload X dX7_addPurse_51 4 rfl ?_
        refine ar_iload_n X dX7_addPurse_53 rfl 1 rfl ?_
        refine ar_isub X dX7_addPurse_54 ?_
        refine ar_lald X dX7_addPurse_55 (L7_s8 hL) hf (fun hf => ?_)
        refine ar_goto (tgt := 60) X dX7_addPurse_56 (by decide) ?_
        refine ar_lo [0, 1, 2, 4] rfl ?_
        exact ab_X7_addPurse_b60 X hL hR ih l1 l2 l5 (J (o + 8) (Int32.toNatClampNeg (l5 - l1))) l3 J hf
def f_X7_addPurse_h2 (o : Nat) : Nat → Int32 → Int32 → Int32 → aJ → Option aJ
  | 0, _, _, _, _ => none
  | n + 1, l1, l2, l3, J =>
    if (1801 : Int32) ≤ l3 then (
      f_X7_addPurse_h32 o am_F l1 l2 (0 : Int64) (0 : Int32) J)
    else (
      am_g (am_ok l3 1801) (
      am_g (am_ok l3 1801) (am_let (am_wJ J (o + 8) (Int32.toNatClampNeg l3) (J (o + 7) (Int32.toNatClampNeg l3))) fun J2 =>
      f_X7_addPurse_h2 o n l1 l2 (l3 + 1) J2)))
set_option maxRecDepth 100000 in
set_option maxHeartbeats 4000000 in
theorem ab_X7_addPurse_h2 {K : aK} {sh : aS} {P : aP} {I : aI} {o : Nat} (X : am_C K cX7_addPurse 6 RX7 "addPurse" ({ frames := 0, cells := 0, slots := 0, locals := 0 } : Room)) (hL : L7 sh P o) {J9 : aJ} (hR : am_R K none none sh P I J9 0 0) : ∀ (n : Nat) (l1 : Int32) (l2 : Int32) (l3 : Int32) (J : aJ) , f_X7_addPurse_h2 o n l1 l2 l3 J = some J9 → AW K 6 2 [(0, .ref o), (1, .int l1), (2, .int l2), (3, .int l3)] [] sh P I J 0 0 := by
  intro n
  induction n with
  | zero =>
    intro l1 l2 l3 J hf
    cases hf
  | succ n ih =>
    intro l1 l2 l3 J hf
    rw [f_X7_addPurse_h2] at hf
    refine ar_iload_n X dX7_addPurse_2 rfl 3 rfl ?_
    refine ar_sipush (v := 1801) X dX7_addPurse_3 (by decide) ?_
    refine ar_icmp_ge (tgt := 27) X dX7_addPurse_6 (by decide) hf (fun h1 hf => ?_) (fun h1 hf => ?_)
    · refine ar_lconst (v := 0) X dX7_addPurse_27 (by decide) ?_
      refine ar_lstore_n X dX7_addPurse_28 rfl (by decide) rfl ?_
      refine ar_iconst (v := 0) X dX7_addPurse_29 (by decide) ?_
      refine ar_istore X dX7_addPurse_30 (by decide) rfl ?_
      refine ar_lo [2, 3, 4, 1, 0] rfl ?_
      exact ab_X7_addPurse_h32 X hL hR am_F l1 l2 (0 : Int64) (0 : Int32) J hf
    · refine ar_aload_n X dX7_addPurse_9 rfl 0 rfl ?_
      refine ar_getr X dX7_addPurse_10 fg_X7_33 rfl (L7_s0 hL) (L7_p0_8 hL) ?_
      refine ar_iload_n X dX7_addPurse_13 rfl 3 rfl ?_
      refine ar_aload_n X dX7_addPurse_14 rfl 0 rfl ?_
      refine ar_getr X dX7_addPurse_15 fg_X7_29 rfl (L7_s0 hL) (L7_p0_7 hL) ?_
      refine ar_iload_n X dX7_addPurse_18 rfl 3 rfl ?_
      refine ar_lald X dX7_addPurse_19 (L7_s7 hL) hf (fun hf => ?_)
      refine ar_last X dX7_addPurse_20 (L7_s8 hL) hf (fun J2 hf => ?_)
      refine ar_iinc (j := 3) (v := (l3 + 1)) X dX7_addPurse_21 rfl rfl (by decide) rfl ?_
      refine ar_goto (tgt := 2) X dX7_addPurse_24 (by decide) ?_
      refine ar_lo [1, 2, 3, 0] rfl ?_
      exact ih l1 l2 (l3 + 1) J2 hf
def f_X7_addPurse (o : Nat) (a1 : Int32) (a2 : Int32) (J : aJ) : Option aJ :=
  f_X7_addPurse_h2 o am_F a1 a2 (0 : Int32) J
set_option maxRecDepth 100000 in
set_option maxHeartbeats 4000000 in
theorem am_X7_addPurse {sh : aS} {P : aP} {I : aI} {J : aJ} {o : Nat} (hL : L7 sh P o) {a1 : Int32} {a2 : Int32} {J9 : aJ} (hf : f_X7_addPurse o a1 a2 J = some J9) : AM yX7_addPurse cX7_addPurse 6 none 0 0 [.ref o, .int a1, .int a2] sh P I J none sh P I J9 0 0 := by
  refine am_met (by decide +kernel) (Nat.le_of_ble_eq_true rfl) (fun K X hR => ?_)
  have X : am_C K cX7_addPurse 6 RX7 "addPurse" ({ frames := 0, cells := 0, slots := 0, locals := 0 } : Room) := X
  show AW K 6 0 [(0, .ref o), (1, .int a1), (2, .int a2)] [] sh P I J 0 0
  unfold f_X7_addPurse at hf
  refine ar_iconst (v := 0) X dX7_addPurse_0 (by decide) ?_
  refine ar_istore_n X dX7_addPurse_1 rfl (by decide) rfl ?_
  refine ar_lo [1, 2, 3, 0] rfl ?_
  exact ab_X7_addPurse_h2 X hL hR am_F a1 a2 (0 : Int32) J hf
def f_X7_isPlayer (o : Nat) (a1 : Int32) (I : aI) : Option Int32 :=
  am_b1 (f_X7_in a1 (0 : Int32) ((I (o + 1) 0) - (1 : Int32))) fun r1 =>
  am_g (am_zk r1) (some r1)
set_option maxRecDepth 100000 in
set_option maxHeartbeats 4000000 in
theorem am_X7_isPlayer {sh : aS} {P : aP} {I : aI} {J : aJ} {o : Nat} (hL : L7 sh P o) {a1 : Int32} {r : Int32} (hf : f_X7_isPlayer o a1 I = some r) : AM yX7_isPlayer cX7_isPlayer 2 (some .boolean) 1 22 [.ref o, .int a1] sh P I J (some (.int r)) sh P I J 0 0 := by
  refine am_met (by decide +kernel) (Nat.le_of_ble_eq_true rfl) (fun K X hR => ?_)
  have X : am_C K cX7_isPlayer 2 RX7 "isPlayer" ({ frames := 1, cells := 0, slots := 0, locals := 22 } : Room) := X
  show AW K 2 0 [(0, .ref o), (1, .int a1)] [] sh P I J 0 0
  unfold f_X7_isPlayer at hf
  refine ar_iload_n X dX7_isPlayer_0 rfl 1 rfl ?_
  refine ar_iconst (v := 0) X dX7_isPlayer_1 (by decide) ?_
  refine ar_aload_n X dX7_isPlayer_2 rfl 0 rfl ?_
  refine ar_getr X dX7_isPlayer_3 fg_X7_7 rfl (L7_s0 hL) (L7_p0_0 hL) ?_
  refine ar_iconst (v := 0) X dX7_isPlayer_6 (by decide) ?_
  refine ar_ialdK (k := 0) X dX7_isPlayer_7 (L7_s1 hL) (by decide) (by decide) ?_
  refine ar_iconst (v := 1) X dX7_isPlayer_8 (by decide) ?_
  refine ar_isub X dX7_isPlayer_9 ?_
  obtain ⟨r1, h1, hf⟩ := am_b1_e hf
  refine ar_cSi (As := [.int a1, .int (0 : Int32), .int ((I (o + 1) 0) - (1 : Int32))]) (st := []) X dX7_isPlayer_10 (am_X7_in h1) lk_X7_43 mt_X7_in ms_X7_in rfl (Nat.le_of_ble_eq_true rfl) ⟨by decide, by decide⟩ ⟨Nat.zero_le _, Nat.zero_le _⟩ rfl ?_
  obtain ⟨h2, hf⟩ := am_g_elim hf
  cases hf
  exact ar_zret X dX7_isPlayer_13 (am_zn h2).1 hR (Nat.le_refl _) (Nat.le_refl _)
def f_X7_goes (o : Nat)  (I : aI) : Option Int32 :=
  if (I (o + 1) 3) = (1 : Int32) then (
    some (1 : Int32))
  else (
    some (0 : Int32))
set_option maxRecDepth 100000 in
set_option maxHeartbeats 4000000 in
theorem am_X7_goes {sh : aS} {P : aP} {I : aI} {J : aJ} {o : Nat} (hL : L7 sh P o)  {r : Int32} (hf : f_X7_goes o I = some r) : AM yX7_goes cX7_goes 1 (some .boolean) 0 0 [.ref o] sh P I J (some (.int r)) sh P I J 0 0 := by
  refine am_met (by decide +kernel) (Nat.le_of_ble_eq_true rfl) (fun K X hR => ?_)
  have X : am_C K cX7_goes 1 RX7 "goes" ({ frames := 0, cells := 0, slots := 0, locals := 0 } : Room) := X
  show AW K 1 0 [(0, .ref o)] [] sh P I J 0 0
  unfold f_X7_goes at hf
  refine ar_aload_n X dX7_goes_0 rfl 0 rfl ?_
  refine ar_getr X dX7_goes_1 fg_X7_7 rfl (L7_s0 hL) (L7_p0_0 hL) ?_
  refine ar_iconst (v := 3) X dX7_goes_4 (by decide) ?_
  refine ar_ialdK (k := 3) X dX7_goes_5 (L7_s1 hL) (by decide) (by decide) ?_
  refine ar_iconst (v := 1) X dX7_goes_6 (by decide) ?_
  refine ar_icmp_ne (tgt := 14) X dX7_goes_7 (by decide) hf (fun h1 hf => ?_) (fun h1 hf => ?_)
  · refine ar_iconst (v := 1) X dX7_goes_10 (by decide) ?_
    refine ar_goto (tgt := 15) X dX7_goes_11 (by decide) ?_
    cases hf
    exact ar_zret X dX7_goes_15 rfl hR (Nat.le_refl _) (Nat.le_refl _)
  · refine ar_iconst (v := 0) X dX7_goes_14 (by decide) ?_
    cases hf
    exact ar_zret X dX7_goes_15 rfl hR (Nat.le_refl _) (Nat.le_refl _)
def f_X7_of (o : Nat) (a1 : Int32) (a2 : Int32) (I : aI) : Option Int32 :=
  am_g (am_ok (((16 : Int32) + ((7 : Int32) * a1)) + a2) 118) (
  some (I (o + 1) (Int32.toNatClampNeg (((16 : Int32) + ((7 : Int32) * a1)) + a2))))
set_option maxRecDepth 100000 in
set_option maxHeartbeats 4000000 in
theorem am_X7_of {sh : aS} {P : aP} {I : aI} {J : aJ} {o : Nat} (hL : L7 sh P o) {a1 : Int32} {a2 : Int32} {r : Int32} (hf : f_X7_of o a1 a2 I = some r) : AM yX7_of cX7_of 3 (some .int) 0 0 [.ref o, .int a1, .int a2] sh P I J (some (.int r)) sh P I J 0 0 := by
  refine am_met (by decide +kernel) (Nat.le_of_ble_eq_true rfl) (fun K X hR => ?_)
  have X : am_C K cX7_of 3 RX7 "of" ({ frames := 0, cells := 0, slots := 0, locals := 0 } : Room) := X
  show AW K 3 0 [(0, .ref o), (1, .int a1), (2, .int a2)] [] sh P I J 0 0
  unfold f_X7_of at hf
  refine ar_aload_n X dX7_of_0 rfl 0 rfl ?_
  refine ar_getr X dX7_of_1 fg_X7_7 rfl (L7_s0 hL) (L7_p0_0 hL) ?_
  refine ar_bipush (v := 16) X dX7_of_4 (by decide) ?_
  refine ar_bipush (v := 7) X dX7_of_6 (by decide) ?_
  refine ar_iload_n X dX7_of_8 rfl 1 rfl ?_
  refine ar_imul X dX7_of_9 ?_
  refine ar_iadd X dX7_of_10 ?_
  refine ar_iload_n X dX7_of_11 rfl 2 rfl ?_
  refine ar_iadd X dX7_of_12 ?_
  refine ar_iald X dX7_of_13 (L7_s1 hL) hf (fun hf => ?_)
  cases hf
  exact ar_iret X dX7_of_14 hR (Nat.le_refl _) (Nat.le_refl _)
def f_X7_lay (o : Nat) (a1 : Int32) (a2 : Int32) (a3 : Int32) (I : aI) : Option aI :=
  am_g (am_ok (((16 : Int32) + ((7 : Int32) * a1)) + a2) 118) (am_let (am_w I (o + 1) (Int32.toNatClampNeg (((16 : Int32) + ((7 : Int32) * a1)) + a2)) a3) fun I1 =>
  some I1)
set_option maxRecDepth 100000 in
set_option maxHeartbeats 4000000 in
theorem am_X7_lay {sh : aS} {P : aP} {I : aI} {J : aJ} {o : Nat} (hL : L7 sh P o) {a1 : Int32} {a2 : Int32} {a3 : Int32} {I9 : aI} (hf : f_X7_lay o a1 a2 a3 I = some I9) : AM yX7_lay cX7_lay 4 none 0 0 [.ref o, .int a1, .int a2, .int a3] sh P I J none sh P I9 J 0 0 := by
  refine am_met (by decide +kernel) (Nat.le_of_ble_eq_true rfl) (fun K X hR => ?_)
  have X : am_C K cX7_lay 4 RX7 "lay" ({ frames := 0, cells := 0, slots := 0, locals := 0 } : Room) := X
  show AW K 4 0 [(0, .ref o), (1, .int a1), (2, .int a2), (3, .int a3)] [] sh P I J 0 0
  unfold f_X7_lay at hf
  refine ar_aload_n X dX7_lay_0 rfl 0 rfl ?_
  refine ar_getr X dX7_lay_1 fg_X7_7 rfl (L7_s0 hL) (L7_p0_0 hL) ?_
  refine ar_bipush (v := 16) X dX7_lay_4 (by decide) ?_
  refine ar_bipush (v := 7) X dX7_lay_6 (by decide) ?_
  refine ar_iload_n X dX7_lay_8 rfl 1 rfl ?_
  refine ar_imul X dX7_lay_9 ?_
  refine ar_iadd X dX7_lay_10 ?_
  refine ar_iload_n X dX7_lay_11 rfl 2 rfl ?_
  refine ar_iadd X dX7_lay_12 ?_
  refine ar_iload_n X dX7_lay_13 rfl 3 rfl ?_
  refine ar_iast X dX7_lay_14 (L7_s1 hL) hf (fun I1 hf => ?_)
  cases hf
  exact ar_vret X dX7_lay_15 hR (Nat.le_refl _) (Nat.le_refl _)
def f_X7_know (o : Nat) (a1 : Int32) (a2 : Int32) (I : aI) : Option aI :=
  am_b1 (f_X7_of o a1 (3 : Int32) I) fun r1 =>
  if a2 ≤ r1 then (
    am_b1 (f_X7_of o a1 (3 : Int32) I) fun r3 =>
    am_b1 (f_X7_lay o a1 (3 : Int32) r3 I) fun I4 =>
    some I4)
  else (
    am_b1 (f_X7_lay o a1 (3 : Int32) a2 I) fun I5 =>
    some I5)
set_option maxRecDepth 100000 in
set_option maxHeartbeats 4000000 in
theorem am_X7_know {sh : aS} {P : aP} {I : aI} {J : aJ} {o : Nat} (hL : L7 sh P o) {a1 : Int32} {a2 : Int32} {I9 : aI} (hf : f_X7_know o a1 a2 I = some I9) : AM yX7_know cX7_know 3 none 1 23 [.ref o, .int a1, .int a2] sh P I J none sh P I9 J 0 0 := by
  refine am_met (by decide +kernel) (Nat.le_of_ble_eq_true rfl) (fun K X hR => ?_)
  have X : am_C K cX7_know 3 RX7 "know" ({ frames := 1, cells := 0, slots := 0, locals := 23 } : Room) := X
  show AW K 3 0 [(0, .ref o), (1, .int a1), (2, .int a2)] [] sh P I J 0 0
  unfold f_X7_know at hf
  refine ar_aload_n X dX7_know_0 rfl 0 rfl ?_
  refine ar_iload_n X dX7_know_1 rfl 1 rfl ?_
  refine ar_iconst (v := 3) X dX7_know_2 (by decide) ?_
  refine ar_iload_n X dX7_know_3 rfl 2 rfl ?_
  refine ar_aload_n X dX7_know_4 rfl 0 rfl ?_
  refine ar_iload_n X dX7_know_5 rfl 1 rfl ?_
  refine ar_iconst (v := 3) X dX7_know_6 (by decide) ?_
  obtain ⟨r1, h1, hf⟩ := am_b1_e hf
  refine ar_cVi (As := [.int a1, .int (3 : Int32)]) (st := [.int a2, .int (3 : Int32), .int a1, .ref o]) X dX7_know_7 (am_X7_of hL h1) lk_X7_70 mt_X7_of mi_X7_of (L7_s0 hL) rfl rfl (Nat.le_of_ble_eq_true rfl) ⟨by decide, by decide⟩ ⟨Nat.zero_le _, Nat.zero_le _⟩ rfl ?_
  refine ar_icmp_le (tgt := 17) X dX7_know_10 (by decide) hf (fun h2 hf => ?_) (fun h2 hf => ?_)
  · refine ar_aload_n X dX7_know_17 rfl 0 rfl ?_
    refine ar_iload_n X dX7_know_18 rfl 1 rfl ?_
    refine ar_iconst (v := 3) X dX7_know_19 (by decide) ?_
    obtain ⟨r3, h3, hf⟩ := am_b1_e hf
    refine ar_cVi (As := [.int a1, .int (3 : Int32)]) (st := [.int (3 : Int32), .int a1, .ref o]) X dX7_know_20 (am_X7_of hL h3) lk_X7_70 mt_X7_of mi_X7_of (L7_s0 hL) rfl rfl (Nat.le_of_ble_eq_true rfl) ⟨by decide, by decide⟩ ⟨Nat.zero_le _, Nat.zero_le _⟩ rfl ?_
    obtain ⟨I4, h4, hf⟩ := am_b1_e hf
    refine ar_cVv (As := [.int a1, .int (3 : Int32), .int r3]) (st := []) X dX7_know_23 (am_X7_lay hL h4) lk_X7_47 mt_X7_lay mi_X7_lay (L7_s0 hL) rfl rfl (Nat.le_of_ble_eq_true rfl) ⟨by decide, by decide⟩ ⟨Nat.zero_le _, Nat.zero_le _⟩ rfl ?_
    cases hf
    exact ar_vret X dX7_know_26 hR (Nat.le_refl _) (Nat.le_refl _)
  · refine ar_iload_n X dX7_know_13 rfl 2 rfl ?_
    refine ar_goto (tgt := 23) X dX7_know_14 (by decide) ?_
    obtain ⟨I5, h5, hf⟩ := am_b1_e hf
    refine ar_cVv (As := [.int a1, .int (3 : Int32), .int a2]) (st := []) X dX7_know_23 (am_X7_lay hL h5) lk_X7_47 mt_X7_lay mi_X7_lay (L7_s0 hL) rfl rfl (Nat.le_of_ble_eq_true rfl) ⟨by decide, by decide⟩ ⟨Nat.zero_le _, Nat.zero_le _⟩ rfl ?_
    cases hf
    exact ar_vret X dX7_know_26 hR (Nat.le_refl _) (Nat.le_refl _)
def f_X7_ask (o : Nat) (a1 : Int32) (a2 : Int32) (I : aI) : Option (Int32 × aI) :=
  am_b1 (f_X7_isPlayer o a1 I) fun r1 =>
  if r1 = 0 then (
    some ((-1 : Int32), I))
  else (
    am_b1 (f_X7_in a2 (1 : Int32) (300 : Int32)) fun r3 =>
    if r3 = 0 then (
      some ((-2 : Int32), I))
    else (
      am_b1 (f_X7_goes o I) fun r5 =>
      if r5 = 0 then (
        am_b1 (f_X7_of o a1 (0 : Int32) I) fun r7 =>
        if r7 < a2 then (
          am_b1 (f_X7_of o a1 (4 : Int32) I) fun r9 =>
          if (a2 - (1 : Int32)) ≤ r9 then (
            am_b1 (f_X7_lay o a1 (4 : Int32) (a2 - (1 : Int32)) I) fun I11 =>
            some ((0 : Int32), I11))
          else (
            am_b1 (f_X7_of o a1 (4 : Int32) I) fun r12 =>
            am_b1 (f_X7_lay o a1 (4 : Int32) r12 I) fun I13 =>
            some ((0 : Int32), I13)))
        else (
          am_b1 (f_X7_know o a1 a2 I) fun I14 =>
          some ((1 : Int32), I14)))
      else (
        some ((-5 : Int32), I))))
set_option maxRecDepth 100000 in
set_option maxHeartbeats 4000000 in
theorem am_X7_ask {sh : aS} {P : aP} {I : aI} {J : aJ} {o : Nat} (hL : L7 sh P o) {a1 : Int32} {a2 : Int32} {r : Int32} {I9 : aI} (hf : f_X7_ask o a1 a2 I = some (r, I9)) : AM yX7_ask cX7_ask 3 (some .int) 2 45 [.ref o, .int a1, .int a2] sh P I J (some (.int r)) sh P I9 J 0 0 := by
  refine am_met (by decide +kernel) (Nat.le_of_ble_eq_true rfl) (fun K X hR => ?_)
  have X : am_C K cX7_ask 3 RX7 "ask" ({ frames := 2, cells := 0, slots := 0, locals := 45 } : Room) := X
  show AW K 3 0 [(0, .ref o), (1, .int a1), (2, .int a2)] [] sh P I J 0 0
  unfold f_X7_ask at hf
  refine ar_aload_n X dX7_ask_0 rfl 0 rfl ?_
  refine ar_iload_n X dX7_ask_1 rfl 1 rfl ?_
  obtain ⟨r1, h1, hf⟩ := am_b1_e hf
  refine ar_cVi (As := [.int a1]) (st := []) X dX7_ask_2 (am_X7_isPlayer hL h1) lk_X7_66 mt_X7_isPlayer mi_X7_isPlayer (L7_s0 hL) rfl rfl (Nat.le_of_ble_eq_true rfl) ⟨by decide, by decide⟩ ⟨Nat.zero_le _, Nat.zero_le _⟩ rfl ?_
  refine ar_if_ne (tgt := 10) X dX7_ask_5 (by decide) hf (fun h2 hf => ?_) (fun h2 hf => ?_)
  · refine ar_iconst (v := -1) X dX7_ask_8 (by decide) ?_
    cases hf
    exact ar_iret X dX7_ask_9 hR (Nat.le_refl _) (Nat.le_refl _)
  · refine ar_iload_n X dX7_ask_10 rfl 2 rfl ?_
    refine ar_iconst (v := 1) X dX7_ask_11 (by decide) ?_
    refine ar_sipush (v := 300) X dX7_ask_12 (by decide) ?_
    obtain ⟨r3, h3, hf⟩ := am_b1_e hf
    refine ar_cSi (As := [.int a2, .int (1 : Int32), .int (300 : Int32)]) (st := []) X dX7_ask_15 (am_X7_in h3) lk_X7_43 mt_X7_in ms_X7_in rfl (Nat.le_of_ble_eq_true rfl) ⟨by decide, by decide⟩ ⟨Nat.zero_le _, Nat.zero_le _⟩ rfl ?_
    refine ar_if_ne (tgt := 24) X dX7_ask_18 (by decide) hf (fun h4 hf => ?_) (fun h4 hf => ?_)
    · refine ar_bipush (v := -2) X dX7_ask_21 (by decide) ?_
      cases hf
      exact ar_iret X dX7_ask_23 hR (Nat.le_refl _) (Nat.le_refl _)
    · refine ar_aload_n X dX7_ask_24 rfl 0 rfl ?_
      obtain ⟨r5, h5, hf⟩ := am_b1_e hf
      refine ar_cVi (As := []) (st := []) X dX7_ask_25 (am_X7_goes hL h5) lk_X7_62 mt_X7_goes mi_X7_goes (L7_s0 hL) rfl rfl (Nat.le_of_ble_eq_true rfl) ⟨by decide, by decide⟩ ⟨Nat.zero_le _, Nat.zero_le _⟩ rfl ?_
      refine ar_if_eq (tgt := 34) X dX7_ask_28 (by decide) hf (fun h6 hf => ?_) (fun h6 hf => ?_)
      · refine ar_aload_n X dX7_ask_34 rfl 0 rfl ?_
        refine ar_iload_n X dX7_ask_35 rfl 1 rfl ?_
        refine ar_iconst (v := 0) X dX7_ask_36 (by decide) ?_
        obtain ⟨r7, h7, hf⟩ := am_b1_e hf
        refine ar_cVi (As := [.int a1, .int (0 : Int32)]) (st := []) X dX7_ask_37 (am_X7_of hL h7) lk_X7_70 mt_X7_of mi_X7_of (L7_s0 hL) rfl rfl (Nat.le_of_ble_eq_true rfl) ⟨by decide, by decide⟩ ⟨Nat.zero_le _, Nat.zero_le _⟩ rfl ?_
        refine ar_iload_n X dX7_ask_40 rfl 2 rfl ?_
        refine ar_icmp_lt (tgt := 52) X dX7_ask_41 (by decide) hf (fun h8 hf => ?_) (fun h8 hf => ?_)
        · refine ar_aload_n X dX7_ask_52 rfl 0 rfl ?_
          refine ar_iload_n X dX7_ask_53 rfl 1 rfl ?_
          refine ar_iconst (v := 4) X dX7_ask_54 (by decide) ?_
          refine ar_aload_n X dX7_ask_55 rfl 0 rfl ?_
          refine ar_iload_n X dX7_ask_56 rfl 1 rfl ?_
          refine ar_iconst (v := 4) X dX7_ask_57 (by decide) ?_
          obtain ⟨r9, h9, hf⟩ := am_b1_e hf
          refine ar_cVi (As := [.int a1, .int (4 : Int32)]) (st := [.int (4 : Int32), .int a1, .ref o]) X dX7_ask_58 (am_X7_of hL h9) lk_X7_70 mt_X7_of mi_X7_of (L7_s0 hL) rfl rfl (Nat.le_of_ble_eq_true rfl) ⟨by decide, by decide⟩ ⟨Nat.zero_le _, Nat.zero_le _⟩ rfl ?_
          refine ar_iload_n X dX7_ask_61 rfl 2 rfl ?_
          refine ar_iconst (v := 1) X dX7_ask_62 (by decide) ?_
          refine ar_isub X dX7_ask_63 ?_
          refine ar_icmp_ge (tgt := 76) X dX7_ask_64 (by decide) hf (fun h10 hf => ?_) (fun h10 hf => ?_)
          · refine ar_iload_n X dX7_ask_76 rfl 2 rfl ?_
            refine ar_iconst (v := 1) X dX7_ask_77 (by decide) ?_
            refine ar_isub X dX7_ask_78 ?_
            obtain ⟨I11, h11, hf⟩ := am_b1_e hf
            refine ar_cVv (As := [.int a1, .int (4 : Int32), .int (a2 - (1 : Int32))]) (st := []) X dX7_ask_79 (am_X7_lay hL h11) lk_X7_47 mt_X7_lay mi_X7_lay (L7_s0 hL) rfl rfl (Nat.le_of_ble_eq_true rfl) ⟨by decide, by decide⟩ ⟨Nat.zero_le _, Nat.zero_le _⟩ rfl ?_
            refine ar_iconst (v := 0) X dX7_ask_82 (by decide) ?_
            cases hf
            exact ar_iret X dX7_ask_83 hR (Nat.le_refl _) (Nat.le_refl _)
          · refine ar_aload_n X dX7_ask_67 rfl 0 rfl ?_
            refine ar_iload_n X dX7_ask_68 rfl 1 rfl ?_
            refine ar_iconst (v := 4) X dX7_ask_69 (by decide) ?_
            obtain ⟨r12, h12, hf⟩ := am_b1_e hf
            refine ar_cVi (As := [.int a1, .int (4 : Int32)]) (st := [.int (4 : Int32), .int a1, .ref o]) X dX7_ask_70 (am_X7_of hL h12) lk_X7_70 mt_X7_of mi_X7_of (L7_s0 hL) rfl rfl (Nat.le_of_ble_eq_true rfl) ⟨by decide, by decide⟩ ⟨Nat.zero_le _, Nat.zero_le _⟩ rfl ?_
            refine ar_goto (tgt := 79) X dX7_ask_73 (by decide) ?_
            obtain ⟨I13, h13, hf⟩ := am_b1_e hf
            refine ar_cVv (As := [.int a1, .int (4 : Int32), .int r12]) (st := []) X dX7_ask_79 (am_X7_lay hL h13) lk_X7_47 mt_X7_lay mi_X7_lay (L7_s0 hL) rfl rfl (Nat.le_of_ble_eq_true rfl) ⟨by decide, by decide⟩ ⟨Nat.zero_le _, Nat.zero_le _⟩ rfl ?_
            refine ar_iconst (v := 0) X dX7_ask_82 (by decide) ?_
            cases hf
            exact ar_iret X dX7_ask_83 hR (Nat.le_refl _) (Nat.le_refl _)
        · refine ar_aload_n X dX7_ask_44 rfl 0 rfl ?_
          refine ar_iload_n X dX7_ask_45 rfl 1 rfl ?_
          refine ar_iload_n X dX7_ask_46 rfl 2 rfl ?_
          obtain ⟨I14, h14, hf⟩ := am_b1_e hf
          refine ar_cVv (As := [.int a1, .int a2]) (st := []) X dX7_ask_47 (am_X7_know hL h14) lk_X7_112 mt_X7_know mi_X7_know (L7_s0 hL) rfl rfl (Nat.le_of_ble_eq_true rfl) ⟨by decide, by decide⟩ ⟨Nat.zero_le _, Nat.zero_le _⟩ rfl ?_
          refine ar_iconst (v := 1) X dX7_ask_50 (by decide) ?_
          cases hf
          exact ar_iret X dX7_ask_51 hR (Nat.le_refl _) (Nat.le_refl _)
      · refine ar_bipush (v := -5) X dX7_ask_31 (by decide) ?_
        cases hf
        exact ar_iret X dX7_ask_33 hR (Nat.le_refl _) (Nat.le_refl _)
def f_X7_layWays_h32 (o : Nat) : Nat → Int32 → Int32 → aI → aJ → Option aJ
  | 0, _, _, _, _ => none
  | n + 1, l1, l2, I, J =>
    if (I (o + 1) 0) ≤ l2 then (
      some J)
    else (
      if l2 = l1 then (
        f_X7_layWays_h32 o n l1 (l2 + 1) I J)
      else (
        am_b1 (f_X7_of o l2 (3 : Int32) I) fun r3 =>
        am_b1 (f_X7_of o l2 (4 : Int32) I) fun r4 =>
        am_b1 (f_X7_addPurse o r3 r4 J) fun J5 =>
        f_X7_layWays_h32 o n l1 (l2 + 1) I J5))
set_option maxRecDepth 100000 in
set_option maxHeartbeats 4000000 in
theorem ab_X7_layWays_h32 {K : aK} {sh : aS} {P : aP} {I : aI} {o : Nat} (X : am_C K cX7_layWays 3 RX7 "layWays" ({ frames := 1, cells := 0, slots := 0, locals := 25 } : Room)) (hL : L7 sh P o) {J9 : aJ} (hR : am_R K none none sh P I J9 0 0) : ∀ (n : Nat) (l1 : Int32) (l2 : Int32) (J : aJ) , f_X7_layWays_h32 o n l1 l2 I J = some J9 → AW K 3 32 [(0, .ref o), (1, .int l1), (2, .int l2)] [] sh P I J 0 0 := by
  intro n
  induction n with
  | zero =>
    intro l1 l2 J hf
    cases hf
  | succ n ih =>
    intro l1 l2 J hf
    rw [f_X7_layWays_h32] at hf
    refine ar_iload_n X dX7_layWays_32 rfl 2 rfl ?_
    refine ar_aload_n X dX7_layWays_33 rfl 0 rfl ?_
    refine ar_getr X dX7_layWays_34 fg_X7_7 rfl (L7_s0 hL) (L7_p0_0 hL) ?_
    refine ar_iconst (v := 0) X dX7_layWays_37 (by decide) ?_
    refine ar_ialdK (k := 0) X dX7_layWays_38 (L7_s1 hL) (by decide) (by decide) ?_
    refine ar_icmp_ge (tgt := 69) X dX7_layWays_39 (by decide) hf (fun h1 hf => ?_) (fun h1 hf => ?_)
    · cases hf
      exact ar_vret X dX7_layWays_69 hR (Nat.le_refl _) (Nat.le_refl _)
    · refine ar_iload_n X dX7_layWays_42 rfl 2 rfl ?_
      refine ar_iload_n X dX7_layWays_43 rfl 1 rfl ?_
      refine ar_icmp_eq (tgt := 63) X dX7_layWays_44 (by decide) hf (fun h2 hf => ?_) (fun h2 hf => ?_)
      · refine ar_iinc (j := 2) (v := (l2 + 1)) X dX7_layWays_63 rfl rfl (by decide) rfl ?_
        refine ar_goto (tgt := 32) X dX7_layWays_66 (by decide) ?_
        refine ar_lo [1, 2, 0] rfl ?_
        exact ih l1 (l2 + 1) J hf
      · refine ar_aload_n X dX7_layWays_47 rfl 0 rfl ?_
        refine ar_aload_n X dX7_layWays_48 rfl 0 rfl ?_
        refine ar_iload_n X dX7_layWays_49 rfl 2 rfl ?_
        refine ar_iconst (v := 3) X dX7_layWays_50 (by decide) ?_
        obtain ⟨r3, h3, hf⟩ := am_b1_e hf
        refine ar_cVi (As := [.int l2, .int (3 : Int32)]) (st := [.ref o]) X dX7_layWays_51 (am_X7_of hL h3) lk_X7_70 mt_X7_of mi_X7_of (L7_s0 hL) rfl rfl (Nat.le_of_ble_eq_true rfl) ⟨by decide, by decide⟩ ⟨Nat.zero_le _, Nat.zero_le _⟩ rfl ?_
        refine ar_aload_n X dX7_layWays_54 rfl 0 rfl ?_
        refine ar_iload_n X dX7_layWays_55 rfl 2 rfl ?_
        refine ar_iconst (v := 4) X dX7_layWays_56 (by decide) ?_
        obtain ⟨r4, h4, hf⟩ := am_b1_e hf
        refine ar_cVi (As := [.int l2, .int (4 : Int32)]) (st := [.int r3, .ref o]) X dX7_layWays_57 (am_X7_of hL h4) lk_X7_70 mt_X7_of mi_X7_of (L7_s0 hL) rfl rfl (Nat.le_of_ble_eq_true rfl) ⟨by decide, by decide⟩ ⟨Nat.zero_le _, Nat.zero_le _⟩ rfl ?_
        obtain ⟨J5, h5, hf⟩ := am_b1_e hf
        refine ar_cVv (As := [.int r3, .int r4]) (st := []) X dX7_layWays_60 (am_X7_addPurse hL h5) lk_X7_182 mt_X7_addPurse mi_X7_addPurse (L7_s0 hL) rfl rfl (Nat.le_of_ble_eq_true rfl) ⟨by decide, by decide⟩ ⟨Nat.zero_le _, Nat.zero_le _⟩ rfl ?_
        refine ar_iinc (j := 2) (v := (l2 + 1)) X dX7_layWays_63 rfl rfl (by decide) rfl ?_
        refine ar_goto (tgt := 32) X dX7_layWays_66 (by decide) ?_
        refine ar_lo [1, 2, 0] rfl ?_
        exact ih l1 (l2 + 1) J5 hf
def f_X7_layWays_h2 (o : Nat) : Nat → Int32 → Int32 → aI → aJ → Option aJ
  | 0, _, _, _, _ => none
  | n + 1, l1, l2, I, J =>
    if (1801 : Int32) ≤ l2 then (
      f_X7_layWays_h32 o am_F l1 (0 : Int32) I J)
    else (
      if l2 = 0 then (
        am_g (am_ok l2 1801) (am_let (am_wJ J (o + 7) (Int32.toNatClampNeg l2) (1 : Int64)) fun J3 =>
        f_X7_layWays_h2 o n l1 (l2 + 1) I J3))
      else (
        am_g (am_ok l2 1801) (am_let (am_wJ J (o + 7) (Int32.toNatClampNeg l2) (0 : Int64)) fun J4 =>
        f_X7_layWays_h2 o n l1 (l2 + 1) I J4)))
set_option maxRecDepth 100000 in
set_option maxHeartbeats 4000000 in
theorem ab_X7_layWays_h2 {K : aK} {sh : aS} {P : aP} {I : aI} {o : Nat} (X : am_C K cX7_layWays 3 RX7 "layWays" ({ frames := 1, cells := 0, slots := 0, locals := 25 } : Room)) (hL : L7 sh P o) {J9 : aJ} (hR : am_R K none none sh P I J9 0 0) : ∀ (n : Nat) (l1 : Int32) (l2 : Int32) (J : aJ) , f_X7_layWays_h2 o n l1 l2 I J = some J9 → AW K 3 2 [(0, .ref o), (1, .int l1), (2, .int l2)] [] sh P I J 0 0 := by
  intro n
  induction n with
  | zero =>
    intro l1 l2 J hf
    cases hf
  | succ n ih =>
    intro l1 l2 J hf
    rw [f_X7_layWays_h2] at hf
    refine ar_iload_n X dX7_layWays_2 rfl 2 rfl ?_
    refine ar_sipush (v := 1801) X dX7_layWays_3 (by decide) ?_
    refine ar_icmp_ge (tgt := 30) X dX7_layWays_6 (by decide) hf (fun h1 hf => ?_) (fun h1 hf => ?_)
    · refine ar_iconst (v := 0) X dX7_layWays_30 (by decide) ?_
      refine ar_istore_n X dX7_layWays_31 rfl (by decide) rfl ?_
      refine ar_lo [1, 2, 0] rfl ?_
      exact ab_X7_layWays_h32 X hL hR am_F l1 (0 : Int32) J hf
    · refine ar_aload_n X dX7_layWays_9 rfl 0 rfl ?_
      refine ar_getr X dX7_layWays_10 fg_X7_29 rfl (L7_s0 hL) (L7_p0_7 hL) ?_
      refine ar_iload_n X dX7_layWays_13 rfl 2 rfl ?_
      refine ar_iload_n X dX7_layWays_14 rfl 2 rfl ?_
      refine ar_if_ne (tgt := 22) X dX7_layWays_15 (by decide) hf (fun h2 hf => ?_) (fun h2 hf => ?_)
      · refine ar_lconst (v := 1) X dX7_layWays_18 (by decide) ?_
        refine ar_goto (tgt := 23) X dX7_layWays_19 (by decide) ?_
        refine ar_last X dX7_layWays_23 (L7_s7 hL) hf (fun J3 hf => ?_)
        refine ar_iinc (j := 2) (v := (l2 + 1)) X dX7_layWays_24 rfl rfl (by decide) rfl ?_
        refine ar_goto (tgt := 2) X dX7_layWays_27 (by decide) ?_
        refine ar_lo [1, 2, 0] rfl ?_
        exact ih l1 (l2 + 1) J3 hf
      · refine ar_lconst (v := 0) X dX7_layWays_22 (by decide) ?_
        refine ar_last X dX7_layWays_23 (L7_s7 hL) hf (fun J4 hf => ?_)
        refine ar_iinc (j := 2) (v := (l2 + 1)) X dX7_layWays_24 rfl rfl (by decide) rfl ?_
        refine ar_goto (tgt := 2) X dX7_layWays_27 (by decide) ?_
        refine ar_lo [1, 2, 0] rfl ?_
        exact ih l1 (l2 + 1) J4 hf
def f_X7_layWays (o : Nat) (a1 : Int32) (I : aI) (J : aJ) : Option aJ :=
  f_X7_layWays_h2 o am_F a1 (0 : Int32) I J
set_option maxRecDepth 100000 in
set_option maxHeartbeats 4000000 in
theorem am_X7_layWays {sh : aS} {P : aP} {I : aI} {J : aJ} {o : Nat} (hL : L7 sh P o) {a1 : Int32} {J9 : aJ} (hf : f_X7_layWays o a1 I J = some J9) : AM yX7_layWays cX7_layWays 3 none 1 25 [.ref o, .int a1] sh P I J none sh P I J9 0 0 := by
  refine am_met (by decide +kernel) (Nat.le_of_ble_eq_true rfl) (fun K X hR => ?_)
  have X : am_C K cX7_layWays 3 RX7 "layWays" ({ frames := 1, cells := 0, slots := 0, locals := 25 } : Room) := X
  show AW K 3 0 [(0, .ref o), (1, .int a1)] [] sh P I J 0 0
  unfold f_X7_layWays at hf
  refine ar_iconst (v := 0) X dX7_layWays_0 (by decide) ?_
  refine ar_istore_n X dX7_layWays_1 rfl (by decide) rfl ?_
  refine ar_lo [1, 2, 0] rfl ?_
  exact ab_X7_layWays_h2 X hL hR am_F a1 (0 : Int32) J hf
def f_X7_sumOf_h4 (o : Nat) : Nat → Int32 → Int32 → Int32 → aI → Option Int32
  | 0, _, _, _, _ => none
  | n + 1, l1, l2, l3, I =>
    if (I (o + 1) 0) ≤ l3 then (
      some l2)
    else (
      am_b1 (f_X7_of o l3 l1 I) fun r2 =>
      am_let (l2 + r2) fun x3 =>
      f_X7_sumOf_h4 o n l1 x3 (l3 + 1) I)
set_option maxRecDepth 100000 in
set_option maxHeartbeats 4000000 in
theorem ab_X7_sumOf_h4 {K : aK} {sh : aS} {P : aP} {I : aI} {J : aJ} {o : Nat} (X : am_C K cX7_sumOf 4 RX7 "sumOf" ({ frames := 1, cells := 0, slots := 0, locals := 22 } : Room)) (hL : L7 sh P o) {r : Int32} (hR : am_R K (some .int) (some (.int r)) sh P I J 0 0) : ∀ (n : Nat) (l1 : Int32) (l2 : Int32) (l3 : Int32) , f_X7_sumOf_h4 o n l1 l2 l3 I = some r → AW K 4 4 [(0, .ref o), (1, .int l1), (2, .int l2), (3, .int l3)] [] sh P I J 0 0 := by
  intro n
  induction n with
  | zero =>
    intro l1 l2 l3 hf
    cases hf
  | succ n ih =>
    intro l1 l2 l3 hf
    rw [f_X7_sumOf_h4] at hf
    refine ar_iload_n X dX7_sumOf_4 rfl 3 rfl ?_
    refine ar_aload_n X dX7_sumOf_5 rfl 0 rfl ?_
    refine ar_getr X dX7_sumOf_6 fg_X7_7 rfl (L7_s0 hL) (L7_p0_0 hL) ?_
    refine ar_iconst (v := 0) X dX7_sumOf_9 (by decide) ?_
    refine ar_ialdK (k := 0) X dX7_sumOf_10 (L7_s1 hL) (by decide) (by decide) ?_
    refine ar_icmp_ge (tgt := 29) X dX7_sumOf_11 (by decide) hf (fun h1 hf => ?_) (fun h1 hf => ?_)
    · refine ar_iload_n X dX7_sumOf_29 rfl 2 rfl ?_
      cases hf
      exact ar_iret X dX7_sumOf_30 hR (Nat.le_refl _) (Nat.le_refl _)
    · refine ar_iload_n X dX7_sumOf_14 rfl 2 rfl ?_
      refine ar_aload_n X dX7_sumOf_15 rfl 0 rfl ?_
      refine ar_iload_n X dX7_sumOf_16 rfl 3 rfl ?_
      refine ar_iload_n X dX7_sumOf_17 rfl 1 rfl ?_
      obtain ⟨r2, h2, hf⟩ := am_b1_e hf
      refine ar_cVi (As := [.int l3, .int l1]) (st := [.int l2]) X dX7_sumOf_18 (am_X7_of hL h2) lk_X7_70 mt_X7_of mi_X7_of (L7_s0 hL) rfl rfl (Nat.le_of_ble_eq_true rfl) ⟨by decide, by decide⟩ ⟨Nat.zero_le _, Nat.zero_le _⟩ rfl ?_
      refine ar_iadd X dX7_sumOf_21 ?_
      refine ar_letI hf (fun x3 hf => ?_)
      refine ar_istore_n X dX7_sumOf_22 rfl (by decide) rfl ?_
      refine ar_iinc (j := 3) (v := (l3 + 1)) X dX7_sumOf_23 rfl rfl (by decide) rfl ?_
      refine ar_goto (tgt := 4) X dX7_sumOf_26 (by decide) ?_
      refine ar_lo [2, 3, 1, 0] rfl ?_
      exact ih l1 x3 (l3 + 1) hf
def f_X7_sumOf (o : Nat) (a1 : Int32) (I : aI) : Option Int32 :=
  f_X7_sumOf_h4 o am_F a1 (0 : Int32) (0 : Int32) I
set_option maxRecDepth 100000 in
set_option maxHeartbeats 4000000 in
theorem am_X7_sumOf {sh : aS} {P : aP} {I : aI} {J : aJ} {o : Nat} (hL : L7 sh P o) {a1 : Int32} {r : Int32} (hf : f_X7_sumOf o a1 I = some r) : AM yX7_sumOf cX7_sumOf 4 (some .int) 1 22 [.ref o, .int a1] sh P I J (some (.int r)) sh P I J 0 0 := by
  refine am_met (by decide +kernel) (Nat.le_of_ble_eq_true rfl) (fun K X hR => ?_)
  have X : am_C K cX7_sumOf 4 RX7 "sumOf" ({ frames := 1, cells := 0, slots := 0, locals := 22 } : Room) := X
  show AW K 4 0 [(0, .ref o), (1, .int a1)] [] sh P I J 0 0
  unfold f_X7_sumOf at hf
  refine ar_iconst (v := 0) X dX7_sumOf_0 (by decide) ?_
  refine ar_istore_n X dX7_sumOf_1 rfl (by decide) rfl ?_
  refine ar_iconst (v := 0) X dX7_sumOf_2 (by decide) ?_
  refine ar_istore_n X dX7_sumOf_3 rfl (by decide) rfl ?_
  refine ar_lo [2, 3, 1, 0] rfl ?_
  exact ab_X7_sumOf_h4 X hL hR am_F a1 (0 : Int32) (0 : Int32) hf
def f_X7_average_h24 (o : Nat) : Nat → Int32 → Int32 → Int64 → Int64 → Int32 → aI → aJ → Option (Int32 × aJ)
  | 0, _, _, _, _, _, _, _ => none
  | n + 1, l1, l2, l3, l5, l7, I, J =>
    am_b1 (f_X7_of o l1 (4 : Int32) I) fun r1 =>
    if r1 < l7 then (
      am_g (decide (¬ l3 = 0)) (
      some ((Int64.toInt32 (l5 / l3)), J)))
    else (
      if l2 < l7 then (
        am_g (decide (¬ l3 = 0)) (
        some ((Int64.toInt32 (l5 / l3)), J)))
      else (
        am_g (am_ok (l2 - l7) 1801) (
        am_let (l3 + (J (o + 7) (Int32.toNatClampNeg (l2 - l7)))) fun x6 =>
        am_g (am_ok (l2 - l7) 1801) (
        am_let (l5 + ((Int32.toInt64 l7) * (J (o + 7) (Int32.toNatClampNeg (l2 - l7))))) fun x7 =>
        f_X7_average_h24 o n l1 l2 x6 x7 (l7 + 1) I J))))
set_option maxRecDepth 100000 in
set_option maxHeartbeats 4000000 in
theorem ab_X7_average_h24 {K : aK} {sh : aS} {P : aP} {I : aI} {o : Nat} (X : am_C K cX7_average 8 RX7 "average" ({ frames := 2, cells := 0, slots := 0, locals := 47 } : Room)) (hL : L7 sh P o) {r : Int32} {J9 : aJ} (hR : am_R K (some .int) (some (.int r)) sh P I J9 0 0) : ∀ (n : Nat) (l1 : Int32) (l2 : Int32) (l3 : Int64) (l5 : Int64) (l7 : Int32) (J : aJ) , f_X7_average_h24 o n l1 l2 l3 l5 l7 I J = some (r, J9) → AW K 8 24 [(0, .ref o), (1, .int l1), (2, .int l2), (3, .long l3), (5, .long l5), (7, .int l7)] [] sh P I J 0 0 := by
  intro n
  induction n with
  | zero =>
    intro l1 l2 l3 l5 l7 J hf
    cases hf
  | succ n ih =>
    intro l1 l2 l3 l5 l7 J hf
    rw [f_X7_average_h24] at hf
    refine ar_iload X dX7_average_24 5 rfl ?_
    refine ar_aload_n X dX7_average_26 rfl 0 rfl ?_
    refine ar_iload_n X dX7_average_27 rfl 1 rfl ?_
    refine ar_iconst (v := 4) X dX7_average_28 (by decide) ?_
    obtain ⟨r1, h1, hf⟩ := am_b1_e hf
    refine ar_cVi (As := [.int l1, .int (4 : Int32)]) (st := [.int l7]) X dX7_average_29 (am_X7_of hL h1) lk_X7_70 mt_X7_of mi_X7_of (L7_s0 hL) rfl rfl (Nat.le_of_ble_eq_true rfl) ⟨by decide, by decide⟩ ⟨Nat.zero_le _, Nat.zero_le _⟩ rfl ?_
    refine ar_icmp_gt (tgt := 77) X dX7_average_32 (by decide) hf (fun h2 hf => ?_) (fun h2 hf => ?_)
    · refine ar_lload X dX7_average_77 4 rfl ?_
      refine ar_lload_n X dX7_average_79 rfl 3 rfl ?_
      obtain ⟨h3, hf⟩ := am_g_elim hf
      refine ar_ldiv X dX7_average_80 h3 ?_
      refine ar_l2i X dX7_average_81 ?_
      cases hf
      exact ar_iret X dX7_average_82 hR (Nat.le_refl _) (Nat.le_refl _)
    · refine ar_iload X dX7_average_35 5 rfl ?_
      refine ar_iload_n X dX7_average_37 rfl 2 rfl ?_
      refine ar_icmp_gt (tgt := 77) X dX7_average_38 (by decide) hf (fun h4 hf => ?_) (fun h4 hf => ?_)
      · refine ar_lload X dX7_average_77 4 rfl ?_
        refine ar_lload_n X dX7_average_79 rfl 3 rfl ?_
        obtain ⟨h5, hf⟩ := am_g_elim hf
        refine ar_ldiv X dX7_average_80 h5 ?_
        refine ar_l2i X dX7_average_81 ?_
        cases hf
        exact ar_iret X dX7_average_82 hR (Nat.le_refl _) (Nat.le_refl _)
      · refine ar_lload_n X dX7_average_41 rfl 3 rfl ?_
        refine ar_aload_n X dX7_average_42 rfl 0 rfl ?_
        refine ar_getr X dX7_average_43 fg_X7_29 rfl (L7_s0 hL) (L7_p0_7 hL) ?_
        refine ar_iload_n X dX7_average_46 rfl 2 rfl ?_
        refine ar_iload X dX7_average_47 5 rfl ?_
        refine ar_isub X dX7_average_49 ?_
        refine ar_lald X dX7_average_50 (L7_s7 hL) hf (fun hf => ?_)
        refine ar_ladd X dX7_average_51 ?_
        refine ar_letL hf (fun x6 hf => ?_)
        refine ar_lstore_n X dX7_average_52 rfl (by decide) rfl ?_
        refine ar_lload X dX7_average_53 4 rfl ?_
        refine ar_iload X dX7_average_55 5 rfl ?_
        refine ar_i2l X dX7_average_57 ?_
        refine ar_aload_n X dX7_average_58 rfl 1 rfl ?_
        refine ar_getr X dX7_average_59 fg_X7_29 rfl (L7_s0 hL) (L7_p0_7 hL) ?_
        refine ar_iload_n X dX7_average_62 rfl 3 rfl ?_
        refine ar_iload X dX7_average_63 5 rfl ?_
        refine ar_isub X dX7_average_65 ?_
        refine ar_lald X dX7_average_66 (L7_s7 hL) hf (fun hf => ?_)
        refine ar_lmul X dX7_average_67 ?_
        refine ar_ladd X dX7_average_68 ?_
        refine ar_letL hf (fun x7 hf => ?_)
        refine ar_lstore X dX7_average_69 (by decide) rfl ?_
        refine ar_iinc (j := 5) (v := (l7 + 1)) X dX7_average_71 rfl rfl (by decide) rfl ?_
        refine ar_goto (tgt := 24) X dX7_average_74 (by decide) ?_
        refine ar_lo [3, 4, 5, 2, 1, 0] rfl ?_
        exact ih l1 l2 x6 x7 (l7 + 1) J hf
def f_X7_average (o : Nat) (a1 : Int32) (I : aI) (J : aJ) : Option (Int32 × aJ) :=
  am_b1 (f_X7_layWays o a1 I J) fun J1 =>
  am_b1 (f_X7_sumOf o (0 : Int32) I) fun r2 =>
  am_b1 (f_X7_of o a1 (3 : Int32) I) fun r3 =>
  f_X7_average_h24 o am_F a1 r2 (0 : Int64) (0 : Int64) r3 I J1
set_option maxRecDepth 100000 in
set_option maxHeartbeats 4000000 in
theorem am_X7_average {sh : aS} {P : aP} {I : aI} {J : aJ} {o : Nat} (hL : L7 sh P o) {a1 : Int32} {r : Int32} {J9 : aJ} (hf : f_X7_average o a1 I J = some (r, J9)) : AM yX7_average cX7_average 8 (some .int) 2 47 [.ref o, .int a1] sh P I J (some (.int r)) sh P I J9 0 0 := by
  refine am_met (by decide +kernel) (Nat.le_of_ble_eq_true rfl) (fun K X hR => ?_)
  have X : am_C K cX7_average 8 RX7 "average" ({ frames := 2, cells := 0, slots := 0, locals := 47 } : Room) := X
  show AW K 8 0 [(0, .ref o), (1, .int a1)] [] sh P I J 0 0
  unfold f_X7_average at hf
  refine ar_aload_n X dX7_average_0 rfl 0 rfl ?_
  refine ar_iload_n X dX7_average_1 rfl 1 rfl ?_
  obtain ⟨J1, h1, hf⟩ := am_b1_e hf
  refine ar_cVv (As := [.int a1]) (st := []) X dX7_average_2 (am_X7_layWays hL h1) lk_X7_185 mt_X7_layWays mi_X7_layWays (L7_s0 hL) rfl rfl (Nat.le_of_ble_eq_true rfl) ⟨by decide, by decide⟩ ⟨Nat.zero_le _, Nat.zero_le _⟩ rfl ?_
  refine ar_aload_n X dX7_average_5 rfl 0 rfl ?_
  refine ar_iconst (v := 0) X dX7_average_6 (by decide) ?_
  obtain ⟨r2, h2, hf⟩ := am_b1_e hf
  refine ar_cVi (As := [.int (0 : Int32)]) (st := []) X dX7_average_7 (am_X7_sumOf hL h2) lk_X7_175 mt_X7_sumOf mi_X7_sumOf (L7_s0 hL) rfl rfl (Nat.le_of_ble_eq_true rfl) ⟨by decide, by decide⟩ ⟨Nat.zero_le _, Nat.zero_le _⟩ rfl ?_
  refine ar_istore_n X dX7_average_10 rfl (by decide) rfl ?_
  refine ar_lconst (v := 0) X dX7_average_11 (by decide) ?_
  refine ar_lstore_n X dX7_average_12 rfl (by decide) rfl ?_
  refine ar_lconst (v := 0) X dX7_average_13 (by decide) ?_
  refine ar_lstore X dX7_average_14 (by decide) rfl ?_
  refine ar_aload_n X dX7_average_16 rfl 3 rfl ?_
  refine ar_iload_n X dX7_average_17 rfl 4 rfl ?_
  refine ar_iconst (v := 3) X dX7_average_18 (by decide) ?_
  obtain ⟨r3, h3, hf⟩ := am_b1_e hf
  refine ar_cVi (As := [.int a1, .int (3 : Int32)]) (st := []) X dX7_average_19 (am_X7_of hL h3) lk_X7_70 mt_X7_of mi_X7_of (L7_s0 hL) rfl rfl (Nat.le_of_ble_eq_true rfl) ⟨by decide, by decide⟩ ⟨Nat.zero_le _, Nat.zero_le _⟩ rfl ?_
  refine ar_istore X dX7_average_22 (by decide) rfl ?_
  refine ar_lo [4, 5, 3, 2, 1, 0] rfl ?_
  exact ab_X7_average_h24 X hL hR am_F a1 r2 (0 : Int64) (0 : Int64) r3 J1 hf
def f_X7_nextLot (o : Nat)  (I : aI) : Option Int32 :=
  if (I (o + 1) 1) ≤ (I (o + 1) 2) then (
    some (-6 : Int32))
  else (
    some (I (o + 1) 2))
set_option maxRecDepth 100000 in
set_option maxHeartbeats 4000000 in
theorem am_X7_nextLot {sh : aS} {P : aP} {I : aI} {J : aJ} {o : Nat} (hL : L7 sh P o)  {r : Int32} (hf : f_X7_nextLot o I = some r) : AM yX7_nextLot cX7_nextLot 1 (some .int) 0 0 [.ref o] sh P I J (some (.int r)) sh P I J 0 0 := by
  refine am_met (by decide +kernel) (Nat.le_of_ble_eq_true rfl) (fun K X hR => ?_)
  have X : am_C K cX7_nextLot 1 RX7 "nextLot" ({ frames := 0, cells := 0, slots := 0, locals := 0 } : Room) := X
  show AW K 1 0 [(0, .ref o)] [] sh P I J 0 0
  unfold f_X7_nextLot at hf
  refine ar_aload_n X dX7_nextLot_0 rfl 0 rfl ?_
  refine ar_getr X dX7_nextLot_1 fg_X7_7 rfl (L7_s0 hL) (L7_p0_0 hL) ?_
  refine ar_iconst (v := 2) X dX7_nextLot_4 (by decide) ?_
  refine ar_ialdK (k := 2) X dX7_nextLot_5 (L7_s1 hL) (by decide) (by decide) ?_
  refine ar_aload_n X dX7_nextLot_6 rfl 0 rfl ?_
  refine ar_getr X dX7_nextLot_7 fg_X7_7 rfl (L7_s0 hL) (L7_p0_0 hL) ?_
  refine ar_iconst (v := 1) X dX7_nextLot_10 (by decide) ?_
  refine ar_ialdK (k := 1) X dX7_nextLot_11 (L7_s1 hL) (by decide) (by decide) ?_
  refine ar_icmp_ge (tgt := 24) X dX7_nextLot_12 (by decide) hf (fun h1 hf => ?_) (fun h1 hf => ?_)
  · refine ar_bipush (v := -6) X dX7_nextLot_24 (by decide) ?_
    cases hf
    exact ar_iret X dX7_nextLot_26 hR (Nat.le_refl _) (Nat.le_refl _)
  · refine ar_aload_n X dX7_nextLot_15 rfl 0 rfl ?_
    refine ar_getr X dX7_nextLot_16 fg_X7_7 rfl (L7_s0 hL) (L7_p0_0 hL) ?_
    refine ar_iconst (v := 2) X dX7_nextLot_19 (by decide) ?_
    refine ar_ialdK (k := 2) X dX7_nextLot_20 (L7_s1 hL) (by decide) (by decide) ?_
    refine ar_goto (tgt := 26) X dX7_nextLot_21 (by decide) ?_
    cases hf
    exact ar_iret X dX7_nextLot_26 hR (Nat.le_refl _) (Nat.le_refl _)
def f_X7_isLastNext (o : Nat)  (I : aI) : Option Int32 :=
  if (I (o + 1) 1) ≤ 0 then (
    some (0 : Int32))
  else (
    if (I (o + 1) 2) = ((I (o + 1) 1) - (1 : Int32)) then (
      some (1 : Int32))
    else (
      some (0 : Int32)))
set_option maxRecDepth 100000 in
set_option maxHeartbeats 4000000 in
theorem am_X7_isLastNext {sh : aS} {P : aP} {I : aI} {J : aJ} {o : Nat} (hL : L7 sh P o)  {r : Int32} (hf : f_X7_isLastNext o I = some r) : AM yX7_isLastNext cX7_isLastNext 1 (some .boolean) 0 0 [.ref o] sh P I J (some (.int r)) sh P I J 0 0 := by
  refine am_met (by decide +kernel) (Nat.le_of_ble_eq_true rfl) (fun K X hR => ?_)
  have X : am_C K cX7_isLastNext 1 RX7 "isLastNext" ({ frames := 0, cells := 0, slots := 0, locals := 0 } : Room) := X
  show AW K 1 0 [(0, .ref o)] [] sh P I J 0 0
  unfold f_X7_isLastNext at hf
  refine ar_aload_n X dX7_isLastNext_0 rfl 0 rfl ?_
  refine ar_getr X dX7_isLastNext_1 fg_X7_7 rfl (L7_s0 hL) (L7_p0_0 hL) ?_
  refine ar_iconst (v := 1) X dX7_isLastNext_4 (by decide) ?_
  refine ar_ialdK (k := 1) X dX7_isLastNext_5 (L7_s1 hL) (by decide) (by decide) ?_
  refine ar_if_le (tgt := 30) X dX7_isLastNext_6 (by decide) hf (fun h1 hf => ?_) (fun h1 hf => ?_)
  · refine ar_iconst (v := 0) X dX7_isLastNext_30 (by decide) ?_
    cases hf
    exact ar_zret X dX7_isLastNext_31 rfl hR (Nat.le_refl _) (Nat.le_refl _)
  · refine ar_aload_n X dX7_isLastNext_9 rfl 0 rfl ?_
    refine ar_getr X dX7_isLastNext_10 fg_X7_7 rfl (L7_s0 hL) (L7_p0_0 hL) ?_
    refine ar_iconst (v := 2) X dX7_isLastNext_13 (by decide) ?_
    refine ar_ialdK (k := 2) X dX7_isLastNext_14 (L7_s1 hL) (by decide) (by decide) ?_
    refine ar_aload_n X dX7_isLastNext_15 rfl 0 rfl ?_
    refine ar_getr X dX7_isLastNext_16 fg_X7_7 rfl (L7_s0 hL) (L7_p0_0 hL) ?_
    refine ar_iconst (v := 1) X dX7_isLastNext_19 (by decide) ?_
    refine ar_ialdK (k := 1) X dX7_isLastNext_20 (L7_s1 hL) (by decide) (by decide) ?_
    refine ar_iconst (v := 1) X dX7_isLastNext_21 (by decide) ?_
    refine ar_isub X dX7_isLastNext_22 ?_
    refine ar_icmp_ne (tgt := 30) X dX7_isLastNext_23 (by decide) hf (fun h2 hf => ?_) (fun h2 hf => ?_)
    · refine ar_iconst (v := 1) X dX7_isLastNext_26 (by decide) ?_
      refine ar_goto (tgt := 31) X dX7_isLastNext_27 (by decide) ?_
      cases hf
      exact ar_zret X dX7_isLastNext_31 rfl hR (Nat.le_refl _) (Nat.le_refl _)
    · refine ar_iconst (v := 0) X dX7_isLastNext_30 (by decide) ?_
      cases hf
      exact ar_zret X dX7_isLastNext_31 rfl hR (Nat.le_refl _) (Nat.le_refl _)
def f_X7_clearAuction_h60 (o : Nat) : Nat → Int32 → aI → Option aI
  | 0, _, _ => none
  | n + 1, l1, I =>
    if (6 : Int32) ≤ l1 then (
      some I)
    else (
      am_b1 (f_X7_lay o l1 (5 : Int32) (-6 : Int32) I) fun I2 =>
      am_b1 (f_X7_lay o l1 (6 : Int32) (0 : Int32) I2) fun I3 =>
      f_X7_clearAuction_h60 o n (l1 + 1) I3)
set_option maxRecDepth 100000 in
set_option maxHeartbeats 4000000 in
theorem ab_X7_clearAuction_h60 {K : aK} {sh : aS} {P : aP} {J : aJ} {o : Nat} (X : am_C K cX7_clearAuction 2 RX7 "clearAuction" ({ frames := 1, cells := 0, slots := 0, locals := 23 } : Room)) (hL : L7 sh P o) {I9 : aI} (hR : am_R K none none sh P I9 J 0 0) : ∀ (n : Nat) (l1 : Int32) (I : aI) , f_X7_clearAuction_h60 o n l1 I = some I9 → AW K 2 60 [(0, .ref o), (1, .int l1)] [] sh P I J 0 0 := by
  intro n
  induction n with
  | zero =>
    intro l1 I hf
    cases hf
  | succ n ih =>
    intro l1 I hf
    rw [f_X7_clearAuction_h60] at hf
    refine ar_iload_n X dX7_clearAuction_60 rfl 1 rfl ?_
    refine ar_bipush (v := 6) X dX7_clearAuction_61 (by decide) ?_
    refine ar_icmp_ge (tgt := 88) X dX7_clearAuction_63 (by decide) hf (fun h1 hf => ?_) (fun h1 hf => ?_)
    · cases hf
      exact ar_vret X dX7_clearAuction_88 hR (Nat.le_refl _) (Nat.le_refl _)
    · refine ar_aload_n X dX7_clearAuction_66 rfl 0 rfl ?_
      refine ar_iload_n X dX7_clearAuction_67 rfl 1 rfl ?_
      refine ar_iconst (v := 5) X dX7_clearAuction_68 (by decide) ?_
      refine ar_bipush (v := -6) X dX7_clearAuction_69 (by decide) ?_
      obtain ⟨I2, h2, hf⟩ := am_b1_e hf
      refine ar_cVv (As := [.int l1, .int (5 : Int32), .int (-6 : Int32)]) (st := []) X dX7_clearAuction_71 (am_X7_lay hL h2) lk_X7_47 mt_X7_lay mi_X7_lay (L7_s0 hL) rfl rfl (Nat.le_of_ble_eq_true rfl) ⟨by decide, by decide⟩ ⟨Nat.zero_le _, Nat.zero_le _⟩ rfl ?_
      refine ar_aload_n X dX7_clearAuction_74 rfl 0 rfl ?_
      refine ar_iload_n X dX7_clearAuction_75 rfl 1 rfl ?_
      refine ar_bipush (v := 6) X dX7_clearAuction_76 (by decide) ?_
      refine ar_iconst (v := 0) X dX7_clearAuction_78 (by decide) ?_
      obtain ⟨I3, h3, hf⟩ := am_b1_e hf
      refine ar_cVv (As := [.int l1, .int (6 : Int32), .int (0 : Int32)]) (st := []) X dX7_clearAuction_79 (am_X7_lay hL h3) lk_X7_47 mt_X7_lay mi_X7_lay (L7_s0 hL) rfl rfl (Nat.le_of_ble_eq_true rfl) ⟨by decide, by decide⟩ ⟨Nat.zero_le _, Nat.zero_le _⟩ rfl ?_
      refine ar_iinc (j := 1) (v := (l1 + 1)) X dX7_clearAuction_82 rfl rfl (by decide) rfl ?_
      refine ar_goto (tgt := 60) X dX7_clearAuction_85 (by decide) ?_
      refine ar_lo [1, 0] rfl ?_
      exact ih (l1 + 1) I3 hf
def f_X7_clearAuction (o : Nat)  (I : aI) : Option aI :=
  am_let (am_w I (o + 1) 3 (0 : Int32)) fun I1 =>
  am_let (am_w I1 (o + 1) 4 (-6 : Int32)) fun I2 =>
  am_let (am_w I2 (o + 1) 5 (-6 : Int32)) fun I3 =>
  am_let (am_w I3 (o + 1) 6 (-6 : Int32)) fun I4 =>
  am_let (am_w I4 (o + 1) 7 (-6 : Int32)) fun I5 =>
  am_let (am_w I5 (o + 1) 8 (-6 : Int32)) fun I6 =>
  am_let (am_w I6 (o + 1) 9 (0 : Int32)) fun I7 =>
  f_X7_clearAuction_h60 o am_F (0 : Int32) I7
set_option maxRecDepth 100000 in
set_option maxHeartbeats 4000000 in
theorem am_X7_clearAuction {sh : aS} {P : aP} {I : aI} {J : aJ} {o : Nat} (hL : L7 sh P o)  {I9 : aI} (hf : f_X7_clearAuction o I = some I9) : AM yX7_clearAuction cX7_clearAuction 2 none 1 23 [.ref o] sh P I J none sh P I9 J 0 0 := by
  refine am_met (by decide +kernel) (Nat.le_of_ble_eq_true rfl) (fun K X hR => ?_)
  have X : am_C K cX7_clearAuction 2 RX7 "clearAuction" ({ frames := 1, cells := 0, slots := 0, locals := 23 } : Room) := X
  show AW K 2 0 [(0, .ref o)] [] sh P I J 0 0
  unfold f_X7_clearAuction at hf
  refine ar_aload_n X dX7_clearAuction_0 rfl 0 rfl ?_
  refine ar_getr X dX7_clearAuction_1 fg_X7_7 rfl (L7_s0 hL) (L7_p0_0 hL) ?_
  refine ar_iconst (v := 3) X dX7_clearAuction_4 (by decide) ?_
  refine ar_iconst (v := 0) X dX7_clearAuction_5 (by decide) ?_
  refine ar_iastK (k := 3) X dX7_clearAuction_6 (L7_s1 hL) (by decide) (by decide) hf (fun I1 hf => ?_)
  refine ar_aload_n X dX7_clearAuction_7 rfl 0 rfl ?_
  refine ar_getr X dX7_clearAuction_8 fg_X7_7 rfl (L7_s0 hL) (L7_p0_0 hL) ?_
  refine ar_iconst (v := 4) X dX7_clearAuction_11 (by decide) ?_
  refine ar_bipush (v := -6) X dX7_clearAuction_12 (by decide) ?_
  refine ar_iastK (k := 4) X dX7_clearAuction_14 (L7_s1 hL) (by decide) (by decide) hf (fun I2 hf => ?_)
  refine ar_aload_n X dX7_clearAuction_15 rfl 0 rfl ?_
  refine ar_getr X dX7_clearAuction_16 fg_X7_7 rfl (L7_s0 hL) (L7_p0_0 hL) ?_
  refine ar_iconst (v := 5) X dX7_clearAuction_19 (by decide) ?_
  refine ar_bipush (v := -6) X dX7_clearAuction_20 (by decide) ?_
  refine ar_iastK (k := 5) X dX7_clearAuction_22 (L7_s1 hL) (by decide) (by decide) hf (fun I3 hf => ?_)
  refine ar_aload_n X dX7_clearAuction_23 rfl 0 rfl ?_
  refine ar_getr X dX7_clearAuction_24 fg_X7_7 rfl (L7_s0 hL) (L7_p0_0 hL) ?_
  refine ar_bipush (v := 6) X dX7_clearAuction_27 (by decide) ?_
  refine ar_bipush (v := -6) X dX7_clearAuction_29 (by decide) ?_
  refine ar_iastK (k := 6) X dX7_clearAuction_31 (L7_s1 hL) (by decide) (by decide) hf (fun I4 hf => ?_)
  refine ar_aload_n X dX7_clearAuction_32 rfl 0 rfl ?_
  refine ar_getr X dX7_clearAuction_33 fg_X7_7 rfl (L7_s0 hL) (L7_p0_0 hL) ?_
  refine ar_bipush (v := 7) X dX7_clearAuction_36 (by decide) ?_
  refine ar_bipush (v := -6) X dX7_clearAuction_38 (by decide) ?_
  refine ar_iastK (k := 7) X dX7_clearAuction_40 (L7_s1 hL) (by decide) (by decide) hf (fun I5 hf => ?_)
  refine ar_aload_n X dX7_clearAuction_41 rfl 0 rfl ?_
  refine ar_getr X dX7_clearAuction_42 fg_X7_7 rfl (L7_s0 hL) (L7_p0_0 hL) ?_
  refine ar_bipush (v := 8) X dX7_clearAuction_45 (by decide) ?_
  refine ar_bipush (v := -6) X dX7_clearAuction_47 (by decide) ?_
  refine ar_iastK (k := 8) X dX7_clearAuction_49 (L7_s1 hL) (by decide) (by decide) hf (fun I6 hf => ?_)
  refine ar_aload_n X dX7_clearAuction_50 rfl 0 rfl ?_
  refine ar_getr X dX7_clearAuction_51 fg_X7_7 rfl (L7_s0 hL) (L7_p0_0 hL) ?_
  refine ar_bipush (v := 9) X dX7_clearAuction_54 (by decide) ?_
  refine ar_iconst (v := 0) X dX7_clearAuction_56 (by decide) ?_
  refine ar_iastK (k := 9) X dX7_clearAuction_57 (L7_s1 hL) (by decide) (by decide) hf (fun I7 hf => ?_)
  refine ar_iconst (v := 0) X dX7_clearAuction_58 (by decide) ?_
  refine ar_istore_n X dX7_clearAuction_59 rfl (by decide) rfl ?_
  refine ar_lo [1, 0] rfl ?_
  exact ab_X7_clearAuction_h60 X hL hR am_F (0 : Int32) I7 hf
def f_X7_starter (o : Nat)  (I : aI) : Option Int32 :=
  am_g (decide (¬ (I (o + 1) 0) = 0)) (
  some (am_rem (I (o + 1) 2) (I (o + 1) 0)))
set_option maxRecDepth 100000 in
set_option maxHeartbeats 4000000 in
theorem am_X7_starter {sh : aS} {P : aP} {I : aI} {J : aJ} {o : Nat} (hL : L7 sh P o)  {r : Int32} (hf : f_X7_starter o I = some r) : AM yX7_starter cX7_starter 1 (some .int) 0 0 [.ref o] sh P I J (some (.int r)) sh P I J 0 0 := by
  refine am_met (by decide +kernel) (Nat.le_of_ble_eq_true rfl) (fun K X hR => ?_)
  have X : am_C K cX7_starter 1 RX7 "starter" ({ frames := 0, cells := 0, slots := 0, locals := 0 } : Room) := X
  show AW K 1 0 [(0, .ref o)] [] sh P I J 0 0
  unfold f_X7_starter at hf
  refine ar_aload_n X dX7_starter_0 rfl 0 rfl ?_
  refine ar_getr X dX7_starter_1 fg_X7_7 rfl (L7_s0 hL) (L7_p0_0 hL) ?_
  refine ar_iconst (v := 2) X dX7_starter_4 (by decide) ?_
  refine ar_ialdK (k := 2) X dX7_starter_5 (L7_s1 hL) (by decide) (by decide) ?_
  refine ar_aload_n X dX7_starter_6 rfl 0 rfl ?_
  refine ar_getr X dX7_starter_7 fg_X7_7 rfl (L7_s0 hL) (L7_p0_0 hL) ?_
  refine ar_iconst (v := 0) X dX7_starter_10 (by decide) ?_
  refine ar_ialdK (k := 0) X dX7_starter_11 (L7_s1 hL) (by decide) (by decide) ?_
  obtain ⟨h1, hf⟩ := am_g_elim hf
  refine ar_irem X dX7_starter_12 h1 ?_
  cases hf
  exact ar_iret X dX7_starter_13 hR (Nat.le_refl _) (Nat.le_refl _)
def f_X7_start (o : Nat) (a1 : Int32) (a2 : Int32) (I : aI) : Option (Int32 × aI) :=
  am_b1 (f_X7_clearAuction o I) fun I1 =>
  am_let (am_w I1 (o + 1) 3 (1 : Int32)) fun I2 =>
  am_let (am_w I2 (o + 1) 4 a1) fun I3 =>
  am_let (am_w I3 (o + 1) 5 a2) fun I4 =>
  if a1 = 0 then (
    am_b1 (f_X7_starter o I4) fun r6 =>
    am_let (am_w I4 (o + 1) 8 r6) fun I7 =>
    am_b1 (f_X7_nextLot o I7) fun r8 =>
    some (r8, I7))
  else (
    am_let (am_w I4 (o + 1) 8 (-6 : Int32)) fun I9 =>
    am_b1 (f_X7_nextLot o I9) fun r10 =>
    some (r10, I9))
set_option maxRecDepth 100000 in
set_option maxHeartbeats 4000000 in
theorem am_X7_start {sh : aS} {P : aP} {I : aI} {J : aJ} {o : Nat} (hL : L7 sh P o) {a1 : Int32} {a2 : Int32} {r : Int32} {I9 : aI} (hf : f_X7_start o a1 a2 I = some (r, I9)) : AM yX7_start cX7_start 3 (some .int) 2 44 [.ref o, .int a1, .int a2] sh P I J (some (.int r)) sh P I9 J 0 0 := by
  refine am_met (by decide +kernel) (Nat.le_of_ble_eq_true rfl) (fun K X hR => ?_)
  have X : am_C K cX7_start 3 RX7 "start" ({ frames := 2, cells := 0, slots := 0, locals := 44 } : Room) := X
  show AW K 3 0 [(0, .ref o), (1, .int a1), (2, .int a2)] [] sh P I J 0 0
  unfold f_X7_start at hf
  refine ar_aload_n X dX7_start_0 rfl 0 rfl ?_
  obtain ⟨I1, h1, hf⟩ := am_b1_e hf
  refine ar_cVv (As := []) (st := []) X dX7_start_1 (am_X7_clearAuction hL h1) lk_X7_55 mt_X7_clearAuction mi_X7_clearAuction (L7_s0 hL) rfl rfl (Nat.le_of_ble_eq_true rfl) ⟨by decide, by decide⟩ ⟨Nat.zero_le _, Nat.zero_le _⟩ rfl ?_
  refine ar_aload_n X dX7_start_4 rfl 0 rfl ?_
  refine ar_getr X dX7_start_5 fg_X7_7 rfl (L7_s0 hL) (L7_p0_0 hL) ?_
  refine ar_iconst (v := 3) X dX7_start_8 (by decide) ?_
  refine ar_iconst (v := 1) X dX7_start_9 (by decide) ?_
  refine ar_iastK (k := 3) X dX7_start_10 (L7_s1 hL) (by decide) (by decide) hf (fun I2 hf => ?_)
  refine ar_aload_n X dX7_start_11 rfl 0 rfl ?_
  refine ar_getr X dX7_start_12 fg_X7_7 rfl (L7_s0 hL) (L7_p0_0 hL) ?_
  refine ar_iconst (v := 4) X dX7_start_15 (by decide) ?_
  refine ar_iload_n X dX7_start_16 rfl 1 rfl ?_
  refine ar_iastK (k := 4) X dX7_start_17 (L7_s1 hL) (by decide) (by decide) hf (fun I3 hf => ?_)
  refine ar_aload_n X dX7_start_18 rfl 0 rfl ?_
  refine ar_getr X dX7_start_19 fg_X7_7 rfl (L7_s0 hL) (L7_p0_0 hL) ?_
  refine ar_iconst (v := 5) X dX7_start_22 (by decide) ?_
  refine ar_iload_n X dX7_start_23 rfl 2 rfl ?_
  refine ar_iastK (k := 5) X dX7_start_24 (L7_s1 hL) (by decide) (by decide) hf (fun I4 hf => ?_)
  refine ar_aload_n X dX7_start_25 rfl 0 rfl ?_
  refine ar_getr X dX7_start_26 fg_X7_7 rfl (L7_s0 hL) (L7_p0_0 hL) ?_
  refine ar_bipush (v := 8) X dX7_start_29 (by decide) ?_
  refine ar_iload_n X dX7_start_31 rfl 1 rfl ?_
  refine ar_if_ne (tgt := 42) X dX7_start_32 (by decide) hf (fun h5 hf => ?_) (fun h5 hf => ?_)
  · refine ar_aload_n X dX7_start_35 rfl 0 rfl ?_
    obtain ⟨r6, h6, hf⟩ := am_b1_e hf
    refine ar_cVi (As := []) (st := [.int (8 : Int32), .ref (o + 1)]) X dX7_start_36 (am_X7_starter hL h6) lk_X7_93 mt_X7_starter mi_X7_starter (L7_s0 hL) rfl rfl (Nat.le_of_ble_eq_true rfl) ⟨by decide, by decide⟩ ⟨Nat.zero_le _, Nat.zero_le _⟩ rfl ?_
    refine ar_goto (tgt := 44) X dX7_start_39 (by decide) ?_
    refine ar_iastK (k := 8) X dX7_start_44 (L7_s1 hL) (by decide) (by decide) hf (fun I7 hf => ?_)
    refine ar_aload_n X dX7_start_45 rfl 0 rfl ?_
    obtain ⟨r8, h8, hf⟩ := am_b1_e hf
    refine ar_cVi (As := []) (st := []) X dX7_start_46 (am_X7_nextLot hL h8) lk_X7_89 mt_X7_nextLot mi_X7_nextLot (L7_s0 hL) rfl rfl (Nat.le_of_ble_eq_true rfl) ⟨by decide, by decide⟩ ⟨Nat.zero_le _, Nat.zero_le _⟩ rfl ?_
    cases hf
    exact ar_iret X dX7_start_49 hR (Nat.le_refl _) (Nat.le_refl _)
  · refine ar_bipush (v := -6) X dX7_start_42 (by decide) ?_
    refine ar_iastK (k := 8) X dX7_start_44 (L7_s1 hL) (by decide) (by decide) hf (fun I9 hf => ?_)
    refine ar_aload_n X dX7_start_45 rfl 0 rfl ?_
    obtain ⟨r10, h10, hf⟩ := am_b1_e hf
    refine ar_cVi (As := []) (st := []) X dX7_start_46 (am_X7_nextLot hL h10) lk_X7_89 mt_X7_nextLot mi_X7_nextLot (L7_s0 hL) rfl rfl (Nat.le_of_ble_eq_true rfl) ⟨by decide, by decide⟩ ⟨Nat.zero_le _, Nat.zero_le _⟩ rfl ?_
    cases hf
    exact ar_iret X dX7_start_49 hR (Nat.le_refl _) (Nat.le_refl _)
def f_X7_begin (o : Nat) (a1 : Int32) (a2 : Int32) (I : aI) : Option (Int32 × aI) :=
  am_b1 (f_X7_in a1 (0 : Int32) (2 : Int32)) fun r1 =>
  if r1 = 0 then (
    some ((-2 : Int32), I))
  else (
    am_b1 (f_X7_in a2 (1 : Int32) (300 : Int32)) fun r3 =>
    if r3 = 0 then (
      some ((-2 : Int32), I))
    else (
      am_b1 (f_X7_goes o I) fun r5 =>
      if r5 = 0 then (
        am_b1 (f_X7_nextLot o I) fun r7 =>
        if r7 < 0 then (
          some ((-5 : Int32), I))
        else (
          am_b1 (f_X7_isLastNext o I) fun r9 =>
          if r9 = 0 then (
            am_b2 (f_X7_start o a1 a2 I) fun r11 I11 =>
            some (r11, I11))
          else (
            some ((-5 : Int32), I))))
      else (
        some ((-5 : Int32), I))))
set_option maxRecDepth 100000 in
set_option maxHeartbeats 4000000 in
theorem am_X7_begin {sh : aS} {P : aP} {I : aI} {J : aJ} {o : Nat} (hL : L7 sh P o) {a1 : Int32} {a2 : Int32} {r : Int32} {I9 : aI} (hf : f_X7_begin o a1 a2 I = some (r, I9)) : AM yX7_begin cX7_begin 3 (some .int) 3 66 [.ref o, .int a1, .int a2] sh P I J (some (.int r)) sh P I9 J 0 0 := by
  refine am_met (by decide +kernel) (Nat.le_of_ble_eq_true rfl) (fun K X hR => ?_)
  have X : am_C K cX7_begin 3 RX7 "begin" ({ frames := 3, cells := 0, slots := 0, locals := 66 } : Room) := X
  show AW K 3 0 [(0, .ref o), (1, .int a1), (2, .int a2)] [] sh P I J 0 0
  unfold f_X7_begin at hf
  refine ar_iload_n X dX7_begin_0 rfl 1 rfl ?_
  refine ar_iconst (v := 0) X dX7_begin_1 (by decide) ?_
  refine ar_iconst (v := 2) X dX7_begin_2 (by decide) ?_
  obtain ⟨r1, h1, hf⟩ := am_b1_e hf
  refine ar_cSi (As := [.int a1, .int (0 : Int32), .int (2 : Int32)]) (st := []) X dX7_begin_3 (am_X7_in h1) lk_X7_43 mt_X7_in ms_X7_in rfl (Nat.le_of_ble_eq_true rfl) ⟨by decide, by decide⟩ ⟨Nat.zero_le _, Nat.zero_le _⟩ rfl ?_
  refine ar_if_eq (tgt := 20) X dX7_begin_6 (by decide) hf (fun h2 hf => ?_) (fun h2 hf => ?_)
  · refine ar_bipush (v := -2) X dX7_begin_20 (by decide) ?_
    cases hf
    exact ar_iret X dX7_begin_22 hR (Nat.le_refl _) (Nat.le_refl _)
  · refine ar_iload_n X dX7_begin_9 rfl 2 rfl ?_
    refine ar_iconst (v := 1) X dX7_begin_10 (by decide) ?_
    refine ar_sipush (v := 300) X dX7_begin_11 (by decide) ?_
    obtain ⟨r3, h3, hf⟩ := am_b1_e hf
    refine ar_cSi (As := [.int a2, .int (1 : Int32), .int (300 : Int32)]) (st := []) X dX7_begin_14 (am_X7_in h3) lk_X7_43 mt_X7_in ms_X7_in rfl (Nat.le_of_ble_eq_true rfl) ⟨by decide, by decide⟩ ⟨Nat.zero_le _, Nat.zero_le _⟩ rfl ?_
    refine ar_if_ne (tgt := 23) X dX7_begin_17 (by decide) hf (fun h4 hf => ?_) (fun h4 hf => ?_)
    · refine ar_bipush (v := -2) X dX7_begin_20 (by decide) ?_
      cases hf
      exact ar_iret X dX7_begin_22 hR (Nat.le_refl _) (Nat.le_refl _)
    · refine ar_aload_n X dX7_begin_23 rfl 0 rfl ?_
      obtain ⟨r5, h5, hf⟩ := am_b1_e hf
      refine ar_cVi (As := []) (st := []) X dX7_begin_24 (am_X7_goes hL h5) lk_X7_62 mt_X7_goes mi_X7_goes (L7_s0 hL) rfl rfl (Nat.le_of_ble_eq_true rfl) ⟨by decide, by decide⟩ ⟨Nat.zero_le _, Nat.zero_le _⟩ rfl ?_
      refine ar_if_ne (tgt := 44) X dX7_begin_27 (by decide) hf (fun h6 hf => ?_) (fun h6 hf => ?_)
      · refine ar_aload_n X dX7_begin_30 rfl 0 rfl ?_
        obtain ⟨r7, h7, hf⟩ := am_b1_e hf
        refine ar_cVi (As := []) (st := []) X dX7_begin_31 (am_X7_nextLot hL h7) lk_X7_89 mt_X7_nextLot mi_X7_nextLot (L7_s0 hL) rfl rfl (Nat.le_of_ble_eq_true rfl) ⟨by decide, by decide⟩ ⟨Nat.zero_le _, Nat.zero_le _⟩ rfl ?_
        refine ar_if_lt (tgt := 44) X dX7_begin_34 (by decide) hf (fun h8 hf => ?_) (fun h8 hf => ?_)
        · refine ar_bipush (v := -5) X dX7_begin_44 (by decide) ?_
          cases hf
          exact ar_iret X dX7_begin_46 hR (Nat.le_refl _) (Nat.le_refl _)
        · refine ar_aload_n X dX7_begin_37 rfl 0 rfl ?_
          obtain ⟨r9, h9, hf⟩ := am_b1_e hf
          refine ar_cVi (As := []) (st := []) X dX7_begin_38 (am_X7_isLastNext hL h9) lk_X7_96 mt_X7_isLastNext mi_X7_isLastNext (L7_s0 hL) rfl rfl (Nat.le_of_ble_eq_true rfl) ⟨by decide, by decide⟩ ⟨Nat.zero_le _, Nat.zero_le _⟩ rfl ?_
          refine ar_if_eq (tgt := 47) X dX7_begin_41 (by decide) hf (fun h10 hf => ?_) (fun h10 hf => ?_)
          · refine ar_aload_n X dX7_begin_47 rfl 0 rfl ?_
            refine ar_iload_n X dX7_begin_48 rfl 1 rfl ?_
            refine ar_iload_n X dX7_begin_49 rfl 2 rfl ?_
            obtain ⟨r11, I11, h11, hf⟩ := am_b2_e hf
            refine ar_cVi (As := [.int a1, .int a2]) (st := []) X dX7_begin_50 (am_X7_start hL h11) lk_X7_99 mt_X7_start mi_X7_start (L7_s0 hL) rfl rfl (Nat.le_of_ble_eq_true rfl) ⟨by decide, by decide⟩ ⟨Nat.zero_le _, Nat.zero_le _⟩ rfl ?_
            cases hf
            exact ar_iret X dX7_begin_53 hR (Nat.le_refl _) (Nat.le_refl _)
          · refine ar_bipush (v := -5) X dX7_begin_44 (by decide) ?_
            cases hf
            exact ar_iret X dX7_begin_46 hR (Nat.le_refl _) (Nat.le_refl _)
      · refine ar_bipush (v := -5) X dX7_begin_44 (by decide) ?_
        cases hf
        exact ar_iret X dX7_begin_46 hR (Nat.le_refl _) (Nat.le_refl _)
def f_X7_setting (o : Nat) (a1 : Int32) (I : aI) : Option Int32 :=
  am_g (am_ok ((10 : Int32) + a1) 118) (
  some (I (o + 1) (Int32.toNatClampNeg ((10 : Int32) + a1))))
set_option maxRecDepth 100000 in
set_option maxHeartbeats 4000000 in
theorem am_X7_setting {sh : aS} {P : aP} {I : aI} {J : aJ} {o : Nat} (hL : L7 sh P o) {a1 : Int32} {r : Int32} (hf : f_X7_setting o a1 I = some r) : AM yX7_setting cX7_setting 2 (some .int) 0 0 [.ref o, .int a1] sh P I J (some (.int r)) sh P I J 0 0 := by
  refine am_met (by decide +kernel) (Nat.le_of_ble_eq_true rfl) (fun K X hR => ?_)
  have X : am_C K cX7_setting 2 RX7 "setting" ({ frames := 0, cells := 0, slots := 0, locals := 0 } : Room) := X
  show AW K 2 0 [(0, .ref o), (1, .int a1)] [] sh P I J 0 0
  unfold f_X7_setting at hf
  refine ar_aload_n X dX7_setting_0 rfl 0 rfl ?_
  refine ar_getr X dX7_setting_1 fg_X7_7 rfl (L7_s0 hL) (L7_p0_0 hL) ?_
  refine ar_bipush (v := 10) X dX7_setting_4 (by decide) ?_
  refine ar_iload_n X dX7_setting_6 rfl 1 rfl ?_
  refine ar_iadd X dX7_setting_7 ?_
  refine ar_iald X dX7_setting_8 (L7_s1 hL) hf (fun hf => ?_)
  cases hf
  exact ar_iret X dX7_setting_9 hR (Nat.le_refl _) (Nat.le_refl _)
def f_X7_beginGame_h23 (o : Nat) : Nat → Int32 → aI → Option aI
  | 0, _, _ => none
  | n + 1, l2, I =>
    if (6 : Int32) ≤ l2 then (
      am_b1 (f_X7_clearAuction o I) fun I2 =>
      some I2)
    else (
      am_b1 (f_X7_setting o (0 : Int32) I) fun r3 =>
      am_b1 (f_X7_lay o l2 (0 : Int32) r3 I) fun I4 =>
      am_b1 (f_X7_lay o l2 (1 : Int32) (10 : Int32) I4) fun I5 =>
      am_b1 (f_X7_lay o l2 (2 : Int32) (0 : Int32) I5) fun I6 =>
      am_b1 (f_X7_lay o l2 (3 : Int32) (0 : Int32) I6) fun I7 =>
      am_b1 (f_X7_lay o l2 (4 : Int32) (300 : Int32) I7) fun I8 =>
      f_X7_beginGame_h23 o n (l2 + 1) I8)
set_option maxRecDepth 100000 in
set_option maxHeartbeats 4000000 in
theorem ab_X7_beginGame_h23 {K : aK} {sh : aS} {P : aP} {J : aJ} {o : Nat} (X : am_C K cX7_beginGame 3 RX7 "beginGame" ({ frames := 2, cells := 0, slots := 0, locals := 44 } : Room)) (hL : L7 sh P o) {I9 : aI} (hR : am_R K none none sh P I9 J 0 0) : ∀ (n : Nat) (l2 : Int32) (I : aI) , f_X7_beginGame_h23 o n l2 I = some I9 → AW K 3 23 [(0, .ref o), (2, .int l2)] [] sh P I J 0 0 := by
  intro n
  induction n with
  | zero =>
    intro l2 I hf
    cases hf
  | succ n ih =>
    intro l2 I hf
    rw [f_X7_beginGame_h23] at hf
    refine ar_iload_n X dX7_beginGame_23 rfl 1 rfl ?_
    refine ar_bipush (v := 6) X dX7_beginGame_24 (by decide) ?_
    refine ar_icmp_ge (tgt := 77) X dX7_beginGame_26 (by decide) hf (fun h1 hf => ?_) (fun h1 hf => ?_)
    · refine ar_aload_n X dX7_beginGame_77 rfl 0 rfl ?_
      obtain ⟨I2, h2, hf⟩ := am_b1_e hf
      refine ar_cVv (As := []) (st := []) X dX7_beginGame_78 (am_X7_clearAuction hL h2) lk_X7_55 mt_X7_clearAuction mi_X7_clearAuction (L7_s0 hL) rfl rfl (Nat.le_of_ble_eq_true rfl) ⟨by decide, by decide⟩ ⟨Nat.zero_le _, Nat.zero_le _⟩ rfl ?_
      cases hf
      exact ar_vret X dX7_beginGame_81 hR (Nat.le_refl _) (Nat.le_refl _)
    · refine ar_aload_n X dX7_beginGame_29 rfl 0 rfl ?_
      refine ar_iload_n X dX7_beginGame_30 rfl 1 rfl ?_
      refine ar_iconst (v := 0) X dX7_beginGame_31 (by decide) ?_
      refine ar_aload_n X dX7_beginGame_32 rfl 0 rfl ?_
      refine ar_iconst (v := 0) X dX7_beginGame_33 (by decide) ?_
      obtain ⟨r3, h3, hf⟩ := am_b1_e hf
      refine ar_cVi (As := [.int (0 : Int32)]) (st := [.int (0 : Int32), .int l2, .ref o]) X dX7_beginGame_34 (am_X7_setting hL h3) lk_X7_51 mt_X7_setting mi_X7_setting (L7_s0 hL) rfl rfl (Nat.le_of_ble_eq_true rfl) ⟨by decide, by decide⟩ ⟨Nat.zero_le _, Nat.zero_le _⟩ rfl ?_
      obtain ⟨I4, h4, hf⟩ := am_b1_e hf
      refine ar_cVv (As := [.int l2, .int (0 : Int32), .int r3]) (st := []) X dX7_beginGame_37 (am_X7_lay hL h4) lk_X7_47 mt_X7_lay mi_X7_lay (L7_s0 hL) rfl rfl (Nat.le_of_ble_eq_true rfl) ⟨by decide, by decide⟩ ⟨Nat.zero_le _, Nat.zero_le _⟩ rfl ?_
      refine ar_aload_n X dX7_beginGame_40 rfl 0 rfl ?_
      refine ar_iload_n X dX7_beginGame_41 rfl 1 rfl ?_
      refine ar_iconst (v := 1) X dX7_beginGame_42 (by decide) ?_
      refine ar_bipush (v := 10) X dX7_beginGame_43 (by decide) ?_
      obtain ⟨I5, h5, hf⟩ := am_b1_e hf
      refine ar_cVv (As := [.int l2, .int (1 : Int32), .int (10 : Int32)]) (st := []) X dX7_beginGame_45 (am_X7_lay hL h5) lk_X7_47 mt_X7_lay mi_X7_lay (L7_s0 hL) rfl rfl (Nat.le_of_ble_eq_true rfl) ⟨by decide, by decide⟩ ⟨Nat.zero_le _, Nat.zero_le _⟩ rfl ?_
      refine ar_aload_n X dX7_beginGame_48 rfl 0 rfl ?_
      refine ar_iload_n X dX7_beginGame_49 rfl 1 rfl ?_
      refine ar_iconst (v := 2) X dX7_beginGame_50 (by decide) ?_
      refine ar_iconst (v := 0) X dX7_beginGame_51 (by decide) ?_
      obtain ⟨I6, h6, hf⟩ := am_b1_e hf
      refine ar_cVv (As := [.int l2, .int (2 : Int32), .int (0 : Int32)]) (st := []) X dX7_beginGame_52 (am_X7_lay hL h6) lk_X7_47 mt_X7_lay mi_X7_lay (L7_s0 hL) rfl rfl (Nat.le_of_ble_eq_true rfl) ⟨by decide, by decide⟩ ⟨Nat.zero_le _, Nat.zero_le _⟩ rfl ?_
      refine ar_aload_n X dX7_beginGame_55 rfl 0 rfl ?_
      refine ar_iload_n X dX7_beginGame_56 rfl 1 rfl ?_
      refine ar_iconst (v := 3) X dX7_beginGame_57 (by decide) ?_
      refine ar_iconst (v := 0) X dX7_beginGame_58 (by decide) ?_
      obtain ⟨I7, h7, hf⟩ := am_b1_e hf
      refine ar_cVv (As := [.int l2, .int (3 : Int32), .int (0 : Int32)]) (st := []) X dX7_beginGame_59 (am_X7_lay hL h7) lk_X7_47 mt_X7_lay mi_X7_lay (L7_s0 hL) rfl rfl (Nat.le_of_ble_eq_true rfl) ⟨by decide, by decide⟩ ⟨Nat.zero_le _, Nat.zero_le _⟩ rfl ?_
      refine ar_aload_n X dX7_beginGame_62 rfl 0 rfl ?_
      refine ar_iload_n X dX7_beginGame_63 rfl 1 rfl ?_
      refine ar_iconst (v := 4) X dX7_beginGame_64 (by decide) ?_
      refine ar_sipush (v := 300) X dX7_beginGame_65 (by decide) ?_
      obtain ⟨I8, h8, hf⟩ := am_b1_e hf
      refine ar_cVv (As := [.int l2, .int (4 : Int32), .int (300 : Int32)]) (st := []) X dX7_beginGame_68 (am_X7_lay hL h8) lk_X7_47 mt_X7_lay mi_X7_lay (L7_s0 hL) rfl rfl (Nat.le_of_ble_eq_true rfl) ⟨by decide, by decide⟩ ⟨Nat.zero_le _, Nat.zero_le _⟩ rfl ?_
      refine ar_iinc (j := 1) (v := (l2 + 1)) X dX7_beginGame_71 rfl rfl (by decide) rfl ?_
      refine ar_goto (tgt := 23) X dX7_beginGame_74 (by decide) ?_
      refine ar_lo [1, 0] rfl ?_
      exact ih (l2 + 1) I8 hf
def f_X7_beginGame (o : Nat) (a1 : Int32) (I : aI) : Option aI :=
  am_let (am_w I (o + 1) 0 a1) fun I1 =>
  am_let (am_w I1 (o + 1) 1 (0 : Int32)) fun I2 =>
  am_let (am_w I2 (o + 1) 2 (0 : Int32)) fun I3 =>
  f_X7_beginGame_h23 o am_F (0 : Int32) I3
set_option maxRecDepth 100000 in
set_option maxHeartbeats 4000000 in
theorem am_X7_beginGame {sh : aS} {P : aP} {I : aI} {J : aJ} {o : Nat} (hL : L7 sh P o) {a1 : Int32} {I9 : aI} (hf : f_X7_beginGame o a1 I = some I9) : AM yX7_beginGame cX7_beginGame 3 none 2 44 [.ref o, .int a1] sh P I J none sh P I9 J 0 0 := by
  refine am_met (by decide +kernel) (Nat.le_of_ble_eq_true rfl) (fun K X hR => ?_)
  have X : am_C K cX7_beginGame 3 RX7 "beginGame" ({ frames := 2, cells := 0, slots := 0, locals := 44 } : Room) := X
  show AW K 3 0 [(0, .ref o), (1, .int a1)] [] sh P I J 0 0
  unfold f_X7_beginGame at hf
  refine ar_aload_n X dX7_beginGame_0 rfl 0 rfl ?_
  refine ar_getr X dX7_beginGame_1 fg_X7_7 rfl (L7_s0 hL) (L7_p0_0 hL) ?_
  refine ar_iconst (v := 0) X dX7_beginGame_4 (by decide) ?_
  refine ar_iload_n X dX7_beginGame_5 rfl 1 rfl ?_
  refine ar_iastK (k := 0) X dX7_beginGame_6 (L7_s1 hL) (by decide) (by decide) hf (fun I1 hf => ?_)
  refine ar_aload_n X dX7_beginGame_7 rfl 0 rfl ?_
  refine ar_getr X dX7_beginGame_8 fg_X7_7 rfl (L7_s0 hL) (L7_p0_0 hL) ?_
  refine ar_iconst (v := 1) X dX7_beginGame_11 (by decide) ?_
  refine ar_iconst (v := 0) X dX7_beginGame_12 (by decide) ?_
  refine ar_iastK (k := 1) X dX7_beginGame_13 (L7_s1 hL) (by decide) (by decide) hf (fun I2 hf => ?_)
  refine ar_aload_n X dX7_beginGame_14 rfl 0 rfl ?_
  refine ar_getr X dX7_beginGame_15 fg_X7_7 rfl (L7_s0 hL) (L7_p0_0 hL) ?_
  refine ar_iconst (v := 2) X dX7_beginGame_18 (by decide) ?_
  refine ar_iconst (v := 0) X dX7_beginGame_19 (by decide) ?_
  refine ar_iastK (k := 2) X dX7_beginGame_20 (L7_s1 hL) (by decide) (by decide) hf (fun I3 hf => ?_)
  refine ar_iconst (v := 0) X dX7_beginGame_21 (by decide) ?_
  refine ar_istore_n X dX7_beginGame_22 rfl (by decide) rfl ?_
  refine ar_lo [1, 0] rfl ?_
  exact ab_X7_beginGame_h23 X hL hR am_F (0 : Int32) I3 hf
def f_X7_putAside_h2 (o : Nat) : Nat → Int32 → aI → Option aI
  | 0, _, _ => none
  | n + 1, l1, I =>
    if (118 : Int32) ≤ l1 then (
      some I)
    else (
      am_g (am_ok l1 118) (
      am_g (am_ok l1 118) (am_let (am_w I (o + 2) (Int32.toNatClampNeg l1) (I (o + 1) (Int32.toNatClampNeg l1))) fun I2 =>
      f_X7_putAside_h2 o n (l1 + 1) I2)))
set_option maxRecDepth 100000 in
set_option maxHeartbeats 4000000 in
theorem ab_X7_putAside_h2 {K : aK} {sh : aS} {P : aP} {J : aJ} {o : Nat} (X : am_C K cX7_putAside 2 RX7 "putAside" ({ frames := 0, cells := 0, slots := 0, locals := 0 } : Room)) (hL : L7 sh P o) {I9 : aI} (hR : am_R K none none sh P I9 J 0 0) : ∀ (n : Nat) (l1 : Int32) (I : aI) , f_X7_putAside_h2 o n l1 I = some I9 → AW K 2 2 [(0, .ref o), (1, .int l1)] [] sh P I J 0 0 := by
  intro n
  induction n with
  | zero =>
    intro l1 I hf
    cases hf
  | succ n ih =>
    intro l1 I hf
    rw [f_X7_putAside_h2] at hf
    refine ar_iload_n X dX7_putAside_2 rfl 1 rfl ?_
    refine ar_bipush (v := 118) X dX7_putAside_3 (by decide) ?_
    refine ar_icmp_ge (tgt := 26) X dX7_putAside_5 (by decide) hf (fun h1 hf => ?_) (fun h1 hf => ?_)
    · cases hf
      exact ar_vret X dX7_putAside_26 hR (Nat.le_refl _) (Nat.le_refl _)
    · refine ar_aload_n X dX7_putAside_8 rfl 0 rfl ?_
      refine ar_getr X dX7_putAside_9 fg_X7_13 rfl (L7_s0 hL) (L7_p0_1 hL) ?_
      refine ar_iload_n X dX7_putAside_12 rfl 1 rfl ?_
      refine ar_aload_n X dX7_putAside_13 rfl 0 rfl ?_
      refine ar_getr X dX7_putAside_14 fg_X7_7 rfl (L7_s0 hL) (L7_p0_0 hL) ?_
      refine ar_iload_n X dX7_putAside_17 rfl 1 rfl ?_
      refine ar_iald X dX7_putAside_18 (L7_s1 hL) hf (fun hf => ?_)
      refine ar_iast X dX7_putAside_19 (L7_s2 hL) hf (fun I2 hf => ?_)
      refine ar_iinc (j := 1) (v := (l1 + 1)) X dX7_putAside_20 rfl rfl (by decide) rfl ?_
      refine ar_goto (tgt := 2) X dX7_putAside_23 (by decide) ?_
      refine ar_lo [1, 0] rfl ?_
      exact ih (l1 + 1) I2 hf
def f_X7_putAside (o : Nat)  (I : aI) : Option aI :=
  f_X7_putAside_h2 o am_F (0 : Int32) I
set_option maxRecDepth 100000 in
set_option maxHeartbeats 4000000 in
theorem am_X7_putAside {sh : aS} {P : aP} {I : aI} {J : aJ} {o : Nat} (hL : L7 sh P o)  {I9 : aI} (hf : f_X7_putAside o I = some I9) : AM yX7_putAside cX7_putAside 2 none 0 0 [.ref o] sh P I J none sh P I9 J 0 0 := by
  refine am_met (by decide +kernel) (Nat.le_of_ble_eq_true rfl) (fun K X hR => ?_)
  have X : am_C K cX7_putAside 2 RX7 "putAside" ({ frames := 0, cells := 0, slots := 0, locals := 0 } : Room) := X
  show AW K 2 0 [(0, .ref o)] [] sh P I J 0 0
  unfold f_X7_putAside at hf
  refine ar_iconst (v := 0) X dX7_putAside_0 (by decide) ?_
  refine ar_istore_n X dX7_putAside_1 rfl (by decide) rfl ?_
  refine ar_lo [1, 0] rfl ?_
  exact ab_X7_putAside_h2 X hL hR am_F (0 : Int32) I hf
def f_X7_leastOpen (o : Nat)  (I : aI) : Option Int32 :=
  if 0 ≤ (I (o + 1) 6) then (
    am_b1 (f_X7_setting o (1 : Int32) I) fun r2 =>
    some ((I (o + 1) 6) + r2))
  else (
    some (I (o + 1) 5))
set_option maxRecDepth 100000 in
set_option maxHeartbeats 4000000 in
theorem am_X7_leastOpen {sh : aS} {P : aP} {I : aI} {J : aJ} {o : Nat} (hL : L7 sh P o)  {r : Int32} (hf : f_X7_leastOpen o I = some r) : AM yX7_leastOpen cX7_leastOpen 1 (some .int) 1 21 [.ref o] sh P I J (some (.int r)) sh P I J 0 0 := by
  refine am_met (by decide +kernel) (Nat.le_of_ble_eq_true rfl) (fun K X hR => ?_)
  have X : am_C K cX7_leastOpen 1 RX7 "leastOpen" ({ frames := 1, cells := 0, slots := 0, locals := 21 } : Room) := X
  show AW K 1 0 [(0, .ref o)] [] sh P I J 0 0
  unfold f_X7_leastOpen at hf
  refine ar_aload_n X dX7_leastOpen_0 rfl 0 rfl ?_
  refine ar_getr X dX7_leastOpen_1 fg_X7_7 rfl (L7_s0 hL) (L7_p0_0 hL) ?_
  refine ar_bipush (v := 6) X dX7_leastOpen_4 (by decide) ?_
  refine ar_ialdK (k := 6) X dX7_leastOpen_6 (L7_s1 hL) (by decide) (by decide) ?_
  refine ar_if_ge (tgt := 19) X dX7_leastOpen_7 (by decide) hf (fun h1 hf => ?_) (fun h1 hf => ?_)
  · refine ar_aload_n X dX7_leastOpen_19 rfl 0 rfl ?_
    refine ar_getr X dX7_leastOpen_20 fg_X7_7 rfl (L7_s0 hL) (L7_p0_0 hL) ?_
    refine ar_bipush (v := 6) X dX7_leastOpen_23 (by decide) ?_
    refine ar_ialdK (k := 6) X dX7_leastOpen_25 (L7_s1 hL) (by decide) (by decide) ?_
    refine ar_aload_n X dX7_leastOpen_26 rfl 0 rfl ?_
    refine ar_iconst (v := 1) X dX7_leastOpen_27 (by decide) ?_
    obtain ⟨r2, h2, hf⟩ := am_b1_e hf
    refine ar_cVi (As := [.int (1 : Int32)]) (st := [.int (I (o + 1) 6)]) X dX7_leastOpen_28 (am_X7_setting hL h2) lk_X7_51 mt_X7_setting mi_X7_setting (L7_s0 hL) rfl rfl (Nat.le_of_ble_eq_true rfl) ⟨by decide, by decide⟩ ⟨Nat.zero_le _, Nat.zero_le _⟩ rfl ?_
    refine ar_iadd X dX7_leastOpen_31 ?_
    cases hf
    exact ar_iret X dX7_leastOpen_32 hR (Nat.le_refl _) (Nat.le_refl _)
  · refine ar_aload_n X dX7_leastOpen_10 rfl 0 rfl ?_
    refine ar_getr X dX7_leastOpen_11 fg_X7_7 rfl (L7_s0 hL) (L7_p0_0 hL) ?_
    refine ar_iconst (v := 5) X dX7_leastOpen_14 (by decide) ?_
    refine ar_ialdK (k := 5) X dX7_leastOpen_15 (L7_s1 hL) (by decide) (by decide) ?_
    refine ar_goto (tgt := 32) X dX7_leastOpen_16 (by decide) ?_
    cases hf
    exact ar_iret X dX7_leastOpen_32 hR (Nat.le_refl _) (Nat.le_refl _)
def f_X7_sizeOf_h4  : Nat → Int32 → Int32 → Option Int32
  | 0, _, _ => none
  | n + 1, l1, l2 =>
    if l2 ≤ 0 then (
      some l1)
    else (
      am_let (l1 + (l2 &&& (1 : Int32))) fun x2 =>
      am_let (am_shr l2 (1 : Int32)) fun x3 =>
      f_X7_sizeOf_h4 n x2 x3)
set_option maxRecDepth 100000 in
set_option maxHeartbeats 4000000 in
theorem ab_X7_sizeOf_h4 {K : aK} {sh : aS} {P : aP} {I : aI} {J : aJ}  (X : am_C K cX7_sizeOf 3 RX7 "sizeOf" ({ frames := 0, cells := 0, slots := 0, locals := 0 } : Room))  {r : Int32} (hR : am_R K (some .int) (some (.int r)) sh P I J 0 0) : ∀ (n : Nat) (l1 : Int32) (l2 : Int32) , f_X7_sizeOf_h4 n l1 l2 = some r → AW K 3 4 [(1, .int l1), (2, .int l2)] [] sh P I J 0 0 := by
  intro n
  induction n with
  | zero =>
    intro l1 l2 hf
    cases hf
  | succ n ih =>
    intro l1 l2 hf
    rw [f_X7_sizeOf_h4] at hf
    refine ar_iload_n X dX7_sizeOf_4 rfl 1 rfl ?_
    refine ar_if_le (tgt := 21) X dX7_sizeOf_5 (by decide) hf (fun h1 hf => ?_) (fun h1 hf => ?_)
    · refine ar_iload_n X dX7_sizeOf_21 rfl 0 rfl ?_
      cases hf
      exact ar_iret X dX7_sizeOf_22 hR (Nat.le_refl _) (Nat.le_refl _)
    · refine ar_iload_n X dX7_sizeOf_8 rfl 0 rfl ?_
      refine ar_iload_n X dX7_sizeOf_9 rfl 1 rfl ?_
      refine ar_iconst (v := 1) X dX7_sizeOf_10 (by decide) ?_
      refine ar_iand X dX7_sizeOf_11 ?_
      refine ar_iadd X dX7_sizeOf_12 ?_
      refine ar_letI hf (fun x2 hf => ?_)
      refine ar_istore_n X dX7_sizeOf_13 rfl (by decide) rfl ?_
      refine ar_iload_n X dX7_sizeOf_14 rfl 1 rfl ?_
      refine ar_iconst (v := 1) X dX7_sizeOf_15 (by decide) ?_
      refine ar_ishr X dX7_sizeOf_16 ?_
      refine ar_letI hf (fun x3 hf => ?_)
      refine ar_istore_n X dX7_sizeOf_17 rfl (by decide) rfl ?_
      refine ar_goto (tgt := 4) X dX7_sizeOf_18 (by decide) ?_
      refine ar_lo [1, 0] rfl ?_
      exact ih x2 x3 hf
def f_X7_sizeOf  (a0 : Int32) : Option Int32 :=
  f_X7_sizeOf_h4 am_F (0 : Int32) a0
set_option maxRecDepth 100000 in
set_option maxHeartbeats 4000000 in
theorem am_X7_sizeOf {sh : aS} {P : aP} {I : aI} {J : aJ}   {a0 : Int32} {r : Int32} (hf : f_X7_sizeOf a0 = some r) : AM yX7_sizeOf cX7_sizeOf 3 (some .int) 0 0 [.int a0] sh P I J (some (.int r)) sh P I J 0 0 := by
  refine am_met (by decide +kernel) (Nat.le_of_ble_eq_true rfl) (fun K X hR => ?_)
  have X : am_C K cX7_sizeOf 3 RX7 "sizeOf" ({ frames := 0, cells := 0, slots := 0, locals := 0 } : Room) := X
  show AW K 3 0 [(0, .int a0)] [] sh P I J 0 0
  unfold f_X7_sizeOf at hf
  refine ar_iconst (v := 0) X dX7_sizeOf_0 (by decide) ?_
  refine ar_istore_n X dX7_sizeOf_1 rfl (by decide) rfl ?_
  refine ar_iload_n X dX7_sizeOf_2 rfl 1 rfl ?_
  refine ar_istore_n X dX7_sizeOf_3 rfl (by decide) rfl ?_
  refine ar_lo [1, 0] rfl ?_
  exact ab_X7_sizeOf_h4 X hR am_F (0 : Int32) a0 hf
def f_X7_valueWith_b193 (o : Nat) (l3 : Int32) (l4 : Int32) (I : aI) : Option (Int32 × aI) :=
  if l4 < (4 : Int32) then (
    some (l3, I))
  else (
    am_b1 (f_X7_setting o (4 : Int32) I) fun r2 =>
    some ((l3 + r2), I))
set_option maxRecDepth 100000 in
set_option maxHeartbeats 4000000 in
theorem ab_X7_valueWith_b193 {K : aK} {sh : aS} {P : aP} {J : aJ} {o : Nat} (X : am_C K cX7_valueWith 6 RX7 "valueWith" ({ frames := 1, cells := 0, slots := 0, locals := 22 } : Room)) (hL : L7 sh P o) {r : Int32} {I9 : aI} (hR : am_R K (some .int) (some (.int r)) sh P I9 J 0 0) (l3 : Int32) (l4 : Int32) (I : aI) (hf : f_X7_valueWith_b193 o l3 l4 I = some (r, I9)) : AW K 6 193 [(0, .ref o), (3, .int l3), (4, .int l4)] [] sh P I J 0 0 := by
  unfold f_X7_valueWith_b193 at hf
  refine ar_iload X dX7_valueWith_193 2 rfl ?_
  refine ar_iconst (v := 4) X dX7_valueWith_195 (by decide) ?_
  refine ar_icmp_lt (tgt := 209) X dX7_valueWith_196 (by decide) hf (fun h1 hf => ?_) (fun h1 hf => ?_)
  · refine ar_iload_n X dX7_valueWith_209 rfl 1 rfl ?_
    cases hf
    exact ar_iret X dX7_valueWith_210 hR (Nat.le_refl _) (Nat.le_refl _)
  · refine ar_iload_n X dX7_valueWith_199 rfl 1 rfl ?_
    refine ar_aload_n X dX7_valueWith_200 rfl 0 rfl ?_
    refine ar_iconst (v := 4) X dX7_valueWith_201 (by decide) ?_
    obtain ⟨r2, h2, hf⟩ := am_b1_e hf
    refine ar_cVi (As := [.int (4 : Int32)]) (st := [.int l3]) X dX7_valueWith_202 (am_X7_setting hL h2) lk_X7_51 mt_X7_setting mi_X7_setting (L7_s0 hL) rfl rfl (Nat.le_of_ble_eq_true rfl) ⟨by decide, by decide⟩ ⟨Nat.zero_le _, Nat.zero_le _⟩ rfl ?_
    refine ar_iadd X dX7_valueWith_205 ?_
    refine ar_goto (tgt := 210) X dX7_valueWith_206 (by decide) ?_
    cases hf
    exact ar_iret X dX7_valueWith_210 hR (Nat.le_refl _) (Nat.le_refl _)
def f_X7_valueWith_h132 (o : Nat) : Nat → Int32 → Int32 → Int32 → aI → Option (Int32 × aI)
  | 0, _, _, _, _ => none
  | n + 1, l3, l4, l5, I =>
    if (6 : Int32) ≤ l5 then (
      f_X7_valueWith_b193 o l3 l4 I)
    else (
      am_b1 (f_X7_setting o (3 : Int32) I) fun r2 =>
      am_g (am_ok l5 6) (
      am_g (am_ok l5 6) (
      am_g (decide (¬ (2 : Int32) = 0)) (
      am_let (l3 + (((r2 * (I (o + 6) (Int32.toNatClampNeg l5))) * ((I (o + 6) (Int32.toNatClampNeg l5)) - (1 : Int32))) / (2 : Int32))) fun x4 =>
      am_g (am_ok l5 6) (
      if (I (o + 6) (Int32.toNatClampNeg l5)) ≤ 0 then (
        am_let (l4 + (0 : Int32)) fun x6 =>
        f_X7_valueWith_h132 o n x4 x6 (l5 + 1) I)
      else (
        am_let (l4 + (1 : Int32)) fun x7 =>
        f_X7_valueWith_h132 o n x4 x7 (l5 + 1) I))))))
set_option maxRecDepth 100000 in
set_option maxHeartbeats 4000000 in
theorem ab_X7_valueWith_h132 {K : aK} {sh : aS} {P : aP} {J : aJ} {o : Nat} (X : am_C K cX7_valueWith 6 RX7 "valueWith" ({ frames := 1, cells := 0, slots := 0, locals := 22 } : Room)) (hL : L7 sh P o) {r : Int32} {I9 : aI} (hR : am_R K (some .int) (some (.int r)) sh P I9 J 0 0) : ∀ (n : Nat) (l3 : Int32) (l4 : Int32) (l5 : Int32) (I : aI) , f_X7_valueWith_h132 o n l3 l4 l5 I = some (r, I9) → AW K 6 132 [(0, .ref o), (3, .int l3), (4, .int l4), (5, .int l5)] [] sh P I J 0 0 := by
  intro n
  induction n with
  | zero =>
    intro l3 l4 l5 I hf
    cases hf
  | succ n ih =>
    intro l3 l4 l5 I hf
    rw [f_X7_valueWith_h132] at hf
    refine ar_iload X dX7_valueWith_132 3 rfl ?_
    refine ar_bipush (v := 6) X dX7_valueWith_134 (by decide) ?_
    refine ar_icmp_ge (tgt := 193) X dX7_valueWith_136 (by decide) hf (fun h1 hf => ?_) (fun h1 hf => ?_)
    · refine ar_lo [0, 1, 2] rfl ?_
      exact ab_X7_valueWith_b193 X hL hR l3 l4 I hf
    · refine ar_iload_n X dX7_valueWith_139 rfl 1 rfl ?_
      refine ar_aload_n X dX7_valueWith_140 rfl 0 rfl ?_
      refine ar_iconst (v := 3) X dX7_valueWith_141 (by decide) ?_
      obtain ⟨r2, h2, hf⟩ := am_b1_e hf
      refine ar_cVi (As := [.int (3 : Int32)]) (st := [.int l3]) X dX7_valueWith_142 (am_X7_setting hL h2) lk_X7_51 mt_X7_setting mi_X7_setting (L7_s0 hL) rfl rfl (Nat.le_of_ble_eq_true rfl) ⟨by decide, by decide⟩ ⟨Nat.zero_le _, Nat.zero_le _⟩ rfl ?_
      refine ar_aload_n X dX7_valueWith_145 rfl 0 rfl ?_
      refine ar_getr X dX7_valueWith_146 fg_X7_26 rfl (L7_s0 hL) (L7_p0_6 hL) ?_
      refine ar_iload X dX7_valueWith_149 3 rfl ?_
      refine ar_iald X dX7_valueWith_151 (L7_s6 hL) hf (fun hf => ?_)
      refine ar_imul X dX7_valueWith_152 ?_
      refine ar_aload_n X dX7_valueWith_153 rfl 0 rfl ?_
      refine ar_getr X dX7_valueWith_154 fg_X7_26 rfl (L7_s0 hL) (L7_p0_6 hL) ?_
      refine ar_iload X dX7_valueWith_157 3 rfl ?_
      refine ar_iald X dX7_valueWith_159 (L7_s6 hL) hf (fun hf => ?_)
      refine ar_iconst (v := 1) X dX7_valueWith_160 (by decide) ?_
      refine ar_isub X dX7_valueWith_161 ?_
      refine ar_imul X dX7_valueWith_162 ?_
      refine ar_iconst (v := 2) X dX7_valueWith_163 (by decide) ?_
      obtain ⟨h3, hf⟩ := am_g_elim hf
      refine ar_idiv X dX7_valueWith_164 h3 ?_
      refine ar_iadd X dX7_valueWith_165 ?_
      refine ar_letI hf (fun x4 hf => ?_)
      refine ar_istore_n X dX7_valueWith_166 rfl (by decide) rfl ?_
      refine ar_iload X dX7_valueWith_167 2 rfl ?_
      refine ar_aload_n X dX7_valueWith_169 rfl 1 rfl ?_
      refine ar_getr X dX7_valueWith_170 fg_X7_26 rfl (L7_s0 hL) (L7_p0_6 hL) ?_
      refine ar_iload X dX7_valueWith_173 3 rfl ?_
      refine ar_iald X dX7_valueWith_175 (L7_s6 hL) hf (fun hf => ?_)
      refine ar_if_le (tgt := 183) X dX7_valueWith_176 (by decide) hf (fun h5 hf => ?_) (fun h5 hf => ?_)
      · refine ar_iconst (v := 0) X dX7_valueWith_183 (by decide) ?_
        refine ar_iadd X dX7_valueWith_184 ?_
        refine ar_letI hf (fun x6 hf => ?_)
        refine ar_istore X dX7_valueWith_185 (by decide) rfl ?_
        refine ar_iinc (j := 3) (v := (l5 + 1)) X dX7_valueWith_187 rfl rfl (by decide) rfl ?_
        refine ar_goto (tgt := 132) X dX7_valueWith_190 (by decide) ?_
        refine ar_lo [3, 2, 1, 0] rfl ?_
        exact ih x4 x6 (l5 + 1) I hf
      · refine ar_iconst (v := 1) X dX7_valueWith_179 (by decide) ?_
        refine ar_goto (tgt := 184) X dX7_valueWith_180 (by decide) ?_
        refine ar_iadd X dX7_valueWith_184 ?_
        refine ar_letI hf (fun x7 hf => ?_)
        refine ar_istore X dX7_valueWith_185 (by decide) rfl ?_
        refine ar_iinc (j := 3) (v := (l5 + 1)) X dX7_valueWith_187 rfl rfl (by decide) rfl ?_
        refine ar_goto (tgt := 132) X dX7_valueWith_190 (by decide) ?_
        refine ar_lo [3, 2, 1, 0] rfl ?_
        exact ih x4 x7 (l5 + 1) I hf
def f_X7_valueWith_b101 (o : Nat) (kh : Int32 → Int32 → Int32 → Int32 → aI → Option (Int32 × aI)) (l1 : Int32) (l2 : Int32) (l4 : Int32) (s0 : Int32) (s1 : Int32) (s2 : Int32) (I : aI) : Option (Int32 × aI) :=
  am_g (decide (¬ s0 = 0)) (
  am_let (s2 + (s1 / s0)) fun x2 =>
  am_b1 (f_X7_ofLot o l4 (0 : Int32) I) fun r3 =>
  am_g (am_ok r3 6) (
  am_g (am_ok r3 6) (am_let (am_w I (o + 6) (Int32.toNatClampNeg r3) ((I (o + 6) (Int32.toNatClampNeg r3)) + (1 : Int32))) fun I4 =>
  kh l1 l2 x2 (l4 + 1) I4)))
set_option maxRecDepth 100000 in
set_option maxHeartbeats 4000000 in
theorem ab_X7_valueWith_b101 {K : aK} {sh : aS} {P : aP} {J : aJ} {o : Nat} (X : am_C K cX7_valueWith 6 RX7 "valueWith" ({ frames := 1, cells := 0, slots := 0, locals := 22 } : Room)) (hL : L7 sh P o) {r : Int32} {I9 : aI} (hR : am_R K (some .int) (some (.int r)) sh P I9 J 0 0) {kh : Int32 → Int32 → Int32 → Int32 → aI → Option (Int32 × aI)} (hk : ∀ (l1 : Int32) (l2 : Int32) (l3 : Int32) (l4 : Int32) (I : aI) , kh l1 l2 l3 l4 I = some (r, I9) → AW K 6 29 [(0, .ref o), (1, .int l1), (2, .int l2), (3, .int l3), (4, .int l4)] [] sh P I J 0 0) (l1 : Int32) (l2 : Int32) (l4 : Int32) (s0 : Int32) (s1 : Int32) (s2 : Int32) (I : aI) (hf : f_X7_valueWith_b101 o kh l1 l2 l4 s0 s1 s2 I = some (r, I9)) : AW K 6 101 [(0, .ref o), (1, .int l1), (2, .int l2), (4, .int l4)] [.int s0, .int s1, .int s2] sh P I J 0 0 := by
  unfold f_X7_valueWith_b101 at hf
  obtain ⟨h1, hf⟩ := am_g_elim hf
  refine ar_idiv X dX7_valueWith_101 h1 ?_
  refine ar_iadd X dX7_valueWith_102 ?_
  refine ar_letI hf (fun x2 hf => ?_)
  refine ar_istore_n X dX7_valueWith_103 rfl (by decide) rfl ?_
  refine ar_aload_n X dX7_valueWith_104 rfl 1 rfl ?_
  refine ar_getr X dX7_valueWith_105 fg_X7_26 rfl (L7_s0 hL) (L7_p0_6 hL) ?_
  refine ar_aload_n X dX7_valueWith_108 rfl 1 rfl ?_
  refine ar_iload X dX7_valueWith_109 4 rfl ?_
  refine ar_iconst (v := 0) X dX7_valueWith_111 (by decide) ?_
  obtain ⟨r3, h3, hf⟩ := am_b1_e hf
  refine ar_cVi (As := [.int l4, .int (0 : Int32)]) (st := [.ref (o + 6)]) X dX7_valueWith_112 (am_X7_ofLot hL h3) lk_X7_77 mt_X7_ofLot mi_X7_ofLot (L7_s0 hL) rfl rfl (Nat.le_of_ble_eq_true rfl) ⟨by decide, by decide⟩ ⟨Nat.zero_le _, Nat.zero_le _⟩ rfl ?_
  refine ar_dup2 X dX7_valueWith_115 rfl rfl ?_
  refine ar_iald X dX7_valueWith_116 (L7_s6 hL) hf (fun hf => ?_)
  refine ar_iconst (v := 1) X dX7_valueWith_117 (by decide) ?_
  refine ar_iadd X dX7_valueWith_118 ?_
  refine ar_iast X dX7_valueWith_119 (L7_s6 hL) hf (fun I4 hf => ?_)
  refine ar_iinc (j := 4) (v := (l4 + 1)) X dX7_valueWith_120 rfl rfl (by decide) rfl ?_
  refine ar_goto (tgt := 29) X dX7_valueWith_123 (by decide) ?_
  refine ar_lo [2, 3, 4, 1, 0] rfl ?_
  exact hk l1 l2 x2 (l4 + 1) I4 hf
def f_X7_valueWith_b73 (o : Nat) (kh : Int32 → Int32 → Int32 → Int32 → aI → Option (Int32 × aI)) (l1 : Int32) (l2 : Int32) (l3 : Int32) (l4 : Int32) (I : aI) : Option (Int32 × aI) :=
  am_b1 (f_X7_ofLot o l4 (1 : Int32) I) fun r1 =>
  if l4 = l2 then (
    f_X7_valueWith_b101 o kh l1 l2 l4 (1 : Int32) r1 l3 I)
  else (
    am_b1 (f_X7_ofLot o l4 (2 : Int32) I) fun r3 =>
    am_b1 (f_X7_sizeOf r3) fun r4 =>
    f_X7_valueWith_b101 o kh l1 l2 l4 r4 r1 l3 I)
set_option maxRecDepth 100000 in
set_option maxHeartbeats 4000000 in
theorem ab_X7_valueWith_b73 {K : aK} {sh : aS} {P : aP} {J : aJ} {o : Nat} (X : am_C K cX7_valueWith 6 RX7 "valueWith" ({ frames := 1, cells := 0, slots := 0, locals := 22 } : Room)) (hL : L7 sh P o) {r : Int32} {I9 : aI} (hR : am_R K (some .int) (some (.int r)) sh P I9 J 0 0) {kh : Int32 → Int32 → Int32 → Int32 → aI → Option (Int32 × aI)} (hk : ∀ (l1 : Int32) (l2 : Int32) (l3 : Int32) (l4 : Int32) (I : aI) , kh l1 l2 l3 l4 I = some (r, I9) → AW K 6 29 [(0, .ref o), (1, .int l1), (2, .int l2), (3, .int l3), (4, .int l4)] [] sh P I J 0 0) (l1 : Int32) (l2 : Int32) (l3 : Int32) (l4 : Int32) (I : aI) (hf : f_X7_valueWith_b73 o kh l1 l2 l3 l4 I = some (r, I9)) : AW K 6 73 [(0, .ref o), (1, .int l1), (2, .int l2), (3, .int l3), (4, .int l4)] [] sh P I J 0 0 := by
  unfold f_X7_valueWith_b73 at hf
  refine ar_iload_n X dX7_valueWith_73 rfl 3 rfl ?_
  refine ar_aload_n X dX7_valueWith_74 rfl 0 rfl ?_
  refine ar_iload X dX7_valueWith_75 4 rfl ?_
  refine ar_iconst (v := 1) X dX7_valueWith_77 (by decide) ?_
  obtain ⟨r1, h1, hf⟩ := am_b1_e hf
  refine ar_cVi (As := [.int l4, .int (1 : Int32)]) (st := [.int l3]) X dX7_valueWith_78 (am_X7_ofLot hL h1) lk_X7_77 mt_X7_ofLot mi_X7_ofLot (L7_s0 hL) rfl rfl (Nat.le_of_ble_eq_true rfl) ⟨by decide, by decide⟩ ⟨Nat.zero_le _, Nat.zero_le _⟩ rfl ?_
  refine ar_iload X dX7_valueWith_81 4 rfl ?_
  refine ar_iload_n X dX7_valueWith_83 rfl 2 rfl ?_
  refine ar_icmp_ne (tgt := 91) X dX7_valueWith_84 (by decide) hf (fun h2 hf => ?_) (fun h2 hf => ?_)
  · refine ar_iconst (v := 1) X dX7_valueWith_87 (by decide) ?_
    refine ar_goto (tgt := 101) X dX7_valueWith_88 (by decide) ?_
    refine ar_lo [0, 1, 2, 4] rfl ?_
    exact ab_X7_valueWith_b101 X hL hR hk l1 l2 l4 (1 : Int32) r1 l3 I hf
  · refine ar_aload_n X dX7_valueWith_91 rfl 0 rfl ?_
    refine ar_iload X dX7_valueWith_92 4 rfl ?_
    refine ar_iconst (v := 2) X dX7_valueWith_94 (by decide) ?_
    obtain ⟨r3, h3, hf⟩ := am_b1_e hf
    refine ar_cVi (As := [.int l4, .int (2 : Int32)]) (st := [.int r1, .int l3]) X dX7_valueWith_95 (am_X7_ofLot hL h3) lk_X7_77 mt_X7_ofLot mi_X7_ofLot (L7_s0 hL) rfl rfl (Nat.le_of_ble_eq_true rfl) ⟨by decide, by decide⟩ ⟨Nat.zero_le _, Nat.zero_le _⟩ rfl ?_
    obtain ⟨r4, h4, hf⟩ := am_b1_e hf
    refine ar_cSi (As := [.int r3]) (st := [.int r1, .int l3]) X dX7_valueWith_98 (am_X7_sizeOf h4) lk_X7_80 mt_X7_sizeOf ms_X7_sizeOf rfl (Nat.le_of_ble_eq_true rfl) ⟨by decide, by decide⟩ ⟨Nat.zero_le _, Nat.zero_le _⟩ rfl ?_
    refine ar_lo [0, 1, 2, 4] rfl ?_
    exact ab_X7_valueWith_b101 X hL hR hk l1 l2 l4 r4 r1 l3 I hf
def f_X7_valueWith_b60 (o : Nat) (kh : Int32 → Int32 → Int32 → Int32 → aI → Option (Int32 × aI)) (l1 : Int32) (l2 : Int32) (l3 : Int32) (l4 : Int32) (s0 : Int32) (I : aI) : Option (Int32 × aI) :=
  if s0 = 0 then (
    if l4 = l2 then (
      f_X7_valueWith_b73 o kh l1 l2 l3 l4 I)
    else (
      kh l1 l2 l3 (l4 + 1) I))
  else (
    f_X7_valueWith_b73 o kh l1 l2 l3 l4 I)
set_option maxRecDepth 100000 in
set_option maxHeartbeats 4000000 in
theorem ab_X7_valueWith_b60 {K : aK} {sh : aS} {P : aP} {J : aJ} {o : Nat} (X : am_C K cX7_valueWith 6 RX7 "valueWith" ({ frames := 1, cells := 0, slots := 0, locals := 22 } : Room)) (hL : L7 sh P o) {r : Int32} {I9 : aI} (hR : am_R K (some .int) (some (.int r)) sh P I9 J 0 0) {kh : Int32 → Int32 → Int32 → Int32 → aI → Option (Int32 × aI)} (hk : ∀ (l1 : Int32) (l2 : Int32) (l3 : Int32) (l4 : Int32) (I : aI) , kh l1 l2 l3 l4 I = some (r, I9) → AW K 6 29 [(0, .ref o), (1, .int l1), (2, .int l2), (3, .int l3), (4, .int l4)] [] sh P I J 0 0) (l1 : Int32) (l2 : Int32) (l3 : Int32) (l4 : Int32) (s0 : Int32) (I : aI) (hf : f_X7_valueWith_b60 o kh l1 l2 l3 l4 s0 I = some (r, I9)) : AW K 6 60 [(0, .ref o), (1, .int l1), (2, .int l2), (3, .int l3), (4, .int l4)] [.int s0] sh P I J 0 0 := by
  unfold f_X7_valueWith_b60 at hf
  refine ar_istore X dX7_valueWith_60 (by decide) rfl ?_
  refine ar_iload X dX7_valueWith_62 0 rfl ?_
  refine ar_if_ne (tgt := 73) X dX7_valueWith_64 (by decide) hf (fun h1 hf => ?_) (fun h1 hf => ?_)
  · refine ar_iload X dX7_valueWith_67 5 rfl ?_
    refine ar_iload_n X dX7_valueWith_69 rfl 3 rfl ?_
    refine ar_icmp_ne (tgt := 120) X dX7_valueWith_70 (by decide) hf (fun h2 hf => ?_) (fun h2 hf => ?_)
    · refine ar_lo [1, 2, 3, 4, 5] rfl ?_
      exact ab_X7_valueWith_b73 X hL hR hk l1 l2 l3 l4 I hf
    · refine ar_iinc (j := 5) (v := (l4 + 1)) X dX7_valueWith_120 rfl rfl (by decide) rfl ?_
      refine ar_goto (tgt := 29) X dX7_valueWith_123 (by decide) ?_
      refine ar_lo [2, 3, 4, 5, 0] rfl ?_
      exact hk l1 l2 l3 (l4 + 1) I hf
  · refine ar_lo [1, 2, 3, 4, 5] rfl ?_
    exact ab_X7_valueWith_b73 X hL hR hk l1 l2 l3 l4 I hf
def f_X7_valueWith_h29 (o : Nat) : Nat → Int32 → Int32 → Int32 → Int32 → aI → Option (Int32 × aI)
  | 0, _, _, _, _, _ => none
  | n + 1, l1, l2, l3, l4, I =>
    if (I (o + 1) 1) ≤ l4 then (
      f_X7_valueWith_h132 o am_F l3 (0 : Int32) (0 : Int32) I)
    else (
      am_b1 (f_X7_ofLot o l4 (2 : Int32) I) fun r2 =>
      if ((am_shr r2 l1) &&& (1 : Int32)) = (1 : Int32) then (
        f_X7_valueWith_b60 o (f_X7_valueWith_h29 o n) l1 l2 l3 l4 (1 : Int32) I)
      else (
        f_X7_valueWith_b60 o (f_X7_valueWith_h29 o n) l1 l2 l3 l4 (0 : Int32) I))
set_option maxRecDepth 100000 in
set_option maxHeartbeats 4000000 in
theorem ab_X7_valueWith_h29 {K : aK} {sh : aS} {P : aP} {J : aJ} {o : Nat} (X : am_C K cX7_valueWith 6 RX7 "valueWith" ({ frames := 1, cells := 0, slots := 0, locals := 22 } : Room)) (hL : L7 sh P o) {r : Int32} {I9 : aI} (hR : am_R K (some .int) (some (.int r)) sh P I9 J 0 0) : ∀ (n : Nat) (l1 : Int32) (l2 : Int32) (l3 : Int32) (l4 : Int32) (I : aI) , f_X7_valueWith_h29 o n l1 l2 l3 l4 I = some (r, I9) → AW K 6 29 [(0, .ref o), (1, .int l1), (2, .int l2), (3, .int l3), (4, .int l4)] [] sh P I J 0 0 := by
  intro n
  induction n with
  | zero =>
    intro l1 l2 l3 l4 I hf
    cases hf
  | succ n ih =>
    intro l1 l2 l3 l4 I hf
    rw [f_X7_valueWith_h29] at hf
    refine ar_iload X dX7_valueWith_29 4 rfl ?_
    refine ar_aload_n X dX7_valueWith_31 rfl 0 rfl ?_
    refine ar_getr X dX7_valueWith_32 fg_X7_7 rfl (L7_s0 hL) (L7_p0_0 hL) ?_
    refine ar_iconst (v := 1) X dX7_valueWith_35 (by decide) ?_
    refine ar_ialdK (k := 1) X dX7_valueWith_36 (L7_s1 hL) (by decide) (by decide) ?_
    refine ar_icmp_ge (tgt := 126) X dX7_valueWith_37 (by decide) hf (fun h1 hf => ?_) (fun h1 hf => ?_)
    · refine ar_iconst (v := 0) X dX7_valueWith_126 (by decide) ?_
      refine ar_istore X dX7_valueWith_127 (by decide) rfl ?_
      refine ar_iconst (v := 0) X dX7_valueWith_129 (by decide) ?_
      refine ar_istore X dX7_valueWith_130 (by decide) rfl ?_
      refine ar_lo [2, 5, 1, 0] rfl ?_
      exact ab_X7_valueWith_h132 X hL hR am_F l3 (0 : Int32) (0 : Int32) I hf
    · refine ar_aload_n X dX7_valueWith_40 rfl 0 rfl ?_
      refine ar_iload X dX7_valueWith_41 4 rfl ?_
      refine ar_iconst (v := 2) X dX7_valueWith_43 (by decide) ?_
      obtain ⟨r2, h2, hf⟩ := am_b1_e hf
      refine ar_cVi (As := [.int l4, .int (2 : Int32)]) (st := []) X dX7_valueWith_44 (am_X7_ofLot hL h2) lk_X7_77 mt_X7_ofLot mi_X7_ofLot (L7_s0 hL) rfl rfl (Nat.le_of_ble_eq_true rfl) ⟨by decide, by decide⟩ ⟨Nat.zero_le _, Nat.zero_le _⟩ rfl ?_
      refine ar_iload_n X dX7_valueWith_47 rfl 1 rfl ?_
      refine ar_ishr X dX7_valueWith_48 ?_
      refine ar_iconst (v := 1) X dX7_valueWith_49 (by decide) ?_
      refine ar_iand X dX7_valueWith_50 ?_
      refine ar_iconst (v := 1) X dX7_valueWith_51 (by decide) ?_
      refine ar_icmp_ne (tgt := 59) X dX7_valueWith_52 (by decide) hf (fun h3 hf => ?_) (fun h3 hf => ?_)
      · refine ar_iconst (v := 1) X dX7_valueWith_55 (by decide) ?_
        refine ar_goto (tgt := 60) X dX7_valueWith_56 (by decide) ?_
        exact ab_X7_valueWith_b60 X hL hR ih l1 l2 l3 l4 (1 : Int32) I hf
      · refine ar_iconst (v := 0) X dX7_valueWith_59 (by decide) ?_
        exact ab_X7_valueWith_b60 X hL hR ih l1 l2 l3 l4 (0 : Int32) I hf
def f_X7_valueWith_h5 (o : Nat) : Nat → Int32 → Int32 → Int32 → Int32 → aI → Option (Int32 × aI)
  | 0, _, _, _, _, _ => none
  | n + 1, l1, l2, l3, l4, I =>
    if (6 : Int32) ≤ l4 then (
      f_X7_valueWith_h29 o am_F l1 l2 l3 (0 : Int32) I)
    else (
      am_g (am_ok l4 6) (am_let (am_w I (o + 6) (Int32.toNatClampNeg l4) (0 : Int32)) fun I2 =>
      f_X7_valueWith_h5 o n l1 l2 l3 (l4 + 1) I2))
set_option maxRecDepth 100000 in
set_option maxHeartbeats 4000000 in
theorem ab_X7_valueWith_h5 {K : aK} {sh : aS} {P : aP} {J : aJ} {o : Nat} (X : am_C K cX7_valueWith 6 RX7 "valueWith" ({ frames := 1, cells := 0, slots := 0, locals := 22 } : Room)) (hL : L7 sh P o) {r : Int32} {I9 : aI} (hR : am_R K (some .int) (some (.int r)) sh P I9 J 0 0) : ∀ (n : Nat) (l1 : Int32) (l2 : Int32) (l3 : Int32) (l4 : Int32) (I : aI) , f_X7_valueWith_h5 o n l1 l2 l3 l4 I = some (r, I9) → AW K 6 5 [(0, .ref o), (1, .int l1), (2, .int l2), (3, .int l3), (4, .int l4)] [] sh P I J 0 0 := by
  intro n
  induction n with
  | zero =>
    intro l1 l2 l3 l4 I hf
    cases hf
  | succ n ih =>
    intro l1 l2 l3 l4 I hf
    rw [f_X7_valueWith_h5] at hf
    refine ar_iload X dX7_valueWith_5 4 rfl ?_
    refine ar_bipush (v := 6) X dX7_valueWith_7 (by decide) ?_
    refine ar_icmp_ge (tgt := 26) X dX7_valueWith_9 (by decide) hf (fun h1 hf => ?_) (fun h1 hf => ?_)
    · refine ar_iconst (v := 0) X dX7_valueWith_26 (by decide) ?_
      refine ar_istore X dX7_valueWith_27 (by decide) rfl ?_
      refine ar_lo [1, 2, 3, 4, 0] rfl ?_
      exact ab_X7_valueWith_h29 X hL hR am_F l1 l2 l3 (0 : Int32) I hf
    · refine ar_aload_n X dX7_valueWith_12 rfl 0 rfl ?_
      refine ar_getr X dX7_valueWith_13 fg_X7_26 rfl (L7_s0 hL) (L7_p0_6 hL) ?_
      refine ar_iload X dX7_valueWith_16 4 rfl ?_
      refine ar_iconst (v := 0) X dX7_valueWith_18 (by decide) ?_
      refine ar_iast X dX7_valueWith_19 (L7_s6 hL) hf (fun I2 hf => ?_)
      refine ar_iinc (j := 4) (v := (l4 + 1)) X dX7_valueWith_20 rfl rfl (by decide) rfl ?_
      refine ar_goto (tgt := 5) X dX7_valueWith_23 (by decide) ?_
      refine ar_lo [1, 2, 3, 4, 0] rfl ?_
      exact ih l1 l2 l3 (l4 + 1) I2 hf
def f_X7_valueWith (o : Nat) (a1 : Int32) (a2 : Int32) (I : aI) : Option (Int32 × aI) :=
  f_X7_valueWith_h5 o am_F a1 a2 (0 : Int32) (0 : Int32) I
set_option maxRecDepth 100000 in
set_option maxHeartbeats 4000000 in
theorem am_X7_valueWith {sh : aS} {P : aP} {I : aI} {J : aJ} {o : Nat} (hL : L7 sh P o) {a1 : Int32} {a2 : Int32} {r : Int32} {I9 : aI} (hf : f_X7_valueWith o a1 a2 I = some (r, I9)) : AM yX7_valueWith cX7_valueWith 6 (some .int) 1 22 [.ref o, .int a1, .int a2] sh P I J (some (.int r)) sh P I9 J 0 0 := by
  refine am_met (by decide +kernel) (Nat.le_of_ble_eq_true rfl) (fun K X hR => ?_)
  have X : am_C K cX7_valueWith 6 RX7 "valueWith" ({ frames := 1, cells := 0, slots := 0, locals := 22 } : Room) := X
  show AW K 6 0 [(0, .ref o), (1, .int a1), (2, .int a2)] [] sh P I J 0 0
  unfold f_X7_valueWith at hf
  refine ar_iconst (v := 0) X dX7_valueWith_0 (by decide) ?_
  refine ar_istore_n X dX7_valueWith_1 rfl (by decide) rfl ?_
  refine ar_iconst (v := 0) X dX7_valueWith_2 (by decide) ?_
  refine ar_istore X dX7_valueWith_3 (by decide) rfl ?_
  refine ar_lo [2, 3, 4, 1, 0] rfl ?_
  exact ab_X7_valueWith_h5 X hL hR am_F a1 a2 (0 : Int32) (0 : Int32) I hf
def f_X7_limitOf (o : Nat) (a1 : Int32) (I : aI) : Option (Int32 × aI) :=
  am_b1 (f_X7_nextLot o I) fun r1 =>
  if 0 ≤ r1 then (
    am_b2 (f_X7_valueWith o a1 r1 I) fun r3 I3 =>
    am_b2 (f_X7_valueWith o a1 (-6 : Int32) I3) fun r4 I4 =>
    am_b1 (f_X7_of o a1 (1 : Int32) I4) fun r5 =>
    am_g (decide (¬ (10 : Int32) = 0)) (
    am_let (((r3 - r4) * r5) / (10 : Int32)) fun x7 =>
    am_b1 (f_X7_of o a1 (0 : Int32) I4) fun r8 =>
    if r8 ≤ x7 then (
      am_b1 (f_X7_of o a1 (0 : Int32) I4) fun r10 =>
      some (r10, I4))
    else (
      some (x7, I4))))
  else (
    some ((-6 : Int32), I))
set_option maxRecDepth 100000 in
set_option maxHeartbeats 4000000 in
theorem am_X7_limitOf {sh : aS} {P : aP} {I : aI} {J : aJ} {o : Nat} (hL : L7 sh P o) {a1 : Int32} {r : Int32} {I9 : aI} (hf : f_X7_limitOf o a1 I = some (r, I9)) : AM yX7_limitOf cX7_limitOf 4 (some .int) 2 47 [.ref o, .int a1] sh P I J (some (.int r)) sh P I9 J 0 0 := by
  refine am_met (by decide +kernel) (Nat.le_of_ble_eq_true rfl) (fun K X hR => ?_)
  have X : am_C K cX7_limitOf 4 RX7 "limitOf" ({ frames := 2, cells := 0, slots := 0, locals := 47 } : Room) := X
  show AW K 4 0 [(0, .ref o), (1, .int a1)] [] sh P I J 0 0
  unfold f_X7_limitOf at hf
  refine ar_aload_n X dX7_limitOf_0 rfl 0 rfl ?_
  obtain ⟨r1, h1, hf⟩ := am_b1_e hf
  refine ar_cVi (As := []) (st := []) X dX7_limitOf_1 (am_X7_nextLot hL h1) lk_X7_89 mt_X7_nextLot mi_X7_nextLot (L7_s0 hL) rfl rfl (Nat.le_of_ble_eq_true rfl) ⟨by decide, by decide⟩ ⟨Nat.zero_le _, Nat.zero_le _⟩ rfl ?_
  refine ar_istore_n X dX7_limitOf_4 rfl (by decide) rfl ?_
  refine ar_iload_n X dX7_limitOf_5 rfl 0 rfl ?_
  refine ar_if_ge (tgt := 12) X dX7_limitOf_6 (by decide) hf (fun h2 hf => ?_) (fun h2 hf => ?_)
  · refine ar_aload_n X dX7_limitOf_12 rfl 1 rfl ?_
    refine ar_iload_n X dX7_limitOf_13 rfl 2 rfl ?_
    refine ar_iload_n X dX7_limitOf_14 rfl 0 rfl ?_
    obtain ⟨r3, I3, h3, hf⟩ := am_b2_e hf
    refine ar_cVi (As := [.int a1, .int r1]) (st := []) X dX7_limitOf_15 (am_X7_valueWith hL h3) lk_X7_83 mt_X7_valueWith mi_X7_valueWith (L7_s0 hL) rfl rfl (Nat.le_of_ble_eq_true rfl) ⟨by decide, by decide⟩ ⟨Nat.zero_le _, Nat.zero_le _⟩ rfl ?_
    refine ar_aload_n X dX7_limitOf_18 rfl 1 rfl ?_
    refine ar_iload_n X dX7_limitOf_19 rfl 2 rfl ?_
    refine ar_bipush (v := -6) X dX7_limitOf_20 (by decide) ?_
    obtain ⟨r4, I4, h4, hf⟩ := am_b2_e hf
    refine ar_cVi (As := [.int a1, .int (-6 : Int32)]) (st := [.int r3]) X dX7_limitOf_22 (am_X7_valueWith hL h4) lk_X7_83 mt_X7_valueWith mi_X7_valueWith (L7_s0 hL) rfl rfl (Nat.le_of_ble_eq_true rfl) ⟨by decide, by decide⟩ ⟨Nat.zero_le _, Nat.zero_le _⟩ rfl ?_
    refine ar_isub X dX7_limitOf_25 ?_
    refine ar_aload_n X dX7_limitOf_26 rfl 1 rfl ?_
    refine ar_iload_n X dX7_limitOf_27 rfl 2 rfl ?_
    refine ar_iconst (v := 1) X dX7_limitOf_28 (by decide) ?_
    obtain ⟨r5, h5, hf⟩ := am_b1_e hf
    refine ar_cVi (As := [.int a1, .int (1 : Int32)]) (st := [.int (r3 - r4)]) X dX7_limitOf_29 (am_X7_of hL h5) lk_X7_70 mt_X7_of mi_X7_of (L7_s0 hL) rfl rfl (Nat.le_of_ble_eq_true rfl) ⟨by decide, by decide⟩ ⟨Nat.zero_le _, Nat.zero_le _⟩ rfl ?_
    refine ar_imul X dX7_limitOf_32 ?_
    refine ar_bipush (v := 10) X dX7_limitOf_33 (by decide) ?_
    obtain ⟨h6, hf⟩ := am_g_elim hf
    refine ar_idiv X dX7_limitOf_35 h6 ?_
    refine ar_letI hf (fun x7 hf => ?_)
    refine ar_istore_n X dX7_limitOf_36 rfl (by decide) rfl ?_
    refine ar_iload_n X dX7_limitOf_37 rfl 0 rfl ?_
    refine ar_aload_n X dX7_limitOf_38 rfl 2 rfl ?_
    refine ar_iload_n X dX7_limitOf_39 rfl 3 rfl ?_
    refine ar_iconst (v := 0) X dX7_limitOf_40 (by decide) ?_
    obtain ⟨r8, h8, hf⟩ := am_b1_e hf
    refine ar_cVi (As := [.int a1, .int (0 : Int32)]) (st := [.int x7]) X dX7_limitOf_41 (am_X7_of hL h8) lk_X7_70 mt_X7_of mi_X7_of (L7_s0 hL) rfl rfl (Nat.le_of_ble_eq_true rfl) ⟨by decide, by decide⟩ ⟨Nat.zero_le _, Nat.zero_le _⟩ rfl ?_
    refine ar_icmp_ge (tgt := 51) X dX7_limitOf_44 (by decide) hf (fun h9 hf => ?_) (fun h9 hf => ?_)
    · refine ar_aload_n X dX7_limitOf_51 rfl 2 rfl ?_
      refine ar_iload_n X dX7_limitOf_52 rfl 3 rfl ?_
      refine ar_iconst (v := 0) X dX7_limitOf_53 (by decide) ?_
      obtain ⟨r10, h10, hf⟩ := am_b1_e hf
      refine ar_cVi (As := [.int a1, .int (0 : Int32)]) (st := []) X dX7_limitOf_54 (am_X7_of hL h10) lk_X7_70 mt_X7_of mi_X7_of (L7_s0 hL) rfl rfl (Nat.le_of_ble_eq_true rfl) ⟨by decide, by decide⟩ ⟨Nat.zero_le _, Nat.zero_le _⟩ rfl ?_
      cases hf
      exact ar_iret X dX7_limitOf_57 hR (Nat.le_refl _) (Nat.le_refl _)
    · refine ar_iload_n X dX7_limitOf_47 rfl 0 rfl ?_
      refine ar_goto (tgt := 57) X dX7_limitOf_48 (by decide) ?_
      cases hf
      exact ar_iret X dX7_limitOf_57 hR (Nat.le_refl _) (Nat.le_refl _)
  · refine ar_bipush (v := -6) X dX7_limitOf_9 (by decide) ?_
    cases hf
    exact ar_iret X dX7_limitOf_11 hR (Nat.le_refl _) (Nat.le_refl _)
def f_X7_layLot (o : Nat) (a1 : Int32) (a2 : Int32) (a3 : Int32) (I : aI) : Option aI :=
  am_g (am_ok (((58 : Int32) + ((5 : Int32) * a1)) + a2) 118) (am_let (am_w I (o + 1) (Int32.toNatClampNeg (((58 : Int32) + ((5 : Int32) * a1)) + a2)) a3) fun I1 =>
  some I1)
set_option maxRecDepth 100000 in
set_option maxHeartbeats 4000000 in
theorem am_X7_layLot {sh : aS} {P : aP} {I : aI} {J : aJ} {o : Nat} (hL : L7 sh P o) {a1 : Int32} {a2 : Int32} {a3 : Int32} {I9 : aI} (hf : f_X7_layLot o a1 a2 a3 I = some I9) : AM yX7_layLot cX7_layLot 4 none 0 0 [.ref o, .int a1, .int a2, .int a3] sh P I J none sh P I9 J 0 0 := by
  refine am_met (by decide +kernel) (Nat.le_of_ble_eq_true rfl) (fun K X hR => ?_)
  have X : am_C K cX7_layLot 4 RX7 "layLot" ({ frames := 0, cells := 0, slots := 0, locals := 0 } : Room) := X
  show AW K 4 0 [(0, .ref o), (1, .int a1), (2, .int a2), (3, .int a3)] [] sh P I J 0 0
  unfold f_X7_layLot at hf
  refine ar_aload_n X dX7_layLot_0 rfl 0 rfl ?_
  refine ar_getr X dX7_layLot_1 fg_X7_7 rfl (L7_s0 hL) (L7_p0_0 hL) ?_
  refine ar_bipush (v := 58) X dX7_layLot_4 (by decide) ?_
  refine ar_iconst (v := 5) X dX7_layLot_6 (by decide) ?_
  refine ar_iload_n X dX7_layLot_7 rfl 1 rfl ?_
  refine ar_imul X dX7_layLot_8 ?_
  refine ar_iadd X dX7_layLot_9 ?_
  refine ar_iload_n X dX7_layLot_10 rfl 2 rfl ?_
  refine ar_iadd X dX7_layLot_11 ?_
  refine ar_iload_n X dX7_layLot_12 rfl 3 rfl ?_
  refine ar_iast X dX7_layLot_13 (L7_s1 hL) hf (fun I1 hf => ?_)
  cases hf
  exact ar_vret X dX7_layLot_14 hR (Nat.le_refl _) (Nat.le_refl _)
def f_X7_finish_b40 (o : Nat) (l1 : Int32) (s0 : Int32) (s1 : Int32) (s2 : Int32) (I : aI) : Option (Int32 × aI) :=
  am_b1 (f_X7_layLot o s2 s1 s0 I) fun I1 =>
  am_b1 (f_X7_clearAuction o I1) fun I2 =>
  am_let (am_w I2 (o + 1) 2 ((I2 (o + 1) 2) + (1 : Int32))) fun I3 =>
  some (l1, I3)
set_option maxRecDepth 100000 in
set_option maxHeartbeats 4000000 in
theorem ab_X7_finish_b40 {K : aK} {sh : aS} {P : aP} {J : aJ} {o : Nat} (X : am_C K cX7_finish 4 RX7 "finish" ({ frames := 2, cells := 0, slots := 0, locals := 44 } : Room)) (hL : L7 sh P o) {r : Int32} {I9 : aI} (hR : am_R K (some .int) (some (.int r)) sh P I9 J 0 0) (l1 : Int32) (s0 : Int32) (s1 : Int32) (s2 : Int32) (I : aI) (hf : f_X7_finish_b40 o l1 s0 s1 s2 I = some (r, I9)) : AW K 4 40 [(0, .ref o), (1, .int l1)] [.int s0, .int s1, .int s2, .ref o] sh P I J 0 0 := by
  unfold f_X7_finish_b40 at hf
  obtain ⟨I1, h1, hf⟩ := am_b1_e hf
  refine ar_cVv (As := [.int s2, .int s1, .int s0]) (st := []) X dX7_finish_40 (am_X7_layLot hL h1) lk_X7_74 mt_X7_layLot mi_X7_layLot (L7_s0 hL) rfl rfl (Nat.le_of_ble_eq_true rfl) ⟨by decide, by decide⟩ ⟨Nat.zero_le _, Nat.zero_le _⟩ rfl ?_
  refine ar_aload_n X dX7_finish_43 rfl 0 rfl ?_
  obtain ⟨I2, h2, hf⟩ := am_b1_e hf
  refine ar_cVv (As := []) (st := []) X dX7_finish_44 (am_X7_clearAuction hL h2) lk_X7_55 mt_X7_clearAuction mi_X7_clearAuction (L7_s0 hL) rfl rfl (Nat.le_of_ble_eq_true rfl) ⟨by decide, by decide⟩ ⟨Nat.zero_le _, Nat.zero_le _⟩ rfl ?_
  refine ar_aload_n X dX7_finish_47 rfl 0 rfl ?_
  refine ar_getr X dX7_finish_48 fg_X7_7 rfl (L7_s0 hL) (L7_p0_0 hL) ?_
  refine ar_iconst (v := 2) X dX7_finish_51 (by decide) ?_
  refine ar_dup2 X dX7_finish_52 rfl rfl ?_
  refine ar_ialdK (k := 2) X dX7_finish_53 (L7_s1 hL) (by decide) (by decide) ?_
  refine ar_iconst (v := 1) X dX7_finish_54 (by decide) ?_
  refine ar_iadd X dX7_finish_55 ?_
  refine ar_iastK (k := 2) X dX7_finish_56 (L7_s1 hL) (by decide) (by decide) hf (fun I3 hf => ?_)
  refine ar_iload_n X dX7_finish_57 rfl 1 rfl ?_
  cases hf
  exact ar_iret X dX7_finish_58 hR (Nat.le_refl _) (Nat.le_refl _)
def f_X7_finish_b25 (o : Nat) (l1 : Int32) (l3 : Int32) (s0 : Int32) (s1 : Int32) (s2 : Int32) (I : aI) : Option (Int32 × aI) :=
  am_b1 (f_X7_layLot o s2 s1 s0 I) fun I1 =>
  if l1 = 0 then (
    f_X7_finish_b40 o l1 (2 : Int32) (4 : Int32) l3 I1)
  else (
    f_X7_finish_b40 o l1 (1 : Int32) (4 : Int32) l3 I1)
set_option maxRecDepth 100000 in
set_option maxHeartbeats 4000000 in
theorem ab_X7_finish_b25 {K : aK} {sh : aS} {P : aP} {J : aJ} {o : Nat} (X : am_C K cX7_finish 4 RX7 "finish" ({ frames := 2, cells := 0, slots := 0, locals := 44 } : Room)) (hL : L7 sh P o) {r : Int32} {I9 : aI} (hR : am_R K (some .int) (some (.int r)) sh P I9 J 0 0) (l1 : Int32) (l3 : Int32) (s0 : Int32) (s1 : Int32) (s2 : Int32) (I : aI) (hf : f_X7_finish_b25 o l1 l3 s0 s1 s2 I = some (r, I9)) : AW K 4 25 [(0, .ref o), (1, .int l1), (3, .int l3)] [.int s0, .int s1, .int s2, .ref o] sh P I J 0 0 := by
  unfold f_X7_finish_b25 at hf
  obtain ⟨I1, h1, hf⟩ := am_b1_e hf
  refine ar_cVv (As := [.int s2, .int s1, .int s0]) (st := []) X dX7_finish_25 (am_X7_layLot hL h1) lk_X7_74 mt_X7_layLot mi_X7_layLot (L7_s0 hL) rfl rfl (Nat.le_of_ble_eq_true rfl) ⟨by decide, by decide⟩ ⟨Nat.zero_le _, Nat.zero_le _⟩ rfl ?_
  refine ar_aload_n X dX7_finish_28 rfl 0 rfl ?_
  refine ar_iload_n X dX7_finish_29 rfl 2 rfl ?_
  refine ar_iconst (v := 4) X dX7_finish_30 (by decide) ?_
  refine ar_iload_n X dX7_finish_31 rfl 1 rfl ?_
  refine ar_if_ne (tgt := 39) X dX7_finish_32 (by decide) hf (fun h2 hf => ?_) (fun h2 hf => ?_)
  · refine ar_iconst (v := 2) X dX7_finish_35 (by decide) ?_
    refine ar_goto (tgt := 40) X dX7_finish_36 (by decide) ?_
    refine ar_lo [0, 1] rfl ?_
    exact ab_X7_finish_b40 X hL hR l1 (2 : Int32) (4 : Int32) l3 I1 hf
  · refine ar_iconst (v := 1) X dX7_finish_39 (by decide) ?_
    refine ar_lo [0, 1] rfl ?_
    exact ab_X7_finish_b40 X hL hR l1 (1 : Int32) (4 : Int32) l3 I1 hf
def f_X7_finish (o : Nat) (a1 : Int32) (a2 : Int32) (I : aI) : Option (Int32 × aI) :=
  am_b1 (f_X7_nextLot o I) fun r1 =>
  am_b1 (f_X7_layLot o r1 (2 : Int32) a1 I) fun I2 =>
  if a1 = 0 then (
    f_X7_finish_b25 o a1 r1 (-6 : Int32) (3 : Int32) r1 I2)
  else (
    f_X7_finish_b25 o a1 r1 a2 (3 : Int32) r1 I2)
set_option maxRecDepth 100000 in
set_option maxHeartbeats 4000000 in
theorem am_X7_finish {sh : aS} {P : aP} {I : aI} {J : aJ} {o : Nat} (hL : L7 sh P o) {a1 : Int32} {a2 : Int32} {r : Int32} {I9 : aI} (hf : f_X7_finish o a1 a2 I = some (r, I9)) : AM yX7_finish cX7_finish 4 (some .int) 2 44 [.ref o, .int a1, .int a2] sh P I J (some (.int r)) sh P I9 J 0 0 := by
  refine am_met (by decide +kernel) (Nat.le_of_ble_eq_true rfl) (fun K X hR => ?_)
  have X : am_C K cX7_finish 4 RX7 "finish" ({ frames := 2, cells := 0, slots := 0, locals := 44 } : Room) := X
  show AW K 4 0 [(0, .ref o), (1, .int a1), (2, .int a2)] [] sh P I J 0 0
  unfold f_X7_finish at hf
  refine ar_aload_n X dX7_finish_0 rfl 0 rfl ?_
  obtain ⟨r1, h1, hf⟩ := am_b1_e hf
  refine ar_cVi (As := []) (st := []) X dX7_finish_1 (am_X7_nextLot hL h1) lk_X7_89 mt_X7_nextLot mi_X7_nextLot (L7_s0 hL) rfl rfl (Nat.le_of_ble_eq_true rfl) ⟨by decide, by decide⟩ ⟨Nat.zero_le _, Nat.zero_le _⟩ rfl ?_
  refine ar_istore_n X dX7_finish_4 rfl (by decide) rfl ?_
  refine ar_aload_n X dX7_finish_5 rfl 1 rfl ?_
  refine ar_iload_n X dX7_finish_6 rfl 0 rfl ?_
  refine ar_iconst (v := 2) X dX7_finish_7 (by decide) ?_
  refine ar_iload_n X dX7_finish_8 rfl 2 rfl ?_
  obtain ⟨I2, h2, hf⟩ := am_b1_e hf
  refine ar_cVv (As := [.int r1, .int (2 : Int32), .int a1]) (st := []) X dX7_finish_9 (am_X7_layLot hL h2) lk_X7_74 mt_X7_layLot mi_X7_layLot (L7_s0 hL) rfl rfl (Nat.le_of_ble_eq_true rfl) ⟨by decide, by decide⟩ ⟨Nat.zero_le _, Nat.zero_le _⟩ rfl ?_
  refine ar_aload_n X dX7_finish_12 rfl 1 rfl ?_
  refine ar_iload_n X dX7_finish_13 rfl 0 rfl ?_
  refine ar_iconst (v := 3) X dX7_finish_14 (by decide) ?_
  refine ar_iload_n X dX7_finish_15 rfl 2 rfl ?_
  refine ar_if_ne (tgt := 24) X dX7_finish_16 (by decide) hf (fun h3 hf => ?_) (fun h3 hf => ?_)
  · refine ar_bipush (v := -6) X dX7_finish_19 (by decide) ?_
    refine ar_goto (tgt := 25) X dX7_finish_21 (by decide) ?_
    refine ar_lo [1, 2, 0] rfl ?_
    exact ab_X7_finish_b25 X hL hR a1 r1 (-6 : Int32) (3 : Int32) r1 I2 hf
  · refine ar_iload_n X dX7_finish_24 rfl 3 rfl ?_
    refine ar_lo [1, 2, 0] rfl ?_
    exact ab_X7_finish_b25 X hL hR a1 r1 a2 (3 : Int32) r1 I2 hf
def f_X7_pay_b53 (o : Nat) (l1 : Int32) (l2 : Int32) (s0 : Int32) (s1 : Int32) (s2 : Int32) (I : aI) : Option aI :=
  am_b1 (f_X7_lay o s2 s1 s0 I) fun I1 =>
  am_b1 (f_X7_of o l1 (4 : Int32) I1) fun r2 =>
  am_b1 (f_X7_lay o l1 (4 : Int32) (r2 - l2) I1) fun I3 =>
  some I3
set_option maxRecDepth 100000 in
set_option maxHeartbeats 4000000 in
theorem ab_X7_pay_b53 {K : aK} {sh : aS} {P : aP} {J : aJ} {o : Nat} (X : am_C K cX7_pay 3 RX7 "pay" ({ frames := 1, cells := 0, slots := 0, locals := 23 } : Room)) (hL : L7 sh P o) {I9 : aI} (hR : am_R K none none sh P I9 J 0 0) (l1 : Int32) (l2 : Int32) (s0 : Int32) (s1 : Int32) (s2 : Int32) (I : aI) (hf : f_X7_pay_b53 o l1 l2 s0 s1 s2 I = some I9) : AW K 3 53 [(0, .ref o), (1, .int l1), (2, .int l2)] [.int s0, .int s1, .int s2, .ref o] sh P I J 0 0 := by
  unfold f_X7_pay_b53 at hf
  obtain ⟨I1, h1, hf⟩ := am_b1_e hf
  refine ar_cVv (As := [.int s2, .int s1, .int s0]) (st := []) X dX7_pay_53 (am_X7_lay hL h1) lk_X7_47 mt_X7_lay mi_X7_lay (L7_s0 hL) rfl rfl (Nat.le_of_ble_eq_true rfl) ⟨by decide, by decide⟩ ⟨Nat.zero_le _, Nat.zero_le _⟩ rfl ?_
  refine ar_aload_n X dX7_pay_56 rfl 0 rfl ?_
  refine ar_iload_n X dX7_pay_57 rfl 1 rfl ?_
  refine ar_iconst (v := 4) X dX7_pay_58 (by decide) ?_
  refine ar_aload_n X dX7_pay_59 rfl 0 rfl ?_
  refine ar_iload_n X dX7_pay_60 rfl 1 rfl ?_
  refine ar_iconst (v := 4) X dX7_pay_61 (by decide) ?_
  obtain ⟨r2, h2, hf⟩ := am_b1_e hf
  refine ar_cVi (As := [.int l1, .int (4 : Int32)]) (st := [.int (4 : Int32), .int l1, .ref o]) X dX7_pay_62 (am_X7_of hL h2) lk_X7_70 mt_X7_of mi_X7_of (L7_s0 hL) rfl rfl (Nat.le_of_ble_eq_true rfl) ⟨by decide, by decide⟩ ⟨Nat.zero_le _, Nat.zero_le _⟩ rfl ?_
  refine ar_iload_n X dX7_pay_65 rfl 2 rfl ?_
  refine ar_isub X dX7_pay_66 ?_
  obtain ⟨I3, h3, hf⟩ := am_b1_e hf
  refine ar_cVv (As := [.int l1, .int (4 : Int32), .int (r2 - l2)]) (st := []) X dX7_pay_67 (am_X7_lay hL h3) lk_X7_47 mt_X7_lay mi_X7_lay (L7_s0 hL) rfl rfl (Nat.le_of_ble_eq_true rfl) ⟨by decide, by decide⟩ ⟨Nat.zero_le _, Nat.zero_le _⟩ rfl ?_
  cases hf
  exact ar_vret X dX7_pay_70 hR (Nat.le_refl _) (Nat.le_refl _)
def f_X7_pay (o : Nat) (a1 : Int32) (a2 : Int32) (I : aI) : Option aI :=
  am_b1 (f_X7_of o a1 (0 : Int32) I) fun r1 =>
  am_b1 (f_X7_lay o a1 (0 : Int32) (r1 - a2) I) fun I2 =>
  am_b1 (f_X7_of o a1 (2 : Int32) I2) fun r3 =>
  am_b1 (f_X7_lay o a1 (2 : Int32) (r3 + a2) I2) fun I4 =>
  am_b1 (f_X7_of o a1 (3 : Int32) I4) fun r5 =>
  if r5 ≤ a2 then (
    f_X7_pay_b53 o a1 a2 (0 : Int32) (3 : Int32) a1 I4)
  else (
    am_b1 (f_X7_of o a1 (3 : Int32) I4) fun r7 =>
    f_X7_pay_b53 o a1 a2 (r7 - a2) (3 : Int32) a1 I4)
set_option maxRecDepth 100000 in
set_option maxHeartbeats 4000000 in
theorem am_X7_pay {sh : aS} {P : aP} {I : aI} {J : aJ} {o : Nat} (hL : L7 sh P o) {a1 : Int32} {a2 : Int32} {I9 : aI} (hf : f_X7_pay o a1 a2 I = some I9) : AM yX7_pay cX7_pay 3 none 1 23 [.ref o, .int a1, .int a2] sh P I J none sh P I9 J 0 0 := by
  refine am_met (by decide +kernel) (Nat.le_of_ble_eq_true rfl) (fun K X hR => ?_)
  have X : am_C K cX7_pay 3 RX7 "pay" ({ frames := 1, cells := 0, slots := 0, locals := 23 } : Room) := X
  show AW K 3 0 [(0, .ref o), (1, .int a1), (2, .int a2)] [] sh P I J 0 0
  unfold f_X7_pay at hf
  refine ar_aload_n X dX7_pay_0 rfl 0 rfl ?_
  refine ar_iload_n X dX7_pay_1 rfl 1 rfl ?_
  refine ar_iconst (v := 0) X dX7_pay_2 (by decide) ?_
  refine ar_aload_n X dX7_pay_3 rfl 0 rfl ?_
  refine ar_iload_n X dX7_pay_4 rfl 1 rfl ?_
  refine ar_iconst (v := 0) X dX7_pay_5 (by decide) ?_
  obtain ⟨r1, h1, hf⟩ := am_b1_e hf
  refine ar_cVi (As := [.int a1, .int (0 : Int32)]) (st := [.int (0 : Int32), .int a1, .ref o]) X dX7_pay_6 (am_X7_of hL h1) lk_X7_70 mt_X7_of mi_X7_of (L7_s0 hL) rfl rfl (Nat.le_of_ble_eq_true rfl) ⟨by decide, by decide⟩ ⟨Nat.zero_le _, Nat.zero_le _⟩ rfl ?_
  refine ar_iload_n X dX7_pay_9 rfl 2 rfl ?_
  refine ar_isub X dX7_pay_10 ?_
  obtain ⟨I2, h2, hf⟩ := am_b1_e hf
  refine ar_cVv (As := [.int a1, .int (0 : Int32), .int (r1 - a2)]) (st := []) X dX7_pay_11 (am_X7_lay hL h2) lk_X7_47 mt_X7_lay mi_X7_lay (L7_s0 hL) rfl rfl (Nat.le_of_ble_eq_true rfl) ⟨by decide, by decide⟩ ⟨Nat.zero_le _, Nat.zero_le _⟩ rfl ?_
  refine ar_aload_n X dX7_pay_14 rfl 0 rfl ?_
  refine ar_iload_n X dX7_pay_15 rfl 1 rfl ?_
  refine ar_iconst (v := 2) X dX7_pay_16 (by decide) ?_
  refine ar_aload_n X dX7_pay_17 rfl 0 rfl ?_
  refine ar_iload_n X dX7_pay_18 rfl 1 rfl ?_
  refine ar_iconst (v := 2) X dX7_pay_19 (by decide) ?_
  obtain ⟨r3, h3, hf⟩ := am_b1_e hf
  refine ar_cVi (As := [.int a1, .int (2 : Int32)]) (st := [.int (2 : Int32), .int a1, .ref o]) X dX7_pay_20 (am_X7_of hL h3) lk_X7_70 mt_X7_of mi_X7_of (L7_s0 hL) rfl rfl (Nat.le_of_ble_eq_true rfl) ⟨by decide, by decide⟩ ⟨Nat.zero_le _, Nat.zero_le _⟩ rfl ?_
  refine ar_iload_n X dX7_pay_23 rfl 2 rfl ?_
  refine ar_iadd X dX7_pay_24 ?_
  obtain ⟨I4, h4, hf⟩ := am_b1_e hf
  refine ar_cVv (As := [.int a1, .int (2 : Int32), .int (r3 + a2)]) (st := []) X dX7_pay_25 (am_X7_lay hL h4) lk_X7_47 mt_X7_lay mi_X7_lay (L7_s0 hL) rfl rfl (Nat.le_of_ble_eq_true rfl) ⟨by decide, by decide⟩ ⟨Nat.zero_le _, Nat.zero_le _⟩ rfl ?_
  refine ar_aload_n X dX7_pay_28 rfl 0 rfl ?_
  refine ar_iload_n X dX7_pay_29 rfl 1 rfl ?_
  refine ar_iconst (v := 3) X dX7_pay_30 (by decide) ?_
  refine ar_aload_n X dX7_pay_31 rfl 0 rfl ?_
  refine ar_iload_n X dX7_pay_32 rfl 1 rfl ?_
  refine ar_iconst (v := 3) X dX7_pay_33 (by decide) ?_
  obtain ⟨r5, h5, hf⟩ := am_b1_e hf
  refine ar_cVi (As := [.int a1, .int (3 : Int32)]) (st := [.int (3 : Int32), .int a1, .ref o]) X dX7_pay_34 (am_X7_of hL h5) lk_X7_70 mt_X7_of mi_X7_of (L7_s0 hL) rfl rfl (Nat.le_of_ble_eq_true rfl) ⟨by decide, by decide⟩ ⟨Nat.zero_le _, Nat.zero_le _⟩ rfl ?_
  refine ar_iload_n X dX7_pay_37 rfl 2 rfl ?_
  refine ar_icmp_le (tgt := 52) X dX7_pay_38 (by decide) hf (fun h6 hf => ?_) (fun h6 hf => ?_)
  · refine ar_iconst (v := 0) X dX7_pay_52 (by decide) ?_
    exact ab_X7_pay_b53 X hL hR a1 a2 (0 : Int32) (3 : Int32) a1 I4 hf
  · refine ar_aload_n X dX7_pay_41 rfl 0 rfl ?_
    refine ar_iload_n X dX7_pay_42 rfl 1 rfl ?_
    refine ar_iconst (v := 3) X dX7_pay_43 (by decide) ?_
    obtain ⟨r7, h7, hf⟩ := am_b1_e hf
    refine ar_cVi (As := [.int a1, .int (3 : Int32)]) (st := [.int (3 : Int32), .int a1, .ref o]) X dX7_pay_44 (am_X7_of hL h7) lk_X7_70 mt_X7_of mi_X7_of (L7_s0 hL) rfl rfl (Nat.le_of_ble_eq_true rfl) ⟨by decide, by decide⟩ ⟨Nat.zero_le _, Nat.zero_le _⟩ rfl ?_
    refine ar_iload_n X dX7_pay_47 rfl 2 rfl ?_
    refine ar_isub X dX7_pay_48 ?_
    refine ar_goto (tgt := 53) X dX7_pay_49 (by decide) ?_
    exact ab_X7_pay_b53 X hL hR a1 a2 (r7 - a2) (3 : Int32) a1 I4 hf
def f_X7_sellTo (o : Nat) (a1 : Int32) (a2 : Int32) (I : aI) : Option (Int32 × aI) :=
  if 0 ≤ a1 then (
    am_b1 (f_X7_pay o a1 a2 I) fun I2 =>
    am_b2 (f_X7_finish o (am_shl (1 : Int32) a1) a2 I2) fun r3 I3 =>
    some (r3, I3))
  else (
    am_b2 (f_X7_finish o (0 : Int32) (-6 : Int32) I) fun r4 I4 =>
    some (r4, I4))
set_option maxRecDepth 100000 in
set_option maxHeartbeats 4000000 in
theorem am_X7_sellTo {sh : aS} {P : aP} {I : aI} {J : aJ} {o : Nat} (hL : L7 sh P o) {a1 : Int32} {a2 : Int32} {r : Int32} {I9 : aI} (hf : f_X7_sellTo o a1 a2 I = some (r, I9)) : AM yX7_sellTo cX7_sellTo 3 (some .int) 3 67 [.ref o, .int a1, .int a2] sh P I J (some (.int r)) sh P I9 J 0 0 := by
  refine am_met (by decide +kernel) (Nat.le_of_ble_eq_true rfl) (fun K X hR => ?_)
  have X : am_C K cX7_sellTo 3 RX7 "sellTo" ({ frames := 3, cells := 0, slots := 0, locals := 67 } : Room) := X
  show AW K 3 0 [(0, .ref o), (1, .int a1), (2, .int a2)] [] sh P I J 0 0
  unfold f_X7_sellTo at hf
  refine ar_iload_n X dX7_sellTo_0 rfl 1 rfl ?_
  refine ar_if_ge (tgt := 12) X dX7_sellTo_1 (by decide) hf (fun h1 hf => ?_) (fun h1 hf => ?_)
  · refine ar_aload_n X dX7_sellTo_12 rfl 0 rfl ?_
    refine ar_iload_n X dX7_sellTo_13 rfl 1 rfl ?_
    refine ar_iload_n X dX7_sellTo_14 rfl 2 rfl ?_
    obtain ⟨I2, h2, hf⟩ := am_b1_e hf
    refine ar_cVv (As := [.int a1, .int a2]) (st := []) X dX7_sellTo_15 (am_X7_pay hL h2) lk_X7_105 mt_X7_pay mi_X7_pay (L7_s0 hL) rfl rfl (Nat.le_of_ble_eq_true rfl) ⟨by decide, by decide⟩ ⟨Nat.zero_le _, Nat.zero_le _⟩ rfl ?_
    refine ar_aload_n X dX7_sellTo_18 rfl 0 rfl ?_
    refine ar_iconst (v := 1) X dX7_sellTo_19 (by decide) ?_
    refine ar_iload_n X dX7_sellTo_20 rfl 1 rfl ?_
    refine ar_ishl X dX7_sellTo_21 ?_
    refine ar_iload_n X dX7_sellTo_22 rfl 2 rfl ?_
    obtain ⟨r3, I3, h3, hf⟩ := am_b2_e hf
    refine ar_cVi (As := [.int (am_shl (1 : Int32) a1), .int a2]) (st := []) X dX7_sellTo_23 (am_X7_finish hL h3) lk_X7_102 mt_X7_finish mi_X7_finish (L7_s0 hL) rfl rfl (Nat.le_of_ble_eq_true rfl) ⟨by decide, by decide⟩ ⟨Nat.zero_le _, Nat.zero_le _⟩ rfl ?_
    cases hf
    exact ar_iret X dX7_sellTo_26 hR (Nat.le_refl _) (Nat.le_refl _)
  · refine ar_aload_n X dX7_sellTo_4 rfl 0 rfl ?_
    refine ar_iconst (v := 0) X dX7_sellTo_5 (by decide) ?_
    refine ar_bipush (v := -6) X dX7_sellTo_6 (by decide) ?_
    obtain ⟨r4, I4, h4, hf⟩ := am_b2_e hf
    refine ar_cVi (As := [.int (0 : Int32), .int (-6 : Int32)]) (st := []) X dX7_sellTo_8 (am_X7_finish hL h4) lk_X7_102 mt_X7_finish mi_X7_finish (L7_s0 hL) rfl rfl (Nat.le_of_ble_eq_true rfl) ⟨by decide, by decide⟩ ⟨Nat.zero_le _, Nat.zero_le _⟩ rfl ?_
    cases hf
    exact ar_iret X dX7_sellTo_11 hR (Nat.le_refl _) (Nat.le_refl _)
end
