noncomputable section
def f_X7_shownPrice (o : Nat)  (I : aI) : Option Int32 :=
  if (I (o + 1) 4) = 0 then (
    some (I (o + 1) 6))
  else (
    if (I (o + 1) 4) = (2 : Int32) then (
      some (I (o + 1) 5))
    else (
      some (-6 : Int32)))
set_option maxRecDepth 100000 in
set_option maxHeartbeats 4000000 in
theorem am_X7_shownPrice {sh : aS} {P : aP} {I : aI} {J : aJ} {o : Nat} (hL : L7 sh P o)  {r : Int32} (hf : f_X7_shownPrice o I = some r) : AM yX7_shownPrice cX7_shownPrice 1 (some .int) 0 0 [.ref o] sh P I J (some (.int r)) sh P I J 0 0 := by
  refine am_met (by decide +kernel) (Nat.le_of_ble_eq_true rfl) (fun K X hR => ?_)
  have X : am_C K cX7_shownPrice 1 RX7 "shownPrice" ({ frames := 0, cells := 0, slots := 0, locals := 0 } : Room) := X
  show AW K 1 0 [(0, .ref o)] [] sh P I J 0 0
  unfold f_X7_shownPrice at hf
  refine ar_aload_n X dX7_shownPrice_0 rfl 0 rfl ?_
  refine ar_getr X dX7_shownPrice_1 fg_X7_7 rfl (L7_s0 hL) (L7_p0_0 hL) ?_
  refine ar_iconst (v := 4) X dX7_shownPrice_4 (by decide) ?_
  refine ar_ialdK (k := 4) X dX7_shownPrice_5 (L7_s1 hL) (by decide) (by decide) ?_
  refine ar_if_ne (tgt := 19) X dX7_shownPrice_6 (by decide) hf (fun h1 hf => ?_) (fun h1 hf => ?_)
  · refine ar_aload_n X dX7_shownPrice_9 rfl 0 rfl ?_
    refine ar_getr X dX7_shownPrice_10 fg_X7_7 rfl (L7_s0 hL) (L7_p0_0 hL) ?_
    refine ar_bipush (v := 6) X dX7_shownPrice_13 (by decide) ?_
    refine ar_ialdK (k := 6) X dX7_shownPrice_15 (L7_s1 hL) (by decide) (by decide) ?_
    refine ar_goto (tgt := 40) X dX7_shownPrice_16 (by decide) ?_
    cases hf
    exact ar_iret X dX7_shownPrice_40 hR (Nat.le_refl _) (Nat.le_refl _)
  · refine ar_aload_n X dX7_shownPrice_19 rfl 0 rfl ?_
    refine ar_getr X dX7_shownPrice_20 fg_X7_7 rfl (L7_s0 hL) (L7_p0_0 hL) ?_
    refine ar_iconst (v := 4) X dX7_shownPrice_23 (by decide) ?_
    refine ar_ialdK (k := 4) X dX7_shownPrice_24 (L7_s1 hL) (by decide) (by decide) ?_
    refine ar_iconst (v := 2) X dX7_shownPrice_25 (by decide) ?_
    refine ar_icmp_ne (tgt := 38) X dX7_shownPrice_26 (by decide) hf (fun h2 hf => ?_) (fun h2 hf => ?_)
    · refine ar_aload_n X dX7_shownPrice_29 rfl 0 rfl ?_
      refine ar_getr X dX7_shownPrice_30 fg_X7_7 rfl (L7_s0 hL) (L7_p0_0 hL) ?_
      refine ar_iconst (v := 5) X dX7_shownPrice_33 (by decide) ?_
      refine ar_ialdK (k := 5) X dX7_shownPrice_34 (L7_s1 hL) (by decide) (by decide) ?_
      refine ar_goto (tgt := 40) X dX7_shownPrice_35 (by decide) ?_
      cases hf
      exact ar_iret X dX7_shownPrice_40 hR (Nat.le_refl _) (Nat.le_refl _)
    · refine ar_bipush (v := -6) X dX7_shownPrice_38 (by decide) ?_
      cases hf
      exact ar_iret X dX7_shownPrice_40 hR (Nat.le_refl _) (Nat.le_refl _)
def f_X7_ofAuction (o : Nat) (a1 : Int32) (I : aI) : Option Int32 :=
  if a1 = (5 : Int32) then (
    some (I (o + 1) 4))
  else if a1 = (6 : Int32) then (
    am_b1 (f_X7_shownPrice o I) fun r3 =>
    some r3)
  else if a1 = (7 : Int32) then (
    if (I (o + 1) 4) = 0 then (
      some (I (o + 1) 7))
    else (
      some (-6 : Int32)))
  else if a1 = (8 : Int32) then (
    some (I (o + 1) 8))
  else (
    some (I (o + 1) 9))
set_option maxRecDepth 100000 in
set_option maxHeartbeats 4000000 in
theorem am_X7_ofAuction {sh : aS} {P : aP} {I : aI} {J : aJ} {o : Nat} (hL : L7 sh P o) {a1 : Int32} {r : Int32} (hf : f_X7_ofAuction o a1 I = some r) : AM yX7_ofAuction cX7_ofAuction 2 (some .int) 1 20 [.ref o, .int a1] sh P I J (some (.int r)) sh P I J 0 0 := by
  refine am_met (by decide +kernel) (Nat.le_of_ble_eq_true rfl) (fun K X hR => ?_)
  have X : am_C K cX7_ofAuction 2 RX7 "ofAuction" ({ frames := 1, cells := 0, slots := 0, locals := 20 } : Room) := X
  show AW K 2 0 [(0, .ref o), (1, .int a1)] [] sh P I J 0 0
  unfold f_X7_ofAuction at hf
  refine ar_iload_n X dX7_ofAuction_0 rfl 1 rfl ?_
  rcases am_ite hf with ⟨h1, hf⟩ | ⟨h1, hf⟩
  · refine ar_tableIn (tgt := 32) X dX7_ofAuction_1 (by rw [h1]; decide) (by rw [h1]; decide) (by rw [h1]; rfl) (by decide) ?_
    refine ar_aload_n X dX7_ofAuction_32 rfl 0 rfl ?_
    refine ar_getr X dX7_ofAuction_33 fg_X7_7 rfl (L7_s0 hL) (L7_p0_0 hL) ?_
    refine ar_iconst (v := 4) X dX7_ofAuction_36 (by decide) ?_
    refine ar_ialdK (k := 4) X dX7_ofAuction_37 (L7_s1 hL) (by decide) (by decide) ?_
    cases hf
    exact ar_iret X dX7_ofAuction_38 hR (Nat.le_refl _) (Nat.le_refl _)
  rcases am_ite hf with ⟨h2, hf⟩ | ⟨h2, hf⟩
  · refine ar_tableIn (tgt := 39) X dX7_ofAuction_1 (by rw [h2]; decide) (by rw [h2]; decide) (by rw [h2]; rfl) (by decide) ?_
    refine ar_aload_n X dX7_ofAuction_39 rfl 0 rfl ?_
    obtain ⟨r3, h3, hf⟩ := am_b1_e hf
    refine ar_cVi (As := []) (st := []) X dX7_ofAuction_40 (am_X7_shownPrice hL h3) lk_X7_169 mt_X7_shownPrice mi_X7_shownPrice (L7_s0 hL) rfl rfl (Nat.le_of_ble_eq_true rfl) ⟨by decide, by decide⟩ ⟨Nat.zero_le _, Nat.zero_le _⟩ rfl ?_
    cases hf
    exact ar_iret X dX7_ofAuction_43 hR (Nat.le_refl _) (Nat.le_refl _)
  rcases am_ite hf with ⟨h4, hf⟩ | ⟨h4, hf⟩
  · refine ar_tableIn (tgt := 44) X dX7_ofAuction_1 (by rw [h4]; decide) (by rw [h4]; decide) (by rw [h4]; rfl) (by decide) ?_
    refine ar_aload_n X dX7_ofAuction_44 rfl 0 rfl ?_
    refine ar_getr X dX7_ofAuction_45 fg_X7_7 rfl (L7_s0 hL) (L7_p0_0 hL) ?_
    refine ar_iconst (v := 4) X dX7_ofAuction_48 (by decide) ?_
    refine ar_ialdK (k := 4) X dX7_ofAuction_49 (L7_s1 hL) (by decide) (by decide) ?_
    refine ar_if_ne (tgt := 63) X dX7_ofAuction_50 (by decide) hf (fun h5 hf => ?_) (fun h5 hf => ?_)
    · refine ar_aload_n X dX7_ofAuction_53 rfl 0 rfl ?_
      refine ar_getr X dX7_ofAuction_54 fg_X7_7 rfl (L7_s0 hL) (L7_p0_0 hL) ?_
      refine ar_bipush (v := 7) X dX7_ofAuction_57 (by decide) ?_
      refine ar_ialdK (k := 7) X dX7_ofAuction_59 (L7_s1 hL) (by decide) (by decide) ?_
      refine ar_goto (tgt := 65) X dX7_ofAuction_60 (by decide) ?_
      cases hf
      exact ar_iret X dX7_ofAuction_65 hR (Nat.le_refl _) (Nat.le_refl _)
    · refine ar_bipush (v := -6) X dX7_ofAuction_63 (by decide) ?_
      cases hf
      exact ar_iret X dX7_ofAuction_65 hR (Nat.le_refl _) (Nat.le_refl _)
  rcases am_ite hf with ⟨h6, hf⟩ | ⟨h6, hf⟩
  · refine ar_tableIn (tgt := 66) X dX7_ofAuction_1 (by rw [h6]; decide) (by rw [h6]; decide) (by rw [h6]; rfl) (by decide) ?_
    refine ar_aload_n X dX7_ofAuction_66 rfl 0 rfl ?_
    refine ar_getr X dX7_ofAuction_67 fg_X7_7 rfl (L7_s0 hL) (L7_p0_0 hL) ?_
    refine ar_bipush (v := 8) X dX7_ofAuction_70 (by decide) ?_
    refine ar_ialdK (k := 8) X dX7_ofAuction_72 (L7_s1 hL) (by decide) (by decide) ?_
    cases hf
    exact ar_iret X dX7_ofAuction_73 hR (Nat.le_refl _) (Nat.le_refl _)
  have hout : a1.toInt < 5 ∨ 8 < a1.toInt := by
    refine Classical.byContradiction (fun hn => ?_)
    have hTT : a1.toInt = 5 ∨ a1.toInt = 6 ∨ a1.toInt = 7 ∨ a1.toInt = 8 := by omega
    rcases hTT with hTT | hTT | hTT | hTT
    · exact h1 (Int32.toInt_inj.mp hTT)
    · exact h2 (Int32.toInt_inj.mp hTT)
    · exact h4 (Int32.toInt_inj.mp hTT)
    · exact h6 (Int32.toInt_inj.mp hTT)
  refine ar_tableOut (tgt := 74) X dX7_ofAuction_1 hout (by decide) ?_
  refine ar_aload_n X dX7_ofAuction_74 rfl 0 rfl ?_
  refine ar_getr X dX7_ofAuction_75 fg_X7_7 rfl (L7_s0 hL) (L7_p0_0 hL) ?_
  refine ar_bipush (v := 9) X dX7_ofAuction_78 (by decide) ?_
  refine ar_ialdK (k := 9) X dX7_ofAuction_80 (L7_s1 hL) (by decide) (by decide) ?_
  cases hf
  exact ar_iret X dX7_ofAuction_81 hR (Nat.le_refl _) (Nat.le_refl _)
def f_X7_count (o : Nat) (a1 : Int32) (I : aI) : Option Int32 :=
  am_b1 (f_X7_in a1 (5 : Int32) (9 : Int32)) fun r1 =>
  if r1 = 0 then (
    am_b1 (f_X7_in a1 (13 : Int32) (18 : Int32)) fun r3 =>
    if r3 = 0 then (
      if a1 = (0 : Int32) then (
        some (I (o + 1) 0))
      else if a1 = (1 : Int32) then (
        some (I (o + 1) 1))
      else if a1 = (2 : Int32) then (
        am_b1 (f_X7_nextLot o I) fun r8 =>
        some r8)
      else if a1 = (3 : Int32) then (
        am_b1 (f_X7_starter o I) fun r10 =>
        some r10)
      else if a1 = (4 : Int32) then (
        some (I (o + 1) 3))
      else if a1 = (5 : Int32) then (
        some (-2 : Int32))
      else if a1 = (6 : Int32) then (
        some (-2 : Int32))
      else if a1 = (7 : Int32) then (
        some (-2 : Int32))
      else if a1 = (8 : Int32) then (
        some (-2 : Int32))
      else if a1 = (9 : Int32) then (
        some (-2 : Int32))
      else if a1 = (10 : Int32) then (
        am_b1 (f_X7_sumOf o (0 : Int32) I) fun r18 =>
        some r18)
      else if a1 = (11 : Int32) then (
        am_b1 (f_X7_sumOf o (2 : Int32) I) fun r20 =>
        some r20)
      else if a1 = (12 : Int32) then (
        some (I o 5))
      else (
        some (-2 : Int32)))
    else (
      am_b1 (f_X7_setting o (a1 - (13 : Int32)) I) fun r22 =>
      some r22))
  else (
    am_b1 (f_X7_goes o I) fun r23 =>
    if r23 = 0 then (
      some (-6 : Int32))
    else (
      am_b1 (f_X7_ofAuction o a1 I) fun r25 =>
      some r25))
set_option maxRecDepth 100000 in
set_option maxHeartbeats 4000000 in
theorem am_X7_count {sh : aS} {P : aP} {I : aI} {J : aJ} {o : Nat} (hL : L7 sh P o) {a1 : Int32} {r : Int32} (hf : f_X7_count o a1 I = some r) : AM yX7_count cX7_count 2 (some .int) 2 45 [.ref o, .int a1] sh P I J (some (.int r)) sh P I J 0 0 := by
  refine am_met (by decide +kernel) (Nat.le_of_ble_eq_true rfl) (fun K X hR => ?_)
  have X : am_C K cX7_count 2 RX7 "count" ({ frames := 2, cells := 0, slots := 0, locals := 45 } : Room) := X
  show AW K 2 0 [(0, .ref o), (1, .int a1)] [] sh P I J 0 0
  unfold f_X7_count at hf
  refine ar_iload_n X dX7_count_0 rfl 1 rfl ?_
  refine ar_iconst (v := 5) X dX7_count_1 (by decide) ?_
  refine ar_bipush (v := 9) X dX7_count_2 (by decide) ?_
  obtain ⟨r1, h1, hf⟩ := am_b1_e hf
  refine ar_cSi (As := [.int a1, .int (5 : Int32), .int (9 : Int32)]) (st := []) X dX7_count_4 (am_X7_in h1) lk_X7_43 mt_X7_in ms_X7_in rfl (Nat.le_of_ble_eq_true rfl) ⟨by decide, by decide⟩ ⟨Nat.zero_le _, Nat.zero_le _⟩ rfl ?_
  refine ar_if_eq (tgt := 28) X dX7_count_7 (by decide) hf (fun h2 hf => ?_) (fun h2 hf => ?_)
  · refine ar_iload_n X dX7_count_28 rfl 1 rfl ?_
    refine ar_bipush (v := 13) X dX7_count_29 (by decide) ?_
    refine ar_bipush (v := 18) X dX7_count_31 (by decide) ?_
    obtain ⟨r3, h3, hf⟩ := am_b1_e hf
    refine ar_cSi (As := [.int a1, .int (13 : Int32), .int (18 : Int32)]) (st := []) X dX7_count_33 (am_X7_in h3) lk_X7_43 mt_X7_in ms_X7_in rfl (Nat.le_of_ble_eq_true rfl) ⟨by decide, by decide⟩ ⟨Nat.zero_le _, Nat.zero_le _⟩ rfl ?_
    refine ar_if_eq (tgt := 48) X dX7_count_36 (by decide) hf (fun h4 hf => ?_) (fun h4 hf => ?_)
    · refine ar_iload_n X dX7_count_48 rfl 1 rfl ?_
      rcases am_ite hf with ⟨h5, hf⟩ | ⟨h5, hf⟩
      · refine ar_tableIn (tgt := 116) X dX7_count_49 (by rw [h5]; decide) (by rw [h5]; decide) (by rw [h5]; rfl) (by decide) ?_
        refine ar_aload_n X dX7_count_116 rfl 0 rfl ?_
        refine ar_getr X dX7_count_117 fg_X7_7 rfl (L7_s0 hL) (L7_p0_0 hL) ?_
        refine ar_iconst (v := 0) X dX7_count_120 (by decide) ?_
        refine ar_ialdK (k := 0) X dX7_count_121 (L7_s1 hL) (by decide) (by decide) ?_
        cases hf
        exact ar_iret X dX7_count_122 hR (Nat.le_refl _) (Nat.le_refl _)
      rcases am_ite hf with ⟨h6, hf⟩ | ⟨h6, hf⟩
      · refine ar_tableIn (tgt := 123) X dX7_count_49 (by rw [h6]; decide) (by rw [h6]; decide) (by rw [h6]; rfl) (by decide) ?_
        refine ar_aload_n X dX7_count_123 rfl 0 rfl ?_
        refine ar_getr X dX7_count_124 fg_X7_7 rfl (L7_s0 hL) (L7_p0_0 hL) ?_
        refine ar_iconst (v := 1) X dX7_count_127 (by decide) ?_
        refine ar_ialdK (k := 1) X dX7_count_128 (L7_s1 hL) (by decide) (by decide) ?_
        cases hf
        exact ar_iret X dX7_count_129 hR (Nat.le_refl _) (Nat.le_refl _)
      rcases am_ite hf with ⟨h7, hf⟩ | ⟨h7, hf⟩
      · refine ar_tableIn (tgt := 130) X dX7_count_49 (by rw [h7]; decide) (by rw [h7]; decide) (by rw [h7]; rfl) (by decide) ?_
        refine ar_aload_n X dX7_count_130 rfl 0 rfl ?_
        obtain ⟨r8, h8, hf⟩ := am_b1_e hf
        refine ar_cVi (As := []) (st := []) X dX7_count_131 (am_X7_nextLot hL h8) lk_X7_89 mt_X7_nextLot mi_X7_nextLot (L7_s0 hL) rfl rfl (Nat.le_of_ble_eq_true rfl) ⟨by decide, by decide⟩ ⟨Nat.zero_le _, Nat.zero_le _⟩ rfl ?_
        cases hf
        exact ar_iret X dX7_count_134 hR (Nat.le_refl _) (Nat.le_refl _)
      rcases am_ite hf with ⟨h9, hf⟩ | ⟨h9, hf⟩
      · refine ar_tableIn (tgt := 135) X dX7_count_49 (by rw [h9]; decide) (by rw [h9]; decide) (by rw [h9]; rfl) (by decide) ?_
        refine ar_aload_n X dX7_count_135 rfl 0 rfl ?_
        obtain ⟨r10, h10, hf⟩ := am_b1_e hf
        refine ar_cVi (As := []) (st := []) X dX7_count_136 (am_X7_starter hL h10) lk_X7_93 mt_X7_starter mi_X7_starter (L7_s0 hL) rfl rfl (Nat.le_of_ble_eq_true rfl) ⟨by decide, by decide⟩ ⟨Nat.zero_le _, Nat.zero_le _⟩ rfl ?_
        cases hf
        exact ar_iret X dX7_count_139 hR (Nat.le_refl _) (Nat.le_refl _)
      rcases am_ite hf with ⟨h11, hf⟩ | ⟨h11, hf⟩
      · refine ar_tableIn (tgt := 140) X dX7_count_49 (by rw [h11]; decide) (by rw [h11]; decide) (by rw [h11]; rfl) (by decide) ?_
        refine ar_aload_n X dX7_count_140 rfl 0 rfl ?_
        refine ar_getr X dX7_count_141 fg_X7_7 rfl (L7_s0 hL) (L7_p0_0 hL) ?_
        refine ar_iconst (v := 3) X dX7_count_144 (by decide) ?_
        refine ar_ialdK (k := 3) X dX7_count_145 (L7_s1 hL) (by decide) (by decide) ?_
        cases hf
        exact ar_iret X dX7_count_146 hR (Nat.le_refl _) (Nat.le_refl _)
      rcases am_ite hf with ⟨h12, hf⟩ | ⟨h12, hf⟩
      · refine ar_tableIn (tgt := 164) X dX7_count_49 (by rw [h12]; decide) (by rw [h12]; decide) (by rw [h12]; rfl) (by decide) ?_
        refine ar_bipush (v := -2) X dX7_count_164 (by decide) ?_
        cases hf
        exact ar_iret X dX7_count_166 hR (Nat.le_refl _) (Nat.le_refl _)
      rcases am_ite hf with ⟨h13, hf⟩ | ⟨h13, hf⟩
      · refine ar_tableIn (tgt := 164) X dX7_count_49 (by rw [h13]; decide) (by rw [h13]; decide) (by rw [h13]; rfl) (by decide) ?_
        refine ar_bipush (v := -2) X dX7_count_164 (by decide) ?_
        cases hf
        exact ar_iret X dX7_count_166 hR (Nat.le_refl _) (Nat.le_refl _)
      rcases am_ite hf with ⟨h14, hf⟩ | ⟨h14, hf⟩
      · refine ar_tableIn (tgt := 164) X dX7_count_49 (by rw [h14]; decide) (by rw [h14]; decide) (by rw [h14]; rfl) (by decide) ?_
        refine ar_bipush (v := -2) X dX7_count_164 (by decide) ?_
        cases hf
        exact ar_iret X dX7_count_166 hR (Nat.le_refl _) (Nat.le_refl _)
      rcases am_ite hf with ⟨h15, hf⟩ | ⟨h15, hf⟩
      · refine ar_tableIn (tgt := 164) X dX7_count_49 (by rw [h15]; decide) (by rw [h15]; decide) (by rw [h15]; rfl) (by decide) ?_
        refine ar_bipush (v := -2) X dX7_count_164 (by decide) ?_
        cases hf
        exact ar_iret X dX7_count_166 hR (Nat.le_refl _) (Nat.le_refl _)
      rcases am_ite hf with ⟨h16, hf⟩ | ⟨h16, hf⟩
      · refine ar_tableIn (tgt := 164) X dX7_count_49 (by rw [h16]; decide) (by rw [h16]; decide) (by rw [h16]; rfl) (by decide) ?_
        refine ar_bipush (v := -2) X dX7_count_164 (by decide) ?_
        cases hf
        exact ar_iret X dX7_count_166 hR (Nat.le_refl _) (Nat.le_refl _)
      rcases am_ite hf with ⟨h17, hf⟩ | ⟨h17, hf⟩
      · refine ar_tableIn (tgt := 147) X dX7_count_49 (by rw [h17]; decide) (by rw [h17]; decide) (by rw [h17]; rfl) (by decide) ?_
        refine ar_aload_n X dX7_count_147 rfl 0 rfl ?_
        refine ar_iconst (v := 0) X dX7_count_148 (by decide) ?_
        obtain ⟨r18, h18, hf⟩ := am_b1_e hf
        refine ar_cVi (As := [.int (0 : Int32)]) (st := []) X dX7_count_149 (am_X7_sumOf hL h18) lk_X7_175 mt_X7_sumOf mi_X7_sumOf (L7_s0 hL) rfl rfl (Nat.le_of_ble_eq_true rfl) ⟨by decide, by decide⟩ ⟨Nat.zero_le _, Nat.zero_le _⟩ rfl ?_
        cases hf
        exact ar_iret X dX7_count_152 hR (Nat.le_refl _) (Nat.le_refl _)
      rcases am_ite hf with ⟨h19, hf⟩ | ⟨h19, hf⟩
      · refine ar_tableIn (tgt := 153) X dX7_count_49 (by rw [h19]; decide) (by rw [h19]; decide) (by rw [h19]; rfl) (by decide) ?_
        refine ar_aload_n X dX7_count_153 rfl 0 rfl ?_
        refine ar_iconst (v := 2) X dX7_count_154 (by decide) ?_
        obtain ⟨r20, h20, hf⟩ := am_b1_e hf
        refine ar_cVi (As := [.int (2 : Int32)]) (st := []) X dX7_count_155 (am_X7_sumOf hL h20) lk_X7_175 mt_X7_sumOf mi_X7_sumOf (L7_s0 hL) rfl rfl (Nat.le_of_ble_eq_true rfl) ⟨by decide, by decide⟩ ⟨Nat.zero_le _, Nat.zero_le _⟩ rfl ?_
        cases hf
        exact ar_iret X dX7_count_158 hR (Nat.le_refl _) (Nat.le_refl _)
      rcases am_ite hf with ⟨h21, hf⟩ | ⟨h21, hf⟩
      · refine ar_tableIn (tgt := 159) X dX7_count_49 (by rw [h21]; decide) (by rw [h21]; decide) (by rw [h21]; rfl) (by decide) ?_
        refine ar_aload_n X dX7_count_159 rfl 0 rfl ?_
        refine ar_geti X dX7_count_160 fg_X7_178 rfl (L7_s0 hL) ?_
        cases hf
        exact ar_iret X dX7_count_163 hR (Nat.le_refl _) (Nat.le_refl _)
      have hout : a1.toInt < 0 ∨ 12 < a1.toInt := by
        refine Classical.byContradiction (fun hn => ?_)
        have hTT : a1.toInt = 0 ∨ a1.toInt = 1 ∨ a1.toInt = 2 ∨ a1.toInt = 3 ∨ a1.toInt = 4 ∨ a1.toInt = 5 ∨ a1.toInt = 6 ∨ a1.toInt = 7 ∨ a1.toInt = 8 ∨ a1.toInt = 9 ∨ a1.toInt = 10 ∨ a1.toInt = 11 ∨ a1.toInt = 12 := by omega
        rcases hTT with hTT | hTT | hTT | hTT | hTT | hTT | hTT | hTT | hTT | hTT | hTT | hTT | hTT
        · exact h5 (Int32.toInt_inj.mp hTT)
        · exact h6 (Int32.toInt_inj.mp hTT)
        · exact h7 (Int32.toInt_inj.mp hTT)
        · exact h9 (Int32.toInt_inj.mp hTT)
        · exact h11 (Int32.toInt_inj.mp hTT)
        · exact h12 (Int32.toInt_inj.mp hTT)
        · exact h13 (Int32.toInt_inj.mp hTT)
        · exact h14 (Int32.toInt_inj.mp hTT)
        · exact h15 (Int32.toInt_inj.mp hTT)
        · exact h16 (Int32.toInt_inj.mp hTT)
        · exact h17 (Int32.toInt_inj.mp hTT)
        · exact h19 (Int32.toInt_inj.mp hTT)
        · exact h21 (Int32.toInt_inj.mp hTT)
      refine ar_tableOut (tgt := 164) X dX7_count_49 hout (by decide) ?_
      refine ar_bipush (v := -2) X dX7_count_164 (by decide) ?_
      cases hf
      exact ar_iret X dX7_count_166 hR (Nat.le_refl _) (Nat.le_refl _)
    · refine ar_aload_n X dX7_count_39 rfl 0 rfl ?_
      refine ar_iload_n X dX7_count_40 rfl 1 rfl ?_
      refine ar_bipush (v := 13) X dX7_count_41 (by decide) ?_
      refine ar_isub X dX7_count_43 ?_
      obtain ⟨r22, h22, hf⟩ := am_b1_e hf
      refine ar_cVi (As := [.int (a1 - (13 : Int32))]) (st := []) X dX7_count_44 (am_X7_setting hL h22) lk_X7_51 mt_X7_setting mi_X7_setting (L7_s0 hL) rfl rfl (Nat.le_of_ble_eq_true rfl) ⟨by decide, by decide⟩ ⟨Nat.zero_le _, Nat.zero_le _⟩ rfl ?_
      cases hf
      exact ar_iret X dX7_count_47 hR (Nat.le_refl _) (Nat.le_refl _)
  · refine ar_aload_n X dX7_count_10 rfl 0 rfl ?_
    obtain ⟨r23, h23, hf⟩ := am_b1_e hf
    refine ar_cVi (As := []) (st := []) X dX7_count_11 (am_X7_goes hL h23) lk_X7_62 mt_X7_goes mi_X7_goes (L7_s0 hL) rfl rfl (Nat.le_of_ble_eq_true rfl) ⟨by decide, by decide⟩ ⟨Nat.zero_le _, Nat.zero_le _⟩ rfl ?_
    refine ar_if_eq (tgt := 25) X dX7_count_14 (by decide) hf (fun h24 hf => ?_) (fun h24 hf => ?_)
    · refine ar_bipush (v := -6) X dX7_count_25 (by decide) ?_
      cases hf
      exact ar_iret X dX7_count_27 hR (Nat.le_refl _) (Nat.le_refl _)
    · refine ar_aload_n X dX7_count_17 rfl 0 rfl ?_
      refine ar_iload_n X dX7_count_18 rfl 1 rfl ?_
      obtain ⟨r25, h25, hf⟩ := am_b1_e hf
      refine ar_cVi (As := [.int a1]) (st := []) X dX7_count_19 (am_X7_ofAuction hL h25) lk_X7_172 mt_X7_ofAuction mi_X7_ofAuction (L7_s0 hL) rfl rfl (Nat.le_of_ble_eq_true rfl) ⟨by decide, by decide⟩ ⟨Nat.zero_le _, Nat.zero_le _⟩ rfl ?_
      refine ar_goto (tgt := 27) X dX7_count_22 (by decide) ?_
      cases hf
      exact ar_iret X dX7_count_27 hR (Nat.le_refl _) (Nat.le_refl _)
def f_X7_embolden (o : Nat) (a1 : Int32) (a2 : Int32) (I : aI) : Option (Int32 × aI) :=
  am_b1 (f_X7_isPlayer o a1 I) fun r1 =>
  if r1 = 0 then (
    some ((-1 : Int32), I))
  else (
    am_b1 (f_X7_in a2 (0 : Int32) (30 : Int32)) fun r3 =>
    if r3 = 0 then (
      some ((-2 : Int32), I))
    else (
      am_b1 (f_X7_of o a1 (1 : Int32) I) fun r5 =>
      am_b1 (f_X7_lay o a1 (1 : Int32) a2 I) fun I6 =>
      some (r5, I6)))
set_option maxRecDepth 100000 in
set_option maxHeartbeats 4000000 in
theorem am_X7_embolden {sh : aS} {P : aP} {I : aI} {J : aJ} {o : Nat} (hL : L7 sh P o) {a1 : Int32} {a2 : Int32} {r : Int32} {I9 : aI} (hf : f_X7_embolden o a1 a2 I = some (r, I9)) : AM yX7_embolden cX7_embolden 4 (some .int) 2 43 [.ref o, .int a1, .int a2] sh P I J (some (.int r)) sh P I9 J 0 0 := by
  refine am_met (by decide +kernel) (Nat.le_of_ble_eq_true rfl) (fun K X hR => ?_)
  have X : am_C K cX7_embolden 4 RX7 "embolden" ({ frames := 2, cells := 0, slots := 0, locals := 43 } : Room) := X
  show AW K 4 0 [(0, .ref o), (1, .int a1), (2, .int a2)] [] sh P I J 0 0
  unfold f_X7_embolden at hf
  refine ar_aload_n X dX7_embolden_0 rfl 0 rfl ?_
  refine ar_iload_n X dX7_embolden_1 rfl 1 rfl ?_
  obtain ⟨r1, h1, hf⟩ := am_b1_e hf
  refine ar_cVi (As := [.int a1]) (st := []) X dX7_embolden_2 (am_X7_isPlayer hL h1) lk_X7_66 mt_X7_isPlayer mi_X7_isPlayer (L7_s0 hL) rfl rfl (Nat.le_of_ble_eq_true rfl) ⟨by decide, by decide⟩ ⟨Nat.zero_le _, Nat.zero_le _⟩ rfl ?_
  refine ar_if_ne (tgt := 10) X dX7_embolden_5 (by decide) hf (fun h2 hf => ?_) (fun h2 hf => ?_)
  · refine ar_iconst (v := -1) X dX7_embolden_8 (by decide) ?_
    cases hf
    exact ar_iret X dX7_embolden_9 hR (Nat.le_refl _) (Nat.le_refl _)
  · refine ar_iload_n X dX7_embolden_10 rfl 2 rfl ?_
    refine ar_iconst (v := 0) X dX7_embolden_11 (by decide) ?_
    refine ar_bipush (v := 30) X dX7_embolden_12 (by decide) ?_
    obtain ⟨r3, h3, hf⟩ := am_b1_e hf
    refine ar_cSi (As := [.int a2, .int (0 : Int32), .int (30 : Int32)]) (st := []) X dX7_embolden_14 (am_X7_in h3) lk_X7_43 mt_X7_in ms_X7_in rfl (Nat.le_of_ble_eq_true rfl) ⟨by decide, by decide⟩ ⟨Nat.zero_le _, Nat.zero_le _⟩ rfl ?_
    refine ar_if_ne (tgt := 23) X dX7_embolden_17 (by decide) hf (fun h4 hf => ?_) (fun h4 hf => ?_)
    · refine ar_bipush (v := -2) X dX7_embolden_20 (by decide) ?_
      cases hf
      exact ar_iret X dX7_embolden_22 hR (Nat.le_refl _) (Nat.le_refl _)
    · refine ar_aload_n X dX7_embolden_23 rfl 0 rfl ?_
      refine ar_iload_n X dX7_embolden_24 rfl 1 rfl ?_
      refine ar_iconst (v := 1) X dX7_embolden_25 (by decide) ?_
      obtain ⟨r5, h5, hf⟩ := am_b1_e hf
      refine ar_cVi (As := [.int a1, .int (1 : Int32)]) (st := []) X dX7_embolden_26 (am_X7_of hL h5) lk_X7_70 mt_X7_of mi_X7_of (L7_s0 hL) rfl rfl (Nat.le_of_ble_eq_true rfl) ⟨by decide, by decide⟩ ⟨Nat.zero_le _, Nat.zero_le _⟩ rfl ?_
      refine ar_istore_n X dX7_embolden_29 rfl (by decide) rfl ?_
      refine ar_aload_n X dX7_embolden_30 rfl 1 rfl ?_
      refine ar_iload_n X dX7_embolden_31 rfl 2 rfl ?_
      refine ar_iconst (v := 1) X dX7_embolden_32 (by decide) ?_
      refine ar_iload_n X dX7_embolden_33 rfl 3 rfl ?_
      obtain ⟨I6, h6, hf⟩ := am_b1_e hf
      refine ar_cVv (As := [.int a1, .int (1 : Int32), .int a2]) (st := []) X dX7_embolden_34 (am_X7_lay hL h6) lk_X7_47 mt_X7_lay mi_X7_lay (L7_s0 hL) rfl rfl (Nat.le_of_ble_eq_true rfl) ⟨by decide, by decide⟩ ⟨Nat.zero_le _, Nat.zero_le _⟩ rfl ?_
      refine ar_iload_n X dX7_embolden_37 rfl 0 rfl ?_
      cases hf
      exact ar_iret X dX7_embolden_38 hR (Nat.le_refl _) (Nat.le_refl _)
def f_X7_extreme_b65 (o : Nat) (l2 : Int32) (l3 : Int32) (s0 : Int32) (s1 : Int32) (I : aI) : Option Int32 :=
  am_b1 (f_X7_of o s1 s0 I) fun r1 =>
  if l2 = 0 then (
    if r1 ≤ l3 then (
      some r1)
    else (
      some l3))
  else (
    if l3 ≤ r1 then (
      some r1)
    else (
      some l3))
set_option maxRecDepth 100000 in
set_option maxHeartbeats 4000000 in
theorem ab_X7_extreme_b65 {K : aK} {sh : aS} {P : aP} {I : aI} {J : aJ} {o : Nat} (X : am_C K cX7_extreme 5 RX7 "extreme" ({ frames := 2, cells := 0, slots := 0, locals := 45 } : Room)) (hL : L7 sh P o) {r : Int32} (hR : am_R K (some .int) (some (.int r)) sh P I J 0 0) (l2 : Int32) (l3 : Int32) (s0 : Int32) (s1 : Int32) (hf : f_X7_extreme_b65 o l2 l3 s0 s1 I = some r) : AW K 5 65 [(2, .int l2), (3, .int l3)] [.int s0, .int s1, .ref o] sh P I J 0 0 := by
  unfold f_X7_extreme_b65 at hf
  obtain ⟨r1, h1, hf⟩ := am_b1_e hf
  refine ar_cVi (As := [.int s1, .int s0]) (st := []) X dX7_extreme_65 (am_X7_of hL h1) lk_X7_70 mt_X7_of mi_X7_of (L7_s0 hL) rfl rfl (Nat.le_of_ble_eq_true rfl) ⟨by decide, by decide⟩ ⟨Nat.zero_le _, Nat.zero_le _⟩ rfl ?_
  refine ar_istore X dX7_extreme_68 (by decide) rfl ?_
  refine ar_iload_n X dX7_extreme_70 rfl 1 rfl ?_
  refine ar_if_eq (tgt := 89) X dX7_extreme_71 (by decide) hf (fun h2 hf => ?_) (fun h2 hf => ?_)
  · refine ar_iload_n X dX7_extreme_89 rfl 2 rfl ?_
    refine ar_iload X dX7_extreme_90 0 rfl ?_
    refine ar_icmp_ge (tgt := 99) X dX7_extreme_92 (by decide) hf (fun h3 hf => ?_) (fun h3 hf => ?_)
    · refine ar_iload X dX7_extreme_99 0 rfl ?_
      cases hf
      exact ar_iret X dX7_extreme_101 hR (Nat.le_refl _) (Nat.le_refl _)
    · refine ar_iload_n X dX7_extreme_95 rfl 2 rfl ?_
      refine ar_goto (tgt := 101) X dX7_extreme_96 (by decide) ?_
      cases hf
      exact ar_iret X dX7_extreme_101 hR (Nat.le_refl _) (Nat.le_refl _)
  · refine ar_iload_n X dX7_extreme_74 rfl 2 rfl ?_
    refine ar_iload X dX7_extreme_75 0 rfl ?_
    refine ar_icmp_le (tgt := 84) X dX7_extreme_77 (by decide) hf (fun h4 hf => ?_) (fun h4 hf => ?_)
    · refine ar_iload X dX7_extreme_84 0 rfl ?_
      refine ar_goto (tgt := 101) X dX7_extreme_86 (by decide) ?_
      cases hf
      exact ar_iret X dX7_extreme_101 hR (Nat.le_refl _) (Nat.le_refl _)
    · refine ar_iload_n X dX7_extreme_80 rfl 2 rfl ?_
      refine ar_goto (tgt := 101) X dX7_extreme_81 (by decide) ?_
      cases hf
      exact ar_iret X dX7_extreme_101 hR (Nat.le_refl _) (Nat.le_refl _)
def f_X7_extreme_b54 (o : Nat) (l1 : Int32) (l2 : Int32) (l3 : Int32) (I : aI) : Option Int32 :=
  if l2 = 0 then (
    f_X7_extreme_b65 o l2 l3 (4 : Int32) l1 I)
  else (
    f_X7_extreme_b65 o l2 l3 (3 : Int32) l1 I)
set_option maxRecDepth 100000 in
set_option maxHeartbeats 4000000 in
theorem ab_X7_extreme_b54 {K : aK} {sh : aS} {P : aP} {I : aI} {J : aJ} {o : Nat} (X : am_C K cX7_extreme 5 RX7 "extreme" ({ frames := 2, cells := 0, slots := 0, locals := 45 } : Room)) (hL : L7 sh P o) {r : Int32} (hR : am_R K (some .int) (some (.int r)) sh P I J 0 0) (l1 : Int32) (l2 : Int32) (l3 : Int32) (hf : f_X7_extreme_b54 o l1 l2 l3 I = some r) : AW K 5 54 [(0, .ref o), (1, .int l1), (2, .int l2), (3, .int l3)] [] sh P I J 0 0 := by
  unfold f_X7_extreme_b54 at hf
  refine ar_aload_n X dX7_extreme_54 rfl 0 rfl ?_
  refine ar_iload_n X dX7_extreme_55 rfl 1 rfl ?_
  refine ar_iload_n X dX7_extreme_56 rfl 2 rfl ?_
  refine ar_if_eq (tgt := 64) X dX7_extreme_57 (by decide) hf (fun h1 hf => ?_) (fun h1 hf => ?_)
  · refine ar_iconst (v := 4) X dX7_extreme_64 (by decide) ?_
    refine ar_lo [2, 3] rfl ?_
    exact ab_X7_extreme_b65 X hL hR l2 l3 (4 : Int32) l1 hf
  · refine ar_iconst (v := 3) X dX7_extreme_60 (by decide) ?_
    refine ar_goto (tgt := 65) X dX7_extreme_61 (by decide) ?_
    refine ar_lo [2, 3] rfl ?_
    exact ab_X7_extreme_b65 X hL hR l2 l3 (3 : Int32) l1 hf
def f_X7_extreme_h9 (o : Nat) : Nat → Int32 → Int32 → Int32 → Int32 → aI → Option Int32
  | 0, _, _, _, _, _ => none
  | n + 1, l1, l2, l3, l4, I =>
    if (I (o + 1) 0) ≤ l4 then (
      f_X7_extreme_b54 o l1 l2 l3 I)
    else (
      if l4 = l1 then (
        am_let (l3 - (0 : Int32)) fun x3 =>
        f_X7_extreme_h9 o n l1 l2 x3 (l4 + 1) I)
      else (
        if l2 = 0 then (
          am_b1 (f_X7_of o l4 (3 : Int32) I) fun r5 =>
          am_let (l3 - r5) fun x6 =>
          f_X7_extreme_h9 o n l1 l2 x6 (l4 + 1) I)
        else (
          am_b1 (f_X7_of o l4 (4 : Int32) I) fun r7 =>
          am_let (l3 - r7) fun x8 =>
          f_X7_extreme_h9 o n l1 l2 x8 (l4 + 1) I)))
set_option maxRecDepth 100000 in
set_option maxHeartbeats 4000000 in
theorem ab_X7_extreme_h9 {K : aK} {sh : aS} {P : aP} {I : aI} {J : aJ} {o : Nat} (X : am_C K cX7_extreme 5 RX7 "extreme" ({ frames := 2, cells := 0, slots := 0, locals := 45 } : Room)) (hL : L7 sh P o) {r : Int32} (hR : am_R K (some .int) (some (.int r)) sh P I J 0 0) : ∀ (n : Nat) (l1 : Int32) (l2 : Int32) (l3 : Int32) (l4 : Int32) , f_X7_extreme_h9 o n l1 l2 l3 l4 I = some r → AW K 5 9 [(0, .ref o), (1, .int l1), (2, .int l2), (3, .int l3), (4, .int l4)] [] sh P I J 0 0 := by
  intro n
  induction n with
  | zero =>
    intro l1 l2 l3 l4 hf
    cases hf
  | succ n ih =>
    intro l1 l2 l3 l4 hf
    rw [f_X7_extreme_h9] at hf
    refine ar_iload X dX7_extreme_9 4 rfl ?_
    refine ar_aload_n X dX7_extreme_11 rfl 0 rfl ?_
    refine ar_getr X dX7_extreme_12 fg_X7_7 rfl (L7_s0 hL) (L7_p0_0 hL) ?_
    refine ar_iconst (v := 0) X dX7_extreme_15 (by decide) ?_
    refine ar_ialdK (k := 0) X dX7_extreme_16 (L7_s1 hL) (by decide) (by decide) ?_
    refine ar_icmp_ge (tgt := 54) X dX7_extreme_17 (by decide) hf (fun h1 hf => ?_) (fun h1 hf => ?_)
    · refine ar_lo [0, 1, 2, 3] rfl ?_
      exact ab_X7_extreme_b54 X hL hR l1 l2 l3 hf
    · refine ar_iload_n X dX7_extreme_20 rfl 3 rfl ?_
      refine ar_iload X dX7_extreme_21 4 rfl ?_
      refine ar_iload_n X dX7_extreme_23 rfl 1 rfl ?_
      refine ar_icmp_ne (tgt := 31) X dX7_extreme_24 (by decide) hf (fun h2 hf => ?_) (fun h2 hf => ?_)
      · refine ar_iconst (v := 0) X dX7_extreme_27 (by decide) ?_
        refine ar_goto (tgt := 46) X dX7_extreme_28 (by decide) ?_
        refine ar_isub X dX7_extreme_46 ?_
        refine ar_letI hf (fun x3 hf => ?_)
        refine ar_istore_n X dX7_extreme_47 rfl (by decide) rfl ?_
        refine ar_iinc (j := 4) (v := (l4 + 1)) X dX7_extreme_48 rfl rfl (by decide) rfl ?_
        refine ar_goto (tgt := 9) X dX7_extreme_51 (by decide) ?_
        refine ar_lo [2, 3, 4, 1, 0] rfl ?_
        exact ih l1 l2 x3 (l4 + 1) hf
      · refine ar_aload_n X dX7_extreme_31 rfl 0 rfl ?_
        refine ar_iload X dX7_extreme_32 4 rfl ?_
        refine ar_iload_n X dX7_extreme_34 rfl 2 rfl ?_
        refine ar_if_eq (tgt := 42) X dX7_extreme_35 (by decide) hf (fun h4 hf => ?_) (fun h4 hf => ?_)
        · refine ar_iconst (v := 3) X dX7_extreme_42 (by decide) ?_
          obtain ⟨r5, h5, hf⟩ := am_b1_e hf
          refine ar_cVi (As := [.int l4, .int (3 : Int32)]) (st := [.int l3]) X dX7_extreme_43 (am_X7_of hL h5) lk_X7_70 mt_X7_of mi_X7_of (L7_s0 hL) rfl rfl (Nat.le_of_ble_eq_true rfl) ⟨by decide, by decide⟩ ⟨Nat.zero_le _, Nat.zero_le _⟩ rfl ?_
          refine ar_isub X dX7_extreme_46 ?_
          refine ar_letI hf (fun x6 hf => ?_)
          refine ar_istore_n X dX7_extreme_47 rfl (by decide) rfl ?_
          refine ar_iinc (j := 4) (v := (l4 + 1)) X dX7_extreme_48 rfl rfl (by decide) rfl ?_
          refine ar_goto (tgt := 9) X dX7_extreme_51 (by decide) ?_
          refine ar_lo [2, 3, 4, 1, 0] rfl ?_
          exact ih l1 l2 x6 (l4 + 1) hf
        · refine ar_iconst (v := 4) X dX7_extreme_38 (by decide) ?_
          refine ar_goto (tgt := 43) X dX7_extreme_39 (by decide) ?_
          obtain ⟨r7, h7, hf⟩ := am_b1_e hf
          refine ar_cVi (As := [.int l4, .int (4 : Int32)]) (st := [.int l3]) X dX7_extreme_43 (am_X7_of hL h7) lk_X7_70 mt_X7_of mi_X7_of (L7_s0 hL) rfl rfl (Nat.le_of_ble_eq_true rfl) ⟨by decide, by decide⟩ ⟨Nat.zero_le _, Nat.zero_le _⟩ rfl ?_
          refine ar_isub X dX7_extreme_46 ?_
          refine ar_letI hf (fun x8 hf => ?_)
          refine ar_istore_n X dX7_extreme_47 rfl (by decide) rfl ?_
          refine ar_iinc (j := 4) (v := (l4 + 1)) X dX7_extreme_48 rfl rfl (by decide) rfl ?_
          refine ar_goto (tgt := 9) X dX7_extreme_51 (by decide) ?_
          refine ar_lo [2, 3, 4, 1, 0] rfl ?_
          exact ih l1 l2 x8 (l4 + 1) hf
def f_X7_extreme (o : Nat) (a1 : Int32) (a2 : Int32) (I : aI) : Option Int32 :=
  am_b1 (f_X7_sumOf o (0 : Int32) I) fun r1 =>
  f_X7_extreme_h9 o am_F a1 a2 r1 (0 : Int32) I
set_option maxRecDepth 100000 in
set_option maxHeartbeats 4000000 in
theorem am_X7_extreme {sh : aS} {P : aP} {I : aI} {J : aJ} {o : Nat} (hL : L7 sh P o) {a1 : Int32} {a2 : Int32} {r : Int32} (hf : f_X7_extreme o a1 a2 I = some r) : AM yX7_extreme cX7_extreme 5 (some .int) 2 45 [.ref o, .int a1, .int a2] sh P I J (some (.int r)) sh P I J 0 0 := by
  refine am_met (by decide +kernel) (Nat.le_of_ble_eq_true rfl) (fun K X hR => ?_)
  have X : am_C K cX7_extreme 5 RX7 "extreme" ({ frames := 2, cells := 0, slots := 0, locals := 45 } : Room) := X
  show AW K 5 0 [(0, .ref o), (1, .int a1), (2, .int a2)] [] sh P I J 0 0
  unfold f_X7_extreme at hf
  refine ar_aload_n X dX7_extreme_0 rfl 0 rfl ?_
  refine ar_iconst (v := 0) X dX7_extreme_1 (by decide) ?_
  obtain ⟨r1, h1, hf⟩ := am_b1_e hf
  refine ar_cVi (As := [.int (0 : Int32)]) (st := []) X dX7_extreme_2 (am_X7_sumOf hL h1) lk_X7_175 mt_X7_sumOf mi_X7_sumOf (L7_s0 hL) rfl rfl (Nat.le_of_ble_eq_true rfl) ⟨by decide, by decide⟩ ⟨Nat.zero_le _, Nat.zero_le _⟩ rfl ?_
  refine ar_istore_n X dX7_extreme_5 rfl (by decide) rfl ?_
  refine ar_iconst (v := 0) X dX7_extreme_6 (by decide) ?_
  refine ar_istore X dX7_extreme_7 (by decide) rfl ?_
  refine ar_lo [2, 3, 4, 1, 0] rfl ?_
  exact ab_X7_extreme_h9 X hL hR am_F a1 a2 r1 (0 : Int32) hf
def f_X7_fill (o : Nat) (a1 : Int32) (a2 : Int32) (I : aI) : Option (Int32 × aI) :=
  am_b1 (f_X7_isPlayer o a1 I) fun r1 =>
  if r1 = 0 then (
    some ((-1 : Int32), I))
  else (
    am_b1 (f_X7_in a2 (0 : Int32) (300 : Int32)) fun r3 =>
    if r3 = 0 then (
      some ((-2 : Int32), I))
    else (
      am_b1 (f_X7_goes o I) fun r5 =>
      if r5 = 0 then (
        if (I (o + 1) 2) ≤ 0 then (
          am_b1 (f_X7_of o a1 (0 : Int32) I) fun r8 =>
          am_b1 (f_X7_lay o a1 (0 : Int32) a2 I) fun I9 =>
          am_b1 (f_X7_lay o a1 (3 : Int32) (0 : Int32) I9) fun I10 =>
          am_b1 (f_X7_lay o a1 (4 : Int32) (300 : Int32) I10) fun I11 =>
          some (r8, I11))
        else (
          some ((-5 : Int32), I)))
      else (
        some ((-5 : Int32), I))))
set_option maxRecDepth 100000 in
set_option maxHeartbeats 4000000 in
theorem am_X7_fill {sh : aS} {P : aP} {I : aI} {J : aJ} {o : Nat} (hL : L7 sh P o) {a1 : Int32} {a2 : Int32} {r : Int32} {I9 : aI} (hf : f_X7_fill o a1 a2 I = some (r, I9)) : AM yX7_fill cX7_fill 4 (some .int) 2 43 [.ref o, .int a1, .int a2] sh P I J (some (.int r)) sh P I9 J 0 0 := by
  refine am_met (by decide +kernel) (Nat.le_of_ble_eq_true rfl) (fun K X hR => ?_)
  have X : am_C K cX7_fill 4 RX7 "fill" ({ frames := 2, cells := 0, slots := 0, locals := 43 } : Room) := X
  show AW K 4 0 [(0, .ref o), (1, .int a1), (2, .int a2)] [] sh P I J 0 0
  unfold f_X7_fill at hf
  refine ar_aload_n X dX7_fill_0 rfl 0 rfl ?_
  refine ar_iload_n X dX7_fill_1 rfl 1 rfl ?_
  obtain ⟨r1, h1, hf⟩ := am_b1_e hf
  refine ar_cVi (As := [.int a1]) (st := []) X dX7_fill_2 (am_X7_isPlayer hL h1) lk_X7_66 mt_X7_isPlayer mi_X7_isPlayer (L7_s0 hL) rfl rfl (Nat.le_of_ble_eq_true rfl) ⟨by decide, by decide⟩ ⟨Nat.zero_le _, Nat.zero_le _⟩ rfl ?_
  refine ar_if_ne (tgt := 10) X dX7_fill_5 (by decide) hf (fun h2 hf => ?_) (fun h2 hf => ?_)
  · refine ar_iconst (v := -1) X dX7_fill_8 (by decide) ?_
    cases hf
    exact ar_iret X dX7_fill_9 hR (Nat.le_refl _) (Nat.le_refl _)
  · refine ar_iload_n X dX7_fill_10 rfl 2 rfl ?_
    refine ar_iconst (v := 0) X dX7_fill_11 (by decide) ?_
    refine ar_sipush (v := 300) X dX7_fill_12 (by decide) ?_
    obtain ⟨r3, h3, hf⟩ := am_b1_e hf
    refine ar_cSi (As := [.int a2, .int (0 : Int32), .int (300 : Int32)]) (st := []) X dX7_fill_15 (am_X7_in h3) lk_X7_43 mt_X7_in ms_X7_in rfl (Nat.le_of_ble_eq_true rfl) ⟨by decide, by decide⟩ ⟨Nat.zero_le _, Nat.zero_le _⟩ rfl ?_
    refine ar_if_ne (tgt := 24) X dX7_fill_18 (by decide) hf (fun h4 hf => ?_) (fun h4 hf => ?_)
    · refine ar_bipush (v := -2) X dX7_fill_21 (by decide) ?_
      cases hf
      exact ar_iret X dX7_fill_23 hR (Nat.le_refl _) (Nat.le_refl _)
    · refine ar_aload_n X dX7_fill_24 rfl 0 rfl ?_
      obtain ⟨r5, h5, hf⟩ := am_b1_e hf
      refine ar_cVi (As := []) (st := []) X dX7_fill_25 (am_X7_goes hL h5) lk_X7_62 mt_X7_goes mi_X7_goes (L7_s0 hL) rfl rfl (Nat.le_of_ble_eq_true rfl) ⟨by decide, by decide⟩ ⟨Nat.zero_le _, Nat.zero_le _⟩ rfl ?_
      refine ar_if_ne (tgt := 40) X dX7_fill_28 (by decide) hf (fun h6 hf => ?_) (fun h6 hf => ?_)
      · refine ar_aload_n X dX7_fill_31 rfl 0 rfl ?_
        refine ar_getr X dX7_fill_32 fg_X7_7 rfl (L7_s0 hL) (L7_p0_0 hL) ?_
        refine ar_iconst (v := 2) X dX7_fill_35 (by decide) ?_
        refine ar_ialdK (k := 2) X dX7_fill_36 (L7_s1 hL) (by decide) (by decide) ?_
        refine ar_if_le (tgt := 43) X dX7_fill_37 (by decide) hf (fun h7 hf => ?_) (fun h7 hf => ?_)
        · refine ar_aload_n X dX7_fill_43 rfl 0 rfl ?_
          refine ar_iload_n X dX7_fill_44 rfl 1 rfl ?_
          refine ar_iconst (v := 0) X dX7_fill_45 (by decide) ?_
          obtain ⟨r8, h8, hf⟩ := am_b1_e hf
          refine ar_cVi (As := [.int a1, .int (0 : Int32)]) (st := []) X dX7_fill_46 (am_X7_of hL h8) lk_X7_70 mt_X7_of mi_X7_of (L7_s0 hL) rfl rfl (Nat.le_of_ble_eq_true rfl) ⟨by decide, by decide⟩ ⟨Nat.zero_le _, Nat.zero_le _⟩ rfl ?_
          refine ar_istore_n X dX7_fill_49 rfl (by decide) rfl ?_
          refine ar_aload_n X dX7_fill_50 rfl 1 rfl ?_
          refine ar_iload_n X dX7_fill_51 rfl 2 rfl ?_
          refine ar_iconst (v := 0) X dX7_fill_52 (by decide) ?_
          refine ar_iload_n X dX7_fill_53 rfl 3 rfl ?_
          obtain ⟨I9, h9, hf⟩ := am_b1_e hf
          refine ar_cVv (As := [.int a1, .int (0 : Int32), .int a2]) (st := []) X dX7_fill_54 (am_X7_lay hL h9) lk_X7_47 mt_X7_lay mi_X7_lay (L7_s0 hL) rfl rfl (Nat.le_of_ble_eq_true rfl) ⟨by decide, by decide⟩ ⟨Nat.zero_le _, Nat.zero_le _⟩ rfl ?_
          refine ar_aload_n X dX7_fill_57 rfl 1 rfl ?_
          refine ar_iload_n X dX7_fill_58 rfl 2 rfl ?_
          refine ar_iconst (v := 3) X dX7_fill_59 (by decide) ?_
          refine ar_iconst (v := 0) X dX7_fill_60 (by decide) ?_
          obtain ⟨I10, h10, hf⟩ := am_b1_e hf
          refine ar_cVv (As := [.int a1, .int (3 : Int32), .int (0 : Int32)]) (st := []) X dX7_fill_61 (am_X7_lay hL h10) lk_X7_47 mt_X7_lay mi_X7_lay (L7_s0 hL) rfl rfl (Nat.le_of_ble_eq_true rfl) ⟨by decide, by decide⟩ ⟨Nat.zero_le _, Nat.zero_le _⟩ rfl ?_
          refine ar_aload_n X dX7_fill_64 rfl 1 rfl ?_
          refine ar_iload_n X dX7_fill_65 rfl 2 rfl ?_
          refine ar_iconst (v := 4) X dX7_fill_66 (by decide) ?_
          refine ar_sipush (v := 300) X dX7_fill_67 (by decide) ?_
          obtain ⟨I11, h11, hf⟩ := am_b1_e hf
          refine ar_cVv (As := [.int a1, .int (4 : Int32), .int (300 : Int32)]) (st := []) X dX7_fill_70 (am_X7_lay hL h11) lk_X7_47 mt_X7_lay mi_X7_lay (L7_s0 hL) rfl rfl (Nat.le_of_ble_eq_true rfl) ⟨by decide, by decide⟩ ⟨Nat.zero_le _, Nat.zero_le _⟩ rfl ?_
          refine ar_iload_n X dX7_fill_73 rfl 0 rfl ?_
          cases hf
          exact ar_iret X dX7_fill_74 hR (Nat.le_refl _) (Nat.le_refl _)
        · refine ar_bipush (v := -5) X dX7_fill_40 (by decide) ?_
          cases hf
          exact ar_iret X dX7_fill_42 hR (Nat.le_refl _) (Nat.le_refl _)
      · refine ar_bipush (v := -5) X dX7_fill_40 (by decide) ?_
        cases hf
        exact ar_iret X dX7_fill_42 hR (Nat.le_refl _) (Nat.le_refl _)
def f_X7_forecast (o : Nat) (a1 : Int32) (a2 : Int32) (a3 : Int32) (I : aI) : Option (Int32 × aI) :=
  am_b1 (f_X7_isPlayer o a3 I) fun r1 =>
  if r1 = 0 then (
    some ((-1 : Int32), I))
  else (
    am_b1 (f_X7_in a1 (0 : Int32) (2 : Int32)) fun r3 =>
    if r3 = 0 then (
      some ((-2 : Int32), I))
    else (
      am_b1 (f_X7_in a2 (1 : Int32) (300 : Int32)) fun r5 =>
      if r5 = 0 then (
        some ((-2 : Int32), I))
      else (
        am_b2 (f_X7_scoreAtEnd o a1 a2 a3 I) fun r7 I7 =>
        some (r7, I7))))
set_option maxRecDepth 100000 in
set_option maxHeartbeats 4000000 in
theorem am_X7_forecast {sh : aS} {P : aP} {I : aI} {J : aJ} {o : Nat} (hL : L7 sh P o) {a1 : Int32} {a2 : Int32} {a3 : Int32} {r : Int32} {I9 : aI} (hf : f_X7_forecast o a1 a2 a3 I = some (r, I9)) : AM yX7_forecast cX7_forecast 4 (some .int) 8 182 [.ref o, .int a1, .int a2, .int a3] sh P I J (some (.int r)) sh P I9 J 0 0 := by
  refine am_met (by decide +kernel) (Nat.le_of_ble_eq_true rfl) (fun K X hR => ?_)
  have X : am_C K cX7_forecast 4 RX7 "forecast" ({ frames := 8, cells := 0, slots := 0, locals := 182 } : Room) := X
  show AW K 4 0 [(0, .ref o), (1, .int a1), (2, .int a2), (3, .int a3)] [] sh P I J 0 0
  unfold f_X7_forecast at hf
  refine ar_aload_n X dX7_forecast_0 rfl 0 rfl ?_
  refine ar_iload_n X dX7_forecast_1 rfl 3 rfl ?_
  obtain ⟨r1, h1, hf⟩ := am_b1_e hf
  refine ar_cVi (As := [.int a3]) (st := []) X dX7_forecast_2 (am_X7_isPlayer hL h1) lk_X7_66 mt_X7_isPlayer mi_X7_isPlayer (L7_s0 hL) rfl rfl (Nat.le_of_ble_eq_true rfl) ⟨by decide, by decide⟩ ⟨Nat.zero_le _, Nat.zero_le _⟩ rfl ?_
  refine ar_if_ne (tgt := 10) X dX7_forecast_5 (by decide) hf (fun h2 hf => ?_) (fun h2 hf => ?_)
  · refine ar_iconst (v := -1) X dX7_forecast_8 (by decide) ?_
    cases hf
    exact ar_iret X dX7_forecast_9 hR (Nat.le_refl _) (Nat.le_refl _)
  · refine ar_iload_n X dX7_forecast_10 rfl 1 rfl ?_
    refine ar_iconst (v := 0) X dX7_forecast_11 (by decide) ?_
    refine ar_iconst (v := 2) X dX7_forecast_12 (by decide) ?_
    obtain ⟨r3, h3, hf⟩ := am_b1_e hf
    refine ar_cSi (As := [.int a1, .int (0 : Int32), .int (2 : Int32)]) (st := []) X dX7_forecast_13 (am_X7_in h3) lk_X7_43 mt_X7_in ms_X7_in rfl (Nat.le_of_ble_eq_true rfl) ⟨by decide, by decide⟩ ⟨Nat.zero_le _, Nat.zero_le _⟩ rfl ?_
    refine ar_if_eq (tgt := 40) X dX7_forecast_16 (by decide) hf (fun h4 hf => ?_) (fun h4 hf => ?_)
    · refine ar_bipush (v := -2) X dX7_forecast_40 (by decide) ?_
      cases hf
      exact ar_iret X dX7_forecast_42 hR (Nat.le_refl _) (Nat.le_refl _)
    · refine ar_iload_n X dX7_forecast_19 rfl 2 rfl ?_
      refine ar_iconst (v := 1) X dX7_forecast_20 (by decide) ?_
      refine ar_sipush (v := 300) X dX7_forecast_21 (by decide) ?_
      obtain ⟨r5, h5, hf⟩ := am_b1_e hf
      refine ar_cSi (As := [.int a2, .int (1 : Int32), .int (300 : Int32)]) (st := []) X dX7_forecast_24 (am_X7_in h5) lk_X7_43 mt_X7_in ms_X7_in rfl (Nat.le_of_ble_eq_true rfl) ⟨by decide, by decide⟩ ⟨Nat.zero_le _, Nat.zero_le _⟩ rfl ?_
      refine ar_if_eq (tgt := 40) X dX7_forecast_27 (by decide) hf (fun h6 hf => ?_) (fun h6 hf => ?_)
      · refine ar_bipush (v := -2) X dX7_forecast_40 (by decide) ?_
        cases hf
        exact ar_iret X dX7_forecast_42 hR (Nat.le_refl _) (Nat.le_refl _)
      · refine ar_aload_n X dX7_forecast_30 rfl 0 rfl ?_
        refine ar_iload_n X dX7_forecast_31 rfl 1 rfl ?_
        refine ar_iload_n X dX7_forecast_32 rfl 2 rfl ?_
        refine ar_iload_n X dX7_forecast_33 rfl 3 rfl ?_
        obtain ⟨r7, I7, h7, hf⟩ := am_b2_e hf
        refine ar_cVi (As := [.int a1, .int a2, .int a3]) (st := []) X dX7_forecast_34 (am_X7_scoreAtEnd hL h7) lk_X7_205 mt_X7_scoreAtEnd mi_X7_scoreAtEnd (L7_s0 hL) rfl rfl (Nat.le_of_ble_eq_true rfl) ⟨by decide, by decide⟩ ⟨Nat.zero_le _, Nat.zero_le _⟩ rfl ?_
        refine ar_goto (tgt := 42) X dX7_forecast_37 (by decide) ?_
        cases hf
        exact ar_iret X dX7_forecast_42 hR (Nat.le_refl _) (Nat.le_refl _)
def f_X7_known (o : Nat) (a1 : Int32) (a2 : Int32) (I : aI) (J : aJ) : Option (Int32 × aJ) :=
  am_b1 (f_X7_isPlayer o a1 I) fun r1 =>
  if r1 = 0 then (
    some ((-1 : Int32), J))
  else (
    if a2 = (0 : Int32) then (
      am_b1 (f_X7_of o a1 (3 : Int32) I) fun r4 =>
      some (r4, J))
    else if a2 = (1 : Int32) then (
      am_b1 (f_X7_of o a1 (4 : Int32) I) fun r6 =>
      some (r6, J))
    else if a2 = (2 : Int32) then (
      am_b1 (f_X7_extreme o a1 (1 : Int32) I) fun r8 =>
      some (r8, J))
    else if a2 = (3 : Int32) then (
      am_b1 (f_X7_extreme o a1 (0 : Int32) I) fun r10 =>
      some (r10, J))
    else if a2 = (4 : Int32) then (
      am_b2 (f_X7_average o a1 I J) fun r12 J12 =>
      some (r12, J12))
    else (
      some ((-2 : Int32), J)))
set_option maxRecDepth 100000 in
set_option maxHeartbeats 4000000 in
theorem am_X7_known {sh : aS} {P : aP} {I : aI} {J : aJ} {o : Nat} (hL : L7 sh P o) {a1 : Int32} {a2 : Int32} {r : Int32} {J9 : aJ} (hf : f_X7_known o a1 a2 I J = some (r, J9)) : AM yX7_known cX7_known 3 (some .int) 3 74 [.ref o, .int a1, .int a2] sh P I J (some (.int r)) sh P I J9 0 0 := by
  refine am_met (by decide +kernel) (Nat.le_of_ble_eq_true rfl) (fun K X hR => ?_)
  have X : am_C K cX7_known 3 RX7 "known" ({ frames := 3, cells := 0, slots := 0, locals := 74 } : Room) := X
  show AW K 3 0 [(0, .ref o), (1, .int a1), (2, .int a2)] [] sh P I J 0 0
  unfold f_X7_known at hf
  refine ar_aload_n X dX7_known_0 rfl 0 rfl ?_
  refine ar_iload_n X dX7_known_1 rfl 1 rfl ?_
  obtain ⟨r1, h1, hf⟩ := am_b1_e hf
  refine ar_cVi (As := [.int a1]) (st := []) X dX7_known_2 (am_X7_isPlayer hL h1) lk_X7_66 mt_X7_isPlayer mi_X7_isPlayer (L7_s0 hL) rfl rfl (Nat.le_of_ble_eq_true rfl) ⟨by decide, by decide⟩ ⟨Nat.zero_le _, Nat.zero_le _⟩ rfl ?_
  refine ar_if_ne (tgt := 10) X dX7_known_5 (by decide) hf (fun h2 hf => ?_) (fun h2 hf => ?_)
  · refine ar_iconst (v := -1) X dX7_known_8 (by decide) ?_
    cases hf
    exact ar_iret X dX7_known_9 hR (Nat.le_refl _) (Nat.le_refl _)
  · refine ar_iload_n X dX7_known_10 rfl 2 rfl ?_
    rcases am_ite hf with ⟨h3, hf⟩ | ⟨h3, hf⟩
    · refine ar_tableIn (tgt := 44) X dX7_known_11 (by rw [h3]; decide) (by rw [h3]; decide) (by rw [h3]; rfl) (by decide) ?_
      refine ar_aload_n X dX7_known_44 rfl 0 rfl ?_
      refine ar_iload_n X dX7_known_45 rfl 1 rfl ?_
      refine ar_iconst (v := 3) X dX7_known_46 (by decide) ?_
      obtain ⟨r4, h4, hf⟩ := am_b1_e hf
      refine ar_cVi (As := [.int a1, .int (3 : Int32)]) (st := []) X dX7_known_47 (am_X7_of hL h4) lk_X7_70 mt_X7_of mi_X7_of (L7_s0 hL) rfl rfl (Nat.le_of_ble_eq_true rfl) ⟨by decide, by decide⟩ ⟨Nat.zero_le _, Nat.zero_le _⟩ rfl ?_
      cases hf
      exact ar_iret X dX7_known_50 hR (Nat.le_refl _) (Nat.le_refl _)
    rcases am_ite hf with ⟨h5, hf⟩ | ⟨h5, hf⟩
    · refine ar_tableIn (tgt := 51) X dX7_known_11 (by rw [h5]; decide) (by rw [h5]; decide) (by rw [h5]; rfl) (by decide) ?_
      refine ar_aload_n X dX7_known_51 rfl 0 rfl ?_
      refine ar_iload_n X dX7_known_52 rfl 1 rfl ?_
      refine ar_iconst (v := 4) X dX7_known_53 (by decide) ?_
      obtain ⟨r6, h6, hf⟩ := am_b1_e hf
      refine ar_cVi (As := [.int a1, .int (4 : Int32)]) (st := []) X dX7_known_54 (am_X7_of hL h6) lk_X7_70 mt_X7_of mi_X7_of (L7_s0 hL) rfl rfl (Nat.le_of_ble_eq_true rfl) ⟨by decide, by decide⟩ ⟨Nat.zero_le _, Nat.zero_le _⟩ rfl ?_
      cases hf
      exact ar_iret X dX7_known_57 hR (Nat.le_refl _) (Nat.le_refl _)
    rcases am_ite hf with ⟨h7, hf⟩ | ⟨h7, hf⟩
    · refine ar_tableIn (tgt := 58) X dX7_known_11 (by rw [h7]; decide) (by rw [h7]; decide) (by rw [h7]; rfl) (by decide) ?_
      refine ar_aload_n X dX7_known_58 rfl 0 rfl ?_
      refine ar_iload_n X dX7_known_59 rfl 1 rfl ?_
      refine ar_iconst (v := 1) X dX7_known_60 (by decide) ?_
      obtain ⟨r8, h8, hf⟩ := am_b1_e hf
      refine ar_cVi (As := [.int a1, .int (1 : Int32)]) (st := []) X dX7_known_61 (am_X7_extreme hL h8) lk_X7_188 mt_X7_extreme mi_X7_extreme (L7_s0 hL) rfl rfl (Nat.le_of_ble_eq_true rfl) ⟨by decide, by decide⟩ ⟨Nat.zero_le _, Nat.zero_le _⟩ rfl ?_
      cases hf
      exact ar_iret X dX7_known_64 hR (Nat.le_refl _) (Nat.le_refl _)
    rcases am_ite hf with ⟨h9, hf⟩ | ⟨h9, hf⟩
    · refine ar_tableIn (tgt := 65) X dX7_known_11 (by rw [h9]; decide) (by rw [h9]; decide) (by rw [h9]; rfl) (by decide) ?_
      refine ar_aload_n X dX7_known_65 rfl 0 rfl ?_
      refine ar_iload_n X dX7_known_66 rfl 1 rfl ?_
      refine ar_iconst (v := 0) X dX7_known_67 (by decide) ?_
      obtain ⟨r10, h10, hf⟩ := am_b1_e hf
      refine ar_cVi (As := [.int a1, .int (0 : Int32)]) (st := []) X dX7_known_68 (am_X7_extreme hL h10) lk_X7_188 mt_X7_extreme mi_X7_extreme (L7_s0 hL) rfl rfl (Nat.le_of_ble_eq_true rfl) ⟨by decide, by decide⟩ ⟨Nat.zero_le _, Nat.zero_le _⟩ rfl ?_
      cases hf
      exact ar_iret X dX7_known_71 hR (Nat.le_refl _) (Nat.le_refl _)
    rcases am_ite hf with ⟨h11, hf⟩ | ⟨h11, hf⟩
    · refine ar_tableIn (tgt := 72) X dX7_known_11 (by rw [h11]; decide) (by rw [h11]; decide) (by rw [h11]; rfl) (by decide) ?_
      refine ar_aload_n X dX7_known_72 rfl 0 rfl ?_
      refine ar_iload_n X dX7_known_73 rfl 1 rfl ?_
      obtain ⟨r12, J12, h12, hf⟩ := am_b2_e hf
      refine ar_cVi (As := [.int a1]) (st := []) X dX7_known_74 (am_X7_average hL h12) lk_X7_192 mt_X7_average mi_X7_average (L7_s0 hL) rfl rfl (Nat.le_of_ble_eq_true rfl) ⟨by decide, by decide⟩ ⟨Nat.zero_le _, Nat.zero_le _⟩ rfl ?_
      cases hf
      exact ar_iret X dX7_known_77 hR (Nat.le_refl _) (Nat.le_refl _)
    have hout : a2.toInt < 0 ∨ 4 < a2.toInt := by
      refine Classical.byContradiction (fun hn => ?_)
      have hTT : a2.toInt = 0 ∨ a2.toInt = 1 ∨ a2.toInt = 2 ∨ a2.toInt = 3 ∨ a2.toInt = 4 := by omega
      rcases hTT with hTT | hTT | hTT | hTT | hTT
      · exact h3 (Int32.toInt_inj.mp hTT)
      · exact h5 (Int32.toInt_inj.mp hTT)
      · exact h7 (Int32.toInt_inj.mp hTT)
      · exact h9 (Int32.toInt_inj.mp hTT)
      · exact h11 (Int32.toInt_inj.mp hTT)
    refine ar_tableOut (tgt := 78) X dX7_known_11 hout (by decide) ?_
    refine ar_bipush (v := -2) X dX7_known_78 (by decide) ?_
    cases hf
    exact ar_iret X dX7_known_80 hR (Nat.le_refl _) (Nat.le_refl _)
def f_X7_leastBid_b102 (o : Nat) (l1 : Int32) (l3 : Int32) (I : aI) : Option (Int32 × aI) :=
  am_b1 (f_X7_of o l1 (0 : Int32) I) fun r1 =>
  if r1 < l3 then (
    some ((-6 : Int32), I))
  else (
    some (l3, I))
set_option maxRecDepth 100000 in
set_option maxHeartbeats 4000000 in
theorem ab_X7_leastBid_b102 {K : aK} {sh : aS} {P : aP} {J : aJ} {o : Nat} (X : am_C K cX7_leastBid 6 RX7 "leastBid" ({ frames := 4, cells := 0, slots := 0, locals := 92 } : Room)) (hL : L7 sh P o) {r : Int32} {I9 : aI} (hR : am_R K (some .int) (some (.int r)) sh P I9 J 0 0) (l1 : Int32) (l3 : Int32) (I : aI) (hf : f_X7_leastBid_b102 o l1 l3 I = some (r, I9)) : AW K 6 102 [(0, .ref o), (1, .int l1), (3, .int l3)] [] sh P I J 0 0 := by
  unfold f_X7_leastBid_b102 at hf
  refine ar_iload_n X dX7_leastBid_102 rfl 2 rfl ?_
  refine ar_aload_n X dX7_leastBid_103 rfl 0 rfl ?_
  refine ar_iload_n X dX7_leastBid_104 rfl 1 rfl ?_
  refine ar_iconst (v := 0) X dX7_leastBid_105 (by decide) ?_
  obtain ⟨r1, h1, hf⟩ := am_b1_e hf
  refine ar_cVi (As := [.int l1, .int (0 : Int32)]) (st := [.int l3]) X dX7_leastBid_106 (am_X7_of hL h1) lk_X7_70 mt_X7_of mi_X7_of (L7_s0 hL) rfl rfl (Nat.le_of_ble_eq_true rfl) ⟨by decide, by decide⟩ ⟨Nat.zero_le _, Nat.zero_le _⟩ rfl ?_
  refine ar_icmp_gt (tgt := 116) X dX7_leastBid_109 (by decide) hf (fun h2 hf => ?_) (fun h2 hf => ?_)
  · refine ar_bipush (v := -6) X dX7_leastBid_116 (by decide) ?_
    cases hf
    exact ar_iret X dX7_leastBid_118 hR (Nat.le_refl _) (Nat.le_refl _)
  · refine ar_iload_n X dX7_leastBid_112 rfl 2 rfl ?_
    refine ar_goto (tgt := 118) X dX7_leastBid_113 (by decide) ?_
    cases hf
    exact ar_iret X dX7_leastBid_118 hR (Nat.le_refl _) (Nat.le_refl _)
def f_X7_leastBid_b81 (o : Nat) (kh : Int32 → Int32 → Int32 → Int32 → aI → Option (Int32 × aI)) (l1 : Int32) (l2 : Int32) (l3 : Int32) (l4 : Int32) (s0 : Int32) (I : aI) : Option (Int32 × aI) :=
  if s0 ≤ l3 then (
    kh l1 l2 l3 (l4 + 1) I)
  else (
    kh l1 l2 s0 (l4 + 1) I)
set_option maxRecDepth 100000 in
set_option maxHeartbeats 4000000 in
theorem ab_X7_leastBid_b81 {K : aK} {sh : aS} {P : aP} {J : aJ} {o : Nat} (X : am_C K cX7_leastBid 6 RX7 "leastBid" ({ frames := 4, cells := 0, slots := 0, locals := 92 } : Room)) (hL : L7 sh P o) {r : Int32} {I9 : aI} (hR : am_R K (some .int) (some (.int r)) sh P I9 J 0 0) {kh : Int32 → Int32 → Int32 → Int32 → aI → Option (Int32 × aI)} (hk : ∀ (l1 : Int32) (l2 : Int32) (l3 : Int32) (l4 : Int32) (I : aI) , kh l1 l2 l3 l4 I = some (r, I9) → AW K 6 53 [(0, .ref o), (1, .int l1), (2, .int l2), (3, .int l3), (4, .int l4)] [] sh P I J 0 0) (l1 : Int32) (l2 : Int32) (l3 : Int32) (l4 : Int32) (s0 : Int32) (I : aI) (hf : f_X7_leastBid_b81 o kh l1 l2 l3 l4 s0 I = some (r, I9)) : AW K 6 81 [(0, .ref o), (1, .int l1), (2, .int l2), (3, .int l3), (4, .int l4)] [.int s0] sh P I J 0 0 := by
  unfold f_X7_leastBid_b81 at hf
  refine ar_istore X dX7_leastBid_81 (by decide) rfl ?_
  refine ar_iload X dX7_leastBid_83 0 rfl ?_
  refine ar_iload_n X dX7_leastBid_85 rfl 4 rfl ?_
  refine ar_icmp_le (tgt := 94) X dX7_leastBid_86 (by decide) hf (fun h1 hf => ?_) (fun h1 hf => ?_)
  · refine ar_iload_n X dX7_leastBid_94 rfl 4 rfl ?_
    refine ar_istore_n X dX7_leastBid_95 rfl (by decide) rfl ?_
    refine ar_iinc (j := 5) (v := (l4 + 1)) X dX7_leastBid_96 rfl rfl (by decide) rfl ?_
    refine ar_goto (tgt := 53) X dX7_leastBid_99 (by decide) ?_
    refine ar_lo [3, 4, 5, 1, 0] rfl ?_
    exact hk l1 l2 l3 (l4 + 1) I hf
  · refine ar_iload X dX7_leastBid_89 0 rfl ?_
    refine ar_goto (tgt := 95) X dX7_leastBid_91 (by decide) ?_
    refine ar_istore_n X dX7_leastBid_95 rfl (by decide) rfl ?_
    refine ar_iinc (j := 5) (v := (l4 + 1)) X dX7_leastBid_96 rfl rfl (by decide) rfl ?_
    refine ar_goto (tgt := 53) X dX7_leastBid_99 (by decide) ?_
    refine ar_lo [3, 4, 5, 1, 0] rfl ?_
    exact hk l1 l2 s0 (l4 + 1) I hf
def f_X7_leastBid_h53 (o : Nat) : Nat → Int32 → Int32 → Int32 → Int32 → aI → Option (Int32 × aI)
  | 0, _, _, _, _, _ => none
  | n + 1, l1, l2, l3, l4, I =>
    if (I (o + 1) 0) ≤ l4 then (
      f_X7_leastBid_b102 o l1 l3 I)
    else (
      if l4 = l1 then (
        f_X7_leastBid_b81 o (f_X7_leastBid_h53 o n) l1 l2 l3 l4 (0 : Int32) I)
      else (
        am_b2 (f_X7_sealedOf o l4 l2 I) fun r3 I3 =>
        f_X7_leastBid_b81 o (f_X7_leastBid_h53 o n) l1 l2 l3 l4 r3 I3))
set_option maxRecDepth 100000 in
set_option maxHeartbeats 4000000 in
theorem ab_X7_leastBid_h53 {K : aK} {sh : aS} {P : aP} {J : aJ} {o : Nat} (X : am_C K cX7_leastBid 6 RX7 "leastBid" ({ frames := 4, cells := 0, slots := 0, locals := 92 } : Room)) (hL : L7 sh P o) {r : Int32} {I9 : aI} (hR : am_R K (some .int) (some (.int r)) sh P I9 J 0 0) : ∀ (n : Nat) (l1 : Int32) (l2 : Int32) (l3 : Int32) (l4 : Int32) (I : aI) , f_X7_leastBid_h53 o n l1 l2 l3 l4 I = some (r, I9) → AW K 6 53 [(0, .ref o), (1, .int l1), (2, .int l2), (3, .int l3), (4, .int l4)] [] sh P I J 0 0 := by
  intro n
  induction n with
  | zero =>
    intro l1 l2 l3 l4 I hf
    cases hf
  | succ n ih =>
    intro l1 l2 l3 l4 I hf
    rw [f_X7_leastBid_h53] at hf
    refine ar_iload X dX7_leastBid_53 4 rfl ?_
    refine ar_aload_n X dX7_leastBid_55 rfl 0 rfl ?_
    refine ar_getr X dX7_leastBid_56 fg_X7_7 rfl (L7_s0 hL) (L7_p0_0 hL) ?_
    refine ar_iconst (v := 0) X dX7_leastBid_59 (by decide) ?_
    refine ar_ialdK (k := 0) X dX7_leastBid_60 (L7_s1 hL) (by decide) (by decide) ?_
    refine ar_icmp_ge (tgt := 102) X dX7_leastBid_61 (by decide) hf (fun h1 hf => ?_) (fun h1 hf => ?_)
    · refine ar_lo [0, 1, 3] rfl ?_
      exact ab_X7_leastBid_b102 X hL hR l1 l3 I hf
    · refine ar_iload X dX7_leastBid_64 4 rfl ?_
      refine ar_iload_n X dX7_leastBid_66 rfl 1 rfl ?_
      refine ar_icmp_ne (tgt := 74) X dX7_leastBid_67 (by decide) hf (fun h2 hf => ?_) (fun h2 hf => ?_)
      · refine ar_iconst (v := 0) X dX7_leastBid_70 (by decide) ?_
        refine ar_goto (tgt := 81) X dX7_leastBid_71 (by decide) ?_
        exact ab_X7_leastBid_b81 X hL hR ih l1 l2 l3 l4 (0 : Int32) I hf
      · refine ar_aload_n X dX7_leastBid_74 rfl 0 rfl ?_
        refine ar_iload X dX7_leastBid_75 4 rfl ?_
        refine ar_iload_n X dX7_leastBid_77 rfl 2 rfl ?_
        obtain ⟨r3, I3, h3, hf⟩ := am_b2_e hf
        refine ar_cVi (As := [.int l4, .int l2]) (st := []) X dX7_leastBid_78 (am_X7_sealedOf hL h3) lk_X7_148 mt_X7_sealedOf mi_X7_sealedOf (L7_s0 hL) rfl rfl (Nat.le_of_ble_eq_true rfl) ⟨by decide, by decide⟩ ⟨Nat.zero_le _, Nat.zero_le _⟩ rfl ?_
        exact ab_X7_leastBid_b81 X hL hR ih l1 l2 l3 l4 r3 I3 hf
def f_X7_leastBid (o : Nat) (a1 : Int32) (a2 : Int32) (I : aI) : Option (Int32 × aI) :=
  am_b1 (f_X7_isPlayer o a1 I) fun r1 =>
  if r1 = 0 then (
    some ((-1 : Int32), I))
  else (
    am_b1 (f_X7_in a2 (1 : Int32) (300 : Int32)) fun r3 =>
    if r3 = 0 then (
      some ((-2 : Int32), I))
    else (
      am_b1 (f_X7_goes o I) fun r5 =>
      if r5 = 0 then (
        am_b1 (f_X7_nextLot o I) fun r7 =>
        if r7 < 0 then (
          some ((-5 : Int32), I))
        else (
          am_b1 (f_X7_isLastNext o I) fun r9 =>
          if r9 = 0 then (
            f_X7_leastBid_h53 o am_F a1 a2 a2 (0 : Int32) I)
          else (
            some ((-5 : Int32), I))))
      else (
        some ((-5 : Int32), I))))
set_option maxRecDepth 100000 in
set_option maxHeartbeats 4000000 in
theorem am_X7_leastBid {sh : aS} {P : aP} {I : aI} {J : aJ} {o : Nat} (hL : L7 sh P o) {a1 : Int32} {a2 : Int32} {r : Int32} {I9 : aI} (hf : f_X7_leastBid o a1 a2 I = some (r, I9)) : AM yX7_leastBid cX7_leastBid 6 (some .int) 4 92 [.ref o, .int a1, .int a2] sh P I J (some (.int r)) sh P I9 J 0 0 := by
  refine am_met (by decide +kernel) (Nat.le_of_ble_eq_true rfl) (fun K X hR => ?_)
  have X : am_C K cX7_leastBid 6 RX7 "leastBid" ({ frames := 4, cells := 0, slots := 0, locals := 92 } : Room) := X
  show AW K 6 0 [(0, .ref o), (1, .int a1), (2, .int a2)] [] sh P I J 0 0
  unfold f_X7_leastBid at hf
  refine ar_aload_n X dX7_leastBid_0 rfl 0 rfl ?_
  refine ar_iload_n X dX7_leastBid_1 rfl 1 rfl ?_
  obtain ⟨r1, h1, hf⟩ := am_b1_e hf
  refine ar_cVi (As := [.int a1]) (st := []) X dX7_leastBid_2 (am_X7_isPlayer hL h1) lk_X7_66 mt_X7_isPlayer mi_X7_isPlayer (L7_s0 hL) rfl rfl (Nat.le_of_ble_eq_true rfl) ⟨by decide, by decide⟩ ⟨Nat.zero_le _, Nat.zero_le _⟩ rfl ?_
  refine ar_if_ne (tgt := 10) X dX7_leastBid_5 (by decide) hf (fun h2 hf => ?_) (fun h2 hf => ?_)
  · refine ar_iconst (v := -1) X dX7_leastBid_8 (by decide) ?_
    cases hf
    exact ar_iret X dX7_leastBid_9 hR (Nat.le_refl _) (Nat.le_refl _)
  · refine ar_iload_n X dX7_leastBid_10 rfl 2 rfl ?_
    refine ar_iconst (v := 1) X dX7_leastBid_11 (by decide) ?_
    refine ar_sipush (v := 300) X dX7_leastBid_12 (by decide) ?_
    obtain ⟨r3, h3, hf⟩ := am_b1_e hf
    refine ar_cSi (As := [.int a2, .int (1 : Int32), .int (300 : Int32)]) (st := []) X dX7_leastBid_15 (am_X7_in h3) lk_X7_43 mt_X7_in ms_X7_in rfl (Nat.le_of_ble_eq_true rfl) ⟨by decide, by decide⟩ ⟨Nat.zero_le _, Nat.zero_le _⟩ rfl ?_
    refine ar_if_ne (tgt := 24) X dX7_leastBid_18 (by decide) hf (fun h4 hf => ?_) (fun h4 hf => ?_)
    · refine ar_bipush (v := -2) X dX7_leastBid_21 (by decide) ?_
      cases hf
      exact ar_iret X dX7_leastBid_23 hR (Nat.le_refl _) (Nat.le_refl _)
    · refine ar_aload_n X dX7_leastBid_24 rfl 0 rfl ?_
      obtain ⟨r5, h5, hf⟩ := am_b1_e hf
      refine ar_cVi (As := []) (st := []) X dX7_leastBid_25 (am_X7_goes hL h5) lk_X7_62 mt_X7_goes mi_X7_goes (L7_s0 hL) rfl rfl (Nat.le_of_ble_eq_true rfl) ⟨by decide, by decide⟩ ⟨Nat.zero_le _, Nat.zero_le _⟩ rfl ?_
      refine ar_if_ne (tgt := 45) X dX7_leastBid_28 (by decide) hf (fun h6 hf => ?_) (fun h6 hf => ?_)
      · refine ar_aload_n X dX7_leastBid_31 rfl 0 rfl ?_
        obtain ⟨r7, h7, hf⟩ := am_b1_e hf
        refine ar_cVi (As := []) (st := []) X dX7_leastBid_32 (am_X7_nextLot hL h7) lk_X7_89 mt_X7_nextLot mi_X7_nextLot (L7_s0 hL) rfl rfl (Nat.le_of_ble_eq_true rfl) ⟨by decide, by decide⟩ ⟨Nat.zero_le _, Nat.zero_le _⟩ rfl ?_
        refine ar_if_lt (tgt := 45) X dX7_leastBid_35 (by decide) hf (fun h8 hf => ?_) (fun h8 hf => ?_)
        · refine ar_bipush (v := -5) X dX7_leastBid_45 (by decide) ?_
          cases hf
          exact ar_iret X dX7_leastBid_47 hR (Nat.le_refl _) (Nat.le_refl _)
        · refine ar_aload_n X dX7_leastBid_38 rfl 0 rfl ?_
          obtain ⟨r9, h9, hf⟩ := am_b1_e hf
          refine ar_cVi (As := []) (st := []) X dX7_leastBid_39 (am_X7_isLastNext hL h9) lk_X7_96 mt_X7_isLastNext mi_X7_isLastNext (L7_s0 hL) rfl rfl (Nat.le_of_ble_eq_true rfl) ⟨by decide, by decide⟩ ⟨Nat.zero_le _, Nat.zero_le _⟩ rfl ?_
          refine ar_if_eq (tgt := 48) X dX7_leastBid_42 (by decide) hf (fun h10 hf => ?_) (fun h10 hf => ?_)
          · refine ar_iload_n X dX7_leastBid_48 rfl 2 rfl ?_
            refine ar_istore_n X dX7_leastBid_49 rfl (by decide) rfl ?_
            refine ar_iconst (v := 0) X dX7_leastBid_50 (by decide) ?_
            refine ar_istore X dX7_leastBid_51 (by decide) rfl ?_
            refine ar_lo [2, 3, 4, 1, 0] rfl ?_
            exact ab_X7_leastBid_h53 X hL hR am_F a1 a2 a2 (0 : Int32) I hf
          · refine ar_bipush (v := -5) X dX7_leastBid_45 (by decide) ?_
            cases hf
            exact ar_iret X dX7_leastBid_47 hR (Nat.le_refl _) (Nat.le_refl _)
      · refine ar_bipush (v := -5) X dX7_leastBid_45 (by decide) ?_
        cases hf
        exact ar_iret X dX7_leastBid_47 hR (Nat.le_refl _) (Nat.le_refl _)
def f_X7_lot (o : Nat) (a1 : Int32) (a2 : Int32) (I : aI) : Option (Int32 × aI) :=
  am_b1 (f_X7_in a1 (0 : Int32) (5 : Int32)) fun r1 =>
  if r1 = 0 then (
    some ((-2 : Int32), I))
  else (
    am_b1 (f_X7_in a2 (1 : Int32) (50 : Int32)) fun r3 =>
    if r3 = 0 then (
      some ((-2 : Int32), I))
    else (
      if (I (o + 1) 1) = (12 : Int32) then (
        some ((-4 : Int32), I))
      else (
        am_b1 (f_X7_goes o I) fun r6 =>
        if r6 = 0 then (
          if (I (o + 1) 2) ≤ 0 then (
            am_let (I (o + 1) 1) fun x9 =>
            am_let (am_w I (o + 1) 1 ((I (o + 1) 1) + (1 : Int32))) fun I10 =>
            am_b1 (f_X7_layLot o x9 (0 : Int32) a1 I10) fun I11 =>
            am_b1 (f_X7_layLot o x9 (1 : Int32) a2 I11) fun I12 =>
            am_b1 (f_X7_layLot o x9 (2 : Int32) (0 : Int32) I12) fun I13 =>
            am_b1 (f_X7_layLot o x9 (3 : Int32) (-6 : Int32) I13) fun I14 =>
            am_b1 (f_X7_layLot o x9 (4 : Int32) (0 : Int32) I14) fun I15 =>
            some (x9, I15))
          else (
            some ((-5 : Int32), I)))
        else (
          some ((-5 : Int32), I)))))
set_option maxRecDepth 100000 in
set_option maxHeartbeats 4000000 in
theorem am_X7_lot {sh : aS} {P : aP} {I : aI} {J : aJ} {o : Nat} (hL : L7 sh P o) {a1 : Int32} {a2 : Int32} {r : Int32} {I9 : aI} (hf : f_X7_lot o a1 a2 I = some (r, I9)) : AM yX7_lot cX7_lot 4 (some .int) 1 23 [.ref o, .int a1, .int a2] sh P I J (some (.int r)) sh P I9 J 0 0 := by
  refine am_met (by decide +kernel) (Nat.le_of_ble_eq_true rfl) (fun K X hR => ?_)
  have X : am_C K cX7_lot 4 RX7 "lot" ({ frames := 1, cells := 0, slots := 0, locals := 23 } : Room) := X
  show AW K 4 0 [(0, .ref o), (1, .int a1), (2, .int a2)] [] sh P I J 0 0
  unfold f_X7_lot at hf
  refine ar_iload_n X dX7_lot_0 rfl 1 rfl ?_
  refine ar_iconst (v := 0) X dX7_lot_1 (by decide) ?_
  refine ar_iconst (v := 5) X dX7_lot_2 (by decide) ?_
  obtain ⟨r1, h1, hf⟩ := am_b1_e hf
  refine ar_cSi (As := [.int a1, .int (0 : Int32), .int (5 : Int32)]) (st := []) X dX7_lot_3 (am_X7_in h1) lk_X7_43 mt_X7_in ms_X7_in rfl (Nat.le_of_ble_eq_true rfl) ⟨by decide, by decide⟩ ⟨Nat.zero_le _, Nat.zero_le _⟩ rfl ?_
  refine ar_if_eq (tgt := 19) X dX7_lot_6 (by decide) hf (fun h2 hf => ?_) (fun h2 hf => ?_)
  · refine ar_bipush (v := -2) X dX7_lot_19 (by decide) ?_
    cases hf
    exact ar_iret X dX7_lot_21 hR (Nat.le_refl _) (Nat.le_refl _)
  · refine ar_iload_n X dX7_lot_9 rfl 2 rfl ?_
    refine ar_iconst (v := 1) X dX7_lot_10 (by decide) ?_
    refine ar_bipush (v := 50) X dX7_lot_11 (by decide) ?_
    obtain ⟨r3, h3, hf⟩ := am_b1_e hf
    refine ar_cSi (As := [.int a2, .int (1 : Int32), .int (50 : Int32)]) (st := []) X dX7_lot_13 (am_X7_in h3) lk_X7_43 mt_X7_in ms_X7_in rfl (Nat.le_of_ble_eq_true rfl) ⟨by decide, by decide⟩ ⟨Nat.zero_le _, Nat.zero_le _⟩ rfl ?_
    refine ar_if_ne (tgt := 22) X dX7_lot_16 (by decide) hf (fun h4 hf => ?_) (fun h4 hf => ?_)
    · refine ar_bipush (v := -2) X dX7_lot_19 (by decide) ?_
      cases hf
      exact ar_iret X dX7_lot_21 hR (Nat.le_refl _) (Nat.le_refl _)
    · refine ar_aload_n X dX7_lot_22 rfl 0 rfl ?_
      refine ar_getr X dX7_lot_23 fg_X7_7 rfl (L7_s0 hL) (L7_p0_0 hL) ?_
      refine ar_iconst (v := 1) X dX7_lot_26 (by decide) ?_
      refine ar_ialdK (k := 1) X dX7_lot_27 (L7_s1 hL) (by decide) (by decide) ?_
      refine ar_bipush (v := 12) X dX7_lot_28 (by decide) ?_
      refine ar_icmp_ne (tgt := 36) X dX7_lot_30 (by decide) hf (fun h5 hf => ?_) (fun h5 hf => ?_)
      · refine ar_bipush (v := -4) X dX7_lot_33 (by decide) ?_
        cases hf
        exact ar_iret X dX7_lot_35 hR (Nat.le_refl _) (Nat.le_refl _)
      · refine ar_aload_n X dX7_lot_36 rfl 0 rfl ?_
        obtain ⟨r6, h6, hf⟩ := am_b1_e hf
        refine ar_cVi (As := []) (st := []) X dX7_lot_37 (am_X7_goes hL h6) lk_X7_62 mt_X7_goes mi_X7_goes (L7_s0 hL) rfl rfl (Nat.le_of_ble_eq_true rfl) ⟨by decide, by decide⟩ ⟨Nat.zero_le _, Nat.zero_le _⟩ rfl ?_
        refine ar_if_ne (tgt := 52) X dX7_lot_40 (by decide) hf (fun h7 hf => ?_) (fun h7 hf => ?_)
        · refine ar_aload_n X dX7_lot_43 rfl 0 rfl ?_
          refine ar_getr X dX7_lot_44 fg_X7_7 rfl (L7_s0 hL) (L7_p0_0 hL) ?_
          refine ar_iconst (v := 2) X dX7_lot_47 (by decide) ?_
          refine ar_ialdK (k := 2) X dX7_lot_48 (L7_s1 hL) (by decide) (by decide) ?_
          refine ar_if_le (tgt := 55) X dX7_lot_49 (by decide) hf (fun h8 hf => ?_) (fun h8 hf => ?_)
          · refine ar_aload_n X dX7_lot_55 rfl 0 rfl ?_
            refine ar_getr X dX7_lot_56 fg_X7_7 rfl (L7_s0 hL) (L7_p0_0 hL) ?_
            refine ar_iconst (v := 1) X dX7_lot_59 (by decide) ?_
            refine ar_ialdK (k := 1) X dX7_lot_60 (L7_s1 hL) (by decide) (by decide) ?_
            refine ar_letI hf (fun x9 hf => ?_)
            refine ar_istore_n X dX7_lot_61 rfl (by decide) rfl ?_
            refine ar_aload_n X dX7_lot_62 rfl 1 rfl ?_
            refine ar_getr X dX7_lot_63 fg_X7_7 rfl (L7_s0 hL) (L7_p0_0 hL) ?_
            refine ar_iconst (v := 1) X dX7_lot_66 (by decide) ?_
            refine ar_dup2 X dX7_lot_67 rfl rfl ?_
            refine ar_ialdK (k := 1) X dX7_lot_68 (L7_s1 hL) (by decide) (by decide) ?_
            refine ar_iconst (v := 1) X dX7_lot_69 (by decide) ?_
            refine ar_iadd X dX7_lot_70 ?_
            refine ar_iastK (k := 1) X dX7_lot_71 (L7_s1 hL) (by decide) (by decide) hf (fun I10 hf => ?_)
            refine ar_aload_n X dX7_lot_72 rfl 1 rfl ?_
            refine ar_iload_n X dX7_lot_73 rfl 0 rfl ?_
            refine ar_iconst (v := 0) X dX7_lot_74 (by decide) ?_
            refine ar_iload_n X dX7_lot_75 rfl 2 rfl ?_
            obtain ⟨I11, h11, hf⟩ := am_b1_e hf
            refine ar_cVv (As := [.int x9, .int (0 : Int32), .int a1]) (st := []) X dX7_lot_76 (am_X7_layLot hL h11) lk_X7_74 mt_X7_layLot mi_X7_layLot (L7_s0 hL) rfl rfl (Nat.le_of_ble_eq_true rfl) ⟨by decide, by decide⟩ ⟨Nat.zero_le _, Nat.zero_le _⟩ rfl ?_
            refine ar_aload_n X dX7_lot_79 rfl 1 rfl ?_
            refine ar_iload_n X dX7_lot_80 rfl 0 rfl ?_
            refine ar_iconst (v := 1) X dX7_lot_81 (by decide) ?_
            refine ar_iload_n X dX7_lot_82 rfl 3 rfl ?_
            obtain ⟨I12, h12, hf⟩ := am_b1_e hf
            refine ar_cVv (As := [.int x9, .int (1 : Int32), .int a2]) (st := []) X dX7_lot_83 (am_X7_layLot hL h12) lk_X7_74 mt_X7_layLot mi_X7_layLot (L7_s0 hL) rfl rfl (Nat.le_of_ble_eq_true rfl) ⟨by decide, by decide⟩ ⟨Nat.zero_le _, Nat.zero_le _⟩ rfl ?_
            refine ar_aload_n X dX7_lot_86 rfl 1 rfl ?_
            refine ar_iload_n X dX7_lot_87 rfl 0 rfl ?_
            refine ar_iconst (v := 2) X dX7_lot_88 (by decide) ?_
            refine ar_iconst (v := 0) X dX7_lot_89 (by decide) ?_
            obtain ⟨I13, h13, hf⟩ := am_b1_e hf
            refine ar_cVv (As := [.int x9, .int (2 : Int32), .int (0 : Int32)]) (st := []) X dX7_lot_90 (am_X7_layLot hL h13) lk_X7_74 mt_X7_layLot mi_X7_layLot (L7_s0 hL) rfl rfl (Nat.le_of_ble_eq_true rfl) ⟨by decide, by decide⟩ ⟨Nat.zero_le _, Nat.zero_le _⟩ rfl ?_
            refine ar_aload_n X dX7_lot_93 rfl 1 rfl ?_
            refine ar_iload_n X dX7_lot_94 rfl 0 rfl ?_
            refine ar_iconst (v := 3) X dX7_lot_95 (by decide) ?_
            refine ar_bipush (v := -6) X dX7_lot_96 (by decide) ?_
            obtain ⟨I14, h14, hf⟩ := am_b1_e hf
            refine ar_cVv (As := [.int x9, .int (3 : Int32), .int (-6 : Int32)]) (st := []) X dX7_lot_98 (am_X7_layLot hL h14) lk_X7_74 mt_X7_layLot mi_X7_layLot (L7_s0 hL) rfl rfl (Nat.le_of_ble_eq_true rfl) ⟨by decide, by decide⟩ ⟨Nat.zero_le _, Nat.zero_le _⟩ rfl ?_
            refine ar_aload_n X dX7_lot_101 rfl 1 rfl ?_
            refine ar_iload_n X dX7_lot_102 rfl 0 rfl ?_
            refine ar_iconst (v := 4) X dX7_lot_103 (by decide) ?_
            refine ar_iconst (v := 0) X dX7_lot_104 (by decide) ?_
            obtain ⟨I15, h15, hf⟩ := am_b1_e hf
            refine ar_cVv (As := [.int x9, .int (4 : Int32), .int (0 : Int32)]) (st := []) X dX7_lot_105 (am_X7_layLot hL h15) lk_X7_74 mt_X7_layLot mi_X7_layLot (L7_s0 hL) rfl rfl (Nat.le_of_ble_eq_true rfl) ⟨by decide, by decide⟩ ⟨Nat.zero_le _, Nat.zero_le _⟩ rfl ?_
            refine ar_iload_n X dX7_lot_108 rfl 0 rfl ?_
            cases hf
            exact ar_iret X dX7_lot_109 hR (Nat.le_refl _) (Nat.le_refl _)
          · refine ar_bipush (v := -5) X dX7_lot_52 (by decide) ?_
            cases hf
            exact ar_iret X dX7_lot_54 hR (Nat.le_refl _) (Nat.le_refl _)
        · refine ar_bipush (v := -5) X dX7_lot_52 (by decide) ?_
          cases hf
          exact ar_iret X dX7_lot_54 hR (Nat.le_refl _) (Nat.le_refl _)
def f_X7_lotsOf_h4 (o : Nat) : Nat → Int32 → Int32 → Int32 → aI → Option Int32
  | 0, _, _, _, _ => none
  | n + 1, l1, l2, l3, I =>
    if (I (o + 1) 1) ≤ l3 then (
      some l2)
    else (
      am_b1 (f_X7_ofLot o l3 (2 : Int32) I) fun r2 =>
      if ((am_shr r2 l1) &&& (1 : Int32)) = (1 : Int32) then (
        am_let (l2 ||| (am_shl (1 : Int32) l3)) fun x4 =>
        f_X7_lotsOf_h4 o n l1 x4 (l3 + 1) I)
      else (
        am_let (l2 ||| (0 : Int32)) fun x5 =>
        f_X7_lotsOf_h4 o n l1 x5 (l3 + 1) I))
set_option maxRecDepth 100000 in
set_option maxHeartbeats 4000000 in
theorem ab_X7_lotsOf_h4 {K : aK} {sh : aS} {P : aP} {I : aI} {J : aJ} {o : Nat} (X : am_C K cX7_lotsOf 4 RX7 "lotsOf" ({ frames := 1, cells := 0, slots := 0, locals := 22 } : Room)) (hL : L7 sh P o) {r : Int32} (hR : am_R K (some .int) (some (.int r)) sh P I J 0 0) : ∀ (n : Nat) (l1 : Int32) (l2 : Int32) (l3 : Int32) , f_X7_lotsOf_h4 o n l1 l2 l3 I = some r → AW K 4 4 [(0, .ref o), (1, .int l1), (2, .int l2), (3, .int l3)] [] sh P I J 0 0 := by
  intro n
  induction n with
  | zero =>
    intro l1 l2 l3 hf
    cases hf
  | succ n ih =>
    intro l1 l2 l3 hf
    rw [f_X7_lotsOf_h4] at hf
    refine ar_iload_n X dX7_lotsOf_4 rfl 3 rfl ?_
    refine ar_aload_n X dX7_lotsOf_5 rfl 0 rfl ?_
    refine ar_getr X dX7_lotsOf_6 fg_X7_7 rfl (L7_s0 hL) (L7_p0_0 hL) ?_
    refine ar_iconst (v := 1) X dX7_lotsOf_9 (by decide) ?_
    refine ar_ialdK (k := 1) X dX7_lotsOf_10 (L7_s1 hL) (by decide) (by decide) ?_
    refine ar_icmp_ge (tgt := 44) X dX7_lotsOf_11 (by decide) hf (fun h1 hf => ?_) (fun h1 hf => ?_)
    · refine ar_iload_n X dX7_lotsOf_44 rfl 2 rfl ?_
      cases hf
      exact ar_iret X dX7_lotsOf_45 hR (Nat.le_refl _) (Nat.le_refl _)
    · refine ar_iload_n X dX7_lotsOf_14 rfl 2 rfl ?_
      refine ar_aload_n X dX7_lotsOf_15 rfl 0 rfl ?_
      refine ar_iload_n X dX7_lotsOf_16 rfl 3 rfl ?_
      refine ar_iconst (v := 2) X dX7_lotsOf_17 (by decide) ?_
      obtain ⟨r2, h2, hf⟩ := am_b1_e hf
      refine ar_cVi (As := [.int l3, .int (2 : Int32)]) (st := [.int l2]) X dX7_lotsOf_18 (am_X7_ofLot hL h2) lk_X7_77 mt_X7_ofLot mi_X7_ofLot (L7_s0 hL) rfl rfl (Nat.le_of_ble_eq_true rfl) ⟨by decide, by decide⟩ ⟨Nat.zero_le _, Nat.zero_le _⟩ rfl ?_
      refine ar_iload_n X dX7_lotsOf_21 rfl 1 rfl ?_
      refine ar_ishr X dX7_lotsOf_22 ?_
      refine ar_iconst (v := 1) X dX7_lotsOf_23 (by decide) ?_
      refine ar_iand X dX7_lotsOf_24 ?_
      refine ar_iconst (v := 1) X dX7_lotsOf_25 (by decide) ?_
      refine ar_icmp_ne (tgt := 35) X dX7_lotsOf_26 (by decide) hf (fun h3 hf => ?_) (fun h3 hf => ?_)
      · refine ar_iconst (v := 1) X dX7_lotsOf_29 (by decide) ?_
        refine ar_iload_n X dX7_lotsOf_30 rfl 3 rfl ?_
        refine ar_ishl X dX7_lotsOf_31 ?_
        refine ar_goto (tgt := 36) X dX7_lotsOf_32 (by decide) ?_
        refine ar_ior X dX7_lotsOf_36 ?_
        refine ar_letI hf (fun x4 hf => ?_)
        refine ar_istore_n X dX7_lotsOf_37 rfl (by decide) rfl ?_
        refine ar_iinc (j := 3) (v := (l3 + 1)) X dX7_lotsOf_38 rfl rfl (by decide) rfl ?_
        refine ar_goto (tgt := 4) X dX7_lotsOf_41 (by decide) ?_
        refine ar_lo [2, 3, 1, 0] rfl ?_
        exact ih l1 x4 (l3 + 1) hf
      · refine ar_iconst (v := 0) X dX7_lotsOf_35 (by decide) ?_
        refine ar_ior X dX7_lotsOf_36 ?_
        refine ar_letI hf (fun x5 hf => ?_)
        refine ar_istore_n X dX7_lotsOf_37 rfl (by decide) rfl ?_
        refine ar_iinc (j := 3) (v := (l3 + 1)) X dX7_lotsOf_38 rfl rfl (by decide) rfl ?_
        refine ar_goto (tgt := 4) X dX7_lotsOf_41 (by decide) ?_
        refine ar_lo [2, 3, 1, 0] rfl ?_
        exact ih l1 x5 (l3 + 1) hf
def f_X7_lotsOf (o : Nat) (a1 : Int32) (I : aI) : Option Int32 :=
  f_X7_lotsOf_h4 o am_F a1 (0 : Int32) (0 : Int32) I
set_option maxRecDepth 100000 in
set_option maxHeartbeats 4000000 in
theorem am_X7_lotsOf {sh : aS} {P : aP} {I : aI} {J : aJ} {o : Nat} (hL : L7 sh P o) {a1 : Int32} {r : Int32} (hf : f_X7_lotsOf o a1 I = some r) : AM yX7_lotsOf cX7_lotsOf 4 (some .int) 1 22 [.ref o, .int a1] sh P I J (some (.int r)) sh P I J 0 0 := by
  refine am_met (by decide +kernel) (Nat.le_of_ble_eq_true rfl) (fun K X hR => ?_)
  have X : am_C K cX7_lotsOf 4 RX7 "lotsOf" ({ frames := 1, cells := 0, slots := 0, locals := 22 } : Room) := X
  show AW K 4 0 [(0, .ref o), (1, .int a1)] [] sh P I J 0 0
  unfold f_X7_lotsOf at hf
  refine ar_iconst (v := 0) X dX7_lotsOf_0 (by decide) ?_
  refine ar_istore_n X dX7_lotsOf_1 rfl (by decide) rfl ?_
  refine ar_iconst (v := 0) X dX7_lotsOf_2 (by decide) ?_
  refine ar_istore_n X dX7_lotsOf_3 rfl (by decide) rfl ?_
  refine ar_lo [2, 3, 1, 0] rfl ?_
  exact ab_X7_lotsOf_h4 X hL hR am_F a1 (0 : Int32) (0 : Int32) hf
def f_X7_placeOf_h11 (o : Nat) : Nat → Int32 → Int32 → Int32 → Int32 → aI → Option (Int32 × aI)
  | 0, _, _, _, _, _ => none
  | n + 1, l1, l2, l3, l4, I =>
    if (I (o + 1) 0) ≤ l4 then (
      some (l2, I))
    else (
      am_b2 (f_X7_scoreOf o l4 I) fun r2 I2 =>
      if l3 < r2 then (
        am_let (l2 + (1 : Int32)) fun x4 =>
        f_X7_placeOf_h11 o n l1 x4 l3 (l4 + 1) I2)
      else (
        if r2 = l3 then (
          if l1 ≤ l4 then (
            am_let (l2 + (0 : Int32)) fun x7 =>
            f_X7_placeOf_h11 o n l1 x7 l3 (l4 + 1) I2)
          else (
            am_let (l2 + (1 : Int32)) fun x8 =>
            f_X7_placeOf_h11 o n l1 x8 l3 (l4 + 1) I2))
        else (
          am_let (l2 + (0 : Int32)) fun x9 =>
          f_X7_placeOf_h11 o n l1 x9 l3 (l4 + 1) I2)))
set_option maxRecDepth 100000 in
set_option maxHeartbeats 4000000 in
theorem ab_X7_placeOf_h11 {K : aK} {sh : aS} {P : aP} {J : aJ} {o : Nat} (X : am_C K cX7_placeOf 6 RX7 "placeOf" ({ frames := 3, cells := 0, slots := 0, locals := 68 } : Room)) (hL : L7 sh P o) {r : Int32} {I9 : aI} (hR : am_R K (some .int) (some (.int r)) sh P I9 J 0 0) : ∀ (n : Nat) (l1 : Int32) (l2 : Int32) (l3 : Int32) (l4 : Int32) (I : aI) , f_X7_placeOf_h11 o n l1 l2 l3 l4 I = some (r, I9) → AW K 6 11 [(0, .ref o), (1, .int l1), (2, .int l2), (3, .int l3), (4, .int l4)] [] sh P I J 0 0 := by
  intro n
  induction n with
  | zero =>
    intro l1 l2 l3 l4 I hf
    cases hf
  | succ n ih =>
    intro l1 l2 l3 l4 I hf
    rw [f_X7_placeOf_h11] at hf
    refine ar_iload X dX7_placeOf_11 4 rfl ?_
    refine ar_aload_n X dX7_placeOf_13 rfl 0 rfl ?_
    refine ar_getr X dX7_placeOf_14 fg_X7_7 rfl (L7_s0 hL) (L7_p0_0 hL) ?_
    refine ar_iconst (v := 0) X dX7_placeOf_17 (by decide) ?_
    refine ar_ialdK (k := 0) X dX7_placeOf_18 (L7_s1 hL) (by decide) (by decide) ?_
    refine ar_icmp_ge (tgt := 62) X dX7_placeOf_19 (by decide) hf (fun h1 hf => ?_) (fun h1 hf => ?_)
    · refine ar_iload_n X dX7_placeOf_62 rfl 2 rfl ?_
      cases hf
      exact ar_iret X dX7_placeOf_63 hR (Nat.le_refl _) (Nat.le_refl _)
    · refine ar_aload_n X dX7_placeOf_22 rfl 0 rfl ?_
      refine ar_iload X dX7_placeOf_23 4 rfl ?_
      obtain ⟨r2, I2, h2, hf⟩ := am_b2_e hf
      refine ar_cVi (As := [.int l4]) (st := []) X dX7_placeOf_25 (am_X7_scoreOf hL h2) lk_X7_86 mt_X7_scoreOf mi_X7_scoreOf (L7_s0 hL) rfl rfl (Nat.le_of_ble_eq_true rfl) ⟨by decide, by decide⟩ ⟨Nat.zero_le _, Nat.zero_le _⟩ rfl ?_
      refine ar_istore X dX7_placeOf_28 (by decide) rfl ?_
      refine ar_iload_n X dX7_placeOf_30 rfl 3 rfl ?_
      refine ar_iload X dX7_placeOf_31 0 rfl ?_
      refine ar_iload_n X dX7_placeOf_33 rfl 4 rfl ?_
      refine ar_icmp_gt (tgt := 49) X dX7_placeOf_34 (by decide) hf (fun h3 hf => ?_) (fun h3 hf => ?_)
      · refine ar_iconst (v := 1) X dX7_placeOf_49 (by decide) ?_
        refine ar_goto (tgt := 54) X dX7_placeOf_50 (by decide) ?_
        refine ar_iadd X dX7_placeOf_54 ?_
        refine ar_letI hf (fun x4 hf => ?_)
        refine ar_istore_n X dX7_placeOf_55 rfl (by decide) rfl ?_
        refine ar_iinc (j := 5) (v := (l4 + 1)) X dX7_placeOf_56 rfl rfl (by decide) rfl ?_
        refine ar_goto (tgt := 11) X dX7_placeOf_59 (by decide) ?_
        refine ar_lo [3, 4, 1, 5, 0] rfl ?_
        exact ih l1 x4 l3 (l4 + 1) I2 hf
      · refine ar_iload X dX7_placeOf_37 0 rfl ?_
        refine ar_iload_n X dX7_placeOf_39 rfl 4 rfl ?_
        refine ar_icmp_ne (tgt := 53) X dX7_placeOf_40 (by decide) hf (fun h5 hf => ?_) (fun h5 hf => ?_)
        · refine ar_iload X dX7_placeOf_43 5 rfl ?_
          refine ar_iload_n X dX7_placeOf_45 rfl 2 rfl ?_
          refine ar_icmp_ge (tgt := 53) X dX7_placeOf_46 (by decide) hf (fun h6 hf => ?_) (fun h6 hf => ?_)
          · refine ar_iconst (v := 0) X dX7_placeOf_53 (by decide) ?_
            refine ar_iadd X dX7_placeOf_54 ?_
            refine ar_letI hf (fun x7 hf => ?_)
            refine ar_istore_n X dX7_placeOf_55 rfl (by decide) rfl ?_
            refine ar_iinc (j := 5) (v := (l4 + 1)) X dX7_placeOf_56 rfl rfl (by decide) rfl ?_
            refine ar_goto (tgt := 11) X dX7_placeOf_59 (by decide) ?_
            refine ar_lo [3, 4, 1, 5, 0] rfl ?_
            exact ih l1 x7 l3 (l4 + 1) I2 hf
          · refine ar_iconst (v := 1) X dX7_placeOf_49 (by decide) ?_
            refine ar_goto (tgt := 54) X dX7_placeOf_50 (by decide) ?_
            refine ar_iadd X dX7_placeOf_54 ?_
            refine ar_letI hf (fun x8 hf => ?_)
            refine ar_istore_n X dX7_placeOf_55 rfl (by decide) rfl ?_
            refine ar_iinc (j := 5) (v := (l4 + 1)) X dX7_placeOf_56 rfl rfl (by decide) rfl ?_
            refine ar_goto (tgt := 11) X dX7_placeOf_59 (by decide) ?_
            refine ar_lo [3, 4, 1, 5, 0] rfl ?_
            exact ih l1 x8 l3 (l4 + 1) I2 hf
        · refine ar_iconst (v := 0) X dX7_placeOf_53 (by decide) ?_
          refine ar_iadd X dX7_placeOf_54 ?_
          refine ar_letI hf (fun x9 hf => ?_)
          refine ar_istore_n X dX7_placeOf_55 rfl (by decide) rfl ?_
          refine ar_iinc (j := 5) (v := (l4 + 1)) X dX7_placeOf_56 rfl rfl (by decide) rfl ?_
          refine ar_goto (tgt := 11) X dX7_placeOf_59 (by decide) ?_
          refine ar_lo [3, 4, 1, 5, 0] rfl ?_
          exact ih l1 x9 l3 (l4 + 1) I2 hf
def f_X7_placeOf (o : Nat) (a1 : Int32) (I : aI) : Option (Int32 × aI) :=
  am_b2 (f_X7_scoreOf o a1 I) fun r1 I1 =>
  f_X7_placeOf_h11 o am_F a1 (1 : Int32) r1 (0 : Int32) I1
set_option maxRecDepth 100000 in
set_option maxHeartbeats 4000000 in
theorem am_X7_placeOf {sh : aS} {P : aP} {I : aI} {J : aJ} {o : Nat} (hL : L7 sh P o) {a1 : Int32} {r : Int32} {I9 : aI} (hf : f_X7_placeOf o a1 I = some (r, I9)) : AM yX7_placeOf cX7_placeOf 6 (some .int) 3 68 [.ref o, .int a1] sh P I J (some (.int r)) sh P I9 J 0 0 := by
  refine am_met (by decide +kernel) (Nat.le_of_ble_eq_true rfl) (fun K X hR => ?_)
  have X : am_C K cX7_placeOf 6 RX7 "placeOf" ({ frames := 3, cells := 0, slots := 0, locals := 68 } : Room) := X
  show AW K 6 0 [(0, .ref o), (1, .int a1)] [] sh P I J 0 0
  unfold f_X7_placeOf at hf
  refine ar_iconst (v := 1) X dX7_placeOf_0 (by decide) ?_
  refine ar_istore_n X dX7_placeOf_1 rfl (by decide) rfl ?_
  refine ar_aload_n X dX7_placeOf_2 rfl 1 rfl ?_
  refine ar_iload_n X dX7_placeOf_3 rfl 2 rfl ?_
  obtain ⟨r1, I1, h1, hf⟩ := am_b2_e hf
  refine ar_cVi (As := [.int a1]) (st := []) X dX7_placeOf_4 (am_X7_scoreOf hL h1) lk_X7_86 mt_X7_scoreOf mi_X7_scoreOf (L7_s0 hL) rfl rfl (Nat.le_of_ble_eq_true rfl) ⟨by decide, by decide⟩ ⟨Nat.zero_le _, Nat.zero_le _⟩ rfl ?_
  refine ar_istore_n X dX7_placeOf_7 rfl (by decide) rfl ?_
  refine ar_iconst (v := 0) X dX7_placeOf_8 (by decide) ?_
  refine ar_istore X dX7_placeOf_9 (by decide) rfl ?_
  refine ar_lo [3, 4, 2, 1, 0] rfl ?_
  exact ab_X7_placeOf_h11 X hL hR am_F a1 (1 : Int32) r1 (0 : Int32) I1 hf
def f_X7_player (o : Nat) (a1 : Int32) (a2 : Int32) (I : aI) : Option (Int32 × aI) :=
  am_b1 (f_X7_isPlayer o a1 I) fun r1 =>
  if r1 = 0 then (
    some ((-1 : Int32), I))
  else (
    if a2 = (0 : Int32) then (
      am_b1 (f_X7_of o a1 a2 I) fun r4 =>
      some (r4, I))
    else if a2 = (1 : Int32) then (
      am_b1 (f_X7_of o a1 a2 I) fun r6 =>
      some (r6, I))
    else if a2 = (2 : Int32) then (
      am_b1 (f_X7_of o a1 a2 I) fun r8 =>
      some (r8, I))
    else if a2 = (3 : Int32) then (
      am_b2 (f_X7_valueWith o a1 (-6 : Int32) I) fun r10 I10 =>
      some (r10, I10))
    else if a2 = (4 : Int32) then (
      am_b2 (f_X7_scoreOf o a1 I) fun r12 I12 =>
      some (r12, I12))
    else if a2 = (5 : Int32) then (
      am_b2 (f_X7_placeOf o a1 I) fun r14 I14 =>
      some (r14, I14))
    else if a2 = (6 : Int32) then (
      am_b1 (f_X7_lotsOf o a1 I) fun r16 =>
      some (r16, I))
    else if a2 = (7 : Int32) then (
      am_b2 (f_X7_limitOf o a1 I) fun r18 I18 =>
      some (r18, I18))
    else if a2 = (8 : Int32) then (
      am_b1 (f_X7_of o a1 (5 : Int32) I) fun r20 =>
      some (r20, I))
    else if a2 = (9 : Int32) then (
      am_b1 (f_X7_of o a1 (6 : Int32) I) fun r22 =>
      some (r22, I))
    else (
      some ((-2 : Int32), I)))
set_option maxRecDepth 100000 in
set_option maxHeartbeats 4000000 in
theorem am_X7_player {sh : aS} {P : aP} {I : aI} {J : aJ} {o : Nat} (hL : L7 sh P o) {a1 : Int32} {a2 : Int32} {r : Int32} {I9 : aI} (hf : f_X7_player o a1 a2 I = some (r, I9)) : AM yX7_player cX7_player 3 (some .int) 4 93 [.ref o, .int a1, .int a2] sh P I J (some (.int r)) sh P I9 J 0 0 := by
  refine am_met (by decide +kernel) (Nat.le_of_ble_eq_true rfl) (fun K X hR => ?_)
  have X : am_C K cX7_player 3 RX7 "player" ({ frames := 4, cells := 0, slots := 0, locals := 93 } : Room) := X
  show AW K 3 0 [(0, .ref o), (1, .int a1), (2, .int a2)] [] sh P I J 0 0
  unfold f_X7_player at hf
  refine ar_aload_n X dX7_player_0 rfl 0 rfl ?_
  refine ar_iload_n X dX7_player_1 rfl 1 rfl ?_
  obtain ⟨r1, h1, hf⟩ := am_b1_e hf
  refine ar_cVi (As := [.int a1]) (st := []) X dX7_player_2 (am_X7_isPlayer hL h1) lk_X7_66 mt_X7_isPlayer mi_X7_isPlayer (L7_s0 hL) rfl rfl (Nat.le_of_ble_eq_true rfl) ⟨by decide, by decide⟩ ⟨Nat.zero_le _, Nat.zero_le _⟩ rfl ?_
  refine ar_if_ne (tgt := 10) X dX7_player_5 (by decide) hf (fun h2 hf => ?_) (fun h2 hf => ?_)
  · refine ar_iconst (v := -1) X dX7_player_8 (by decide) ?_
    cases hf
    exact ar_iret X dX7_player_9 hR (Nat.le_refl _) (Nat.le_refl _)
  · refine ar_iload_n X dX7_player_10 rfl 2 rfl ?_
    rcases am_ite hf with ⟨h3, hf⟩ | ⟨h3, hf⟩
    · refine ar_tableIn (tgt := 64) X dX7_player_11 (by rw [h3]; decide) (by rw [h3]; decide) (by rw [h3]; rfl) (by decide) ?_
      refine ar_aload_n X dX7_player_64 rfl 0 rfl ?_
      refine ar_iload_n X dX7_player_65 rfl 1 rfl ?_
      refine ar_iload_n X dX7_player_66 rfl 2 rfl ?_
      obtain ⟨r4, h4, hf⟩ := am_b1_e hf
      refine ar_cVi (As := [.int a1, .int a2]) (st := []) X dX7_player_67 (am_X7_of hL h4) lk_X7_70 mt_X7_of mi_X7_of (L7_s0 hL) rfl rfl (Nat.le_of_ble_eq_true rfl) ⟨by decide, by decide⟩ ⟨Nat.zero_le _, Nat.zero_le _⟩ rfl ?_
      cases hf
      exact ar_iret X dX7_player_70 hR (Nat.le_refl _) (Nat.le_refl _)
    rcases am_ite hf with ⟨h5, hf⟩ | ⟨h5, hf⟩
    · refine ar_tableIn (tgt := 64) X dX7_player_11 (by rw [h5]; decide) (by rw [h5]; decide) (by rw [h5]; rfl) (by decide) ?_
      refine ar_aload_n X dX7_player_64 rfl 0 rfl ?_
      refine ar_iload_n X dX7_player_65 rfl 1 rfl ?_
      refine ar_iload_n X dX7_player_66 rfl 2 rfl ?_
      obtain ⟨r6, h6, hf⟩ := am_b1_e hf
      refine ar_cVi (As := [.int a1, .int a2]) (st := []) X dX7_player_67 (am_X7_of hL h6) lk_X7_70 mt_X7_of mi_X7_of (L7_s0 hL) rfl rfl (Nat.le_of_ble_eq_true rfl) ⟨by decide, by decide⟩ ⟨Nat.zero_le _, Nat.zero_le _⟩ rfl ?_
      cases hf
      exact ar_iret X dX7_player_70 hR (Nat.le_refl _) (Nat.le_refl _)
    rcases am_ite hf with ⟨h7, hf⟩ | ⟨h7, hf⟩
    · refine ar_tableIn (tgt := 64) X dX7_player_11 (by rw [h7]; decide) (by rw [h7]; decide) (by rw [h7]; rfl) (by decide) ?_
      refine ar_aload_n X dX7_player_64 rfl 0 rfl ?_
      refine ar_iload_n X dX7_player_65 rfl 1 rfl ?_
      refine ar_iload_n X dX7_player_66 rfl 2 rfl ?_
      obtain ⟨r8, h8, hf⟩ := am_b1_e hf
      refine ar_cVi (As := [.int a1, .int a2]) (st := []) X dX7_player_67 (am_X7_of hL h8) lk_X7_70 mt_X7_of mi_X7_of (L7_s0 hL) rfl rfl (Nat.le_of_ble_eq_true rfl) ⟨by decide, by decide⟩ ⟨Nat.zero_le _, Nat.zero_le _⟩ rfl ?_
      cases hf
      exact ar_iret X dX7_player_70 hR (Nat.le_refl _) (Nat.le_refl _)
    rcases am_ite hf with ⟨h9, hf⟩ | ⟨h9, hf⟩
    · refine ar_tableIn (tgt := 71) X dX7_player_11 (by rw [h9]; decide) (by rw [h9]; decide) (by rw [h9]; rfl) (by decide) ?_
      refine ar_aload_n X dX7_player_71 rfl 0 rfl ?_
      refine ar_iload_n X dX7_player_72 rfl 1 rfl ?_
      refine ar_bipush (v := -6) X dX7_player_73 (by decide) ?_
      obtain ⟨r10, I10, h10, hf⟩ := am_b2_e hf
      refine ar_cVi (As := [.int a1, .int (-6 : Int32)]) (st := []) X dX7_player_75 (am_X7_valueWith hL h10) lk_X7_83 mt_X7_valueWith mi_X7_valueWith (L7_s0 hL) rfl rfl (Nat.le_of_ble_eq_true rfl) ⟨by decide, by decide⟩ ⟨Nat.zero_le _, Nat.zero_le _⟩ rfl ?_
      cases hf
      exact ar_iret X dX7_player_78 hR (Nat.le_refl _) (Nat.le_refl _)
    rcases am_ite hf with ⟨h11, hf⟩ | ⟨h11, hf⟩
    · refine ar_tableIn (tgt := 79) X dX7_player_11 (by rw [h11]; decide) (by rw [h11]; decide) (by rw [h11]; rfl) (by decide) ?_
      refine ar_aload_n X dX7_player_79 rfl 0 rfl ?_
      refine ar_iload_n X dX7_player_80 rfl 1 rfl ?_
      obtain ⟨r12, I12, h12, hf⟩ := am_b2_e hf
      refine ar_cVi (As := [.int a1]) (st := []) X dX7_player_81 (am_X7_scoreOf hL h12) lk_X7_86 mt_X7_scoreOf mi_X7_scoreOf (L7_s0 hL) rfl rfl (Nat.le_of_ble_eq_true rfl) ⟨by decide, by decide⟩ ⟨Nat.zero_le _, Nat.zero_le _⟩ rfl ?_
      cases hf
      exact ar_iret X dX7_player_84 hR (Nat.le_refl _) (Nat.le_refl _)
    rcases am_ite hf with ⟨h13, hf⟩ | ⟨h13, hf⟩
    · refine ar_tableIn (tgt := 85) X dX7_player_11 (by rw [h13]; decide) (by rw [h13]; decide) (by rw [h13]; rfl) (by decide) ?_
      refine ar_aload_n X dX7_player_85 rfl 0 rfl ?_
      refine ar_iload_n X dX7_player_86 rfl 1 rfl ?_
      obtain ⟨r14, I14, h14, hf⟩ := am_b2_e hf
      refine ar_cVi (As := [.int a1]) (st := []) X dX7_player_87 (am_X7_placeOf hL h14) lk_X7_163 mt_X7_placeOf mi_X7_placeOf (L7_s0 hL) rfl rfl (Nat.le_of_ble_eq_true rfl) ⟨by decide, by decide⟩ ⟨Nat.zero_le _, Nat.zero_le _⟩ rfl ?_
      cases hf
      exact ar_iret X dX7_player_90 hR (Nat.le_refl _) (Nat.le_refl _)
    rcases am_ite hf with ⟨h15, hf⟩ | ⟨h15, hf⟩
    · refine ar_tableIn (tgt := 91) X dX7_player_11 (by rw [h15]; decide) (by rw [h15]; decide) (by rw [h15]; rfl) (by decide) ?_
      refine ar_aload_n X dX7_player_91 rfl 0 rfl ?_
      refine ar_iload_n X dX7_player_92 rfl 1 rfl ?_
      obtain ⟨r16, h16, hf⟩ := am_b1_e hf
      refine ar_cVi (As := [.int a1]) (st := []) X dX7_player_93 (am_X7_lotsOf hL h16) lk_X7_166 mt_X7_lotsOf mi_X7_lotsOf (L7_s0 hL) rfl rfl (Nat.le_of_ble_eq_true rfl) ⟨by decide, by decide⟩ ⟨Nat.zero_le _, Nat.zero_le _⟩ rfl ?_
      cases hf
      exact ar_iret X dX7_player_96 hR (Nat.le_refl _) (Nat.le_refl _)
    rcases am_ite hf with ⟨h17, hf⟩ | ⟨h17, hf⟩
    · refine ar_tableIn (tgt := 97) X dX7_player_11 (by rw [h17]; decide) (by rw [h17]; decide) (by rw [h17]; rfl) (by decide) ?_
      refine ar_aload_n X dX7_player_97 rfl 0 rfl ?_
      refine ar_iload_n X dX7_player_98 rfl 1 rfl ?_
      obtain ⟨r18, I18, h18, hf⟩ := am_b2_e hf
      refine ar_cVi (As := [.int a1]) (st := []) X dX7_player_99 (am_X7_limitOf hL h18) lk_X7_145 mt_X7_limitOf mi_X7_limitOf (L7_s0 hL) rfl rfl (Nat.le_of_ble_eq_true rfl) ⟨by decide, by decide⟩ ⟨Nat.zero_le _, Nat.zero_le _⟩ rfl ?_
      cases hf
      exact ar_iret X dX7_player_102 hR (Nat.le_refl _) (Nat.le_refl _)
    rcases am_ite hf with ⟨h19, hf⟩ | ⟨h19, hf⟩
    · refine ar_tableIn (tgt := 103) X dX7_player_11 (by rw [h19]; decide) (by rw [h19]; decide) (by rw [h19]; rfl) (by decide) ?_
      refine ar_aload_n X dX7_player_103 rfl 0 rfl ?_
      refine ar_iload_n X dX7_player_104 rfl 1 rfl ?_
      refine ar_iconst (v := 5) X dX7_player_105 (by decide) ?_
      obtain ⟨r20, h20, hf⟩ := am_b1_e hf
      refine ar_cVi (As := [.int a1, .int (5 : Int32)]) (st := []) X dX7_player_106 (am_X7_of hL h20) lk_X7_70 mt_X7_of mi_X7_of (L7_s0 hL) rfl rfl (Nat.le_of_ble_eq_true rfl) ⟨by decide, by decide⟩ ⟨Nat.zero_le _, Nat.zero_le _⟩ rfl ?_
      cases hf
      exact ar_iret X dX7_player_109 hR (Nat.le_refl _) (Nat.le_refl _)
    rcases am_ite hf with ⟨h21, hf⟩ | ⟨h21, hf⟩
    · refine ar_tableIn (tgt := 110) X dX7_player_11 (by rw [h21]; decide) (by rw [h21]; decide) (by rw [h21]; rfl) (by decide) ?_
      refine ar_aload_n X dX7_player_110 rfl 0 rfl ?_
      refine ar_iload_n X dX7_player_111 rfl 1 rfl ?_
      refine ar_bipush (v := 6) X dX7_player_112 (by decide) ?_
      obtain ⟨r22, h22, hf⟩ := am_b1_e hf
      refine ar_cVi (As := [.int a1, .int (6 : Int32)]) (st := []) X dX7_player_114 (am_X7_of hL h22) lk_X7_70 mt_X7_of mi_X7_of (L7_s0 hL) rfl rfl (Nat.le_of_ble_eq_true rfl) ⟨by decide, by decide⟩ ⟨Nat.zero_le _, Nat.zero_le _⟩ rfl ?_
      cases hf
      exact ar_iret X dX7_player_117 hR (Nat.le_refl _) (Nat.le_refl _)
    have hout : a2.toInt < 0 ∨ 9 < a2.toInt := by
      refine Classical.byContradiction (fun hn => ?_)
      have hTT : a2.toInt = 0 ∨ a2.toInt = 1 ∨ a2.toInt = 2 ∨ a2.toInt = 3 ∨ a2.toInt = 4 ∨ a2.toInt = 5 ∨ a2.toInt = 6 ∨ a2.toInt = 7 ∨ a2.toInt = 8 ∨ a2.toInt = 9 := by omega
      rcases hTT with hTT | hTT | hTT | hTT | hTT | hTT | hTT | hTT | hTT | hTT
      · exact h3 (Int32.toInt_inj.mp hTT)
      · exact h5 (Int32.toInt_inj.mp hTT)
      · exact h7 (Int32.toInt_inj.mp hTT)
      · exact h9 (Int32.toInt_inj.mp hTT)
      · exact h11 (Int32.toInt_inj.mp hTT)
      · exact h13 (Int32.toInt_inj.mp hTT)
      · exact h15 (Int32.toInt_inj.mp hTT)
      · exact h17 (Int32.toInt_inj.mp hTT)
      · exact h19 (Int32.toInt_inj.mp hTT)
      · exact h21 (Int32.toInt_inj.mp hTT)
    refine ar_tableOut (tgt := 118) X dX7_player_11 hout (by decide) ?_
    refine ar_bipush (v := -2) X dX7_player_118 (by decide) ?_
    cases hf
    exact ar_iret X dX7_player_120 hR (Nat.le_refl _) (Nat.le_refl _)
def f_X7_put_b126 (o : Nat) (l3 : Int32) (I : aI) : Option (Int32 × aI) :=
  am_let (am_w I o 5 ((I o 5) + l3)) fun I1 =>
  some ((I1 o 5), I1)
set_option maxRecDepth 100000 in
set_option maxHeartbeats 4000000 in
theorem ab_X7_put_b126 {K : aK} {sh : aS} {P : aP} {J : aJ} {o : Nat} (X : am_C K cX7_put 7 RX7 "put" ({ frames := 1, cells := 0, slots := 0, locals := 22 } : Room)) (hL : L7 sh P o) {r : Int32} {I9 : aI} (hR : am_R K (some .int) (some (.int r)) sh P I9 J 0 0) (l3 : Int32) (I : aI) (hf : f_X7_put_b126 o l3 I = some (r, I9)) : AW K 7 126 [(0, .ref o), (3, .int l3)] [] sh P I J 0 0 := by
  unfold f_X7_put_b126 at hf
  refine ar_aload_n X dX7_put_126 rfl 0 rfl ?_
  refine ar_dup X dX7_put_127 rfl ?_
  refine ar_geti X dX7_put_128 fg_X7_178 rfl (L7_s0 hL) ?_
  refine ar_iload_n X dX7_put_131 rfl 1 rfl ?_
  refine ar_iadd X dX7_put_132 ?_
  refine ar_puti X dX7_put_133 fd_X7_178 rfl ⟨rfl, rfl⟩ (L7_s0 hL) hf (fun I1 hf => ?_)
  refine ar_aload_n X dX7_put_136 rfl 0 rfl ?_
  refine ar_geti X dX7_put_137 fg_X7_178 rfl (L7_s0 hL) ?_
  cases hf
  exact ar_iret X dX7_put_140 hR (Nat.le_refl _) (Nat.le_refl _)
def f_X7_put_h86 (o : Nat) : Nat → Int64 → Int32 → Int32 → aI → Option (Int32 × aI)
  | 0, _, _, _, _ => none
  | n + 1, l1, l3, l6, I =>
    if l3 ≤ l6 then (
      f_X7_put_b126 o l3 I)
    else (
      am_g (am_ok ((I o 5) + l6) 60) (am_let (am_w I (o + 5) (Int32.toNatClampNeg ((I o 5) + l6)) (Int64.toInt32 ((am_lshr l1 ((8 : Int32) * ((l3 - (1 : Int32)) - l6))) &&& (255 : Int64)))) fun I2 =>
      f_X7_put_h86 o n l1 l3 (l6 + 1) I2))
set_option maxRecDepth 100000 in
set_option maxHeartbeats 4000000 in
theorem ab_X7_put_h86 {K : aK} {sh : aS} {P : aP} {J : aJ} {o : Nat} (X : am_C K cX7_put 7 RX7 "put" ({ frames := 1, cells := 0, slots := 0, locals := 22 } : Room)) (hL : L7 sh P o) {r : Int32} {I9 : aI} (hR : am_R K (some .int) (some (.int r)) sh P I9 J 0 0) : ∀ (n : Nat) (l1 : Int64) (l3 : Int32) (l6 : Int32) (I : aI) , f_X7_put_h86 o n l1 l3 l6 I = some (r, I9) → AW K 7 86 [(0, .ref o), (1, .long l1), (3, .int l3), (6, .int l6)] [] sh P I J 0 0 := by
  intro n
  induction n with
  | zero =>
    intro l1 l3 l6 I hf
    cases hf
  | succ n ih =>
    intro l1 l3 l6 I hf
    rw [f_X7_put_h86] at hf
    refine ar_iload X dX7_put_86 3 rfl ?_
    refine ar_iload_n X dX7_put_88 rfl 2 rfl ?_
    refine ar_icmp_ge (tgt := 126) X dX7_put_89 (by decide) hf (fun h1 hf => ?_) (fun h1 hf => ?_)
    · refine ar_lo [0, 2] rfl ?_
      exact ab_X7_put_b126 X hL hR l3 I hf
    · refine ar_aload_n X dX7_put_92 rfl 0 rfl ?_
      refine ar_getr X dX7_put_93 fg_X7_23 rfl (L7_s0 hL) (L7_p0_4 hL) ?_
      refine ar_aload_n X dX7_put_96 rfl 0 rfl ?_
      refine ar_geti X dX7_put_97 fg_X7_178 rfl (L7_s0 hL) ?_
      refine ar_iload X dX7_put_100 3 rfl ?_
      refine ar_iadd X dX7_put_102 ?_
      refine ar_lload_n X dX7_put_103 rfl 1 rfl ?_
      refine ar_bipush (v := 8) X dX7_put_104 (by decide) ?_
      refine ar_iload_n X dX7_put_106 rfl 2 rfl ?_
      refine ar_iconst (v := 1) X dX7_put_107 (by decide) ?_
      refine ar_isub X dX7_put_108 ?_
      refine ar_iload X dX7_put_109 3 rfl ?_
      refine ar_isub X dX7_put_111 ?_
      refine ar_imul X dX7_put_112 ?_
      refine ar_lshr X dX7_put_113 ?_
      refine ar_ldc2 X dX7_put_114 ct_X7_209 ?_
      refine ar_land X dX7_put_117 ?_
      refine ar_l2i X dX7_put_118 ?_
      refine ar_iast X dX7_put_119 (L7_s5 hL) hf (fun I2 hf => ?_)
      refine ar_iinc (j := 3) (v := (l6 + 1)) X dX7_put_120 rfl rfl (by decide) rfl ?_
      refine ar_goto (tgt := 86) X dX7_put_123 (by decide) ?_
      refine ar_lo [1, 2, 3, 0] rfl ?_
      exact ih l1 l3 (l6 + 1) I2 hf
def f_X7_put_b55 (o : Nat) (l1 : Int64) (l3 : Int32) (l4 : Int64) (I : aI) : Option (Int32 × aI) :=
  if l3 = 0 then (
    some ((-2 : Int32), I))
  else (
    if (lg_cmp l4 (0 : Int64)) = 0 then (
      if ((I o 5) + l3) ≤ (60 : Int32) then (
        f_X7_put_h86 o am_F l1 l3 (0 : Int32) I)
      else (
        some ((-4 : Int32), I)))
    else (
      some ((-2 : Int32), I)))
set_option maxRecDepth 100000 in
set_option maxHeartbeats 4000000 in
theorem ab_X7_put_b55 {K : aK} {sh : aS} {P : aP} {J : aJ} {o : Nat} (X : am_C K cX7_put 7 RX7 "put" ({ frames := 1, cells := 0, slots := 0, locals := 22 } : Room)) (hL : L7 sh P o) {r : Int32} {I9 : aI} (hR : am_R K (some .int) (some (.int r)) sh P I9 J 0 0) (l1 : Int64) (l3 : Int32) (l4 : Int64) (I : aI) (hf : f_X7_put_b55 o l1 l3 l4 I = some (r, I9)) : AW K 7 55 [(0, .ref o), (1, .long l1), (3, .int l3), (4, .long l4)] [] sh P I J 0 0 := by
  unfold f_X7_put_b55 at hf
  refine ar_iload_n X dX7_put_55 rfl 2 rfl ?_
  refine ar_if_eq (tgt := 66) X dX7_put_56 (by decide) hf (fun h1 hf => ?_) (fun h1 hf => ?_)
  · refine ar_bipush (v := -2) X dX7_put_66 (by decide) ?_
    cases hf
    exact ar_iret X dX7_put_68 hR (Nat.le_refl _) (Nat.le_refl _)
  · refine ar_lload X dX7_put_59 3 rfl ?_
    refine ar_lconst (v := 0) X dX7_put_61 (by decide) ?_
    refine ar_lcmp X dX7_put_62 ?_
    refine ar_if_eq (tgt := 69) X dX7_put_63 (by decide) hf (fun h2 hf => ?_) (fun h2 hf => ?_)
    · refine ar_aload_n X dX7_put_69 rfl 0 rfl ?_
      refine ar_geti X dX7_put_70 fg_X7_178 rfl (L7_s0 hL) ?_
      refine ar_iload_n X dX7_put_73 rfl 2 rfl ?_
      refine ar_iadd X dX7_put_74 ?_
      refine ar_bipush (v := 60) X dX7_put_75 (by decide) ?_
      refine ar_icmp_le (tgt := 83) X dX7_put_77 (by decide) hf (fun h3 hf => ?_) (fun h3 hf => ?_)
      · refine ar_iconst (v := 0) X dX7_put_83 (by decide) ?_
        refine ar_istore X dX7_put_84 (by decide) rfl ?_
        refine ar_lo [1, 2, 3, 0] rfl ?_
        exact ab_X7_put_h86 X hL hR am_F l1 l3 (0 : Int32) I hf
      · refine ar_bipush (v := -4) X dX7_put_80 (by decide) ?_
        cases hf
        exact ar_iret X dX7_put_82 hR (Nat.le_refl _) (Nat.le_refl _)
    · refine ar_bipush (v := -2) X dX7_put_66 (by decide) ?_
      cases hf
      exact ar_iret X dX7_put_68 hR (Nat.le_refl _) (Nat.le_refl _)
def f_X7_put_h5 (o : Nat) : Nat → Int64 → Int32 → Int64 → aI → Option (Int32 × aI)
  | 0, _, _, _, _ => none
  | n + 1, l1, l3, l4, I =>
    if (8 : Int32) ≤ l3 then (
      f_X7_put_b55 o l1 l3 l4 I)
    else (
      if (lg_cmp (l4 &&& (255 : Int64)) (0 : Int64)) = 0 then (
        f_X7_put_b55 o l1 l3 l4 I)
      else (
        am_b1 (f_X7_in (Int64.toInt32 (l4 &&& (255 : Int64))) (33 : Int32) (126 : Int32)) fun r3 =>
        if r3 = 0 then (
          some ((-2 : Int32), I))
        else (
          am_let (am_lushr l4 (8 : Int32)) fun x5 =>
          f_X7_put_h5 o n l1 (l3 + 1) x5 I)))
set_option maxRecDepth 100000 in
set_option maxHeartbeats 4000000 in
theorem ab_X7_put_h5 {K : aK} {sh : aS} {P : aP} {J : aJ} {o : Nat} (X : am_C K cX7_put 7 RX7 "put" ({ frames := 1, cells := 0, slots := 0, locals := 22 } : Room)) (hL : L7 sh P o) {r : Int32} {I9 : aI} (hR : am_R K (some .int) (some (.int r)) sh P I9 J 0 0) : ∀ (n : Nat) (l1 : Int64) (l3 : Int32) (l4 : Int64) (I : aI) , f_X7_put_h5 o n l1 l3 l4 I = some (r, I9) → AW K 7 5 [(0, .ref o), (1, .long l1), (3, .int l3), (4, .long l4)] [] sh P I J 0 0 := by
  intro n
  induction n with
  | zero =>
    intro l1 l3 l4 I hf
    cases hf
  | succ n ih =>
    intro l1 l3 l4 I hf
    rw [f_X7_put_h5] at hf
    refine ar_iload_n X dX7_put_5 rfl 2 rfl ?_
    refine ar_bipush (v := 8) X dX7_put_6 (by decide) ?_
    refine ar_icmp_ge (tgt := 55) X dX7_put_8 (by decide) hf (fun h1 hf => ?_) (fun h1 hf => ?_)
    · exact ab_X7_put_b55 X hL hR l1 l3 l4 I hf
    · refine ar_lload X dX7_put_11 3 rfl ?_
      refine ar_ldc2 X dX7_put_13 ct_X7_209 ?_
      refine ar_land X dX7_put_16 ?_
      refine ar_lconst (v := 0) X dX7_put_17 (by decide) ?_
      refine ar_lcmp X dX7_put_18 ?_
      refine ar_if_eq (tgt := 55) X dX7_put_19 (by decide) hf (fun h2 hf => ?_) (fun h2 hf => ?_)
      · exact ab_X7_put_b55 X hL hR l1 l3 l4 I hf
      · refine ar_lload X dX7_put_22 3 rfl ?_
        refine ar_ldc2 X dX7_put_24 ct_X7_209 ?_
        refine ar_land X dX7_put_27 ?_
        refine ar_l2i X dX7_put_28 ?_
        refine ar_bipush (v := 33) X dX7_put_29 (by decide) ?_
        refine ar_bipush (v := 126) X dX7_put_31 (by decide) ?_
        obtain ⟨r3, h3, hf⟩ := am_b1_e hf
        refine ar_cSi (As := [.int (Int64.toInt32 (l4 &&& (255 : Int64))), .int (33 : Int32), .int (126 : Int32)]) (st := []) X dX7_put_33 (am_X7_in h3) lk_X7_43 mt_X7_in ms_X7_in rfl (Nat.le_of_ble_eq_true rfl) ⟨by decide, by decide⟩ ⟨Nat.zero_le _, Nat.zero_le _⟩ rfl ?_
        refine ar_if_ne (tgt := 42) X dX7_put_36 (by decide) hf (fun h4 hf => ?_) (fun h4 hf => ?_)
        · refine ar_bipush (v := -2) X dX7_put_39 (by decide) ?_
          cases hf
          exact ar_iret X dX7_put_41 hR (Nat.le_refl _) (Nat.le_refl _)
        · refine ar_iinc (j := 2) (v := (l3 + 1)) X dX7_put_42 rfl rfl (by decide) rfl ?_
          refine ar_lload X dX7_put_45 3 rfl ?_
          refine ar_bipush (v := 8) X dX7_put_47 (by decide) ?_
          refine ar_lushr X dX7_put_49 ?_
          refine ar_letL hf (fun x5 hf => ?_)
          refine ar_lstore X dX7_put_50 (by decide) rfl ?_
          refine ar_goto (tgt := 5) X dX7_put_52 (by decide) ?_
          refine ar_lo [2, 3, 1, 0] rfl ?_
          exact ih l1 (l3 + 1) x5 I hf
def f_X7_put (o : Nat) (a1 : Int64) (I : aI) : Option (Int32 × aI) :=
  f_X7_put_h5 o am_F a1 (0 : Int32) a1 I
set_option maxRecDepth 100000 in
set_option maxHeartbeats 4000000 in
theorem am_X7_put {sh : aS} {P : aP} {I : aI} {J : aJ} {o : Nat} (hL : L7 sh P o) {a1 : Int64} {r : Int32} {I9 : aI} (hf : f_X7_put o a1 I = some (r, I9)) : AM yX7_put cX7_put 7 (some .int) 1 22 [.ref o, .long a1] sh P I J (some (.int r)) sh P I9 J 0 0 := by
  refine am_met (by decide +kernel) (Nat.le_of_ble_eq_true rfl) (fun K X hR => ?_)
  have X : am_C K cX7_put 7 RX7 "put" ({ frames := 1, cells := 0, slots := 0, locals := 22 } : Room) := X
  show AW K 7 0 [(0, .ref o), (1, .long a1)] [] sh P I J 0 0
  unfold f_X7_put at hf
  refine ar_iconst (v := 0) X dX7_put_0 (by decide) ?_
  refine ar_istore_n X dX7_put_1 rfl (by decide) rfl ?_
  refine ar_lload_n X dX7_put_2 rfl 2 rfl ?_
  refine ar_lstore X dX7_put_3 (by decide) rfl ?_
  refine ar_lo [2, 3, 1, 0] rfl ?_
  exact ab_X7_put_h5 X hL hR am_F a1 (0 : Int32) a1 I hf
def f_X7_restore_h26 (o : Nat) : Nat → Int32 → Int32 → aI → Option (Int32 × aI)
  | 0, _, _, _ => none
  | n + 1, l1, l2, I =>
    if (118 : Int32) ≤ l2 then (
      some ((I (o + 1) 2), I))
    else (
      am_g (am_ok (((118 : Int32) * l1) + l2) 236) (
      am_g (am_ok l2 118) (am_let (am_w I (o + 1) (Int32.toNatClampNeg l2) (I (o + 3) (Int32.toNatClampNeg (((118 : Int32) * l1) + l2)))) fun I2 =>
      f_X7_restore_h26 o n l1 (l2 + 1) I2)))
set_option maxRecDepth 100000 in
set_option maxHeartbeats 4000000 in
theorem ab_X7_restore_h26 {K : aK} {sh : aS} {P : aP} {J : aJ} {o : Nat} (X : am_C K cX7_restore 3 RX7 "restore" ({ frames := 1, cells := 0, slots := 0, locals := 22 } : Room)) (hL : L7 sh P o) {r : Int32} {I9 : aI} (hR : am_R K (some .int) (some (.int r)) sh P I9 J 0 0) : ∀ (n : Nat) (l1 : Int32) (l2 : Int32) (I : aI) , f_X7_restore_h26 o n l1 l2 I = some (r, I9) → AW K 3 26 [(0, .ref o), (1, .int l1), (2, .int l2)] [] sh P I J 0 0 := by
  intro n
  induction n with
  | zero =>
    intro l1 l2 I hf
    cases hf
  | succ n ih =>
    intro l1 l2 I hf
    rw [f_X7_restore_h26] at hf
    refine ar_iload_n X dX7_restore_26 rfl 2 rfl ?_
    refine ar_bipush (v := 118) X dX7_restore_27 (by decide) ?_
    refine ar_icmp_ge (tgt := 55) X dX7_restore_29 (by decide) hf (fun h1 hf => ?_) (fun h1 hf => ?_)
    · refine ar_aload_n X dX7_restore_55 rfl 0 rfl ?_
      refine ar_getr X dX7_restore_56 fg_X7_7 rfl (L7_s0 hL) (L7_p0_0 hL) ?_
      refine ar_iconst (v := 2) X dX7_restore_59 (by decide) ?_
      refine ar_ialdK (k := 2) X dX7_restore_60 (L7_s1 hL) (by decide) (by decide) ?_
      cases hf
      exact ar_iret X dX7_restore_61 hR (Nat.le_refl _) (Nat.le_refl _)
    · refine ar_aload_n X dX7_restore_32 rfl 0 rfl ?_
      refine ar_getr X dX7_restore_33 fg_X7_7 rfl (L7_s0 hL) (L7_p0_0 hL) ?_
      refine ar_iload_n X dX7_restore_36 rfl 2 rfl ?_
      refine ar_aload_n X dX7_restore_37 rfl 0 rfl ?_
      refine ar_getr X dX7_restore_38 fg_X7_16 rfl (L7_s0 hL) (L7_p0_2 hL) ?_
      refine ar_bipush (v := 118) X dX7_restore_41 (by decide) ?_
      refine ar_iload_n X dX7_restore_43 rfl 1 rfl ?_
      refine ar_imul X dX7_restore_44 ?_
      refine ar_iload_n X dX7_restore_45 rfl 2 rfl ?_
      refine ar_iadd X dX7_restore_46 ?_
      refine ar_iald X dX7_restore_47 (L7_s3 hL) hf (fun hf => ?_)
      refine ar_iast X dX7_restore_48 (L7_s1 hL) hf (fun I2 hf => ?_)
      refine ar_iinc (j := 2) (v := (l2 + 1)) X dX7_restore_49 rfl rfl (by decide) rfl ?_
      refine ar_goto (tgt := 26) X dX7_restore_52 (by decide) ?_
      refine ar_lo [1, 2, 0] rfl ?_
      exact ih l1 (l2 + 1) I2 hf
def f_X7_restore (o : Nat) (a1 : Int32) (I : aI) : Option (Int32 × aI) :=
  am_b1 (f_X7_in a1 (0 : Int32) (1 : Int32)) fun r1 =>
  if r1 = 0 then (
    some ((-2 : Int32), I))
  else (
    am_g (am_ok a1 2) (
    if (I (o + 4) (Int32.toNatClampNeg a1)) = 0 then (
      some ((-5 : Int32), I))
    else (
      f_X7_restore_h26 o am_F a1 (0 : Int32) I)))
set_option maxRecDepth 100000 in
set_option maxHeartbeats 4000000 in
theorem am_X7_restore {sh : aS} {P : aP} {I : aI} {J : aJ} {o : Nat} (hL : L7 sh P o) {a1 : Int32} {r : Int32} {I9 : aI} (hf : f_X7_restore o a1 I = some (r, I9)) : AM yX7_restore cX7_restore 3 (some .int) 1 22 [.ref o, .int a1] sh P I J (some (.int r)) sh P I9 J 0 0 := by
  refine am_met (by decide +kernel) (Nat.le_of_ble_eq_true rfl) (fun K X hR => ?_)
  have X : am_C K cX7_restore 3 RX7 "restore" ({ frames := 1, cells := 0, slots := 0, locals := 22 } : Room) := X
  show AW K 3 0 [(0, .ref o), (1, .int a1)] [] sh P I J 0 0
  unfold f_X7_restore at hf
  refine ar_iload_n X dX7_restore_0 rfl 1 rfl ?_
  refine ar_iconst (v := 0) X dX7_restore_1 (by decide) ?_
  refine ar_iconst (v := 1) X dX7_restore_2 (by decide) ?_
  obtain ⟨r1, h1, hf⟩ := am_b1_e hf
  refine ar_cSi (As := [.int a1, .int (0 : Int32), .int (1 : Int32)]) (st := []) X dX7_restore_3 (am_X7_in h1) lk_X7_43 mt_X7_in ms_X7_in rfl (Nat.le_of_ble_eq_true rfl) ⟨by decide, by decide⟩ ⟨Nat.zero_le _, Nat.zero_le _⟩ rfl ?_
  refine ar_if_ne (tgt := 12) X dX7_restore_6 (by decide) hf (fun h2 hf => ?_) (fun h2 hf => ?_)
  · refine ar_bipush (v := -2) X dX7_restore_9 (by decide) ?_
    cases hf
    exact ar_iret X dX7_restore_11 hR (Nat.le_refl _) (Nat.le_refl _)
  · refine ar_aload_n X dX7_restore_12 rfl 0 rfl ?_
    refine ar_getr X dX7_restore_13 fg_X7_19 rfl (L7_s0 hL) (L7_p0_3 hL) ?_
    refine ar_iload_n X dX7_restore_16 rfl 1 rfl ?_
    refine ar_zald X dX7_restore_17 (L7_s4 hL) hf (fun hf => ?_)
    refine ar_if_ne (tgt := 24) X dX7_restore_18 (by decide) hf (fun h3 hf => ?_) (fun h3 hf => ?_)
    · refine ar_bipush (v := -5) X dX7_restore_21 (by decide) ?_
      cases hf
      exact ar_iret X dX7_restore_23 hR (Nat.le_refl _) (Nat.le_refl _)
    · refine ar_iconst (v := 0) X dX7_restore_24 (by decide) ?_
      refine ar_istore_n X dX7_restore_25 rfl (by decide) rfl ?_
      refine ar_lo [1, 2, 0] rfl ?_
      exact ab_X7_restore_h26 X hL hR am_F a1 (0 : Int32) I hf
def f_X7_save_b43 (o : Nat) (l1 : Int32) (I : aI) : Option (Int32 × aI) :=
  am_g (am_ok l1 2) (am_let (am_w I (o + 4) (Int32.toNatClampNeg l1) (vp_nar .boolean (1 : Int32))) fun I1 =>
  some ((I1 (o + 1) 2), I1))
set_option maxRecDepth 100000 in
set_option maxHeartbeats 4000000 in
theorem ab_X7_save_b43 {K : aK} {sh : aS} {P : aP} {J : aJ} {o : Nat} (X : am_C K cX7_save 3 RX7 "save" ({ frames := 1, cells := 0, slots := 0, locals := 22 } : Room)) (hL : L7 sh P o) {r : Int32} {I9 : aI} (hR : am_R K (some .int) (some (.int r)) sh P I9 J 0 0) (l1 : Int32) (I : aI) (hf : f_X7_save_b43 o l1 I = some (r, I9)) : AW K 3 43 [(0, .ref o), (1, .int l1)] [] sh P I J 0 0 := by
  unfold f_X7_save_b43 at hf
  refine ar_aload_n X dX7_save_43 rfl 0 rfl ?_
  refine ar_getr X dX7_save_44 fg_X7_19 rfl (L7_s0 hL) (L7_p0_3 hL) ?_
  refine ar_iload_n X dX7_save_47 rfl 1 rfl ?_
  refine ar_iconst (v := 1) X dX7_save_48 (by decide) ?_
  refine ar_zast X dX7_save_49 (L7_s4 hL) hf (fun I1 hf => ?_)
  refine ar_aload_n X dX7_save_50 rfl 0 rfl ?_
  refine ar_getr X dX7_save_51 fg_X7_7 rfl (L7_s0 hL) (L7_p0_0 hL) ?_
  refine ar_iconst (v := 2) X dX7_save_54 (by decide) ?_
  refine ar_ialdK (k := 2) X dX7_save_55 (L7_s1 hL) (by decide) (by decide) ?_
  cases hf
  exact ar_iret X dX7_save_56 hR (Nat.le_refl _) (Nat.le_refl _)
def f_X7_save_h14 (o : Nat) : Nat → Int32 → Int32 → aI → Option (Int32 × aI)
  | 0, _, _, _ => none
  | n + 1, l1, l2, I =>
    if (118 : Int32) ≤ l2 then (
      f_X7_save_b43 o l1 I)
    else (
      am_g (am_ok l2 118) (
      am_g (am_ok (((118 : Int32) * l1) + l2) 236) (am_let (am_w I (o + 3) (Int32.toNatClampNeg (((118 : Int32) * l1) + l2)) (I (o + 1) (Int32.toNatClampNeg l2))) fun I2 =>
      f_X7_save_h14 o n l1 (l2 + 1) I2)))
set_option maxRecDepth 100000 in
set_option maxHeartbeats 4000000 in
theorem ab_X7_save_h14 {K : aK} {sh : aS} {P : aP} {J : aJ} {o : Nat} (X : am_C K cX7_save 3 RX7 "save" ({ frames := 1, cells := 0, slots := 0, locals := 22 } : Room)) (hL : L7 sh P o) {r : Int32} {I9 : aI} (hR : am_R K (some .int) (some (.int r)) sh P I9 J 0 0) : ∀ (n : Nat) (l1 : Int32) (l2 : Int32) (I : aI) , f_X7_save_h14 o n l1 l2 I = some (r, I9) → AW K 3 14 [(0, .ref o), (1, .int l1), (2, .int l2)] [] sh P I J 0 0 := by
  intro n
  induction n with
  | zero =>
    intro l1 l2 I hf
    cases hf
  | succ n ih =>
    intro l1 l2 I hf
    rw [f_X7_save_h14] at hf
    refine ar_iload_n X dX7_save_14 rfl 2 rfl ?_
    refine ar_bipush (v := 118) X dX7_save_15 (by decide) ?_
    refine ar_icmp_ge (tgt := 43) X dX7_save_17 (by decide) hf (fun h1 hf => ?_) (fun h1 hf => ?_)
    · refine ar_lo [0, 1] rfl ?_
      exact ab_X7_save_b43 X hL hR l1 I hf
    · refine ar_aload_n X dX7_save_20 rfl 0 rfl ?_
      refine ar_getr X dX7_save_21 fg_X7_16 rfl (L7_s0 hL) (L7_p0_2 hL) ?_
      refine ar_bipush (v := 118) X dX7_save_24 (by decide) ?_
      refine ar_iload_n X dX7_save_26 rfl 1 rfl ?_
      refine ar_imul X dX7_save_27 ?_
      refine ar_iload_n X dX7_save_28 rfl 2 rfl ?_
      refine ar_iadd X dX7_save_29 ?_
      refine ar_aload_n X dX7_save_30 rfl 0 rfl ?_
      refine ar_getr X dX7_save_31 fg_X7_7 rfl (L7_s0 hL) (L7_p0_0 hL) ?_
      refine ar_iload_n X dX7_save_34 rfl 2 rfl ?_
      refine ar_iald X dX7_save_35 (L7_s1 hL) hf (fun hf => ?_)
      refine ar_iast X dX7_save_36 (L7_s3 hL) hf (fun I2 hf => ?_)
      refine ar_iinc (j := 2) (v := (l2 + 1)) X dX7_save_37 rfl rfl (by decide) rfl ?_
      refine ar_goto (tgt := 14) X dX7_save_40 (by decide) ?_
      refine ar_lo [1, 2, 0] rfl ?_
      exact ih l1 (l2 + 1) I2 hf
def f_X7_save (o : Nat) (a1 : Int32) (I : aI) : Option (Int32 × aI) :=
  am_b1 (f_X7_in a1 (0 : Int32) (1 : Int32)) fun r1 =>
  if r1 = 0 then (
    some ((-2 : Int32), I))
  else (
    f_X7_save_h14 o am_F a1 (0 : Int32) I)
set_option maxRecDepth 100000 in
set_option maxHeartbeats 4000000 in
theorem am_X7_save {sh : aS} {P : aP} {I : aI} {J : aJ} {o : Nat} (hL : L7 sh P o) {a1 : Int32} {r : Int32} {I9 : aI} (hf : f_X7_save o a1 I = some (r, I9)) : AM yX7_save cX7_save 3 (some .int) 1 22 [.ref o, .int a1] sh P I J (some (.int r)) sh P I9 J 0 0 := by
  refine am_met (by decide +kernel) (Nat.le_of_ble_eq_true rfl) (fun K X hR => ?_)
  have X : am_C K cX7_save 3 RX7 "save" ({ frames := 1, cells := 0, slots := 0, locals := 22 } : Room) := X
  show AW K 3 0 [(0, .ref o), (1, .int a1)] [] sh P I J 0 0
  unfold f_X7_save at hf
  refine ar_iload_n X dX7_save_0 rfl 1 rfl ?_
  refine ar_iconst (v := 0) X dX7_save_1 (by decide) ?_
  refine ar_iconst (v := 1) X dX7_save_2 (by decide) ?_
  obtain ⟨r1, h1, hf⟩ := am_b1_e hf
  refine ar_cSi (As := [.int a1, .int (0 : Int32), .int (1 : Int32)]) (st := []) X dX7_save_3 (am_X7_in h1) lk_X7_43 mt_X7_in ms_X7_in rfl (Nat.le_of_ble_eq_true rfl) ⟨by decide, by decide⟩ ⟨Nat.zero_le _, Nat.zero_le _⟩ rfl ?_
  refine ar_if_ne (tgt := 12) X dX7_save_6 (by decide) hf (fun h2 hf => ?_) (fun h2 hf => ?_)
  · refine ar_bipush (v := -2) X dX7_save_9 (by decide) ?_
    cases hf
    exact ar_iret X dX7_save_11 hR (Nat.le_refl _) (Nat.le_refl _)
  · refine ar_iconst (v := 0) X dX7_save_12 (by decide) ?_
    refine ar_istore_n X dX7_save_13 rfl (by decide) rfl ?_
    refine ar_lo [1, 2, 0] rfl ?_
    exact ab_X7_save_h14 X hL hR am_F a1 (0 : Int32) I hf
def f_X7_takes  (a0 : Int32) (a1 : Int32) : Option Int32 :=
  if a0 = (0 : Int32) then (
    am_b1 (f_X7_in a1 (1 : Int32) (300 : Int32)) fun r2 =>
    am_g (am_zk r2) (some r2))
  else if a0 = (1 : Int32) then (
    am_b1 (f_X7_in a1 (1 : Int32) (20 : Int32)) fun r5 =>
    am_g (am_zk r5) (some r5))
  else if a0 = (2 : Int32) then (
    am_b1 (f_X7_in a1 (1 : Int32) (40 : Int32)) fun r8 =>
    am_g (am_zk r8) (some r8))
  else if a0 = (3 : Int32) then (
    am_b1 (f_X7_in a1 (0 : Int32) (20 : Int32)) fun r11 =>
    am_g (am_zk r11) (some r11))
  else if a0 = (4 : Int32) then (
    if a0 = (4 : Int32) then (
      am_b1 (f_X7_in a1 (0 : Int32) (100 : Int32)) fun r15 =>
      if r15 = 0 then (
        some (0 : Int32))
      else (
        some (1 : Int32)))
    else (
      some (0 : Int32)))
  else if a0 = (5 : Int32) then (
    am_b1 (f_X7_in a1 (1 : Int32) (20 : Int32)) fun r18 =>
    am_g (am_zk r18) (some r18))
  else (
    if a0 = (4 : Int32) then (
    am_b1 (f_X7_in a1 (0 : Int32) (100 : Int32)) fun r21 =>
    if r21 = 0 then (
      some (0 : Int32))
    else (
      some (1 : Int32)))
  else (
    some (0 : Int32)))
set_option maxRecDepth 100000 in
set_option maxHeartbeats 4000000 in
theorem am_X7_takes {sh : aS} {P : aP} {I : aI} {J : aJ}   {a0 : Int32} {a1 : Int32} {r : Int32} (hf : f_X7_takes a0 a1 = some r) : AM yX7_takes cX7_takes 2 (some .boolean) 1 22 [.int a0, .int a1] sh P I J (some (.int r)) sh P I J 0 0 := by
  refine am_met (by decide +kernel) (Nat.le_of_ble_eq_true rfl) (fun K X hR => ?_)
  have X : am_C K cX7_takes 2 RX7 "takes" ({ frames := 1, cells := 0, slots := 0, locals := 22 } : Room) := X
  show AW K 2 0 [(0, .int a0), (1, .int a1)] [] sh P I J 0 0
  unfold f_X7_takes at hf
  refine ar_iload_n X dX7_takes_0 rfl 0 rfl ?_
  rcases am_ite hf with ⟨h1, hf⟩ | ⟨h1, hf⟩
  · refine ar_tableIn (tgt := 40) X dX7_takes_1 (by rw [h1]; decide) (by rw [h1]; decide) (by rw [h1]; rfl) (by decide) ?_
    refine ar_iload_n X dX7_takes_40 rfl 1 rfl ?_
    refine ar_iconst (v := 1) X dX7_takes_41 (by decide) ?_
    refine ar_sipush (v := 300) X dX7_takes_42 (by decide) ?_
    obtain ⟨r2, h2, hf⟩ := am_b1_e hf
    refine ar_cSi (As := [.int a1, .int (1 : Int32), .int (300 : Int32)]) (st := []) X dX7_takes_45 (am_X7_in h2) lk_X7_43 mt_X7_in ms_X7_in rfl (Nat.le_of_ble_eq_true rfl) ⟨by decide, by decide⟩ ⟨Nat.zero_le _, Nat.zero_le _⟩ rfl ?_
    obtain ⟨h3, hf⟩ := am_g_elim hf
    cases hf
    exact ar_zret X dX7_takes_48 (am_zn h3).1 hR (Nat.le_refl _) (Nat.le_refl _)
  rcases am_ite hf with ⟨h4, hf⟩ | ⟨h4, hf⟩
  · refine ar_tableIn (tgt := 49) X dX7_takes_1 (by rw [h4]; decide) (by rw [h4]; decide) (by rw [h4]; rfl) (by decide) ?_
    refine ar_iload_n X dX7_takes_49 rfl 1 rfl ?_
    refine ar_iconst (v := 1) X dX7_takes_50 (by decide) ?_
    refine ar_bipush (v := 20) X dX7_takes_51 (by decide) ?_
    obtain ⟨r5, h5, hf⟩ := am_b1_e hf
    refine ar_cSi (As := [.int a1, .int (1 : Int32), .int (20 : Int32)]) (st := []) X dX7_takes_53 (am_X7_in h5) lk_X7_43 mt_X7_in ms_X7_in rfl (Nat.le_of_ble_eq_true rfl) ⟨by decide, by decide⟩ ⟨Nat.zero_le _, Nat.zero_le _⟩ rfl ?_
    obtain ⟨h6, hf⟩ := am_g_elim hf
    cases hf
    exact ar_zret X dX7_takes_56 (am_zn h6).1 hR (Nat.le_refl _) (Nat.le_refl _)
  rcases am_ite hf with ⟨h7, hf⟩ | ⟨h7, hf⟩
  · refine ar_tableIn (tgt := 57) X dX7_takes_1 (by rw [h7]; decide) (by rw [h7]; decide) (by rw [h7]; rfl) (by decide) ?_
    refine ar_iload_n X dX7_takes_57 rfl 1 rfl ?_
    refine ar_iconst (v := 1) X dX7_takes_58 (by decide) ?_
    refine ar_bipush (v := 40) X dX7_takes_59 (by decide) ?_
    obtain ⟨r8, h8, hf⟩ := am_b1_e hf
    refine ar_cSi (As := [.int a1, .int (1 : Int32), .int (40 : Int32)]) (st := []) X dX7_takes_61 (am_X7_in h8) lk_X7_43 mt_X7_in ms_X7_in rfl (Nat.le_of_ble_eq_true rfl) ⟨by decide, by decide⟩ ⟨Nat.zero_le _, Nat.zero_le _⟩ rfl ?_
    obtain ⟨h9, hf⟩ := am_g_elim hf
    cases hf
    exact ar_zret X dX7_takes_64 (am_zn h9).1 hR (Nat.le_refl _) (Nat.le_refl _)
  rcases am_ite hf with ⟨h10, hf⟩ | ⟨h10, hf⟩
  · refine ar_tableIn (tgt := 65) X dX7_takes_1 (by rw [h10]; decide) (by rw [h10]; decide) (by rw [h10]; rfl) (by decide) ?_
    refine ar_iload_n X dX7_takes_65 rfl 1 rfl ?_
    refine ar_iconst (v := 0) X dX7_takes_66 (by decide) ?_
    refine ar_bipush (v := 20) X dX7_takes_67 (by decide) ?_
    obtain ⟨r11, h11, hf⟩ := am_b1_e hf
    refine ar_cSi (As := [.int a1, .int (0 : Int32), .int (20 : Int32)]) (st := []) X dX7_takes_69 (am_X7_in h11) lk_X7_43 mt_X7_in ms_X7_in rfl (Nat.le_of_ble_eq_true rfl) ⟨by decide, by decide⟩ ⟨Nat.zero_le _, Nat.zero_le _⟩ rfl ?_
    obtain ⟨h12, hf⟩ := am_g_elim hf
    cases hf
    exact ar_zret X dX7_takes_72 (am_zn h12).1 hR (Nat.le_refl _) (Nat.le_refl _)
  rcases am_ite hf with ⟨h13, hf⟩ | ⟨h13, hf⟩
  · refine ar_tableIn (tgt := 73) X dX7_takes_1 (by rw [h13]; decide) (by rw [h13]; decide) (by rw [h13]; rfl) (by decide) ?_
    refine ar_iload_n X dX7_takes_73 rfl 0 rfl ?_
    refine ar_iconst (v := 4) X dX7_takes_74 (by decide) ?_
    refine ar_icmp_ne (tgt := 92) X dX7_takes_75 (by decide) hf (fun h14 hf => ?_) (fun h14 hf => ?_)
    · refine ar_iload_n X dX7_takes_78 rfl 1 rfl ?_
      refine ar_iconst (v := 0) X dX7_takes_79 (by decide) ?_
      refine ar_bipush (v := 100) X dX7_takes_80 (by decide) ?_
      obtain ⟨r15, h15, hf⟩ := am_b1_e hf
      refine ar_cSi (As := [.int a1, .int (0 : Int32), .int (100 : Int32)]) (st := []) X dX7_takes_82 (am_X7_in h15) lk_X7_43 mt_X7_in ms_X7_in rfl (Nat.le_of_ble_eq_true rfl) ⟨by decide, by decide⟩ ⟨Nat.zero_le _, Nat.zero_le _⟩ rfl ?_
      refine ar_if_eq (tgt := 92) X dX7_takes_85 (by decide) hf (fun h16 hf => ?_) (fun h16 hf => ?_)
      · refine ar_iconst (v := 0) X dX7_takes_92 (by decide) ?_
        cases hf
        exact ar_zret X dX7_takes_93 rfl hR (Nat.le_refl _) (Nat.le_refl _)
      · refine ar_iconst (v := 1) X dX7_takes_88 (by decide) ?_
        refine ar_goto (tgt := 93) X dX7_takes_89 (by decide) ?_
        cases hf
        exact ar_zret X dX7_takes_93 rfl hR (Nat.le_refl _) (Nat.le_refl _)
    · refine ar_iconst (v := 0) X dX7_takes_92 (by decide) ?_
      cases hf
      exact ar_zret X dX7_takes_93 rfl hR (Nat.le_refl _) (Nat.le_refl _)
  rcases am_ite hf with ⟨h17, hf⟩ | ⟨h17, hf⟩
  · refine ar_tableIn (tgt := 49) X dX7_takes_1 (by rw [h17]; decide) (by rw [h17]; decide) (by rw [h17]; rfl) (by decide) ?_
    refine ar_iload_n X dX7_takes_49 rfl 1 rfl ?_
    refine ar_iconst (v := 1) X dX7_takes_50 (by decide) ?_
    refine ar_bipush (v := 20) X dX7_takes_51 (by decide) ?_
    obtain ⟨r18, h18, hf⟩ := am_b1_e hf
    refine ar_cSi (As := [.int a1, .int (1 : Int32), .int (20 : Int32)]) (st := []) X dX7_takes_53 (am_X7_in h18) lk_X7_43 mt_X7_in ms_X7_in rfl (Nat.le_of_ble_eq_true rfl) ⟨by decide, by decide⟩ ⟨Nat.zero_le _, Nat.zero_le _⟩ rfl ?_
    obtain ⟨h19, hf⟩ := am_g_elim hf
    cases hf
    exact ar_zret X dX7_takes_56 (am_zn h19).1 hR (Nat.le_refl _) (Nat.le_refl _)
  have hout : a0.toInt < 0 ∨ 5 < a0.toInt := by
    refine Classical.byContradiction (fun hn => ?_)
    have hTT : a0.toInt = 0 ∨ a0.toInt = 1 ∨ a0.toInt = 2 ∨ a0.toInt = 3 ∨ a0.toInt = 4 ∨ a0.toInt = 5 := by omega
    rcases hTT with hTT | hTT | hTT | hTT | hTT | hTT
    · exact h1 (Int32.toInt_inj.mp hTT)
    · exact h4 (Int32.toInt_inj.mp hTT)
    · exact h7 (Int32.toInt_inj.mp hTT)
    · exact h10 (Int32.toInt_inj.mp hTT)
    · exact h13 (Int32.toInt_inj.mp hTT)
    · exact h17 (Int32.toInt_inj.mp hTT)
  refine ar_tableOut (tgt := 73) X dX7_takes_1 hout (by decide) ?_
  refine ar_iload_n X dX7_takes_73 rfl 0 rfl ?_
  refine ar_iconst (v := 4) X dX7_takes_74 (by decide) ?_
  refine ar_icmp_ne (tgt := 92) X dX7_takes_75 (by decide) hf (fun h20 hf => ?_) (fun h20 hf => ?_)
  · refine ar_iload_n X dX7_takes_78 rfl 1 rfl ?_
    refine ar_iconst (v := 0) X dX7_takes_79 (by decide) ?_
    refine ar_bipush (v := 100) X dX7_takes_80 (by decide) ?_
    obtain ⟨r21, h21, hf⟩ := am_b1_e hf
    refine ar_cSi (As := [.int a1, .int (0 : Int32), .int (100 : Int32)]) (st := []) X dX7_takes_82 (am_X7_in h21) lk_X7_43 mt_X7_in ms_X7_in rfl (Nat.le_of_ble_eq_true rfl) ⟨by decide, by decide⟩ ⟨Nat.zero_le _, Nat.zero_le _⟩ rfl ?_
    refine ar_if_eq (tgt := 92) X dX7_takes_85 (by decide) hf (fun h22 hf => ?_) (fun h22 hf => ?_)
    · refine ar_iconst (v := 0) X dX7_takes_92 (by decide) ?_
      cases hf
      exact ar_zret X dX7_takes_93 rfl hR (Nat.le_refl _) (Nat.le_refl _)
    · refine ar_iconst (v := 1) X dX7_takes_88 (by decide) ?_
      refine ar_goto (tgt := 93) X dX7_takes_89 (by decide) ?_
      cases hf
      exact ar_zret X dX7_takes_93 rfl hR (Nat.le_refl _) (Nat.le_refl _)
  · refine ar_iconst (v := 0) X dX7_takes_92 (by decide) ?_
    cases hf
    exact ar_zret X dX7_takes_93 rfl hR (Nat.le_refl _) (Nat.le_refl _)
def f_X7_set (o : Nat) (a1 : Int32) (a2 : Int32) (I : aI) : Option (Int32 × aI) :=
  am_b1 (f_X7_takes a1 a2) fun r1 =>
  if r1 = 0 then (
    some ((-2 : Int32), I))
  else (
    am_b1 (f_X7_goes o I) fun r3 =>
    if r3 = 0 then (
      am_b1 (f_X7_setting o a1 I) fun r5 =>
      am_g (am_ok ((10 : Int32) + a1) 118) (am_let (am_w I (o + 1) (Int32.toNatClampNeg ((10 : Int32) + a1)) a2) fun I6 =>
      some (r5, I6)))
    else (
      some ((-5 : Int32), I)))
set_option maxRecDepth 100000 in
set_option maxHeartbeats 4000000 in
theorem am_X7_set {sh : aS} {P : aP} {I : aI} {J : aJ} {o : Nat} (hL : L7 sh P o) {a1 : Int32} {a2 : Int32} {r : Int32} {I9 : aI} (hf : f_X7_set o a1 a2 I = some (r, I9)) : AM yX7_set cX7_set 4 (some .int) 2 43 [.ref o, .int a1, .int a2] sh P I J (some (.int r)) sh P I9 J 0 0 := by
  refine am_met (by decide +kernel) (Nat.le_of_ble_eq_true rfl) (fun K X hR => ?_)
  have X : am_C K cX7_set 4 RX7 "set" ({ frames := 2, cells := 0, slots := 0, locals := 43 } : Room) := X
  show AW K 4 0 [(0, .ref o), (1, .int a1), (2, .int a2)] [] sh P I J 0 0
  unfold f_X7_set at hf
  refine ar_iload_n X dX7_set_0 rfl 1 rfl ?_
  refine ar_iload_n X dX7_set_1 rfl 2 rfl ?_
  obtain ⟨r1, h1, hf⟩ := am_b1_e hf
  refine ar_cSi (As := [.int a1, .int a2]) (st := []) X dX7_set_2 (am_X7_takes h1) lk_X7_58 mt_X7_takes ms_X7_takes rfl (Nat.le_of_ble_eq_true rfl) ⟨by decide, by decide⟩ ⟨Nat.zero_le _, Nat.zero_le _⟩ rfl ?_
  refine ar_if_ne (tgt := 11) X dX7_set_5 (by decide) hf (fun h2 hf => ?_) (fun h2 hf => ?_)
  · refine ar_bipush (v := -2) X dX7_set_8 (by decide) ?_
    cases hf
    exact ar_iret X dX7_set_10 hR (Nat.le_refl _) (Nat.le_refl _)
  · refine ar_aload_n X dX7_set_11 rfl 0 rfl ?_
    obtain ⟨r3, h3, hf⟩ := am_b1_e hf
    refine ar_cVi (As := []) (st := []) X dX7_set_12 (am_X7_goes hL h3) lk_X7_62 mt_X7_goes mi_X7_goes (L7_s0 hL) rfl rfl (Nat.le_of_ble_eq_true rfl) ⟨by decide, by decide⟩ ⟨Nat.zero_le _, Nat.zero_le _⟩ rfl ?_
    refine ar_if_eq (tgt := 21) X dX7_set_15 (by decide) hf (fun h4 hf => ?_) (fun h4 hf => ?_)
    · refine ar_aload_n X dX7_set_21 rfl 0 rfl ?_
      refine ar_iload_n X dX7_set_22 rfl 1 rfl ?_
      obtain ⟨r5, h5, hf⟩ := am_b1_e hf
      refine ar_cVi (As := [.int a1]) (st := []) X dX7_set_23 (am_X7_setting hL h5) lk_X7_51 mt_X7_setting mi_X7_setting (L7_s0 hL) rfl rfl (Nat.le_of_ble_eq_true rfl) ⟨by decide, by decide⟩ ⟨Nat.zero_le _, Nat.zero_le _⟩ rfl ?_
      refine ar_istore_n X dX7_set_26 rfl (by decide) rfl ?_
      refine ar_aload_n X dX7_set_27 rfl 1 rfl ?_
      refine ar_getr X dX7_set_28 fg_X7_7 rfl (L7_s0 hL) (L7_p0_0 hL) ?_
      refine ar_bipush (v := 10) X dX7_set_31 (by decide) ?_
      refine ar_iload_n X dX7_set_33 rfl 2 rfl ?_
      refine ar_iadd X dX7_set_34 ?_
      refine ar_iload_n X dX7_set_35 rfl 3 rfl ?_
      refine ar_iast X dX7_set_36 (L7_s1 hL) hf (fun I6 hf => ?_)
      refine ar_iload_n X dX7_set_37 rfl 0 rfl ?_
      cases hf
      exact ar_iret X dX7_set_38 hR (Nat.le_refl _) (Nat.le_refl _)
    · refine ar_bipush (v := -5) X dX7_set_18 (by decide) ?_
      cases hf
      exact ar_iret X dX7_set_20 hR (Nat.le_refl _) (Nat.le_refl _)
def f_X7_setUp (o : Nat) (a1 : Int32) (I : aI) : Option (Int32 × aI) :=
  am_b1 (f_X7_in a1 (2 : Int32) (6 : Int32)) fun r1 =>
  if r1 = 0 then (
    some ((-2 : Int32), I))
  else (
    am_let (I (o + 1) 0) fun x3 =>
    am_b1 (f_X7_beginGame o a1 I) fun I4 =>
    some (x3, I4))
set_option maxRecDepth 100000 in
set_option maxHeartbeats 4000000 in
theorem am_X7_setUp {sh : aS} {P : aP} {I : aI} {J : aJ} {o : Nat} (hL : L7 sh P o) {a1 : Int32} {r : Int32} {I9 : aI} (hf : f_X7_setUp o a1 I = some (r, I9)) : AM yX7_setUp cX7_setUp 3 (some .int) 3 66 [.ref o, .int a1] sh P I J (some (.int r)) sh P I9 J 0 0 := by
  refine am_met (by decide +kernel) (Nat.le_of_ble_eq_true rfl) (fun K X hR => ?_)
  have X : am_C K cX7_setUp 3 RX7 "setUp" ({ frames := 3, cells := 0, slots := 0, locals := 66 } : Room) := X
  show AW K 3 0 [(0, .ref o), (1, .int a1)] [] sh P I J 0 0
  unfold f_X7_setUp at hf
  refine ar_iload_n X dX7_setUp_0 rfl 1 rfl ?_
  refine ar_iconst (v := 2) X dX7_setUp_1 (by decide) ?_
  refine ar_bipush (v := 6) X dX7_setUp_2 (by decide) ?_
  obtain ⟨r1, h1, hf⟩ := am_b1_e hf
  refine ar_cSi (As := [.int a1, .int (2 : Int32), .int (6 : Int32)]) (st := []) X dX7_setUp_4 (am_X7_in h1) lk_X7_43 mt_X7_in ms_X7_in rfl (Nat.le_of_ble_eq_true rfl) ⟨by decide, by decide⟩ ⟨Nat.zero_le _, Nat.zero_le _⟩ rfl ?_
  refine ar_if_ne (tgt := 13) X dX7_setUp_7 (by decide) hf (fun h2 hf => ?_) (fun h2 hf => ?_)
  · refine ar_bipush (v := -2) X dX7_setUp_10 (by decide) ?_
    cases hf
    exact ar_iret X dX7_setUp_12 hR (Nat.le_refl _) (Nat.le_refl _)
  · refine ar_aload_n X dX7_setUp_13 rfl 0 rfl ?_
    refine ar_getr X dX7_setUp_14 fg_X7_7 rfl (L7_s0 hL) (L7_p0_0 hL) ?_
    refine ar_iconst (v := 0) X dX7_setUp_17 (by decide) ?_
    refine ar_ialdK (k := 0) X dX7_setUp_18 (L7_s1 hL) (by decide) (by decide) ?_
    refine ar_letI hf (fun x3 hf => ?_)
    refine ar_istore_n X dX7_setUp_19 rfl (by decide) rfl ?_
    refine ar_aload_n X dX7_setUp_20 rfl 1 rfl ?_
    refine ar_iload_n X dX7_setUp_21 rfl 2 rfl ?_
    obtain ⟨I4, h4, hf⟩ := am_b1_e hf
    refine ar_cVv (As := [.int a1]) (st := []) X dX7_setUp_22 (am_X7_beginGame hL h4) lk_X7_39 mt_X7_beginGame mi_X7_beginGame (L7_s0 hL) rfl rfl (Nat.le_of_ble_eq_true rfl) ⟨by decide, by decide⟩ ⟨Nat.zero_le _, Nat.zero_le _⟩ rfl ?_
    refine ar_iload_n X dX7_setUp_25 rfl 0 rfl ?_
    cases hf
    exact ar_iret X dX7_setUp_26 hR (Nat.le_refl _) (Nat.le_refl _)
def f_X7_ways (o : Nat)  (I : aI) (J : aJ) : Option (Int64 × aJ) :=
  am_b1 (f_X7_layWays o (-6 : Int32) I J) fun J1 =>
  am_b1 (f_X7_sumOf o (0 : Int32) I) fun r2 =>
  am_g (am_ok r2 1801) (
  some ((J1 (o + 7) (Int32.toNatClampNeg r2)), J1))
set_option maxRecDepth 100000 in
set_option maxHeartbeats 4000000 in
theorem am_X7_ways {sh : aS} {P : aP} {I : aI} {J : aJ} {o : Nat} (hL : L7 sh P o)  {r : Int64} {J9 : aJ} (hf : f_X7_ways o I J = some (r, J9)) : AM yX7_ways cX7_ways 1 (some .long) 2 47 [.ref o] sh P I J (some (.long r)) sh P I J9 0 0 := by
  refine am_met (by decide +kernel) (Nat.le_of_ble_eq_true rfl) (fun K X hR => ?_)
  have X : am_C K cX7_ways 1 RX7 "ways" ({ frames := 2, cells := 0, slots := 0, locals := 47 } : Room) := X
  show AW K 1 0 [(0, .ref o)] [] sh P I J 0 0
  unfold f_X7_ways at hf
  refine ar_aload_n X dX7_ways_0 rfl 0 rfl ?_
  refine ar_bipush (v := -6) X dX7_ways_1 (by decide) ?_
  obtain ⟨J1, h1, hf⟩ := am_b1_e hf
  refine ar_cVv (As := [.int (-6 : Int32)]) (st := []) X dX7_ways_3 (am_X7_layWays hL h1) lk_X7_185 mt_X7_layWays mi_X7_layWays (L7_s0 hL) rfl rfl (Nat.le_of_ble_eq_true rfl) ⟨by decide, by decide⟩ ⟨Nat.zero_le _, Nat.zero_le _⟩ rfl ?_
  refine ar_aload_n X dX7_ways_6 rfl 0 rfl ?_
  refine ar_getr X dX7_ways_7 fg_X7_29 rfl (L7_s0 hL) (L7_p0_7 hL) ?_
  refine ar_aload_n X dX7_ways_10 rfl 0 rfl ?_
  refine ar_iconst (v := 0) X dX7_ways_11 (by decide) ?_
  obtain ⟨r2, h2, hf⟩ := am_b1_e hf
  refine ar_cVi (As := [.int (0 : Int32)]) (st := [.ref (o + 7)]) X dX7_ways_12 (am_X7_sumOf hL h2) lk_X7_175 mt_X7_sumOf mi_X7_sumOf (L7_s0 hL) rfl rfl (Nat.le_of_ble_eq_true rfl) ⟨by decide, by decide⟩ ⟨Nat.zero_le _, Nat.zero_le _⟩ rfl ?_
  refine ar_lald X dX7_ways_15 (L7_s7 hL) hf (fun hf => ?_)
  cases hf
  exact ar_lret X dX7_ways_16 hR (Nat.le_refl _) (Nat.le_refl _)
def f_X7_wipe (o : Nat)  (I : aI) : Option (Int32 × aI) :=
  am_let (I o 5) fun x1 =>
  am_let (am_w I o 5 (0 : Int32)) fun I2 =>
  some (x1, I2)
set_option maxRecDepth 100000 in
set_option maxHeartbeats 4000000 in
theorem am_X7_wipe {sh : aS} {P : aP} {I : aI} {J : aJ} {o : Nat} (hL : L7 sh P o)  {r : Int32} {I9 : aI} (hf : f_X7_wipe o I = some (r, I9)) : AM yX7_wipe cX7_wipe 2 (some .int) 0 0 [.ref o] sh P I J (some (.int r)) sh P I9 J 0 0 := by
  refine am_met (by decide +kernel) (Nat.le_of_ble_eq_true rfl) (fun K X hR => ?_)
  have X : am_C K cX7_wipe 2 RX7 "wipe" ({ frames := 0, cells := 0, slots := 0, locals := 0 } : Room) := X
  show AW K 2 0 [(0, .ref o)] [] sh P I J 0 0
  unfold f_X7_wipe at hf
  refine ar_aload_n X dX7_wipe_0 rfl 0 rfl ?_
  refine ar_geti X dX7_wipe_1 fg_X7_178 rfl (L7_s0 hL) ?_
  refine ar_letI hf (fun x1 hf => ?_)
  refine ar_istore_n X dX7_wipe_4 rfl (by decide) rfl ?_
  refine ar_aload_n X dX7_wipe_5 rfl 1 rfl ?_
  refine ar_iconst (v := 0) X dX7_wipe_6 (by decide) ?_
  refine ar_puti X dX7_wipe_7 fd_X7_178 rfl ⟨rfl, rfl⟩ (L7_s0 hL) hf (fun I2 hf => ?_)
  refine ar_iload_n X dX7_wipe_10 rfl 0 rfl ?_
  cases hf
  exact ar_iret X dX7_wipe_11 hR (Nat.le_refl _) (Nat.le_refl _)
end
