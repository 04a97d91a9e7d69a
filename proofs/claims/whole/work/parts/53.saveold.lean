/-! the class saves over a saved game, or is given no slot -/
theorem am_X6_saveOld {sh : aS} {P : aP} {I : aI} {J : aJ} {o k z : Nat} (hL : L6 sh P o) (hk : k < 2) (hP : P (o + 31) k = some z) (hz : L1 sh P z) (hd : o + 1 + 15 ≤ z ∨ z + 15 ≤ o + 1) : AM yX6_save cX6_save 3 (some .int) 5 200 [.ref o, .int (nI k)] sh P I J (some (.int (tkO I z (o + 1) (o + 9) 1))) sh P (tkO I z (o + 1)) J 0 0 := by
  refine am_met (by decide +kernel) (Nat.le_of_ble_eq_true rfl) (fun K X hR => ?_)
  have X : am_C K cX6_save 3 RX6 "save" ({ frames := 5, cells := 0, slots := 0, locals := 200 } : Room) := X
  show AW K 3 0 [(0, .ref o), (1, .int (nI k))] [] sh P I J 0 0
  have hkt : Int32.toNatClampNeg (nI k) = k := nI_tn (by omega)
  have hok : am_ok (nI k) 2 = true := am_ok_nI hk (by omega)
  have his : f_X6_isSlot (nI k) = some 1 := by
    match k, hk with
    | 0, _ => decide
    | 1, _ => decide
  refine ar_iload_n X dX6_save_0 rfl 1 rfl ?_
  refine ar_cSi (As := [.int (nI k)]) (st := []) X dX6_save_1 (am_X6_isSlot his) lk_X6_291 mt_X6_isSlot ms_X6_isSlot rfl (Nat.le_of_ble_eq_true rfl) ⟨by decide, by decide⟩ ⟨Nat.zero_le _, Nat.zero_le _⟩ rfl ?_
  refine ar_if_ne (β := Unit) (T := none) (F := some ()) (Rs := ()) (tgt := 10) X dX6_save_4 (by decide) (if_neg one0) (fun h2 hf => by cases hf) (fun h2 hf => ?_)
  refine ar_aload_n X dX6_save_10 rfl 0 rfl ?_
  refine ar_getr X dX6_save_11 fg_X6_19 rfl (L6_s0 hL) (L6_p0_2 hL) ?_
  refine ar_iload_n X dX6_save_14 rfl 1 rfl ?_
  refine ar_aald X dX6_save_15 (L6_s31 hL) hok rfl ?_
  rw [hkt, hP]
  show AW K 3 16 [(0, .ref o), (1, .int (nI k))] [.ref z] sh P I J 0 0
  refine ar_astore_n X dX6_save_16 rfl (by decide) rfl ?_
  refine ar_aload_n X dX6_save_17 rfl 0 rfl ?_
  refine ar_ifnonnull (tgt := 36) X dX6_save_18 (by decide) ?_
  refine ar_aload_n X dX6_save_36 rfl 0 rfl ?_
  refine ar_aload_n X dX6_save_37 rfl 1 rfl ?_
  refine ar_getr X dX6_save_38 fg_X6_10 rfl (L6_s0 hL) (L6_p0_0 hL) ?_
  refine ar_cVv (As := [.ref (o + 1)]) (st := []) X dX6_save_41 (am_X1_takeOver hz (L6_c1 hL) (fw_takeOver (by omega))) lk_X6_235 mt_X1_takeOver mi_X1_takeOver (L1_s0 hz) rfl rfl (Nat.le_of_ble_eq_true rfl) ⟨by decide, by decide⟩ ⟨Nat.zero_le _, Nat.zero_le _⟩ rfl ?_
  refine ar_aload_n X dX6_save_44 rfl 1 rfl ?_
  refine ar_getr X dX6_save_45 fg_X6_10 rfl (L6_s0 hL) (L6_p0_0 hL) ?_
  refine ar_getr X dX6_save_48 fg_X6_86 rfl (L6_s1 hL) (L6_p1_2 hL) ?_
  refine ar_geti X dX6_save_51 fg_X6_294 rfl (L6_s9 hL) ?_
  exact ar_iret X dX6_save_54 hR (Nat.le_refl _) (Nat.le_refl _)
theorem am_X6_saveBad {sh : aS} {P : aP} {I : aI} {J : aJ} {o : Nat} {a : Int32} (h : f_X6_isSlot a = some 0) : AM yX6_save cX6_save 3 (some .int) 5 200 [.ref o, .int a] sh P I J (some (.int (-2))) sh P I J 0 0 := by
  refine am_met (by decide +kernel) (Nat.le_of_ble_eq_true rfl) (fun K X hR => ?_)
  have X : am_C K cX6_save 3 RX6 "save" ({ frames := 5, cells := 0, slots := 0, locals := 200 } : Room) := X
  show AW K 3 0 [(0, .ref o), (1, .int a)] [] sh P I J 0 0
  refine ar_iload_n X dX6_save_0 rfl 1 rfl ?_
  refine ar_cSi (As := [.int a]) (st := []) X dX6_save_1 (am_X6_isSlot h) lk_X6_291 mt_X6_isSlot ms_X6_isSlot rfl (Nat.le_of_ble_eq_true rfl) ⟨by decide, by decide⟩ ⟨Nat.zero_le _, Nat.zero_le _⟩ rfl ?_
  refine ar_if_ne (β := Unit) (T := some ()) (F := none) (Rs := ()) (tgt := 10) X dX6_save_4 (by decide) (if_pos rfl) (fun h2 hf => ?_) (fun h2 hf => by cases hf)
  refine ar_bipush (v := -2) X dX6_save_7 (by decide) ?_
  exact ar_iret X dX6_save_9 hR (Nat.le_refl _) (Nat.le_refl _)
