/-! the class gives a saved game back -/
def f_X6_restore (o : Nat) (t : Option Nat) (a1 : Int32) (I : aI) : Option (Int32 × aI) :=
  am_b1 (f_X6_isSlot a1) fun r1 =>
  if r1 = 0 then (
    some ((-2 : Int32), I))
  else (
    match t with
    | none => some ((-5 : Int32), I)
    | some z => am_b1 (f_X1_takeOver (o + 1) z I) fun I1 => some (I1 (o + 9) 1, I1))
theorem am_X6_restore {sh : aS} {P : aP} {I : aI} {J : aJ} {o : Nat} (hL : L6 sh P o) {a1 : Int32} {t : Option Nat} (hok : ¬ f_X6_isSlot a1 = some 0 → am_ok a1 2 = true) (hP : P (o + 31) a1.toNatClampNeg = t) (ht : ∀ z, t = some z → L1 sh P z) {r : Int32} {I9 : aI} (hf : f_X6_restore o t a1 I = some (r, I9)) : AM yX6_restore cX6_restore 3 (some .int) 4 119 [.ref o, .int a1] sh P I J (some (.int r)) sh P I9 J 0 0 := by
  refine am_met (by decide +kernel) (Nat.le_of_ble_eq_true rfl) (fun K X hR => ?_)
  have X : am_C K cX6_restore 3 RX6 "restore" ({ frames := 4, cells := 0, slots := 0, locals := 119 } : Room) := X
  show AW K 3 0 [(0, .ref o), (1, .int a1)] [] sh P I J 0 0
  unfold f_X6_restore at hf
  refine ar_iload_n X dX6_restore_0 rfl 1 rfl ?_
  obtain ⟨r1, h1, hf⟩ := am_b1_e hf
  refine ar_cSi (As := [.int a1]) (st := []) X dX6_restore_1 (am_X6_isSlot h1) lk_X6_291 mt_X6_isSlot ms_X6_isSlot rfl (Nat.le_of_ble_eq_true rfl) ⟨by decide, by decide⟩ ⟨Nat.zero_le _, Nat.zero_le _⟩ rfl ?_
  refine ar_if_ne (tgt := 10) X dX6_restore_4 (by decide) hf (fun h2 hf => ?_) (fun h2 hf => ?_)
  · refine ar_bipush (v := -2) X dX6_restore_7 (by decide) ?_
    cases hf
    exact ar_iret X dX6_restore_9 hR (Nat.le_refl _) (Nat.le_refl _)
  · have hok := hok (fun z => by rw [h1] at z; injection z with z; exact h2 z)
    refine ar_aload_n X dX6_restore_10 rfl 0 rfl ?_
    refine ar_getr X dX6_restore_11 fg_X6_19 rfl (L6_s0 hL) (L6_p0_2 hL) ?_
    refine ar_iload_n X dX6_restore_14 rfl 1 rfl ?_
    refine ar_aald X dX6_restore_15 (L6_s31 hL) hok rfl ?_
    rw [hP]
    cases t with
    | none =>
      show AW K 3 16 [(0, .ref o), (1, .int a1)] [.null] sh P I J 0 0
      refine ar_astore_nN X dX6_restore_16 rfl (by decide) rfl ?_
      refine ar_aload_nN X dX6_restore_17 rfl 0 rfl ?_
      refine ar_ifnonnullN X dX6_restore_18 ?_
      refine ar_bipush (v := -5) X dX6_restore_21 (by decide) ?_
      cases hf
      exact ar_iret X dX6_restore_23 hR (Nat.le_refl _) (Nat.le_refl _)
    | some z =>
      have hz := ht z rfl
      show AW K 3 16 [(0, .ref o), (1, .int a1)] [.ref z] sh P I J 0 0
      refine ar_astore_n X dX6_restore_16 rfl (by decide) rfl ?_
      refine ar_aload_n X dX6_restore_17 rfl 0 rfl ?_
      refine ar_ifnonnull (tgt := 24) X dX6_restore_18 (by decide) ?_
      refine ar_aload_n X dX6_restore_24 rfl 1 rfl ?_
      refine ar_getr X dX6_restore_25 fg_X6_10 rfl (L6_s0 hL) (L6_p0_0 hL) ?_
      refine ar_aload_n X dX6_restore_28 rfl 0 rfl ?_
      obtain ⟨I1, h3, hf⟩ := am_b1_e hf
      refine ar_cVv (As := [.ref z]) (st := []) X dX6_restore_29 (am_X1_takeOver (L6_c1 hL) hz h3) lk_X6_235 mt_X1_takeOver mi_X1_takeOver (L6_s1 hL) rfl rfl (Nat.le_of_ble_eq_true rfl) ⟨by decide, by decide⟩ ⟨Nat.zero_le _, Nat.zero_le _⟩ rfl ?_
      refine ar_aload_n X dX6_restore_32 rfl 1 rfl ?_
      refine ar_getr X dX6_restore_33 fg_X6_10 rfl (L6_s0 hL) (L6_p0_0 hL) ?_
      refine ar_getr X dX6_restore_36 fg_X6_86 rfl (L6_s1 hL) (L6_p1_2 hL) ?_
      refine ar_geti X dX6_restore_39 fg_X6_294 rfl (L6_s9 hL) ?_
      cases hf
      exact ar_iret X dX6_restore_42 hR (Nat.le_refl _) (Nat.le_refl _)
