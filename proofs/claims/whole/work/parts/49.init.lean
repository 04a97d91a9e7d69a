/-! constructors -/
theorem am_pc.mono {P : aP} {N M : Nat} (h : am_pc P N) (hm : N ≤ M) : am_pc P M := fun q k z hz => Nat.lt_of_lt_of_le (h q k z hz) hm
theorem am_pc.wk {P : aP} {N q k z : Nat} (h : am_pc P N) (hz : z < N) : am_pc (am_wP P q k (some z)) N := by
  intro q' k' z' hz'
  unfold am_wP at hz'
  split at hz'
  · injection hz' with e; omega
  · exact h _ _ _ hz'
theorem sh_old {sh : aS} {c : Nat ⊕ (Nat × Nat)} {q : Nat} {v : Nat ⊕ (Nat × Nat)} (h : sh[q]? = some v) : (sh ++ [c])[q]? = some v := by
  have := List.getElem?_eq_some_iff.mp h
  obtain ⟨hq, -⟩ := this
  rw [List.getElem?_append_left hq]; exact h
theorem rvs1 {o M : Nat} (h : o < M) : am_rvs M [.ref o] := ⟨Or.inl h, trivial⟩
def iP2 (P : aP) (o N : Nat) : aP := am_wP (am_wP (am_wP (am_wP P o 2 (some N)) o 3 (some (N + 1))) o 4 (some (N + 2))) o 5 (some (N + 3))
def iS2 (sh : aS) : aS := (((sh ++ [.inr (0, 12)]) ++ [.inr (0, 12)]) ++ [.inr (0, 12)]) ++ [.inr (0, 12)]
def iI2 (I : aI) (N : Nat) : aI := am_zI (am_zI (am_zI (am_zI I N) (N + 1)) (N + 2)) (N + 3)
theorem am_X2_init {sh : aS} {P : aP} {I : aI} {J : aJ} {o N : Nat} (ho : sh[o]? = some (.inl 2)) (hN : sh.length = N) (hoN : o < N) (hpc : am_pc P N) (hb : N + 4 < 1000000) : AM yX2_init cX2_init 1 none 1 20 [.ref o] sh P I J none (iS2 sh) (iP2 P o N) (iI2 I N) J 4 48 := by
  refine am_met (by decide +kernel) (Nat.le_of_ble_eq_true rfl) (fun K X hR => ?_)
  have X : am_C K cX2_init 1 RX2 "<init>" ({ frames := 1, cells := 4, slots := 48, locals := 20 } : Room) := X
  show AW K 1 0 [(0, .ref o)] [] sh P I J 0 0
  have e1 : (sh ++ [(Sum.inr (0, 12) : Nat ⊕ (Nat × Nat))]).length = N + 1 := by simp [hN]
  have e2 : ((sh ++ [(Sum.inr (0, 12) : Nat ⊕ (Nat × Nat))]) ++ [Sum.inr (0, 12)]).length = N + 2 := by simp [hN]
  have e3 : (((sh ++ [(Sum.inr (0, 12) : Nat ⊕ (Nat × Nat))]) ++ [Sum.inr (0, 12)]) ++ [Sum.inr (0, 12)]).length = N + 3 := by simp [hN]
  refine ar_aload_n X dX2_init_0 rfl 0 rfl ?_
  refine ar_objinit X dX2_init_1 (tw 69 (by decide +kernel)) (tw 18 (by decide +kernel)) (tw 19 (by decide +kernel)) (Nat.le_refl _) (Nat.le_of_ble_eq_true rfl) ?_
  refine ar_aload_n X dX2_init_4 rfl 0 rfl ?_
  refine ar_bipush (v := 12) X dX2_init_5 (by decide) ?_
  refine ar_newaI (n := 12) X dX2_init_7 (tw 63 (by decide +kernel)) (by decide) rfl (by decide) (by rw [hN]; exact hpc) (by omega) ⟨rvs1 (by rw [hN]; omega), rvs1 (by rw [hN]; omega)⟩ ⟨Nat.le_of_ble_eq_true rfl, Nat.le_of_ble_eq_true rfl⟩ ?_
  rw [hN]
  refine ar_putF X dX2_init_9 fF_X2_9 rfl (fun _ => ⟨rfl, rfl⟩) rfl (sh_old ho) ?_
  refine ar_aload_n X dX2_init_12 rfl 0 rfl ?_
  refine ar_bipush (v := 12) X dX2_init_13 (by decide) ?_
  refine ar_newaI (n := 12) X dX2_init_15 (tw 63 (by decide +kernel)) (by decide) rfl (by decide) (by rw [e1]; exact (hpc.mono (by omega)).wk (by omega)) (by omega) ⟨rvs1 (by rw [e1]; omega), rvs1 (by rw [e1]; omega)⟩ ⟨Nat.le_of_ble_eq_true rfl, Nat.le_of_ble_eq_true rfl⟩ ?_
  rw [e1]
  refine ar_putF X dX2_init_17 fF_X2_15 rfl (fun _ => ⟨rfl, rfl⟩) rfl (sh_old (sh_old ho)) ?_
  refine ar_aload_n X dX2_init_20 rfl 0 rfl ?_
  refine ar_bipush (v := 12) X dX2_init_21 (by decide) ?_
  refine ar_newaI (n := 12) X dX2_init_23 (tw 63 (by decide +kernel)) (by decide) rfl (by decide) (by rw [e2]; exact ((hpc.mono (by omega)).wk (by omega)).wk (by omega)) (by omega) ⟨rvs1 (by rw [e2]; omega), rvs1 (by rw [e2]; omega)⟩ ⟨Nat.le_of_ble_eq_true rfl, Nat.le_of_ble_eq_true rfl⟩ ?_
  rw [e2]
  refine ar_putF X dX2_init_25 fF_X2_18 rfl (fun _ => ⟨rfl, rfl⟩) rfl (sh_old (sh_old (sh_old ho))) ?_
  refine ar_aload_n X dX2_init_28 rfl 0 rfl ?_
  refine ar_bipush (v := 12) X dX2_init_29 (by decide) ?_
  refine ar_newaI (n := 12) X dX2_init_31 (tw 63 (by decide +kernel)) (by decide) rfl (by decide) (by rw [e3]; exact (((hpc.mono (by omega)).wk (by omega)).wk (by omega)).wk (by omega)) (by omega) ⟨rvs1 (by rw [e3]; omega), rvs1 (by rw [e3]; omega)⟩ ⟨Nat.le_of_ble_eq_true rfl, Nat.le_of_ble_eq_true rfl⟩ ?_
  rw [e3]
  refine ar_putF X dX2_init_33 fF_X2_21 rfl (fun _ => ⟨rfl, rfl⟩) rfl (sh_old (sh_old (sh_old (sh_old ho)))) ?_
  exact ar_vret X dX2_init_36 hR (Nat.le_of_ble_eq_true rfl) (Nat.le_of_ble_eq_true rfl)
theorem sh_new {sh : aS} {c : Nat ⊕ (Nat × Nat)} {N : Nat} (h : sh.length = N) : (sh ++ [c])[N]? = some c := by subst h; simp
theorem sh_len {sh : aS} {c : Nat ⊕ (Nat × Nat)} {N : Nat} (h : sh.length = N) : (sh ++ [c]).length = N + 1 := by simp [h]
theorem wP_eq {P : aP} {q k : Nat} {v : Option Nat} : am_wP P q k v q k = v := by simp [am_wP]
theorem am_X0_init {sh : aS} {P : aP} {I : aI} {J : aJ} {o : Nat} (ho : sh[o]? = some (.inl 0)) (hN : sh.length = o + 1) (hpc : am_pc P (o + 1)) (hb : o + 2 < 1000000) : AM yX0_init cX0_init 1 none 1 40 [.ref o] sh P I J none (sh ++ [.inr (0, 6)]) (am_wP P o 8 (some (o + 1))) (clearC (am_zI I (o + 1)) o) J 1 6 := by
  refine am_met (by decide +kernel) (Nat.le_of_ble_eq_true rfl) (fun K X hR => ?_)
  have X : am_C K cX0_init 1 RX0 "<init>" ({ frames := 1, cells := 1, slots := 6, locals := 40 } : Room) := X
  show AW K 1 0 [(0, .ref o)] [] sh P I J 0 0
  have hL : L0 (sh ++ [.inr (0, 6)]) (am_wP P o 8 (some (o + 1))) o := by
    refine ⟨fun j z hz => ?_, fun q hq => ?_⟩
    · match j, hz with
      | 0, hz => cases hz; exact sh_old ho
      | 1, hz => cases hz; exact sh_new hN
      | j + 2, hz => cases hz
    · have hq : q = (0, 8, 1) := List.mem_singleton.mp hq
      subst hq
      exact wP_eq
  refine ar_aload_n X dX0_init_0 rfl 0 rfl ?_
  refine ar_objinit X dX0_init_1 (tw 97 (by decide +kernel)) (tw 18 (by decide +kernel)) (tw 19 (by decide +kernel)) (Nat.le_refl _) (Nat.le_of_ble_eq_true rfl) ?_
  refine ar_aload_n X dX0_init_4 rfl 0 rfl ?_
  refine ar_bipush (v := 6) X dX0_init_5 (by decide) ?_
  refine ar_newaI (n := 6) X dX0_init_7 (tw 63 (by decide +kernel)) (by decide) rfl (by decide) (by rw [hN]; exact hpc) (by omega) ⟨rvs1 (by rw [hN]; omega), rvs1 (by rw [hN]; omega)⟩ ⟨Nat.le_of_ble_eq_true rfl, Nat.le_of_ble_eq_true rfl⟩ ?_
  rw [hN]
  refine ar_putF X dX0_init_9 fF_X0_9 rfl (fun _ => ⟨rfl, rfl⟩) rfl (sh_old ho) ?_
  refine ar_aload_n X dX0_init_12 rfl 0 rfl ?_
  refine ar_cVv (As := []) (st := []) X dX0_init_13 (am_X0_clear hL (fw_clear _ _)) lk_X0_15 mt_X0_clear mi_X0_clear (L0_s0 hL) rfl rfl (Nat.le_of_ble_eq_true rfl) ⟨by decide, by decide⟩ ⟨Nat.le_of_ble_eq_true rfl, Nat.le_of_ble_eq_true rfl⟩ rfl ?_
  exact ar_vret X dX0_init_16 hR (Nat.le_of_ble_eq_true rfl) (Nat.le_of_ble_eq_true rfl)
def iP4 (P : aP) (o : Nat) : aP := am_wP (am_wP (am_wP (am_wP (am_wP P o 1 (some (o + 1))) o 2 (some (o + 2))) o 3 (some (o + 3))) o 4 (some (o + 4))) o 5 (some (o + 5))
def iS4 (sh : aS) : aS := ((((sh ++ [.inr (0, 6)]) ++ [.inr (0, 6)]) ++ [.inr (0, 6)]) ++ [.inr (0, 6)]) ++ [.inr (0, 6)]
def iI4 (I : aI) (o : Nat) : aI := am_zI (am_zI (am_zI (am_zI (am_zI (am_w I o 0 3) (o + 1)) (o + 2)) (o + 3)) (o + 4)) (o + 5)
theorem am_X4_init {sh : aS} {P : aP} {I : aI} {J : aJ} {o : Nat} (ho : sh[o]? = some (.inl 4)) (hN : sh.length = o + 1) (hpc : am_pc P (o + 1)) (hb : o + 7 < 1000000) : AM yX4_init cX4_init 1 none 1 20 [.ref o] sh P I J none (iS4 sh) (iP4 P o) (iI4 I o) J 5 30 := by
  refine am_met (by decide +kernel) (Nat.le_of_ble_eq_true rfl) (fun K X hR => ?_)
  have X : am_C K cX4_init 1 RX4 "<init>" ({ frames := 1, cells := 5, slots := 30, locals := 20 } : Room) := X
  show AW K 1 0 [(0, .ref o)] [] sh P I J 0 0
  have e1 := sh_len (c := .inr (0, 6)) hN
  have e2 := sh_len (c := .inr (0, 6)) e1
  have e3 := sh_len (c := .inr (0, 6)) e2
  have e4 := sh_len (c := .inr (0, 6)) e3
  have h1 := sh_old (c := .inr (0, 6)) ho
  have h2 := sh_old (c := .inr (0, 6)) h1
  have h3 := sh_old (c := .inr (0, 6)) h2
  have h4 := sh_old (c := .inr (0, 6)) h3
  have h5 := sh_old (c := .inr (0, 6)) h4
  have p1 := (hpc.mono (show o + 1 ≤ o + 2 by omega)).wk (q := o) (k := 1) (show o + 1 < o + 2 by omega)
  have p2 := (p1.mono (show o + 2 ≤ o + 3 by omega)).wk (q := o) (k := 2) (show o + 2 < o + 3 by omega)
  have p3 := (p2.mono (show o + 3 ≤ o + 4 by omega)).wk (q := o) (k := 3) (show o + 3 < o + 4 by omega)
  have p4 := (p3.mono (show o + 4 ≤ o + 5 by omega)).wk (q := o) (k := 4) (show o + 4 < o + 5 by omega)
  refine ar_aload_n X dX4_init_0 rfl 0 rfl ?_
  refine ar_objinit X dX4_init_1 (tw 40 (by decide +kernel)) (tw 18 (by decide +kernel)) (tw 19 (by decide +kernel)) (Nat.le_refl _) (Nat.le_of_ble_eq_true rfl) ?_
  refine ar_aload_n X dX4_init_4 rfl 0 rfl ?_
  refine ar_iconst (v := 3) X dX4_init_5 (by decide) ?_
  refine ar_puti (F := some) (Rs := am_w I o 0 3) X dX4_init_6 fd_X4_9 rfl ⟨rfl, rfl⟩ ho rfl (fun I1 hI1 => ?_)
  cases hI1
  refine ar_aload_n X dX4_init_9 rfl 0 rfl ?_
  refine ar_bipush (v := 6) X dX4_init_10 (by decide) ?_
  refine ar_newaI (n := 6) X dX4_init_12 (tw 63 (by decide +kernel)) (by decide) rfl (by decide) (by rw [hN]; exact hpc) (by omega) ⟨rvs1 (by rw [hN]; omega), rvs1 (by rw [hN]; omega)⟩ ⟨Nat.le_of_ble_eq_true rfl, Nat.le_of_ble_eq_true rfl⟩ ?_
  rw [hN]
  refine ar_putF X dX4_init_14 fF_X4_15 rfl (fun _ => ⟨rfl, rfl⟩) rfl h1 ?_
  refine ar_aload_n X dX4_init_17 rfl 0 rfl ?_
  refine ar_bipush (v := 6) X dX4_init_18 (by decide) ?_
  refine ar_newaI (n := 6) X dX4_init_20 (tw 63 (by decide +kernel)) (by decide) rfl (by decide) (by rw [e1]; exact p1) (by omega) ⟨rvs1 (by rw [e1]; omega), rvs1 (by rw [e1]; omega)⟩ ⟨Nat.le_of_ble_eq_true rfl, Nat.le_of_ble_eq_true rfl⟩ ?_
  rw [e1]
  refine ar_putF X dX4_init_22 fF_X4_19 rfl (fun _ => ⟨rfl, rfl⟩) rfl h2 ?_
  refine ar_aload_n X dX4_init_25 rfl 0 rfl ?_
  refine ar_bipush (v := 6) X dX4_init_26 (by decide) ?_
  refine ar_newaI (n := 6) X dX4_init_28 (tw 63 (by decide +kernel)) (by decide) rfl (by decide) (by rw [e2]; exact p2) (by omega) ⟨rvs1 (by rw [e2]; omega), rvs1 (by rw [e2]; omega)⟩ ⟨Nat.le_of_ble_eq_true rfl, Nat.le_of_ble_eq_true rfl⟩ ?_
  rw [e2]
  refine ar_putF X dX4_init_30 fF_X4_22 rfl (fun _ => ⟨rfl, rfl⟩) rfl h3 ?_
  refine ar_aload_n X dX4_init_33 rfl 0 rfl ?_
  refine ar_bipush (v := 6) X dX4_init_34 (by decide) ?_
  refine ar_newaI (n := 6) X dX4_init_36 (tw 63 (by decide +kernel)) (by decide) rfl (by decide) (by rw [e3]; exact p3) (by omega) ⟨rvs1 (by rw [e3]; omega), rvs1 (by rw [e3]; omega)⟩ ⟨Nat.le_of_ble_eq_true rfl, Nat.le_of_ble_eq_true rfl⟩ ?_
  rw [e3]
  refine ar_putF X dX4_init_38 fF_X4_25 rfl (fun _ => ⟨rfl, rfl⟩) rfl h4 ?_
  refine ar_aload_n X dX4_init_41 rfl 0 rfl ?_
  refine ar_bipush (v := 6) X dX4_init_42 (by decide) ?_
  refine ar_newaI (n := 6) X dX4_init_44 (tw 63 (by decide +kernel)) (by decide) rfl (by decide) (by rw [e4]; exact p4) (by omega) ⟨rvs1 (by rw [e4]; omega), rvs1 (by rw [e4]; omega)⟩ ⟨Nat.le_of_ble_eq_true rfl, Nat.le_of_ble_eq_true rfl⟩ ?_
  rw [e4]
  refine ar_putF X dX4_init_46 fF_X4_28 rfl (fun _ => ⟨rfl, rfl⟩) rfl h5 ?_
  exact ar_vret X dX4_init_49 hR (Nat.le_of_ble_eq_true rfl) (Nat.le_of_ble_eq_true rfl)
theorem am_X3_init {sh : aS} {P : aP} {I : aI} {J : aJ} {o : Nat} (ho : sh[o]? = some (.inl 3)) (hN : sh.length = o + 1) (hpc : am_pc P (o + 1)) (hb : o + 2 < 1000000) : AM yX3_init cX3_init 1 none 1 20 [.ref o] sh P I J none (sh ++ [.inr (2, 60)]) (am_wP P o 0 (some (o + 1))) (am_zI I (o + 1)) J 1 60 := by
  refine am_met (by decide +kernel) (Nat.le_of_ble_eq_true rfl) (fun K X hR => ?_)
  have X : am_C K cX3_init 1 RX3 "<init>" ({ frames := 1, cells := 1, slots := 60, locals := 20 } : Room) := X
  show AW K 1 0 [(0, .ref o)] [] sh P I J 0 0
  refine ar_aload_n X dX3_init_0 rfl 0 rfl ?_
  refine ar_objinit X dX3_init_1 (tw 178 (by decide +kernel)) (tw 18 (by decide +kernel)) (tw 19 (by decide +kernel)) (Nat.le_refl _) (Nat.le_of_ble_eq_true rfl) ?_
  refine ar_aload_n X dX3_init_4 rfl 0 rfl ?_
  refine ar_bipush (v := 60) X dX3_init_5 (by decide) ?_
  refine ar_newaC (n := 60) X dX3_init_7 (tw 202 (by decide +kernel)) (by decide) rfl (by decide) (by rw [hN]; exact hpc) (by omega) ⟨rvs1 (by rw [hN]; omega), rvs1 (by rw [hN]; omega)⟩ ⟨Nat.le_of_ble_eq_true rfl, Nat.le_of_ble_eq_true rfl⟩ ?_
  rw [hN]
  refine ar_putF X dX3_init_9 fF_X3_9 rfl (fun _ => ⟨rfl, rfl⟩) rfl (sh_old ho) ?_
  exact ar_vret X dX3_init_12 hR (Nat.le_of_ble_eq_true rfl) (Nat.le_of_ble_eq_true rfl)
theorem am_X5_init {sh : aS} {P : aP} {I : aI} {J : aJ} {o : Nat} (ho : sh[o]? = some (.inl 5)) (hN : sh.length = o + 1) (hpc : am_pc P (o + 1)) (hb : o + 3 < 1000000) : AM yX5_init cX5_init 1 none 1 20 [.ref o] sh P I J none ((sh ++ [.inr (3, 1801)]) ++ [.inr (3, 1801)]) (am_wP (am_wP P o 0 (some (o + 1))) o 1 (some (o + 2))) I (am_zJ (am_zJ J (o + 1)) (o + 2)) 2 3602 := by
  refine am_met (by decide +kernel) (Nat.le_of_ble_eq_true rfl) (fun K X hR => ?_)
  have X : am_C K cX5_init 1 RX5 "<init>" ({ frames := 1, cells := 2, slots := 3602, locals := 20 } : Room) := X
  show AW K 1 0 [(0, .ref o)] [] sh P I J 0 0
  have e1 := sh_len (c := .inr (3, 1801)) hN
  have h1 := sh_old (c := .inr (3, 1801)) ho
  have h2 := sh_old (c := .inr (3, 1801)) h1
  have p1 := (hpc.mono (show o + 1 ≤ o + 2 by omega)).wk (q := o) (k := 0) (show o + 1 < o + 2 by omega)
  refine ar_aload_n X dX5_init_0 rfl 0 rfl ?_
  refine ar_objinit X dX5_init_1 (tw 164 (by decide +kernel)) (tw 18 (by decide +kernel)) (tw 19 (by decide +kernel)) (Nat.le_refl _) (Nat.le_of_ble_eq_true rfl) ?_
  refine ar_aload_n X dX5_init_4 rfl 0 rfl ?_
  refine ar_sipush (v := 1801) X dX5_init_5 (by decide) ?_
  refine ar_newaJ (n := 1801) X dX5_init_8 (tw 172 (by decide +kernel)) (by decide) rfl (by decide) (by rw [hN]; exact hpc) (by omega) ⟨rvs1 (by rw [hN]; omega), rvs1 (by rw [hN]; omega)⟩ ⟨Nat.le_of_ble_eq_true rfl, Nat.le_of_ble_eq_true rfl⟩ ?_
  rw [hN]
  refine ar_putF X dX5_init_10 fF_X5_11 rfl (fun _ => ⟨rfl, rfl⟩) rfl h1 ?_
  refine ar_aload_n X dX5_init_13 rfl 0 rfl ?_
  refine ar_sipush (v := 1801) X dX5_init_14 (by decide) ?_
  refine ar_newaJ (n := 1801) X dX5_init_17 (tw 172 (by decide +kernel)) (by decide) rfl (by decide) (by rw [e1]; exact p1) (by omega) ⟨rvs1 (by rw [e1]; omega), rvs1 (by rw [e1]; omega)⟩ ⟨Nat.le_of_ble_eq_true rfl, Nat.le_of_ble_eq_true rfl⟩ ?_
  rw [e1]
  refine ar_putF X dX5_init_19 fF_X5_15 rfl (fun _ => ⟨rfl, rfl⟩) rfl h2 ?_
  exact ar_vret X dX5_init_22 hR (Nat.le_of_ble_eq_true rfl) (Nat.le_of_ble_eq_true rfl)
