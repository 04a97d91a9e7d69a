/-! the constructor of Game -/
def gS1 (sh : aS) : aS := (sh ++ [.inr (0, 6)]) ++ [.inl 4]
def gS2 (sh : aS) : aS := iS4 (gS1 sh) ++ [.inl 2]
def gS3 (sh : aS) : aS := iS2 (gS2 sh) ++ [.inl 0]
def gS (sh : aS) : aS := gS3 sh ++ [.inr (0, 6)]
def gP1 (P : aP) (o : Nat) : aP := am_zP (am_wP P o 0 (some (o + 1))) (o + 2)
def gP2 (P : aP) (o : Nat) : aP := am_zP (am_wP (iP4 (gP1 P o) (o + 2)) o 1 (some (o + 2))) (o + 8)
def gP3 (P : aP) (o : Nat) : aP := am_zP (am_wP (iP2 (gP2 P o) (o + 8) (o + 9)) o 2 (some (o + 8))) (o + 13)
def gP (P : aP) (o : Nat) : aP := am_wP (am_wP (gP3 P o) (o + 13) 8 (some (o + 14))) o 3 (some (o + 13))
def gI1 (I : aI) (o : Nat) : aI := am_zI (am_clI I (o + 1) 1000002) (o + 2)
def gI2 (I : aI) (o : Nat) : aI := am_zI (iI4 (gI1 I o) (o + 2)) (o + 8)
def gI3 (I : aI) (o : Nat) : aI := am_zI (iI2 (gI2 I o) (o + 9)) (o + 13)
def gI (I : aI) (o : Nat) : aI := clearC (am_zI (gI3 I o) (o + 14)) (o + 13)
theorem iS4_len {sh : aS} {N : Nat} (h : sh.length = N) : (iS4 sh).length = N + 5 := by unfold iS4; simp [h]
theorem iS2_len {sh : aS} {N : Nat} (h : sh.length = N) : (iS2 sh).length = N + 4 := by unfold iS2; simp [h]
theorem iS4_old {sh : aS} {q : Nat} {v : Nat ⊕ (Nat × Nat)} (h : sh[q]? = some v) : (iS4 sh)[q]? = some v := sh_old (sh_old (sh_old (sh_old (sh_old h))))
theorem iS2_old {sh : aS} {q : Nat} {v : Nat ⊕ (Nat × Nat)} (h : sh[q]? = some v) : (iS2 sh)[q]? = some v := sh_old (sh_old (sh_old (sh_old h)))
theorem iP4_pc {P : aP} {o : Nat} (h : am_pc P (o + 1)) : am_pc (iP4 P o) (o + 6) := by
  unfold iP4
  exact ((((((h.mono (by omega)).wk (by omega)).wk (by omega)).wk (by omega)).wk (by omega)).wk (by omega))
theorem iP2_pc {P : aP} {o N : Nat} (h : am_pc P N) : am_pc (iP2 P o N) (N + 4) := by
  unfold iP2
  exact (((((h.mono (by omega)).wk (by omega)).wk (by omega)).wk (by omega)).wk (by omega))
theorem rvs2 {o a b M : Nat} (h : o < M) (h2 : a < M) : am_rvs M [.ref a, .ref o] := ⟨Or.inl h2, Or.inl h, trivial⟩
theorem am_X1_init {sh : aS} {P : aP} {I : aI} {J : aJ} {o : Nat} (ho : sh[o]? = some (.inl 1)) (hN : sh.length = o + 1) (hpc : am_pc P (o + 1)) (hb : o + 20 < 1000000) : AM yX1_init cX1_init 1 none 2 90 [.ref o] sh P I J none (gS sh) (gP P o) (gI I o) J 14 111 := by
  refine am_met (by decide +kernel) (Nat.le_of_ble_eq_true rfl) (fun K X hR => ?_)
  have X : am_C K cX1_init 1 RX1 "<init>" ({ frames := 2, cells := 14, slots := 111, locals := 90 } : Room) := X
  show AW K 1 0 [(0, .ref o)] [] sh P I J 0 0
  have e1 := sh_len (c := .inr (0, 6)) hN
  have e2 : (gS1 sh).length = o + 3 := sh_len e1
  have e3 := iS4_len e2
  have e4 : (gS2 sh).length = o + 9 := sh_len e3
  have e5 := iS2_len e4
  have e6 : (gS3 sh).length = o + 14 := sh_len e5
  have h1 := sh_old (c := .inr (0, 6)) ho
  have h2 : (gS1 sh)[o]? = some (.inl 1) := sh_old h1
  have h3 := iS4_old h2
  have h4 : (gS2 sh)[o]? = some (.inl 1) := sh_old h3
  have h5 := iS2_old h4
  have h6 : (gS3 sh)[o]? = some (.inl 1) := sh_old h5
  have h7 : (gS sh)[o]? = some (.inl 1) := sh_old h6
  have p0 := (hpc.mono (show o + 1 ≤ o + 2 by omega)).wk (q := o) (k := 0) (show o + 1 < o + 2 by omega)
  have p1 : am_pc (gP1 P o) (o + 3) := (p0.mono (by omega)).z
  have p2 := (iP4_pc p1).wk (q := o) (k := 1) (show o + 2 < o + 2 + 6 by omega)
  have p3 : am_pc (gP2 P o) (o + 9) := (p2.mono (by omega)).z
  have p4 := (iP2_pc (o := o + 8) p3).wk (q := o) (k := 2) (show o + 8 < o + 9 + 4 by omega)
  have p5 : am_pc (gP3 P o) (o + 14) := (p4.mono (by omega)).z
  refine ar_aload_n X dX1_init_0 rfl 0 rfl ?_
  refine ar_objinit X dX1_init_1 (tw 25 (by decide +kernel)) (tw 18 (by decide +kernel)) (tw 19 (by decide +kernel)) (Nat.le_of_ble_eq_true rfl) (Nat.le_of_ble_eq_true rfl) ?_
  refine ar_aload_n X dX1_init_4 rfl 0 rfl ?_
  refine ar_gets (t := 1000002) X dX1_init_5 (by decide) fs_X1_9 ?_
  refine ar_clone (t := 1000002) X dX1_init_8 (by decide) (tw 28 (by decide +kernel)) (tw 29 (by decide +kernel)) (tw 30 (by decide +kernel)) (tw 31 (by decide +kernel)) (tw 32 (by decide +kernel)) (Nat.le_of_ble_eq_true rfl) (Nat.le_of_ble_eq_true rfl) (by rw [hN]; exact hpc) (by omega) ⟨rvs1 (by rw [hN]; omega), rvs1 (by rw [hN]; omega)⟩ ⟨Nat.le_of_ble_eq_true rfl, Nat.le_of_ble_eq_true rfl⟩ ?_
  rw [hN]
  refine ar_castA X dX1_init_11 (tw 34 (by decide +kernel)) (sh_new hN) ?_
  refine ar_putF X dX1_init_14 fF_X1_18 rfl (fun _ => ⟨rfl, rfl⟩) rfl h1 ?_
  refine ar_aload_n X dX1_init_17 rfl 0 rfl ?_
  refine ar_new X dX1_init_18 cl4 (tw 35 (by decide +kernel)) (tw 36 (by decide +kernel)) (tw 3 (by decide +kernel)) (by decide) (by rw [e1]; exact p0) (by omega) ⟨rvs1 (by rw [e1]; omega), rvs1 (by rw [e1]; omega)⟩ ⟨Nat.le_of_ble_eq_true rfl, Nat.le_of_ble_eq_true rfl⟩ ?_
  rw [e1]
  refine ar_dup X dX1_init_21 rfl ?_
  show AW K 1 22 [(0, .ref o)] [.ref (o + 2), .ref (o + 2), .ref o] (gS1 sh) (gP1 P o) (gI1 I o) J 2 12
  refine ar_callI (As := []) (st := [.ref (o + 2), .ref o]) X dX1_init_22 (am_X4_init (sh_new e1) e2 p1 (by omega)) lk_X1_25 mt_X4_init ⟨mo_X4_init, rfl⟩ rfl (Nat.le_of_ble_eq_true rfl) ⟨by decide, by decide⟩ ⟨Nat.le_of_ble_eq_true rfl, Nat.le_of_ble_eq_true rfl⟩ (by rw [e2, e3]; omega) (Or.inr ⟨rvs1 (by rw [e2]; omega), rvs2 (b := 0) (by rw [e2]; omega) (by rw [e2]; omega)⟩) (fun v hv => by cases hv) ?_
  refine ar_putF X dX1_init_25 fF_X1_26 rfl (fun _ => ⟨rfl, rfl⟩) rfl h3 ?_
  refine ar_aload_n X dX1_init_28 rfl 0 rfl ?_
  refine ar_new X dX1_init_29 cl2 (tw 64 (by decide +kernel)) (tw 65 (by decide +kernel)) (tw 4 (by decide +kernel)) (by decide) (by rw [e3]; exact p2) (by omega) ⟨rvs1 (by rw [e3]; omega), rvs1 (by rw [e3]; omega)⟩ ⟨Nat.le_of_ble_eq_true rfl, Nat.le_of_ble_eq_true rfl⟩ ?_
  rw [e3]
  refine ar_dup X dX1_init_32 rfl ?_
  show AW K 1 33 [(0, .ref o)] [.ref (o + 8), .ref (o + 8), .ref o] (gS2 sh) (gP2 P o) (gI2 I o) J 8 48
  refine ar_callI (As := []) (st := [.ref (o + 8), .ref o]) X dX1_init_33 (am_X2_init (sh_new e3) e4 (by omega) p3 (by omega)) lk_X1_32 mt_X2_init ⟨mo_X2_init, rfl⟩ rfl (Nat.le_of_ble_eq_true rfl) ⟨by decide, by decide⟩ ⟨Nat.le_of_ble_eq_true rfl, Nat.le_of_ble_eq_true rfl⟩ (by rw [e4, e5]; omega) (Or.inr ⟨rvs1 (by rw [e4]; omega), rvs2 (b := 0) (by rw [e4]; omega) (by rw [e4]; omega)⟩) (fun v hv => by cases hv) ?_
  refine ar_putF X dX1_init_36 fF_X1_33 rfl (fun _ => ⟨rfl, rfl⟩) rfl h5 ?_
  refine ar_aload_n X dX1_init_39 rfl 0 rfl ?_
  refine ar_new X dX1_init_40 cl0 (tw 92 (by decide +kernel)) (tw 93 (by decide +kernel)) (tw 5 (by decide +kernel)) (by decide) (by rw [e5]; exact p4) (by omega) ⟨rvs1 (by rw [e5]; omega), rvs1 (by rw [e5]; omega)⟩ ⟨Nat.le_of_ble_eq_true rfl, Nat.le_of_ble_eq_true rfl⟩ ?_
  rw [e5]
  refine ar_dup X dX1_init_43 rfl ?_
  show AW K 1 44 [(0, .ref o)] [.ref (o + 13), .ref (o + 13), .ref o] (gS3 sh) (gP3 P o) (gI3 I o) J 13 105
  refine ar_callI (As := []) (st := [.ref (o + 13), .ref o]) X dX1_init_44 (am_X0_init (sh_new e5) e6 p5 (by omega)) lk_X1_39 mt_X0_init ⟨mo_X0_init, rfl⟩ rfl (Nat.le_of_ble_eq_true rfl) ⟨by decide, by decide⟩ ⟨Nat.le_of_ble_eq_true rfl, Nat.le_of_ble_eq_true rfl⟩ (by rw [sh_len e6, e6]; omega) (Or.inr ⟨rvs1 (by rw [e6]; omega), rvs2 (b := 0) (by rw [e6]; omega) (by rw [e6]; omega)⟩) (fun v hv => by cases hv) ?_
  refine ar_putF X dX1_init_47 fF_X1_40 rfl (fun _ => ⟨rfl, rfl⟩) rfl h7 ?_
  exact ar_vret X dX1_init_50 hR (Nat.le_of_ble_eq_true rfl) (Nat.le_of_ble_eq_true rfl)
