/-! constructors -/
theorem am_pc.mono {P : aP} {N M : Nat} (h : am_pc P N) (hm : N ≤ M) : am_pc P M := fun q k z hz => Nat.lt_of_lt_of_le (h q k z hz) hm
theorem am_pc.wk {P : aP} {N q k z : Nat} (h : am_pc P N) (hz : z < N) : am_pc (am_wP P q k (some z)) N := by
  intro q' k' z' hz'
  unfold am_wP at hz'
  split at hz'
  · injection hz' with e; omega
  · exact h _ _ _ hz'
theorem sh_old {sh : aS} {c : Nat ⊕ (Nat × Nat)} {q : Nat} {v : Nat ⊕ (Nat × Nat)} (h : sh[q]? = some v) : (sh ++ [c])[q]? = some v := by
  have := List.getElem?_eq_some_iff.mp h
  obtain ⟨hq, -⟩ := this
  rw [List.getElem?_append_left hq]; exact h
theorem rvs1 {o M : Nat} (h : o < M) : am_rvs M [.ref o] := ⟨Or.inl h, trivial⟩
def iP2 (P : aP) (o N : Nat) : aP := am_wP (am_wP (am_wP (am_wP P o 2 (some N)) o 3 (some (N + 1))) o 4 (some (N + 2))) o 5 (some (N + 3))
def iS2 (sh : aS) : aS := (((sh ++ [.inr (0, 12)]) ++ [.inr (0, 12)]) ++ [.inr (0, 12)]) ++ [.inr (0, 12)]
def iI2 (I : aI) (N : Nat) : aI := am_zI (am_zI (am_zI (am_zI I N) (N + 1)) (N + 2)) (N + 3)
theorem am_X2_init {sh : aS} {P : aP} {I : aI} {J : aJ} {o N : Nat} (ho : sh[o]? = some (.inl 2)) (hN : sh.length = N) (hoN : o < N) (hpc : am_pc P N) (hb : N + 4 < 1000000) : AM yX2_init cX2_init 1 none 1 20 [.ref o] sh P I J none (iS2 sh) (iP2 P o N) (iI2 I N) J 4 48 := by
  refine am_met (by decide +kernel) (Nat.le_of_ble_eq_true rfl) (fun K X hR => ?_)
  have X : am_C K cX2_init 1 RX2 "<init>" ({ frames := 1, cells := 4, slots := 48, locals := 20 } : Room) := X
  show AW K 1 0 [(0, .ref o)] [] sh P I J 0 0
  have e1 : (sh ++ [(Sum.inr (0, 12) : Nat ⊕ (Nat × Nat))]).length = N + 1 := by simp [hN]
  have e2 : ((sh ++ [(Sum.inr (0, 12) : Nat ⊕ (Nat × Nat))]) ++ [Sum.inr (0, 12)]).length = N + 2 := by simp [hN]
  have e3 : (((sh ++ [(Sum.inr (0, 12) : Nat ⊕ (Nat × Nat))]) ++ [Sum.inr (0, 12)]) ++ [Sum.inr (0, 12)]).length = N + 3 := by simp [hN]
  refine ar_aload_n X dX2_init_0 rfl 0 rfl ?_
  refine ar_objinit X dX2_init_1 (tw 69 (by decide +kernel)) (tw 18 (by decide +kernel)) (tw 19 (by decide +kernel)) (Nat.le_refl _) (Nat.le_of_ble_eq_true rfl) ?_
  refine ar_aload_n X dX2_init_4 rfl 0 rfl ?_
  refine ar_bipush (v := 12) X dX2_init_5 (by decide) ?_
  refine ar_newaI (n := 12) X dX2_init_7 (tw 63 (by decide +kernel)) (by decide) rfl (by decide) (by rw [hN]; exact hpc) (by omega) ⟨rvs1 (by rw [hN]; omega), rvs1 (by rw [hN]; omega)⟩ ⟨Nat.le_of_ble_eq_true rfl, Nat.le_of_ble_eq_true rfl⟩ ?_
  rw [hN]
  refine ar_putF X dX2_init_9 fF_X2_9 rfl (fun _ => ⟨rfl, rfl⟩) rfl (sh_old ho) ?_
  refine ar_aload_n X dX2_init_12 rfl 0 rfl ?_
  refine ar_bipush (v := 12) X dX2_init_13 (by decide) ?_
  refine ar_newaI (n := 12) X dX2_init_15 (tw 63 (by decide +kernel)) (by decide) rfl (by decide) (by rw [e1]; exact (hpc.mono (by omega)).wk (by omega)) (by omega) ⟨rvs1 (by rw [e1]; omega), rvs1 (by rw [e1]; omega)⟩ ⟨Nat.le_of_ble_eq_true rfl, Nat.le_of_ble_eq_true rfl⟩ ?_
  rw [e1]
  refine ar_putF X dX2_init_17 fF_X2_15 rfl (fun _ => ⟨rfl, rfl⟩) rfl (sh_old (sh_old ho)) ?_
  refine ar_aload_n X dX2_init_20 rfl 0 rfl ?_
  refine ar_bipush (v := 12) X dX2_init_21 (by decide) ?_
  refine ar_newaI (n := 12) X dX2_init_23 (tw 63 (by decide +kernel)) (by decide) rfl (by decide) (by rw [e2]; exact ((hpc.mono (by omega)).wk (by omega)).wk (by omega)) (by omega) ⟨rvs1 (by rw [e2]; omega), rvs1 (by rw [e2]; omega)⟩ ⟨Nat.le_of_ble_eq_true rfl, Nat.le_of_ble_eq_true rfl⟩ ?_
  rw [e2]
  refine ar_putF X dX2_init_25 fF_X2_18 rfl (fun _ => ⟨rfl, rfl⟩) rfl (sh_old (sh_old (sh_old ho))) ?_
  refine ar_aload_n X dX2_init_28 rfl 0 rfl ?_
  refine ar_bipush (v := 12) X dX2_init_29 (by decide) ?_
  refine ar_newaI (n := 12) X dX2_init_31 (tw 63 (by decide +kernel)) (by decide) rfl (by decide) (by rw [e3]; exact (((hpc.mono (by omega)).wk (by omega)).wk (by omega)).wk (by omega)) (by omega) ⟨rvs1 (by rw [e3]; omega), rvs1 (by rw [e3]; omega)⟩ ⟨Nat.le_of_ble_eq_true rfl, Nat.le_of_ble_eq_true rfl⟩ ?_
  rw [e3]
  refine ar_putF X dX2_init_33 fF_X2_21 rfl (fun _ => ⟨rfl, rfl⟩) rfl (sh_old (sh_old (sh_old (sh_old ho)))) ?_
  exact ar_vret X dX2_init_36 hR (Nat.le_of_ble_eq_true rfl) (Nat.le_of_ble_eq_true rfl)
