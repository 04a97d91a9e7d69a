/-! the class saves a game -/
theorem L6_keep {sh sh' : aS} {P P' : aP} {o N : Nat} (h : L6 sh P o) (hN : o + 37 ≤ N) (h1 : ∀ (q : Nat) (v : Nat ⊕ (Nat × Nat)), sh[q]? = some v → sh'[q]? = some v) (h2 : ∀ q k, q < N → q ≠ o + 31 → P' q k = P q k) : L6 sh' P' o := by
  refine ⟨fun j z hz => h1 _ _ (h.1 j z hz), fun q hq => ?_⟩
  have hb : ∀ q ∈ Q6, q.1 < 37 ∧ q.1 ≠ 31 := by decide
  obtain ⟨b1, b2⟩ := hb q hq
  rw [h2 _ _ (by omega) (by omega)]
  exact h.2 q hq
def nS (sh : aS) : aS := gS (sh ++ [.inl 1])
def nP (P : aP) (N : Nat) : aP := gP (am_zP P N) N
def nI0 (I : aI) (N : Nat) : aI := gI (am_zI I N) N
theorem am_X6_saveNew {sh : aS} {P : aP} {I : aI} {J : aJ} {o k N : Nat} (hL : L6 sh P o) (hk : k < 2) (hN : sh.length = N) (hoN : o + 37 ≤ N) (hpc : am_pc P N) (hb : N + 30 < 1000000) (hP : P (o + 31) k = none) : AM yX6_save cX6_save 3 (some .int) 5 200 [.ref o, .int (nI k)] sh P I J (some (.int (tkO (nI0 I N) N (o + 1) (o + 9) 1))) (nS sh) (am_wP (nP P N) (o + 31) k (some N)) (tkO (nI0 I N) N (o + 1)) J 15 115 := by
  refine am_met (by decide +kernel) (Nat.le_of_ble_eq_true rfl) (fun K X hR => ?_)
  have X : am_C K cX6_save 3 RX6 "save" ({ frames := 5, cells := 15, slots := 115, locals := 200 } : Room) := X
  show AW K 3 0 [(0, .ref o), (1, .int (nI k))] [] sh P I J 0 0
  have hoM : o < N := by omega
  have hkt : Int32.toNatClampNeg (nI k) = k := nI_tn (by omega)
  have hok : am_ok (nI k) 2 = true := am_ok_nI hk (by omega)
  have his : f_X6_isSlot (nI k) = some 1 := by
    match k, hk with
    | 0, _ => decide
    | 1, _ => decide
  have e1 := sh_len (c := .inl 1) hN
  have hL' : L6 (nS sh) (nP P N) o := L6_keep hL hoN (fun q v hv => gS_old (sh_old hv)) (fun q k' hq _ => by unfold nP; rw [gP_old hq, zP_nq (by omega)])
  have hL2 : L6 (nS sh) (am_wP (nP P N) (o + 31) k (some N)) o := L6_keep hL' hoN (fun q v hv => hv) (fun q k' hq hq2 => wP_nq hq2)
  have hG : L1 (nS sh) (nP P N) N := gL (sh_new hN) e1
  have hG2 : L1 (nS sh) (am_wP (nP P N) (o + 31) k (some N)) N := ⟨hG.1, fun q hq => by rw [wP_nq (by omega)]; exact hG.2 q hq⟩
  refine ar_iload_n X dX6_save_0 rfl 1 rfl ?_
  refine ar_cSi (As := [.int (nI k)]) (st := []) X dX6_save_1 (am_X6_isSlot his) lk_X6_291 mt_X6_isSlot ms_X6_isSlot rfl (Nat.le_of_ble_eq_true rfl) ⟨by decide, by decide⟩ ⟨Nat.zero_le _, Nat.zero_le _⟩ rfl ?_
  refine ar_if_ne (β := Unit) (T := none) (F := some ()) (Rs := ()) (tgt := 10) X dX6_save_4 (by decide) (if_neg one0) (fun h2 hf => by cases hf) (fun h2 hf => ?_)
  refine ar_aload_n X dX6_save_10 rfl 0 rfl ?_
  refine ar_getr X dX6_save_11 fg_X6_19 rfl (L6_s0 hL) (L6_p0_2 hL) ?_
  refine ar_iload_n X dX6_save_14 rfl 1 rfl ?_
  refine ar_aald X dX6_save_15 (L6_s31 hL) hok rfl ?_
  rw [hkt, hP]
  show AW K 3 16 [(0, .ref o), (1, .int (nI k))] [.null] sh P I J 0 0
  refine ar_astore_nN X dX6_save_16 rfl (by decide) rfl ?_
  refine ar_aload_nN X dX6_save_17 rfl 0 rfl ?_
  refine ar_ifnonnullN X dX6_save_18 ?_
  refine ar_new X dX6_save_21 cl1 (tw 20 (by decide +kernel)) (tw 21 (by decide +kernel)) (tw 2 (by decide +kernel)) (by decide) (by rw [hN]; exact hpc) (by omega) ⟨⟨trivial, Or.inl (by rw [hN]; exact hoM), trivial, trivial⟩, trivial⟩ ⟨Nat.le_of_ble_eq_true rfl, Nat.le_of_ble_eq_true rfl⟩ ?_
  rw [hN]
  refine ar_dup X dX6_save_24 rfl ?_
  refine ar_callI (As := []) (st := [.ref N]) X dX6_save_25 (am_X1_init (sh_new hN) e1 ((hpc.mono (by omega)).z) (by omega)) lk_X6_9 mt_X1_init ⟨mo_X1_init, rfl⟩ rfl (Nat.le_of_ble_eq_true rfl) ⟨by decide, by decide⟩ ⟨Nat.le_of_ble_eq_true rfl, Nat.le_of_ble_eq_true rfl⟩ (by rw [gS_len e1, e1]; omega) (Or.inr ⟨⟨trivial, Or.inl (show o < (sh ++ [Sum.inl 1]).length from by rw [e1]; exact Nat.lt_succ_of_lt hoM), trivial, trivial⟩, rvs1 (show N < (sh ++ [Sum.inl 1]).length from by rw [e1]; exact Nat.lt_succ_self N)⟩) (fun v hv => by cases hv) ?_
  show AW K 3 28 [(2, .null), (0, .ref o), (1, .int (nI k))] [.ref N] (nS sh) (nP P N) (nI0 I N) J 15 115
  refine ar_astore_n X dX6_save_28 rfl (by decide) rfl ?_
  refine ar_aload_n X dX6_save_29 rfl 1 rfl ?_
  refine ar_getr X dX6_save_30 fg_X6_19 rfl (L6_s0 hL') (L6_p0_2 hL') ?_
  refine ar_iload_n X dX6_save_33 rfl 2 rfl ?_
  refine ar_aload_n X dX6_save_34 rfl 0 rfl ?_
  refine ar_aast X dX6_save_35 (L6_s31 hL') hok (L1_s0 hG) ?_
  rw [hkt]
  refine ar_aload_n X dX6_save_36 rfl 0 rfl ?_
  refine ar_aload_n X dX6_save_37 rfl 1 rfl ?_
  refine ar_getr X dX6_save_38 fg_X6_10 rfl (L6_s0 hL2) (L6_p0_0 hL2) ?_
  refine ar_cVv (As := [.ref (o + 1)]) (st := []) X dX6_save_41 (am_X1_takeOver hG2 (L6_c1 hL2) (fw_takeOver (by omega))) lk_X6_235 mt_X1_takeOver mi_X1_takeOver (L1_s0 hG2) rfl rfl (Nat.le_of_ble_eq_true rfl) ⟨by decide, by decide⟩ ⟨Nat.le_of_ble_eq_true rfl, Nat.le_of_ble_eq_true rfl⟩ rfl ?_
  refine ar_aload_n X dX6_save_44 rfl 1 rfl ?_
  refine ar_getr X dX6_save_45 fg_X6_10 rfl (L6_s0 hL2) (L6_p0_0 hL2) ?_
  refine ar_getr X dX6_save_48 fg_X6_86 rfl (L6_s1 hL2) (L6_p1_2 hL2) ?_
  refine ar_geti X dX6_save_51 fg_X6_294 rfl (L6_s9 hL2) ?_
  exact ar_iret X dX6_save_54 hR (Nat.le_of_ble_eq_true rfl) (Nat.le_of_ble_eq_true rfl)
