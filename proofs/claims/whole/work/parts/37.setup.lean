/-! PURE: settings, new games, counts -/
theorem in_out {a : Int32} {lo hi : Nat} (hhi : hi < 1000) (hlo : lo ≤ hi) (h : ∀ j, lo ≤ j → j ≤ hi → a ≠ nI j) : a < nI lo ∨ nI hi < a := by
  rcases seat_cases a (hi + 1) (by omega) with ⟨t, ht, rfl⟩ | q | q
  · by_cases c : lo ≤ t
    · exact absurd rfl (h t c (by omega))
    · exact Or.inl (nI_lt (by omega) (by omega))
  · refine Or.inl (Int32.lt_iff_toInt_lt.mpr ?_)
    have := Int32.lt_iff_toInt_lt.mp q
    rw [zI] at this
    rw [nI_toInt (by omega)]
    omega
  · refine Or.inr (Int32.lt_iff_toInt_lt.mpr ?_)
    have := Int32.le_iff_toInt_le.mp q
    rw [nI_toInt (by omega)] at this
    rw [nI_toInt (by omega)]
    omega
theorem fw_isSet (k : Nat) (hk : k < 6) : f_X6_isSetting (nI k) = some 1 := by
  rw [f_X6_isSetting, fw_within, am_b1_some, if_neg (by rw [nI_neg k (by omega), false_or, show (5 : Int32) = nI 5 from rfl, nI_ltq (by omega) (by omega)]; omega)]
  rfl
theorem fw_isSetO {a : Int32} (h : a < 0 ∨ nI 6 ≤ a) : f_X6_isSetting a = some 0 := by
  rw [f_X6_isSetting, fw_within, am_b1_some, if_pos]
  · rfl
  · refine h.imp id (fun q => Int32.lt_iff_toInt_lt.mpr ?_)
    have := Int32.le_iff_toInt_le.mp q
    rw [show (nI 6).toInt = 6 from rfl] at this
    rw [show (5 : Int32).toInt = 5 from rfl]
    omega
theorem fw_isSV {I : aI} {v : Int32} {k : Nat} (hk : k < 6) : f_X6_isSettingValue (nI k) v I = some (if v < am_least k ∨ am_most k < v then 0 else 1) := by
  rw [f_X6_isSettingValue, fw_isSet k hk, am_b1_some, if_neg one0, ok6 hk, am_g_tt, am_g_tt, nI_tn (by omega), show am_sf 1000001 k = am_least k from rfl, show am_sf 1000003 k = am_most k from rfl, fw_within, am_b1_some]
  by_cases c : v < am_least k ∨ am_most k < v
  · rw [if_pos c, if_pos rfl]
  · rw [if_neg c, if_neg one0]
theorem fw_takes {v : Int32} : ∀ k, k < 6 → f_X7_takes (nI k) v = some (if v < am_least k ∨ am_most k < v then 0 else 1) := by
  intro k hk
  match k, hk with
  | 0, _ =>
    rw [f_X7_takes, if_pos (show nI 0 = (0 : Int32) from rfl), fw_in, am_b1_some, zk_ite]; rfl
  | 1, _ =>
    rw [f_X7_takes, if_neg (show ¬ nI 1 = (0 : Int32) by decide), if_pos (show nI 1 = (1 : Int32) from rfl), fw_in, am_b1_some, zk_ite]; rfl
  | 2, _ =>
    rw [f_X7_takes, if_neg (show ¬ nI 2 = (0 : Int32) by decide), if_neg (show ¬ nI 2 = (1 : Int32) by decide), if_pos (show nI 2 = (2 : Int32) from rfl), fw_in, am_b1_some, zk_ite]; rfl
  | 3, _ =>
    rw [f_X7_takes, if_neg (show ¬ nI 3 = (0 : Int32) by decide), if_neg (show ¬ nI 3 = (1 : Int32) by decide), if_neg (show ¬ nI 3 = (2 : Int32) by decide), if_pos (show nI 3 = (3 : Int32) from rfl), fw_in, am_b1_some, zk_ite]; rfl
  | 4, _ =>
    rw [f_X7_takes, if_neg (show ¬ nI 4 = (0 : Int32) by decide), if_neg (show ¬ nI 4 = (1 : Int32) by decide), if_neg (show ¬ nI 4 = (2 : Int32) by decide), if_neg (show ¬ nI 4 = (3 : Int32) by decide), if_pos (show nI 4 = (4 : Int32) from rfl), if_pos (show nI 4 = (4 : Int32) from rfl), fw_in, am_b1_some]
    show _ = some (if v < (0 : Int32) ∨ (100 : Int32) < v then 0 else 1)
    by_cases c : v < (0 : Int32) ∨ (100 : Int32) < v
    · rw [if_pos c, if_pos rfl]
    · rw [if_neg c, if_neg one0]
  | 5, _ =>
    rw [f_X7_takes, if_neg (show ¬ nI 5 = (0 : Int32) by decide), if_neg (show ¬ nI 5 = (1 : Int32) by decide), if_neg (show ¬ nI 5 = (2 : Int32) by decide), if_neg (show ¬ nI 5 = (3 : Int32) by decide), if_neg (show ¬ nI 5 = (4 : Int32) by decide), if_pos (show nI 5 = (5 : Int32) from rfl), fw_in, am_b1_some, zk_ite]; rfl
theorem fw_takesO {a v : Int32} (h : a < 0 ∨ nI 6 ≤ a) : f_X7_takes a v = some 0 := by
  have hne : ∀ k, k < 6 → ¬ a = nI k := fun k hk z => by
    subst z
    rcases h with q | q
    · exact nI_pos (by omega) q
    · exact nI_ge (by omega) (by omega) q
  have h0 : ¬ a = 0 := hne 0 (by omega)
  have h1 : ¬ a = 1 := hne 1 (by omega)
  have h2 : ¬ a = 2 := hne 2 (by omega)
  have h3 : ¬ a = 3 := hne 3 (by omega)
  have h4 : ¬ a = 4 := hne 4 (by omega)
  have h5 : ¬ a = 5 := hne 5 (by omega)
  rw [f_X7_takes, if_neg h0, if_neg h1, if_neg h2, if_neg h3, if_neg h4, if_neg h5, if_neg h4]
theorem set_pair {I Ir : aI} {x m np nl nd : Nat} (hv : IV I (x + 1) np nl nd) (hw : RW I (x + 1) (Ir (m + 1)) nl nd) (a v : Int32) : GP x m I Ir (f_X6_set x a v I) (f_X7_set m a v Ir) := by
  obtain ⟨q2, q6, q1, q12, qnp, qnl, qnd⟩ := id hv.1
  obtain ⟨⟨a0, a1, a2⟩, j2, j3, j4, j5, j6⟩ := id hw
  have e14 : x + 14 = x + 1 + 13 := by omega
  rw [f_X6_set, f_X7_set, e14]
  rcases seat_cases a 6 (by omega) with ⟨k, hk, rfl⟩ | ho
  · rw [fw_isSV hk, am_b1_some, fw_takes k hk, am_b1_some]
    by_cases c : v < am_least k ∨ am_most k < v
    · rw [if_pos c, if_pos rfl, if_pos rfl]
      exact GP.same hv hw rfl rfl
    rw [if_neg c, if_neg one0, if_neg one0, fw_goesC, am_b1_some, fw_goesR hw, am_b1_some]
    by_cases c2 : I (x + 1 + 13) 0 = -6
    · have hA := au_none hv c2
      have hc := bd_of c
      have e10 : (10 : Int32) + nI k = nI (10 + k) := by rw [show (10 : Int32) = nI 10 from rfl, nI_add]
      rw [if_pos c2, if_pos rfl, if_pos rfl, f_X1_changeSetting, fw_isSet k hk, am_b1_some, if_neg one0, ok6 hk, am_g_tt, am_let_ap, am_g_tt, am_let_ap, nI_tn (by omega), am_b2_some, fw_setting hk, j2 k hk, am_b1_some, e10, ok118 (by omega), am_g_tt, am_let_ap, nI_tn (by omega)]
      refine ⟨_, _, _, np, nl, nd, rfl, rfl, ⟨?_, ?_, ?_, ?_, Or.inl ?_⟩, ⟨?_, ?_, ?_, ?_, ?_, ?_⟩, fun q hq => am_w_ne _ _ (by omega), fun q n1 _ _ => am_w_ne _ _ n1⟩
      · unfold IVh at *; rw [am_w_ne _ _ (by omega), am_w_ne _ _ (by omega)]; exact hv.1
      · obtain ⟨b0, b1, b2, b3, b4, b5⟩ := hv.2.1
        unfold IVs
        match k, hk, hc with
        | 0, _, hc => simp (disch := omega) only [am_w_nq, am_w_eq]; exact ⟨hc, b1, b2, b3, b4, b5⟩
        | 1, _, hc => simp (disch := omega) only [am_w_nq, am_w_eq]; exact ⟨b0, hc, b2, b3, b4, b5⟩
        | 2, _, hc => simp (disch := omega) only [am_w_nq, am_w_eq]; exact ⟨b0, b1, hc, b3, b4, b5⟩
        | 3, _, hc => simp (disch := omega) only [am_w_nq, am_w_eq]; exact ⟨b0, b1, b2, hc, b4, b5⟩
        | 4, _, hc => simp (disch := omega) only [am_w_nq, am_w_eq]; exact ⟨b0, b1, b2, b3, hc, b5⟩
        | 5, _, hc => simp (disch := omega) only [am_w_nq, am_w_eq]; exact ⟨b0, b1, b2, b3, b4, hc⟩
      · have := hv.2.2.1
        unfold IVp at *; rw [am_w_ne _ _ (by omega), am_w_ne _ _ (by omega), am_w_ne _ _ (by omega), am_w_ne _ _ (by omega)]; exact this
      · have := hv.2.2.2.1
        unfold IVl at *; rw [am_w_ne _ _ (by omega), am_w_ne _ _ (by omega), am_w_ne _ _ (by omega)]; exact this
      · unfold AUn at *; rw [am_w_ne _ _ (by omega), am_w_ne _ _ (by omega)]; exact hA
      · refine ⟨?_, ?_, ?_⟩
        · rw [am_w_nq _ _ (by omega), am_w_ne _ _ (by omega)]; exact a0
        · rw [am_w_nq _ _ (by omega), am_w_ne _ _ (by omega)]; exact a1
        · rw [am_w_nq _ _ (by omega), am_w_ne _ _ (by omega)]; exact a2
      · intro i hi
        by_cases e : i = k
        · subst e; rw [am_w_eq _ _ ⟨rfl, rfl⟩, am_w_eq _ _ ⟨rfl, rfl⟩]
        · rw [am_w_nq _ _ (by omega), am_w_nq _ _ (by omega)]; exact j2 i hi
      · intro p hp
        simp (disch := omega) only [am_w_nq]; exact j3 p hp
      · intro p hp
        simp (disch := omega) only [am_w_nq]; exact j4 p hp
      · intro p hp
        simp (disch := omega) only [am_w_nq]; exact j5 p hp
      · unfold RLa at *
        simp (disch := omega) only [am_w_nq]
        exact j6
    · rw [if_neg c2, if_neg one0, if_neg one0]
      exact GP.same hv hw rfl rfl
  · rw [f_X6_isSettingValue, fw_isSetO ho, am_b1_some, if_pos rfl, am_b1_some, if_pos rfl, fw_takesO ho, am_b1_some, if_pos rfl]
    exact GP.same hv hw rfl rfl
def anC (I : aI) (o : Nat) (v : Int32) (j : Nat) : aI := fun q k => if j ≤ k ∧ k < 6 ∧ o + 1 ≤ q ∧ q ≤ o + 5 then (if q = o + 1 then v else if q = o + 2 then 10 else if q = o + 5 then 300 else 0) else I q k
theorem anew_h {o : Nat} {v : Int32} : ∀ (n j : Nat) (I : aI), j ≤ 6 → 6 < n + j → f_X4_startAnew_h12 o n v (nI j) I = some (anC I o v j) := by
  intro n
  induction n with
  | zero => intro j I h1 h2; omega
  | succ n ih =>
    intro j I h1 h2
    rw [f_X4_startAnew_h12, show (6 : Int32) = nI 6 from rfl]
    by_cases h : 6 ≤ j
    · rw [if_pos (nI_le h (by omega))]
      congr 1; funext q k
      unfold anC
      rw [if_neg (by omega)]
    · rw [if_neg (nI_ge (by omega) (by omega)), ok6 (by omega), nI_tn (by omega)]
      simp only [am_g_tt, am_let_ap]
      rw [nI_1, ih _ _ (by omega) (by omega)]
      congr 1; funext q k
      unfold anC
      by_cases c : j + 1 ≤ k ∧ k < 6 ∧ o + 1 ≤ q ∧ q ≤ o + 5
      · rw [if_pos c, if_pos (show j ≤ k ∧ k < 6 ∧ o + 1 ≤ q ∧ q ≤ o + 5 by omega)]
      · rw [if_neg c]
        by_cases c2 : k = j ∧ o + 1 ≤ q ∧ q ≤ o + 5
        · obtain ⟨rfl, c3, c4⟩ := c2
          rw [if_pos (by omega)]
          have hq : q = o + 1 ∨ q = o + 2 ∨ q = o + 3 ∨ q = o + 4 ∨ q = o + 5 := by omega
          rcases hq with rfl | rfl | rfl | rfl | rfl
          · simp (disch := omega) [am_w_nq, am_w_eq]
          · simp (disch := omega) [am_w_nq, am_w_eq]
          · simp (disch := omega) [am_w_nq, am_w_eq]
          · simp (disch := omega) [am_w_nq, am_w_eq]
          · simp (disch := omega) [am_w_nq, am_w_eq]
        · rw [if_neg (by omega)]
          simp (disch := omega) only [am_w_nq]
def anR (a : Nat → Int32) (v : Int32) (j : Nat) : Nat → Int32 := fun i => if 16 + 7 * j ≤ i ∧ i < 58 ∧ (i - 16) % 7 < 5 then (if (i - 16) % 7 = 0 then v else if (i - 16) % 7 = 1 then 10 else if (i - 16) % 7 = 4 then 300 else 0) else a i
theorem anewR_h {m : Nat} : ∀ (n j : Nat) (I : aI), j ≤ 6 → 6 < n + j → f_X7_beginGame_h23 m n (nI j) I = some (rw1 I m (clearR (anR (I (m + 1)) (I (m + 1) 10) j))) := by
  intro n
  induction n with
  | zero => intro j I h1 h2; omega
  | succ n ih =>
    intro j I h1 h2
    rw [f_X7_beginGame_h23, show (6 : Int32) = nI 6 from rfl]
    by_cases h : 6 ≤ j
    · rw [if_pos (nI_le h (by omega)), fw_clearA, am_b1_some]
      congr 2; congr 1
      funext k
      unfold anR
      rw [if_neg (by omega)]
    · have hj : j < 6 := by omega
      rw [if_neg (nI_ge (by omega) (by omega)), show f_X7_setting m 0 I = _ from fw_setting (k := 0) (by omega), am_b1_some]
      simp only [show ∀ v J, f_X7_lay m (nI j) 0 v J = _ from fun v J => fw_lay (c := 0) (I := J) v hj (by omega), show ∀ v J, f_X7_lay m (nI j) 1 v J = _ from fun v J => fw_lay (c := 1) (I := J) v hj (by omega), show ∀ v J, f_X7_lay m (nI j) 2 v J = _ from fun v J => fw_lay (c := 2) (I := J) v hj (by omega), show ∀ v J, f_X7_lay m (nI j) 3 v J = _ from fun v J => fw_lay (c := 3) (I := J) v hj (by omega), show ∀ v J, f_X7_lay m (nI j) 4 v J = _ from fun v J => fw_lay (c := 4) (I := J) v hj (by omega), am_b1_some]
      rw [nI_1, ih _ _ (by omega) (by omega)]
      congr 1
      simp only [am_w_rw1, rw1_rw1, rw1_row]
      congr 1; congr 1
      funext i
      unfold anR
      by_cases c : 16 + 7 * (j + 1) ≤ i ∧ i < 58 ∧ (i - 16) % 7 < 5
      · rw [if_pos c, if_pos (show 16 + 7 * j ≤ i ∧ i < 58 ∧ (i - 16) % 7 < 5 by omega)]
        simp (disch := omega) only [upd_nq]
      · rw [if_neg c]
        by_cases c2 : 16 + 7 * j ≤ i ∧ i < 16 + 7 * j + 5
        · rw [if_pos (by omega)]
          have hi : i = 16 + 7 * j + 0 ∨ i = 16 + 7 * j + 1 ∨ i = 16 + 7 * j + 2 ∨ i = 16 + 7 * j + 3 ∨ i = 16 + 7 * j + 4 := by omega
          rcases hi with rfl | rfl | rfl | rfl | rfl
          · simp (disch := omega) only [upd_nq, upd_eq]; rw [if_pos (by omega)]
          · simp (disch := omega) only [upd_nq, upd_eq]; rw [if_neg (by omega), if_pos (by omega)]
          · simp (disch := omega) only [upd_nq, upd_eq]; rw [if_neg (by omega), if_neg (by omega), if_neg (by omega)]
          · simp (disch := omega) only [upd_nq, upd_eq]; rw [if_neg (by omega), if_neg (by omega), if_neg (by omega)]
          · simp (disch := omega) only [upd_nq, upd_eq]; rw [if_neg (by omega), if_neg (by omega), if_pos (by omega)]
        · rw [if_neg (by omega)]
          simp (disch := omega) only [upd_nq]
theorem setUp_pair {I Ir : aI} {x m np nl nd : Nat} (hv : IV I (x + 1) np nl nd) (hw : RW I (x + 1) (Ir (m + 1)) nl nd) (a : Int32) : GP x m I Ir (f_X6_setUp x a I) (f_X7_setUp m a Ir) := by
  have hF := am_F_big
  obtain ⟨q2, q6, q1, q12, qnp, qnl, qnd⟩ := id hv.1
  obtain ⟨⟨a0, a1, a2⟩, j2, j3, j4, j5, j6⟩ := id hw
  have e3 : x + 3 = x + 1 + 2 := by omega
  rw [f_X6_setUp, f_X7_setUp, e3, fw_within, am_b1_some, fw_in, am_b1_some]
  by_cases c : a < 2 ∨ 6 < a
  · rw [if_pos c, if_pos rfl, if_pos rfl]
    exact GP.same hv hw rfl rfl
  have hc := bd_of c
  rw [show (2 : Int32).toInt = 2 from rfl, show (6 : Int32).toInt = 6 from rfl] at hc
  obtain ⟨n, hn, rfl⟩ := nI_ofI (x := a) (b := 6) ⟨by omega, hc.2⟩ (by omega)
  rw [nI_toInt (by omega)] at hc
  have hmin : am_min (nI n) 6 = nI n := by
    unfold am_min
    rw [if_neg (show ¬ (6 : Int32) < nI n from fun z => c (Or.inr z))]
  have hs0 : f_X1_settingOf (x + 1) 0 I = some (I (x + 1 + 1) 0) := fw_settingOf (k := 0) (by omega)
  obtain ⟨I1, hI1⟩ : ∃ I1, I1 = clearC (am_w (am_w (anC (am_w I (x + 1 + 2) 0 (nI n)) (x + 1 + 2) (I (x + 1 + 1) 0) 0) (x + 1 + 8) 0 0) (x + 1 + 8) 1 0) (x + 1 + 13) := ⟨_, rfl⟩
  obtain ⟨a5, ha5⟩ : ∃ a5, a5 = clearR (anR (upd (upd (upd (Ir (m + 1)) 0 (nI n)) 1 0) 2 0) (I (x + 1 + 1) 0) 0) := ⟨_, rfl⟩
  have hC : f_X1_startAnew (x + 1) (nI n) I = some I1 := by
    rw [f_X1_startAnew, hs0, am_b1_some, f_X4_startAnew, hmin, am_let_ap, show (0 : Int32) = nI 0 from rfl, anew_h _ _ _ (by omega) (by omega), am_b1_some, f_X2_clear, am_let_ap, am_let_ap, am_b1_some, fw_clear, am_b1_some, hI1]
  have hR : f_X7_beginGame m (nI n) Ir = some (rw1 Ir m a5) := by
    rw [f_X7_beginGame, am_let_ap, am_let_ap, am_let_ap]
    simp only [am_w_rw1, rw1_rw1, rw1_row]
    have := anewR_h (m := m) am_F 0 (rw1 Ir m (upd (upd (upd (Ir (m + 1)) 0 (nI n)) 1 0) 2 0)) (by omega) (by omega)
    rw [rw1_row, rw1_rw1] at this
    simp (disch := omega) only [upd_nq] at this
    rw [show Ir (m + 1) 10 = I (x + 1 + 1) 0 from j2 0 (by omega), ← ha5] at this
    exact this
  have hd : ∀ q k, q ≠ x + 1 + 13 → q ≠ x + 1 + 14 → q ≠ x + 1 + 8 → ¬ (x + 1 + 3 ≤ q ∧ q ≤ x + 1 + 7 ∧ k < 6) → ¬ (q = x + 1 + 2 ∧ k = 0) → I1 q k = I q k := fun q k h1 h2 h3 h4 h5 => by
    rw [hI1, clearC_o _ _ h1 (by omega), am_w_nq _ _ (by omega), am_w_nq _ _ (by omega)]
    unfold anC
    rw [if_neg (by omega), am_w_nq _ _ (by omega)]
  have hp : ∀ j k, 3 ≤ j → j ≤ 7 → k < 6 → I1 (x + 1 + j) k = (if j = 3 then I (x + 1 + 1) 0 else if j = 4 then 10 else if j = 7 then 300 else 0) := fun j k h1 h2 h3 => by
    rw [hI1, clearC_o _ _ (by omega) (by omega), am_w_nq _ _ (by omega), am_w_nq _ _ (by omega)]
    unfold anC
    rw [if_pos (by omega)]
    have hj : j = 3 ∨ j = 4 ∨ j = 5 ∨ j = 6 ∨ j = 7 := by omega
    rcases hj with rfl | rfl | rfl | rfl | rfl
    · rw [if_pos (by omega), if_pos rfl]
    · rw [if_neg (by omega), if_pos (by omega), if_neg (by omega), if_pos rfl]
    · rw [if_neg (by omega), if_neg (by omega), if_neg (by omega), if_neg (by omega), if_neg (by omega), if_neg (by omega)]
    · rw [if_neg (by omega), if_neg (by omega), if_neg (by omega), if_neg (by omega), if_neg (by omega), if_neg (by omega)]
    · rw [if_neg (by omega), if_neg (by omega), if_pos (by omega), if_neg (by omega), if_neg (by omega), if_pos rfl]
  have g2 : I1 (x + 1 + 2) 0 = nI n := by
    rw [hI1, clearC_o _ _ (by omega) (by omega), am_w_nq _ _ (by omega), am_w_nq _ _ (by omega)]
    unfold anC
    rw [if_neg (by omega), am_w_eq _ _ ⟨rfl, rfl⟩]
  have g80 : I1 (x + 1 + 8) 0 = 0 := by rw [hI1, clearC_o _ _ (by omega) (by omega), am_w_nq _ _ (by omega), am_w_eq _ _ ⟨rfl, rfl⟩]
  have g81 : I1 (x + 1 + 8) 1 = 0 := by rw [hI1, clearC_o _ _ (by omega) (by omega), am_w_eq _ _ ⟨rfl, rfl⟩]
  have hA : AUn I1 (x + 1) := by rw [hI1]; exact clear_n _ _
  have hro : ∀ i, ¬ aix i → 3 ≤ i → ¬ (16 ≤ i ∧ i < 58) → a5 i = Ir (m + 1) i := fun i h1 h2 h3 => by
    rw [ha5, clearR_o _ h1]
    unfold anR
    rw [if_neg (by omega), upd_nq _ (by omega), upd_nq _ (by omega), upd_nq _ (by omega)]
  have hrp : ∀ p c, p < 6 → c < 5 → a5 (16 + 7 * p + c) = (if c = 0 then I (x + 1 + 1) 0 else if c = 1 then 10 else if c = 4 then 300 else 0) := fun p c h1 h2 => by
    have e : (16 + 7 * p + c - 16) % 7 = c := by omega
    rw [ha5, clearR_o _ (by unfold aix; omega)]
    unfold anR
    rw [e, if_pos (by omega)]
  have r0 : a5 0 = nI n := by
    rw [ha5, clearR_o _ (by unfold aix; omega)]
    unfold anR
    rw [if_neg (by omega), upd_nq _ (by omega), upd_nq _ (by omega), upd_eq _ rfl]
  have r1 : a5 1 = 0 := by
    rw [ha5, clearR_o _ (by unfold aix; omega)]
    unfold anR
    rw [if_neg (by omega), upd_nq _ (by omega), upd_eq _ rfl]
  have r2 : a5 2 = 0 := by
    rw [ha5, clearR_o _ (by unfold aix; omega)]
    unfold anR
    rw [if_neg (by omega), upd_eq _ rfl]
  have hset := hv.2.1
  rw [if_neg c, if_neg one0, am_let_ap, if_neg one0, am_let_ap, hC, am_b1_some, hR, am_b1_some, a0]
  refine ⟨_, I1, rw1 Ir m a5, n, 0, 0, rfl, rfl, ⟨?_, ?_, ?_, ?_, Or.inl hA⟩, ⟨?_, ?_, ?_, ?_, ?_, ?_⟩, fun q hq => funext fun k => hd _ _ (by omega) (by omega) (by omega) (by omega) (by omega), fun q n1 _ _ => rw1_ne _ _ _ n1⟩
  · exact ⟨by omega, by omega, by omega, by omega, g2, g80, g81⟩
  · unfold IVs at *
    have : I1 (x + 1 + 1) = I (x + 1 + 1) := funext fun k => hd _ _ (by omega) (by omega) (by omega) (by omega) (by omega)
    rw [this]; exact hset
  · intro p hp1
    rw [hp 6 p (by omega) (by omega) (by omega), hp 3 p (by omega) (by omega) (by omega), hp 7 p (by omega) (by omega) (by omega), hp 4 p (by omega) (by omega) (by omega)]
    have := hset.1.1
    have := hset.1.2
    simp only [if_true, show ¬ (6 : Nat) = 3 by omega, show ¬ (6 : Nat) = 4 by omega, show ¬ (6 : Nat) = 7 by omega, show ¬ (7 : Nat) = 3 by omega, show ¬ (7 : Nat) = 4 by omega, show ¬ (4 : Nat) = 3 by omega, if_false]
    rw [zI, show (300 : Int32).toInt = 300 from rfl]
    exact ⟨by omega, by omega, by omega, by omega, show (0 : Int) ≤ 10 ∧ (10 : Int) ≤ 30 by omega⟩
  · intro k hk; omega
  · refine ⟨?_, ?_, ?_⟩
    · rw [rw1_row, r0, g2]
    · rw [rw1_row, r1, g80]
    · rw [rw1_row, r2, g81]
  · intro k hk
    rw [rw1_row, hro _ (by unfold aix; omega) (by omega) (by omega), hd _ _ (by omega) (by omega) (by omega) (by omega) (by omega)]
    exact j2 k hk
  · intro p hp1
    rw [rw1_row, hrp p 0 hp1 (by omega), hrp p 1 hp1 (by omega), hrp p 2 hp1 (by omega), hrp p 3 hp1 (by omega), hrp p 4 hp1 (by omega), hp 6 p (by omega) (by omega) (by omega), hp 5 p (by omega) (by omega) (by omega), hp 3 p (by omega) (by omega) (by omega), hp 7 p (by omega) (by omega) (by omega), hp 4 p (by omega) (by omega) (by omega)]
    exact ⟨rfl, rfl, rfl, rfl, rfl⟩
  · intro p hp1
    rw [rw1_row, hI1, ha5]
    exact clear_b _ _ _ p hp1
  · intro k hk; omega
  · rw [rw1_row, hI1, ha5]
    exact clear_a _ _ _
theorem sumC_h {I : aI} {o np : Nat} (hn : I o 0 = nI np) (h6 : np ≤ 6) : ∀ (n j : Nat), j ≤ np → np < n + j → f_X4_sum_h4 o n (smI (I (o + 1)) j) (nI j) I = some (smI (I (o + 1)) np) := by
  intro n
  induction n with
  | zero => intro j h1 h2; omega
  | succ n ih =>
    intro j h1 h2
    rw [f_X4_sum_h4, hn]
    by_cases h : np ≤ j
    · rw [if_pos (nI_le h (by omega)), show j = np by omega]
    · rw [if_neg (nI_ge (by omega) (by omega)), fw_amountOf hn h6 (by omega), am_b1_some, am_let_ap, nI_1]
      exact ih (j + 1) (by omega) (by omega)
theorem fw_sumC {I : aI} {o np : Nat} (hn : I o 0 = nI np) (h6 : np ≤ 6) : f_X4_sum o I = some (smI (I (o + 1)) np) := by
  have hF := am_F_big
  exact sumC_h hn h6 am_F 0 (by omega) (by omega)
theorem paidC_h {I : aI} {o np : Nat} (hn : I o 0 = nI np) (h6 : np ≤ 6) : ∀ (n j : Nat), j ≤ np → np < n + j → f_X4_paidByAll_h4 o n (smI (I (o + 3)) j) (nI j) I = some (smI (I (o + 3)) np) := by
  intro n
  induction n with
  | zero => intro j h1 h2; omega
  | succ n ih =>
    intro j h1 h2
    rw [f_X4_paidByAll_h4, hn]
    by_cases h : np ≤ j
    · rw [if_pos (nI_le h (by omega)), show j = np by omega]
    · rw [if_neg (nI_ge (by omega) (by omega)), fw_paidBy hn h6 (by omega), am_b1_some, am_let_ap, nI_1]
      exact ih (j + 1) (by omega) (by omega)
theorem sumR_h {Ir : aI} {f : Nat → Int32} {m np c : Nat} (hc : c < 7) (hn : Ir (m + 1) 0 = nI np) (h6 : np ≤ 6) (hf : ∀ p, p < 6 → Ir (m + 1) (16 + 7 * p + c) = f p) : ∀ (n j : Nat), j ≤ np → np < n + j → f_X7_sumOf_h4 m n (nI c) (smI f j) (nI j) Ir = some (smI f np) := by
  intro n
  induction n with
  | zero => intro j h1 h2; omega
  | succ n ih =>
    intro j h1 h2
    rw [f_X7_sumOf_h4, hn]
    by_cases h : np ≤ j
    · rw [if_pos (nI_le h (by omega)), show j = np by omega]
    · rw [if_neg (nI_ge (by omega) (by omega)), fw_of (by omega) hc, hf j (by omega), am_b1_some, am_let_ap, nI_1]
      exact ih (j + 1) (by omega) (by omega)
theorem fw_sumR {I Ir : aI} {g m nl nd np : Nat} (hw : RW I g (Ir (m + 1)) nl nd) (hn : I (g + 2) 0 = nI np) (h6 : np ≤ 6) : f_X7_sumOf m 0 Ir = some (smI (I (g + 3)) np) := by
  have hF := am_F_big
  exact sumR_h (c := 0) (by omega) (hw.1.1.trans hn) h6 (fun p hp => (hw.2.2.1 p hp).1) am_F 0 (by omega) (by omega)
theorem count_pair {I Ir : aI} {x m np nl nd : Nat} (hv : IV I (x + 1) np nl nd) (hw : RW I (x + 1) (Ir (m + 1)) nl nd) (hpad : I (x + 35) 1 = Ir m 5) (a : Int32) : ∃ r, f_X6_count x a I = some r ∧ f_X7_count m a Ir = some r := by
  have hF := am_F_big
  obtain ⟨q2, q6, q1, q12, qnp, qnl, qnd⟩ := id hv.1
  obtain ⟨⟨a0, a1, a2⟩, j2, j3, j4, j5, r3, r4, r5, r6, r7, r8, r9⟩ := id hw
  have e3 : x + 3 = x + 1 + 2 := by omega
  have e9 : x + 9 = x + 1 + 8 := by omega
  have e14 : x + 14 = x + 1 + 13 := by omega
  rw [f_X6_count, f_X7_count, e3, e9, e14]
  rcases seat_cases (a - 13) 6 (by omega) with ⟨k, hk, hak⟩ | ho
  · have ha : a = nI (13 + k) := by
      rw [← nI_add, ← hak, Int32.add_comm, show nI 13 = (13 : Int32) from rfl, Int32.sub_add_cancel]
    rw [hak, fw_isSet k hk, am_b1_some, if_neg one0, fw_settingOf hk, am_b1_some, fw_in, am_b1_some, if_pos (show a < 5 ∨ 9 < a from Or.inr (by rw [ha, show (9 : Int32) = nI 9 from rfl, nI_ltq (by omega) (by omega)]; omega)), if_pos rfl, fw_in, am_b1_some, if_neg (show ¬ (a < 13 ∨ 18 < a) by rw [ha, show (13 : Int32) = nI 13 from rfl, show (18 : Int32) = nI 18 from rfl, nI_ltq (by omega) (by omega), nI_ltq (by omega) (by omega)]; omega), if_neg one0, fw_setting hk, am_b1_some, j2 k hk]
    exact ⟨_, rfl, rfl⟩
  · have hn1 : ∀ j, 13 ≤ j → j ≤ 18 → a ≠ nI j := fun j h1 h2 z => by
      have : a - 13 = nI (j - 13) := by rw [z, show (13 : Int32) = nI 13 from rfl, nI_sub (by omega)]
      rw [this] at ho
      rcases ho with q | q
      · exact nI_pos (by omega) q
      · exact nI_ge (by omega) (by omega) q
    have h1318 : a < 13 ∨ 18 < a := in_out (lo := 13) (hi := 18) (by omega) (by omega) hn1
    rw [fw_isSetO ho, am_b1_some, if_pos rfl, fw_in, am_b1_some]
    by_cases c59 : a < 5 ∨ 9 < a
    · rw [if_pos c59, if_pos rfl, fw_in, am_b1_some, if_pos h1318, if_pos rfl]
      by_cases k0 : a = 0
      · rw [if_pos k0, if_pos k0, a0]; exact ⟨_, rfl, rfl⟩
      rw [if_neg k0, if_neg k0]
      by_cases k1 : a = 1
      · rw [if_pos k1, if_pos k1, a1]; exact ⟨_, rfl, rfl⟩
      rw [if_neg k1, if_neg k1]
      by_cases k2 : a = 2
      · rw [if_pos k2, if_pos k2, fw_next qnl qnd q12 q1, am_b1_some, fw_nextR (a1.trans qnl) (a2.trans qnd) q12 q1, am_b1_some]; exact ⟨_, rfl, rfl⟩
      rw [if_neg k2, if_neg k2]
      by_cases k3 : a = 3
      · rw [if_pos k3, if_pos k3, fw_starter hv.1, am_b1_some, fw_starterR (a0.trans qnp) (a2.trans qnd) q2 q6 (by omega), am_b1_some]; exact ⟨_, rfl, rfl⟩
      rw [if_neg k3, if_neg k3]
      by_cases k4 : a = 4
      · rw [if_pos k4, if_pos k4, fw_goesC, am_b1_some, r3]
        by_cases c : I (x + 1 + 13) 0 = -6
        · rw [if_pos c, if_pos rfl]; exact ⟨_, rfl, rfl⟩
        · rw [if_neg c, if_neg one0]; exact ⟨_, rfl, rfl⟩
      have k5 : ¬ a = 5 := fun z => by rw [z] at c59; exact absurd c59 (by decide)
      have k6 : ¬ a = 6 := fun z => by rw [z] at c59; exact absurd c59 (by decide)
      have k7 : ¬ a = 7 := fun z => by rw [z] at c59; exact absurd c59 (by decide)
      have k8 : ¬ a = 8 := fun z => by rw [z] at c59; exact absurd c59 (by decide)
      have k9 : ¬ a = 9 := fun z => by rw [z] at c59; exact absurd c59 (by decide)
      rw [if_neg k4, if_neg k4, if_neg k5, if_neg k5, if_neg k6, if_neg k6, if_neg k7, if_neg k7, if_neg k8, if_neg k8, if_neg k9, if_neg k9]
      by_cases k10 : a = 10
      · rw [if_pos k10, if_pos k10, fw_sumC qnp q6, am_b1_some, fw_sumR hw qnp q6, am_b1_some]; exact ⟨_, rfl, rfl⟩
      rw [if_neg k10, if_neg k10]
      by_cases k11 : a = 11
      · have z1 := paidC_h (o := x + 1 + 2) qnp q6 am_F 0 (by omega) (by omega)
        have z2 := sumR_h (c := 2) (m := m) (Ir := Ir) (f := I (x + 1 + 5)) (by omega) (a0.trans qnp) q6 (fun p hp => (j3 p hp).2.2.1) am_F 0 (by omega) (by omega)
        rw [if_pos k11, if_pos k11, f_X4_paidByAll, show f_X4_paidByAll_h4 (x + 1 + 2) am_F 0 0 I = _ from z1, am_b1_some, f_X7_sumOf, show f_X7_sumOf_h4 m am_F 2 0 0 Ir = _ from z2, am_b1_some]; exact ⟨_, rfl, rfl⟩
      rw [if_neg k11, if_neg k11]
      by_cases k12 : a = 12
      · rw [if_pos k12, if_pos k12, hpad]; exact ⟨_, rfl, rfl⟩
      rw [if_neg k12, if_neg k12]
      exact ⟨_, rfl, rfl⟩
    · rw [if_neg c59, if_neg one0, fw_goesR hw, am_b1_some]
      have hb := bd_of c59
      rw [show (5 : Int32).toInt = 5 from rfl, show (9 : Int32).toInt = 9 from rfl] at hb
      obtain ⟨k, hk, rfl⟩ := nI_ofI (x := a) (b := 9) ⟨by omega, hb.2⟩ (by omega)
      rw [nI_toInt (by omega)] at hb
      have hk5 : k = 5 ∨ k = 6 ∨ k = 7 ∨ k = 8 ∨ k = 9 := by omega
      have hlow : ∀ t : Nat, t < 5 → ¬ nI k = nI t := fun t ht => by rw [nI_inj (by omega) (by omega)]; omega
      rw [if_neg (show ¬ nI k = 0 from hlow 0 (by omega)), if_neg (show ¬ nI k = 1 from hlow 1 (by omega)), if_neg (show ¬ nI k = 2 from hlow 2 (by omega)), if_neg (show ¬ nI k = 3 from hlow 3 (by omega)), if_neg (show ¬ nI k = 4 from hlow 4 (by omega))]
      by_cases hm : I (x + 1 + 13) 0 = -6
      · obtain ⟨n0, n1, n2, n3, n4, n5, -⟩ := au_none hv hm
        rw [if_pos hm, if_pos rfl]
        refine ⟨-6, ?_, rfl⟩
        rcases hk5 with rfl | rfl | rfl | rfl | rfl
        · rw [if_pos (show nI 5 = (5 : Int32) from rfl), n0]
        · rw [if_neg (show ¬ nI 6 = (5 : Int32) by decide), if_pos (show nI 6 = (6 : Int32) from rfl), n2]
        · rw [if_neg (show ¬ nI 7 = (5 : Int32) by decide), if_neg (show ¬ nI 7 = (6 : Int32) by decide), if_pos (show nI 7 = (7 : Int32) from rfl), n3]
        · rw [if_neg (show ¬ nI 8 = (5 : Int32) by decide), if_neg (show ¬ nI 8 = (6 : Int32) by decide), if_neg (show ¬ nI 8 = (7 : Int32) by decide), if_pos (show nI 8 = (8 : Int32) from rfl), n4]
        · rw [if_neg (show ¬ nI 9 = (5 : Int32) by decide), if_neg (show ¬ nI 9 = (6 : Int32) by decide), if_neg (show ¬ nI 9 = (7 : Int32) by decide), if_neg (show ¬ nI 9 = (8 : Int32) by decide), if_pos (show nI 9 = (9 : Int32) from rfl), n5]
      · rw [if_neg hm, if_neg one0, f_X7_ofAuction]
        rcases hk5 with rfl | rfl | rfl | rfl | rfl
        · rw [if_pos (show nI 5 = (5 : Int32) from rfl), if_pos (show nI 5 = (5 : Int32) from rfl), am_b1_some, r4]; exact ⟨_, rfl, rfl⟩
        · rw [if_neg (show ¬ nI 6 = (5 : Int32) by decide), if_pos (show nI 6 = (6 : Int32) from rfl), if_neg (show ¬ nI 6 = (5 : Int32) by decide), if_pos (show nI 6 = (6 : Int32) from rfl), f_X7_shownPrice, r4, r6, r5]
          rcases hv.2.2.2.2 with hn | ⟨h1, hu | hu | hu⟩
          · exact absurd hn.1 hm
          · rw [hu.1, if_pos rfl, if_pos rfl, am_b1_some, am_b1_some]; exact ⟨_, rfl, rfl⟩
          · rw [hu.1, if_neg (show ¬ (1 : Int32) = 0 by decide), if_neg (show ¬ (1 : Int32) = 2 by decide), am_b1_some, am_b1_some, hu.2.2.1]; exact ⟨_, rfl, rfl⟩
          · rw [hu.1, if_neg (show ¬ (2 : Int32) = 0 by decide), if_pos rfl, if_pos rfl, am_b1_some, am_b1_some]; exact ⟨_, rfl, rfl⟩
        · rw [if_neg (show ¬ nI 7 = (5 : Int32) by decide), if_neg (show ¬ nI 7 = (6 : Int32) by decide), if_pos (show nI 7 = (7 : Int32) from rfl), if_neg (show ¬ nI 7 = (5 : Int32) by decide), if_neg (show ¬ nI 7 = (6 : Int32) by decide), if_pos (show nI 7 = (7 : Int32) from rfl), r4, r7]
          rcases hv.2.2.2.2 with hn | ⟨h1, hu | hu | hu⟩
          · exact absurd hn.1 hm
          · rw [hu.1, if_pos rfl, am_b1_some]; exact ⟨_, rfl, rfl⟩
          · rw [hu.1, if_neg (show ¬ (1 : Int32) = 0 by decide), am_b1_some, hu.2.2.2.1]; exact ⟨_, rfl, rfl⟩
          · rw [hu.1, if_neg (show ¬ (2 : Int32) = 0 by decide), am_b1_some, hu.2.2.1]; exact ⟨_, rfl, rfl⟩
        · rw [if_neg (show ¬ nI 8 = (5 : Int32) by decide), if_neg (show ¬ nI 8 = (6 : Int32) by decide), if_neg (show ¬ nI 8 = (7 : Int32) by decide), if_pos (show nI 8 = (8 : Int32) from rfl), if_neg (show ¬ nI 8 = (5 : Int32) by decide), if_neg (show ¬ nI 8 = (6 : Int32) by decide), if_neg (show ¬ nI 8 = (7 : Int32) by decide), if_pos (show nI 8 = (8 : Int32) from rfl), am_b1_some, r8]; exact ⟨_, rfl, rfl⟩
        · rw [if_neg (show ¬ nI 9 = (5 : Int32) by decide), if_neg (show ¬ nI 9 = (6 : Int32) by decide), if_neg (show ¬ nI 9 = (7 : Int32) by decide), if_neg (show ¬ nI 9 = (8 : Int32) by decide), if_pos (show nI 9 = (9 : Int32) from rfl), if_neg (show ¬ nI 9 = (5 : Int32) by decide), if_neg (show ¬ nI 9 = (6 : Int32) by decide), if_neg (show ¬ nI 9 = (7 : Int32) by decide), if_neg (show ¬ nI 9 = (8 : Int32) by decide), am_b1_some, r9, if_neg hm]; exact ⟨_, rfl, rfl⟩
