/-! PURE: what a player changes between auctions -/
theorem purse_upd {I I1 : aI} {g np nl nd p : Nat} {a a' : Nat → Int32} (hv : IV I g np nl nd) (hw : RW I g a nl nd) (hp : p < np) (h1 : ∀ q, q < g + 3 ∨ g + 8 ≤ q → I1 q = I q) (h2 : ∀ j k, 3 ≤ j → j < 8 → k ≠ p → I1 (g + j) k = I (g + j) k)
    (hA : AUn I g ∨ I1 (g + 3) = I (g + 3)) (hn : 0 ≤ (I1 (g + 6) p).toInt ∧ (I1 (g + 6) p).toInt ≤ (I1 (g + 3) p).toInt ∧ (I1 (g + 3) p).toInt ≤ (I1 (g + 7) p).toInt ∧ (I1 (g + 7) p).toInt ≤ 300 ∧ bd (I1 (g + 4) p) 0 30)
    (h3 : ∀ i, (i < 16 + 7 * p ∨ 16 + 7 * p + 5 ≤ i) → a' i = a i) (h4 : a' (16 + 7 * p + 0) = I1 (g + 3) p ∧ a' (16 + 7 * p + 1) = I1 (g + 4) p ∧ a' (16 + 7 * p + 2) = I1 (g + 5) p ∧ a' (16 + 7 * p + 3) = I1 (g + 6) p ∧ a' (16 + 7 * p + 4) = I1 (g + 7) p) : IV I1 g np nl nd ∧ RW I1 g a' nl nd := by
  obtain ⟨i1, i2, i3, i4, i5⟩ := hv
  obtain ⟨j1, j2, j3, j4, j5, j6⟩ := hw
  have hp6 : p < 6 := by have := i1.2.1; omega
  have e : ∀ j, j < 3 ∨ 8 ≤ j → I1 (g + j) = I (g + j) := fun j hj => h1 _ (by omega)
  refine ⟨⟨?_, ?_, ?_, ?_, ?_⟩, ?_, ?_, ?_, ?_, ?_, ?_⟩
  · unfold IVh at *; rw [e 2 (by omega), e 8 (by omega)]; exact i1
  · unfold IVs at *; rw [e 1 (by omega)]; exact i2
  · intro k hk
    by_cases c : k = p
    · subst c; exact hn
    · rw [h2 6 k (by omega) (by omega) c, h2 3 k (by omega) (by omega) c, h2 7 k (by omega) (by omega) c, h2 4 k (by omega) (by omega) c]; exact i3 k hk
  · unfold IVl at *; rw [e 9 (by omega), e 10 (by omega), e 11 (by omega)]; exact i4
  · rcases hA with hA | hA
    · refine Or.inl ?_
      unfold AUn at *; rw [e 13 (by omega), e 14 (by omega)]; exact hA
    · unfold AU AUn AUo AUs AUf at *
      have hb : hasB I1 g = hasB I g := by funext k; unfold hasB; rw [e 14 (by omega)]
      rw [e 13 (by omega), e 14 (by omega), e 1 (by omega), hA, hb]; exact i5
  · unfold RLh at *; rw [e 2 (by omega), e 8 (by omega), h3 _ (by omega), h3 _ (by omega), h3 _ (by omega)]; exact j1
  · intro k hk
    rw [e 1 (by omega), h3 _ (by omega)]; exact j2 k hk
  · intro k hk
    by_cases c : k = p
    · subst c; exact h4
    · rw [h2 3 k (by omega) (by omega) c, h2 4 k (by omega) (by omega) c, h2 5 k (by omega) (by omega) c, h2 6 k (by omega) (by omega) c, h2 7 k (by omega) (by omega) c, h3 _ (by omega), h3 _ (by omega), h3 _ (by omega), h3 _ (by omega), h3 _ (by omega)]; exact j3 k hk
  · intro k hk
    rw [e 13 (by omega), e 14 (by omega), h3 _ (by omega), h3 _ (by omega)]; exact j4 k hk
  · intro k hk
    rw [e 9 (by omega), e 10 (by omega), e 11 (by omega), e 12 (by omega), h3 _ (by omega), h3 _ (by omega), h3 _ (by omega), h3 _ (by omega), h3 _ (by omega)]; exact j5 k hk
  · unfold RLa at *
    rw [e 13 (by omega), h3 _ (by omega), h3 _ (by omega), h3 _ (by omega), h3 _ (by omega), h3 _ (by omega), h3 _ (by omega), h3 _ (by omega)]; exact j6
theorem embolden_pair {I Ir : aI} {x m np nl nd : Nat} (hv : IV I (x + 1) np nl nd) (hw : RW I (x + 1) (Ir (m + 1)) nl nd) (a v : Int32) : GP x m I Ir (f_X6_embolden x a v I) (f_X7_embolden m a v Ir) := by
  obtain ⟨q2, q6, q1, q12, qnp, qnl, qnd⟩ := id hv.1
  obtain ⟨⟨a0, a1, a2⟩, -, hrp, -⟩ := id hw
  have e3 : x + 3 = x + 1 + 2 := by omega
  rw [f_X6_embolden, f_X7_embolden, e3]
  rcases seat_cases a np (by omega) with ⟨p, hp, rfl⟩ | ho
  · have hp6 : p < 6 := by omega
    rw [fw_hasSeat_in qnp q6 hp, fw_isPin (a0.trans qnp) q6 hp, am_b1_some, am_b1_some, if_neg one0, if_neg one0, fw_within, am_b1_some, fw_in, am_b1_some]
    by_cases c : v < 0 ∨ 30 < v
    · rw [if_pos c, if_pos rfl, if_pos rfl]
      exact GP.same hv hw rfl rfl
    rw [if_neg c, if_neg one0, if_neg one0, f_X4_changeBoldness, fw_hasSeat_in qnp q6 hp, am_b1_some, if_neg one0, ok6 hp6, am_g_tt, am_let_ap, am_g_tt, am_let_ap, nI_tn (by omega), am_b2_some, show f_X7_of m (nI p) 1 Ir = _ from fw_of (c := 1) hp6 (by omega), (hrp p hp6).2.1, am_b1_some, show f_X7_lay m (nI p) 1 v Ir = _ from fw_lay (c := 1) v hp6 (by omega), am_b1_some]
    have hh := hv.2.2.1 p hp
    obtain ⟨r0, r1, r2, r3, r4⟩ := hrp p hp6
    obtain ⟨z1, z2⟩ := purse_upd (I1 := am_w I (x + 1 + 2 + 2) p v) (a' := am_w Ir (m + 1) (16 + 7 * p + 1) v (m + 1)) hv hw hp (fun q hq => am_w_ne _ _ (by omega)) (fun j k h3 h4 hk => am_w_nq _ _ (by omega)) (Or.inr (am_w_ne _ _ (by omega)))
      (by rw [am_w_nq _ _ (by omega), am_w_nq _ _ (by omega), am_w_nq _ _ (by omega), am_w_eq _ _ ⟨by omega, rfl⟩]; exact ⟨hh.1, hh.2.1, hh.2.2.1, hh.2.2.2.1, bd_of c⟩)
      (fun i hi => am_w_nq _ _ (by omega))
      (by
        simp (disch := omega) only [am_w_nq, am_w_eq]
        exact ⟨r0, trivial, r2, r3, r4⟩)
    exact ⟨_, _, _, np, nl, nd, rfl, rfl, z1, z2, fun q hq => am_w_ne _ _ (by omega), fun q n1 _ _ => am_w_ne _ _ n1⟩
  · rw [fw_hasSeat_out qnp ho, fw_isPout (a0.trans qnp) (by omega) q6 ho, am_b1_some, am_b1_some, if_pos rfl, if_pos rfl]
    exact GP.same hv hw rfl rfl
theorem fw_unopened {I : aI} {g np nl nd : Nat} (hv : IV I g np nl nd) : f_X1_isUnopened g I = some (if nd = 0 ∧ I (g + 13) 0 = -6 then 1 else 0) := by
  obtain ⟨q2, q6, q1, q12, qnp, qnl, qnd⟩ := id hv.1
  rw [f_X1_isUnopened, qnd, fw_goesC]
  by_cases c : nd = 0
  · subst c
    rw [if_pos (show nI 0 = (0 : Int32) from rfl), am_b1_some]
    by_cases c2 : I (g + 13) 0 = -6
    · rw [if_pos c2, if_pos rfl, if_pos ⟨rfl, c2⟩]
    · rw [if_neg c2, if_neg one0, if_neg (fun z => c2 z.2)]
  · rw [if_neg (nI_ne0 (by omega) (by omega)), if_neg (fun z => c z.1)]
theorem au_none {I : aI} {g np nl nd : Nat} (hv : IV I g np nl nd) (h : I (g + 13) 0 = -6) : AUn I g := by
  rcases hv.2.2.2.2 with hn | ⟨h1, hu | hu | hu⟩
  · exact hn
  · have := hu.1; rw [h] at this; exact absurd this (by decide)
  · have := hu.1; rw [h] at this; exact absurd this (by decide)
  · have := hu.1; rw [h] at this; exact absurd this (by decide)
theorem fill_pair {I Ir : aI} {x m np nl nd : Nat} (hv : IV I (x + 1) np nl nd) (hw : RW I (x + 1) (Ir (m + 1)) nl nd) (a v : Int32) : GP x m I Ir (f_X6_fill x a v I) (f_X7_fill m a v Ir) := by
  obtain ⟨q2, q6, q1, q12, qnp, qnl, qnd⟩ := id hv.1
  obtain ⟨⟨a0, a1, a2⟩, -, hrp, -⟩ := id hw
  have e3 : x + 3 = x + 1 + 2 := by omega
  rw [f_X6_fill, f_X7_fill, e3]
  rcases seat_cases a np (by omega) with ⟨p, hp, rfl⟩ | ho
  · have hp6 : p < 6 := by omega
    rw [fw_hasSeat_in qnp q6 hp, fw_isPin (a0.trans qnp) q6 hp, am_b1_some, am_b1_some, if_neg one0, if_neg one0, fw_within, am_b1_some, fw_in, am_b1_some]
    by_cases c : v < 0 ∨ 300 < v
    · rw [if_pos c, if_pos rfl, if_pos rfl]
      exact GP.same hv hw rfl rfl
    rw [if_neg c, if_neg one0, if_neg one0, fw_unopened hv, am_b1_some, fw_goesR hw, am_b1_some, a2, qnd]
    by_cases c2 : I (x + 1 + 13) 0 = -6
    · rw [if_pos c2, if_pos rfl]
      by_cases c3 : nd = 0
      · have hA := au_none hv c2
        rw [if_pos (show nd = 0 ∧ I (x + 1 + 13) 0 = -6 from ⟨c3, c2⟩), if_neg one0, if_pos (show nI nd ≤ (0 : Int32) by rw [c3]; decide), f_X4_fillAnew, fw_hasSeat_in qnp q6 hp, am_b1_some, if_neg one0]
        simp only [ok6 hp6, am_g_tt, am_let_ap, nI_tn (show p < 2147483648 by omega)]
        rw [am_b2_some, fw_ofAmt hw hp6, am_b1_some, show ∀ J, f_X7_lay m (nI p) 0 v J = _ from fun J => fw_lay (c := 0) (I := J) v hp6 (by omega), am_b1_some, show ∀ J, f_X7_lay m (nI p) 3 0 J = _ from fun J => fw_lay (c := 3) (I := J) 0 hp6 (by omega), am_b1_some, show ∀ J, f_X7_lay m (nI p) 4 300 J = _ from fun J => fw_lay (c := 4) (I := J) 300 hp6 (by omega), am_b1_some]
        have hh := hv.2.2.1 p hp
        obtain ⟨r0, r1, r2, r3, r4⟩ := hrp p hp6
        have hc := bd_of c
        rw [zI, show (300 : Int32).toInt = 300 from rfl] at hc
        obtain ⟨z1, z2⟩ := purse_upd (I1 := am_w (am_w (am_w I (x + 1 + 2 + 1) p v) (x + 1 + 2 + 4) p 0) (x + 1 + 2 + 5) p 300) (a' := am_w (am_w (am_w Ir (m + 1) (16 + 7 * p + 0) v) (m + 1) (16 + 7 * p + 3) 0) (m + 1) (16 + 7 * p + 4) 300 (m + 1)) hv hw hp
          (fun q hq => by rw [am_w_ne _ _ (by omega), am_w_ne _ _ (by omega), am_w_ne _ _ (by omega)]) (fun j k h3 h4 hk => by rw [am_w_nq _ _ (by omega), am_w_nq _ _ (by omega), am_w_nq _ _ (by omega)]) (Or.inl hA)
          (by
            simp (disch := omega) only [am_w_nq, am_w_eq]
            rw [zI, show (300 : Int32).toInt = 300 from rfl]
            exact ⟨by omega, by omega, by omega, by omega, hh.2.2.2.2⟩)
          (fun i hi => by rw [am_w_nq _ _ (by omega), am_w_nq _ _ (by omega), am_w_nq _ _ (by omega)])
          (by
            simp (disch := omega) only [am_w_nq, am_w_eq]
            exact ⟨trivial, r1, r2, trivial, trivial⟩)
        exact ⟨_, _, _, np, nl, nd, rfl, rfl, z1, z2, fun q hq => by rw [am_w_ne _ _ (by omega), am_w_ne _ _ (by omega), am_w_ne _ _ (by omega)], fun q n1 _ _ => by rw [am_w_ne _ _ n1, am_w_ne _ _ n1, am_w_ne _ _ n1]⟩
      · rw [if_neg (show ¬ (nd = 0 ∧ I (x + 1 + 13) 0 = -6) from fun z => c3 z.1), if_pos rfl, if_neg (nI_nle (by omega) (by omega))]
        exact GP.same hv hw rfl rfl
    · rw [if_neg c2, if_neg one0, if_neg (show ¬ (nd = 0 ∧ I (x + 1 + 13) 0 = -6) from fun z => c2 z.2), if_pos rfl]
      exact GP.same hv hw rfl rfl
  · rw [fw_hasSeat_out qnp ho, fw_isPout (a0.trans qnp) (by omega) q6 ho, am_b1_some, am_b1_some, if_pos rfl, if_pos rfl]
    exact GP.same hv hw rfl rfl
theorem ask_pair {I Ir : aI} {x m np nl nd : Nat} (hv : IV I (x + 1) np nl nd) (hw : RW I (x + 1) (Ir (m + 1)) nl nd) (a v : Int32) : GP x m I Ir (f_X6_ask x a v I) (f_X7_ask m a v Ir) := by
  obtain ⟨q2, q6, q1, q12, qnp, qnl, qnd⟩ := id hv.1
  obtain ⟨⟨a0, a1, a2⟩, -, hrp, -⟩ := id hw
  have e3 : x + 3 = x + 1 + 2 := by omega
  have e14 : x + 14 = x + 1 + 13 := by omega
  rw [f_X6_ask, f_X7_ask, e3, e14]
  rcases seat_cases a np (by omega) with ⟨p, hp, rfl⟩ | ho
  · have hp6 : p < 6 := by omega
    rw [fw_hasSeat_in qnp q6 hp, fw_isPin (a0.trans qnp) q6 hp, am_b1_some, am_b1_some, if_neg one0, if_neg one0, fw_within, am_b1_some, fw_in, am_b1_some]
    by_cases c : v < 1 ∨ 300 < v
    · rw [if_pos c, if_pos rfl, if_pos rfl]
      exact GP.same hv hw rfl rfl
    rw [if_neg c, if_neg one0, if_neg one0, fw_goesC, am_b1_some, fw_goesR hw, am_b1_some]
    by_cases c2 : I (x + 1 + 13) 0 = -6
    · have hA := au_none hv c2
      have hh := hv.2.2.1 p hp
      obtain ⟨r0, r1, r2, r3, r4⟩ := hrp p hp6
      have hc := bd_of c
      rw [show (1 : Int32).toInt = 1 from rfl, show (300 : Int32).toInt = 300 from rfl] at hc
      have hs1 : (v - 1).toInt = v.toInt - 1 := sub_toInt (by rw [show (1 : Int32).toInt = 1 from rfl]; omega) (by rw [show (1 : Int32).toInt = 1 from rfl]; omega)
      rw [if_pos c2, if_pos rfl, if_pos rfl, f_X4_question, fw_amountOf qnp q6 hp, am_b1_some, fw_ofAmt hw hp6, am_b1_some]
      have q4 : f_X7_of m (nI p) 4 Ir = some (I (x + 1 + 7) p) := by rw [show f_X7_of m (nI p) 4 Ir = _ from fw_of (c := 4) hp6 (by omega), r4]
      by_cases c3 : I (x + 1 + 3) p < v
      · have hlt := Int32.lt_iff_toInt_lt.mp c3
        rw [if_pos (show I (x + 1 + 2 + 1) p < v from c3), if_pos c3, f_X4_question_b14, if_pos rfl, f_X4_learnAtMost, fw_hasSeat_in qnp q6 hp, am_b1_some, if_neg one0, ok6 hp6, am_g_tt, nI_tn (by omega), q4, am_b1_some]
        by_cases c4 : I (x + 1 + 7) p ≤ v - 1
        · have hmin : ∀ J : aI, am_w J (m + 1) (16 + 7 * p + 4) (J (m + 1) (16 + 7 * p + 4)) = J := fun J => am_w_id _ _ _
          rw [if_pos (show I (x + 1 + 2 + 5) p ≤ v - 1 from c4), am_b1_some, am_g_of _ (by decide), am_b2_some, if_pos rfl]
          by_cases c5 : v - 1 ≤ I (x + 1 + 7) p
          · have heq : I (x + 1 + 7) p = v - 1 := by
              apply Int32.toInt_inj.mp
              have := Int32.le_iff_toInt_le.mp c4
              have := Int32.le_iff_toInt_le.mp c5
              omega
            rw [if_pos c5, show f_X7_lay m (nI p) 4 (v - 1) Ir = _ from fw_lay (c := 4) (v - 1) hp6 (by omega), am_b1_some, ← heq, ← r4, hmin]
            exact GP.same hv hw rfl rfl
          · rw [if_neg c5, am_b1_some, show f_X7_lay m (nI p) 4 (I (x + 1 + 7) p) Ir = _ from fw_lay (c := 4) _ hp6 (by omega), am_b1_some, ← r4, hmin]
            exact GP.same hv hw rfl rfl
        · have hlt4 : v - 1 ≤ I (x + 1 + 7) p := by
            have := Int32.lt_iff_toInt_lt.mp (Int32.not_le.mp c4)
            exact Int32.le_iff_toInt_le.mpr (by omega)
          rw [if_neg (show ¬ I (x + 1 + 2 + 5) p ≤ v - 1 from c4), am_g_tt, am_let_ap, am_b1_some, am_g_of _ (by decide), am_b2_some, if_pos rfl, if_pos hlt4, show f_X7_lay m (nI p) 4 (v - 1) Ir = _ from fw_lay (c := 4) (v - 1) hp6 (by omega), am_b1_some]
          have := Int32.lt_iff_toInt_lt.mp (Int32.not_le.mp c4)
          obtain ⟨z1, z2⟩ := purse_upd (I1 := am_w I (x + 1 + 2 + 5) p (v - 1)) (a' := am_w Ir (m + 1) (16 + 7 * p + 4) (v - 1) (m + 1)) hv hw hp (fun q hq => am_w_ne _ _ (by omega)) (fun j k h3 h4 hk => am_w_nq _ _ (by omega)) (Or.inl hA)
            (by
              simp (disch := omega) only [am_w_nq, am_w_eq]
              rw [hs1]
              exact ⟨hh.1, hh.2.1, by omega, by omega, hh.2.2.2.2⟩)
            (fun i hi => am_w_nq _ _ (by omega))
            (by
              simp (disch := omega) only [am_w_nq, am_w_eq]
              exact ⟨r0, r1, r2, r3, trivial⟩)
          exact ⟨_, _, _, np, nl, nd, rfl, rfl, z1, z2, fun q hq => am_w_ne _ _ (by omega), fun q n1 _ _ => am_w_ne _ _ n1⟩
      · have hge := Int32.le_iff_toInt_le.mp (Int32.not_lt.mp c3)
        rw [if_neg (show ¬ I (x + 1 + 2 + 1) p < v from c3), if_neg c3, f_X4_question_b14, if_neg one0, fw_learn v qnp q6 hp, am_b1_some, am_g_of _ (by decide), am_b2_some, if_neg one0, fw_know v hp6, am_b1_some]
        obtain ⟨z1, z2⟩ := purse_upd (I1 := am_w I (x + 1 + 2 + 4) p (mxI (I (x + 1 + 2 + 4) p) v)) (a' := rw1 Ir m (upd (Ir (m + 1)) (16 + 7 * p + 3) (mxI (Ir (m + 1) (16 + 7 * p + 3)) v)) (m + 1)) hv hw hp (fun q hq => am_w_ne _ _ (by omega)) (fun j k h3 h4 hk => am_w_nq _ _ (by omega)) (Or.inl hA)
          (by
            simp (disch := omega) only [am_w_nq, am_w_eq]
            rw [mxI_toInt, show x + 1 + 2 + 4 = x + 1 + 6 by omega]
            refine ⟨?_, ?_, hh.2.2.1, hh.2.2.2.1, hh.2.2.2.2⟩
            · split <;> omega
            · split <;> omega)
          (fun i hi => by rw [rw1_row]; exact upd_nq _ (by omega))
          (by
            rw [rw1_row]
            simp (disch := omega) only [am_w_nq, am_w_eq, upd_nq, upd_eq]
            rw [r3]
            exact ⟨r0, r1, r2, rfl, r4⟩)
        exact ⟨_, _, _, np, nl, nd, rfl, rfl, z1, z2, fun q hq => am_w_ne _ _ (by omega), fun q n1 _ _ => rw1_ne _ _ _ n1⟩
    · rw [if_neg c2, if_neg one0, if_neg one0]
      exact GP.same hv hw rfl rfl
  · rw [fw_hasSeat_out qnp ho, fw_isPout (a0.trans qnp) (by omega) q6 ho, am_b1_some, am_b1_some, if_pos rfl, if_pos rfl]
    exact GP.same hv hw rfl rfl
theorem fw_hasLotA {o : Nat} {I : aI} (a : Int32) : f_X2_hasLot o a I = some (if a < 0 ∨ I o 0 ≤ a then 0 else 1) := by
  rw [f_X2_hasLot]
  by_cases h1 : a < 0
  · rw [if_pos h1, if_pos (Or.inl h1)]
  · rw [if_neg h1]
    by_cases h2 : I o 0 ≤ a
    · rw [if_pos h2, if_pos (Or.inr h2)]
    · rw [if_neg h2, if_neg (fun z => z.elim h1 h2)]
theorem about_pair {I Ir : aI} {x m np nl nd : Nat} (hv : IV I (x + 1) np nl nd) (hw : RW I (x + 1) (Ir (m + 1)) nl nd) (a k : Int32) : ∃ r, f_X6_about x a k I = some r ∧ f_X7_about m a k Ir = some r := by
  obtain ⟨q2, q6, q1, q12, qnp, qnl, qnd⟩ := id hv.1
  obtain ⟨⟨a0, a1, a2⟩, -, -, -, hrl, -⟩ := id hw
  have e9 : x + 9 = x + 1 + 8 := by omega
  rw [f_X6_about, f_X7_about, e9, fw_hasLotA, am_b1_some, qnl, fw_in, am_b1_some, a1, qnl]
  rcases seat_cases a nl (by omega) with ⟨j, hj, rfl⟩ | ho
  · have hj1 : ¬ (nI j < 0 ∨ nI nl ≤ nI j) := by rw [nI_neg j (by omega), false_or]; exact nI_ge (by omega) (by omega)
    have hj2 : ¬ (nI j < 0 ∨ nI nl - 1 < nI j) := by rw [nI_neg j (by omega), false_or, show (1 : Int32) = nI 1 from rfl, nI_sub (by omega), nI_ltq (by omega) (by omega)]; omega
    have hl1 : f_X2_hasLot (x + 1 + 8) (nI j) I = some 1 := fw_hasLot qnl q12 hj
    obtain ⟨r0, r1, r2, r3, r4⟩ := hrl j hj
    rw [if_neg hj1, if_neg one0, if_neg hj2, if_neg one0, fw_in, am_b1_some]
    by_cases k0 : k = 0
    · subst k0
      rw [if_pos rfl, if_neg (by decide), f_X2_colourOf, hl1, am_b1_some, if_neg one0, ok12 (by omega), am_g_tt, nI_tn (by omega), am_b1_some, show f_X7_ofLot m (nI j) 0 Ir = _ from fw_ofLot (c := 0) (by omega) (by omega), am_b1_some, r0]
      exact ⟨_, rfl, rfl⟩
    rw [if_neg k0]
    by_cases k1 : k = 1
    · subst k1
      rw [if_pos rfl, if_neg (by decide), f_X2_worthOf, hl1, am_b1_some, if_neg one0, ok12 (by omega), am_g_tt, nI_tn (by omega), am_b1_some, show f_X7_ofLot m (nI j) 1 Ir = _ from fw_ofLot (c := 1) (by omega) (by omega), am_b1_some, r1]
      exact ⟨_, rfl, rfl⟩
    rw [if_neg k1]
    have hown : f_X2_ownersOf (x + 1 + 8) (nI j) I = some (I (x + 1 + 11) j) := by
      rw [f_X2_ownersOf, hl1, am_b1_some, if_neg one0, ok12 (by omega), am_g_tt, nI_tn (by omega)]
    by_cases k2 : k = 2
    · subst k2
      rw [if_pos rfl, if_neg (by decide), hown, am_b1_some, show f_X7_ofLot m (nI j) 2 Ir = _ from fw_ofLot (c := 2) (by omega) (by omega), am_b1_some, r2]
      exact ⟨_, rfl, rfl⟩
    rw [if_neg k2]
    by_cases k3 : k = 3
    · subst k3
      rw [if_pos rfl, if_neg (by decide), f_X2_priceOf, hl1, am_b1_some, if_neg one0, ok12 (by omega), am_g_tt, nI_tn (by omega), show f_X7_ofLot m (nI j) 3 Ir = _ from fw_ofLot (c := 3) (by omega) (by omega), am_b1_some, r3]
      by_cases c : I (x + 1 + 11) j = 0
      · rw [if_pos (show I (x + 1 + 8 + 3) j = 0 from c), am_b1_some, if_neg (fun z => z.2 c)]
        exact ⟨_, rfl, rfl⟩
      · have hjd : j < nd := by
          rcases Nat.lt_or_ge j nd with z | z
          · exact z
          · exact absurd ((hv.2.2.2.1 j hj).2.2.2 z) c
        rw [if_neg (show ¬ I (x + 1 + 8 + 3) j = 0 from c), am_g_tt, am_b1_some, if_pos ⟨hjd, c⟩]
        exact ⟨_, rfl, rfl⟩
    rw [if_neg k3]
    by_cases k4 : k = 4
    · subst k4
      rw [if_pos rfl, if_neg (by decide), f_X2_stateOf, qnd, show f_X7_ofLot m (nI j) 4 Ir = _ from fw_ofLot (c := 4) (by omega) (by omega), am_b1_some, r4]
      by_cases c1 : j < nd
      · rw [if_pos (nI_lt c1 (by omega)), if_pos c1, hown, am_b1_some]
        by_cases c : I (x + 1 + 11) j = 0
        · rw [if_pos c, if_pos c]; exact ⟨_, rfl, rfl⟩
        · rw [if_neg c, if_neg c]; exact ⟨_, rfl, rfl⟩
      · rw [if_neg (nI_nlt (by omega) (by omega)), if_neg c1]; exact ⟨_, rfl, rfl⟩
    have hk : k < 0 ∨ 4 < k := by
      rcases seat_cases k 5 (by omega) with ⟨i, hi, rfl⟩ | q | q
      · match i, hi with
        | 0, _ => exact absurd rfl k0
        | 1, _ => exact absurd rfl k1
        | 2, _ => exact absurd rfl k2
        | 3, _ => exact absurd rfl k3
        | 4, _ => exact absurd rfl k4
      · exact Or.inl q
      · refine Or.inr (Int32.lt_iff_toInt_lt.mpr ?_)
        have := Int32.le_iff_toInt_le.mp q
        rw [show (nI 5).toInt = 5 from rfl] at this
        rw [show (4 : Int32).toInt = 4 from rfl]
        omega
    rw [if_neg k4, if_pos hk, if_pos rfl]
    exact ⟨_, rfl, rfl⟩
  · have ho2 : a < 0 ∨ nI nl - 1 < a := by
      refine ho.imp id (fun q => Int32.lt_iff_toInt_lt.mpr ?_)
      have := Int32.le_iff_toInt_le.mp q
      rw [sub_toInt (by rw [nI_toInt (by omega)]; rw [show (1 : Int32).toInt = 1 from rfl]; omega) (by rw [nI_toInt (by omega)]; rw [show (1 : Int32).toInt = 1 from rfl]; omega), show (1 : Int32).toInt = 1 from rfl]
      omega
    rw [if_pos ho, if_pos rfl, if_pos ho2, if_pos rfl]
    exact ⟨_, rfl, rfl⟩
theorem lot_pair {I Ir : aI} {x m np nl nd : Nat} (hv : IV I (x + 1) np nl nd) (hw : RW I (x + 1) (Ir (m + 1)) nl nd) (a v : Int32) : GP x m I Ir (f_X6_lot x a v I) (f_X7_lot m a v Ir) := by
  obtain ⟨q2, q6, q1, q12, qnp, qnl, qnd⟩ := id hv.1
  obtain ⟨⟨a0, a1, a2⟩, j2, j3, j4, j5, j6⟩ := id hw
  have e9 : x + 9 = x + 1 + 8 := by omega
  rw [f_X6_lot, f_X7_lot, e9, fw_within, am_b1_some, fw_in, am_b1_some]
  by_cases c1 : a < 0 ∨ 5 < a
  · rw [if_pos c1, if_pos rfl, if_pos rfl]
    exact GP.same hv hw rfl rfl
  rw [if_neg c1, if_neg one0, if_neg one0, fw_within, am_b1_some, fw_in, am_b1_some]
  by_cases c2 : v < 1 ∨ 50 < v
  · rw [if_pos c2, if_pos rfl, if_pos rfl]
    exact GP.same hv hw rfl rfl
  rw [if_neg c2, if_neg one0, if_neg one0, a1, f_X2_areFull, qnl]
  by_cases c3 : nl = 12
  · subst c3
    rw [if_neg (by decide), am_b1_some, if_neg one0, if_pos (show nI 12 = (12 : Int32) from rfl)]
    exact GP.same hv hw rfl rfl
  have hful : f_X2_areFull (x + 1 + 8) I = some 0 := by rw [f_X2_areFull, qnl, if_pos (show nI nl < 12 from nI_lt (b := 12) (by omega) (by omega))]
  rw [if_pos (show nI nl < 12 from nI_lt (b := 12) (by omega) (by omega)), am_b1_some, if_pos rfl, if_neg (show ¬ nI nl = 12 by rw [show (12 : Int32) = nI 12 from rfl, nI_inj (by omega) (by omega)]; exact c3), fw_unopened hv, am_b1_some, fw_goesR hw, am_b1_some, a2, qnd]
  by_cases c4 : I (x + 1 + 13) 0 = -6
  · rw [if_pos c4, if_pos (show (0 : Int32) = 0 from rfl)]
    by_cases c5 : nd = 0
    · have hA := au_none hv c4
      rw [if_pos (show nd = 0 ∧ I (x + 1 + 13) 0 = -6 from ⟨c5, c4⟩), if_neg one0, if_pos (show nI nd ≤ (0 : Int32) by rw [c5]; decide), f_X2_add, hful, am_b1_some, if_pos rfl]
      obtain ⟨ca, hca, hcaI⟩ : ∃ c, c < 6 ∧ a = nI c := by
        rcases seat_cases a 6 (by omega) with z | q | q
        · exact z
        · exact absurd (Or.inl q) c1
        · refine absurd (Or.inr (Int32.lt_iff_toInt_lt.mpr ?_)) c1
          have := Int32.le_iff_toInt_le.mp q
          rw [show (nI 6).toInt = 6 from rfl] at this
          rw [show (5 : Int32).toInt = 5 from rfl]
          omega
      have hnlt : nl < 12 := by omega
      simp (disch := omega) only [am_w_nq, am_w_eq, qnl, ok12 hnlt, am_g_tt, am_let_ap, nI_tn (show nl < 2147483648 by omega), nI_1]
      simp (disch := omega) only [show ∀ v J, f_X7_layLot m (nI nl) 0 v J = _ from fun v J => fw_layLot (c := 0) (I := J) v hnlt (by omega), show ∀ v J, f_X7_layLot m (nI nl) 1 v J = _ from fun v J => fw_layLot (c := 1) (I := J) v hnlt (by omega), show ∀ v J, f_X7_layLot m (nI nl) 2 v J = _ from fun v J => fw_layLot (c := 2) (I := J) v hnlt (by omega), show ∀ v J, f_X7_layLot m (nI nl) 3 v J = _ from fun v J => fw_layLot (c := 3) (I := J) v hnlt (by omega), show ∀ v J, f_X7_layLot m (nI nl) 4 v J = _ from fun v J => fw_layLot (c := 4) (I := J) v hnlt (by omega), am_b1_some, am_b2_some]
      have er : nI (nl + 1) - 1 = nI nl := by rw [show (1 : Int32) = nI 1 from rfl, nI_sub (by omega)]; rfl
      rw [er]
      obtain ⟨I1, hI1⟩ : ∃ I1, I1 = am_w (am_w (am_w (am_w (am_w I (x + 1 + 8 + 1) nl a) (x + 1 + 8 + 2) nl v) (x + 1 + 8 + 3) nl 0) (x + 1 + 8 + 4) nl 0) (x + 1 + 8) 0 (nI (nl + 1)) := ⟨_, rfl⟩
      obtain ⟨Ir1, hIr1⟩ : ∃ Ir1, Ir1 = am_w (am_w (am_w (am_w (am_w (am_w Ir (m + 1) 1 (nI (nl + 1))) (m + 1) (58 + 5 * nl + 0) a) (m + 1) (58 + 5 * nl + 1) v) (m + 1) (58 + 5 * nl + 2) 0) (m + 1) (58 + 5 * nl + 3) (-6)) (m + 1) (58 + 5 * nl + 4) 0 := ⟨_, rfl⟩
      have hrd : ∀ q k, ¬ (q = x + 9 ∧ k = 0) → ¬ (k = nl ∧ x + 10 ≤ q ∧ q ≤ x + 13) → I1 q k = I q k := fun q k h1 h2 => by
        rw [hI1, am_w_nq _ _ (by omega), am_w_nq _ _ (by omega), am_w_nq _ _ (by omega), am_w_nq _ _ (by omega), am_w_nq _ _ (by omega)]
      have har : ∀ i, i ≠ 1 → ¬ (58 + 5 * nl ≤ i ∧ i < 58 + 5 * nl + 5) → Ir1 (m + 1) i = Ir (m + 1) i := fun i h1 h2 => by
        rw [hIr1, am_w_nq _ _ (by omega), am_w_nq _ _ (by omega), am_w_nq _ _ (by omega), am_w_nq _ _ (by omega), am_w_nq _ _ (by omega), am_w_nq _ _ (by omega)]
      have hrow : ∀ j, j ≠ 8 → ¬ (9 ≤ j ∧ j ≤ 12) → I1 (x + 1 + j) = I (x + 1 + j) := fun j h1 h2 => funext fun k => hrd _ _ (by omega) (by omega)
      have g9 : I1 (x + 1 + 9) nl = a := by rw [hI1]; simp (disch := omega) only [am_w_nq, am_w_eq]
      have g10 : I1 (x + 1 + 10) nl = v := by rw [hI1]; simp (disch := omega) only [am_w_nq, am_w_eq]
      have g11 : I1 (x + 1 + 11) nl = 0 := by rw [hI1]; simp (disch := omega) only [am_w_nq, am_w_eq]
      have g8 : I1 (x + 1 + 8) 0 = nI (nl + 1) := by rw [hI1]; simp (disch := omega) only [am_w_nq, am_w_eq]
      have t0 : Ir1 (m + 1) (58 + 5 * nl + 0) = a := by rw [hIr1]; simp (disch := omega) only [am_w_nq, am_w_eq]
      have t1 : Ir1 (m + 1) (58 + 5 * nl + 1) = v := by rw [hIr1]; simp (disch := omega) only [am_w_nq, am_w_eq]
      have t2 : Ir1 (m + 1) (58 + 5 * nl + 2) = 0 := by rw [hIr1]; simp (disch := omega) only [am_w_nq, am_w_eq]
      have t3 : Ir1 (m + 1) (58 + 5 * nl + 3) = -6 := by rw [hIr1]; simp (disch := omega) only [am_w_nq, am_w_eq]
      have t4 : Ir1 (m + 1) (58 + 5 * nl + 4) = 0 := by rw [hIr1]; simp (disch := omega) only [am_w_nq, am_w_eq]
      have t5 : Ir1 (m + 1) 1 = nI (nl + 1) := by rw [hIr1]; simp (disch := omega) only [am_w_nq, am_w_eq]
      obtain ⟨i1, i2, i3, i4, i5⟩ := id hv
      refine ⟨nI nl, I1, Ir1, np, nl + 1, nd, by rw [hI1], by rw [hIr1], ⟨?_, ?_, ?_, ?_, Or.inl ?_⟩, ⟨?_, ?_, ?_, ?_, ?_, ?_⟩, fun q hq => funext fun k => hrd _ _ (by omega) (by omega), fun q n1 _ _ => by rw [hIr1, am_w_ne _ _ n1, am_w_ne _ _ n1, am_w_ne _ _ n1, am_w_ne _ _ n1, am_w_ne _ _ n1, am_w_ne _ _ n1]⟩
      · exact ⟨q2, q6, by omega, by omega, by rw [hrow 2 (by omega) (by omega)]; exact qnp, g8, by rw [hrd _ _ (by omega) (by omega)]; exact qnd⟩
      · unfold IVs at *; rw [hrow 1 (by omega) (by omega)]; exact i2
      · unfold IVp at *; rw [hrow 3 (by omega) (by omega), hrow 4 (by omega) (by omega), hrow 6 (by omega) (by omega), hrow 7 (by omega) (by omega)]; exact i3
      · intro k hk
        by_cases c : k = nl
        · subst c
          rw [g9, g10, g11]
          exact ⟨⟨ca, hca, hcaI⟩, bd_of c2, ⟨0, by omega, rfl⟩, fun _ => rfl⟩
        · rw [hrd (x + 1 + 9) k (by omega) (by omega), hrd (x + 1 + 10) k (by omega) (by omega), hrd (x + 1 + 11) k (by omega) (by omega)]
          exact i4 k (by omega)
      · unfold AUn at *; rw [hrow 13 (by omega) (by omega), hrow 14 (by omega) (by omega)]; exact hA
      · refine ⟨?_, ?_, ?_⟩
        · rw [har 0 (by omega) (by omega), hrow 2 (by omega) (by omega)]; exact a0
        · rw [t5, g8]
        · rw [har 2 (by omega) (by omega), hrd _ _ (by omega) (by omega)]; exact a2
      · intro k hk; rw [har _ (by omega) (by omega), hrow 1 (by omega) (by omega)]; exact j2 k hk
      · intro k hk; rw [har _ (by omega) (by omega), har _ (by omega) (by omega), har _ (by omega) (by omega), har _ (by omega) (by omega), har _ (by omega) (by omega), hrow 3 (by omega) (by omega), hrow 4 (by omega) (by omega), hrow 5 (by omega) (by omega), hrow 6 (by omega) (by omega), hrow 7 (by omega) (by omega)]; exact j3 k hk
      · intro k hk; rw [har _ (by omega) (by omega), har _ (by omega) (by omega), hrow 13 (by omega) (by omega), hrow 14 (by omega) (by omega)]; exact j4 k hk
      · intro k hk
        by_cases c : k = nl
        · subst c
          rw [t0, t1, t2, t3, t4, g9, g10, g11]
          refine ⟨rfl, rfl, rfl, ?_, ?_⟩
          · rw [if_neg (fun z => z.2 rfl)]
          · rw [if_neg (by omega)]
        · rw [hrd (x + 1 + 9) k (by omega) (by omega), hrd (x + 1 + 10) k (by omega) (by omega), hrd (x + 1 + 11) k (by omega) (by omega), hrd (x + 1 + 12) k (by omega) (by omega), har _ (by omega) (by omega), har _ (by omega) (by omega), har _ (by omega) (by omega), har _ (by omega) (by omega), har _ (by omega) (by omega)]
          exact j5 k (by omega)
      · unfold RLa at *
        rw [har _ (by omega) (by omega), har _ (by omega) (by omega), har _ (by omega) (by omega), har _ (by omega) (by omega), har _ (by omega) (by omega), har _ (by omega) (by omega), har _ (by omega) (by omega), hrow 13 (by omega) (by omega)]
        exact j6
    · rw [if_neg (show ¬ (nd = 0 ∧ I (x + 1 + 13) 0 = -6) from fun z => c5 z.1), if_pos rfl, if_neg (nI_nle (by omega) (by omega))]
      exact GP.same hv hw rfl rfl
  · rw [if_neg c4, if_neg one0, if_neg (show ¬ (nd = 0 ∧ I (x + 1 + 13) 0 = -6) from fun z => c4 z.2), if_pos rfl]
    exact GP.same hv hw rfl rfl
