/-! PURE: acts of OPEN and FALLING auctions -/
theorem PO.of {I Ir Ib Irb I1 Ir1 : aI} {g m np nl : Nat} {r : Int32} (h : PO Ib Irb g m np nl r I1 Ir1) (h1 : frC g I Ib) (h2 : frR m Ir Irb) : PO I Ir g m np nl r I1 Ir1 := by
  obtain ⟨nd1, q1, q2, q3, q4⟩ := h
  exact ⟨nd1, q1, q2, h1.tr q3, h2.tr q4⟩
def leastV (I : aI) (g : Nat) : Int32 := if I (g + 13) 3 = -6 then I (g + 13) 1 else I (g + 13) 2 + I (g + 1) 1
theorem fw_leastC (I : aI) (g : Nat) : f_X1_leastRaise g I = some (leastV I g) := by
  rw [f_X1_leastRaise, leastV, show f_X1_settingOf g 1 I = _ from fw_settingOf (k := 1) (by omega), am_b1_some]
  split <;> rfl
theorem n6I : (-6 : Int32).toInt = -6 := rfl
theorem fw_leastR {I Ir : aI} {g m np nl nd : Nat} (hnp6 : np ≤ 6) (hu : AUo I g np) (h2 : RW I g (Ir (m + 1)) nl nd) : f_X7_leastOpen m Ir = some (leastV I g) := by
  obtain ⟨h0, -, -, -, -, -, hl⟩ := hu
  obtain ⟨-, hs, -, -, -, -, -, r5, r6, -⟩ := h2
  rw [h0, if_pos rfl] at r6
  rw [h0, if_neg (by decide)] at r5
  rw [f_X7_leastOpen, r6, leastV, r5, show f_X7_setting m 1 Ir = _ from fw_setting (k := 1) (by omega), hs 1 (by omega), am_b1_some]
  rcases hl with ⟨l3, l2⟩ | ⟨x, hx, l3, l2a, l2b⟩
  · rw [l2, if_neg (by decide), if_pos l3]
  · rw [if_pos (Int32.le_iff_toInt_le.mpr (by rw [zI]; omega)), if_neg (by
      rw [l3, nI_n6 x (by omega)]
      exact fun h => h)]
theorem fw_noteBid {o p : Nat} {I : aI} (v : Int32) (hp : p < 6) : f_X0_noteBid o (nI p) v I = some (am_w (am_w I (o + 1) p v) o 5 (I o 5 + 1)) := by
  have e5 : (5 : Int32) = nI 5 := rfl
  rw [f_X0_noteBid, fw_within, am_b1_some]
  rw [if_neg (show ¬ (nI p < 0 ∨ (5 : Int32) < nI p) by rw [nI_neg p (by omega), e5, nI_ltq (by omega) (by omega), false_or]; omega), if_neg one0]
  simp only [ok6 hp, am_g_tt, nI_tn (show p < 2147483648 by omega), am_let_ap]
  rw [am_w_nq I v (show ¬ (o = o + 1 ∧ 5 = p) by omega)]
theorem open_bid {I Ir : aI} {g m np nl nd t : Nat} {v : Int32} (hv : IV I g np nl nd) (hw : RW I g (Ir (m + 1)) nl nd) (hu : AUo I g np) (h1 : nd + 1 < nl) (ht : t < np) (htn : I (g + 13) 4 = nI t) (hlo : (leastV I g).toInt ≤ v.toInt) (hhi : v.toInt ≤ (I (g + 3) t).toInt) :
    ∃ r Ia I1 Ir1, Ia (g + 13) 0 = 0 ∧ f_X1_raise g (nI t) v I = some (-6, Ia) ∧ f_X1_settle g Ia = some (r, I1) ∧ f_X7_bidOpen m (nI t) v Ir = some (r, Ir1) ∧ PO I Ir g m np nl r I1 Ir1 ∧ pg g nd I I1 := by
  have hco := co_of hv hw
  have hh := hv.1
  obtain ⟨q2, q6, q1, q12, qnp, qnl, qnd⟩ := hh
  have ht6 : t < 6 := by omega
  obtain ⟨h0, hrs, hwn, ⟨t', ht', htn', hto, htl⟩, ⟨b, hbn, hbs⟩, ⟨w, hw6, how⟩, hld⟩ := id hu
  obtain ⟨-, hset, hrp, hb, -, r3, r4, r5, r6, r7, r8, r9⟩ := id hw
  rw [h0] at r3 r4 r5 r6 r9
  rw [if_neg (by decide)] at r3 r5 r9
  rw [if_pos rfl] at r6
  have hst40 : (I (g + 1) 2).toInt ≤ 40 := hv.2.1.2.2.1.2
  have hlV : 1 ≤ v.toInt := by
    have hr1 := hrs.1
    have hs1 := hv.2.1.2.1
    unfold leastV at hlo
    rcases hld with ⟨l3, l2⟩ | ⟨x, hx, l3, l2a, l2b⟩
    · rw [if_pos l3] at hlo; omega
    · rw [if_neg (by rw [l3, nI_n6 x (by omega)]; exact fun h => h)] at hlo
      have hpx := hv.2.2.1 x hx
      rw [add_toInt (by have := hs1.1; omega) (by have := hs1.2; omega)] at hlo
      have := hs1.1
      omega
  -- the class
  obtain ⟨Ib, hIb⟩ : ∃ Ib, Ib = am_w (am_w (am_w (am_w (am_w I (g + 14) t v) (g + 13) 5 (nI (b + 1))) (g + 13) 2 v) (g + 13) 3 (nI t)) (g + 6) t (mxI (I (g + 6) t) v) := ⟨_, rfl⟩
  have hrd : ∀ q k, Ib q k = if q = g + 6 ∧ k = t then mxI (I (g + 6) t) v else if q = g + 13 ∧ k = 3 then nI t else if q = g + 13 ∧ k = 2 then v else if q = g + 13 ∧ k = 5 then nI (b + 1) else if q = g + 14 ∧ k = t then v else I q k := fun q k => by rw [hIb]; rfl
  have hraise : f_X1_raise g (nI t) v I = am_b1 (f_X1_turnBehind g (nI t) Ib) fun I10 => some (-6, I10) := by
    have hlt1 : ¬ (v < leastV I g ∨ I (g + 3) t < v) := by
      rintro (q | q)
      · have := Int32.lt_iff_toInt_lt.mp q; omega
      · have := Int32.lt_iff_toInt_lt.mp q; omega
    rw [f_X1_raise, htn, if_pos rfl, fw_leastC, am_b1_some, fw_amountOf qnp q6 ht, am_b1_some, fw_within, am_b1_some]
    rw [show I (g + 2 + 1) t = I (g + 3) t from rfl, if_neg hlt1, if_neg one0, fw_noteBid v ht6, am_b1_some, am_let_ap, am_let_ap, hbn, nI_1, fw_learn v (by rw [am_w_ne _ _ (by omega), am_w_ne _ _ (by omega), am_w_ne _ _ (by omega), am_w_ne _ _ (by omega)]; exact qnp) q6 ht, am_b1_some]
    rw [am_w_ne _ _ (show g + 2 + 4 ≠ g + 13 by omega), am_w_ne _ _ (show g + 2 + 4 ≠ g + 13 by omega), am_w_ne _ _ (show g + 2 + 4 ≠ g + 13 by omega), am_w_ne _ _ (show g + 2 + 4 ≠ g + 13 + 1 by omega), hIb]
  -- the reference
  obtain ⟨a5, ha5⟩ : ∃ a5, a5 = upd (upd (upd (upd (upd (Ir (m + 1)) (16 + 7 * t + 3) (mxI (Ir (m + 1) (16 + 7 * t + 3)) v)) (16 + 7 * t + 5) v) 6 v) 7 (nI t)) 9 (nI (b + 1)) := ⟨_, rfl⟩
  have hbo : f_X7_bidOpen m (nI t) v Ir = am_b2 (f_X7_goOn m (nI t) (rw1 Ir m a5)) fun r6 I6 => some (r6, I6) := by
    rw [f_X7_bidOpen, fw_know v ht6, am_b1_some, show f_X7_lay m (nI t) 5 v _ = _ from fw_lay (c := 5) v ht6 (by omega), am_b1_some, am_let_ap, am_let_ap, am_let_ap]
    simp (disch := omega) only [am_w_rw1, rw1_rw1, rw1_row, upd_nq, r9, hbn, nI_1, ha5]
  have hard : ∀ i, a5 i = if i = 9 then nI (b + 1) else if i = 7 then nI t else if i = 6 then v else if i = 16 + 7 * t + 5 then v else if i = 16 + 7 * t + 3 then mxI (Ir (m + 1) (16 + 7 * t + 3)) v else Ir (m + 1) i := fun i => by rw [ha5]; rfl
  have hcb : CO Ib g np nl nd (rw1 Ir m a5 (m + 1)) := by
    rw [rw1_row]
    refine co_auc (co_know hco ht hhi) (fun q n1 n2 => ?_) (fun i hi => ?_)
    · funext k
      rw [hrd, if_neg (show ¬ (q = g + 13 ∧ k = 3) by omega), if_neg (show ¬ (q = g + 13 ∧ k = 2) by omega), if_neg (show ¬ (q = g + 13 ∧ k = 5) by omega), if_neg (show ¬ (q = g + 14 ∧ k = t) by omega)]
      rfl
    · unfold aix at hi
      rw [hard, if_neg (by omega), if_neg (by omega), if_neg (by omega), if_neg (by omega)]
      rfl
  have f1 : frC g I Ib := by rw [hIb]; exact ((((frC.rf.w (by omega)).w (by omega)).w (by omega)).w (by omega)).w (by omega)
  have g0 : Ib (g + 13) 0 = I (g + 13) 0 := by rw [hrd]; simp
  have g1 : Ib (g + 13) 1 = I (g + 13) 1 := by rw [hrd]; simp
  have g2 : Ib (g + 13) 2 = v := by rw [hrd]; simp
  have g3 : Ib (g + 13) 3 = nI t := by rw [hrd]; simp
  have g5 : Ib (g + 13) 5 = nI (b + 1) := by rw [hrd]; simp
  have g6 : Ib (g + 13) 6 = I (g + 13) 6 := by rw [hrd]; simp
  have g7 : Ib (g + 13) 7 = I (g + 13) 7 := by rw [hrd]; simp
  have g12 : Ib (g + 1) 2 = I (g + 1) 2 := by rw [hrd]; simp
  have gam : Ib (g + 3) t = I (g + 3) t := by rw [hrd]; simp
  obtain ⟨r, I', I1, Ir1, z0, z1, z2, z3, z4, z5⟩ := turn_pair (Ir := rw1 Ir m a5) (t := t) (b := b + 1) (w := w) hcb h1 ht (g0.trans h0) (by rw [g1]; exact hrs) (g7.trans hwn) g5 (by rw [g12]; omega) (g6.trans how) hw6 (Or.inr ⟨t, ht, g3, by rw [g2]; exact hlV, by rw [g2, gam]; exact hhi⟩)
    (fun p hp => by
      rw [rw1_row, hard, hard, g6, hrd]
      obtain ⟨b5, b6⟩ := hb p hp
      refine ⟨?_, ?_⟩
      · by_cases e : p = t
        · subst e
          rw [if_neg (by omega), if_neg (by omega), if_neg (by omega), if_pos rfl, if_neg (by omega), if_neg (by omega), if_neg (by omega), if_neg (by omega), if_pos ⟨rfl, rfl⟩]
        · rw [if_neg (by omega), if_neg (by omega), if_neg (by omega), if_neg (by omega), if_neg (by omega), if_neg (by omega), if_neg (by omega), if_neg (by omega), if_neg (by omega), if_neg (by omega)]
          exact b5
      · rw [if_neg (by omega), if_neg (by omega), if_neg (by omega), if_neg (by omega), if_neg (by omega)]
        exact b6)
    (by rw [rw1_row, hard, if_neg (by omega), if_neg (by omega), if_neg (by omega), if_neg (by omega), if_neg (by omega)]; exact r3) (by rw [rw1_row, hard, if_neg (by omega), if_neg (by omega), if_neg (by omega), if_neg (by omega), if_neg (by omega)]; exact r4) (by rw [rw1_row, hard, g1, if_neg (by omega), if_neg (by omega), if_neg (by omega), if_neg (by omega), if_neg (by omega)]; exact r5) (by rw [rw1_row, hard, g2]; simp) (by rw [rw1_row, hard, g3]; simp) (by rw [rw1_row, hard, g5]; simp)
  refine ⟨r, I', I1, Ir1, z0.trans (g0.trans h0), ?_, z2, ?_, z4.of f1 (frR.rw1 frR.rf), z5.lt (by unfold inn; rw [g0, g5, g6, h0, if_pos rfl, if_pos rfl, hbn, nI_toInt (by omega), nI_toInt (by omega)]; omega) g0⟩
  · rw [hraise, z1, am_b1_some]
  · rw [hbo, z3, am_b2_some]
theorem or_lt : ∀ w : Nat, w < 64 → ∀ t : Nat, t < 6 → w.testBit t = false → w < w ||| 2 ^ t := by decide +kernel
theorem open_pass {I Ir : aI} {g m np nl nd t : Nat} (hv : IV I g np nl nd) (hw : RW I g (Ir (m + 1)) nl nd) (hu : AUo I g np) (h1 : nd + 1 < nl) (ht : t < np) (htn : I (g + 13) 4 = nI t) :
    ∃ r Ia I1 Ir1, Ia (g + 13) 0 = 0 ∧ f_X1_stepOut g (nI t) I = some (-6, Ia) ∧ f_X1_settle g Ia = some (r, I1) ∧ f_X7_passOpen m (nI t) Ir = some (r, Ir1) ∧ PO I Ir g m np nl r I1 Ir1 ∧ pg g nd I I1 := by
  have hco := co_of hv hw
  have hh := hv.1
  obtain ⟨q2, q6, q1, q12, qnp, qnl, qnd⟩ := hh
  have ht6 : t < 6 := by omega
  obtain ⟨h0, hrs, hwn, ⟨t', ht', htn', hto, htl⟩, ⟨b, hbn, hbs⟩, ⟨w, hw6, how⟩, hld⟩ := id hu
  obtain ⟨-, hset, hrp, hb, -, r3, r4, r5, r6, r7, r8, r9⟩ := id hw
  rw [h0] at r3 r4 r5 r6 r9
  rw [if_neg (by decide)] at r3 r5 r9
  rw [if_pos rfl] at r6
  obtain ⟨o1, o2, o3⟩ := or_64 w hw6 t ht6
  have hstep : f_X1_stepOut g (nI t) I = am_b1 (f_X1_turnBehind g (nI t) (am_w I (g + 13) 6 (nI (w ||| 2 ^ t)))) fun I3 => some (-6, I3) := by
    rw [f_X1_stepOut, htn, if_pos rfl, f_X0_noteOut, am_let_ap, am_b1_some, how, o1]
  have hpo : f_X7_passOpen m (nI t) Ir = am_b2 (f_X7_goOn m (nI t) (rw1 Ir m (upd (Ir (m + 1)) (16 + 7 * t + 6) 1))) fun r2 I2 => some (r2, I2) := by
    rw [f_X7_passOpen, show f_X7_lay m (nI t) 6 1 Ir = _ from fw_lay (c := 6) 1 ht6 (by omega), am_b1_some, am_w_rw1]
  have hcb : CO (am_w I (g + 13) 6 (nI (w ||| 2 ^ t))) g np nl nd (rw1 Ir m (upd (Ir (m + 1)) (16 + 7 * t + 6) 1) (m + 1)) := by
    rw [rw1_row]
    exact co_auc hco (fun q n1 n2 => am_w_ne _ _ n1) (fun i hi => upd_nq _ (by unfold aix at hi; omega))
  obtain ⟨r, I', I1, Ir1, z0, z1, z2, z3, z4, z5⟩ := turn_pair (Ir := rw1 Ir m (upd (Ir (m + 1)) (16 + 7 * t + 6) 1)) (t := t) (b := b) (w := w ||| 2 ^ t) hcb h1 ht
    (by rw [am_w_nq _ _ (by omega)]; exact h0) (by rw [am_w_nq _ _ (by omega)]; exact hrs) (by rw [am_w_nq _ _ (by omega)]; exact hwn) (by rw [am_w_nq _ _ (by omega)]; exact hbn) (by rw [am_w_nq _ _ (by omega)]; omega) (am_w_eq _ _ ⟨rfl, rfl⟩) o2
    (by simp (disch := omega) only [am_w_nq]; exact hld)
    (fun p hp => by
      obtain ⟨b5, b6⟩ := hb p hp
      rw [rw1_row, am_w_nq _ _ (by omega), am_w_eq _ _ ⟨rfl, rfl⟩, bt_nI _ o2 p hp, o3 p hp, upd_nq _ (by omega)]
      refine ⟨b5, ?_⟩
      rw [how, bt_nI _ hw6 p hp] at b6
      by_cases e : p = t
      · subst e
        rw [upd_eq _ rfl]
        simp
      · rw [upd_nq _ (by omega), b6]
        have : ¬ t = p := fun h => e h.symm
        simp [this])
    (by rw [rw1_row, upd_nq _ (by omega)]; exact r3) (by rw [rw1_row, upd_nq _ (by omega)]; exact r4) (by rw [rw1_row, upd_nq _ (by omega), am_w_nq _ _ (by omega)]; exact r5) (by rw [rw1_row, upd_nq _ (by omega), am_w_nq _ _ (by omega)]; exact r6) (by rw [rw1_row, upd_nq _ (by omega), am_w_nq _ _ (by omega)]; exact r7) (by rw [rw1_row, upd_nq _ (by omega), am_w_nq _ _ (by omega)]; exact r9)
  have hin : inn (am_w I (g + 13) 6 (nI (w ||| 2 ^ t))) g < inn I g := by
    have htt : t' = t := by
      rw [htn', nI_inj (by omega) (by omega)] at htn
      exact htn
    rw [htt, how, bt_nI w hw6 t ht6] at hto
    have := or_lt w hw6 t ht6 hto
    unfold inn
    simp (disch := omega) only [am_w_nq, am_w_eq]
    rw [h0, if_pos rfl, if_pos rfl, how, nI_toInt (by omega), nI_toInt (by omega)]
    omega
  refine ⟨r, I', I1, Ir1, z0.trans (by rw [am_w_nq _ _ (by omega)]; exact h0), ?_, z2, ?_, z4.of (frC.rf.w (by omega)) (frR.rw1 frR.rf), z5.lt hin (by rw [am_w_nq _ _ (by omega)])⟩
  · rw [hstep, z1, am_b1_some]
  · rw [hpo, z3, am_b2_some]
