/-! PURE: FALLING auctions -/
theorem hasB_t {I : aI} {g p : Nat} (h : hasB I g p = true) : ¬ I (g + 14) p = -6 := of_decide_eq_true h
theorem hasB_f {I : aI} {g p : Nat} (h : hasB I g p = false) : I (g + 14) p = -6 := Classical.byContradiction (fun q => by rw [hasB, decide_eq_true q] at h; cases h)
theorem fall_claim {I Ir : aI} {g m np nl nd p : Nat} (hv : IV I g np nl nd) (hw : RW I g (Ir (m + 1)) nl nd) (hu : AUf I g np) (h1 : nd + 1 < nl) (hp : p < np) (hb0 : I (g + 14) p = -6) (hpr : (I (g + 13) 2).toInt ≤ (I (g + 3) p).toInt) :
    ∃ Ia Ir1, f_X1_claim g (nI p) (I (g + 13) 2) I = some (-6, Ia) ∧ f_X7_claim m (nI p) Ir = some (-6, Ir1) ∧ IV Ia g np nl nd ∧ RW Ia g (Ir1 (m + 1)) nl nd ∧ AUf Ia g np ∧ frC g I Ia ∧ frR m Ir Ir1 ∧ inn Ia g = inn I g := by
  have hco := co_of hv hw
  have hh := hv.1
  obtain ⟨q2, q6, q1, q12, qnp, qnl, qnd⟩ := hh
  have hp6 : p < 6 := by omega
  obtain ⟨h0, hpb, l3, l4, l6, l7, hbs⟩ := id hu
  obtain ⟨-, hset, hrp, hb, -, r3, r4, r5, r6, r7, r8, r9⟩ := id hw
  rw [h0] at r3 r4 r5 r6 r9
  rw [if_neg (by decide)] at r3 r6 r9
  rw [if_pos rfl] at r5
  obtain ⟨Ia, hIa⟩ : ∃ Ia, Ia = am_w (am_w (am_w I (g + 14) p (I (g + 13) 2)) (g + 13) 5 (I (g + 13) 5 + 1)) (g + 6) p (mxI (I (g + 6) p) (I (g + 13) 2)) := ⟨_, rfl⟩
  have hrd : ∀ q k, Ia q k = if q = g + 6 ∧ k = p then mxI (I (g + 6) p) (I (g + 13) 2) else if q = g + 13 ∧ k = 5 then I (g + 13) 5 + 1 else if q = g + 14 ∧ k = p then I (g + 13) 2 else I q k := fun q k => by rw [hIa]; rfl
  obtain ⟨a5, ha5⟩ : ∃ a5, a5 = upd (upd (upd (Ir (m + 1)) (16 + 7 * p + 3) (mxI (Ir (m + 1) (16 + 7 * p + 3)) (I (g + 13) 2))) (16 + 7 * p + 5) (I (g + 13) 2)) 9 (I (g + 13) 5 + 1) := ⟨_, rfl⟩
  have hard : ∀ i, a5 i = if i = 9 then I (g + 13) 5 + 1 else if i = 16 + 7 * p + 5 then I (g + 13) 2 else if i = 16 + 7 * p + 3 then mxI (Ir (m + 1) (16 + 7 * p + 3)) (I (g + 13) 2) else Ir (m + 1) i := fun i => by rw [ha5]; rfl
  refine ⟨Ia, rw1 Ir m a5, ?_, ?_, ?_⟩
  · rw [f_X1_claim, fw_bidOf hp6, am_b1_some, show I (g + 13 + 1) p = -6 from hb0, if_pos rfl, if_pos rfl, fw_amountOf qnp q6 hp, am_b1_some, if_pos (show I (g + 13) 2 ≤ I (g + 2 + 1) p from Int32.le_iff_toInt_le.mpr hpr), fw_noteBid _ hp6, am_b1_some, fw_learn _ (by rw [am_w_ne _ _ (by omega), am_w_ne _ _ (by omega)]; exact qnp) q6 hp, am_b1_some]
    rw [am_w_ne _ _ (show g + 2 + 4 ≠ g + 13 by omega), am_w_ne _ _ (show g + 2 + 4 ≠ g + 13 + 1 by omega), hIa]
  · rw [f_X7_claim, r5, fw_know _ hp6, am_b1_some, show ∀ J x, f_X7_lay m (nI p) 5 x J = _ from fun J x => fw_lay (I := J) (c := 5) x hp6 (by omega), am_b1_some, am_let_ap]
    simp (disch := omega) only [am_w_rw1, rw1_rw1, rw1_row, upd_nq, r9, r5, ha5]
  · have hcb : CO Ia g np nl nd a5 := by
      refine co_auc (co_know hco hp hpr) (fun q n1 n2 => ?_) (fun i hi => ?_)
      · funext k
        rw [hrd, if_neg (show ¬ (q = g + 13 ∧ k = 5) by omega), if_neg (show ¬ (q = g + 14 ∧ k = p) by omega)]
        rfl
      · unfold aix at hi
        rw [hard, if_neg (by omega), if_neg (by omega)]
        rfl
    have g0 : Ia (g + 13) 0 = I (g + 13) 0 := by rw [hrd]; simp
    have g1 : Ia (g + 13) 1 = I (g + 13) 1 := by rw [hrd]; simp
    have g2 : Ia (g + 13) 2 = I (g + 13) 2 := by rw [hrd]; simp
    have g3 : Ia (g + 13) 3 = I (g + 13) 3 := by rw [hrd]; simp
    have g4 : Ia (g + 13) 4 = I (g + 13) 4 := by rw [hrd]; simp
    have g5 : Ia (g + 13) 5 = I (g + 13) 5 + 1 := by rw [hrd]; simp
    have g6 : Ia (g + 13) 6 = I (g + 13) 6 := by rw [hrd]; simp
    have g7 : Ia (g + 13) 7 = I (g + 13) 7 := by rw [hrd]; simp
    have gam : ∀ k, Ia (g + 3) k = I (g + 3) k := fun k => by rw [hrd]; simp
    have gb : ∀ k, Ia (g + 14) k = if k = p then I (g + 13) 2 else I (g + 14) k := fun k => by rw [hrd]; simp
    have hF : AUf Ia g np := by
      refine ⟨g0.trans h0, by rw [g2]; exact hpb, g3.trans l3, g4.trans l4, g6.trans l6, g7.trans l7, fun k hk => ?_⟩
      rw [gb, gam, g2]
      by_cases e : k = p
      · subst e
        rw [if_pos rfl]
        exact Or.inr ⟨rfl, hpr⟩
      · rw [if_neg e]; exact hbs k hk
    have hiv := iv_of hcb (Or.inr ⟨h1, Or.inr (Or.inr hF)⟩) (fun k hk => by
      obtain ⟨b5, b6⟩ := hb k hk
      rw [hard, hard, gb, g6]
      refine ⟨?_, ?_⟩
      · by_cases e : k = p
        · subst e
          rw [if_neg (by omega), if_pos rfl, if_pos rfl]
        · rw [if_neg (by omega), if_neg (by omega), if_neg (by omega), if_neg e]; exact b5
      · rw [if_neg (by omega), if_neg (by omega), if_neg (by omega)]; exact b6) (by
      unfold RLa
      rw [g0, g1, g2, g3, g4, g5, h0, if_neg (show ¬ (2:Int32) = -6 by decide), if_neg (show ¬ (2:Int32) = -6 by decide), if_pos (show (2:Int32) = 2 from rfl), if_neg (show ¬ (2:Int32) = 0 by decide)]
      refine ⟨?_, ?_, ?_, ?_, ?_, ?_, ?_⟩
      · rw [hard, if_neg (by omega), if_neg (by omega), if_neg (by omega)]; exact r3
      · rw [hard, if_neg (by omega), if_neg (by omega), if_neg (by omega)]; exact r4
      · rw [hard, if_neg (by omega), if_neg (by omega), if_neg (by omega)]; exact r5
      · rw [hard, if_neg (by omega), if_neg (by omega), if_neg (by omega)]; exact r6
      · rw [hard, if_neg (by omega), if_neg (by omega), if_neg (by omega)]; exact r7
      · rw [hard, if_neg (by omega), if_neg (by omega), if_neg (by omega)]; exact r8
      · rw [hard, if_pos rfl])
    refine ⟨hiv.1, by rw [rw1_row]; exact hiv.2, hF, ?_, frR.rw1 frR.rf, by unfold inn; rw [g0, g2, h0, if_neg (show ¬ (2 : Int32) = 0 by decide), if_neg (show ¬ (2 : Int32) = 1 by decide), if_neg (show ¬ (2 : Int32) = 0 by decide), if_neg (show ¬ (2 : Int32) = 1 by decide)]⟩
    rw [hIa]
    exact ((frC.rf.w (by omega)).w (by omega)).w (by omega)
theorem letFall_h {I : aI} {g np st : Nat} (hn : I (g + 2) 0 = nI np) (h6 : np ≤ 6) (hs : st < np) : ∀ (n j : Nat), j ≤ np → np < n + j → f_X1_letFall_h7 g n (nI st) (nI j) I = match srch (fun k => hasB I g ((st + k) % np)) (np - j) j with
    | some k => f_X1_letFall_b44 g (nI ((st + k) % np)) I
    | none => f_X1_letFall_b63 g I := by
  intro n
  induction n with
  | zero => intro j h1 h2; omega
  | succ n ih =>
    intro j h1 h2
    rw [f_X1_letFall_h7, hn]
    by_cases h : np ≤ j
    · rw [if_pos (nI_le h (by omega)), show np - j = 0 by omega]; rfl
    · have hm := Nat.mod_lt (st + j) (show np > 0 by omega)
      rw [if_neg (nI_ge (by omega) (by omega)), fw_seatBehind hn h6 hs (by omega), am_b1_some, fw_bidOf (show (st + j) % np < 6 by omega), am_b1_some, nI_1, ih (j + 1) (by omega) (by omega), show np - j = (np - (j + 1)) + 1 by omega, srch]
      cases hb : hasB I g ((st + j) % np)
      · rw [if_pos (hasB_f hb), if_neg (by simp)]
      · rw [if_neg (hasB_t hb), if_pos rfl]
theorem fall_h {I Ir : aI} {g m np nl nd : Nat} (h0 : Ir (m + 1) 0 = nI np) (h2 : Ir (m + 1) 2 = nI nd) (hnp : 2 ≤ np) (h6 : np ≤ 6) (hd : nd ≤ 12) (hb : RLb I g (Ir (m + 1))) (hbs : ∀ p, p < np → I (g + 14) p = -6 ∨ 0 ≤ (I (g + 14) p).toInt) : ∀ (n j : Nat), j ≤ np → np < n + j → f_X7_fall_h2 m n (nI j) Ir = match srch (fun k => hasB I g ((nd % np + k) % np)) (np - j) j with
    | some k => f_X7_fall_b25 m (nI k) Ir
    | none => f_X7_fall_b47 m Ir := by
  intro n
  induction n with
  | zero => intro j h1 h3; omega
  | succ n ih =>
    intro j h1 h3
    rw [f_X7_fall_h2, h0]
    by_cases h : np ≤ j
    · rw [if_pos (nI_le h (by omega)), show np - j = 0 by omega]; rfl
    · have hm := Nat.mod_lt (nd % np + j) (show np > 0 by omega)
      have hp6 : (nd % np + j) % np < 6 := by omega
      have q5 : f_X7_of m (nI ((nd % np + j) % np)) 5 Ir = some (I (g + 14) ((nd % np + j) % np)) := by
        rw [show f_X7_of m (nI ((nd % np + j) % np)) 5 Ir = _ from fw_of (c := 5) hp6 (by omega), (hb _ hp6).1]
      rw [if_neg (nI_ge (by omega) (by omega)), fw_seatR h0 h2 hnp h6 hd (by omega), am_b1_some, q5, am_b1_some, nI_1, ih (j + 1) (by omega) (by omega), show np - j = (np - (j + 1)) + 1 by omega, srch]
      cases hbb : hasB I g ((nd % np + j) % np)
      · rw [hasB_f hbb, if_pos (by decide), if_neg (by simp)]
      · rcases hbs _ hm with q | q
        · exact absurd q (hasB_t hbb)
        · rw [if_neg (fun z => by have := Int32.lt_iff_toInt_lt.mp z; rw [zI] at this; omega), if_pos rfl]
theorem fall_pair {I Ir : aI} {g m np nl nd : Nat} (hv : IV I g np nl nd) (hw : RW I g (Ir (m + 1)) nl nd) (hu : AUf I g np) (h1 : nd + 1 < nl) :
    ∃ r Ia I1 Ir1, f_X1_letFall g I = some (-6, Ia) ∧ f_X1_settle g Ia = some (r, I1) ∧ f_X7_fall m Ir = some (r, Ir1) ∧ PO I Ir g m np nl r I1 Ir1 ∧ pg g nd I I1 := by
  have hF := am_F_big
  have hco := co_of hv hw
  have hh := hv.1
  obtain ⟨q2, q6, q1, q12, qnp, qnl, qnd⟩ := id hh
  obtain ⟨h0, hpb, l3, l4, l6, l7, hbs⟩ := id hu
  obtain ⟨⟨a0, a1, a2⟩, hset, hrp, hb, -, r3, r4, r5, r6, r7, r8, r9⟩ := id hw
  rw [h0] at r3 r4 r5 r6 r9
  rw [if_neg (by decide)] at r3 r6 r9
  rw [if_pos rfl] at r5
  have hsn := Nat.mod_lt nd (show np > 0 by omega)
  have hC := letFall_h (g := g) qnp q6 hsn am_F 0 (by omega) (by omega)
  have hR := fall_h (I := I) (Ir := Ir) (g := g) (m := m) (nl := nl) (a0.trans qnp) (a2.trans qnd) q2 q6 (by omega) hb (fun p hp => (hbs p hp).imp id (fun q => by rw [q.1]; have := hpb.1; omega)) am_F 0 (by omega) (by omega)
  have eC : f_X1_letFall g I = f_X1_letFall_h7 g am_F (nI (nd % np)) (nI 0) I := by rw [f_X1_letFall, fw_starter hh, am_b1_some]; rfl
  have eR : f_X7_fall m Ir = f_X7_fall_h2 m am_F (nI 0) Ir := rfl
  rw [eC, eR, hC, hR]
  cases hsr : srch (fun k => hasB I g ((nd % np + k) % np)) (np - 0) 0 with
  | some k =>
    obtain ⟨k1, k2, k3, -⟩ := srch_some hsr
    have hm := Nat.mod_lt (nd % np + k) (show np > 0 by omega)
    have hbk := (hbs _ hm).resolve_left (hasB_t k3)
    simp only []
    rw [f_X1_letFall_b44, am_let_ap, f_X7_fall_b25, fw_seatR (a0.trans qnp) (a2.trans qnd) q2 q6 (by omega) (by omega), am_b1_some, r5]
    have hc : CO (am_w I (g + 13) 7 (am_shl 1 (nI ((nd % np + k) % np)))) g np nl nd (Ir (m + 1)) := co_auc hco (fun q n1 n2 => am_w_ne _ _ n1) (fun _ _ => rfl)
    obtain ⟨r, I1, Ir1, z1, z2, z0, z3, z4, z5, z6⟩ := close1 (v := I (g + 13) 2) hc (by omega) hm (am_w_eq _ _ ⟨rfl, rfl⟩) (am_w_nq _ _ (by omega)) (by have := hpb.1; omega) (by rw [am_w_nq _ _ (by omega)]; exact hbk.2)
    refine ⟨r, _, I1, Ir1, rfl, z1, ?_, ⟨nd + 1, z3, z4, (frC.rf.w (by omega)).tr z5, z6⟩, Or.inl z3.1.2.2.2.2.2.2⟩
    rw [z2, am_b2_some]
  | none =>
    simp only []
    have hnb := srch_none hsr
    have hst : f_X1_settingOf g 1 I = some (I (g + 1) 1) := fw_settingOf (k := 1) (by omega)
    have hstR : f_X7_setting m 1 Ir = some (I (g + 1) 1) := by
      rw [show f_X7_setting m 1 Ir = _ from fw_setting (k := 1) (by omega), hset 1 (by omega)]
    have hs1 := hv.2.1.2.1
    have hsub : (I (g + 13) 2 - I (g + 1) 1).toInt = (I (g + 13) 2).toInt - (I (g + 1) 1).toInt := sub_toInt (by have := hpb.1; have := hs1.2; omega) (by have := hpb.2; have := hs1.1; omega)
    rw [f_X1_letFall_b63, hst, am_b1_some, f_X7_fall_b47, hstR, am_b1_some]
    simp only [am_let_ap]
    rw [am_w_eq _ _ ⟨rfl, rfl⟩, am_w_eq _ _ ⟨rfl, rfl⟩, r5]
    have hc : CO (am_w I (g + 13) 2 (I (g + 13) 2 - I (g + 1) 1)) g np nl nd (upd (Ir (m + 1)) 5 (I (g + 13) 2 - I (g + 1) 1)) := co_auc hco (fun q n1 n2 => am_w_ne _ _ n1) (fun i hi => upd_nq _ (by unfold aix at hi; omega))
    have c1 : ((1 : Int32) ≤ I (g + 13) 2 - I (g + 1) 1) ↔ 1 ≤ (I (g + 13) 2).toInt - (I (g + 1) 1).toInt := by
      rw [Int32.le_iff_toInt_le, hsub]; exact Iff.rfl
    by_cases e : 1 ≤ (I (g + 13) 2).toInt - (I (g + 1) 1).toInt
    · rw [if_pos (c1.mpr e), if_pos (c1.mpr e)]
      refine ⟨-6, _, _, _, rfl, fw_settleN (by rw [am_w_nq _ _ (by omega)]; exact l7), rfl, ⟨nd, ?_⟩, Or.inr ⟨by rw [am_w_nq _ _ (by omega)]; exact qnd, ?_, by rw [am_w_nq _ _ (by omega)]⟩⟩
      rotate_left
      · unfold inn
        simp (disch := omega) only [am_w_nq, am_w_eq]
        rw [h0, if_neg (show ¬ (2 : Int32) = 0 by decide), if_neg (show ¬ (2 : Int32) = 1 by decide), if_neg (show ¬ (2 : Int32) = 0 by decide), if_neg (show ¬ (2 : Int32) = 1 by decide), hsub]
        have := hs1.1
        omega
      -- nobody has claimed
      have hall : ∀ p, p < np → I (g + 14) p = -6 := by
        intro p hp
        have := hnb ((p + np - nd % np) % np) (by omega) (by have := Nat.mod_lt (p + np - nd % np) (show np > 0 by omega); omega)
        rw [(mod_hit hsn hp _ (Nat.mod_lt _ (by omega))).mpr rfl] at this
        exact hasB_f this
      have hFF : AUf (am_w I (g + 13) 2 (I (g + 13) 2 - I (g + 1) 1)) g np := by
        unfold AUf bd
        simp (disch := omega) only [am_w_nq, am_w_eq]
        rw [hsub]
        refine ⟨h0, ⟨e, by have := hpb.2; have := hs1.1; omega⟩, l3, l4, l6, l7, fun p hp => Or.inl (hall p hp)⟩
      have hiv := iv_of hc (Or.inr ⟨h1, Or.inr (Or.inr hFF)⟩) (fun p hp => by
        rw [am_w_nq _ _ (by omega), am_w_nq _ _ (by omega), upd_nq _ (by omega), upd_nq _ (by omega)]
        exact hb p hp) (by
        unfold RLa
        simp (disch := omega) only [am_w_nq, am_w_eq, upd_nq, upd_eq, h0]
        exact ⟨r3, r4, rfl, r6, r7, r8, r9⟩)
      exact ⟨hiv.1, by rw [am_w_self]; exact hiv.2, frC.rf.w (by omega), by rw [am_w_rw1]; exact frR.rw1 frR.rf⟩
    · rw [if_neg (fun z => e (c1.mp z)), if_neg (fun z => e (c1.mp z))]
      have hc2 : CO (am_w (am_w I (g + 13) 2 (I (g + 13) 2 - I (g + 1) 1)) (g + 13) 7 0) g np nl nd (am_w Ir (m + 1) 5 (I (g + 13) 2 - I (g + 1) 1) (m + 1)) := by
        rw [am_w_self]
        exact co_auc hc (fun q n1 n2 => am_w_ne _ _ n1) (fun _ _ => rfl)
      obtain ⟨I1, Ir1, z1, z2, z3, z4, z5, z6⟩ := close0 (m := m) (Ir := am_w Ir (m + 1) 5 (I (g + 13) 2 - I (g + 1) 1)) hc2 (by omega) (am_w_eq _ _ ⟨rfl, rfl⟩)
      refine ⟨_, _, I1, Ir1, rfl, z1, ?_, ⟨nd + 1, z3, z4, ((frC.rf.w (by omega)).w (by omega)).tr z5, frR.tr (by rw [am_w_rw1]; exact frR.rw1 frR.rf) z6⟩, Or.inl z3.1.2.2.2.2.2.2⟩
      rw [show f_X7_finish m 0 (-6) _ = _ from z2, am_b2_some]
theorem am_min_le (x y : Int32) : (am_min x y).toInt ≤ x.toInt := by
  unfold am_min
  by_cases h : y < x
  · rw [if_pos h]; have := Int32.lt_iff_toInt_lt.mp h; omega
  · rw [if_neg h]; omega
theorem limV_le {I : aI} {g p nl nd : Nat} (h : nd < nl) : (limV I g p nl nd).toInt ≤ (I (g + 3) p).toInt := by
  rw [limV, if_pos h]; exact am_min_le _ _
theorem rw_scratch {I Ir : aI} {g m nl nd : Nat} {c : Nat → Int32} (h : RW I g (Ir (m + 1)) nl nd) : RW I g (rwS Ir m c (m + 1)) nl nd := by rw [rwS_row]; exact h
theorem moveF_h {g m np nl nd : Nat} (h1 : nd + 1 < nl) : ∀ (n j : Nat) (I Ir : aI), IV I g np nl nd → RW I g (Ir (m + 1)) nl nd → AUf I g np → j ≤ np → np < n + j → ∃ I1 Ir1, f_X1_claimAlone_h2 g n (nI j) I = some I1 ∧ f_X7_moveFalling_h2 m n (nI j) Ir = (am_b2 (f_X7_fall m Ir1) fun r2 I2 => some (r2, I2)) ∧ IV I1 g np nl nd ∧ RW I1 g (Ir1 (m + 1)) nl nd ∧ AUf I1 g np ∧ frC g I I1 ∧ frR m Ir Ir1 ∧ inn I1 g = inn I g := by
  intro n
  induction n with
  | zero => intro j I Ir hv hw hu h2 h3; omega
  | succ n ih =>
    intro j I Ir hv hw hu h2 h3
    obtain ⟨q2, q6, q1, q12, qnp, qnl, qnd⟩ := id hv.1
    obtain ⟨h0, hpb, l3, l4, l6, l7, hbs⟩ := id hu
    obtain ⟨⟨a0, a1, a2⟩, hset, hrp, hb, hrl, r3, r4, r5, r6, r7, r8, r9⟩ := id hw
    rw [h0, if_pos rfl] at r5
    rw [f_X1_claimAlone_h2, f_X7_moveFalling_h2, qnp, a0, qnp]
    by_cases h : np ≤ j
    · rw [if_pos (nI_le h (by omega)), if_pos (nI_le h (by omega))]
      exact ⟨I, Ir, rfl, rfl, hv, hw, hu, frC.rf, frR.rf, rfl⟩
    · have hp6 : j < 6 := by omega
      have hjn : j < np := by omega
      have q5 : f_X7_of m (nI j) 5 Ir = some (I (g + 14) j) := by
        rw [show f_X7_of m (nI j) 5 Ir = _ from fw_of (c := 5) hp6 (by omega), (hb _ hp6).1]
      rw [if_neg (nI_ge (by omega) (by omega)), if_neg (nI_ge (by omega) (by omega)), fw_bidOf hp6, am_b1_some, q5, am_b1_some, nI_1]
      rw [show I (g + 13 + 1) j = I (g + 14) j from rfl]
      rcases hbs j hjn with hbj | hbj
      · rw [hbj, if_pos rfl, if_neg (by decide), fw_limC hv.1 hv.2.2.2.1 hjn, am_b1_some]
        obtain ⟨c', hlr⟩ := fw_limR (m := m) hv.1 hv.2.1 hv.2.2.2.1 hw.1 hset hrp hrl hjn
        rw [hlr, am_b2_some, r5]
        by_cases hlt : limV I g j nl nd < I (g + 13) 2
        · rw [if_pos hlt, if_pos hlt]
          obtain ⟨I1, Ir1, z1, z2, z3, z4, z5, z6, z7, z8⟩ := ih (j + 1) I (rwS Ir m c') hv (rw_scratch hw) hu (by omega) (by omega)
          exact ⟨I1, Ir1, z1, z2, z3, z4, z5, z6, frR.tr (frR.rwS frR.rf) z7, z8⟩
        · rw [if_neg hlt, if_neg hlt]
          have hle : (I (g + 13) 2).toInt ≤ (I (g + 3) j).toInt := by
            have := limV_le (I := I) (g := g) (p := j) (nl := nl) (nd := nd) (by omega)
            have h9 := Int32.not_lt.mp hlt
            have := Int32.le_iff_toInt_le.mp h9
            omega
          obtain ⟨Ia, Ira, y1, y2, y3, y4, y5, y6, y7, y8⟩ := fall_claim (m := m) (Ir := rwS Ir m c') hv (rw_scratch hw) hu h1 hjn hbj hle
          rw [y1, am_b2_some, y2, am_b2_some, am_let_ap]
          have hid : am_w Ira (m + 1) 7 (-6) = Ira := by
            have : Ira (m + 1) 7 = -6 := y4.2.2.2.2.2.2.2.2.2.1.trans y5.2.2.1
            rw [← this]
            exact am_w_id _ _ _
          rw [hid]
          obtain ⟨I1, Ir1, z1, z2, z3, z4, z5, z6, z7, z8⟩ := ih (j + 1) Ia Ira y3 y4 y5 (by omega) (by omega)
          exact ⟨I1, Ir1, z1, z2, z3, z4, z5, y6.tr z6, (frR.tr (frR.rwS frR.rf) y7).tr z7, z8.trans y8⟩
      · have hne : ¬ I (g + 14) j = -6 := fun z => by
          rw [z] at hbj
          have := congrArg Int32.toInt hbj.1
          rw [n6I] at this
          have := hpb.1
          omega
        rw [if_neg hne, if_pos (Int32.le_iff_toInt_le.mpr (by rw [zI, hbj.1]; have := hpb.1; omega))]
        obtain ⟨I1, Ir1, z1, z2, z3, z4, z5, z6, z7, z8⟩ := ih (j + 1) I Ir hv hw hu (by omega) (by omega)
        exact ⟨I1, Ir1, z1, z2, z3, z4, z5, z6, z7, z8⟩
