/-! PURE: one act of an auction -/
def PA (g m np nl : Nat) (I Ir : aI) (x y : Option (Int32 × aI)) : Prop := ∃ r I1 Ir1, x = some (r, I1) ∧ y = some (r, Ir1) ∧ PO I Ir g m np nl r I1 Ir1
theorem PA.same {g m np nl nd : Nat} {I Ir : aI} {x y : Option (Int32 × aI)} {r : Int32} (hv : IV I g np nl nd) (hw : RW I g (Ir (m + 1)) nl nd) (hx : x = some (r, I)) (hy : y = some (r, Ir)) : PA g m np nl I Ir x y :=
  ⟨r, I, Ir, hx, hy, nd, hv, hw, frC.rf, frR.rf⟩
theorem fw_goesC (o : Nat) (I : aI) : f_X0_goesOn o I = some (if I o 0 = -6 then 0 else 1) := by
  rw [f_X0_goesOn]
  split <;> rfl
theorem fw_goesR {I Ir : aI} {g m nl nd : Nat} (hw : RW I g (Ir (m + 1)) nl nd) : f_X7_goes m Ir = some (if I (g + 13) 0 = -6 then 0 else 1) := by
  rw [f_X7_goes, hw.2.2.2.2.2.1]
  by_cases h : I (g + 13) 0 = -6
  · rw [if_pos h, if_neg (show ¬ (0 : Int32) = 1 by decide)]
  · rw [if_neg h, if_pos rfl]
theorem fw_isPin {m np p : Nat} {Ir : aI} (h0 : Ir (m + 1) 0 = nI np) (h6 : np ≤ 6) (hp : p < np) : f_X7_isPlayer m (nI p) Ir = some 1 := by
  rw [f_X7_isPlayer, h0, show (1 : Int32) = nI 1 from rfl, nI_sub (by omega), fw_in, am_b1_some, if_neg (by rw [nI_neg p (by omega), false_or, nI_ltq (by omega) (by omega)]; omega)]
  rfl
theorem fw_isPout {m np : Nat} {a : Int32} {Ir : aI} (h0 : Ir (m + 1) 0 = nI np) (h1 : 1 ≤ np) (h6 : np ≤ 6) (h : a < 0 ∨ nI np ≤ a) : f_X7_isPlayer m a Ir = some 0 := by
  rw [f_X7_isPlayer, h0, show (1 : Int32) = nI 1 from rfl, nI_sub (by omega), fw_in, am_b1_some, if_pos]
  · rfl
  · refine h.imp id (fun q => Int32.lt_iff_toInt_lt.mpr ?_)
    have := Int32.le_iff_toInt_le.mp q
    rw [nI_toInt (by omega)] at this
    rw [nI_toInt (by omega)]
    omega
theorem fw_ofAmt {I Ir : aI} {g m nl nd p : Nat} (hw : RW I g (Ir (m + 1)) nl nd) (hp : p < 6) : f_X7_of m (nI p) 0 Ir = some (I (g + 3) p) := by
  rw [show f_X7_of m (nI p) 0 Ir = _ from fw_of (c := 0) hp (by omega), (hw.2.2.1 p hp).1]
theorem fw_ofBid {I Ir : aI} {g m nl nd p : Nat} (hw : RW I g (Ir (m + 1)) nl nd) (hp : p < 6) : f_X7_of m (nI p) 5 Ir = some (I (g + 14) p) := by
  rw [show f_X7_of m (nI p) 5 Ir = _ from fw_of (c := 5) hp (by omega), (hw.2.2.2.1 p hp).1]
theorem zk_ite (c : Prop) [Decidable c] : am_g (am_zk (if c then (0 : Int32) else 1)) (some (if c then (0 : Int32) else 1)) = some (if c then (0 : Int32) else 1) := by
  split <;> rfl
theorem bid_pair {I Ir : aI} {g m np nl nd : Nat} (hv : IV I g np nl nd) (hw : RW I g (Ir (m + 1)) nl nd) (a v : Int32) : PA g m np nl I Ir (f_X1_takeBid g a v I) (f_X7_bid m a v Ir) := by
  obtain ⟨q2, q6, q1, q12, qnp, qnl, qnd⟩ := id hv.1
  obtain ⟨⟨a0, a1, a2⟩, hset, hrp, hb, -, r3, r4, r5, r6, r7, r8, r9⟩ := id hw
  rw [f_X1_takeBid, f_X7_bid]
  rcases seat_cases a np (by omega) with ⟨p, hp, rfl⟩ | ho
  · have hp6 : p < 6 := by omega
    rw [fw_hasSeat_in qnp q6 hp, fw_isPin (a0.trans qnp) q6 hp, am_b1_some, am_b1_some, if_neg one0, if_neg one0, fw_goesR hw, am_b1_some, fw_ofBid hw hp6, r4, r8]
    have hb69 : ∀ e : Int32, e ≠ -6 → ∀ J, f_X1_takeBid_b69 g e J = some (e, J) := fun e he J => by rw [f_X1_takeBid_b69, if_neg he]
    have hb69' : ∀ (J J1 : aI) (r : Int32), f_X1_settle g J = some (r, J1) → f_X1_takeBid_b69 g (-6) J = some (r, J1) := fun J J1 r hs => by rw [f_X1_takeBid_b69, if_pos rfl, hs, am_b2_some]
    rcases hv.2.2.2.2 with hn | ⟨h1, hu | hu | hu⟩
    · rw [hn.1, if_neg (show ¬ (-6 : Int32) = 0 by decide), if_pos (show (-6 : Int32) = -6 from rfl), if_pos (show (0 : Int32) = 0 from rfl), f_X1_takeBid_b33, hn.1, if_neg (show ¬ (-6 : Int32) = 1 by decide), f_X1_takeBid_b51, hn.1, if_neg (show ¬ (-6 : Int32) = 2 by decide), hb69 _ (by decide)]
      exact PA.same hv hw rfl rfl
    · obtain ⟨h0, hrs, hwn, ⟨t, ht, htn, hto, htl⟩, -⟩ := id hu
      have hb33 : ∀ (e : Int32) (J : aI), J (g + 13) 0 = 0 → f_X1_takeBid_b33 g (nI p) v e J = f_X1_takeBid_b69 g e J := fun e J hJ => by
        rw [f_X1_takeBid_b33, hJ, if_neg (show ¬ (0 : Int32) = 1 by decide), f_X1_takeBid_b51, hJ, if_neg (show ¬ (0 : Int32) = 2 by decide)]
      rw [h0, if_pos (show (0 : Int32) = 0 from rfl), if_neg (show ¬ (0 : Int32) = -6 by decide), if_neg one0, if_pos (show (0 : Int32) = 0 from rfl), htn]
      by_cases e : p = t
      · subst e
        rw [if_pos rfl, f_X7_bid_b52, f_X7_isBid, fw_ofAmt hw hp6, am_b1_some, r4, h0, if_pos rfl, fw_leastR q6 hu hw, am_b1_some, fw_in, am_b1_some, zk_ite, am_b1_some]
        by_cases c : v < leastV I g ∨ I (g + 3) p < v
        · rw [f_X1_raise, htn, if_pos rfl, fw_leastC, am_b1_some, fw_amountOf qnp q6 hp, am_b1_some, fw_within, am_b1_some, show I (g + 2 + 1) p = I (g + 3) p from rfl, if_pos c, if_pos rfl, if_pos rfl, am_b2_some, hb33 _ _ h0, hb69 _ (by decide)]
          exact PA.same hv hw rfl rfl
        · have hlo : (leastV I g).toInt ≤ v.toInt := Int32.le_iff_toInt_le.mp (Int32.not_lt.mp (fun z => c (Or.inl z)))
          have hhi : v.toInt ≤ (I (g + 3) p).toInt := Int32.le_iff_toInt_le.mp (Int32.not_lt.mp (fun z => c (Or.inr z)))
          obtain ⟨r, Ia, I1, Ir1, z0, z1, z2, z3, z4, -⟩ := open_bid hv hw hu h1 hp htn hlo hhi
          rw [if_neg c, if_neg one0, if_pos rfl, z1, am_b2_some, hb33 _ _ z0, hb69' _ _ _ z2, z3, am_b2_some]
          exact ⟨r, I1, Ir1, rfl, rfl, z4⟩
      · have hne : ¬ nI t = nI p := by rw [nI_inj (by omega) (by omega)]; exact fun q => e q.symm
        rw [if_neg hne, f_X1_raise, htn, if_neg (fun q => hne q.symm), am_b2_some, hb33 _ _ h0, hb69 _ (by decide)]
        exact PA.same hv hw rfl rfl
    · obtain ⟨h0, hrs, l2, l3, l4, l6, l7, hbs, hct, hcl⟩ := id hu
      have hb51 : ∀ (e : Int32) (J : aI), J (g + 13) 0 = 1 → f_X1_takeBid_b51 g (nI p) v e J = f_X1_takeBid_b69 g e J := fun e J hJ => by
        rw [f_X1_takeBid_b51, hJ, if_neg (show ¬ (1 : Int32) = 2 by decide)]
      rw [h0, if_neg (show ¬ (1 : Int32) = 0 by decide), if_neg (show ¬ (1 : Int32) = -6 by decide), if_neg one0, if_neg (show ¬ (1 : Int32) = 0 by decide), am_b1_some, f_X1_takeBid_b33, h0, if_pos (show (1 : Int32) = 1 from rfl)]
      rcases hbs p hp with hbp | hbp
      · rw [hbp, if_pos (show (-6 : Int32) < 0 by decide), f_X7_bid_b52, f_X7_isBid, fw_ofAmt hw hp6, am_b1_some, r4, h0, if_neg (show ¬ (1 : Int32) = 0 by decide), if_pos rfl, fw_in, am_b1_some, zk_ite, am_b1_some]
        by_cases c : v < 0 ∨ I (g + 3) p < v
        · rw [f_X1_handIn, fw_bidOf hp6, am_b1_some, show I (g + 13 + 1) p = -6 from hbp, if_pos rfl, fw_amountOf qnp q6 hp, am_b1_some, fw_within, am_b1_some, show I (g + 2 + 1) p = I (g + 3) p from rfl, if_pos c, if_pos rfl, if_pos rfl, am_b2_some, hb51 _ _ h0, hb69 _ (by decide)]
          exact PA.same hv hw rfl rfl
        · have hlo : 0 ≤ v.toInt := Int32.le_iff_toInt_le.mp (Int32.not_lt.mp (fun z => c (Or.inl z)))
          have hhi : v.toInt ≤ (I (g + 3) p).toInt := Int32.le_iff_toInt_le.mp (Int32.not_lt.mp (fun z => c (Or.inr z)))
          obtain ⟨r, Ia, I1, Ir1, z0, z1, z2, z3, z4, -⟩ := sealed_hand hv hw hu h1 hp hbp hlo hhi
          rw [if_neg c, if_neg one0, if_neg (show ¬ (1 : Int32) = 0 by decide), if_pos rfl, z1, am_b2_some, hb51 _ _ z0, hb69' _ _ _ z2, z3, am_b2_some]
          exact ⟨r, I1, Ir1, rfl, rfl, z4⟩
      · have hne : ¬ I (g + 14) p = -6 := fun z => by rw [z, n6I] at hbp; omega
        have hlt : ¬ I (g + 14) p < 0 := fun z => by have := Int32.lt_iff_toInt_lt.mp z; rw [zI] at this; omega
        rw [if_neg hlt, f_X1_handIn, fw_bidOf hp6, am_b1_some, if_neg (show ¬ I (g + 13 + 1) p = -6 from hne), am_b2_some, hb51 _ _ h0, hb69 _ (by decide)]
        exact PA.same hv hw rfl rfl
    · obtain ⟨h0, hpb, l3, l4, l6, l7, hbs⟩ := id hu
      rw [h0, if_pos rfl] at r5
      rw [h0, if_neg (show ¬ (2 : Int32) = 0 by decide), if_neg (show ¬ (2 : Int32) = -6 by decide), if_neg one0, if_neg (show ¬ (2 : Int32) = 0 by decide), am_b1_some, f_X1_takeBid_b33, h0, if_neg (show ¬ (2 : Int32) = 1 by decide), f_X1_takeBid_b51, h0, if_pos (show (2 : Int32) = 2 from rfl)]
      rcases hbs p hp with hbp | hbp
      · rw [hbp, if_pos (show (-6 : Int32) < 0 by decide), f_X7_bid_b52, f_X7_isBid, fw_ofAmt hw hp6, am_b1_some, r4, h0, if_neg (show ¬ (2 : Int32) = 0 by decide), if_neg (show ¬ (2 : Int32) = 1 by decide), r5]
        have hc0 : f_X1_claim g (nI p) v I = if v = I (g + 13) 2 then (if v ≤ I (g + 3) p then f_X1_claim g (nI p) v I else some (-2, I)) else some (-2, I) := by
          by_cases c : v = I (g + 13) 2
          · rw [if_pos c]
            by_cases c2 : v ≤ I (g + 3) p
            · rw [if_pos c2]
            · rw [if_neg c2, f_X1_claim, fw_bidOf hp6, am_b1_some, show I (g + 13 + 1) p = -6 from hbp, if_pos rfl, if_pos c, fw_amountOf qnp q6 hp, am_b1_some, if_neg (show ¬ v ≤ I (g + 2 + 1) p from c2)]
          · rw [if_neg c, f_X1_claim, fw_bidOf hp6, am_b1_some, show I (g + 13 + 1) p = -6 from hbp, if_pos rfl, if_neg c]
        rw [hc0]
        by_cases c : v = I (g + 13) 2
        · rw [if_pos c, if_pos c]
          by_cases c2 : v ≤ I (g + 3) p
          · have c3 : ¬ I (g + 3) p < v := fun z => by
              have := Int32.lt_iff_toInt_lt.mp z
              have := Int32.le_iff_toInt_le.mp c2
              omega
            subst c
            obtain ⟨Ia, Ir1, z1, z2, z3, z4, z5, z6, z7, -⟩ := fall_claim hv hw hu h1 hp hbp (Int32.le_iff_toInt_le.mp c2)
            rw [if_pos c2, if_neg c3, am_b1_some, if_neg one0, if_neg (show ¬ (2 : Int32) = 0 by decide), if_neg (show ¬ (2 : Int32) = 1 by decide), z1, am_b2_some, hb69' _ _ _ (fw_settleN z5.2.2.2.2.2.1), z2, am_b2_some]
            exact ⟨-6, Ia, Ir1, rfl, rfl, nd, z3, z4, z6, z7⟩
          · have c3 : I (g + 3) p < v := Int32.not_le.mp c2
            rw [if_neg c2, if_pos c3, am_b1_some, if_pos rfl, am_b2_some, hb69 _ (by decide)]
            exact PA.same hv hw rfl rfl
        · rw [if_neg c, if_neg c, am_b1_some, if_pos rfl, am_b2_some, hb69 _ (by decide)]
          exact PA.same hv hw rfl rfl
      · have hne : ¬ I (g + 14) p = -6 := fun z => by
          rw [z] at hbp
          have := congrArg Int32.toInt hbp.1
          rw [n6I] at this
          have := hpb.1
          omega
        have hlt : ¬ I (g + 14) p < 0 := fun z => by
          have := Int32.lt_iff_toInt_lt.mp z
          rw [zI, hbp.1] at this
          have := hpb.1
          omega
        rw [if_neg hlt, f_X1_claim, fw_bidOf hp6, am_b1_some, if_neg (show ¬ I (g + 13 + 1) p = -6 from hne), am_b2_some, hb69 _ (by decide)]
        exact PA.same hv hw rfl rfl
  · rw [fw_hasSeat_out qnp ho, fw_isPout (a0.trans qnp) (by omega) q6 ho, am_b1_some, am_b1_some, if_pos rfl, if_pos rfl]
    exact PA.same hv hw rfl rfl
theorem pass_pair {I Ir : aI} {g m np nl nd : Nat} (hv : IV I g np nl nd) (hw : RW I g (Ir (m + 1)) nl nd) (a : Int32) : PA g m np nl I Ir (f_X1_takePass g a I) (f_X7_pass m a Ir) := by
  obtain ⟨q2, q6, q1, q12, qnp, qnl, qnd⟩ := id hv.1
  obtain ⟨⟨a0, a1, a2⟩, hset, hrp, hb, -, r3, r4, r5, r6, r7, r8, r9⟩ := id hw
  rw [f_X1_takePass, f_X7_pass]
  rcases seat_cases a np (by omega) with ⟨p, hp, rfl⟩ | ho
  · rw [fw_hasSeat_in qnp q6 hp, fw_isPin (a0.trans qnp) q6 hp, am_b1_some, am_b1_some, if_neg one0, if_neg one0, fw_goesR hw, am_b1_some, r4, r8]
    have hb48 : ∀ e : Int32, e ≠ -6 → ∀ J, f_X1_takePass_b48 g e J = some (e, J) := fun e he J => by rw [f_X1_takePass_b48, if_neg he]
    have hb48' : ∀ (J J1 : aI) (r : Int32), f_X1_settle g J = some (r, J1) → f_X1_takePass_b48 g (-6) J = some (r, J1) := fun J J1 r hs => by rw [f_X1_takePass_b48, if_pos rfl, hs, am_b2_some]
    rcases hv.2.2.2.2 with hn | ⟨h1, hu | hu | hu⟩
    · rw [hn.1, if_neg (show ¬ (-6 : Int32) = 0 by decide), if_pos (show (-6 : Int32) = -6 from rfl), if_pos (show (0 : Int32) = 0 from rfl), f_X1_takePass_b32, hn.1, if_neg (show ¬ (-6 : Int32) = 2 by decide), hb48 _ (by decide)]
      exact PA.same hv hw rfl rfl
    · obtain ⟨h0, hrs, hwn, ⟨t, ht, htn, hto, htl⟩, -⟩ := id hu
      have hb32 : ∀ (e : Int32) (J : aI), J (g + 13) 0 = 0 → f_X1_takePass_b32 g e J = f_X1_takePass_b48 g e J := fun e J hJ => by
        rw [f_X1_takePass_b32, hJ, if_neg (show ¬ (0 : Int32) = 2 by decide)]
      rw [h0, if_pos (show (0 : Int32) = 0 from rfl), if_neg (show ¬ (0 : Int32) = -6 by decide), if_neg one0, if_neg (show ¬ (0 : Int32) = 1 by decide), if_pos (show (0 : Int32) = 0 from rfl), htn]
      by_cases e : p = t
      · subst e
        obtain ⟨r, Ia, I1, Ir1, z0, z1, z2, z3, z4, -⟩ := open_pass hv hw hu h1 hp htn
        rw [if_pos rfl, f_X7_pass_b50, r4, h0, if_pos rfl, z1, am_b2_some, hb32 _ _ z0, hb48' _ _ _ z2, z3, am_b2_some]
        exact ⟨r, I1, Ir1, rfl, rfl, z4⟩
      · have hne : ¬ nI t = nI p := by rw [nI_inj (by omega) (by omega)]; exact fun q => e q.symm
        rw [if_neg hne, f_X1_stepOut, htn, if_neg (fun q => hne q.symm), am_b2_some, hb32 _ _ h0, hb48 _ (by decide)]
        exact PA.same hv hw rfl rfl
    · obtain ⟨h0, -⟩ := id hu
      rw [h0, if_neg (show ¬ (1 : Int32) = 0 by decide), if_neg (show ¬ (1 : Int32) = -6 by decide), if_neg one0, if_pos (show (1 : Int32) = 1 from rfl), f_X1_takePass_b32, h0, if_neg (show ¬ (1 : Int32) = 2 by decide), hb48 _ (by decide)]
      exact PA.same hv hw rfl rfl
    · obtain ⟨h0, -⟩ := id hu
      obtain ⟨r, Ia, I1, Ir1, z1, z2, z3, z4, -⟩ := fall_pair hv hw hu h1
      rw [h0, if_neg (show ¬ (2 : Int32) = 0 by decide), if_neg (show ¬ (2 : Int32) = -6 by decide), if_neg one0, if_neg (show ¬ (2 : Int32) = 1 by decide), if_neg (show ¬ (2 : Int32) = 0 by decide), f_X1_takePass_b32, h0, if_pos (show (2 : Int32) = 2 from rfl), z1, am_b2_some, hb48' _ _ _ z2, f_X7_pass_b50, r4, h0, if_neg (show ¬ (2 : Int32) = 0 by decide), z3, am_b2_some]
      exact ⟨r, I1, Ir1, rfl, rfl, z4⟩
  · rw [fw_hasSeat_out qnp ho, fw_isPout (a0.trans qnp) (by omega) q6 ho, am_b1_some, am_b1_some, if_pos rfl, if_pos rfl]
    exact PA.same hv hw rfl rfl
