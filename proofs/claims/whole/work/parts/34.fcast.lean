/-! PURE: forecasts -/
def muI (I : aI) (g nl nd : Nat) : Int := ((nl : Int) - nd) * 1000 + (if I (g + 13) 0 = -6 then 999 else inn I g)
theorem inn_bd {I : aI} {g np nl nd : Nat} (hv : IV I g np nl nd) (h : ¬ I (g + 13) 0 = -6) : nd + 1 < nl ∧ 0 ≤ inn I g ∧ inn I g ≤ 300 := by
  have h40 := hv.2.1.2.2.1.2
  have h6 := hv.1.2.1
  rcases hv.2.2.2.2 with hn | ⟨h1, hu | hu | hu⟩
  · exact absurd hn.1 h
  · obtain ⟨h0, hrs, hwn, -, ⟨b, hbn, hbs⟩, ⟨w, hw, how⟩, -⟩ := hu
    refine ⟨h1, ?_⟩
    unfold inn
    rw [h0, if_pos rfl, hbn, how, nI_toInt (by omega), nI_toInt (by omega)]
    omega
  · obtain ⟨h0, hrs, l2, l3, l4, l6, l7, hbs, hct, hcl⟩ := hu
    refine ⟨h1, ?_⟩
    unfold inn
    rw [h0, if_neg (show ¬ (1 : Int32) = 0 by decide), if_pos rfl, hct, nI_toInt (by omega)]
    omega
  · obtain ⟨h0, hpb, -⟩ := hu
    refine ⟨h1, ?_⟩
    unfold inn
    rw [h0, if_neg (show ¬ (2 : Int32) = 0 by decide), if_neg (show ¬ (2 : Int32) = 1 by decide)]
    have := hpb.1
    have := hpb.2
    omega
theorem fc_pair {x m np nl p : Nat} {a v : Int32} (hp : p < np) (ha : ¬ (a < 0 ∨ 2 < a)) (hv1 : ¬ (v < 1 ∨ 300 < v)) : ∀ (M n1 n2 j nd : Nat) (I Ir : aI) (l : Int32), IV I (x + 16) np nl nd → RW I (x + 16) (Ir (m + 1)) nl nd → muI I (x + 16) nl nd ≤ M → j + M < 1000000 → M < n1 → M < n2 →
    ∃ s I1 Ir1, f_X6_forecast_h47 x n1 a v (nI p) (nI j) I = some (s, I1) ∧ f_X7_scoreAtEnd_h7 m n2 a v (nI p) l Ir = (am_b1 (f_X7_putBack m Ir1) fun I2 => some (s, I2)) ∧ frC (x + 16) I I1 ∧ frR m Ir Ir1 := by
  intro M
  induction M with
  | zero =>
    intro n1 n2 j nd I Ir l hv hw hM
    have hnd := hv.1.2.2.1
    unfold muI at hM
    by_cases c : I (x + 16 + 13) 0 = -6
    · rw [if_pos c] at hM; omega
    · obtain ⟨i1, i2, i3⟩ := inn_bd hv c
      rw [if_neg c] at hM; omega
  | succ M ih =>
    intro n1 n2 j nd I Ir l hv hw hM hj hn1 hn2
    obtain ⟨n1, rfl⟩ : ∃ k, n1 = k + 1 := ⟨n1 - 1, by omega⟩
    obtain ⟨n2, rfl⟩ : ∃ k, n2 = k + 1 := ⟨n2 - 1, by omega⟩
    obtain ⟨q2, q6, q1, q12, qnp, qnl, qnd⟩ := id hv.1
    obtain ⟨⟨a0, a1, a2⟩, -⟩ := id hw
    have e24 : x + 24 = x + 16 + 8 := by omega
    have e29 : x + 29 = x + 16 + 13 := by omega
    have hme := mode_cases ha
    have hme6 : ¬ a = -6 := by
      rcases hme with rfl | rfl | rfl <;> decide
    rw [f_X6_forecast_h47, f_X7_scoreAtEnd_h7, show (1000000 : Int32) = nI 1000000 from rfl, if_neg (nI_ge (by omega) (by omega)), e24, fw_next qnl qnd q12 q1, am_b1_some, fw_nextR (a1.trans qnl) (a2.trans qnd) q12 q1, am_b1_some]
    by_cases c1 : nd < nl
    · rw [if_pos c1, if_neg (by rw [nI_n6 nd (by omega)]; exact fun h => h), if_neg (nI_pos (by omega)), e29, fw_goesC, am_b1_some, fw_goesR hw, am_b1_some]
      by_cases c2 : I (x + 16 + 13) 0 = -6
      · have hmu : muI I (x + 16) nl nd = ((nl : Int) - nd) * 1000 + 999 := by unfold muI; rw [if_pos c2]
        rw [if_pos c2, if_pos rfl, if_pos rfl, fw_forSale qnl qnd q12 q1, am_b1_some, fw_lastNextR (a1.trans qnl) (a2.trans qnd) q12 q1, am_b1_some]
        by_cases c3 : nd + 1 < nl
        · obtain ⟨I1, Ir1, z1, z2, z3, z4, z5, z6, z7⟩ := start_pair (m := m) hv hw c3 hme (bd_of hv1)
          have hS : f_X1_startAuction (x + 16) a v I = some (nI nd, I1) := by
            obtain ⟨q2', q6', q1', q12', qnp', qnl', qnd'⟩ := id z3.1
            rw [f_X1_startAuction, fw_isMode, am_b1_some, if_neg ha, if_neg one0, fw_isReserve, am_b1_some, if_neg hv1, if_neg one0, fw_goesC, am_b1_some, if_pos c2, if_pos rfl, fw_forSale qnl qnd q12 q1, am_b1_some, if_pos c3, if_neg one0, fw_starter hv.1, am_b1_some, z1, am_b1_some, fw_next qnl' qnd' q12' q1', if_pos c1, am_b1_some]
          have hne : ¬ I1 (x + 16 + 13) 0 = -6 := by rw [z5]; exact hme6
          have hb := inn_bd z3 hne
          have hmu1 : muI I1 (x + 16) nl nd ≤ M := by unfold muI; rw [if_neg hne]; omega
          obtain ⟨s, I2, Ir2, y1, y2, y3, y4⟩ := ih n1 n2 (j + 1) nd I1 Ir1 (l + nI nd) z3 z4 hmu1 (by omega) (by omega) (by omega)
          rw [if_pos c3, if_neg one0, if_neg (show ¬ nd + 1 = nl by omega), if_pos rfl, hS, am_b2_some, nI_1, y1, z2, am_b2_some, am_let_ap, y2]
          exact ⟨s, I2, Ir2, rfl, rfl, z6.tr y3, z7.tr y4⟩
        · have c4 : nd + 1 = nl := by omega
          obtain ⟨r, I1, Ir1, z1, z2, z3, z4, z6, z7⟩ := (last_pair hv hw).2 c4
          have hmu1 : muI I1 (x + 16) nl (nd + 1) ≤ M := by
            unfold muI
            by_cases c5 : I1 (x + 16 + 13) 0 = -6
            · rw [if_pos c5]; omega
            · have hb := inn_bd z3 c5
              omega
          obtain ⟨s, I2, Ir2, y1, y2, y3, y4⟩ := ih n1 n2 (j + 1) (nd + 1) I1 Ir1 (l + r) z3 z4 hmu1 (by omega) (by omega) (by omega)
          rw [if_neg c3, if_pos rfl, if_pos c4, if_neg one0, z1, am_b2_some, nI_1, y1, z2, am_b2_some, am_let_ap, y2]
          exact ⟨s, I2, Ir2, rfl, rfl, z6.tr y3, z7.tr y4⟩
      · have hb := inn_bd hv c2
        have hmu : muI I (x + 16) nl nd = ((nl : Int) - nd) * 1000 + inn I (x + 16) := by unfold muI; rw [if_neg c2]
        obtain ⟨r, I1, Ir1, z1, z2, ⟨nd1, z3, z4, z6, z7⟩, z5⟩ := move_step hv hw c2
        have hnd1 := z3.1.2.2.2.2.2.2
        have h1n := z3.1.2.2.1
        have hmu1 : muI I1 (x + 16) nl nd1 ≤ M := by
          rcases z5 with z5 | ⟨z5, z8, z9⟩
          · rw [hnd1, nI_inj (by omega) (by omega)] at z5
            unfold muI
            by_cases c5 : I1 (x + 16 + 13) 0 = -6
            · rw [if_pos c5]; omega
            · have hb := inn_bd z3 c5
              rw [if_neg c5]; omega
          · rw [hnd1, nI_inj (by omega) (by omega)] at z5
            unfold muI
            rw [if_neg (by rw [z9]; exact c2)]; omega
        obtain ⟨s, I2, Ir2, y1, y2, y3, y4⟩ := ih n1 n2 (j + 1) nd1 I1 Ir1 (l + r) z3 z4 hmu1 (by omega) (by omega) (by omega)
        rw [if_neg c2, if_neg one0, if_neg one0, z1, am_b2_some, nI_1, y1, z2, am_b2_some, am_let_ap, y2]
        exact ⟨s, I2, Ir2, rfl, rfl, z6.tr y3, z7.tr y4⟩
    · have hdn : nd = nl := by omega
      obtain ⟨c', hs⟩ := fw_scoR (m := m) hv.1 hv.2.1 hv.2.2.2.1 hw.1 hw.2.1 hw.2.2.1 hw.2.2.2.2.1 hp
      rw [if_neg c1, if_pos rfl, if_pos (show (-6 : Int32) < 0 by decide), fw_scoC hv.1 hv.2.1 hv.2.2.2.1 hp, am_b1_some, f_X7_scoreAtEnd_b56, hs, am_b2_some]
      exact ⟨_, I, rwS Ir m c', rfl, rfl, frC.rf, frR.rwS frR.rf⟩
/-- a forecast of both sides: the same answer, the games stand -/
theorem score_pair {I Ir : aI} {x m np nl nd p : Nat} {a v : Int32} (hv : IV I (x + 1) np nl nd) (hw : RW I (x + 1) (Ir (m + 1)) nl nd) (hp : p < np) (ha : ¬ (a < 0 ∨ 2 < a)) (hv1 : ¬ (v < 1 ∨ 300 < v)) :
    ∃ s I1 Ir1, f_X6_forecast x a v (nI p) I = some (s, I1) ∧ f_X7_scoreAtEnd m a v (nI p) Ir = some (s, Ir1) ∧ (∀ q, q < x + 17 ∨ x + 31 ≤ q → I1 q = I q) ∧ (∀ q, q ≠ m + 1 → q ≠ m + 2 → q ≠ m + 6 → Ir1 q = Ir q) ∧ (∀ k, k < 118 → Ir1 (m + 1) k = Ir (m + 1) k) := by
  have hF := am_F_val
  obtain ⟨q2, q6, q1, q12, qnp, qnl, qnd⟩ := id hv.1
  have hsm := tkO_same (I := I) (t := x + 16) (w := x + 1) (by omega)
  have hIV := iv_same hsm hv
  obtain ⟨Jr, hJr⟩ : ∃ Jr : aI, Jr = fun q k => if q = m + 2 ∧ k < 118 then Ir (m + 1) k else Ir q k := ⟨_, rfl⟩
  have hJ1 : Jr (m + 1) = Ir (m + 1) := by funext k; rw [hJr]; simp
  have hJ2 : ∀ k, k < 118 → Jr (m + 2) k = Ir (m + 1) k := fun k hk => by rw [hJr]; simp [hk]
  have hRW : RW (tkO I (x + 16) (x + 1)) (x + 16) (Jr (m + 1)) nl nd := rw_same hsm (fun k _ => by rw [hJ1]) q12 hw
  have hmu : muI (tkO I (x + 16) (x + 1)) (x + 16) nl nd ≤ (20000 : Nat) := by
    unfold muI
    by_cases c : tkO I (x + 16) (x + 1) (x + 16 + 13) 0 = -6
    · rw [if_pos c]; omega
    · have := inn_bd hIV c
      rw [if_neg c]; omega
  obtain ⟨s, I1, Ir1, z1, z2, z3, z4⟩ := fc_pair (x := x) (m := m) hp ha hv1 20000 am_F am_F 0 nd _ Jr 0 hIV hRW hmu (by omega) (by omega) (by omega)
  refine ⟨s, I1, fun q k => if q = m + 1 ∧ k < 118 then Ir1 (m + 2) k else Ir1 q k, ?_, ?_, ?_, ?_, ?_⟩
  · rw [f_X6_forecast, fw_hasSeat_in (by exact qnp) q6 hp, am_b1_some, if_neg one0, fw_isMode, am_b1_some, if_neg ha, if_neg one0, fw_isReserve, am_b1_some, if_neg hv1, if_neg one0, fw_takeOver (by omega), am_b1_some]
    exact z1
  · rw [f_X7_scoreAtEnd, fw_putAside, am_b1_some, ← hJr, z2, fw_putBack, am_b1_some]
  · intro q hq
    rw [z3 q (by omega), tkO_fr q (by omega)]
  · intro q n1 n2 n6
    funext k
    show (if q = m + 1 ∧ k < 118 then Ir1 (m + 2) k else Ir1 q k) = Ir q k
    rw [if_neg (by omega), z4 q n1 n6, hJr]
    simp [n2]
  · intro k hk
    simp only [hk, and_true, if_true]
    rw [z4 (m + 2) (by omega) (by omega), hJ2 k hk]
/-- one act on the two sides, whatever it changes of the games -/
def GP (x m : Nat) (I Ir : aI) (u w : Option (Int32 × aI)) : Prop := ∃ r I1 Ir1 np nl nd, u = some (r, I1) ∧ w = some (r, Ir1) ∧ IV I1 (x + 1) np nl nd ∧ RW I1 (x + 1) (Ir1 (m + 1)) nl nd ∧ (∀ q, q < x + 2 ∨ x + 31 ≤ q → I1 q = I q) ∧ (∀ q, q ≠ m + 1 → q ≠ m + 2 → q ≠ m + 6 → Ir1 q = Ir q)
theorem PA.gp {x m np nl : Nat} {I Ir : aI} {u w : Option (Int32 × aI)} (h : PA (x + 1) m np nl I Ir u w) : GP x m I Ir u w := by
  obtain ⟨r, I1, Ir1, h1, h2, nd1, h3, h4, h5, h6⟩ := h
  exact ⟨r, I1, Ir1, np, nl, nd1, h1, h2, h3, h4, fun q hq => h5 q (by omega), fun q n1 _ n6 => h6 q n1 n6⟩
theorem GP.same {x m np nl nd : Nat} {I Ir : aI} {u w : Option (Int32 × aI)} {r : Int32} (hv : IV I (x + 1) np nl nd) (hw : RW I (x + 1) (Ir (m + 1)) nl nd) (hx : u = some (r, I)) (hy : w = some (r, Ir)) : GP x m I Ir u w :=
  ⟨r, I, Ir, np, nl, nd, hx, hy, hv, hw, fun _ _ => rfl, fun _ _ _ _ => rfl⟩
theorem sameG.rf {I I1 : aI} {g : Nat} (h : ∀ q, g + 1 ≤ q → q < g + 15 → I1 q = I q) : sameG I g I1 g := fun j k h1 h2 _ => by rw [h (g + j) (by omega) (by omega)]
theorem fcast_pair {I Ir : aI} {x m np nl nd : Nat} (hv : IV I (x + 1) np nl nd) (hw : RW I (x + 1) (Ir (m + 1)) nl nd) (a v b : Int32) : GP x m I Ir (f_X6_forecast x a v b I) (f_X7_forecast m a v b Ir) := by
  obtain ⟨q2, q6, q1, q12, qnp, qnl, qnd⟩ := id hv.1
  obtain ⟨⟨a0, a1, a2⟩, -⟩ := id hw
  have e3 : x + 3 = x + 1 + 2 := by omega
  rcases seat_cases b np (by omega) with ⟨p, hp, rfl⟩ | ho
  · by_cases c1 : a < 0 ∨ 2 < a
    · rw [f_X6_forecast, f_X7_forecast, e3, fw_hasSeat_in qnp q6 hp, fw_isPin (a0.trans qnp) q6 hp, am_b1_some, am_b1_some, if_neg one0, if_neg one0, fw_isMode, am_b1_some, fw_in, am_b1_some, if_pos c1, if_pos rfl, if_pos rfl]
      exact GP.same hv hw rfl rfl
    by_cases c2 : v < 1 ∨ 300 < v
    · rw [f_X6_forecast, f_X7_forecast, e3, fw_hasSeat_in qnp q6 hp, fw_isPin (a0.trans qnp) q6 hp, am_b1_some, am_b1_some, if_neg one0, if_neg one0, fw_isMode, am_b1_some, fw_in, am_b1_some, if_neg c1, if_neg one0, if_neg one0, fw_isReserve, am_b1_some, fw_in, am_b1_some, if_pos c2, if_pos rfl, if_pos rfl]
      exact GP.same hv hw rfl rfl
    obtain ⟨s, I1, Ir1, z1, z2, z3, z4, z5⟩ := score_pair (m := m) hv hw hp c1 c2
    have hsm : sameG I (x + 1) I1 (x + 1) := sameG.rf (fun q h1 h2 => z3 q (by omega))
    refine ⟨s, I1, Ir1, np, nl, nd, z1, ?_, iv_same hsm hv, rw_same hsm z5 q12 hw, fun q hq => z3 q (by omega), z4⟩
    rw [f_X7_forecast, fw_isPin (a0.trans qnp) q6 hp, am_b1_some, if_neg one0, fw_in, am_b1_some, if_neg c1, if_neg one0, fw_in, am_b1_some, if_neg c2, if_neg one0, z2, am_b2_some]
  · rw [f_X6_forecast, f_X7_forecast, e3, fw_hasSeat_out qnp ho, fw_isPout (a0.trans qnp) (by omega) q6 ho, am_b1_some, am_b1_some, if_pos rfl, if_pos rfl]
    exact GP.same hv hw rfl rfl
theorem best_h {x m np nl nd p : Nat} {v : Int32} (hp : p < np) (hv1 : ¬ (v < 1 ∨ 300 < v)) : ∀ (n j : Nat) (I Ir : aI) (b s : Int32), IV I (x + 1) np nl nd → RW I (x + 1) (Ir (m + 1)) nl nd → j ≤ 3 → 3 < n + j → GP x m I Ir (f_X6_bestMode_h40 x n (nI p) v b s (nI j) I) (f_X7_bestMode_h38 m n (nI p) v b s (nI j) Ir) := by
  intro n
  induction n with
  | zero => intro j I Ir b s hv hw h1 h2; omega
  | succ n ih =>
    intro j I Ir b s hv hw h1 h2
    rw [f_X6_bestMode_h40, f_X7_bestMode_h38]
    by_cases c : 2 < j
    · have hn : (2 : Int32) < nI j := by rw [show (2 : Int32) = nI 2 from rfl, nI_ltq (by omega) (by omega)]; exact c
      rw [if_pos hn, if_pos hn]
      exact GP.same hv hw rfl rfl
    · have hn : ¬ (2 : Int32) < nI j := by rw [show (2 : Int32) = nI 2 from rfl, nI_ltq (by omega) (by omega)]; exact c
      have hj0 : ¬ (nI j < 0 ∨ 2 < nI j) := fun z => z.elim (fun q => nI_pos (by omega) q) (fun q => hn q)
      obtain ⟨r, I1, Ir1, z1, z2, z3, z4, z5⟩ := score_pair (m := m) (a := nI j) hv hw hp hj0 hv1
      have q12 := hv.1.2.2.2.1
      have hsm : sameG I (x + 1) I1 (x + 1) := sameG.rf (fun q h1 h2 => z3 q (by omega))
      have hv2 := iv_same hsm hv
      have hw2 := rw_same hsm z5 q12 hw
      have step : ∀ b s, GP x m I Ir (f_X6_bestMode_h40 x n (nI p) v b s (nI j + 1) I1) (f_X7_bestMode_h38 m n (nI p) v b s (nI j + 1) Ir1) := fun b s => by
        rw [nI_1]
        obtain ⟨r, J, Jr, np1, nl1, nd1, y1, y2, y3, y4, y5, y6⟩ := ih (j + 1) I1 Ir1 b s hv2 hw2 (by omega) (by omega)
        exact ⟨r, J, Jr, np1, nl1, nd1, y1, y2, y3, y4, fun q hq => (y5 q hq).trans (z3 q (by omega)), fun q n1 n2 n6 => (y6 q n1 n2 n6).trans (z4 q n1 n2 n6)⟩
      rw [if_neg hn, if_neg hn, z1, am_b2_some, z2, am_b2_some]
      by_cases c2 : r ≤ s
      · rw [if_pos c2, if_pos c2, f_X7_bestMode_b67, if_pos c2]; exact step b s
      · rw [if_neg c2, if_neg c2, f_X7_bestMode_b67, if_neg c2]; exact step (nI j) r
theorem best_pair {I Ir : aI} {x m np nl nd : Nat} (hv : IV I (x + 1) np nl nd) (hw : RW I (x + 1) (Ir (m + 1)) nl nd) (b v : Int32) : GP x m I Ir (f_X6_bestMode x b v I) (f_X7_bestMode m b v Ir) := by
  have hF := am_F_big
  obtain ⟨q2, q6, q1, q12, qnp, qnl, qnd⟩ := id hv.1
  obtain ⟨⟨a0, a1, a2⟩, -⟩ := id hw
  have e3 : x + 3 = x + 1 + 2 := by omega
  rw [f_X6_bestMode, f_X7_bestMode, e3]
  rcases seat_cases b np (by omega) with ⟨p, hp, rfl⟩ | ho
  · rw [fw_hasSeat_in qnp q6 hp, fw_isPin (a0.trans qnp) q6 hp, am_b1_some, am_b1_some, if_neg one0, if_neg one0, fw_isReserve, am_b1_some, fw_in, am_b1_some]
    by_cases c2 : v < 1 ∨ 300 < v
    · rw [if_pos c2, if_pos rfl, if_pos rfl]
      exact GP.same hv hw rfl rfl
    obtain ⟨s, I1, Ir1, z1, z2, z3, z4, z5⟩ := score_pair (m := m) (a := 0) hv hw hp (by decide) c2
    have hsm : sameG I (x + 1) I1 (x + 1) := sameG.rf (fun q h1 h2 => z3 q (by omega))
    rw [if_neg c2, if_neg one0, if_neg one0, z1, am_b2_some, z2, am_b2_some]
    obtain ⟨r, J, Jr, np1, nl1, nd1, y1, y2, y3, y4, y5, y6⟩ := best_h (m := m) (x := x) hp c2 am_F 1 I1 Ir1 0 s (iv_same hsm hv) (rw_same hsm z5 q12 hw) (by omega) (by omega)
    exact ⟨r, J, Jr, np1, nl1, nd1, y1, y2, y3, y4, fun q hq => (y5 q hq).trans (z3 q (by omega)), fun q n1 n2 n6 => (y6 q n1 n2 n6).trans (z4 q n1 n2 n6)⟩
  · rw [fw_hasSeat_out qnp ho, fw_isPout (a0.trans qnp) (by omega) q6 ho, am_b1_some, am_b1_some, if_pos rfl, if_pos rfl]
    exact GP.same hv hw rfl rfl
