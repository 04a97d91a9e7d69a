/-! PURE: questions about a game -/
def QP (m : Nat) (Ir : aI) (u : Option Int32) (w : Option (Int32 × aI)) : Prop := ∃ r c, u = some r ∧ w = some (r, rwS Ir m c)
theorem rwS_id (I : aI) (m : Nat) : rwS I m (I (m + 6)) = I := by
  funext q
  unfold rwS
  by_cases h : q = m + 6
  · rw [if_pos h, h]
  · rw [if_neg h]
theorem QP.same {m : Nat} {Ir : aI} {u : Option Int32} {w : Option (Int32 × aI)} {r : Int32} (hx : u = some r) (hy : w = some (r, Ir)) : QP m Ir u w := ⟨r, Ir (m + 6), hx, by rw [rwS_id]; exact hy⟩
theorem QP.next {m : Nat} {Ir : aI} {c : Nat → Int32} {u : Option Int32} {w : Option (Int32 × aI)} (h : QP m (rwS Ir m c) u w) : QP m Ir u w := by
  obtain ⟨r, d, h1, h2⟩ := h
  exact ⟨r, d, h1, by rw [h2, rwS_rwS]⟩
theorem place_h {g m np nl nd p : Nat} {I : aI} {s : Int32} (hv : IV I g np nl nd) : ∀ (n j : Nat) (Ir : aI) (l : Int32), RW I g (Ir (m + 1)) nl nd → j ≤ np → np < n + j → QP m Ir (f_X1_placeOf_h11 g n (nI p) s l (nI j) I) (f_X7_placeOf_h11 m n (nI p) l s (nI j) Ir) := by
  obtain ⟨q2, q6, q1, q12, qnp, qnl, qnd⟩ := id hv.1
  intro n
  induction n with
  | zero => intro j Ir l hw h1 h2; omega
  | succ n ih =>
    intro j Ir l hw h1 h2
    rw [f_X1_placeOf_h11, f_X7_placeOf_h11, hw.1.1, qnp]
    by_cases c : np ≤ j
    · rw [if_pos (nI_le c (by omega)), if_pos (nI_le c (by omega))]
      exact QP.same rfl rfl
    · have hj : j < np := by omega
      obtain ⟨c', hs⟩ := fw_scoR (m := m) hv.1 hv.2.1 hv.2.2.2.1 hw.1 hw.2.1 hw.2.2.1 hw.2.2.2.2.1 hj
      have hw2 := rw_scratch (c := c') hw
      have step : ∀ l, QP m Ir (f_X1_placeOf_h11 g n (nI p) s l (nI j + 1) I) (f_X7_placeOf_h11 m n (nI p) l s (nI j + 1) (rwS Ir m c')) := fun l => by
        rw [nI_1]
        exact (ih (j + 1) _ l hw2 (by omega) (by omega)).next
      have hge : ¬ nI np ≤ nI j := nI_ge (by omega) (by omega)
      rw [if_neg hge, if_neg hge, fw_scoC hv.1 hv.2.1 hv.2.2.2.1 hj, am_b1_some, hs, am_b2_some]
      by_cases c1 : s < scoV I g j nd
      · rw [if_pos c1, if_pos c1, am_let_ap]; exact step _
      · rw [if_neg c1, if_neg c1]
        by_cases c2 : scoV I g j nd = s
        · rw [if_pos c2, if_pos c2]
          by_cases c3 : nI p ≤ nI j
          · rw [if_pos c3, if_pos c3, am_let_ap, Int32.add_zero]; exact step _
          · rw [if_neg c3, if_neg c3, am_let_ap]; exact step _
        · rw [if_neg c2, if_neg c2, am_let_ap, Int32.add_zero]; exact step _
def oS (I : aI) (g p : Nat) : Nat → Int32
  | 0 => 0
  | n + 1 => if bt (I (g + 11) n) p = true then oS I g p n ||| am_shl 1 (nI n) else oS I g p n
theorem oS_stay {I : aI} {g p m : Nat} : ∀ n, m ≤ n → (∀ k, m ≤ k → k < n → bt (I (g + 11) k) p = false) → oS I g p n = oS I g p m := by
  intro n
  induction n with
  | zero => intro h _; rw [show m = 0 by omega]
  | succ n ih =>
    intro h h2
    by_cases e : m = n + 1
    · rw [e]
    · rw [oS, h2 n (by omega) (by omega), if_neg (by decide), ih (by omega) (fun k h3 h4 => h2 k h3 (by omega))]
theorem ownC_h {I : aI} {g p nl nd : Nat} (hn : I (g + 8) 0 = nI nl) (hd : I (g + 8) 1 = nI nd) (h1 : nd ≤ nl) (h12 : nl ≤ 12) : ∀ (n j : Nat), j ≤ nd → nd < n + j → f_X2_ownedBy_h4 (g + 8) n (nI p) (oS I g p j) (nI j) I = some (oS I g p nd) := by
  intro n
  induction n with
  | zero => intro j h1 h2; omega
  | succ n ih =>
    intro j h2 h3
    rw [f_X2_ownedBy_h4, hd]
    by_cases c : nd ≤ j
    · rw [if_pos (nI_le c (by omega)), show j = nd by omega]
    · have h5 := ih (j + 1) (by omega) (by omega)
      rw [oS] at h5
      rw [if_neg (nI_ge (by omega) (by omega)), fw_owns hn h12 (by omega), am_b1_some, nI_1]
      by_cases e : bt (I (g + 11) j) p = true
      · rw [if_pos e] at h5
        rw [if_pos (show bt (I (g + 8 + 3) j) p = true from e), if_neg one0, am_let_ap]
        exact h5
      · rw [if_neg e] at h5
        rw [if_neg (show ¬ bt (I (g + 8 + 3) j) p = true from e), if_pos rfl]
        exact h5
theorem ownR_h {I Ir : aI} {g m p nl nd : Nat} (h12 : nl ≤ 12) (h1 : Ir (m + 1) 1 = nI nl) (hl : RLl I g (Ir (m + 1)) nl nd) : ∀ (n j : Nat), j ≤ nl → nl < n + j → f_X7_lotsOf_h4 m n (nI p) (oS I g p j) (nI j) Ir = some (oS I g p nl) := by
  intro n
  induction n with
  | zero => intro j h1 h2; omega
  | succ n ih =>
    intro j h2 h3
    rw [f_X7_lotsOf_h4, h1]
    by_cases c : nl ≤ j
    · rw [if_pos (nI_le c (by omega)), show j = nl by omega]
    · have h5 := ih (j + 1) (by omega) (by omega)
      rw [oS] at h5
      rw [if_neg (nI_ge (by omega) (by omega)), show f_X7_ofLot m (nI j) 2 Ir = _ from fw_ofLot (c := 2) (show j < 12 by omega) (by omega), am_b1_some, (hl j (by omega)).2.2.1, nI_1]
      cases e : bt (I (g + 11) j) p
      · rw [if_neg (by rw [e]; decide)] at h5
        rw [if_neg (by rw [bt_f e]; decide), am_let_ap, Int32.or_zero]
        exact h5
      · rw [if_pos e] at h5
        rw [if_pos (bt_t e), am_let_ap]
        exact h5
theorem player_pair {I Ir : aI} {x m np nl nd : Nat} (hv : IV I (x + 1) np nl nd) (hw : RW I (x + 1) (Ir (m + 1)) nl nd) (a k : Int32) : QP m Ir (f_X6_player x a k I) (f_X7_player m a k Ir) := by
  have hF := am_F_big
  obtain ⟨q2, q6, q1, q12, qnp, qnl, qnd⟩ := id hv.1
  obtain ⟨⟨a0, a1, a2⟩, hset, hrp, hb, hrl, -⟩ := id hw
  have e3 : x + 3 = x + 1 + 2 := by omega
  have e9 : x + 9 = x + 1 + 8 := by omega
  have e14 : x + 14 = x + 1 + 13 := by omega
  rw [f_X6_player, f_X7_player, e3, e9, e14]
  rcases seat_cases a np (by omega) with ⟨p, hp, rfl⟩ | ho
  · have hp6 : p < 6 := by omega
    rw [fw_hasSeat_in qnp q6 hp, fw_isPin (a0.trans qnp) q6 hp, am_b1_some, am_b1_some, if_neg one0, if_neg one0]
    by_cases k0 : k = 0
    · subst k0
      rw [if_pos rfl, if_pos rfl, fw_amountOf qnp q6 hp, am_b1_some, fw_ofAmt hw hp6, am_b1_some]
      exact QP.same rfl rfl
    rw [if_neg k0, if_neg k0]
    by_cases k1 : k = 1
    · subst k1
      rw [if_pos rfl, if_pos rfl, fw_boldnessOf qnp q6 hp, am_b1_some, show f_X7_of m (nI p) 1 Ir = _ from fw_of (c := 1) hp6 (by omega), (hrp p hp6).2.1, am_b1_some]
      exact QP.same rfl rfl
    rw [if_neg k1, if_neg k1]
    by_cases k2 : k = 2
    · subst k2
      rw [if_pos rfl, if_pos rfl, fw_paidBy qnp q6 hp, am_b1_some, show f_X7_of m (nI p) 2 Ir = _ from fw_of (c := 2) hp6 (by omega), (hrp p hp6).2.2.1, am_b1_some]
      exact QP.same rfl rfl
    rw [if_neg k2, if_neg k2]
    by_cases k3 : k = 3
    · subst k3
      obtain ⟨c', hs⟩ := fw_valR (m := m) hv.1 hv.2.2.2.1 hw.1 hset hrl hp
      rw [if_pos rfl, if_pos rfl, fw_valC hv.1 hv.2.2.2.1, am_b1_some, hs, am_b2_some]
      exact ⟨_, c', rfl, rfl⟩
    rw [if_neg k3, if_neg k3]
    by_cases k4 : k = 4
    · subst k4
      obtain ⟨c', hs⟩ := fw_scoR (m := m) hv.1 hv.2.1 hv.2.2.2.1 hw.1 hset hrp hrl hp
      rw [if_pos rfl, if_pos rfl, fw_scoC hv.1 hv.2.1 hv.2.2.2.1 hp, am_b1_some, hs, am_b2_some]
      exact ⟨_, c', rfl, rfl⟩
    rw [if_neg k4, if_neg k4]
    by_cases k5 : k = 5
    · subst k5
      obtain ⟨c', hs⟩ := fw_scoR (m := m) hv.1 hv.2.1 hv.2.2.2.1 hw.1 hset hrp hrl hp
      obtain ⟨r, d, z1, z2⟩ := place_h (m := m) (p := p) (s := scoV I (x + 1) p nd) hv am_F 0 (rwS Ir m c') 1 (rw_scratch hw) (by omega) (by omega)
      rw [if_pos rfl, if_pos rfl, f_X1_placeOf, fw_scoC hv.1 hv.2.1 hv.2.2.2.1 hp, am_b1_some, f_X7_placeOf, hs, am_b2_some]
      refine ⟨r, d, ?_, ?_⟩
      · rw [show f_X1_placeOf_h11 (x + 1) am_F (nI p) (scoV I (x + 1) p nd) 1 0 I = some r from z1, am_b1_some]
      · rw [show f_X7_placeOf_h11 m am_F (nI p) 1 (scoV I (x + 1) p nd) 0 (rwS Ir m c') = _ from z2, am_b2_some, rwS_rwS]
    rw [if_neg k5, if_neg k5]
    by_cases k6 : k = 6
    · subst k6
      have z1 := ownC_h (g := x + 1) (p := p) qnl qnd q1 q12 am_F 0 (by omega) (by omega)
      have z2 := ownR_h (I := I) (Ir := Ir) (g := x + 1) (m := m) (p := p) q12 (a1.trans qnl) hrl am_F 0 (by omega) (by omega)
      have z3 : oS I (x + 1) p nl = oS I (x + 1) p nd := oS_stay nl q1 (fun k h3 h4 => by rw [(hv.2.2.2.1 k h4).2.2.2 h3]; exact bt_zero p hp6)
      rw [if_pos rfl, if_pos rfl, f_X2_ownedBy, show f_X2_ownedBy_h4 (x + 1 + 8) am_F (nI p) 0 0 I = _ from z1, am_b1_some, f_X7_lotsOf, show f_X7_lotsOf_h4 m am_F (nI p) 0 0 Ir = _ from z2, am_b1_some, z3]
      exact QP.same rfl rfl
    rw [if_neg k6, if_neg k6]
    by_cases k7 : k = 7
    · subst k7
      obtain ⟨c', hs⟩ := fw_limR (m := m) hv.1 hv.2.1 hv.2.2.2.1 hw.1 hset hrp hrl hp
      rw [if_pos rfl, if_pos rfl, fw_limC hv.1 hv.2.2.2.1 hp, am_b1_some, hs, am_b2_some]
      exact ⟨_, c', rfl, rfl⟩
    rw [if_neg k7, if_neg k7]
    by_cases k8 : k = 8
    · subst k8
      rw [if_pos rfl, if_pos rfl, fw_bidOf hp6, am_b1_some, fw_ofBid hw hp6, am_b1_some]
      exact QP.same rfl rfl
    rw [if_neg k8, if_neg k8]
    by_cases k9 : k = 9
    · subst k9
      rw [if_pos rfl, if_pos rfl, f_X0_isOut, show f_X7_of m (nI p) 6 Ir = _ from fw_of (c := 6) hp6 (by omega), (hb p hp6).2, am_b1_some]
      cases e : bt (I (x + 1 + 13) 6) p
      · rw [if_neg (by rw [bt_f e]; decide), am_b1_some, if_pos rfl]
        exact QP.same rfl rfl
      · rw [if_pos (bt_t e), am_b1_some, if_neg one0]
        exact QP.same rfl rfl
    rw [if_neg k9, if_neg k9]
    exact QP.same rfl rfl
  · rw [fw_hasSeat_out qnp ho, fw_isPout (a0.trans qnp) (by omega) q6 ho, am_b1_some, am_b1_some, if_pos rfl, if_pos rfl]
    exact QP.same rfl rfl
theorem needed_h {g m np nl nd p : Nat} {I : aI} {v : Int32} (hv : IV I g np nl nd) (h1 : nd < nl) (hp : p < np) (hv0 : 1 ≤ v.toInt) : ∀ (n j : Nat) (Ir : aI) (l : Int32), RW I g (Ir (m + 1)) nl nd → v.toInt ≤ l.toInt → j ≤ np → np < n + j → ∃ r c, f_X1_neededAgainst_h5 g n (nI p) l (nI j) I = some r ∧ f_X7_leastBid_h53 m n (nI p) v l (nI j) Ir = some (if I (g + 3) p < r then -6 else r, rwS Ir m c) := by
  obtain ⟨q2, q6, q1, q12, qnp, qnl, qnd⟩ := id hv.1
  intro n
  induction n with
  | zero => intro j Ir l hw hl h1 h2; omega
  | succ n ih =>
    intro j Ir l hw hl h2 h3
    rw [f_X1_neededAgainst_h5, f_X7_leastBid_h53, hw.1.1, qnp]
    by_cases c : np ≤ j
    · rw [if_pos (nI_le c (by omega)), if_pos (nI_le c (by omega)), f_X7_leastBid_b102, fw_ofAmt hw (by omega), am_b1_some]
      refine ⟨l, Ir (m + 6), rfl, ?_⟩
      rw [rwS_id]
      split <;> rfl
    · have hj : j < np := by omega
      rw [if_neg (nI_ge (by omega) (by omega)), if_neg (nI_ge (by omega) (by omega)), nI_1]
      by_cases c1 : j = p
      · subst c1
        rw [if_pos rfl, if_pos rfl, f_X7_leastBid_b81, if_pos (Int32.le_iff_toInt_le.mpr (by rw [zI]; omega)), nI_1]
        exact ih (j + 1) Ir l hw hl (by omega) (by omega)
      · have hne : ¬ nI j = nI p := by rw [nI_inj (by omega) (by omega)]; exact c1
        obtain ⟨d1, hl1⟩ := fw_limR (m := m) hv.1 hv.2.1 hv.2.2.2.1 hw.1 hw.2.1 hw.2.2.1 hw.2.2.2.2.1 hj
        have hw1 := rw_scratch (c := d1) hw
        obtain ⟨d2, hl2⟩ := fw_limR (m := m) (Ir := rwS Ir m d1) hv.1 hv.2.1 hv.2.2.2.1 hw1.1 hw1.2.1 hw1.2.2.1 hw1.2.2.2.2.1 hj
        have hw2 := rw_scratch (c := d2) hw1
        rw [if_neg hne, if_neg hne, fw_limC hv.1 hv.2.2.2.1 hj, am_b1_some, am_let_ap, f_X7_sealedOf, hl1, am_b2_some]
        by_cases c2 : limV I g j nl nd < v
        · have c3 : am_max l (limV I g j nl nd) = l := by
            unfold am_max
            rw [if_neg]
            intro z
            have := Int32.lt_iff_toInt_lt.mp z
            have := Int32.lt_iff_toInt_lt.mp c2
            omega
          rw [if_pos c2, am_b2_some, f_X7_leastBid_b81, if_pos (Int32.le_iff_toInt_le.mpr (by rw [zI]; omega)), nI_1, c3]
          obtain ⟨r, d, z1, z2⟩ := ih (j + 1) (rwS Ir m d1) l hw1 hl (by omega) (by omega)
          exact ⟨r, d, z1, by rw [z2, rwS_rwS]⟩
        · rw [if_neg c2, hl2, am_b2_some, am_b2_some, f_X7_leastBid_b81, nI_1]
          by_cases c4 : limV I g j nl nd ≤ l
          · have c3 : am_max l (limV I g j nl nd) = l := by
              unfold am_max
              rw [if_neg]
              intro z
              have := Int32.lt_iff_toInt_lt.mp z
              have := Int32.le_iff_toInt_le.mp c4
              omega
            rw [if_pos c4, c3]
            obtain ⟨r, d, z1, z2⟩ := ih (j + 1) _ l hw2 hl (by omega) (by omega)
            exact ⟨r, d, z1, by rw [z2, rwS_rwS, rwS_rwS]⟩
          · have c5 := Int32.not_le.mp c4
            have c3 : am_max l (limV I g j nl nd) = limV I g j nl nd := by
              unfold am_max
              rw [if_pos c5]
            rw [if_neg c4, c3]
            have := Int32.lt_iff_toInt_lt.mp c5
            obtain ⟨r, d, z1, z2⟩ := ih (j + 1) _ (limV I g j nl nd) hw2 (by omega) (by omega) (by omega)
            exact ⟨r, d, z1, by rw [z2, rwS_rwS, rwS_rwS]⟩
theorem least_pair {I Ir : aI} {x m np nl nd : Nat} (hv : IV I (x + 1) np nl nd) (hw : RW I (x + 1) (Ir (m + 1)) nl nd) (a v : Int32) : QP m Ir (f_X6_leastBid x a v I) (f_X7_leastBid m a v Ir) := by
  have hF := am_F_big
  obtain ⟨q2, q6, q1, q12, qnp, qnl, qnd⟩ := id hv.1
  obtain ⟨⟨a0, a1, a2⟩, -⟩ := id hw
  have e3 : x + 3 = x + 1 + 2 := by omega
  have e9 : x + 9 = x + 1 + 8 := by omega
  have e14 : x + 14 = x + 1 + 13 := by omega
  rw [f_X6_leastBid, f_X7_leastBid, e3, e9, e14]
  rcases seat_cases a np (by omega) with ⟨p, hp, rfl⟩ | ho
  · rw [fw_hasSeat_in qnp q6 hp, fw_isPin (a0.trans qnp) q6 hp, am_b1_some, am_b1_some, if_neg one0, if_neg one0, fw_isReserve, am_b1_some, fw_in, am_b1_some]
    by_cases c2 : v < 1 ∨ 300 < v
    · rw [if_pos c2, if_pos rfl, if_pos rfl]
      exact QP.same rfl rfl
    rw [if_neg c2, if_neg one0, if_neg one0, fw_goesC, am_b1_some, fw_goesR hw, am_b1_some]
    by_cases c3 : I (x + 1 + 13) 0 = -6
    · rw [if_pos c3, if_pos rfl, if_pos rfl, fw_forSale qnl qnd q12 q1, am_b1_some, fw_nextR (a1.trans qnl) (a2.trans qnd) q12 q1, am_b1_some, fw_lastNextR (a1.trans qnl) (a2.trans qnd) q12 q1]
      by_cases c4 : nd + 1 < nl
      · obtain ⟨r, d, z1, z2⟩ := needed_h (m := m) (p := p) (v := v) hv (by omega) hp (bd_of c2).1 am_F 0 Ir v hw (Int.le_refl _) (by omega) (by omega)
        rw [if_pos c4, if_neg one0, if_pos (show nd < nl by omega), if_neg (nI_pos (by omega)), am_b1_some, if_neg (show ¬ nd + 1 = nl by omega), if_pos rfl, f_X1_neededAgainst, show f_X1_neededAgainst_h5 (x + 1) am_F (nI p) v 0 I = some r from z1, am_b1_some, fw_amountOf qnp q6 hp, am_b1_some]
        refine ⟨_, d, ?_, z2⟩
        show (if I (x + 1 + 3) p < r then some (-6 : Int32) else some r) = _
        split <;> rfl
      · rw [if_neg c4, if_pos rfl]
        by_cases c5 : nd < nl
        · rw [if_pos c5, if_neg (nI_pos (by omega)), am_b1_some, if_pos (show nd + 1 = nl by omega), if_neg one0]
          exact QP.same rfl rfl
        · rw [if_neg c5, if_pos (show (-6 : Int32) < 0 by decide)]
          exact QP.same rfl rfl
    · rw [if_neg c3, if_neg one0, if_neg one0]
      exact QP.same rfl rfl
  · rw [fw_hasSeat_out qnp ho, fw_isPout (a0.trans qnp) (by omega) q6 ho, am_b1_some, am_b1_some, if_pos rfl, if_pos rfl]
    exact QP.same rfl rfl
