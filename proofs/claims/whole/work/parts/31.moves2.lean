/-! PURE: a move, the last lot, an auction begins -/
def fwP (I : aI) (g np nd k : Nat) : Bool := !hasB I g ((nd % np + k) % np)
theorem firstC_h {I : aI} {g np st : Nat} (hn : I (g + 2) 0 = nI np) (h6 : np ≤ 6) (hs : st < np) : ∀ (n j : Nat), j ≤ np → np < n + j → f_X1_firstWithoutBid_h7 g n (nI st) (nI j) I = some (es st np (srch (fun k => !hasB I g ((st + k) % np)) (np - j) j)) := by
  intro n
  induction n with
  | zero => intro j h1 h2; omega
  | succ n ih =>
    intro j h1 h2
    rw [f_X1_firstWithoutBid_h7, hn]
    by_cases h : np ≤ j
    · rw [if_pos (nI_le h (by omega)), show np - j = 0 by omega]; rfl
    · have hm := Nat.mod_lt (st + j) (show np > 0 by omega)
      rw [if_neg (nI_ge (by omega) (by omega)), fw_seatBehind hn h6 hs (by omega), am_b1_some, fw_bidOf (show (st + j) % np < 6 by omega), am_b1_some, nI_1, ih (j + 1) (by omega) (by omega), show np - j = (np - (j + 1)) + 1 by omega, srch]
      cases hb : hasB I g ((st + j) % np)
      · rw [if_pos (hasB_f hb), if_pos (by rfl)]; rfl
      · rw [if_neg (hasB_t hb), if_neg (by simp)]
theorem firstR_h {I Ir : aI} {g m np nl nd : Nat} (hnp : 2 ≤ np) (h6 : np ≤ 6) (hd : nd ≤ 12) (h0 : Ir (m + 1) 0 = nI np) (h2 : Ir (m + 1) 2 = nI nd) (hw : RW I g (Ir (m + 1)) nl nd) (hbs : ∀ p, p < np → I (g + 14) p = -6 ∨ 0 ≤ (I (g + 14) p).toInt) : ∀ (n j : Nat), j ≤ np → j < n → f_X7_moveSealed_h12 m n (es (nd % np) np (srch (fun k => !hasB I g ((nd % np + k) % np)) (np - j) j)) (nI j - 1) Ir = f_X7_moveSealed_b45 m (es (nd % np) np (srch (fun k => !hasB I g ((nd % np + k) % np)) np 0)) Ir := by
  intro n
  induction n with
  | zero => intro j h1 h3; omega
  | succ n ih =>
    intro j h1 h3
    rw [f_X7_moveSealed_h12]
    cases j with
    | zero => rw [if_pos (show nI 0 - 1 < (0 : Int32) by decide)]; rfl
    | succ i =>
      have e1 : nI (i + 1) - 1 = nI i := by rw [show (1 : Int32) = nI 1 from rfl, nI_sub (by omega)]; rfl
      have hm := Nat.mod_lt (nd % np + i) (show np > 0 by omega)
      have hp6 : (nd % np + i) % np < 6 := by omega
      have h5 := ih i (by omega) (by omega)
      rw [show np - i = (np - (i + 1)) + 1 by omega, srch, Int32.sub_eq_add_neg] at h5
      rw [e1, if_neg (nI_pos (by omega)), fw_seatR h0 h2 hnp h6 hd (by omega), am_b1_some, fw_ofBid hw hp6, am_b1_some]
      cases hb : hasB I g ((nd % np + i) % np)
      · rw [hasB_f hb, if_neg (show ¬ (0 : Int32) ≤ -6 by decide), am_b1_some]
        rw [hb, if_pos (by rfl)] at h5
        exact h5
      · rcases hbs _ hm with q | q
        · exact absurd q (hasB_t hb)
        · rw [if_pos (Int32.le_iff_toInt_le.mpr (by rw [zI]; exact q))]
          rw [hb, if_neg (by simp)] at h5
          exact h5
theorem ctn_full {f : Nat → Bool} : ∀ n, (∀ k, k < n → f k = true) → ctn f n = n := by
  intro n
  induction n with
  | zero => intro _; rfl
  | succ n ih => intro h; rw [ctn, ih (fun k hk => h k (by omega)), h n (by omega)]; rfl
theorem move_step {I Ir : aI} {g m np nl nd : Nat} (hv : IV I g np nl nd) (hw : RW I g (Ir (m + 1)) nl nd) (hne : ¬ I (g + 13) 0 = -6) : ∃ r I1 Ir1, f_X1_moveAlone g I = some (r, I1) ∧ f_X7_makeMove m Ir = some (r, Ir1) ∧ PO I Ir g m np nl r I1 Ir1 ∧ pg g nd I I1 := by
  have hF := am_F_big
  obtain ⟨q2, q6, q1, q12, qnp, qnl, qnd⟩ := id hv.1
  obtain ⟨⟨a0, a1, a2⟩, hset, hrp, hb, hrl, r3, r4, r5, r6, r7, r8, r9⟩ := id hw
  rw [f_X1_moveAlone, fw_goesC, am_b1_some]
  rcases hv.2.2.2.2 with hn | ⟨h1, hu | hu | hu⟩
  · exact absurd hn.1 hne
  · obtain ⟨h0, hrs, hwn, ⟨t, ht, htn, hto, htl⟩, -⟩ := id hu
    obtain ⟨c', hlr⟩ := fw_limR (m := m) hv.1 hv.2.1 hv.2.2.2.1 hw.1 hset hrp hrl ht
    have hw2 := rw_scratch (c := c') hw
    rw [h0, if_neg (show ¬ (0 : Int32) = -6 by decide), if_neg one0, if_neg (show ¬ (0 : Int32) = 2 by decide), if_pos rfl, htn, f_X1_moveAlone_b62, fw_limC hv.1 hv.2.2.2.1 ht, am_b1_some, h0, if_neg (show ¬ (0 : Int32) = 1 by decide), fw_leastC, am_b1_some, am_b1_some, f_X7_makeMove, r4, h0, if_pos rfl, am_let_ap, r8, htn, fw_leastR q6 hu hw, am_b1_some, hlr, am_b2_some]
    by_cases c : limV I g t nl nd < leastV I g
    · obtain ⟨r, Ia, I1, Ir1, z0, z1, z2, z3, z4, z5⟩ := open_pass (Ir := rwS Ir m c') hv hw2 hu h1 ht htn
      rw [if_pos c, if_pos c, z1, am_b2_some, z2, am_b2_some, z3, am_b2_some]
      exact ⟨r, I1, Ir1, rfl, rfl, z4.of frC.rf (frR.rwS frR.rf), z5⟩
    · have hle := limV_le (I := I) (g := g) (p := t) (nl := nl) (nd := nd) (by omega)
      have hc := Int32.le_iff_toInt_le.mp (Int32.not_lt.mp c)
      obtain ⟨r, Ia, I1, Ir1, z0, z1, z2, z3, z4, z5⟩ := open_bid (Ir := rwS Ir m c') (v := leastV I g) hv hw2 hu h1 ht htn (Int.le_refl _) (by omega)
      rw [if_neg c, if_neg c, z1, am_b2_some, z2, am_b2_some, fw_leastR q6 hu hw2, am_b1_some, z3, am_b2_some]
      exact ⟨r, I1, Ir1, rfl, rfl, z4.of frC.rf (frR.rwS frR.rf), z5⟩
  · obtain ⟨h0, hrs, l2, l3, l4, l6, l7, hbs, hct, hcl⟩ := id hu
    rw [h0, if_neg (show ¬ (1 : Int32) = 2 by decide)] at r5
    have hs := Nat.mod_lt nd (show np > 0 by omega)
    have hC := firstC_h (g := g) qnp q6 hs am_F 0 (by omega) (by omega)
    have hR := firstR_h (I := I) (Ir := Ir) (g := g) (m := m) (nl := nl) q2 q6 (by omega) (a0.trans qnp) (a2.trans qnd) hw (fun p hp => (hbs p hp).imp id (fun z => z.1)) am_F np (by omega) (by omega)
    have eC : f_X1_firstWithoutBid g I = f_X1_firstWithoutBid_h7 g am_F (nI (nd % np)) (nI 0) I := by rw [f_X1_firstWithoutBid, fw_starter hv.1, am_b1_some]; rfl
    have eR : f_X7_moveSealed m Ir = f_X7_moveSealed_h12 m am_F (es (nd % np) np (srch (fun k => !hasB I g ((nd % np + k) % np)) (np - np) np)) (nI np - 1) Ir := by
      rw [f_X7_moveSealed, am_let_ap, a0, qnp, show np - np = 0 by omega]; rfl
    rw [Nat.sub_zero] at hC
    rw [h0, if_neg (show ¬ (1 : Int32) = -6 by decide), if_neg one0, if_neg (show ¬ (1 : Int32) = 2 by decide), if_neg (show ¬ (1 : Int32) = 0 by decide), eC, hC, am_b1_some, f_X7_makeMove, r4, h0, if_neg (show ¬ (1 : Int32) = 0 by decide), if_pos rfl, eR, hR]
    cases hsr : srch (fun k => !hasB I g ((nd % np + k) % np)) np 0 with
    | none =>
      have hnb := srch_none hsr
      have : ctn (hasB I g) np = np := ctn_full np (fun p hp => by
        have := hnb ((p + np - nd % np) % np) (by omega) (by have := Nat.mod_lt (p + np - nd % np) (show np > 0 by omega); omega)
        rw [(mod_hit hs hp _ (Nat.mod_lt _ (by omega))).mpr rfl] at this
        simpa using this)
      omega
    | some k =>
      obtain ⟨k1, k2, k3, -⟩ := srch_some hsr
      have hm := Nat.mod_lt (nd % np + k) (show np > 0 by omega)
      have hbk : I (g + 14) ((nd % np + k) % np) = -6 := hasB_f (by simpa using k3)
      obtain ⟨c1, hl1⟩ := fw_limR (m := m) hv.1 hv.2.1 hv.2.2.2.1 hw.1 hset hrp hrl hm
      have hw1 := rw_scratch (c := c1) hw
      obtain ⟨c2, hl2⟩ := fw_limR (m := m) (Ir := rwS Ir m c1) hv.1 hv.2.1 hv.2.2.2.1 hw1.1 hw1.2.1 hw1.2.2.1 hw1.2.2.2.2.1 hm
      have hw2 := rw_scratch (c := c2) hw1
      have hle := limV_le (I := I) (g := g) (p := (nd % np + k) % np) (nl := nl) (nd := nd) (by omega)
      have ham := hv.2.2.1 _ hm
      simp only [es]
      rw [f_X1_moveAlone_b62, fw_limC hv.1 hv.2.2.2.1 hm, am_b1_some, h0, if_pos rfl, f_X7_moveSealed_b45, f_X7_sealedOf, hl1, am_b2_some, r5]
      by_cases c : limV I g ((nd % np + k) % np) nl nd < I (g + 13) 1
      · obtain ⟨r, Ia, I1, Ir1, z0, z1, z2, z3, z4, z5⟩ := sealed_hand (v := 0) (Ir := rwS Ir m c1) hv hw1 hu h1 hm hbk (by rw [zI]; omega) (by rw [zI]; omega)
        rw [if_pos c, if_pos c, z1, am_b2_some, z2, am_b2_some, am_b2_some, z3, am_b2_some, am_b2_some]
        exact ⟨r, I1, Ir1, rfl, rfl, z4.of frC.rf (frR.rwS frR.rf), z5⟩
      · have hc := Int32.le_iff_toInt_le.mp (Int32.not_lt.mp c)
        have := hrs.1
        obtain ⟨r, Ia, I1, Ir1, z0, z1, z2, z3, z4, z5⟩ := sealed_hand (v := limV I g ((nd % np + k) % np) nl nd) (Ir := rwS (rwS Ir m c1) m c2) hv hw2 hu h1 hm hbk (by omega) hle
        rw [if_neg c, if_neg c, z1, am_b2_some, z2, am_b2_some, hl2, am_b2_some, am_b2_some, z3, am_b2_some, am_b2_some]
        exact ⟨r, I1, Ir1, rfl, rfl, z4.of frC.rf (frR.rwS (frR.rwS frR.rf)), z5⟩
  · obtain ⟨h0, -⟩ := id hu
    obtain ⟨J, Jr, y1, y2, y3, y4, y5, y6, y7, y8⟩ := moveF_h (m := m) h1 am_F 0 I Ir hv hw hu (by omega) (by omega)
    obtain ⟨r, Ia, I1, Ir1, z1, z2, z3, z4, z5⟩ := fall_pair y3 y4 y5 h1
    rw [h0, if_neg (show ¬ (2 : Int32) = -6 by decide), if_neg one0, if_pos rfl, f_X1_claimAlone, show f_X1_claimAlone_h2 g am_F 0 I = some J from y1, am_b1_some, z1, am_b2_some, z2, am_b2_some, f_X7_makeMove, r4, h0, if_neg (show ¬ (2 : Int32) = 0 by decide), if_neg (show ¬ (2 : Int32) = 1 by decide), f_X7_moveFalling, show f_X7_moveFalling_h2 m am_F 0 Ir = _ from y2, z3, am_b2_some, am_b2_some]
    exact ⟨r, I1, Ir1, rfl, rfl, z4.of y6 y7, z5.le y8 (y5.1.trans h0.symm)⟩
theorem move_pair {I Ir : aI} {g m np nl nd : Nat} (hv : IV I g np nl nd) (hw : RW I g (Ir (m + 1)) nl nd) : PA g m np nl I Ir (f_X1_moveAlone g I) (f_X7_move m Ir) := by
  rw [f_X7_move, fw_goesR hw, am_b1_some]
  by_cases h : I (g + 13) 0 = -6
  · rw [f_X1_moveAlone, fw_goesC, am_b1_some, if_pos h, if_pos rfl, if_pos rfl]
    exact PA.same hv hw rfl rfl
  · obtain ⟨r, I1, Ir1, z1, z2, z3, -⟩ := move_step hv hw h
    rw [if_neg h, if_neg one0, z2, am_b2_some]
    exact ⟨r, I1, Ir1, z1, rfl, z3⟩
/-! the last lot -/
def poo (A : Nat → Int32) (st np : Nat) : Nat → Nat
  | 0 => st
  | 1 => st
  | n + 2 => if A (poo A st np (n + 1)) ≤ A ((st + (n + 1)) % np) then poo A st np (n + 1) else (st + (n + 1)) % np
theorem poo_lt {A : Nat → Int32} {st np : Nat} (hs : st < np) : ∀ n, poo A st np n < np := by
  intro n
  induction n with
  | zero => exact hs
  | succ n ih =>
    cases n with
    | zero => exact hs
    | succ n =>
      rw [poo]
      split
      · exact ih
      · exact Nat.mod_lt _ (by omega)
theorem poorC_h {I : aI} {g np st : Nat} (hn : I (g + 2) 0 = nI np) (h6 : np ≤ 6) (hs : st < np) : ∀ (n j : Nat), 1 ≤ j → j ≤ np → np < n + j → f_X4_poorest_h4 (g + 2) n (nI st) (nI (poo (I (g + 3)) st np j)) (nI j) I = some (nI (poo (I (g + 3)) st np np)) := by
  intro n
  induction n with
  | zero => intro j h0 h1 h2; omega
  | succ n ih =>
    intro j h0 h1 h2
    rw [f_X4_poorest_h4, hn]
    by_cases h : np ≤ j
    · have : j = np := by omega
      subst this
      rw [if_pos (nI_le h (by omega))]
    · have hm := Nat.mod_lt (st + j) (show np > 0 by omega)
      have hp := poo_lt (A := I (g + 3)) hs j
      have h5 := ih (j + 1) (by omega) (by omega) (by omega)
      obtain ⟨i, rfl⟩ : ∃ i, j = i + 1 := ⟨j - 1, by omega⟩
      rw [poo] at h5
      rw [if_neg (nI_ge (by omega) (by omega)), fw_seatBehind hn h6 hs (by omega), am_b1_some, fw_amountOf hn h6 hm, am_b1_some, fw_amountOf hn h6 hp, am_b1_some, nI_1]
      by_cases c : I (g + 3) (poo (I (g + 3)) st np (i + 1)) ≤ I (g + 3) ((st + (i + 1)) % np)
      · rw [if_pos c] at h5
        rw [if_pos (show I (g + 2 + 1) _ ≤ I (g + 2 + 1) _ from c)]
        exact h5
      · rw [if_neg c] at h5
        rw [if_neg (show ¬ I (g + 2 + 1) _ ≤ I (g + 2 + 1) _ from c)]
        exact h5
theorem poorR_h {I Ir : aI} {g m np nl nd : Nat} (hnp : 2 ≤ np) (h6 : np ≤ 6) (hd : nd ≤ 12) (h0 : Ir (m + 1) 0 = nI np) (h2 : Ir (m + 1) 2 = nI nd) (hw : RW I g (Ir (m + 1)) nl nd) : ∀ (n j : Nat), 1 ≤ j → j ≤ np → np < n + j → f_X7_giveLast_h7 m n (nI (poo (I (g + 3)) (nd % np) np j)) (nI j) Ir = f_X7_giveLast_b52 m (nI (poo (I (g + 3)) (nd % np) np np)) Ir := by
  have hs := Nat.mod_lt nd (show np > 0 by omega)
  intro n
  induction n with
  | zero => intro j h0 h1 h2; omega
  | succ n ih =>
    intro j h01 h1 h2
    rw [f_X7_giveLast_h7, h0]
    by_cases h : np ≤ j
    · have : j = np := by omega
      subst this
      rw [if_pos (nI_le h (by omega))]
    · have hm := Nat.mod_lt (nd % np + j) (show np > 0 by omega)
      have hp := poo_lt (A := I (g + 3)) hs j
      have h5 := ih (j + 1) (by omega) (by omega) (by omega)
      obtain ⟨i, rfl⟩ : ∃ i, j = i + 1 := ⟨j - 1, by omega⟩
      rw [poo] at h5
      rw [if_neg (nI_ge (by omega) (by omega)), fw_seatR h0 (by assumption) hnp h6 hd (by omega), am_b1_some, fw_ofAmt hw (by omega), am_b1_some, fw_ofAmt hw (by omega), am_b1_some, nI_1]
      by_cases c : I (g + 3) (poo (I (g + 3)) (nd % np) np (i + 1)) ≤ I (g + 3) ((nd % np + (i + 1)) % np)
      · rw [if_pos c] at h5
        rw [if_pos c]
        exact h5
      · rw [if_neg c] at h5
        rw [if_neg c, am_b1_some]
        exact h5
theorem clearC_id {I : aI} {g : Nat} (h : AUn I g) : clearC I (g + 13) = I := by
  obtain ⟨n0, n1, n2, n3, n4, n5, n6, n7, n8⟩ := h
  funext q k
  unfold clearC
  by_cases c : q = g + 13 ∧ k < 8
  · rw [if_pos c]
    obtain ⟨rfl, hk⟩ := c
    match k, hk with
    | 0, _ => exact n0.symm
    | 1, _ => exact n1.symm
    | 2, _ => exact n2.symm
    | 3, _ => exact n3.symm
    | 4, _ => exact n4.symm
    | 5, _ => exact n5.symm
    | 6, _ => exact n6.symm
    | 7, _ => exact n7.symm
  · rw [if_neg c]
    by_cases c2 : q = g + 13 + 1 ∧ k < 6
    · rw [if_pos c2]
      obtain ⟨rfl, hk⟩ := c2
      exact (n8 k hk).symm
    · rw [if_neg c2]
theorem last_pair {I Ir : aI} {g m np nl nd : Nat} (hv : IV I g np nl nd) (hw : RW I g (Ir (m + 1)) nl nd) : PA g m np nl I Ir (f_X1_giveLast g I) (f_X7_last m Ir) ∧ (nd + 1 = nl → ∃ r I1 Ir1, f_X1_giveLast g I = some (r, I1) ∧ f_X7_giveLast m Ir = some (r, Ir1) ∧ IV I1 g np nl (nd + 1) ∧ RW I1 g (Ir1 (m + 1)) nl (nd + 1) ∧ frC g I I1 ∧ frR m Ir Ir1) := by
  have hF := am_F_big
  obtain ⟨q2, q6, q1, q12, qnp, qnl, qnd⟩ := id hv.1
  obtain ⟨⟨a0, a1, a2⟩, hset, hrp, hb, hrl, r3, r4, r5, r6, r7, r8, r9⟩ := id hw
  have hs := Nat.mod_lt nd (show np > 0 by omega)
  have hC0 : f_X2_nextIsLast (g + 8) I = some (if nd + 1 = nl then 1 else 0) := by
    rw [f_X2_nextIsLast, qnl, qnd]
    by_cases c : nd + 1 = nl
    · rw [if_pos c, if_neg (nI_nle (by omega) (by omega)), show (1 : Int32) = nI 1 from rfl, nI_sub (by omega), if_pos (by rw [← c]; rfl)]
    · rw [if_neg c]
      by_cases z : nl = 0
      · subst z; rw [if_pos (by decide)]
      · rw [if_neg (nI_nle (by omega) (by omega)), show (1 : Int32) = nI 1 from rfl, nI_sub (by omega), if_neg (by rw [nI_inj (by omega) (by omega)]; omega)]
  have hR0 : f_X7_isLastNext m Ir = some (if nd + 1 = nl then 1 else 0) := by
    rw [f_X7_isLastNext, a1, a2, qnl, qnd]
    by_cases c : nd + 1 = nl
    · rw [if_pos c, if_neg (nI_nle (by omega) (by omega)), show (1 : Int32) = nI 1 from rfl, nI_sub (by omega), if_pos (by rw [← c]; rfl)]
    · rw [if_neg c]
      by_cases z : nl = 0
      · subst z; rw [if_pos (by decide)]
      · rw [if_neg (nI_nle (by omega) (by omega)), show (1 : Int32) = nI 1 from rfl, nI_sub (by omega), if_neg (by rw [nI_inj (by omega) (by omega)]; omega)]
  rw [f_X1_giveLast, f_X7_last, hC0, hR0, am_b1_some, am_b1_some]
  by_cases c : nd + 1 = nl
  · have hn : AUn I g := by
      rcases hv.2.2.2.2 with hn | ⟨h1, -⟩
      · exact hn
      · omega
    have hpo := poo_lt (A := I (g + 3)) hs np
    obtain ⟨p, hpd⟩ : ∃ p, p = poo (I (g + 3)) (nd % np) np np := ⟨_, rfl⟩
    rw [← hpd] at hpo
    obtain ⟨s1, s2, s3, s4⟩ := shl_ok p (by omega)
    have hP : f_X4_poorest (g + 2) (nI (nd % np)) I = some (nI p) := by
      rw [hpd]
      exact poorC_h (g := g) qnp q6 hs am_F 1 (by omega) (by omega) (by omega)
    have hPR : f_X7_giveLast m Ir = f_X7_giveLast_b52 m (nI p) Ir := by
      rw [f_X7_giveLast, fw_starterR (a0.trans qnp) (a2.trans qnd) q2 q6 (by omega), am_b1_some, hpd]
      exact poorR_h q2 q6 (by omega) (a0.trans qnp) (a2.trans qnd) hw am_F 1 (by omega) (by omega) (by omega)
    obtain ⟨c1, c2⟩ := co_close (s := 2 ^ p) (v := 0) (co_of hv hw) (by omega) s2
    have hfin := fw_finish (m := m) (Ir := Ir) (s := 2 ^ p) (v := 0) (a1.trans qnl) (a2.trans qnd) (by omega) q12 s2
    have hcl : am_w (am_w (am_w I (g + 11) nd (nI (2 ^ p))) (g + 12) nd 0) (g + 8) 1 (nI (nd + 1)) = closeC I g nd (nI (2 ^ p)) 0 := by
      unfold closeC
      rw [clearC_id]
      unfold AUn at *
      simp (disch := omega) only [am_w_nq, am_w_ne]
      exact hn
    rw [if_pos c, if_neg one0, if_neg one0, fw_starter hv.1, am_b1_some, hP, am_b1_some, s1, fw_closeC qnl qnd (by omega) q12, am_b1_some, hcl, fw_goesR hw, hn.1, if_pos rfl, am_b1_some, if_pos rfl, hPR, f_X7_giveLast_b52, s1, hfin, am_b2_some, if_neg (nI_nle (by omega) (by omega)), am_b2_some]
    exact ⟨⟨nI p, _, _, rfl, rfl, nd + 1, c1, by rw [rw1_row]; exact c2, frC.rf.close, frR.rw1 frR.rf⟩, fun _ => ⟨nI p, _, _, rfl, rfl, c1, by rw [rw1_row]; exact c2, frC.rf.close, frR.rw1 frR.rf⟩⟩
  · refine ⟨?_, fun z => absurd z c⟩
    rw [if_neg c, if_pos rfl, if_pos rfl]
    exact PA.same hv hw rfl rfl
