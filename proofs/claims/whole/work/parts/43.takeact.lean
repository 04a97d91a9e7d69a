/-! PURE: the reference reads an act -/
/-- what reading an act leaves of the reference's fields -/
def TA (m a n : Nat) (s : Nat → Nat) (I I1 : aI) : Prop := I1 m 9 = nI (actN s a).1 ∧ (∀ q k, (q ≠ m ∨ (k ≠ 9 ∧ k ≠ 10 ∧ k ≠ 12)) → (q ≠ m + 9 ∨ k < 3 * n) → I1 q k = I q k) ∧ ((actN s a).2 = none → I1 m 10 = 1) ∧ ∀ op v w, (actN s a).2 = some (op, v, w) → I1 m 10 = 0 ∧ I1 m 12 = nI (n + 1) ∧ I1 (m + 9) (3 * n) = nI op ∧ I1 (m + 9) (3 * n + 1) = nI v ∧ ((op = 98 ∨ op = 115) → I1 (m + 9) (3 * n + 2) = nI w)
theorem ok93 {p : Nat} (h : p < 93) : am_ok (nI p) 93 = true := am_ok_nI h (by omega)
theorem fw_b122 {I : aI} {m len b n op lo : Nat} {c : Nat → Nat} (h : PM I m len c) (h9 : I m 9 = nI b) (h12 : I m 12 = nI n) (hn : n < 31) (hb : b ≤ 80) (ho : (op = 98 ∧ lo = 0) ∨ (op = 115 ∧ lo = 1)) (h10 : I m 10 = 0 ∨ I m 10 = 1) : ∃ I1, f_X7_takeAct_b122 m (nI op) (nI (3 * n)) I = some I1 ∧ (∀ q k, (q ≠ m ∨ (k ≠ 9 ∧ k ≠ 10 ∧ k ≠ 12)) → (q ≠ m + 9 ∨ k ≠ 3 * n + 2) → I1 q k = I q k) ∧ (I m 10 = 1 → I1 m 10 = 1 ∧ I1 m 9 = nI b) ∧ (I m 10 = 0 → I1 m 9 = nI (secN (sg c len) lo b).1 ∧ ((secN (sg c len) lo b).2 = none → I1 m 10 = 1) ∧ ∀ w, (secN (sg c len) lo b).2 = some w → I1 m 10 = 0 ∧ I1 m 12 = nI (n + 1) ∧ I1 (m + 9) (3 * n + 2) = nI w) := by
  have e2 : nI (3 * n) + 2 = nI (3 * n + 2) := by rw [show (2 : Int32) = nI 2 from rfl, nI_add]
  have hs : ∀ a, sg c len a ≤ 126 := fun a => by
    unfold sg
    by_cases e : a < len
    · rw [if_pos e]; exact (h.2.2 a e).2.2
    · rw [if_neg e]; omega
  have h147 : ∀ (J : aI), f_X7_takeAct_b122 m (nI op) (nI (3 * n)) I = (am_b1 (f_X7_need m 58 I) fun I1 => f_X7_takeAct_b147 m (nI lo) (nI (3 * n + 2)) I1) := fun _ => by
    rw [f_X7_takeAct_b122, e2]
    rcases ho with ⟨rfl, rfl⟩ | ⟨rfl, rfl⟩
    · simp only [if_neg (show ¬ nI 98 = (115 : Int32) by decide)]; rfl
    · simp only [if_pos (show nI 115 = (115 : Int32) from rfl)]; rfl
  rw [h147 I]
  have hlo : lo ≤ 300 := by omega
  have hw : ∀ J : aI, J m 10 = 1 → J m 9 = nI b ∨ True → ∃ I1, f_X7_takeAct_b147 m (nI lo) (nI (3 * n + 2)) J = some I1 ∧ I1 m 10 = 1 ∧ I1 m 9 = J m 9 ∧ (∀ q k, (q ≠ m ∨ (k ≠ 9 ∧ k ≠ 10 ∧ k ≠ 12)) → (q ≠ m + 9 ∨ k ≠ 3 * n + 2) → I1 q k = J q k) := fun J hJ _ => by
    rw [f_X7_takeAct_b147, show f_X7_takeNumber m (nI lo) 300 J = _ from fw_takeWrong (hi := 300) hJ, am_b2_some, ok93 (by omega), nI_tn (by omega), am_g_tt, am_let_ap, am_let_ap]
    exact ⟨_, rfl, by simp (disch := omega) only [am_w_nq]; exact hJ, by simp (disch := omega) only [am_w_nq], fun q k h1 h2 => by simp (disch := omega) only [am_w_nq]⟩
  rcases h10 with h10 | h10
  · rw [show f_X7_need m 58 I = _ from fw_need (t := 58) h h9 h10 (by omega) (by omega), am_b1_some]
    by_cases e : sg c len b = 58
    · rw [if_pos e, f_X7_takeAct_b147, show f_X7_takeNumber m (nI lo) 300 _ = _ from fw_takeNumber (hi := 300) (a := b + 1) (by omega) hlo (h.w (by omega)) (am_w_eq _ _ ⟨rfl, rfl⟩) (by rw [am_w_nq _ _ (by omega)]; exact h10) (by omega)]
      cases hn2 : num (sg c len) lo 300 (b + 1) with
      | none =>
        have hsec : secN (sg c len) lo b = (b + 1, none) := by unfold secN; rw [if_pos e, hn2]
        simp only [hsec]
        rw [am_b2_some, ok93 (by omega), nI_tn (by omega), am_g_tt, am_let_ap, am_let_ap]
        refine ⟨_, rfl, fun q k h1 h2 => by simp (disch := omega) only [am_w_nq], fun z => by rw [h10] at z; exact absurd z.symm one0, fun _ => ⟨by simp (disch := omega) only [am_w_nq, am_w_eq], fun _ => by simp (disch := omega) only [am_w_nq, am_w_eq], fun w z => by cases z⟩⟩
      | some p =>
        obtain ⟨w, d⟩ := p
        have hsec : secN (sg c len) lo b = (d, some w) := by unfold secN; rw [if_pos e, hn2]
        simp only [hsec]
        rw [am_b2_some, ok93 (by omega), nI_tn (by omega), am_g_tt, am_let_ap, am_let_ap]
        refine ⟨_, rfl, fun q k h1 h2 => by simp (disch := omega) only [am_w_nq], fun z => by rw [h10] at z; exact absurd z.symm one0, fun _ => ⟨by simp (disch := omega) only [am_w_nq, am_w_eq], (fun z => by cases z), fun w' z => ?_⟩⟩
        injection z with z
        subst z
        refine ⟨by simp (disch := omega) only [am_w_nq]; exact h10, ?_, by simp (disch := omega) only [am_w_nq, am_w_eq]⟩
        simp (disch := omega) only [am_w_nq, am_w_eq]
        rw [h12, nI_1]
    · have hsec : secN (sg c len) lo b = (b, none) := by unfold secN; rw [if_neg e]
      obtain ⟨I1, z1, z2, z3, z4⟩ := hw (am_w I m 10 1) (am_w_eq _ _ ⟨rfl, rfl⟩) (Or.inr trivial)
      rw [if_neg e, z1, hsec]
      refine ⟨I1, rfl, fun q k h1 h2 => by rw [z4 q k h1 h2, am_w_nq _ _ (by omega)], fun z => by rw [h10] at z; exact absurd z.symm one0, fun _ => ⟨by rw [z3, am_w_nq _ _ (by omega)]; exact h9, fun _ => z2, fun w z => by cases z⟩⟩
  · obtain ⟨I1, z1, z2, z3, z4⟩ := hw I h10 (Or.inr trivial)
    rw [show f_X7_need m 58 I = _ from fw_needWrong h10, am_b1_some, z1]
    exact ⟨I1, rfl, z4, fun _ => ⟨z2, z3.trans h9⟩, fun z => by rw [h10] at z; exact absurd z one0⟩
theorem fw_takeAct {I : aI} {m len a n : Nat} {c : Nat → Nat} (h : PM I m len c) (h9 : I m 9 = nI a) (h10 : I m 10 = 0) (h12 : I m 12 = nI n) (hn : n < 31) (ha : a ≤ 60) : ∃ I1, f_X7_takeAct m I = some I1 ∧ TA m a n (sg c len) I I1 := by
  have hs : ∀ a, sg c len a ≤ 126 := fun a => by
    unfold sg
    by_cases e : a < len
    · rw [if_pos e]; exact (h.2.2 a e).2.2
    · rw [if_neg e]; omega
  have hs0 := hs a
  have h60 := h.2.1
  have e0 : (3 : Int32) * I m 12 = nI (3 * n) := by rw [h12, show (3 : Int32) = nI 3 from rfl, nI_mul]
  have e1 : nI (3 * n) + 1 = nI (3 * n + 1) := nI_1 _
  have hlit : ∀ t : Nat, t < 200 → (nI (sg c len a) = nI t) = (sg c len a = t) := fun t ht => nI_inj (by omega) (by omega)
  have l98 : (nI (sg c len a) = 98) = (sg c len a = 98) := hlit 98 (by omega)
  have l102 : (nI (sg c len a) = 102) = (sg c len a = 102) := hlit 102 (by omega)
  have l109 : (nI (sg c len a) = 109) = (sg c len a = 109) := hlit 109 (by omega)
  have l112 : (nI (sg c len a) = 112) = (sg c len a = 112) := hlit 112 (by omega)
  have l115 : (nI (sg c len a) = 115) = (sg c len a = 115) := hlit 115 (by omega)
  obtain ⟨J, hJ⟩ : ∃ J, J = am_w (am_w I m 9 (nI (a + 1))) (m + 9) (3 * n) (nI (sg c len a)) := ⟨_, rfl⟩
  have hJM : PM J m len c := by rw [hJ]; exact (h.w (by omega)).w9
  have j9 : J m 9 = nI (a + 1) := by rw [hJ]; simp (disch := omega) only [am_w_nq, am_w_eq]
  have j10 : J m 10 = 0 := by rw [hJ]; simp (disch := omega) only [am_w_nq]; exact h10
  have j12 : J m 12 = nI n := by rw [hJ]; simp (disch := omega) only [am_w_nq]; exact h12
  have jop : J (m + 9) (3 * n) = nI (sg c len a) := by rw [hJ]; exact am_w_eq _ _ ⟨rfl, rfl⟩
  have jfr : ∀ q k, (q ≠ m ∨ (k ≠ 9 ∧ k ≠ 10 ∧ k ≠ 12)) → (q ≠ m + 9 ∨ k < 3 * n) → J q k = I q k := fun q k k1 k2 => by rw [hJ]; simp (disch := omega) only [am_w_nq]
  -- two numbers
  have two : ∀ op hi lo : Nat, sg c len a = op → ((op = 98 ∧ lo = 0 ∧ hi = 5) ∨ (op = 115 ∧ lo = 1 ∧ hi = 2)) → actN (sg c len) a = ((pairN (sg c len) hi lo (a + 1)).1, (pairN (sg c len) hi lo (a + 1)).2.map (fun p => (op, p.1, p.2))) → ∃ I1, (am_b2 (f_X7_takeNumber m 0 (nI hi) J) fun r4 I4 => f_X7_takeAct_b109 m (nI op) (nI (3 * n)) r4 (nI (3 * n + 1)) I4) = some I1 ∧ TA m a n (sg c len) I I1 := fun op hi lo hop ho hact => by
    have h109 : ∀ (r : Int32) (K : aI), f_X7_takeAct_b109 m (nI op) (nI (3 * n)) r (nI (3 * n + 1)) K = f_X7_takeAct_b122 m (nI op) (nI (3 * n)) (am_w K (m + 9) (3 * n + 1) r) := fun r K => by
      rw [f_X7_takeAct_b109, ok93 (by omega), nI_tn (by omega), am_g_tt, am_let_ap]
      rcases ho with ⟨rfl, -⟩ | ⟨rfl, -⟩
      · rw [if_neg (show ¬ nI 98 = (115 : Int32) by decide), if_pos (show nI 98 = (98 : Int32) from rfl)]
      · rw [if_pos (show nI 115 = (115 : Int32) from rfl)]
    rw [show f_X7_takeNumber m 0 (nI hi) J = _ from fw_takeNumber (lo := 0) (hi := hi) (a := a + 1) (by omega) (by omega) hJM j9 j10 (by omega)]
    unfold TA
    rw [hact]
    simp only []
    unfold pairN
    cases hn2 : num (sg c len) 0 hi (a + 1) with
    | none =>
      simp only []
      obtain ⟨I1, z1, z2, z3, -⟩ := fw_b122 (I := am_w (am_w J m 10 1) (m + 9) (3 * n + 1) 0) (b := a + 1) (n := n) (op := op) (lo := lo) ((hJM.w (by omega)).w9) (by simp (disch := omega) only [am_w_nq]; exact j9) (by simp (disch := omega) only [am_w_nq]; exact j12) hn (by omega) (by omega) (Or.inr (by simp (disch := omega) only [am_w_nq, am_w_eq]))
      obtain ⟨y1, y2⟩ := z3 (by simp (disch := omega) only [am_w_nq, am_w_eq])
      rw [am_b2_some, h109, z1]
      refine ⟨I1, rfl, y2, fun q k k1 k2 => ?_, fun _ => y1, fun op v w z => by cases z⟩
      rw [z2 q k k1 (by omega)]
      simp (disch := omega) only [am_w_nq]
      exact jfr q k k1 k2
    | some p =>
      obtain ⟨v, b⟩ := p
      obtain ⟨n1, n2, n3⟩ := num_a hn2
      simp only []
      obtain ⟨I1, z1, z2, -, z3⟩ := fw_b122 (I := am_w (am_w J m 9 (nI b)) (m + 9) (3 * n + 1) (nI v)) (b := b) (n := n) (op := op) (lo := lo) ((hJM.w (by omega)).w9) (by simp (disch := omega) only [am_w_nq, am_w_eq]) (by simp (disch := omega) only [am_w_nq]; exact j12) hn (by omega) (by omega) (Or.inl (by simp (disch := omega) only [am_w_nq]; exact j10))
      obtain ⟨y1, y2, y3⟩ := z3 (by simp (disch := omega) only [am_w_nq]; exact j10)
      rw [am_b2_some, h109, z1]
      refine ⟨I1, rfl, y1, fun q k k1 k2 => ?_, fun z => ?_, fun op' v' w z => ?_⟩
      · rw [z2 q k k1 (by omega)]
        simp (disch := omega) only [am_w_nq]
        exact jfr q k k1 k2
      · cases hq : (secN (sg c len) lo b).2 with
        | none => exact y2 hq
        | some w => rw [hq] at z; cases z
      · cases hq : (secN (sg c len) lo b).2 with
        | none => rw [hq] at z; cases z
        | some w0 =>
          rw [hq] at z
          injection z with z
          injection z with k1 z
          injection z with k2 k3
          have k1 : op = op' := k1
          have k2 : v = v' := k2
          have k3 : w0 = w := k3
          subst k1; subst k2; subst k3
          obtain ⟨x1, x2, x3⟩ := y3 _ hq
          refine ⟨x1, x2, ?_, ?_, fun _ => x3⟩
          · rw [z2 _ _ (by omega) (by omega)]
            simp (disch := omega) only [am_w_nq]
            rw [jop, hop]
          · rw [z2 _ _ (by omega) (by omega), am_w_eq _ _ ⟨rfl, rfl⟩]
  have one : ∀ op : Nat, sg c len a = op → op = 109 ∨ op = 102 → actN (sg c len) a = (a + 1, some (op, 0, 0)) → ∃ I1, f_X7_takeAct_b109 m (nI op) (nI (3 * n)) 0 (nI (3 * n + 1)) J = some I1 ∧ TA m a n (sg c len) I I1 := fun op hop ho hact => by
    rw [f_X7_takeAct_b109, ok93 (by omega), nI_tn (by omega), am_g_tt, am_let_ap, if_neg (show ¬ nI op = (115 : Int32) by rw [show (115 : Int32) = nI 115 from rfl, nI_inj (by omega) (by omega)]; omega), if_neg (show ¬ nI op = (98 : Int32) by rw [show (98 : Int32) = nI 98 from rfl, nI_inj (by omega) (by omega)]; omega), am_let_ap]
    unfold TA
    rw [hact]
    refine ⟨_, rfl, by simp (disch := omega) only [am_w_nq]; exact j9, fun q k k1 k2 => by simp (disch := omega) only [am_w_nq]; exact jfr q k k1 k2, (fun z => by cases z), fun op' v w z => ?_⟩
    injection z with z
    injection z with k1 z
    injection z with k2 k3
    subst k1; subst k2
    refine ⟨by simp (disch := omega) only [am_w_nq]; exact j10, ?_, ?_, by simp (disch := omega) only [am_w_nq, am_w_eq]; rfl, fun z => by omega⟩
    · simp (disch := omega) only [am_w_nq, am_w_eq]
      rw [j12, nI_1]
    · simp (disch := omega) only [am_w_nq]
      rw [jop, hop]
  have h48 : f_X7_takeAct_b48 m (nI (sg c len a)) (nI (3 * n)) I = (if nI (sg c len a) = (115 : Int32) then (am_b2 (f_X7_takeNumber m 0 2 J) fun r4 I4 => f_X7_takeAct_b109 m (nI (sg c len a)) (nI (3 * n)) r4 (nI (3 * n + 1)) I4) else if nI (sg c len a) = (98 : Int32) then (am_b2 (f_X7_takeNumber m 0 5 J) fun r4 I4 => f_X7_takeAct_b109 m (nI (sg c len a)) (nI (3 * n)) r4 (nI (3 * n + 1)) I4) else if nI (sg c len a) = (112 : Int32) then (am_b2 (f_X7_takeNumber m 0 5 J) fun r4 I4 => f_X7_takeAct_b109 m (nI (sg c len a)) (nI (3 * n)) r4 (nI (3 * n + 1)) I4) else f_X7_takeAct_b109 m (nI (sg c len a)) (nI (3 * n)) 0 (nI (3 * n + 1)) J) := by
    rw [f_X7_takeAct_b48, am_let_ap, ok93 (by omega), nI_tn (by omega), am_g_tt, am_let_ap, h9, nI_1, ← hJ, e1]
  rw [f_X7_takeAct, fw_nextS h h9 (by omega), am_b1_some, am_let_ap, e0, h48]
  simp only [l98, l102, l109, l112, l115]
  by_cases c5 : sg c len a = 115
  · rw [if_pos c5, if_pos c5, c5]
    exact two 115 2 1 c5 (by omega) (by unfold actN; rw [if_neg (by omega), if_pos c5])
  rw [if_neg c5, if_neg c5]
  by_cases c1 : sg c len a = 98
  · rw [if_pos c1, if_pos c1, c1]
    exact two 98 5 0 c1 (by omega) (by unfold actN; rw [if_pos c1])
  rw [if_neg c1, if_neg c1]
  by_cases c4 : sg c len a = 112
  · rw [if_pos c4, if_pos c4, c4]
    have h109 : ∀ (r : Int32) (K : aI), f_X7_takeAct_b109 m (nI 112) (nI (3 * n)) r (nI (3 * n + 1)) K = some (am_w (am_w K (m + 9) (3 * n + 1) r) m 12 (K m 12 + 1)) := fun r K => by
      rw [f_X7_takeAct_b109, ok93 (by omega), nI_tn (by omega), am_g_tt, am_let_ap, if_neg (show ¬ nI 112 = (115 : Int32) by decide), if_neg (show ¬ nI 112 = (98 : Int32) by decide), am_let_ap, am_w_nq _ _ (by omega)]
    rw [show f_X7_takeNumber m 0 5 J = _ from fw_takeNumber (lo := 0) (hi := 5) (a := a + 1) (by omega) (by omega) hJM j9 j10 (by omega)]
    cases hn2 : num (sg c len) 0 5 (a + 1) with
    | none =>
      have hact : actN (sg c len) a = (a + 1, none) := by unfold actN; rw [if_neg c1, if_neg c5, if_pos c4, hn2]
      unfold TA
      rw [hact]
      simp only []
      rw [am_b2_some, h109]
      refine ⟨_, rfl, by simp (disch := omega) only [am_w_nq]; exact j9, fun q k k1 k2 => by simp (disch := omega) only [am_w_nq]; exact jfr q k k1 k2, fun _ => by simp (disch := omega) only [am_w_nq, am_w_eq], fun op v w z => by cases z⟩
    | some p =>
      obtain ⟨v, b⟩ := p
      have hact : actN (sg c len) a = (b, some (112, v, 0)) := by unfold actN; rw [if_neg c1, if_neg c5, if_pos c4, hn2]
      unfold TA
      rw [hact]
      simp only []
      rw [am_b2_some, h109]
      refine ⟨_, rfl, by simp (disch := omega) only [am_w_nq, am_w_eq], fun q k k1 k2 => by simp (disch := omega) only [am_w_nq]; exact jfr q k k1 k2, (fun z => by cases z), fun op' v' w z => ?_⟩
      injection z with z
      injection z with k1 z
      injection z with k2 k3
      subst k1; subst k2
      refine ⟨by simp (disch := omega) only [am_w_nq]; exact j10, ?_, ?_, by simp (disch := omega) only [am_w_nq, am_w_eq], fun z => by omega⟩
      · simp (disch := omega) only [am_w_nq, am_w_eq]
        rw [j12, nI_1]
      · simp (disch := omega) only [am_w_nq]
        rw [jop, c4]
  rw [if_neg c4, if_neg c4]
  by_cases c3 : sg c len a = 109
  · rw [if_pos c3, c3]
    exact one 109 c3 (by omega) (by unfold actN; rw [if_neg c1, if_neg c5, if_neg c4, if_pos c3])
  rw [if_neg c3]
  by_cases c2 : sg c len a = 102
  · rw [if_pos c2, c2]
    exact one 102 c2 (by omega) (by unfold actN; rw [if_neg c1, if_neg c5, if_neg c4, if_neg c3, if_pos c2])
  rw [if_neg c2, am_let_ap]
  have hact : actN (sg c len) a = (a, none) := by unfold actN; rw [if_neg c1, if_neg c5, if_neg c4, if_neg c3, if_neg c2]
  unfold TA
  rw [hact]
  exact ⟨_, rfl, by rw [am_w_nq _ _ (by omega)]; exact h9, fun q k k1 k2 => am_w_nq _ _ (by omega), fun _ => am_w_eq _ _ ⟨rfl, rfl⟩, fun op v w z => by cases z⟩
