/-! PURE: an act of the pad, read by both -/
theorem w_w_4 (I : aI) (o : Nat) (b b2 v : Int32) : am_w (am_w (am_w I o 2 b) o 4 v) o 2 b2 = am_w (am_w I o 2 b2) o 4 v := by
  funext q k
  by_cases z : q = o ∧ k = 2
  · rw [am_w_eq _ _ z, am_w_nq _ _ (by omega), am_w_eq _ _ z]
  · rw [am_w_nq _ _ z]
    by_cases z2 : q = o ∧ k = 4
    · rw [am_w_eq _ _ z2, am_w_eq _ _ z2]
    · rw [am_w_nq _ _ z2, am_w_nq _ _ z2, am_w_nq _ _ z, am_w_nq _ _ z]
theorem fw_readPair {I : aI} {o len hi lo a : Nat} {c : Nat → Nat} (hhi : hi ≤ 300) (hlo : lo ≤ 300) (h : PD I o len c) (h2 : I o 2 = nI a) (ha : a ≤ 61) : ∃ I1, f_X3_readPair o (nI hi) (nI lo) I = some ((if (pairN (sg c len) hi lo a).2.isSome = true then 1 else 0), I1) ∧ I1 o 2 = nI (pairN (sg c len) hi lo a).1 ∧ (∀ q k, q ≠ o ∨ (k ≠ 2 ∧ k ≠ 4 ∧ k ≠ 5) → I1 q k = I q k) ∧ ∀ v w, (pairN (sg c len) hi lo a).2 = some (v, w) → I1 o 4 = nI v ∧ I1 o 5 = nI w := by
  have hr := fw_readNumber (o := o) (lo := 0) hhi (by omega) h h2 (by omega)
  have h60 := h.2.1
  rw [f_X3_readPair, show f_X3_readNumber o 0 (nI hi) I = _ from hr]
  unfold pairN
  cases hn : num (sg c len) 0 hi a with
  | none =>
    simp only []
    rw [am_b2_some, am_let_ap, if_pos (am_w_eq _ _ ⟨rfl, rfl⟩)]
    exact ⟨_, rfl, by rw [am_w_nq _ _ (by omega)]; exact h2, fun q k hk => am_w_nq _ _ (by omega), fun v w z => by cases z⟩
  | some p =>
    obtain ⟨v, b⟩ := p
    obtain ⟨n1, n2, n3⟩ := num_a hn
    simp only []
    have hI2 : PD (am_w (am_w I o 2 (nI b)) o 4 (nI v)) o len c := (h.w (by omega)).w (by omega)
    have hb2 : am_w (am_w I o 2 (nI b)) o 4 (nI v) o 2 = nI b := by rw [am_w_nq _ _ (by omega), am_w_eq _ _ ⟨rfl, rfl⟩]
    rw [am_b2_some, am_let_ap, if_neg (by rw [am_w_eq _ _ ⟨rfl, rfl⟩, nI_n6 _ (by omega)]; exact fun z => z), show f_X3_readSign o 58 _ = _ from fw_readSign (t := 58) hI2 hb2 (by omega) (by omega)]
    by_cases e : sg c len b = 58
    · rw [if_pos e, am_b2_some, if_neg one0, w_w_4]
      have hI4 : PD (am_w (am_w I o 2 (nI (b + 1))) o 4 (nI v)) o len c := (h.w (by omega)).w (by omega)
      have hr2 := fw_readNumber (o := o) (lo := lo) (hi := 300) (by omega) hlo hI4 (by rw [am_w_nq _ _ (by omega), am_w_eq _ _ ⟨rfl, rfl⟩]) (show b + 1 ≤ 90 by omega)
      rw [show f_X3_readNumber o (nI lo) 300 _ = _ from hr2]
      cases hn2 : num (sg c len) lo 300 (b + 1) with
      | none =>
        have hsec : secN (sg c len) lo b = (b + 1, none) := by unfold secN; rw [if_pos e, hn2]
        simp only [hsec]
        rw [am_b2_some, am_let_ap, if_pos (am_w_eq _ _ ⟨rfl, rfl⟩)]
        exact ⟨_, rfl, by simp (disch := omega) only [am_w_nq, am_w_eq], fun q k hk => by simp (disch := omega) only [am_w_nq], fun v w z => by cases z⟩
      | some p2 =>
        obtain ⟨w, d⟩ := p2
        obtain ⟨m1, m2, m3⟩ := num_a hn2
        have hsec : secN (sg c len) lo b = (d, some w) := by unfold secN; rw [if_pos e, hn2]
        simp only [hsec]
        rw [am_b2_some, am_let_ap, if_neg (by rw [am_w_eq _ _ ⟨rfl, rfl⟩, nI_n6 _ (by omega)]; exact fun z => z)]
        refine ⟨_, rfl, by simp (disch := omega) only [am_w_nq, am_w_eq], fun q k hk => by simp (disch := omega) only [am_w_nq], fun v' w' z => ?_⟩
        injection z with z
        injection z with z1 z2
        subst z1; subst z2
        exact ⟨by simp (disch := omega) only [am_w_nq, am_w_eq], by simp (disch := omega) only [am_w_eq]⟩
    · have hsec : secN (sg c len) lo b = (b, none) := by unfold secN; rw [if_neg e]
      simp only [hsec]
      rw [if_neg e, am_b2_some, if_pos rfl]
      exact ⟨_, rfl, hb2, fun q k hk => by simp (disch := omega) only [am_w_nq], fun v w z => by cases z⟩
theorem fw_readAct {I : aI} {o len a : Nat} {c : Nat → Nat} (h : PD I o len c) (h2 : I o 2 = nI a) (ha : a ≤ 60) : ∃ r I1, f_X3_readAct o I = some (r, I1) ∧ RA o a (sg c len) I r I1 := by
  have hs := h.sgl a
  have hp : 0 < sg c len a → a < len := sg_pos
  have h60 := h.2.1
  rw [f_X3_readAct, h2, fw_signAt h (by omega), am_b1_some, am_let_ap, am_w_eq _ _ ⟨rfl, rfl⟩, am_w_nq _ _ (by omega), h2, nI_1]
  have hI4 : PD (am_w (am_w I o 3 (nI (sg c len a))) o 2 (nI (a + 1))) o len c := (h.w (by omega)).w (by omega)
  have hb4 : am_w (am_w I o 3 (nI (sg c len a))) o 2 (nI (a + 1)) o 2 = nI (a + 1) := am_w_eq _ _ ⟨rfl, rfl⟩
  have hlit : ∀ t : Nat, t < 200 → (nI (sg c len a) = nI t) = (sg c len a = t) := fun t ht => nI_inj (by omega) (by omega)
  have l98 : (nI (sg c len a) = 98) = (sg c len a = 98) := hlit 98 (by omega)
  have l102 : (nI (sg c len a) = 102) = (sg c len a = 102) := hlit 102 (by omega)
  have l109 : (nI (sg c len a) = 109) = (sg c len a = 109) := hlit 109 (by omega)
  have l112 : (nI (sg c len a) = 112) = (sg c len a = 112) := hlit 112 (by omega)
  have l115 : (nI (sg c len a) = 115) = (sg c len a = 115) := hlit 115 (by omega)
  have hfr : ∀ I1 : aI, (∀ q k, q ≠ o ∨ (k ≠ 2 ∧ k ≠ 4 ∧ k ≠ 5) → I1 q k = am_w (am_w I o 3 (nI (sg c len a))) o 2 (nI (a + 1)) q k) → ∀ q k, q ≠ o ∨ k < 2 ∨ 6 ≤ k → I1 q k = I q k := fun I1 hh q k hk => by
    rw [hh q k (by omega), am_w_nq _ _ (by omega), am_w_nq _ _ (by omega)]
  have step5 : ∀ (hi lo op : Nat), hi ≤ 300 → lo ≤ 300 → sg c len a = op → (op = 98 ∨ op = 115) → actN (sg c len) a = ((pairN (sg c len) hi lo (a + 1)).1, (pairN (sg c len) hi lo (a + 1)).2.map (fun p => (op, p.1, p.2))) → ∃ r I1, (am_b2 (f_X3_readPair o (nI hi) (nI lo) (am_w (am_w I o 3 (nI (sg c len a))) o 2 (nI (a + 1)))) fun r5 I5 => am_g (am_zk r5) (some (r5, I5))) = some (r, I1) ∧ RA o a (sg c len) I r I1 := fun hi lo op h1 h22 hop ho hact => by
    obtain ⟨I1, z1, z2, z3, z4⟩ := fw_readPair (hi := hi) (lo := lo) h1 h22 hI4 hb4 (by omega)
    rw [z1, am_b2_some]
    unfold RA
    rw [hact]
    simp only []
    cases hq : (pairN (sg c len) hi lo (a + 1)).2 with
    | none =>
      rw [hq] at z4
      exact ⟨_, I1, am_g_of _ (by decide), rfl, z2, hfr I1 z3, fun op v w z => by cases z⟩
    | some p =>
      rw [hq] at z4
      refine ⟨_, I1, am_g_of _ (show am_zk (if true = true then (1 : Int32) else 0) = true by decide), rfl, z2, hfr I1 z3, fun op' v w hz => ?_⟩
      injection hz with hz
      injection hz with k1 hz
      injection hz with k2 k3
      subst k1; subst k2; subst k3
      refine ⟨by rw [z3 _ _ (by omega), am_w_nq _ _ (by omega), am_w_eq _ _ ⟨rfl, rfl⟩, hop], fun _ => z4 p.1 p.2 rfl, fun z => by omega⟩
  have step1 : ∀ op : Nat, sg c len a = op → op = 109 ∨ op = 102 → actN (sg c len) a = (a + 1, some (op, 0, 0)) → RA o a (sg c len) I 1 (am_w (am_w I o 3 (nI (sg c len a))) o 2 (nI (a + 1))) := fun op hop ho hact => by
    unfold RA
    rw [hact]
    refine ⟨rfl, hb4, fun q k hk => by simp (disch := omega) only [am_w_nq], fun op' v w hz => ?_⟩
    injection hz with hz
    injection hz with k1 hz
    subst k1
    exact ⟨by rw [am_w_nq _ _ (by omega), am_w_eq _ _ ⟨rfl, rfl⟩, hop], fun z => by omega, fun z => by omega⟩
  by_cases e1 : sg c len a = 98
  · rw [if_pos (by rw [l98]; exact e1), am_let_ap]
    exact step5 5 0 98 (by omega) (by omega) e1 (by omega) (by unfold actN; rw [if_pos e1])
  rw [if_neg (by rw [l98]; exact e1)]
  by_cases e2 : sg c len a = 102
  · rw [if_pos (by rw [l102]; exact e2), am_let_ap]
    exact ⟨1, _, rfl, step1 102 e2 (by omega) (by unfold actN; rw [if_neg e1, if_neg (by omega), if_neg (by omega), if_neg (by omega), if_pos e2])⟩
  rw [if_neg (by rw [l102]; exact e2)]
  by_cases e3 : sg c len a = 109
  · rw [if_pos (by rw [l109]; exact e3), am_let_ap]
    exact ⟨1, _, rfl, step1 109 e3 (by omega) (by unfold actN; rw [if_neg e1, if_neg (by omega), if_neg (by omega), if_pos e3])⟩
  rw [if_neg (by rw [l109]; exact e3)]
  by_cases e4 : sg c len a = 112
  · have hr := fw_readNumber (o := o) (lo := 0) (hi := 5) (by omega) (by omega) hI4 hb4 (by omega)
    rw [if_pos (by rw [l112]; exact e4), am_let_ap, show f_X3_readNumber o 0 5 _ = _ from hr]
    cases hn : num (sg c len) 0 5 (a + 1) with
    | none =>
      have hact : actN (sg c len) a = (a + 1, none) := by unfold actN; rw [if_neg e1, if_neg (by omega), if_pos e4, hn]
      unfold RA
      rw [hact]
      simp only []
      rw [am_b2_some, am_let_ap, if_pos (am_w_eq _ _ ⟨rfl, rfl⟩)]
      exact ⟨_, _, rfl, rfl, by simp (disch := omega) only [am_w_nq, am_w_eq], fun q k hk => by simp (disch := omega) only [am_w_nq], fun op v w z => by cases z⟩
    | some p =>
      obtain ⟨v, b⟩ := p
      obtain ⟨n1, n2, n3⟩ := num_a hn
      have hact : actN (sg c len) a = (b, some (112, v, 0)) := by unfold actN; rw [if_neg e1, if_neg (by omega), if_pos e4, hn]
      unfold RA
      rw [hact]
      simp only []
      rw [am_b2_some, am_let_ap, if_neg (by rw [am_w_eq _ _ ⟨rfl, rfl⟩, nI_n6 _ (by omega)]; exact fun z => z)]
      refine ⟨_, _, rfl, rfl, by simp (disch := omega) only [am_w_nq, am_w_eq], fun q k hk => by simp (disch := omega) only [am_w_nq], fun op v' w z => ?_⟩
      injection z with z
      injection z with k1 z
      injection z with k2 k3
      subst k1; subst k2
      refine ⟨?_, fun z => by omega, fun _ => am_w_eq _ _ ⟨rfl, rfl⟩⟩
      simp (disch := omega) only [am_w_nq, am_w_eq]
      rw [e4]
  rw [if_neg (by rw [l112]; exact e4)]
  by_cases e5 : sg c len a = 115
  · rw [if_pos (by rw [l115]; exact e5), am_let_ap]
    exact step5 2 1 115 (by omega) (by omega) e5 (by omega) (by unfold actN; rw [if_neg e1, if_pos e5])
  rw [if_neg (by rw [l115]; exact e5)]
  have hact : actN (sg c len) a = (a, none) := by unfold actN; rw [if_neg e1, if_neg e5, if_neg e4, if_neg e3, if_neg e2]
  unfold RA
  rw [hact]
  exact ⟨0, _, rfl, rfl, by rw [am_w_nq _ _ (by omega)]; exact h2, fun q k hk => am_w_nq _ _ (by omega), fun op v w z => by cases z⟩
