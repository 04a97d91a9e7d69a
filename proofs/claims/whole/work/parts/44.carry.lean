/-! PURE: faults and carrying out -/
def pos (s : Nat → Nat) : Nat → Nat
  | 0 => 0
  | n + 1 => (actN s (pos s n)).1 + 1
def chn (s : Nat → Nat) (k : Nat) : Prop := ∀ i, i < k → (actN s (pos s i)).2 ≠ none ∧ (i + 1 < k → s (pos s (i + 1) - 1) = 44)
def AC (m : Nat) (s : Nat → Nat) (k : Nat) (I : aI) : Prop := ∀ i, i < k → ∀ op v w, (actN s (pos s i)).2 = some (op, v, w) → I (m + 9) (3 * i) = nI op ∧ I (m + 9) (3 * i + 1) = nI v ∧ ((op = 98 ∨ op = 115) → I (m + 9) (3 * i + 2) = nI w)
def fC (o : Nat) (I I1 : aI) : Prop := ∀ q k, q ≠ o ∨ k < 2 ∨ 6 ≤ k → I1 q k = I q k
def fM (m : Nat) (I I1 : aI) : Prop := ∀ q k, (q ≠ m ∨ (k ≠ 9 ∧ k ≠ 10 ∧ k ≠ 12)) → q ≠ m + 9 → I1 q k = I q k
theorem fC.pd {I I1 : aI} {o len : Nat} {c : Nat → Nat} (h : fC o I I1) (hp : PD I o len c) : PD I1 o len c := by
  obtain ⟨h1, h2, h3⟩ := hp
  exact ⟨by rw [h _ _ (by omega)]; exact h1, h2, fun k hk => by rw [h _ _ (by omega)]; exact h3 k hk⟩
theorem fM.pm {I I1 : aI} {m len : Nat} {c : Nat → Nat} (h : fM m I I1) (hp : PM I m len c) : PM I1 m len c := by
  obtain ⟨h1, h2, h3⟩ := hp
  exact ⟨by rw [h _ _ (by omega) (by omega)]; exact h1, h2, fun k hk => by rw [h _ _ (by omega) (by omega)]; exact h3 k hk⟩
theorem RA.fc {o a : Nat} {s : Nat → Nat} {I I1 : aI} {r : Int32} (h : RA o a s I r I1) : fC o I I1 := h.2.2.1
theorem TA.fm {m a n : Nat} {s : Nat → Nat} {I I1 : aI} (h : TA m a n s I I1) : fM m I I1 := fun q k h1 h2 => h.2.1 q k h1 (Or.inl h2)
theorem chn_succ {s : Nat → Nat} {k : Nat} (hk : 1 ≤ k) (h : chn s k) (h1 : s (pos s k - 1) = 44) (h2 : (actN s (pos s k)).2 ≠ none) : chn s (k + 1) := by
  intro i hi
  by_cases e : i = k
  · subst e; exact ⟨h2, fun z => by omega⟩
  · refine ⟨(h i (by omega)).1, fun z => ?_⟩
    by_cases e2 : i + 1 = k
    · rw [e2]; exact h1
    · exact (h i (by omega)).2 (by omega)
theorem ac_succ {m k : Nat} {s : Nat → Nat} {I I1 : aI} (h : AC m s k I) (ht : TA m (pos s k) k s I I1) : AC m s (k + 1) I1 := by
  intro i hi op v w hz
  by_cases e : i = k
  · subst e
    obtain ⟨-, -, h3, h4, h5⟩ := ht.2.2.2 op v w hz
    exact ⟨h3, h4, h5⟩
  · obtain ⟨h3, h4, h5⟩ := h i (by omega) op v w hz
    exact ⟨by rw [ht.2.1 _ _ (by omega) (by omega)]; exact h3, by rw [ht.2.1 _ _ (by omega) (by omega)]; exact h4, fun z => by rw [ht.2.1 _ _ (by omega) (by omega)]; exact h5 z⟩
/-- what both know at the end of the search for a fault -/
def FE (o m len : Nat) (c : Nat → Nat) (I Ir : aI) (r : Int32) (I1 Ir1 : aI) : Prop := fC o I I1 ∧ fM m Ir Ir1 ∧ (r = -6 → ∃ K, 1 ≤ K ∧ 2 * K ≤ len + 1 ∧ chn (sg c len) K ∧ pos (sg c len) K = len + 1 ∧ Ir1 m 12 = nI K ∧ AC m (sg c len) K Ir1)
theorem h11_0 {o n : Nat} {l : Int32} {I : aI} : f_X3_firstFault_h11 o (n + 1) 0 l I = some (I o 2, I) := by
  rw [f_X3_firstFault_h11]
  by_cases h : (60 : Int32) ≤ l
  · rw [if_pos h, f_X3_firstFault_b60, if_pos rfl]
  · rw [if_neg h, if_pos rfl, f_X3_firstFault_b60, if_pos rfl]
theorem fault_h {o m len : Nat} {c : Nat → Nat} : ∀ (n1 n2 k : Nat) (I Ir : aI), PD I o len c → PM Ir m len c → I o 2 = nI (pos (sg c len) k - 1) → Ir m 9 = nI (pos (sg c len) k - 1) → Ir m 10 = 0 → Ir m 12 = nI k → AC m (sg c len) k Ir → 1 ≤ k → chn (sg c len) k → 2 * k ≤ pos (sg c len) k → pos (sg c len) k ≤ len + 1 → 62 < n1 + k → 62 < n2 + k → ∃ r I1 Ir1, f_X3_firstFault_h11 o n1 1 (nI k) I = some (r, I1) ∧ f_X7_fault_h19 m n2 Ir = some (r, Ir1) ∧ FE o m len c I Ir r I1 Ir1 := by
  intro n1
  induction n1 with
  | zero => intro n2 k I Ir hp hm h2 h9 h10 h12 hac hk hch hk2 hpl hf1; have := hp.2.1; omega
  | succ n1 ih =>
    intro n2 k I Ir hp hm h2 h9 h10 h12 hac hk hch hk2 hpl hf1 hf2
    have h60 := hp.2.1
    obtain ⟨n1, rfl⟩ : ∃ t, n1 = t + 1 := ⟨n1 - 1, by omega⟩
    obtain ⟨n2, rfl⟩ : ∃ t, n2 = t + 2 := ⟨n2 - 2, by omega⟩
    have hg := fw_nextS hm h9 (by omega)
    have hsr := fw_readSign (t := 44) hp h2 (by omega) (by omega)
    rw [f_X3_firstFault_h11, show (60 : Int32) = nI 60 from rfl, if_neg (nI_ge (by omega) (by omega)), if_neg one0, hp.1, h2, f_X7_fault_h19, h10, if_pos rfl, hg, am_b1_some]
    by_cases e : sg c len (pos (sg c len) k - 1) = 44
    · have hlt := sg_pos (c := c) (len := len) (a := pos (sg c len) k - 1) (by omega)
      have hp1 : nI (pos (sg c len) k - 1) + 1 = nI (pos (sg c len) k) := by rw [nI_1, show pos (sg c len) k - 1 + 1 = pos (sg c len) k by omega]
      rw [if_neg (nI_ge (by omega) (by omega)), show f_X3_readSign o 44 I = _ from hsr, if_pos e, am_b2_some, if_neg one0, e, if_pos (show nI 44 = (44 : Int32) from rfl), am_let_ap, h9, hp1, show pos (sg c len) k - 1 + 1 = pos (sg c len) k by omega]
      obtain ⟨r1, I1, z1, z2⟩ := fw_readAct (I := am_w I o 2 (nI (pos (sg c len) k))) (hp.w (by omega)) (am_w_eq _ _ ⟨rfl, rfl⟩) (show pos (sg c len) k ≤ 60 by omega)
      obtain ⟨Ir1, y1, y2⟩ := fw_takeAct (I := am_w Ir m 9 (nI (pos (sg c len) k))) (n := k) (hm.w (by omega)) (am_w_eq _ _ ⟨rfl, rfl⟩) (by rw [am_w_nq _ _ (by omega)]; exact h10) (by rw [am_w_nq _ _ (by omega)]; exact h12) (by omega) (show pos (sg c len) k ≤ 60 by omega)
      have fc1 : fC o I I1 := fun q i hq => by rw [z2.fc q i hq, am_w_nq _ _ (by omega)]
      have fm1 : fM m Ir Ir1 := fun q i hq hq2 => by rw [y2.fm q i hq hq2, am_w_nq _ _ (by omega)]
      rw [z1, am_b2_some, y1, am_b1_some]
      cases hq : (actN (sg c len) (pos (sg c len) k)).2 with
      | none =>
        have hr : r1 = 0 := by rw [z2.1, hq]; rfl
        rw [hr, if_pos rfl, h11_0, f_X7_fault_h19, y2.2.2.1 hq, if_neg one0, f_X7_fault_b52, y2.2.2.1 hq, if_neg one0, z2.2.1, y2.1]
        exact ⟨_, I1, Ir1, rfl, rfl, fc1, fm1, fun z => by have := actN_a (c := c) (len := len) (a := pos (sg c len) k) (by omega); rw [nI_n6 _ (by omega)] at z; exact z.elim⟩
      | some p =>
        obtain ⟨op, v, w⟩ := p
        have hr : r1 = 1 := by rw [z2.1, hq]; rfl
        have hne : (actN (sg c len) (pos (sg c len) k)).2 ≠ none := by rw [hq]; exact fun z => by cases z
        obtain ⟨a1, a2, a3⟩ := actN_a (c := c) (len := len) (a := pos (sg c len) k) (by omega)
        have a3 := a3 hne
        obtain ⟨t1, t2, -⟩ := y2.2.2.2 op v w hq
        have hps : pos (sg c len) (k + 1) = (actN (sg c len) (pos (sg c len) k)).1 + 1 := rfl
        rw [hr, if_neg one0, nI_1]
        have hac0 : AC m (sg c len) k (am_w Ir m 9 (nI (pos (sg c len) k))) := fun i hi op v w hz => by
          rw [am_w_ne _ _ (by omega)]; exact hac i hi op v w hz
        obtain ⟨r, I2, Ir2, x1, x2, x3, x4, x5⟩ := ih (n2 + 1) (k + 1) I1 Ir1 (fc1.pd hp) (fm1.pm hm) (by rw [z2.2.1, hps]; rfl) (by rw [y2.1, hps]; rfl) t1 t2 (ac_succ hac0 y2) (by omega) (chn_succ hk hch e hne) (by omega) (by omega) (by omega) (by omega)
        refine ⟨r, I2, Ir2, x1, x2, fun q i hq => (x3 q i hq).trans (fc1 q i hq), fun q i h1 h2 => (x4 q i h1 h2).trans (fm1 q i h1 h2), x5⟩
    · have e44 : ¬ nI (sg c len (pos (sg c len) k - 1)) = (44 : Int32) := by
        have := hp.sgl (pos (sg c len) k - 1)
        rw [show (44 : Int32) = nI 44 from rfl, nI_inj (by omega) (by omega)]; exact e
      rw [if_neg e44, f_X7_fault_b52, h10, if_pos rfl, hm.1, h9]
      by_cases e2 : len ≤ pos (sg c len) k - 1
      · rw [if_pos (nI_le e2 (by omega)), f_X3_firstFault_b60, if_neg one0, if_pos (nI_le e2 (by omega))]
        exact ⟨_, I, Ir, rfl, rfl, fun _ _ _ => rfl, fun _ _ _ _ => rfl, fun _ => ⟨k, hk, by omega, hch, by omega, h12, hac⟩⟩
      · rw [if_neg (nI_ge (by omega) (by omega)), if_neg (nI_ge (by omega) (by omega)), show f_X3_readSign o 44 I = _ from hsr, if_neg e, am_b2_some, if_pos rfl, h11_0, h2]
        exact ⟨_, I, Ir, rfl, rfl, fun _ _ _ => rfl, fun _ _ _ _ => rfl, fun z => by rw [nI_n6 _ (by omega)] at z; exact z.elim⟩
theorem fault_go {I Ir : aI} {o m len : Nat} {c : Nat → Nat} (hp : PD I o len c) (hm : PM Ir m len c) : ∃ r I1 Ir1, f_X3_firstFault o I = some (r, I1) ∧ f_X7_fault m Ir = some (r, Ir1) ∧ FE o m len c I Ir r I1 Ir1 := by
  have hF := am_F_big
  have h60 := hp.2.1
  obtain ⟨t, ht⟩ : ∃ t, am_F = t + 2 := ⟨am_F - 2, by omega⟩
  rw [f_X3_firstFault, f_X3_toStart, am_let_ap, am_b1_some, f_X7_fault, am_let_ap, am_let_ap, am_let_ap]
  obtain ⟨r1, I1, z1, z2⟩ := fw_readAct (I := am_w I o 2 0) (a := 0) (hp.w (by omega)) (am_w_eq _ _ ⟨rfl, rfl⟩) (by omega)
  obtain ⟨Ir1, y1, y2⟩ := fw_takeAct (I := am_w (am_w (am_w Ir m 9 0) m 10 0) m 12 0) (a := 0) (n := 0) (((hm.w (by omega)).w (by omega)).w (by omega)) (by simp (disch := omega) only [am_w_nq, am_w_eq]; rfl) (by simp (disch := omega) only [am_w_nq, am_w_eq]) (am_w_eq _ _ ⟨rfl, rfl⟩) (by omega) (by omega)
  have fc1 : fC o I I1 := fun q i hq => by rw [z2.fc q i hq, am_w_nq _ _ (by omega)]
  have fm1 : fM m Ir Ir1 := fun q i hq hq2 => by rw [y2.fm q i hq hq2]; simp (disch := omega) only [am_w_nq]
  rw [z1, am_b2_some, y1, am_b1_some]
  cases hq : (actN (sg c len) 0).2 with
  | none =>
    have hr : r1 = 0 := by rw [z2.1, hq]; rfl
    rw [hr, ht, h11_0, f_X7_fault_h19, y2.2.2.1 hq, if_neg one0, f_X7_fault_b52, y2.2.2.1 hq, if_neg one0, z2.2.1, y2.1]
    exact ⟨_, I1, Ir1, rfl, rfl, fc1, fm1, fun z => by have := actN_a (c := c) (len := len) (a := 0) (by omega); rw [nI_n6 _ (by omega)] at z; exact z.elim⟩
  | some p =>
    obtain ⟨op, v, w⟩ := p
    have hr : r1 = 1 := by rw [z2.1, hq]; rfl
    have hne : (actN (sg c len) 0).2 ≠ none := by rw [hq]; exact fun z => by cases z
    obtain ⟨a1, a2, a3⟩ := actN_a (c := c) (len := len) (a := 0) (by omega)
    have a3 := a3 hne
    obtain ⟨t1, t2, -⟩ := y2.2.2.2 op v w hq
    have hps : pos (sg c len) 1 = (actN (sg c len) 0).1 + 1 := rfl
    rw [hr]
    have hac0 : AC m (sg c len) 0 (am_w (am_w (am_w Ir m 9 0) m 10 0) m 12 0) := fun i hi => by omega
    obtain ⟨r, I2, Ir2, x1, x2, x3, x4, x5⟩ := fault_h am_F am_F 1 I1 Ir1 (fc1.pd hp) (fm1.pm hm) (by rw [z2.2.1, hps]; rfl) (by rw [y2.1, hps]; rfl) t1 t2 (ac_succ hac0 y2) (by omega) (fun i hi => by
      have : i = 0 := by omega
      subst this
      exact ⟨hne, fun z => by omega⟩) (by omega) (by omega) (by omega) (by omega)
    refine ⟨r, I2, Ir2, x1, x2, fun q i hq => (x3 q i hq).trans (fc1 q i hq), fun q i h1 h2 => (x4 q i h1 h2).trans (fm1 q i h1 h2), x5⟩
theorem actN_op {s : Nat → Nat} {a op v w : Nat} (h : (actN s a).2 = some (op, v, w)) : op = 98 ∨ op = 115 ∨ op = 112 ∨ op = 109 ∨ op = 102 := by
  unfold actN at h
  by_cases e1 : s a = 98
  · rw [if_pos e1] at h
    cases hq : (pairN s 5 0 (a + 1)).2 with
    | none => rw [hq] at h; cases h
    | some p => rw [hq] at h; injection h with h; injection h with h1 h2; omega
  rw [if_neg e1] at h
  by_cases e2 : s a = 115
  · rw [if_pos e2] at h
    cases hq : (pairN s 2 1 (a + 1)).2 with
    | none => rw [hq] at h; cases h
    | some p => rw [hq] at h; injection h with h; injection h with h1 h2; omega
  rw [if_neg e2] at h
  by_cases e3 : s a = 112
  · rw [if_pos e3] at h
    cases hq : num s 0 5 (a + 1) with
    | none => rw [hq] at h; cases h
    | some p => rw [hq] at h; injection h with h; injection h with h1 h2; omega
  rw [if_neg e3] at h
  by_cases e4 : s a = 109
  · rw [if_pos e4] at h; injection h with h; injection h with h1 h2; omega
  rw [if_neg e4] at h
  by_cases e5 : s a = 102
  · rw [if_pos e5] at h; injection h with h; injection h with h1 h2; omega
  rw [if_neg e5] at h; cases h
theorem fw_isError (r : Int32) : f_X6_isError r = some (if 0 ≤ r ∨ r = -6 then 0 else 1) := by
  rw [f_X6_isError]
  by_cases h : 0 ≤ r
  · rw [if_pos h, if_pos (Or.inl h)]
  · rw [if_neg h]
    by_cases h2 : r = -6
    · rw [if_pos h2, if_pos (Or.inr h2)]
    · rw [if_neg h2, if_neg (fun z => z.elim h h2)]
theorem act_pair {I Ir : aI} {x m np nl nd i op v w : Nat} (hv : IV I (x + 1) np nl nd) (hw : RW I (x + 1) (Ir (m + 1)) nl nd) (hi : i < 31) (hop : op = 98 ∨ op = 115 ∨ op = 112 ∨ op = 109 ∨ op = 102) (h3 : I (x + 35) 3 = nI op) (h45 : (op = 98 ∨ op = 115) → I (x + 35) 4 = nI v ∧ I (x + 35) 5 = nI w) (h4 : op = 112 → I (x + 35) 4 = nI v) (g3 : Ir (m + 9) (3 * i) = nI op) (g4 : Ir (m + 9) (3 * i + 1) = nI v) (g5 : (op = 98 ∨ op = 115) → Ir (m + 9) (3 * i + 2) = nI w) : PA (x + 1) m np nl I Ir (f_X6_carryOutAct x I) (f_X7_does m ((3 : Int32) * nI i) Ir) := by
  have e0 : (3 : Int32) * nI i = nI (3 * i) := by rw [show (3 : Int32) = nI 3 from rfl, nI_mul]
  have e1 : nI (3 * i) + 1 = nI (3 * i + 1) := nI_1 _
  have e2 : nI (3 * i) + 2 = nI (3 * i + 2) := by rw [show (2 : Int32) = nI 2 from rfl, nI_add]
  have wrap : ∀ u y : Option (Int32 × aI), PA (x + 1) m np nl I Ir u y → PA (x + 1) m np nl I Ir (am_b2 u fun r2 I2 => some (r2, I2)) (am_b2 y fun r2 I2 => some (r2, I2)) := fun u y h => by
    obtain ⟨r, I1, Ir1, z1, z2, z3⟩ := h
    exact ⟨r, I1, Ir1, by rw [z1, am_b2_some], by rw [z2, am_b2_some], z3⟩
  rw [f_X6_carryOutAct, f_X7_does, h3, e0, ok93 (by omega), am_g_tt, nI_tn (by omega), g3, e1, e2, ok93 (by omega), ok93 (by omega), nI_tn (by omega), nI_tn (by omega), g4]
  simp only [am_g_tt]
  rcases hop with rfl | rfl | rfl | rfl | rfl
  · obtain ⟨k1, k2⟩ := h45 (Or.inl rfl)
    rw [if_pos (show nI 98 = (98 : Int32) from rfl), if_pos (show nI 98 = (98 : Int32) from rfl), g5 (Or.inl rfl), k1, k2]
    exact wrap _ _ (bid_pair hv hw _ _)
  · obtain ⟨k1, k2⟩ := h45 (Or.inr rfl)
    rw [if_neg (show ¬ nI 115 = (98 : Int32) by decide), if_neg (show ¬ nI 115 = (109 : Int32) by decide), if_neg (show ¬ nI 115 = (112 : Int32) by decide), if_pos (show nI 115 = (115 : Int32) from rfl), if_neg (show ¬ nI 115 = (98 : Int32) by decide), if_neg (show ¬ nI 115 = (109 : Int32) by decide), if_neg (show ¬ nI 115 = (112 : Int32) by decide), if_pos (show nI 115 = (115 : Int32) from rfl), g5 (Or.inr rfl), k1, k2]
    exact wrap _ _ (begin_pair hv hw _ _)
  · have k1 := h4 rfl
    rw [if_neg (show ¬ nI 112 = (98 : Int32) by decide), if_neg (show ¬ nI 112 = (109 : Int32) by decide), if_pos (show nI 112 = (112 : Int32) from rfl), if_neg (show ¬ nI 112 = (98 : Int32) by decide), if_neg (show ¬ nI 112 = (109 : Int32) by decide), if_pos (show nI 112 = (112 : Int32) from rfl), k1]
    exact wrap _ _ (pass_pair hv hw _)
  · rw [if_neg (show ¬ nI 109 = (98 : Int32) by decide), if_pos (show nI 109 = (109 : Int32) from rfl), if_neg (show ¬ nI 109 = (98 : Int32) by decide), if_pos (show nI 109 = (109 : Int32) from rfl)]
    exact wrap _ _ (move_pair hv hw)
  · rw [if_neg (show ¬ nI 102 = (98 : Int32) by decide), if_neg (show ¬ nI 102 = (109 : Int32) by decide), if_neg (show ¬ nI 102 = (112 : Int32) by decide), if_neg (show ¬ nI 102 = (115 : Int32) by decide), if_neg (show ¬ nI 102 = (98 : Int32) by decide), if_neg (show ¬ nI 102 = (109 : Int32) by decide), if_neg (show ¬ nI 102 = (112 : Int32) by decide), if_neg (show ¬ nI 102 = (115 : Int32) by decide)]
    exact wrap _ _ (last_pair hv hw).1
/-- the two sides when a pad is carried out -/
def CP (x m : Nat) (I Ir : aI) (u y : Option (Int32 × aI)) : Prop := ∃ r I1 Ir1 np nl nd, u = some (r, I1) ∧ y = some (r, Ir1) ∧ IV I1 (x + 1) np nl nd ∧ RW I1 (x + 1) (Ir1 (m + 1)) nl nd ∧ (∀ q, (q < x + 2 ∨ x + 31 ≤ q) → q ≠ x + 35 → I1 q = I q) ∧ (∀ q, q ≠ m → q ≠ m + 1 → q ≠ m + 2 → q ≠ m + 6 → q ≠ m + 9 → Ir1 q = Ir q) ∧ I1 (x + 35) 1 = 0 ∧ Ir1 m 5 = 0
theorem carry_h {x m len K : Nat} {c : Nat → Nat} (hK : 2 * K ≤ len + 1) (hch : chn (sg c len) K) (hpK : pos (sg c len) K = len + 1) : ∀ (n1 n2 i np nl nd : Nat) (I Ir : aI), IV I (x + 1) np nl nd → RW I (x + 1) (Ir (m + 1)) nl nd → PD I (x + 35) len c → I (x + 35) 2 = nI (pos (sg c len) i) → pos (sg c len) i ≤ len → Ir m 12 = nI K → AC m (sg c len) K Ir → i < K → 62 < n1 + i → 62 < n2 + i → CP x m I Ir (f_X6_carryOut_h26 x n1 (nI i) (nI i) I) (f_X7_carryOut_h16 m n2 (nI i) 1 Ir) := by
  intro n1
  induction n1 with
  | zero => intro n2 i np nl nd I Ir hv hw hp h2 hpi h12 hac hi hn1; have := hp.2.1; omega
  | succ n1 ih =>
    intro n2 i np nl nd I Ir hv hw hp h2 hpi h12 hac hi hn1 hn2
    have h60 := hp.2.1
    obtain ⟨n2, rfl⟩ : ∃ t, n2 = t + 2 := ⟨n2 - 2, by omega⟩
    obtain ⟨hne, hcm⟩ := hch i hi
    obtain ⟨r3, I3, z1, z2⟩ := fw_readAct hp h2 (by omega)
    obtain ⟨a1, a2, a3⟩ := actN_a (c := c) (len := len) (a := pos (sg c len) i) hpi
    have fc3 := z2.fc
    cases hq : (actN (sg c len) (pos (sg c len) i)).2 with
    | none => exact absurd hq hne
    | some p =>
      obtain ⟨op, v, w⟩ := p
      have hr : r3 = 1 := by rw [z2.1, hq]; rfl
      obtain ⟨o3, o45, o4⟩ := z2.2.2.2 op v w hq
      obtain ⟨g3, g4, g5⟩ := hac i hi op v w hq
      have hsm : sameG I (x + 1) I3 (x + 1) := sameG.rf (fun q k1 k2 => funext fun k => fc3 q k (by omega))
      have hv3 := iv_same hsm hv
      have hw3 := rw_same (a' := Ir (m + 1)) hsm (fun _ _ => rfl) hv.1.2.2.2.1 hw
      obtain ⟨r, I6, Ir6, y1, y2, nd1, y3, y4, y5, y6⟩ := act_pair hv3 hw3 (show i < 31 by omega) (actN_op hq) o3 o45 o4 g3 g4 g5
      have hp6 : PD I6 (x + 35) len c := by
        obtain ⟨t1, t2, t3⟩ := fc3.pd hp
        exact ⟨by rw [y5 _ (by omega)]; exact t1, t2, fun k hk => by rw [y5 _ (by omega)]; exact t3 k hk⟩
      have h62 : I6 (x + 35) 2 = nI (actN (sg c len) (pos (sg c len) i)).1 := by rw [y5 _ (by omega)]; exact z2.2.1
      have f6 : ∀ q, (q < x + 2 ∨ x + 31 ≤ q) → q ≠ x + 35 → I6 q = I q := fun q k1 k2 => by
        rw [y5 q (by omega)]; exact funext fun k => fc3 q k (Or.inl k2)
      have fin : ∀ (J Jr : aI) (r : Int32), (∃ v, J = am_w I6 (x + 35) 2 v) ∨ J = I6 → Jr = Ir6 → CP x m I Ir (some (r, am_w J (x + 35) 1 0)) (some (r, am_w Jr m 5 0)) := fun J Jr r hJ hJr => by
        subst hJr
        have hJ13 : ∀ q, q ≠ x + 35 → am_w J (x + 35) 1 0 q = I6 q := fun q hq => by
          rw [am_w_ne _ _ hq]
          rcases hJ with ⟨v, rfl⟩ | rfl
          · exact am_w_ne _ _ hq
          · rfl
        refine ⟨r, _, _, np, nl, nd1, rfl, rfl, iv_same (sameG.rf (fun q k1 k2 => hJ13 q (by omega))) y3, rw_same (sameG.rf (fun q k1 k2 => hJ13 q (by omega))) (fun k _ => by rw [am_w_ne _ _ (by omega)]) hv.1.2.2.2.1 y4, fun q k1 k2 => by rw [hJ13 q k2]; exact f6 q k1 k2, fun q k0 k1 k2 k6 k9 => by rw [am_w_ne _ _ k0]; exact y6 q k1 k6, am_w_eq _ _ ⟨rfl, rfl⟩, am_w_eq _ _ ⟨rfl, rfl⟩⟩
      rw [f_X6_carryOut_h26, show (60 : Int32) = nI 60 from rfl, if_neg (nI_ge (by omega) (by omega)), z1, am_b2_some, hr, if_neg one0, y1, am_b2_some, fw_isError, am_b1_some, f_X7_carryOut_h16, if_neg one0, h12, if_neg (nI_ge (by omega) (by omega)), y2, am_b2_some]
      by_cases c1 : 0 ≤ r ∨ r = -6
      · have hb51 : ∀ kh : Int32 → Int32 → aI → Option (Int32 × aI), (if 0 ≤ r then f_X7_carryOut_b51 m kh (nI i) 1 Ir6 else if r = -6 then f_X7_carryOut_b51 m kh (nI i) 1 Ir6 else f_X7_carryOut_b51 m kh (nI i) 0 Ir6) = kh (nI (i + 1)) 1 Ir6 := fun kh => by
          have hb : f_X7_carryOut_b51 m kh (nI i) 1 Ir6 = kh (nI (i + 1)) 1 Ir6 := by rw [f_X7_carryOut_b51, if_neg one0, am_let_ap, nI_1]
          rcases c1 with c1 | c1
          · rw [if_pos c1, hb]
          · by_cases c2 : 0 ≤ r
            · rw [if_pos c2, hb]
            · rw [if_neg c2, if_pos c1, hb]
        rw [if_pos c1, if_pos rfl, hb51, show f_X3_readSign (x + 35) 44 I6 = _ from fw_readSign (t := 44) hp6 h62 (by omega) (by omega), nI_1]
        have hps : pos (sg c len) (i + 1) = (actN (sg c len) (pos (sg c len) i)).1 + 1 := rfl
        by_cases c3 : i + 1 < K
        · have h44 := hcm c3
          rw [hps, Nat.add_sub_cancel] at h44
          have hlt := sg_pos (c := c) (len := len) (a := (actN (sg c len) (pos (sg c len) i)).1) (by omega)
          rw [if_pos h44, am_b2_some, if_neg one0]
          have hJ13 : ∀ q, q ≠ x + 35 → am_w I6 (x + 35) 2 (nI (pos (sg c len) (i + 1))) q = I6 q := fun q hq => am_w_ne _ _ hq
          obtain ⟨r', I8, Ir8, np8, nl8, nd8, w1, w2, w3, w4, w5, w6, w7, w8⟩ := ih (n2 + 1) (i + 1) np nl nd1 (am_w I6 (x + 35) 2 (nI (pos (sg c len) (i + 1)))) Ir6 (iv_same (sameG.rf (fun q k1 k2 => hJ13 q (by omega))) y3) (rw_same (sameG.rf (fun q k1 k2 => hJ13 q (by omega))) (fun _ _ => rfl) hv.1.2.2.2.1 y4) (hp6.w (by omega)) (am_w_eq _ _ ⟨rfl, rfl⟩) (by rw [hps]; omega) (by rw [y6 _ (by omega) (by omega)]; exact h12) (fun j hj op v w hz => by rw [y6 _ (by omega) (by omega)]; exact hac j hj op v w hz) c3 (by omega) (by omega)
          exact ⟨r', I8, Ir8, np8, nl8, nd8, w1, w2, w3, w4, fun q k1 k2 => by rw [w5 q k1 k2, am_w_ne _ _ k2]; exact f6 q k1 k2, fun q k0 k1 k2 k6 k9 => by rw [w6 q k0 k1 k2 k6 k9]; exact y6 q k1 k6, w7, w8⟩
        · have hKi : i + 1 = K := by omega
          have hee : (actN (sg c len) (pos (sg c len) i)).1 = len := by rw [hKi, hpK] at hps; omega
          have h44 : ¬ sg c len (actN (sg c len) (pos (sg c len) i)).1 = 44 := fun z => by
            have := sg_pos (c := c) (len := len) (a := (actN (sg c len) (pos (sg c len) i)).1) (by omega)
            omega
          rw [if_neg h44, am_b2_some, if_pos rfl, f_X3_empty, am_let_ap, am_b1_some, f_X7_carryOut_h16, if_neg one0, y6 m (by omega) (by omega), h12, if_pos (nI_le (by omega) (by omega)), am_let_ap]
          exact fin I6 Ir6 _ (Or.inr rfl) rfl
      · rw [if_neg c1, if_neg one0, f_X3_empty, am_let_ap, am_b1_some, if_neg (fun z => c1 (Or.inl z)), if_neg (fun z => c1 (Or.inr z)), f_X7_carryOut_b51, if_pos rfl, am_let_ap, Int32.add_zero, f_X7_carryOut_h16, if_pos rfl, am_let_ap]
        exact fin I6 Ir6 _ (Or.inr rfl) rfl
