/-! PURE: the pad's questions -/
def PP (x m : Nat) (I Ir : aI) (u y : Option (Int32 × aI)) : Prop := ∃ r I1 Ir1 np nl nd len c, u = some (r, I1) ∧ y = some (r, Ir1) ∧ IV I1 (x + 1) np nl nd ∧ RW I1 (x + 1) (Ir1 (m + 1)) nl nd ∧ PD I1 (x + 35) len c ∧ PM Ir1 m len c ∧ (∀ q, (q < x + 2 ∨ x + 31 ≤ q) → q ≠ x + 35 → q ≠ x + 36 → I1 q = I q) ∧ (∀ q, q ≠ m → q ≠ m + 1 → q ≠ m + 2 → q ≠ m + 5 → q ≠ m + 6 → q ≠ m + 9 → Ir1 q = Ir q)
theorem fc_iv {I I1 : aI} {x np nl nd : Nat} {a a' : Nat → Int32} (h : fC (x + 35) I I1) (hv : IV I (x + 1) np nl nd) (hw : RW I (x + 1) a nl nd) (ha : a' = a) : IV I1 (x + 1) np nl nd ∧ RW I1 (x + 1) a' nl nd := by
  have hsm : sameG I (x + 1) I1 (x + 1) := sameG.rf (fun q k1 k2 => funext fun k => h q k (by omega))
  exact ⟨iv_same hsm hv, rw_same hsm (fun k _ => by rw [ha]) hv.1.2.2.2.1 hw⟩
theorem fault_pair {I Ir : aI} {x m np nl nd len : Nat} {c : Nat → Nat} (hv : IV I (x + 1) np nl nd) (hw : RW I (x + 1) (Ir (m + 1)) nl nd) (hp : PD I (x + 35) len c) (hm : PM Ir m len c) : PP x m I Ir (f_X6_fault x I) (f_X7_fault m Ir) := by
  obtain ⟨r, I1, Ir1, z1, z2, z3, z4, -⟩ := fault_go hp hm
  obtain ⟨i1, i2⟩ := fc_iv (a' := Ir1 (m + 1)) z3 hv hw (funext fun k => z4 _ _ (by omega) (by omega))
  rw [f_X6_fault, z1, am_b2_some]
  exact ⟨r, I1, Ir1, np, nl, nd, len, c, rfl, z2, i1, i2, z3.pd hp, z4.pm hm, fun q h1 h2 h3 => funext fun k => z3 q k (Or.inl h2), fun q h0 h1 h2 h5 h6 h9 => funext fun k => z4 q k (Or.inl h0) h9⟩
theorem carry_pair {I Ir : aI} {x m np nl nd len : Nat} {c : Nat → Nat} (hv : IV I (x + 1) np nl nd) (hw : RW I (x + 1) (Ir (m + 1)) nl nd) (hp : PD I (x + 35) len c) (hm : PM Ir m len c) : PP x m I Ir (f_X6_carryOut x I) (f_X7_carryOut m Ir) := by
  have hF := am_F_big
  obtain ⟨r, I1, Ir1, z1, z2, z3, z4, z5⟩ := fault_go hp hm
  obtain ⟨i1, i2⟩ := fc_iv (a' := Ir1 (m + 1)) z3 hv hw (funext fun k => z4 _ _ (by omega) (by omega))
  rw [f_X6_carryOut, z1, am_b2_some, f_X7_carryOut, z2, am_b2_some]
  by_cases e : r = -6
  · obtain ⟨K, k1, k2, k3, k4, k5, k6⟩ := z5 e
    have hJ : ∀ q, q ≠ x + 35 → am_w I1 (x + 35) 2 0 q = I1 q := fun q hq => am_w_ne _ _ hq
    rw [if_pos e, if_pos e, f_X3_toStart, am_let_ap, am_b1_some]
    obtain ⟨r', I8, Ir8, np8, nl8, nd8, w1, w2, w3, w4, w5, w6, w7, w8⟩ := carry_h (m := m) (x := x) k2 k3 k4 am_F am_F 0 np nl nd (am_w I1 (x + 35) 2 0) Ir1 (iv_same (sameG.rf (fun q h1 h2 => hJ q (by omega))) i1) (rw_same (sameG.rf (fun q h1 h2 => hJ q (by omega))) (fun _ _ => rfl) hv.1.2.2.2.1 i2) ((z3.pd hp).w (by omega)) (am_w_eq _ _ ⟨rfl, rfl⟩) (by rw [pos]; omega) k5 k6 (by omega) (by omega) (by omega)
    exact ⟨r', I8, Ir8, np8, nl8, nd8, 0, c, w1, w2, w3, w4, ⟨w7, by omega, fun k hk => by omega⟩, ⟨w8, by omega, fun k hk => by omega⟩, fun q h1 h2 h3 => by rw [w5 q h1 h2, am_w_ne _ _ h2]; exact funext fun k => z3 q k (Or.inl h2), fun q h0 h1 h2 h5 h6 h9 => by rw [w6 q h0 h1 h2 h6 h9]; exact funext fun k => z4 q k (Or.inl h0) h9⟩
  · rw [if_neg e, if_neg e]
    exact ⟨-3, I1, Ir1, np, nl, nd, len, c, rfl, rfl, i1, i2, z3.pd hp, z4.pm hm, fun q h1 h2 h3 => funext fun k => z3 q k (Or.inl h2), fun q h0 h1 h2 h5 h6 h9 => funext fun k => z4 q k (Or.inl h0) h9⟩
theorem wipe_pair {I Ir : aI} {x m np nl nd len : Nat} {c : Nat → Nat} (hv : IV I (x + 1) np nl nd) (hw : RW I (x + 1) (Ir (m + 1)) nl nd) (hp : PD I (x + 35) len c) (hm : PM Ir m len c) : PP x m I Ir (f_X6_wipe x I) (f_X7_wipe m Ir) := by
  have hsm : sameG I (x + 1) (am_w I (x + 35) 1 0) (x + 1) := sameG.rf (fun q k1 k2 => am_w_ne _ _ (by omega))
  rw [f_X6_wipe, am_let_ap, f_X3_empty, am_let_ap, am_b1_some, f_X7_wipe, am_let_ap, am_let_ap, hp.1, hm.1]
  exact ⟨nI len, _, _, np, nl, nd, 0, c, rfl, rfl, iv_same hsm hv, rw_same hsm (fun k _ => by rw [am_w_ne _ _ (by omega)]) hv.1.2.2.2.1 hw, ⟨am_w_eq _ _ ⟨rfl, rfl⟩, by omega, fun k hk => by omega⟩, ⟨am_w_eq _ _ ⟨rfl, rfl⟩, by omega, fun k hk => by omega⟩, fun q h1 h2 h3 => am_w_ne _ _ h2, fun q h0 h1 h2 h5 h6 h9 => am_w_ne _ _ h0⟩
