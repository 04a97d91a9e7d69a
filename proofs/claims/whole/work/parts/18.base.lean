/-! PURE: evaluation -/
theorem am_b1_some {γ β : Type} (a : γ) (f : γ → Option β) : am_b1 (some a) f = f a := rfl
theorem am_b2_some {γ δ β : Type} (a : γ) (b : δ) (f : γ → δ → Option β) : am_b2 (some (a, b)) f = f a b := rfl
theorem am_let_ap {γ β : Type} (a : γ) (f : γ → Option β) : am_let a f = f a := rfl
theorem am_g_tt {β : Type} (x : Option β) : am_g true x = x := rfl
theorem am_g_of {β : Type} {b : Bool} (x : Option β) (h : b = true) : am_g b x = x := by rw [h]; rfl
theorem am_ok_nI {k n : Nat} (h : k < n) (hn : n < 2147483648) : am_ok (nI k) n = true := by
  simp only [am_ok, Bool.and_eq_true, decide_eq_true_eq]
  exact ⟨nI_pos (by omega), by rw [nI_clamp (by omega)]; exact h⟩
theorem am_ok_of {i : Int32} {n : Nat} (h0 : 0 ≤ i.toInt) (h1 : i.toInt < n) : am_ok i n = true := by
  simp only [am_ok, Bool.and_eq_true, decide_eq_true_eq]
  refine ⟨fun h => ?_, ?_⟩
  · have := Int32.lt_iff_toInt_lt.mp h
    have e : (0 : Int32).toInt = 0 := rfl
    omega
  · rw [← Int32.toNat_toInt]; omega
theorem nI_mul (a b : Nat) : nI a * nI b = nI (a * b) := (Int32.ofNat_mul a b).symm
theorem nI_sub {a b : Nat} (h : b ≤ a) : nI a - nI b = nI (a - b) := (Int32.ofNat_sub a b h).symm
theorem nI_inj {a b : Nat} (ha : a < 2147483648) (hb : b < 2147483648) : (nI a = nI b) = (a = b) := propext (nI_eq (by omega) (by omega))
theorem nI_leq {a b : Nat} (ha : a < 2147483648) (hb : b < 2147483648) : (nI a ≤ nI b) = (a ≤ b) := propext (nI_leI (by omega) (by omega))
theorem nI_ltq {a b : Nat} (ha : a < 2147483648) (hb : b < 2147483648) : (nI a < nI b) = (a < b) := propext (nI_ltI (by omega) (by omega))
theorem nI_tn {a : Nat} (ha : a < 2147483648) : Int32.toNatClampNeg (nI a) = a := nI_clamp (by omega)
theorem seat_cases (a : Int32) (n : Nat) (hn : n < 2147483648) : (∃ p : Nat, p < n ∧ a = nI p) ∨ (a < 0 ∨ nI n ≤ a) := by
  by_cases h : a < 0
  · exact Or.inr (Or.inl h)
  · obtain ⟨j, hj, rfl⟩ := nI_of h
    by_cases h1 : j < n
    · exact Or.inl ⟨j, h1, rfl⟩
    · exact Or.inr (Or.inr (nI_le (by omega) hj))
theorem am_w_eq (I : aI) {q k q' k' : Nat} (v : Int32) (h : q' = q ∧ k' = k) : am_w I q k v q' k' = v := by simp [am_w, h]
theorem am_w_nq (I : aI) {q k q' k' : Nat} (v : Int32) (h : ¬ (q' = q ∧ k' = k)) : am_w I q k v q' k' = I q' k' := by simp only [am_w, if_neg h]
theorem am_cpy_eq (I : aI) {a b n q k : Nat} (h : q = b ∧ k < n) : am_cpy I a b n q k = I a k := by simp [am_cpy, h]
theorem am_cpy_nq (I : aI) {a b n q k : Nat} (h : ¬ (q = b ∧ k < n)) : am_cpy I a b n q k = I q k := by simp only [am_cpy, if_neg h]
theorem n6_0 : ¬ ((-6 : Int32) = 0) := by decide
theorem nI_n6 (a : Nat) (h : a < 2147483648) : (nI a = -6) = False := by
  simp only [eq_iff_iff, iff_false]
  intro e
  have := congrArg Int32.toInt e
  rw [nI_toInt (by omega)] at this
  have e2 : (-6 : Int32).toInt = -6 := rfl
  omega
theorem n6_nI (a : Nat) (h : a < 2147483648) : ((-6 : Int32) = nI a) = False := by
  have h1 := nI_n6 a h
  simp only [eq_iff_iff, iff_false] at h1 ⊢
  exact fun e => h1 e.symm
theorem nI_neg (a : Nat) (h : a < 2147483648) : (nI a < 0) = False := by simp only [eq_iff_iff, iff_false]; exact nI_pos (by omega)
theorem nI_nn (a : Nat) (h : a < 2147483648) : (0 ≤ nI a) = True := by simp only [eq_iff_iff, iff_true]; exact nI_pos' (by omega)
/-! the class: small reads -/
theorem fw_within (a b c : Int32) : f_X6_within a b c = some (if a < b ∨ c < a then 0 else 1) := by
  unfold f_X6_within
  by_cases h1 : a < b
  · simp [h1]
  · by_cases h2 : c < a <;> simp [h1, h2]
theorem fw_in (a b c : Int32) : f_X7_in a b c = some (if a < b ∨ c < a then 0 else 1) := by
  unfold f_X7_in
  by_cases h1 : a < b
  · simp [h1]
  · by_cases h2 : c < a <;> simp [h1, h2]
theorem fw_hasSeat {o : Nat} {I : aI} (a : Int32) : f_X4_hasSeat o a I = some (if a < 0 ∨ I o 0 ≤ a then 0 else 1) := by
  unfold f_X4_hasSeat
  by_cases h1 : a < 0
  · simp [h1]
  · by_cases h2 : I o 0 ≤ a <;> simp [h1, h2]
theorem fw_hasSeat_in {o : Nat} {I : aI} {np p : Nat} (hn : I o 0 = nI np) (h6 : np ≤ 6) (hp : p < np) : f_X4_hasSeat o (nI p) I = some 1 := by
  rw [fw_hasSeat, hn]
  rw [if_neg]
  rw [nI_neg p (by omega), nI_leq (by omega) (by omega), false_or]
  omega
theorem fw_hasSeat_out {o : Nat} {I : aI} {np : Nat} {a : Int32} (hn : I o 0 = nI np) (h : a < 0 ∨ nI np ≤ a) : f_X4_hasSeat o a I = some 0 := by
  rw [fw_hasSeat, hn, if_pos h]
theorem ok6 {p : Nat} (h : p < 6) : am_ok (nI p) 6 = true := am_ok_nI h (by omega)
theorem ok12 {p : Nat} (h : p < 12) : am_ok (nI p) 12 = true := am_ok_nI h (by omega)
theorem one0 : ¬ ((1 : Int32) = 0) := by decide
theorem fw_amountOf {o : Nat} {I : aI} {np p : Nat} (hn : I o 0 = nI np) (h6 : np ≤ 6) (hp : p < np) : f_X4_amountOf o (nI p) I = some (I (o + 1) p) := by
  simp only [f_X4_amountOf, fw_hasSeat_in hn h6 hp, am_b1_some, if_neg one0, ok6 (show p < 6 by omega), am_g_tt, nI_tn (show p < 2147483648 by omega)]
theorem fw_boldnessOf {o : Nat} {I : aI} {np p : Nat} (hn : I o 0 = nI np) (h6 : np ≤ 6) (hp : p < np) : f_X4_boldnessOf o (nI p) I = some (I (o + 2) p) := by
  simp only [f_X4_boldnessOf, fw_hasSeat_in hn h6 hp, am_b1_some, if_neg one0, ok6 (show p < 6 by omega), am_g_tt, nI_tn (show p < 2147483648 by omega)]
theorem fw_paidBy {o : Nat} {I : aI} {np p : Nat} (hn : I o 0 = nI np) (h6 : np ≤ 6) (hp : p < np) : f_X4_paidBy o (nI p) I = some (I (o + 3) p) := by
  simp only [f_X4_paidBy, fw_hasSeat_in hn h6 hp, am_b1_some, if_neg one0, ok6 (show p < 6 by omega), am_g_tt, nI_tn (show p < 2147483648 by omega)]
theorem fw_leastOf {o : Nat} {I : aI} {np p : Nat} (hn : I o 0 = nI np) (h6 : np ≤ 6) (hp : p < np) : f_X4_leastOf o (nI p) I = some (I (o + 4) p) := by
  simp only [f_X4_leastOf, fw_hasSeat_in hn h6 hp, am_b1_some, if_neg one0, ok6 (show p < 6 by omega), am_g_tt, nI_tn (show p < 2147483648 by omega)]
theorem fw_greatestOf {o : Nat} {I : aI} {np p : Nat} (hn : I o 0 = nI np) (h6 : np ≤ 6) (hp : p < np) : f_X4_greatestOf o (nI p) I = some (I (o + 5) p) := by
  simp only [f_X4_greatestOf, fw_hasSeat_in hn h6 hp, am_b1_some, if_neg one0, ok6 (show p < 6 by omega), am_g_tt, nI_tn (show p < 2147483648 by omega)]
theorem fw_settingOf {o : Nat} {I : aI} {k : Nat} (hk : k < 6) : f_X1_settingOf o (nI k) I = some (I (o + 1) k) := by
  have e : (6 : Int32) = nI 6 := rfl
  simp only [f_X1_settingOf, nI_neg k (by omega), if_false, e, nI_leq (show 6 < 2147483648 by omega) (show k < 2147483648 by omega), if_neg (show ¬ 6 ≤ k by omega), ok6 hk, am_g_tt, nI_tn (show k < 2147483648 by omega)]
theorem fw_bidOf {o : Nat} {I : aI} {p : Nat} (hp : p < 6) : f_X0_bidOf o (nI p) I = some (I (o + 1) p) := by
  have e5 : (5 : Int32) = nI 5 := rfl
  have e0 : (0 : Int32) = nI 0 := rfl
  simp only [f_X0_bidOf, fw_within, am_b1_some]
  rw [if_neg (show ¬ (nI p < 0 ∨ (5 : Int32) < nI p) by rw [nI_neg p (by omega), e5, nI_ltq (by omega) (by omega), false_or]; omega), if_neg one0]
  simp only [ok6 hp, am_g_tt, nI_tn (show p < 2147483648 by omega)]
theorem fw_of {m : Nat} {I : aI} {p c : Nat} (hp : p < 6) (hc : c < 7) : f_X7_of m (nI p) (nI c) I = some (I (m + 1) (16 + 7 * p + c)) := by
  have e : (((16 : Int32) + ((7 : Int32) * nI p)) + nI c) = nI (16 + 7 * p + c) := by
    rw [show (16 : Int32) = nI 16 from rfl, show (7 : Int32) = nI 7 from rfl, nI_mul, nI_add, nI_add]
  simp only [f_X7_of, e, am_ok_nI (show 16 + 7 * p + c < 118 by omega) (by omega), am_g_tt, nI_tn (show 16 + 7 * p + c < 2147483648 by omega)]
theorem fw_lay {m : Nat} {I : aI} {p c : Nat} (v : Int32) (hp : p < 6) (hc : c < 7) : f_X7_lay m (nI p) (nI c) v I = some (am_w I (m + 1) (16 + 7 * p + c) v) := by
  have e : (((16 : Int32) + ((7 : Int32) * nI p)) + nI c) = nI (16 + 7 * p + c) := by
    rw [show (16 : Int32) = nI 16 from rfl, show (7 : Int32) = nI 7 from rfl, nI_mul, nI_add, nI_add]
  simp only [f_X7_lay, e, am_ok_nI (show 16 + 7 * p + c < 118 by omega) (by omega), am_g_tt, am_let_ap, nI_tn (show 16 + 7 * p + c < 2147483648 by omega)]
theorem fw_ofLot {m : Nat} {I : aI} {p c : Nat} (hp : p < 12) (hc : c < 5) : f_X7_ofLot m (nI p) (nI c) I = some (I (m + 1) (58 + 5 * p + c)) := by
  have e : (((58 : Int32) + ((5 : Int32) * nI p)) + nI c) = nI (58 + 5 * p + c) := by
    rw [show (58 : Int32) = nI 58 from rfl, show (5 : Int32) = nI 5 from rfl, nI_mul, nI_add, nI_add]
  simp only [f_X7_ofLot, e, am_ok_nI (show 58 + 5 * p + c < 118 by omega) (by omega), am_g_tt, nI_tn (show 58 + 5 * p + c < 2147483648 by omega)]
theorem fw_layLot {m : Nat} {I : aI} {p c : Nat} (v : Int32) (hp : p < 12) (hc : c < 5) : f_X7_layLot m (nI p) (nI c) v I = some (am_w I (m + 1) (58 + 5 * p + c) v) := by
  have e : (((58 : Int32) + ((5 : Int32) * nI p)) + nI c) = nI (58 + 5 * p + c) := by
    rw [show (58 : Int32) = nI 58 from rfl, show (5 : Int32) = nI 5 from rfl, nI_mul, nI_add, nI_add]
  simp only [f_X7_layLot, e, am_ok_nI (show 58 + 5 * p + c < 118 by omega) (by omega), am_g_tt, am_let_ap, nI_tn (show 58 + 5 * p + c < 2147483648 by omega)]
theorem fw_setting {m : Nat} {I : aI} {k : Nat} (hk : k < 6) : f_X7_setting m (nI k) I = some (I (m + 1) (10 + k)) := by
  have e : (10 : Int32) + nI k = nI (10 + k) := by rw [show (10 : Int32) = nI 10 from rfl, nI_add]
  simp only [f_X7_setting, e, am_ok_nI (show 10 + k < 118 by omega) (by omega), am_g_tt, nI_tn (show 10 + k < 2147483648 by omega)]
