/-! PURE: clearing, paying -/
def mxI (a b : Int32) : Int32 := if a < b then b else a
theorem am_w_id (I : aI) (q k : Nat) : am_w I q k (I q k) = I := by
  funext a b
  simp only [am_w]
  split
  · rename_i h; rw [h.1, h.2]
  · rfl
def clearC (I : aI) (o : Nat) : aI := fun q k => if q = o ∧ k < 8 then (if k = 6 then 0 else -6) else if q = o + 1 ∧ k < 6 then -6 else I q k
theorem clear_h (o : Nat) : ∀ (n j : Nat) (I : aI), j ≤ 6 → 6 < n + j → f_X0_clear_h49 o n (nI j) I = some (fun q k => if q = o + 1 ∧ j ≤ k ∧ k < 6 then -6 else I q k) := by
  intro n
  induction n with
  | zero => intro j I h1 h2; omega
  | succ n ih =>
    intro j I h1 h2
    rw [f_X0_clear_h49]
    have c6 : ((6 : Int32) ≤ nI j) = (6 ≤ j) := nI_leq (a := 6) (by omega) (by omega)
    by_cases h : 6 ≤ j
    · have : j = 6 := by omega
      subst this
      rw [if_pos (by rw [c6]; omega)]
      congr 1
      funext q k
      rw [if_neg (by omega)]
    · rw [if_neg (by rw [c6]; omega), ok6 (by omega), am_g_tt, am_let_ap, nI_tn (by omega), nI_1, ih (j + 1) _ (by omega) (by omega)]
      congr 1
      funext q k
      by_cases hq : q = o + 1 ∧ j ≤ k ∧ k < 6
      · rw [if_pos hq]
        by_cases hk : k = j
        · rw [if_neg (by omega), am_w_eq _ _ (by omega)]
        · rw [if_pos (by omega)]
      · rw [if_neg hq, if_neg (by omega), am_w_nq _ _ (by omega)]
theorem am_F_big : 1000000 < am_F := by rw [am_F_val]; omega
theorem fw_clear (o : Nat) (I : aI) : f_X0_clear o I = some (clearC I o) := by
  have hF := am_F_big
  simp only [f_X0_clear, am_let_ap]
  rw [show (0 : Int32) = nI 0 from rfl, clear_h o am_F 0 _ (by omega) (by omega)]
  congr 1
  funext q k
  unfold clearC
  by_cases h1 : q = o + 1 ∧ k < 6
  · rw [if_pos (by omega), if_neg (by omega), if_pos h1]
  · rw [if_neg (by omega)]
    by_cases h2 : q = o ∧ k < 8
    · obtain ⟨rfl, h2⟩ := h2
      rw [if_pos ⟨rfl, h2⟩]
      match k, h2 with
      | 0, _ => simp [am_w]
      | 1, _ => simp [am_w]
      | 2, _ => simp [am_w]
      | 3, _ => simp [am_w]
      | 4, _ => simp [am_w]
      | 5, _ => simp [am_w]
      | 6, _ => simp [am_w]; rfl
      | 7, _ => simp [am_w]
    · rw [if_neg h2, if_neg h1]
      iterate 8 rw [am_w_nq _ _ (by omega)]
/-- the row of the reference as a whole -/
def rw1 (I : aI) (m : Nat) (a : Nat → Int32) : aI := fun q => if q = m + 1 then a else I q
theorem rw1_row (I : aI) (m : Nat) (a : Nat → Int32) : rw1 I m a (m + 1) = a := by simp [rw1]
theorem rw1_ne (I : aI) (m : Nat) (a : Nat → Int32) {q : Nat} (h : q ≠ m + 1) : rw1 I m a q = I q := by simp [rw1, h]
theorem rw1_rw1 (I : aI) (m : Nat) (a b : Nat → Int32) : rw1 (rw1 I m a) m b = rw1 I m b := by
  funext q
  simp only [rw1]
  split <;> rfl
theorem rw1_id (I : aI) (m : Nat) : rw1 I m (I (m + 1)) = I := by
  funext q
  simp only [rw1]
  split
  · rename_i h; rw [h]
  · rfl
theorem am_w_rw1 (I : aI) (m i : Nat) (v : Int32) : am_w I (m + 1) i v = rw1 I m (upd (I (m + 1)) i v) := by
  funext q
  by_cases h : q = m + 1
  · subst h
    rw [am_w_self, rw1_row]
  · rw [am_w_ne _ _ h, rw1_ne _ _ _ h]
theorem upd_eq {f : Nat → Int32} {k j : Nat} (v : Int32) (h : j = k) : upd f k v j = v := by simp [upd, h]
theorem upd_nq {f : Nat → Int32} {k j : Nat} (v : Int32) (h : ¬ j = k) : upd f k v j = f j := by simp [upd, h]
def clearR (a : Nat → Int32) : Nat → Int32 := fun k => if k = 3 ∨ k = 9 then 0 else if 4 ≤ k ∧ k ≤ 8 then -6 else if 16 ≤ k ∧ k < 58 ∧ (k - 16) % 7 = 5 then -6 else if 16 ≤ k ∧ k < 58 ∧ (k - 16) % 7 = 6 then 0 else a k
theorem clearA_h (m : Nat) : ∀ (n j : Nat) (I : aI), j ≤ 6 → 6 < n + j → f_X7_clearAuction_h60 m n (nI j) I = some (rw1 I m (fun k => if 16 + 7 * j ≤ k ∧ k < 58 ∧ (k - 16) % 7 = 5 then -6 else if 16 + 7 * j ≤ k ∧ k < 58 ∧ (k - 16) % 7 = 6 then 0 else I (m + 1) k)) := by
  intro n
  induction n with
  | zero => intro j I h1 h2; omega
  | succ n ih =>
    intro j I h1 h2
    rw [f_X7_clearAuction_h60]
    have c6 : ((6 : Int32) ≤ nI j) = (6 ≤ j) := nI_leq (a := 6) (by omega) (by omega)
    by_cases h : 6 ≤ j
    · have : j = 6 := by omega
      subst this
      rw [if_pos (by rw [c6]; omega)]
      congr 1
      conv => lhs; rw [← rw1_id I m]
      congr 1
      funext k
      rw [if_neg (by omega), if_neg (by omega)]
    · rw [if_neg (by rw [c6]; omega), show f_X7_lay m (nI j) 5 (-6) I = _ from fw_lay (c := 5) _ (by omega) (by omega), am_b1_some, show f_X7_lay m (nI j) 6 0 _ = _ from fw_lay (c := 6) _ (by omega) (by omega), am_b1_some, nI_1, ih (j + 1) _ (by omega) (by omega)]
      congr 1
      rw [am_w_rw1, am_w_rw1, rw1_rw1, rw1_rw1, rw1_row, rw1_row]
      congr 1
      funext k
      by_cases h5 : 16 + 7 * j ≤ k ∧ k < 58 ∧ (k - 16) % 7 = 5
      · rw [if_pos h5]
        by_cases hk : k = 16 + 7 * j + 5
        · rw [if_neg (by omega), if_neg (by omega), upd_nq _ (by omega), upd_eq _ hk]
        · rw [if_pos (by omega)]
      · rw [if_neg h5, if_neg (by omega)]
        by_cases h6 : 16 + 7 * j ≤ k ∧ k < 58 ∧ (k - 16) % 7 = 6
        · rw [if_pos h6]
          by_cases hk : k = 16 + 7 * j + 6
          · rw [if_neg (by omega), upd_eq _ hk]
          · rw [if_pos (by omega)]
        · rw [if_neg h6, if_neg (by omega), upd_nq _ (by omega), upd_nq _ (by omega)]
theorem fw_clearA (m : Nat) (I : aI) : f_X7_clearAuction m I = some (rw1 I m (clearR (I (m + 1)))) := by
  have hF := am_F_big
  simp only [f_X7_clearAuction, am_let_ap]
  rw [show (0 : Int32) = nI 0 from rfl, clearA_h m am_F 0 _ (by omega) (by omega)]
  congr 1
  simp only [am_w_rw1, rw1_rw1, rw1_row]
  congr 1
  funext k
  unfold clearR
  by_cases h1 : 16 ≤ k
  · rw [if_neg (show ¬ (k = 3 ∨ k = 9) by omega), if_neg (show ¬ (4 ≤ k ∧ k ≤ 8) by omega)]
    simp only [Nat.mul_zero, Nat.add_zero]
    by_cases h5 : 16 ≤ k ∧ k < 58 ∧ (k - 16) % 7 = 5
    · rw [if_pos h5, if_pos h5]
    · rw [if_neg h5, if_neg h5]
      by_cases h6 : 16 ≤ k ∧ k < 58 ∧ (k - 16) % 7 = 6
      · rw [if_pos h6, if_pos h6]
      · rw [if_neg h6, if_neg h6]
        iterate 7 rw [upd_nq _ (by omega)]
  · rw [if_neg (by omega), if_neg (by omega)]
    match k, h1 with
    | 0, _ => simp [upd]
    | 1, _ => simp [upd]
    | 2, _ => simp [upd]
    | 3, _ => simp [upd]; rfl
    | 4, _ => simp [upd]
    | 5, _ => simp [upd]
    | 6, _ => simp [upd]
    | 7, _ => simp [upd]
    | 8, _ => simp [upd]
    | 9, _ => simp [upd]; rfl
    | 10, _ => simp [upd]
    | 11, _ => simp [upd]
    | 12, _ => simp [upd]
    | 13, _ => simp [upd]
    | 14, _ => simp [upd]
    | 15, _ => simp [upd]
    | k + 16, h => exact absurd (by omega) h
/-! learning and paying -/
theorem fw_learn {o : Nat} {I : aI} {np p : Nat} (v : Int32) (hn : I o 0 = nI np) (h6 : np ≤ 6) (hp : p < np) : f_X4_learnAtLeast o (nI p) v I = some (am_w I (o + 4) p (mxI (I (o + 4) p) v)) := by
  simp only [f_X4_learnAtLeast, fw_hasSeat_in hn h6 hp, am_b1_some, if_neg one0, ok6 (show p < 6 by omega), am_g_tt, nI_tn (show p < 2147483648 by omega), am_let_ap]
  by_cases h : v ≤ I (o + 4) p
  · rw [if_pos h, mxI, if_neg (Int32.not_lt.mpr h), am_w_id]
  · rw [if_neg h, mxI, if_pos (Int32.not_le.mp h)]
theorem fw_know {m : Nat} {I : aI} {p : Nat} (v : Int32) (hp : p < 6) : f_X7_know m (nI p) v I = some (rw1 I m (upd (I (m + 1)) (16 + 7 * p + 3) (mxI (I (m + 1) (16 + 7 * p + 3)) v))) := by
  simp only [f_X7_know, show (3 : Int32) = nI 3 from rfl, fw_of hp (show 3 < 7 by omega), am_b1_some, fw_lay _ hp (show 3 < 7 by omega)]
  by_cases h : v ≤ I (m + 1) (16 + 7 * p + 3)
  · rw [if_pos h, mxI, if_neg (Int32.not_lt.mpr h), am_w_rw1]
  · rw [if_neg h, mxI, if_pos (Int32.not_le.mp h), am_w_rw1]
def payC (I : aI) (o p : Nat) (v : Int32) : aI := am_w (am_w (am_w (am_w I (o + 1) p (I (o + 1) p - v)) (o + 3) p (I (o + 3) p + v)) (o + 4) p (am_max 0 (I (o + 4) p - v))) (o + 5) p (I (o + 5) p - v)
theorem fw_takeFrom {o : Nat} {I : aI} {np p : Nat} (v : Int32) (hn : I o 0 = nI np) (h6 : np ≤ 6) (hp : p < np) : f_X4_takeFrom o (nI p) v I = some (payC I o p v) := by
  simp only [f_X4_takeFrom, fw_hasSeat_in hn h6 hp, am_b1_some, if_neg one0, ok6 (show p < 6 by omega), am_g_tt, nI_tn (show p < 2147483648 by omega), am_let_ap]
  simp (disch := omega) only [am_w_nq, payC]
def payR (a : Nat → Int32) (p : Nat) (v : Int32) : Nat → Int32 := upd (upd (upd (upd a (16 + 7 * p + 0) (a (16 + 7 * p + 0) - v)) (16 + 7 * p + 2) (a (16 + 7 * p + 2) + v)) (16 + 7 * p + 3) (if a (16 + 7 * p + 3) ≤ v then 0 else a (16 + 7 * p + 3) - v)) (16 + 7 * p + 4) (a (16 + 7 * p + 4) - v)
theorem fw_pay {m : Nat} {I : aI} {p : Nat} (v : Int32) (hp : p < 6) : f_X7_pay m (nI p) v I = some (rw1 I m (payR (I (m + 1)) p v)) := by
  have e0 : (0 : Int32) = nI 0 := rfl
  have e2 : (2 : Int32) = nI 2 := rfl
  have e3 : (3 : Int32) = nI 3 := rfl
  have e4 : (4 : Int32) = nI 4 := rfl
  unfold f_X7_pay f_X7_pay_b53
  rw [e0, fw_of hp (by omega), am_b1_some, fw_lay _ hp (by omega), am_b1_some, e2, fw_of hp (by omega), am_b1_some, fw_lay _ hp (by omega), am_b1_some, e3, fw_of hp (by omega), am_b1_some]
  simp (disch := omega) only [am_w_rw1, rw1_rw1, rw1_row, upd_nq]
  by_cases h : I (m + 1) (16 + 7 * p + 3) ≤ v
  · rw [if_pos h, fw_lay _ hp (by omega), am_b1_some, e4, fw_of hp (by omega), am_b1_some, fw_lay _ hp (by omega), am_b1_some]
    simp (disch := omega) only [am_w_rw1, rw1_rw1, rw1_row, upd_nq, payR, if_pos h, ← e0]
  · rw [if_neg h, am_b1_some, fw_lay _ hp (by omega), am_b1_some, e4, fw_of hp (by omega), am_b1_some, fw_lay _ hp (by omega), am_b1_some]
    simp (disch := omega) only [am_w_rw1, rw1_rw1, rw1_row, upd_nq, payR, if_neg h]
