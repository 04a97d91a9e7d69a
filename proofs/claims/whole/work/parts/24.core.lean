/-! PURE: the game but for its auction, on both sides -/
def CO (I : aI) (g np nl nd : Nat) (a : Nat → Int32) : Prop := IVh I g np nl nd ∧ IVs I g ∧ IVp I g np ∧ IVl I g nl nd ∧ RLh I g a ∧ RLs I g a ∧ RLp I g a ∧ RLl I g a nl nd
/-- the row's places that belong to the auction -/
def aix (i : Nat) : Prop := (3 ≤ i ∧ i ≤ 9) ∨ (16 ≤ i ∧ i < 58 ∧ 5 ≤ (i - 16) % 7)
theorem co_auc {I I' : aI} {g np nl nd : Nat} {a a' : Nat → Int32} (h : CO I g np nl nd a) (hI : ∀ q, q ≠ g + 13 → q ≠ g + 14 → I' q = I q) (ha : ∀ i, ¬ aix i → a' i = a i) : CO I' g np nl nd a' := by
  obtain ⟨h1, h2, h3, h4, h5, h6, h7, h8⟩ := h
  have e : ∀ j, j < 13 → I' (g + j) = I (g + j) := fun j hj => hI _ (by omega) (by omega)
  have a0 : ∀ i, i < 3 → a' i = a i := fun i hi => ha i (by unfold aix; omega)
  have a1 : ∀ i, 10 ≤ i → i < 16 → a' i = a i := fun i hi hj => ha i (by unfold aix; omega)
  have a2 : ∀ p c, p < 6 → c < 5 → a' (16 + 7 * p + c) = a (16 + 7 * p + c) := fun p c hp hc => ha _ (by unfold aix; omega)
  have a3 : ∀ i, 58 ≤ i → a' i = a i := fun i hi => ha i (by unfold aix; omega)
  refine ⟨?_, ?_, ?_, ?_, ?_, ?_, ?_, ?_⟩
  · unfold IVh at *; rw [e 2 (by omega), e 8 (by omega)]; exact h1
  · unfold IVs at *; rw [e 1 (by omega)]; exact h2
  · unfold IVp at *; rw [e 6 (by omega), e 3 (by omega), e 7 (by omega), e 4 (by omega)]; exact h3
  · unfold IVl at *; rw [e 9 (by omega), e 10 (by omega), e 11 (by omega)]; exact h4
  · unfold RLh at *; rw [e 2 (by omega), e 8 (by omega), a0 0 (by omega), a0 1 (by omega), a0 2 (by omega)]; exact h5
  · intro k hk; rw [e 1 (by omega), a1 _ (by omega) (by omega)]; exact h6 k hk
  · intro p hp
    rw [e 3 (by omega), e 4 (by omega), e 5 (by omega), e 6 (by omega), e 7 (by omega), a2 p 0 hp (by omega), a2 p 1 hp (by omega), a2 p 2 hp (by omega), a2 p 3 hp (by omega), a2 p 4 hp (by omega)]
    exact h7 p hp
  · intro k hk
    rw [e 9 (by omega), e 10 (by omega), e 11 (by omega), e 12 (by omega), a3 _ (by omega), a3 _ (by omega), a3 _ (by omega), a3 _ (by omega), a3 _ (by omega)]
    exact h8 k hk
theorem mxI_toInt (a b : Int32) : (mxI a b).toInt = if a.toInt < b.toInt then b.toInt else a.toInt := by
  unfold mxI
  by_cases h : a < b
  · rw [if_pos h, if_pos (Int32.lt_iff_toInt_lt.mp h)]
  · rw [if_neg h, if_neg (fun q => h (Int32.lt_iff_toInt_lt.mpr q))]
theorem co_know {I : aI} {g np nl nd p : Nat} {a : Nat → Int32} {v : Int32} (h : CO I g np nl nd a) (hp : p < np) (hv : v.toInt ≤ (I (g + 3) p).toInt) : CO (am_w I (g + 6) p (mxI (I (g + 6) p) v)) g np nl nd (upd a (16 + 7 * p + 3) (mxI (a (16 + 7 * p + 3)) v)) := by
  obtain ⟨h1, h2, h3, h4, h5, h6, h7, h8⟩ := h
  have hp6 : p < 6 := by have := h1.2.1; omega
  have e : ∀ j, j ≠ 6 → am_w I (g + 6) p (mxI (I (g + 6) p) v) (g + j) = I (g + j) := fun j hj => am_w_ne _ _ (by omega)
  have a0 : ∀ i, i ≠ 16 + 7 * p + 3 → upd a (16 + 7 * p + 3) (mxI (a (16 + 7 * p + 3)) v) i = a i := fun i hi => upd_nq _ hi
  refine ⟨?_, ?_, ?_, ?_, ?_, ?_, ?_, ?_⟩
  · unfold IVh at *; rw [e 2 (by omega), e 8 (by omega)]; exact h1
  · unfold IVs at *; rw [e 1 (by omega)]; exact h2
  · intro k hk
    rw [e 3 (by omega), e 7 (by omega), e 4 (by omega)]
    have := h3 k hk
    by_cases ek : k = p
    · subst ek
      rw [am_w_eq _ _ ⟨rfl, rfl⟩, mxI_toInt]
      refine ⟨?_, ?_, this.2.2.1, this.2.2.2.1, this.2.2.2.2⟩ <;> split <;> omega
    · rw [am_w_nq _ _ (by omega)]; exact this
  · unfold IVl at *; rw [e 9 (by omega), e 10 (by omega), e 11 (by omega)]; exact h4
  · unfold RLh at *; rw [e 2 (by omega), e 8 (by omega), a0 0 (by omega), a0 1 (by omega), a0 2 (by omega)]; exact h5
  · intro k hk; rw [e 1 (by omega), a0 _ (by omega)]; exact h6 k hk
  · intro k hk
    rw [e 3 (by omega), e 4 (by omega), e 5 (by omega), e 7 (by omega), a0 _ (by omega), a0 _ (by omega), a0 _ (by omega), a0 (16 + 7 * k + 4) (by omega)]
    obtain ⟨r0, r1, r2, r3, r4⟩ := h7 k hk
    refine ⟨r0, r1, r2, ?_, r4⟩
    by_cases ek : k = p
    · subst ek
      rw [upd_eq _ rfl, am_w_eq _ _ ⟨rfl, rfl⟩, r3]
    · rw [upd_nq _ (by omega), am_w_nq _ _ (by omega)]; exact r3
  · intro k hk
    rw [e 9 (by omega), e 10 (by omega), e 11 (by omega), e 12 (by omega), a0 _ (by omega), a0 _ (by omega), a0 _ (by omega), a0 _ (by omega), a0 _ (by omega)]
    exact h8 k hk
theorem sub_toInt {a b : Int32} (h1 : -2147483648 ≤ a.toInt - b.toInt) (h2 : a.toInt - b.toInt < 2147483648) : (a - b).toInt = a.toInt - b.toInt := by
  rw [Int32.toInt_sub]
  exact Int.bmod_eq_of_le (by omega) (by omega)
theorem add_toInt {a b : Int32} (h1 : -2147483648 ≤ a.toInt + b.toInt) (h2 : a.toInt + b.toInt < 2147483648) : (a + b).toInt = a.toInt + b.toInt := by
  rw [Int32.toInt_add]
  exact Int.bmod_eq_of_le (by omega) (by omega)
theorem zI : (0 : Int32).toInt = 0 := rfl
theorem mx0 {a v : Int32} (h1 : 0 ≤ a.toInt ∧ a.toInt ≤ 300) (h2 : 0 ≤ v.toInt ∧ v.toInt ≤ 300) : am_max 0 (a - v) = (if a ≤ v then 0 else a - v) ∧ (am_max 0 (a - v)).toInt = (if a.toInt ≤ v.toInt then 0 else a.toInt - v.toInt) := by
  have hs := sub_toInt (a := a) (b := v) (by omega) (by omega)
  unfold am_max
  by_cases h : a ≤ v
  · have h' := Int32.le_iff_toInt_le.mp h
    rw [if_pos h, if_pos h', if_neg (fun q => by
      have := Int32.lt_iff_toInt_lt.mp q
      rw [zI, hs] at this
      omega)]
    exact ⟨rfl, rfl⟩
  · have h' : ¬ a.toInt ≤ v.toInt := fun q => h (Int32.le_iff_toInt_le.mpr q)
    rw [if_neg h, if_neg h', if_pos (Int32.lt_iff_toInt_lt.mpr (by rw [zI, hs]; omega))]
    exact ⟨rfl, hs⟩
theorem co_pay {I : aI} {g np nl nd p : Nat} {a : Nat → Int32} {v : Int32} (h : CO I g np nl nd a) (hp : p < np) (hv0 : 0 ≤ v.toInt) (hv : v.toInt ≤ (I (g + 3) p).toInt) : CO (payC I (g + 2) p v) g np nl nd (payR a p v) := by
  obtain ⟨h1, h2, h3, h4, h5, h6, h7, h8⟩ := h
  have hp6 : p < 6 := by have := h1.2.1; omega
  have hh := h3 p hp
  have hm := mx0 (a := I (g + 6) p) (v := v) (by omega) (by omega)
  have e : ∀ j, j ≠ 3 → j ≠ 5 → j ≠ 6 → j ≠ 7 → payC I (g + 2) p v (g + j) = I (g + j) := fun j q1 q2 q3 q4 => by
    unfold payC
    rw [am_w_ne _ _ (by omega), am_w_ne _ _ (by omega), am_w_ne _ _ (by omega), am_w_ne _ _ (by omega)]
  have o : ∀ q k, k ≠ p → payC I (g + 2) p v q k = I q k := fun q k hk => by
    unfold payC
    rw [am_w_nq _ _ (by omega), am_w_nq _ _ (by omega), am_w_nq _ _ (by omega), am_w_nq _ _ (by omega)]
  have w3 : payC I (g + 2) p v (g + 3) p = I (g + 3) p - v := by
    unfold payC
    rw [am_w_nq _ _ (by omega), am_w_nq _ _ (by omega), am_w_nq _ _ (by omega), am_w_eq _ _ (by omega)]
  have w5 : payC I (g + 2) p v (g + 5) p = I (g + 5) p + v := by
    unfold payC
    rw [am_w_nq _ _ (by omega), am_w_nq _ _ (by omega), am_w_eq _ _ (by omega)]
  have w6 : payC I (g + 2) p v (g + 6) p = am_max 0 (I (g + 6) p - v) := by
    unfold payC
    rw [am_w_nq _ _ (by omega), am_w_eq _ _ (by omega)]
  have w7 : payC I (g + 2) p v (g + 7) p = I (g + 7) p - v := by
    unfold payC
    rw [am_w_eq _ _ (by omega)]
  have a0 : ∀ i, i ≠ 16 + 7 * p + 0 → i ≠ 16 + 7 * p + 2 → i ≠ 16 + 7 * p + 3 → i ≠ 16 + 7 * p + 4 → payR a p v i = a i := fun i q1 q2 q3 q4 => by
    unfold payR
    rw [upd_nq _ q4, upd_nq _ q3, upd_nq _ q2, upd_nq _ q1]
  refine ⟨?_, ?_, ?_, ?_, ?_, ?_, ?_, ?_⟩
  · unfold IVh at *; rw [e 2 (by omega) (by omega) (by omega) (by omega), e 8 (by omega) (by omega) (by omega) (by omega)]; exact h1
  · unfold IVs at *; rw [e 1 (by omega) (by omega) (by omega) (by omega)]; exact h2
  · intro k hk
    rw [e 4 (by omega) (by omega) (by omega) (by omega)]
    have := h3 k hk
    by_cases ek : k = p
    · subst ek
      rw [w3, w6, w7, hm.2, sub_toInt (by omega) (by omega), sub_toInt (by omega) (by omega)]
      refine ⟨by split <;> omega, by split <;> omega, by omega, by omega, this.2.2.2.2⟩
    · rw [o _ _ ek, o _ _ ek, o _ _ ek]; exact this
  · unfold IVl at *; rw [e 9 (by omega) (by omega) (by omega) (by omega), e 10 (by omega) (by omega) (by omega) (by omega), e 11 (by omega) (by omega) (by omega) (by omega)]; exact h4
  · unfold RLh at *; rw [e 2 (by omega) (by omega) (by omega) (by omega), e 8 (by omega) (by omega) (by omega) (by omega), a0 0 (by omega) (by omega) (by omega) (by omega), a0 1 (by omega) (by omega) (by omega) (by omega), a0 2 (by omega) (by omega) (by omega) (by omega)]; exact h5
  · intro k hk; rw [e 1 (by omega) (by omega) (by omega) (by omega), a0 _ (by omega) (by omega) (by omega) (by omega)]; exact h6 k hk
  · intro k hk
    rw [e 4 (by omega) (by omega) (by omega) (by omega)]
    obtain ⟨r0, r1, r2, r3, r4⟩ := h7 k hk
    by_cases ek : k = p
    · subst ek
      rw [w3, w5, w6, w7, hm.1]
      unfold payR
      refine ⟨?_, ?_, ?_, ?_, ?_⟩
      · rw [upd_nq _ (by omega), upd_nq _ (by omega), upd_nq _ (by omega), upd_eq _ rfl, r0]
      · rw [upd_nq _ (by omega), upd_nq _ (by omega), upd_nq _ (by omega), upd_nq _ (by omega), r1]
      · rw [upd_nq _ (by omega), upd_nq _ (by omega), upd_eq _ rfl, r2]
      · rw [upd_nq _ (by omega), upd_eq _ rfl, r3]
      · rw [upd_eq _ rfl, r4]
    · rw [o _ _ ek, o _ _ ek, o _ _ ek, o _ _ ek, a0 _ (by omega) (by omega) (by omega) (by omega), a0 _ (by omega) (by omega) (by omega) (by omega), a0 _ (by omega) (by omega) (by omega) (by omega), a0 _ (by omega) (by omega) (by omega) (by omega), a0 _ (by omega) (by omega) (by omega) (by omega)]
      exact ⟨r0, r1, r2, r3, r4⟩
  · intro k hk
    rw [e 9 (by omega) (by omega) (by omega) (by omega), e 10 (by omega) (by omega) (by omega) (by omega), e 11 (by omega) (by omega) (by omega) (by omega), e 12 (by omega) (by omega) (by omega) (by omega), a0 _ (by omega) (by omega) (by omega) (by omega), a0 _ (by omega) (by omega) (by omega) (by omega), a0 _ (by omega) (by omega) (by omega) (by omega), a0 _ (by omega) (by omega) (by omega) (by omega), a0 _ (by omega) (by omega) (by omega) (by omega)]
    exact h8 k hk
/-! a lot is closed -/
def closeC (I : aI) (g nd : Nat) (w v : Int32) : aI := clearC (am_w (am_w (am_w I (g + 11) nd w) (g + 12) nd v) (g + 8) 1 (nI (nd + 1))) (g + 13)
def finR (a : Nat → Int32) (nd : Nat) (w v : Int32) : Nat → Int32 := upd (clearR (upd (upd (upd a (58 + 5 * nd + 2) w) (58 + 5 * nd + 3) (if w = 0 then -6 else v)) (58 + 5 * nd + 4) (if w = 0 then 2 else 1))) 2 (nI (nd + 1))
theorem clearR_o (a : Nat → Int32) {i : Nat} (h : ¬ aix i) : clearR a i = a i := by
  unfold clearR
  unfold aix at h
  rw [if_neg (by omega), if_neg (by omega), if_neg (by omega), if_neg (by omega)]
theorem clearC_o (I : aI) (g : Nat) {q : Nat} (h1 : q ≠ g + 13) (h2 : q ≠ g + 14) : clearC I (g + 13) q = I q := by
  funext k
  unfold clearC
  rw [if_neg (by omega), if_neg (by omega)]
theorem clear_n (I : aI) (g : Nat) : AUn (clearC I (g + 13)) g := by
  unfold AUn clearC
  refine ⟨?_, ?_, ?_, ?_, ?_, ?_, ?_, ?_, fun p hp => ?_⟩
  iterate 8 simp
  simp [hp]
theorem clear_b (I : aI) (g : Nat) (a : Nat → Int32) : RLb (clearC I (g + 13)) g (clearR a) := by
  intro p hp
  have hn := clear_n I g
  rw [hn.2.2.2.2.2.2.2.2 p hp, hn.2.2.2.2.2.2.1, bt_zero p hp]
  unfold clearR
  refine ⟨?_, ?_⟩
  · rw [if_neg (by omega), if_neg (by omega), if_pos (by omega)]
  · rw [if_neg (by omega), if_neg (by omega), if_neg (by omega), if_pos (by omega)]; rfl
theorem clear_a (I : aI) (g : Nat) (a : Nat → Int32) : RLa (clearC I (g + 13)) g (clearR a) := by
  obtain ⟨n0, n1, n2, n3, n4, n5, n6, n7, n8⟩ := clear_n I g
  unfold RLa
  rw [n0, n1, n2, n3, n4, n5]
  unfold clearR
  exact ⟨rfl, rfl, rfl, rfl, rfl, rfl, rfl⟩
theorem co_close {I : aI} {g np nl nd s : Nat} {a : Nat → Int32} {v : Int32} (h : CO I g np nl nd a) (hd : nd < nl) (hs : s < 64) : IV (closeC I g nd (nI s) v) g np nl (nd + 1) ∧ RW (closeC I g nd (nI s) v) g (finR a nd (nI s) v) nl (nd + 1) := by
  obtain ⟨h1, h2, h3, h4, h5, h6, h7, h8⟩ := h
  have h12 := h1.2.2.2.1
  have e : ∀ j k, j < 13 → ¬ (j = 8 ∧ k = 1) → ¬ (j = 11 ∧ k = nd) → ¬ (j = 12 ∧ k = nd) → closeC I g nd (nI s) v (g + j) k = I (g + j) k := fun j k hj q1 q2 q3 => by
    unfold closeC
    rw [clearC_o _ _ (by omega) (by omega), am_w_nq _ _ (by omega), am_w_nq _ _ (by omega), am_w_nq _ _ (by omega)]
  have w8 : closeC I g nd (nI s) v (g + 8) 1 = nI (nd + 1) := by
    unfold closeC
    rw [clearC_o _ _ (by omega) (by omega), am_w_eq _ _ (by omega)]
  have w11 : closeC I g nd (nI s) v (g + 11) nd = nI s := by
    unfold closeC
    rw [clearC_o _ _ (by omega) (by omega), am_w_nq _ _ (by omega), am_w_nq _ _ (by omega), am_w_eq _ _ (by omega)]
  have w12 : closeC I g nd (nI s) v (g + 12) nd = v := by
    unfold closeC
    rw [clearC_o _ _ (by omega) (by omega), am_w_nq _ _ (by omega), am_w_eq _ _ (by omega)]
  have a0 : ∀ i, ¬ aix i → i ≠ 2 → i ≠ 58 + 5 * nd + 2 → i ≠ 58 + 5 * nd + 3 → i ≠ 58 + 5 * nd + 4 → finR a nd (nI s) v i = a i := fun i q0 q1 q2 q3 q4 => by
    unfold finR
    rw [upd_nq _ q1, clearR_o _ q0, upd_nq _ q4, upd_nq _ q3, upd_nq _ q2]
  have hnx : ∀ i, 58 ≤ i → ¬ aix i := fun i hi => by unfold aix; omega
  have b2 : finR a nd (nI s) v (58 + 5 * nd + 2) = nI s := by
    unfold finR
    rw [upd_nq _ (by omega), clearR_o _ (hnx _ (by omega)), upd_nq _ (by omega), upd_nq _ (by omega), upd_eq _ rfl]
  have b3 : finR a nd (nI s) v (58 + 5 * nd + 3) = (if nI s = 0 then -6 else v) := by
    unfold finR
    rw [upd_nq _ (by omega), clearR_o _ (hnx _ (by omega)), upd_nq _ (by omega), upd_eq _ rfl]
  have b4 : finR a nd (nI s) v (58 + 5 * nd + 4) = (if nI s = 0 then 2 else 1) := by
    unfold finR
    rw [upd_nq _ (by omega), clearR_o _ (hnx _ (by omega)), upd_eq _ rfl]
  refine ⟨⟨?_, ?_, ?_, ?_, Or.inl (clear_n _ g)⟩, ?_, ?_, ?_, ?_, ?_, ?_⟩
  · unfold IVh at *
    rw [e 2 0 (by omega) (by omega) (by omega) (by omega), e 8 0 (by omega) (by omega) (by omega) (by omega), w8]
    exact ⟨h1.1, h1.2.1, by omega, h1.2.2.2.1, h1.2.2.2.2.1, h1.2.2.2.2.2.1, rfl⟩
  · unfold IVs at *
    have e1 : closeC I g nd (nI s) v (g + 1) = I (g + 1) := funext fun k => e 1 k (by omega) (by omega) (by omega) (by omega)
    rw [e1]
    exact h2
  · intro p hp
    rw [e 6 p (by omega) (by omega) (by omega) (by omega), e 3 p (by omega) (by omega) (by omega) (by omega), e 7 p (by omega) (by omega) (by omega) (by omega), e 4 p (by omega) (by omega) (by omega) (by omega)]
    exact h3 p hp
  · intro k hk
    rw [e 9 k (by omega) (by omega) (by omega) (by omega), e 10 k (by omega) (by omega) (by omega) (by omega)]
    obtain ⟨q1, q2, q3, q4⟩ := h4 k hk
    refine ⟨q1, q2, ?_, ?_⟩
    · by_cases ek : k = nd
      · subst ek; rw [w11]; exact ⟨s, hs, rfl⟩
      · rw [e 11 k (by omega) (by omega) (by omega) (by omega)]; exact q3
    · intro hk2
      rw [e 11 k (by omega) (by omega) (by omega) (by omega)]; exact q4 (by omega)
  · unfold RLh at *
    rw [e 2 0 (by omega) (by omega) (by omega) (by omega), e 8 0 (by omega) (by omega) (by omega) (by omega), w8, a0 0 (by unfold aix; omega) (by omega) (by omega) (by omega) (by omega), a0 1 (by unfold aix; omega) (by omega) (by omega) (by omega) (by omega)]
    refine ⟨h5.1, h5.2.1, ?_⟩
    unfold finR
    rw [upd_eq _ rfl]
  · intro k hk
    rw [e 1 k (by omega) (by omega) (by omega) (by omega), a0 _ (by unfold aix; omega) (by omega) (by omega) (by omega) (by omega)]
    exact h6 k hk
  · intro p hp
    rw [e 3 p (by omega) (by omega) (by omega) (by omega), e 4 p (by omega) (by omega) (by omega) (by omega), e 5 p (by omega) (by omega) (by omega) (by omega), e 6 p (by omega) (by omega) (by omega) (by omega), e 7 p (by omega) (by omega) (by omega) (by omega), a0 _ (by unfold aix; omega) (by omega) (by omega) (by omega) (by omega), a0 _ (by unfold aix; omega) (by omega) (by omega) (by omega) (by omega), a0 _ (by unfold aix; omega) (by omega) (by omega) (by omega) (by omega), a0 _ (by unfold aix; omega) (by omega) (by omega) (by omega) (by omega), a0 _ (by unfold aix; omega) (by omega) (by omega) (by omega) (by omega)]
    exact h7 p hp
  · intro p hp
    have hb := clear_b (am_w (am_w (am_w I (g + 11) nd (nI s)) (g + 12) nd v) (g + 8) 1 (nI (nd + 1))) g (upd (upd (upd a (58 + 5 * nd + 2) (nI s)) (58 + 5 * nd + 3) (if nI s = 0 then -6 else v)) (58 + 5 * nd + 4) (if nI s = 0 then 2 else 1)) p hp
    unfold finR
    rw [upd_nq _ (by omega), upd_nq _ (by omega)]
    exact hb
  · intro k hk
    rw [e 9 k (by omega) (by omega) (by omega) (by omega), e 10 k (by omega) (by omega) (by omega) (by omega), a0 _ (hnx _ (by omega)) (by omega) (by omega) (by omega) (by omega), a0 _ (hnx _ (by omega)) (by omega) (by omega) (by omega) (by omega)]
    obtain ⟨r0, r1, r2, r3, r4⟩ := h8 k hk
    refine ⟨r0, r1, ?_⟩
    by_cases ek : k = nd
    · subst ek
      rw [w11, w12, b2, b3, b4]
      refine ⟨rfl, ?_, ?_⟩
      · by_cases z : nI s = 0
        · rw [if_pos z, if_neg (fun q => q.2 z)]
        · rw [if_neg z, if_pos ⟨by omega, z⟩]
      · rw [if_pos (show k < k + 1 by omega)]
    · rw [e 11 k (by omega) (by omega) (by omega) (by omega), e 12 k (by omega) (by omega) (by omega) (by omega), a0 _ (hnx _ (by omega)) (by omega) (by omega) (by omega) (by omega), a0 _ (hnx _ (by omega)) (by omega) (by omega) (by omega) (by omega), a0 _ (hnx _ (by omega)) (by omega) (by omega) (by omega) (by omega)]
      by_cases hk2 : k < nd
      · have : k < nd + 1 := by omega
        simp only [hk2, this, true_and] at r3 r4 ⊢
        exact ⟨r2, r3, r4⟩
      · have : ¬ k < nd + 1 := by omega
        simp only [hk2, this, false_and, if_false] at r3 r4 ⊢
        exact ⟨r2, r3, r4⟩
  · have hb := clear_a (am_w (am_w (am_w I (g + 11) nd (nI s)) (g + 12) nd v) (g + 8) 1 (nI (nd + 1))) g (upd (upd (upd a (58 + 5 * nd + 2) (nI s)) (58 + 5 * nd + 3) (if nI s = 0 then -6 else v)) (58 + 5 * nd + 4) (if nI s = 0 then 2 else 1))
    unfold RLa at *
    unfold finR
    rw [upd_nq _ (by omega), upd_nq _ (by omega), upd_nq _ (by omega), upd_nq _ (by omega), upd_nq _ (by omega), upd_nq _ (by omega), upd_nq _ (by omega)]
    exact hb
