/-! PURE: sets, values -/
theorem and1 (x : Int32) : x &&& 1 = 0 ∨ x &&& 1 = 1 := by
  have h : x.toBitVec &&& 1#32 = BitVec.setWidth 32 (BitVec.ofBool (x.toBitVec.getLsbD 0)) := BitVec.and_one_eq_setWidth_ofBool_getLsbD
  have h2 : (x &&& 1).toBitVec = x.toBitVec &&& 1#32 := rfl
  cases hb : x.toBitVec.getLsbD 0
  · left
    apply Int32.toBitVec_inj.mp
    rw [h2, h, hb]
    rfl
  · right
    apply Int32.toBitVec_inj.mp
    rw [h2, h, hb]
    rfl
def bt (w : Int32) (p : Nat) : Bool := decide ((am_shr w (nI p) &&& 1) = 1)
theorem bt_t {w : Int32} {p : Nat} (h : bt w p = true) : (am_shr w (nI p) &&& 1) = 1 := of_decide_eq_true h
theorem bt_f {w : Int32} {p : Nat} (h : bt w p = false) : (am_shr w (nI p) &&& 1) = 0 := by
  rcases and1 (am_shr w (nI p)) with h1 | h1
  · exact h1
  · rw [bt, h1] at h; exact absurd h (by decide)
theorem bt_zero (p : Nat) (hp : p < 6) : bt 0 p = false := by
  match p, hp with
  | 0, _ => decide
  | 1, _ => decide
  | 2, _ => decide
  | 3, _ => decide
  | 4, _ => decide
  | 5, _ => decide
def ctn (f : Nat → Bool) : Nat → Nat
  | 0 => 0
  | n + 1 => ctn f n + (if f n = true then 1 else 0)
def smI (f : Nat → Int32) : Nat → Int32
  | 0 => 0
  | n + 1 => smI f n + f n
theorem ctn_le (f : Nat → Bool) (n : Nat) : ctn f n ≤ n := by
  induction n with
  | zero => exact Nat.le_refl _
  | succ n ih => rw [ctn]; split <;> omega
theorem ctn_congr {f g : Nat → Bool} : ∀ {n : Nat}, (∀ k, k < n → f k = g k) → ctn f n = ctn g n := by
  intro n
  induction n with
  | zero => intro _; rfl
  | succ n ih => intro h; rw [ctn, ctn, ih (fun k hk => h k (by omega)), h n (by omega)]
theorem smI_congr {f g : Nat → Int32} : ∀ {n : Nat}, (∀ k, k < n → f k = g k) → smI f n = smI g n := by
  intro n
  induction n with
  | zero => intro _; rfl
  | succ n ih => intro h; rw [smI, smI, ih (fun k hk => h k (by omega)), h n (by omega)]
theorem ctn_stay {f : Nat → Bool} {m : Nat} : ∀ {n : Nat}, m ≤ n → (∀ k, m ≤ k → k < n → f k = false) → ctn f n = ctn f m := by
  intro n
  induction n with
  | zero => intro h _; have : m = 0 := by omega
            subst this; rfl
  | succ n ih =>
    intro h hf
    by_cases e : m = n + 1
    · subst e; rfl
    · rw [ctn, ih (by omega) (fun k h1 h2 => hf k h1 (by omega)), hf n (by omega) (by omega)]
      simp
theorem smI_stay {f : Nat → Int32} {m : Nat} : ∀ {n : Nat}, m ≤ n → (∀ k, m ≤ k → k < n → f k = 0) → smI f n = smI f m := by
  intro n
  induction n with
  | zero => intro h _; have : m = 0 := by omega
            subst this; rfl
  | succ n ih =>
    intro h hf
    by_cases e : m = n + 1
    · subst e; rfl
    · rw [smI, ih (by omega) (fun k h1 h2 => hf k h1 (by omega)), hf n (by omega) (by omega), Int32.add_zero]
def popc (s : Nat) : Nat := ctn (fun c => s.testBit c) 6
theorem bitCount_64 : ∀ s : Nat, s < 64 → f_J6_bitCount_0f7a4 (nI s) = some (nI (popc s)) := by decide +kernel
theorem sizeOf_mono : ∀ (n : Nat) (l1 l2 r : Int32), f_X7_sizeOf_h4 n l1 l2 = some r → ∀ k, f_X7_sizeOf_h4 (n + k) l1 l2 = some r := by
  intro n
  induction n with
  | zero => intro l1 l2 r h; cases h
  | succ n ih =>
    intro l1 l2 r h k
    rw [show n + 1 + k = (n + k) + 1 by omega]
    rw [f_X7_sizeOf_h4] at h ⊢
    by_cases h0 : l2 ≤ 0
    · rw [if_pos h0] at h ⊢; exact h
    · rw [if_neg h0] at h ⊢
      simp only [am_let_ap] at h ⊢
      exact ih _ _ _ h k
theorem sizeOf_7 : ∀ s : Nat, s < 64 → f_X7_sizeOf_h4 7 0 (nI s) = some (nI (popc s)) := by decide +kernel
theorem sizeOf_64 {s : Nat} (h : s < 64) : f_X7_sizeOf (nI s) = some (nI (popc s)) := by
  have hF := am_F_big
  unfold f_X7_sizeOf
  obtain ⟨k, hk⟩ : ∃ k, am_F = 7 + k := ⟨am_F - 7, by omega⟩
  rw [hk]
  exact sizeOf_mono 7 0 (nI s) _ (sizeOf_7 s h) k
theorem popc_pos : ∀ s : Nat, s < 64 → 0 < s → 0 < popc s := by decide +kernel
theorem popc_le (s : Nat) : popc s ≤ 6 := ctn_le _ _
theorem fw_hasLot {o : Nat} {I : aI} {nl k : Nat} (hn : I o 0 = nI nl) (h12 : nl ≤ 12) (hk : k < nl) : f_X2_hasLot o (nI k) I = some 1 := by
  simp only [f_X2_hasLot, hn, nI_neg k (show k < 2147483648 by omega), if_false, nI_leq (show nl < 2147483648 by omega) (show k < 2147483648 by omega), if_neg (show ¬ nl ≤ k by omega)]
theorem fw_owns {o : Nat} {I : aI} {nl k p : Nat} (hn : I o 0 = nI nl) (h12 : nl ≤ 12) (hk : k < nl) : f_X2_owns o (nI p) (nI k) I = some (if bt (I (o + 3) k) p = true then 1 else 0) := by
  simp only [f_X2_owns, hn, nI_neg k (show k < 2147483648 by omega), if_false, nI_leq (show nl < 2147483648 by omega) (show k < 2147483648 by omega), if_neg (show ¬ nl ≤ k by omega), ok12 (show k < 12 by omega), am_g_tt, nI_tn (show k < 2147483648 by omega)]
  cases h : bt (I (o + 3) k) p
  · rw [bt_f h]; rfl
  · rw [bt_t h]; rfl
/-- a share -/
def shr (w s : Int32) : Int32 := if s = 0 then 0 else w / nI (popc (Int32.toNatClampNeg s))
theorem fw_shareOf {o : Nat} {I : aI} {nl k s : Nat} (hn : I o 0 = nI nl) (h12 : nl ≤ 12) (hk : k < nl) (hs : I (o + 3) k = nI s) (h64 : s < 64) : f_X2_shareOf o (nI k) I = some (shr (I (o + 2) k) (I (o + 3) k)) := by
  have hp := popc_le s
  simp only [f_X2_shareOf, f_X2_shareOf_b21, fw_hasLot hn h12 hk, am_b1_some, if_neg one0, ok12 (show k < 12 by omega), am_g_tt, nI_tn (show k < 2147483648 by omega), hs, bitCount_64 s h64, shr, nI_tn (show s < 2147483648 by omega)]
  have c0 : ∀ x : Nat, x < 2147483648 → (nI x ≤ 0) = (x ≤ 0) := fun x hx => nI_leq (b := 0) hx (by omega)
  have d0 : ∀ x : Nat, x < 2147483648 → (nI x = 0) = (x = 0) := fun x hx => nI_inj (b := 0) hx (by omega)
  by_cases h : s = 0
  · subst h
    rfl
  · have := popc_pos s h64 (by omega)
    rw [if_neg (by rw [c0 _ (by omega)]; omega), if_neg (by rw [d0 _ (by omega)]; exact h)]
    rw [am_g_of _ (decide_eq_true (by rw [d0 _ (by omega)]; omega))]
def cntC (I : aI) (o p c n : Nat) : Nat := ctn (fun k => bt (I (o + 3) k) p && decide (I (o + 1) k = nI c)) n
theorem ownedCol_h (o : Nat) {I : aI} {nl nd p c : Nat} (hn : I o 0 = nI nl) (hd : I o 1 = nI nd) (h1 : nd ≤ nl) (h12 : nl ≤ 12) : ∀ (n j : Nat), j ≤ nd → nd < n + j → f_X2_ownedOfColour_h5 o n (nI p) (nI c) (nI (cntC I o p c j)) (nI j) I = some (nI (cntC I o p c nd)) := by
  intro n
  induction n with
  | zero => intro j h2 h3; omega
  | succ n ih =>
    intro j h2 h3
    rw [f_X2_ownedOfColour_h5, hd]
    by_cases h : nd ≤ j
    · have : j = nd := by omega
      subst this
      rw [if_pos (nI_le h (by omega))]
    · rw [if_neg (nI_ge (by omega) (by omega)), fw_owns hn h12 (by omega), am_b1_some, ok12 (by omega), am_g_tt, nI_tn (by omega), nI_1, nI_1]
      have hs : cntC I o p c (j + 1) = cntC I o p c j + (if (bt (I (o + 3) j) p && decide (I (o + 1) j = nI c)) = true then 1 else 0) := rfl
      have := ih (j + 1) (by omega) (by omega)
      rw [hs] at this
      cases hb : bt (I (o + 3) j) p
      · rw [hb] at this
        simpa using this
      · rw [hb] at this
        by_cases hc : I (o + 1) j = nI c
        · simpa [hc] using this
        · simpa [hc] using this
theorem fw_ownedCol {o : Nat} {I : aI} {nl nd p c : Nat} (hn : I o 0 = nI nl) (hd : I o 1 = nI nd) (h1 : nd ≤ nl) (h12 : nl ≤ 12) : f_X2_ownedOfColour o (nI p) (nI c) I = some (nI (cntC I o p c nd)) := by
  have hF := am_F_big
  exact ownedCol_h o hn hd h1 h12 am_F 0 (by omega) (by omega)
/-- the end of a value: sets of colours by counts, and the rainbow -/
def qS (st : Int32) (n : Nat) : Int32 := ((st * nI n) * (nI n - 1)) / 2
def vSum (st : Int32) (cc : Nat → Nat) (v : Int32) (n : Nat) : Int32 := match n with
  | 0 => v
  | n + 1 => vSum st cc v n + qS st (cc n)
def vEnd (st rb : Int32) (cc : Nat → Nat) (v : Int32) : Int32 := if ctn (fun c => decide (0 < cc c)) 6 < 4 then vSum st cc v 6 else vSum st cc v 6 + rb
theorem value_h48 (o : Nat) {I : aI} {nl nd p : Nat} (st rb v : Int32) (hn : I o 0 = nI nl) (hd : I o 1 = nI nd) (h1 : nd ≤ nl) (h12 : nl ≤ 12) : ∀ (n j : Nat), j ≤ 6 → 6 < n + j → f_X2_valueFor_h48 o n (nI p) st rb (vSum st (fun c => cntC I o p c nd) v j) (nI (ctn (fun c => decide (0 < cntC I o p c nd)) j)) (nI j) I = some (vEnd st rb (fun c => cntC I o p c nd) v) := by
  intro n
  induction n with
  | zero => intro j h2 h3; omega
  | succ n ih =>
    intro j h2 h3
    rw [f_X2_valueFor_h48]
    have c6 : ((6 : Int32) ≤ nI j) = (6 ≤ j) := nI_leq (a := 6) (by omega) (by omega)
    by_cases h : 6 ≤ j
    · have : j = 6 := by omega
      subst this
      have hc := ctn_le (fun c => decide (0 < cntC I o p c nd)) 6
      have c4 : (nI (ctn (fun c => decide (0 < cntC I o p c nd)) 6) < (4 : Int32)) = (ctn (fun c => decide (0 < cntC I o p c nd)) 6 < 4) := nI_ltq (b := 4) (by omega) (by omega)
      rw [if_pos (by rw [c6]; exact h), f_X2_valueFor_b94, vEnd]
      by_cases h4 : ctn (fun c => decide (0 < cntC I o p c nd)) 6 < 4
      · rw [if_pos (by rw [c4]; exact h4), if_pos h4]
      · rw [if_neg (by rw [c4]; exact h4), if_neg h4]
    · have hc := ctn_le (fun k => bt (I (o + 3) k) p && decide (I (o + 1) k = nI j)) nd
      have c0 : (nI (cntC I o p j nd) ≤ (0 : Int32)) = (cntC I o p j nd ≤ 0) := nI_leq (b := 0) (by unfold cntC; omega) (by omega)
      rw [if_neg (by rw [c6]; exact h), fw_ownedCol hn hd h1 h12, am_b1_some, am_g_of _ (by decide), am_let_ap, nI_1, nI_1]
      have h5 := ih (j + 1) (by omega) (by omega)
      rw [ctn] at h5
      by_cases h6 : cntC I o p j nd ≤ 0
      · rw [if_pos (by rw [c0]; exact h6)]
        rw [if_neg (by simp; omega)] at h5
        exact h5
      · rw [if_neg (by rw [c0]; exact h6)]
        rw [if_pos (by simp; omega)] at h5
        exact h5
def shV (I : aI) (o p k : Nat) : Int32 := if bt (I (o + 3) k) p = true then shr (I (o + 2) k) (I (o + 3) k) else 0
theorem value_h9 (o : Nat) {I : aI} {nl nd p : Nat} (st rb : Int32) (hn : I o 0 = nI nl) (hd : I o 1 = nI nd) (h1 : nd ≤ nl) (h12 : nl ≤ 12) (hown : ∀ k, k < nl → ∃ s, s < 64 ∧ I (o + 3) k = nI s) : ∀ (n j : Nat), j ≤ nd → nd < n + j → f_X2_valueFor_h9 o n (nI p) st rb (smI (shV I o p) j) 0 (nI j) I = some (vEnd st rb (fun c => cntC I o p c nd) (smI (shV I o p) nd)) := by
  intro n
  have hF := am_F_big
  induction n with
  | zero => intro j h2 h3; omega
  | succ n ih =>
    intro j h2 h3
    rw [f_X2_valueFor_h9, hd]
    by_cases h : nd ≤ j
    · have : j = nd := by omega
      subst this
      rw [if_pos (nI_le h (by omega))]
      exact value_h48 o st rb (smI (shV I o p) j) hn hd h1 h12 am_F 0 (by omega) (by omega)
    · obtain ⟨s, hs, hsI⟩ := hown j (by omega)
      rw [if_neg (nI_ge (by omega) (by omega)), fw_owns hn h12 (by omega), am_b1_some, fw_shareOf hn h12 (by omega) hsI hs, am_b1_some, am_let_ap, nI_1]
      have h5 := ih (j + 1) (by omega) (by omega)
      rw [smI, shV] at h5
      cases hb : bt (I (o + 3) j) p
      · rw [hb] at h5
        simpa using h5
      · rw [hb] at h5
        simpa using h5
theorem fw_valueFor {o : Nat} {I : aI} {nl nd p : Nat} (st rb : Int32) (hn : I o 0 = nI nl) (hd : I o 1 = nI nd) (h1 : nd ≤ nl) (h12 : nl ≤ 12) (hown : ∀ k, k < nl → ∃ s, s < 64 ∧ I (o + 3) k = nI s) : f_X2_valueFor o (nI p) st rb I = some (vEnd st rb (fun c => cntC I o p c nd) (smI (shV I o p) nd)) := by
  have hF := am_F_big
  exact value_h9 o st rb hn hd h1 h12 hown am_F 0 (by omega) (by omega)
