/-! PURE: what a lot adds; the reference's value -/
theorem or_64 : ∀ a : Nat, a < 64 → ∀ c : Nat, c < 6 → nI a ||| am_shl 1 (nI c) = nI (a ||| 2 ^ c) ∧ a ||| 2 ^ c < 64 ∧ ∀ d : Nat, d < 6 → (a ||| 2 ^ c).testBit d = (a.testBit d || decide (c = d)) := by decide +kernel
def ocs (I : aI) (o p : Nat) : Nat → Nat
  | 0 => 0
  | n + 1 => if bt (I (o + 3) n) p = true then ocs I o p n ||| 2 ^ (Int32.toNatClampNeg (I (o + 1) n)) else ocs I o p n
theorem ocs_ok {I : aI} {o p nl : Nat} (hcol : ∀ k, k < nl → ∃ c, c < 6 ∧ I (o + 1) k = nI c) : ∀ n, n ≤ nl → ocs I o p n < 64 ∧ ∀ d, d < 6 → (ocs I o p n).testBit d = decide (0 < cntC I o p d n) := by
  intro n
  induction n with
  | zero => intro _; refine ⟨by simp [ocs], fun d hd => ?_⟩; simp [ocs, cntC, ctn]
  | succ n ih =>
    intro h
    obtain ⟨h1, h2⟩ := ih (by omega)
    obtain ⟨c, hc, hcI⟩ := hcol n (by omega)
    have hct : ∀ d, cntC I o p d (n + 1) = cntC I o p d n + (if (bt (I (o + 3) n) p && decide (I (o + 1) n = nI d)) = true then 1 else 0) := fun d => rfl
    cases hb : bt (I (o + 3) n) p
    · simp only [ocs, hb, hct, Bool.false_and]
      simpa using ⟨h1, h2⟩
    · simp only [ocs, hb, if_true, hct, Bool.true_and, hcI, nI_tn (show c < 2147483648 by omega)]
      obtain ⟨g1, g2, g3⟩ := or_64 _ h1 c hc
      refine ⟨g2, fun d hd => ?_⟩
      rw [g3 d hd, h2 d hd]
      by_cases e : c = d
      · subst e
        simp
      · have : ¬ nI c = nI d := by rw [nI_inj (by omega) (by omega)]; exact e
        simp [e, this]
theorem popc_ocs {I : aI} {o p nl n : Nat} (hcol : ∀ k, k < nl → ∃ c, c < 6 ∧ I (o + 1) k = nI c) (h : n ≤ nl) : popc (ocs I o p n) = ctn (fun c => decide (0 < cntC I o p c n)) 6 :=
  ctn_congr (fun d hd => (ocs_ok hcol n h).2 d hd)
def gainV (I : aI) (o p nd : Nat) (st rb : Int32) (c0 : Nat) : Int32 := (I (o + 2) nd + st * nI (cntC I o p c0 nd)) + (if cntC I o p c0 nd = 0 ∧ ctn (fun c => decide (0 < cntC I o p c nd)) 6 = 3 then rb else 0)
theorem gain_h22 (o : Nat) {I : aI} {nl nd p c0 : Nat} (st rb : Int32) (hd : I o 1 = nI nd) (h1 : nd < nl) (h12 : nl ≤ 12) (hcol : ∀ k, k < nl → ∃ c, c < 6 ∧ I (o + 1) k = nI c) (hc0 : I (o + 1) nd = nI c0) (hc6 : c0 < 6) : ∀ (n j : Nat), j ≤ nd → nd < n + j → f_X2_gainFor_h22 o n (nI p) st rb (nI (cntC I o p c0 j)) (nI (ocs I o p j)) (nI j) I = some (gainV I o p nd st rb c0) := by
  intro n
  induction n with
  | zero => intro j h2 h3; omega
  | succ n ih =>
    intro j h2 h3
    rw [f_X2_gainFor_h22, hd]
    by_cases h : nd ≤ j
    · have : j = nd := by omega
      subst this
      have ho := (ocs_ok (p := p) hcol j (by omega)).1
      have hcl := ctn_le (fun k => bt (I (o + 3) k) p && decide (I (o + 1) k = nI c0)) j
      have hcl2 : cntC I o p c0 j ≤ j := hcl
      have hpl := popc_le (ocs I o p j)
      rw [if_pos (nI_le h (by omega)), f_X2_gainFor_b90]
      have b109 : ∀ s0 : Int32, f_X2_gainFor_b109 o st rb (nI (cntC I o p c0 j)) s0 I = some ((I (o + 2) j + st * nI (cntC I o p c0 j)) + (if s0 = 0 then 0 else rb)) := by
        intro s0
        rw [f_X2_gainFor_b109, hd, ok12 (by omega), am_g_tt, nI_tn (by omega)]
        split <;> rfl
      have b1 : f_X2_gainFor_b109 o st rb (nI (cntC I o p c0 j)) 1 I = some ((I (o + 2) j + st * nI (cntC I o p c0 j)) + rb) := b109 1
      have b0 : f_X2_gainFor_b109 o st rb (nI (cntC I o p c0 j)) 0 I = some ((I (o + 2) j + st * nI (cntC I o p c0 j)) + 0) := b109 0
      rw [bitCount_64 _ ho, am_b1_some, b1, b0, gainV]
      have e0 : (nI (cntC I o p c0 j) = (0 : Int32)) = (cntC I o p c0 j = 0) := nI_inj (b := 0) (by omega) (by omega)
      have e3 : (nI (popc (ocs I o p j)) = (3 : Int32)) = (popc (ocs I o p j) = 3) := nI_inj (b := 3) (by omega) (by omega)
      rw [← popc_ocs (p := p) hcol (show j ≤ nl by omega)]
      by_cases g0 : cntC I o p c0 j = 0
      · rw [if_pos (by rw [e0]; exact g0)]
        by_cases g3 : popc (ocs I o p j) = 3
        · rw [if_pos (by rw [e3]; exact g3), if_pos ⟨g0, g3⟩]
        · rw [if_neg (by rw [e3]; exact g3), if_neg (fun q => g3 q.2)]
      · rw [if_neg (by rw [e0]; exact g0), if_neg (fun q => g0 q.1)]
    · have hok := (ocs_ok (p := p) hcol j (by omega)).1
      obtain ⟨c, hc, hcI⟩ := hcol j (by omega)
      have h5 := ih (j + 1) (by omega) (by omega)
      have hct : cntC I o p c0 (j + 1) = cntC I o p c0 j + (if (bt (I (o + 3) j) p && decide (I (o + 1) j = nI c0)) = true then 1 else 0) := rfl
      rw [if_neg (nI_ge (by omega) (by omega)), ok12 (by omega), am_g_tt, nI_tn (by omega), nI_1]
      cases hb : bt (I (o + 3) j) p
      · rw [if_pos (bt_f hb)]
        rw [hct, hb, ocs, hb] at h5
        simpa using h5
      · rw [if_neg (by rw [bt_t hb]; exact one0), am_g_tt, ok12 (by omega), am_g_tt, nI_tn (by omega)]
        rw [hct, hb, ocs, hb, if_pos rfl, hcI, nI_tn (by omega)] at h5
        have b70 : ∀ l4 : Int32, f_X2_gainFor_b70 o (f_X2_gainFor_h22 o n) (nI p) st rb l4 (nI (ocs I o p j)) (nI j) I = f_X2_gainFor_h22 o n (nI p) st rb l4 (nI (ocs I o p j ||| 2 ^ c)) (nI (j + 1)) I := by
          intro l4
          rw [f_X2_gainFor_b70, ok12 (by omega), am_g_tt, am_let_ap, nI_tn (by omega), hcI, (or_64 _ hok c hc).1, nI_1]
        rw [b70, b70, nI_1, hcI, hc0]
        by_cases e : c = c0
        · subst e
          rw [if_pos rfl]
          simpa using h5
        · have e2 : ¬ nI c = nI c0 := by rw [nI_inj (by omega) (by omega)]; exact e
          rw [if_neg e2]
          simpa [e2] using h5
theorem fw_gainFor {o : Nat} {I : aI} {nl nd p c0 : Nat} (st rb : Int32) (hn : I o 0 = nI nl) (hd : I o 1 = nI nd) (h1 : nd < nl) (h12 : nl ≤ 12) (hcol : ∀ k, k < nl → ∃ c, c < 6 ∧ I (o + 1) k = nI c) (hc0 : I (o + 1) nd = nI c0) (hc6 : c0 < 6) : f_X2_gainFor o (nI p) st rb I = some (gainV I o p nd st rb c0) := by
  have hF := am_F_big
  unfold f_X2_gainFor
  rw [hd, fw_hasLot hn h12 h1, am_b1_some, if_neg one0]
  exact gain_h22 o st rb hd h1 h12 hcol hc0 hc6 am_F 0 (by omega) (by omega)
/-! the reference -/
def rwS (I : aI) (m : Nat) (c : Nat → Int32) : aI := fun q => if q = m + 6 then c else I q
theorem rwS_ne (I : aI) (m : Nat) (c : Nat → Int32) {q : Nat} (h : q ≠ m + 6) : rwS I m c q = I q := by simp [rwS, h]
theorem rwS_s (I : aI) (m : Nat) (c : Nat → Int32) : rwS I m c (m + 6) = c := by simp [rwS]
theorem rwS_row (I : aI) (m : Nat) (c : Nat → Int32) : rwS I m c (m + 1) = I (m + 1) := rwS_ne I m c (by omega)
theorem rwS_rwS (I : aI) (m : Nat) (c d : Nat → Int32) : rwS (rwS I m c) m d = rwS I m d := by
  funext q
  simp only [rwS]
  split <;> rfl
theorem am_w_rwS (I : aI) (m i : Nat) (v : Int32) : am_w I (m + 6) i v = rwS I m (upd (I (m + 6)) i v) := by
  funext q
  by_cases h : q = m + 6
  · subst h
    rw [am_w_self, rwS_s]
  · rw [am_w_ne _ _ h, rwS_ne _ _ _ h]
def cntR (a : Nat → Int32) (p e c n : Nat) : Nat := ctn (fun k => (bt (a (58 + 5 * k + 2)) p || decide (k = e)) && decide (a (58 + 5 * k + 0) = nI c)) n
def shRk (a : Nat → Int32) (p e k : Nat) : Int32 := if k = e then a (58 + 5 * k + 1) / 1 else if bt (a (58 + 5 * k + 2)) p = true then a (58 + 5 * k + 1) / nI (popc (Int32.toNatClampNeg (a (58 + 5 * k + 2)))) else 0
theorem valueR_h132 (m : Nat) {I : aI} {cc : Nat → Nat} (v : Int32) (hcc : ∀ c, c < 6 → I (m + 6) c = nI (cc c)) (h12 : ∀ c, c < 6 → cc c ≤ 12) : ∀ (n j : Nat), j ≤ 6 → 6 < n + j → f_X7_valueWith_h132 m n (vSum (I (m + 1) 13) cc v j) (nI (ctn (fun c => decide (0 < cc c)) j)) (nI j) I = some (vEnd (I (m + 1) 13) (I (m + 1) 14) cc v, I) := by
  intro n
  induction n with
  | zero => intro j h2 h3; omega
  | succ n ih =>
    intro j h2 h3
    rw [f_X7_valueWith_h132]
    have c6 : ((6 : Int32) ≤ nI j) = (6 ≤ j) := nI_leq (a := 6) (by omega) (by omega)
    by_cases h : 6 ≤ j
    · have : j = 6 := by omega
      subst this
      have hc := ctn_le (fun c => decide (0 < cc c)) 6
      have c4 : (nI (ctn (fun c => decide (0 < cc c)) 6) < (4 : Int32)) = (ctn (fun c => decide (0 < cc c)) 6 < 4) := nI_ltq (b := 4) (by omega) (by omega)
      rw [if_pos (by rw [c6]; exact h), f_X7_valueWith_b193, vEnd]
      by_cases h4 : ctn (fun c => decide (0 < cc c)) 6 < 4
      · rw [if_pos (by rw [c4]; exact h4), if_pos h4]
      · rw [if_neg (by rw [c4]; exact h4), if_neg h4, show f_X7_setting m 4 I = _ from fw_setting (k := 4) (by omega), am_b1_some]
    · have hq := h12 j (by omega)
      have c0 : (nI (cc j) ≤ (0 : Int32)) = (cc j ≤ 0) := nI_leq (b := 0) (by omega) (by omega)
      have a0 : ∀ x : Int32, x + 0 = x := Int32.add_zero
      rw [if_neg (by rw [c6]; exact h), show f_X7_setting m 3 I = _ from fw_setting (k := 3) (by omega), am_b1_some, ok6 (by omega), am_g_tt, am_g_tt, am_g_of _ (by decide), am_let_ap, am_g_tt, nI_tn (by omega), hcc j (by omega), nI_1, am_let_ap, am_let_ap, nI_1, a0]
      have h5 := ih (j + 1) (by omega) (by omega)
      rw [ctn] at h5
      by_cases h6 : cc j ≤ 0
      · rw [if_pos (by rw [c0]; exact h6)]
        rw [if_neg (by simp; omega)] at h5
        exact h5
      · rw [if_neg (by rw [c0]; exact h6)]
        rw [if_pos (by simp; omega)] at h5
        exact h5
theorem valueR_h29 (m : Nat) {I : aI} {nl p e : Nat} {ex : Int32} (hn : I (m + 1) 1 = nI nl) (h12 : nl ≤ 12) (hp : p < 6) (hex : ∀ j, j < 12 → (nI j = ex ↔ j = e)) (hcol : ∀ k, k < nl → ∃ c, c < 6 ∧ I (m + 1) (58 + 5 * k + 0) = nI c) (hown : ∀ k, k < nl → ∃ s, s < 64 ∧ I (m + 1) (58 + 5 * k + 2) = nI s) : ∀ (n j : Nat) (c : Nat → Int32), j ≤ nl → nl < n + j → (∀ d, d < 6 → c d = nI (cntR (I (m + 1)) p e d j)) →
    ∃ c', f_X7_valueWith_h29 m n (nI p) ex (smI (shRk (I (m + 1)) p e) j) (nI j) (rwS I m c) = some (vEnd (I (m + 1) 13) (I (m + 1) 14) (fun d => cntR (I (m + 1)) p e d nl) (smI (shRk (I (m + 1)) p e) nl), rwS I m c') := by
  intro n
  have hF := am_F_big
  induction n with
  | zero => intro j c h2 h3; omega
  | succ n ih =>
    intro j c h2 h3 hc
    rw [f_X7_valueWith_h29, rwS_row, hn]
    by_cases h : nl ≤ j
    · have : j = nl := by omega
      subst this
      rw [if_pos (nI_le h (by omega))]
      refine ⟨c, ?_⟩
      have := valueR_h132 m (I := rwS I m c) (cc := fun d => cntR (I (m + 1)) p e d j) (smI (shRk (I (m + 1)) p e) j) (fun d hd => by rw [rwS_s]; exact hc d hd) (fun d hd => Nat.le_trans (ctn_le _ _) h12) am_F 0 (by omega) (by omega)
      rw [rwS_row] at this
      exact this
    · obtain ⟨s, hs, hsI⟩ := hown j (by omega)
      obtain ⟨q, hq, hqI⟩ := hcol j (by omega)
      have hct : ∀ d, cntR (I (m + 1)) p e d (j + 1) = cntR (I (m + 1)) p e d j + (if ((bt (I (m + 1) (58 + 5 * j + 2)) p || decide (j = e)) && decide (I (m + 1) (58 + 5 * j + 0) = nI d)) = true then 1 else 0) := fun d => rfl
      have hst : smI (shRk (I (m + 1)) p e) (j + 1) = smI (shRk (I (m + 1)) p e) j + shRk (I (m + 1)) p e j := rfl
      have h5 := fun c' hc' => ih (j + 1) c' (by omega) (by omega) hc'
      have hol : f_X7_ofLot m (nI j) 2 (rwS I m c) = some (I (m + 1) (58 + 5 * j + 2)) := by rw [show f_X7_ofLot m (nI j) 2 (rwS I m c) = _ from fw_ofLot (c := 2) (by omega) (by omega), rwS_row]
      have hol1 : f_X7_ofLot m (nI j) 1 (rwS I m c) = some (I (m + 1) (58 + 5 * j + 1)) := by rw [show f_X7_ofLot m (nI j) 1 (rwS I m c) = _ from fw_ofLot (c := 1) (by omega) (by omega), rwS_row]
      have hol0 : f_X7_ofLot m (nI j) 0 (rwS I m c) = some (I (m + 1) (58 + 5 * j + 0)) := by rw [show f_X7_ofLot m (nI j) 0 (rwS I m c) = _ from fw_ofLot (c := 0) (by omega) (by omega), rwS_row]
      rw [if_neg (nI_ge (by omega) (by omega)), hol, am_b1_some]
      -- one more, of colour q
      have step : (bt (I (m + 1) (58 + 5 * j + 2)) p || decide (j = e)) = true → ∀ (s0 : Int32), s0 ≠ 0 → I (m + 1) (58 + 5 * j + 1) / s0 = shRk (I (m + 1)) p e j → ∃ c', f_X7_valueWith_b101 m (f_X7_valueWith_h29 m n) (nI p) ex (nI j) s0 (I (m + 1) (58 + 5 * j + 1)) (smI (shRk (I (m + 1)) p e) j) (rwS I m c) = some (vEnd (I (m + 1) 13) (I (m + 1) 14) (fun d => cntR (I (m + 1)) p e d nl) (smI (shRk (I (m + 1)) p e) nl), rwS I m c') := by
        intro hbe s0 hs0 hsh
        rw [f_X7_valueWith_b101, am_g_of _ (decide_eq_true hs0), am_let_ap, hol0, am_b1_some, hqI, ok6 hq, am_g_tt, am_g_tt, am_let_ap, nI_tn (by omega), rwS_s, am_w_rwS, rwS_rwS, rwS_s, nI_1, hsh, ← hst]
        refine h5 _ (fun d hd => ?_)
        rw [hct, hbe, hqI, Bool.true_and]
        by_cases ed : d = q
        · subst ed
          rw [upd_eq _ rfl, hc d hd, nI_1]
          simp
        · have e2 : ¬ nI q = nI d := by rw [nI_inj (by omega) (by omega)]; exact fun h => ed h.symm
          rw [upd_nq _ ed, hc d hd]
          simp [e2]
      -- nothing
      have skip : (bt (I (m + 1) (58 + 5 * j + 2)) p || decide (j = e)) = false → ∃ c', f_X7_valueWith_h29 m n (nI p) ex (smI (shRk (I (m + 1)) p e) j) (nI j + 1) (rwS I m c) = some (vEnd (I (m + 1) 13) (I (m + 1) 14) (fun d => cntR (I (m + 1)) p e d nl) (smI (shRk (I (m + 1)) p e) nl), rwS I m c') := by
        intro hbe
        have hz : shRk (I (m + 1)) p e j = 0 := by
          simp only [Bool.or_eq_false_iff, decide_eq_false_iff_not] at hbe
          rw [shRk, if_neg hbe.2, hbe.1]
          rfl
        rw [nI_1]
        have := h5 c (fun d hd => by rw [hct, hbe, hc d hd]; simp)
        rw [hst, hz, Int32.add_zero] at this
        exact this
      -- behind the test
      have b73 : (bt (I (m + 1) (58 + 5 * j + 2)) p || decide (j = e)) = true → ∃ c', f_X7_valueWith_b73 m (f_X7_valueWith_h29 m n) (nI p) ex (smI (shRk (I (m + 1)) p e) j) (nI j) (rwS I m c) = some (vEnd (I (m + 1) 13) (I (m + 1) 14) (fun d => cntR (I (m + 1)) p e d nl) (smI (shRk (I (m + 1)) p e) nl), rwS I m c') := by
        intro hbe
        rw [f_X7_valueWith_b73, hol1, am_b1_some]
        by_cases ej : j = e
        · rw [if_pos ((hex j (by omega)).mpr ej)]
          exact step hbe 1 one0 (by rw [shRk, if_pos ej])
        · rw [if_neg (fun h => ej ((hex j (by omega)).mp h)), hol, am_b1_some, hsI, sizeOf_64 hs, am_b1_some]
          have hb : bt (I (m + 1) (58 + 5 * j + 2)) p = true := by simpa [ej] using hbe
          have hs0 : 0 < s := by
            rcases Nat.eq_zero_or_pos s with z | z
            · subst z
              rw [hsI] at hb
              have := bt_zero p hp
              rw [show nI 0 = (0 : Int32) from rfl, this] at hb
              cases hb
            · exact z
          have hpp := popc_pos s hs hs0
          have hpl := popc_le s
          refine step hbe (nI (popc s)) (nI_ne0 hpp (by omega)) ?_
          rw [shRk, if_neg ej, if_pos hb, hsI, nI_tn (by omega)]
      cases hb : bt (I (m + 1) (58 + 5 * j + 2)) p
      · rw [if_neg (by rw [bt_f hb]; decide), f_X7_valueWith_b60, if_pos rfl]
        by_cases ej : j = e
        · rw [if_pos ((hex j (by omega)).mpr ej)]
          exact b73 (by rw [hb]; simpa using ej)
        · rw [if_neg (fun h => ej ((hex j (by omega)).mp h))]
          exact skip (by rw [hb]; simpa using ej)
      · rw [if_pos (bt_t hb), f_X7_valueWith_b60, if_neg one0]
        exact b73 (by rw [hb]; rfl)
theorem valueR_h5 (m : Nat) {I : aI} {nl p e : Nat} {ex : Int32} (hn : I (m + 1) 1 = nI nl) (h12 : nl ≤ 12) (hp : p < 6) (hex : ∀ j, j < 12 → (nI j = ex ↔ j = e)) (hcol : ∀ k, k < nl → ∃ c, c < 6 ∧ I (m + 1) (58 + 5 * k + 0) = nI c) (hown : ∀ k, k < nl → ∃ s, s < 64 ∧ I (m + 1) (58 + 5 * k + 2) = nI s) : ∀ (n j : Nat) (c : Nat → Int32), j ≤ 6 → 6 < n + j → (∀ d, d < j → c d = 0) →
    ∃ c', f_X7_valueWith_h5 m n (nI p) ex 0 (nI j) (rwS I m c) = some (vEnd (I (m + 1) 13) (I (m + 1) 14) (fun d => cntR (I (m + 1)) p e d nl) (smI (shRk (I (m + 1)) p e) nl), rwS I m c') := by
  intro n
  have hF := am_F_big
  induction n with
  | zero => intro j c h2 h3; omega
  | succ n ih =>
    intro j c h2 h3 hc
    rw [f_X7_valueWith_h5]
    have c6 : ((6 : Int32) ≤ nI j) = (6 ≤ j) := nI_leq (a := 6) (by omega) (by omega)
    by_cases h : 6 ≤ j
    · have : j = 6 := by omega
      subst this
      rw [if_pos (by rw [c6]; exact h)]
      exact valueR_h29 m hn h12 hp hex hcol hown am_F 0 c (by omega) (by omega) (fun d hd => by rw [hc d hd]; rfl)
    · rw [if_neg (by rw [c6]; exact h), ok6 (by omega), am_g_tt, am_let_ap, nI_tn (by omega), am_w_rwS, rwS_rwS, rwS_s, nI_1]
      refine ih (j + 1) _ (by omega) (by omega) (fun d hd => ?_)
      by_cases ed : d = j
      · rw [upd_eq _ ed]
      · rw [upd_nq _ ed, hc d (by omega)]
theorem fw_valueWith {m : Nat} {I : aI} {nl p e : Nat} {ex : Int32} (hn : I (m + 1) 1 = nI nl) (h12 : nl ≤ 12) (hp : p < 6) (hex : ∀ j, j < 12 → (nI j = ex ↔ j = e)) (hcol : ∀ k, k < nl → ∃ c, c < 6 ∧ I (m + 1) (58 + 5 * k + 0) = nI c) (hown : ∀ k, k < nl → ∃ s, s < 64 ∧ I (m + 1) (58 + 5 * k + 2) = nI s) :
    ∃ c', f_X7_valueWith m (nI p) ex I = some (vEnd (I (m + 1) 13) (I (m + 1) 14) (fun d => cntR (I (m + 1)) p e d nl) (smI (shRk (I (m + 1)) p e) nl), rwS I m c') := by
  have hF := am_F_big
  have e1 : I = rwS I m (I (m + 6)) := by
    funext q
    simp only [rwS]
    split
    · rename_i h; rw [h]
    · rfl
  obtain ⟨c', h⟩ := valueR_h5 m hn h12 hp hex hcol hown am_F 0 (I (m + 6)) (by omega) (by omega) (fun d hd => absurd hd (by omega))
  refine ⟨c', ?_⟩
  rw [← e1] at h
  exact h
