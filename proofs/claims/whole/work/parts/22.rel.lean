/-! PURE: what holds of a game, and how the reference's row shows it -/
def bd (x : Int32) (a b : Int) : Prop := a ≤ x.toInt ∧ x.toInt ≤ b
def IVh (I : aI) (g np nl nd : Nat) : Prop := 2 ≤ np ∧ np ≤ 6 ∧ nd ≤ nl ∧ nl ≤ 12 ∧ I (g + 2) 0 = nI np ∧ I (g + 8) 0 = nI nl ∧ I (g + 8) 1 = nI nd
def IVs (I : aI) (g : Nat) : Prop := bd (I (g + 1) 0) 1 300 ∧ bd (I (g + 1) 1) 1 20 ∧ bd (I (g + 1) 2) 1 40 ∧ bd (I (g + 1) 3) 0 20 ∧ bd (I (g + 1) 4) 0 100 ∧ bd (I (g + 1) 5) 1 20
def IVp (I : aI) (g np : Nat) : Prop := ∀ p, p < np → 0 ≤ (I (g + 6) p).toInt ∧ (I (g + 6) p).toInt ≤ (I (g + 3) p).toInt ∧ (I (g + 3) p).toInt ≤ (I (g + 7) p).toInt ∧ (I (g + 7) p).toInt ≤ 300 ∧ bd (I (g + 4) p) 0 30
def IVl (I : aI) (g nl nd : Nat) : Prop := ∀ k, k < nl → (∃ c, c < 6 ∧ I (g + 9) k = nI c) ∧ bd (I (g + 10) k) 1 50 ∧ (∃ s, s < 64 ∧ I (g + 11) k = nI s) ∧ (nd ≤ k → I (g + 11) k = 0)
def AUn (I : aI) (g : Nat) : Prop := I (g + 13) 0 = -6 ∧ I (g + 13) 1 = -6 ∧ I (g + 13) 2 = -6 ∧ I (g + 13) 3 = -6 ∧ I (g + 13) 4 = -6 ∧ I (g + 13) 5 = -6 ∧ I (g + 13) 6 = 0 ∧ I (g + 13) 7 = -6 ∧ ∀ p, p < 6 → I (g + 14) p = -6
def AUo (I : aI) (g np : Nat) : Prop := I (g + 13) 0 = 0 ∧ bd (I (g + 13) 1) 1 300 ∧ I (g + 13) 7 = -6 ∧ (∃ t, t < np ∧ I (g + 13) 4 = nI t ∧ bt (I (g + 13) 6) t = false ∧ I (g + 13) 3 ≠ nI t) ∧ (∃ b : Nat, I (g + 13) 5 = nI b ∧ (b : Int) < (I (g + 1) 2).toInt) ∧ (∃ w, w < 64 ∧ I (g + 13) 6 = nI w) ∧
  ((I (g + 13) 3 = -6 ∧ I (g + 13) 2 = -6) ∨ ∃ h, h < np ∧ I (g + 13) 3 = nI h ∧ 1 ≤ (I (g + 13) 2).toInt ∧ (I (g + 13) 2).toInt ≤ (I (g + 3) h).toInt)
def hasB (I : aI) (g p : Nat) : Bool := decide (¬ I (g + 14) p = -6)
def AUs (I : aI) (g np : Nat) : Prop := I (g + 13) 0 = 1 ∧ bd (I (g + 13) 1) 1 300 ∧ I (g + 13) 2 = -6 ∧ I (g + 13) 3 = -6 ∧ I (g + 13) 4 = -6 ∧ I (g + 13) 6 = 0 ∧ I (g + 13) 7 = -6 ∧ (∀ p, p < np → I (g + 14) p = -6 ∨ (0 ≤ (I (g + 14) p).toInt ∧ (I (g + 14) p).toInt ≤ (I (g + 3) p).toInt)) ∧ I (g + 13) 5 = nI (ctn (hasB I g) np) ∧ ctn (hasB I g) np < np
def AUf (I : aI) (g np : Nat) : Prop := I (g + 13) 0 = 2 ∧ bd (I (g + 13) 2) 1 300 ∧ I (g + 13) 3 = -6 ∧ I (g + 13) 4 = -6 ∧ I (g + 13) 6 = 0 ∧ I (g + 13) 7 = -6 ∧ ∀ p, p < np → I (g + 14) p = -6 ∨ (I (g + 14) p = I (g + 13) 2 ∧ (I (g + 13) 2).toInt ≤ (I (g + 3) p).toInt)
def AU (I : aI) (g np nl nd : Nat) : Prop := AUn I g ∨ (nd + 1 < nl ∧ (AUo I g np ∨ AUs I g np ∨ AUf I g np))
def IV (I : aI) (g np nl nd : Nat) : Prop := IVh I g np nl nd ∧ IVs I g ∧ IVp I g np ∧ IVl I g nl nd ∧ AU I g np nl nd
def RLh (I : aI) (g : Nat) (a : Nat → Int32) : Prop := a 0 = I (g + 2) 0 ∧ a 1 = I (g + 8) 0 ∧ a 2 = I (g + 8) 1
def RLs (I : aI) (g : Nat) (a : Nat → Int32) : Prop := ∀ k, k < 6 → a (10 + k) = I (g + 1) k
def RLp (I : aI) (g : Nat) (a : Nat → Int32) : Prop := ∀ p, p < 6 → a (16 + 7 * p + 0) = I (g + 3) p ∧ a (16 + 7 * p + 1) = I (g + 4) p ∧ a (16 + 7 * p + 2) = I (g + 5) p ∧ a (16 + 7 * p + 3) = I (g + 6) p ∧ a (16 + 7 * p + 4) = I (g + 7) p
def RLb (I : aI) (g : Nat) (a : Nat → Int32) : Prop := ∀ p, p < 6 → a (16 + 7 * p + 5) = I (g + 14) p ∧ a (16 + 7 * p + 6) = if bt (I (g + 13) 6) p = true then 1 else 0
def RLl (I : aI) (g : Nat) (a : Nat → Int32) (nl nd : Nat) : Prop := ∀ k, k < nl → a (58 + 5 * k + 0) = I (g + 9) k ∧ a (58 + 5 * k + 1) = I (g + 10) k ∧ a (58 + 5 * k + 2) = I (g + 11) k ∧ a (58 + 5 * k + 3) = (if k < nd ∧ ¬ I (g + 11) k = 0 then I (g + 12) k else -6) ∧ a (58 + 5 * k + 4) = (if k < nd then (if I (g + 11) k = 0 then 2 else 1) else 0)
def RLa (I : aI) (g : Nat) (a : Nat → Int32) : Prop := a 3 = (if I (g + 13) 0 = -6 then 0 else 1) ∧ a 4 = I (g + 13) 0 ∧ a 5 = (if I (g + 13) 0 = 2 then I (g + 13) 2 else I (g + 13) 1) ∧ a 6 = (if I (g + 13) 0 = 0 then I (g + 13) 2 else -6) ∧ a 7 = I (g + 13) 3 ∧ a 8 = I (g + 13) 4 ∧ a 9 = (if I (g + 13) 0 = -6 then 0 else I (g + 13) 5)
def RW (I : aI) (g : Nat) (a : Nat → Int32) (nl nd : Nat) : Prop := RLh I g a ∧ RLs I g a ∧ RLp I g a ∧ RLb I g a ∧ RLl I g a nl nd ∧ RLa I g a
/-! counts of the two sides -/
theorem ctn_one {f f0 : Nat → Bool} {nd nl : Nat} {b : Bool} (h : nd < nl) (h0 : ∀ k, k < nd → f k = f0 k) (hb : f nd = b) (h1 : ∀ k, nd < k → k < nl → f k = false) : ctn f nl = ctn f0 nd + (if b = true then 1 else 0) := by
  rw [ctn_stay (m := nd + 1) (by omega) (fun k h2 h3 => h1 k (by omega) h3), ctn, ctn_congr h0, hb]
theorem smI_one {f f0 : Nat → Int32} {nd nl : Nat} {b : Int32} (h : nd < nl) (h0 : ∀ k, k < nd → f k = f0 k) (hb : f nd = b) (h1 : ∀ k, nd < k → k < nl → f k = 0) : smI f nl = smI f0 nd + b := by
  rw [smI_stay (m := nd + 1) (by omega) (fun k h2 h3 => h1 k (by omega) h3), smI, smI_congr h0, hb]
theorem cnt_none {I : aI} {g nl nd p e c : Nat} {a : Nat → Int32} (hp : p < 6) (h1 : nd ≤ nl) (he : nl ≤ e) (hl : IVl I g nl nd) (hr : RLl I g a nl nd) : cntR a p e c nl = cntC I (g + 8) p c nd := by
  have h2 : ∀ k, k < nl → ((bt (a (58 + 5 * k + 2)) p || decide (k = e)) && decide (a (58 + 5 * k + 0) = nI c)) = (bt (I (g + 8 + 3) k) p && decide (I (g + 8 + 1) k = nI c)) := by
    intro k hk
    obtain ⟨r0, r1, r2, -⟩ := hr k hk
    rw [r0, r2, show decide (k = e) = false from decide_eq_false (by omega), Bool.or_false]
  rw [cntR, ctn_congr h2, cntC]
  refine ctn_stay h1 (fun k h3 h4 => ?_)
  have := (hl k h4).2.2.2 h3
  rw [show I (g + 8 + 3) k = 0 from this, bt_zero p hp, Bool.false_and]
theorem cnt_extra {I : aI} {g nl nd p c c0 : Nat} {a : Nat → Int32} (hp : p < 6) (h1 : nd < nl) (hl : IVl I g nl nd) (hr : RLl I g a nl nd) (hc : c < 6) (hc0 : c0 < 6) (hcI : I (g + 9) nd = nI c0) : cntR a p nd c nl = cntC I (g + 8) p c nd + (if c = c0 then 1 else 0) := by
  rw [cntR, ctn_one (f0 := fun k => bt (I (g + 8 + 3) k) p && decide (I (g + 8 + 1) k = nI c)) (b := decide (c = c0)) h1]
  · simp only [decide_eq_true_eq]; rfl
  · intro k hk
    obtain ⟨r0, r1, r2, -⟩ := hr k (by omega)
    rw [r0, r2, show decide (k = nd) = false from decide_eq_false (by omega), Bool.or_false]
  · obtain ⟨r0, r1, r2, -⟩ := hr nd h1
    rw [r0, hcI, show decide (nd = nd) = true from decide_eq_true rfl, Bool.or_true, Bool.true_and]
    simp only [nI_inj (show c0 < 2147483648 by omega) (show c < 2147483648 by omega)]
    exact decide_eq_decide.mpr ⟨fun h => h.symm, fun h => h.symm⟩
  · intro k h3 h4
    obtain ⟨r0, r1, r2, -⟩ := hr k h4
    have := (hl k h4).2.2.2 (by omega)
    rw [r2, this, bt_zero p hp, show decide (k = nd) = false from decide_eq_false (by omega)]
    rfl
theorem sum_none {I : aI} {g nl nd p e : Nat} {a : Nat → Int32} (hp : p < 6) (h1 : nd ≤ nl) (he : nl ≤ e) (hl : IVl I g nl nd) (hr : RLl I g a nl nd) : smI (shRk a p e) nl = smI (shV I (g + 8) p) nd := by
  have h2 : ∀ k, k < nl → shRk a p e k = shV I (g + 8) p k := by
    intro k hk
    obtain ⟨r0, r1, r2, -⟩ := hr k hk
    rw [shRk, if_neg (by omega), r1, r2, shV]
    by_cases hb : bt (I (g + 11) k) p = true
    · rw [if_pos hb, if_pos hb, shr, if_neg]
      intro h0
      rw [h0, bt_zero p hp] at hb
      cases hb
    · rw [if_neg hb, if_neg hb]
  rw [smI_congr h2]
  refine smI_stay h1 (fun k h3 h4 => ?_)
  have := (hl k h4).2.2.2 h3
  rw [shV, show I (g + 8 + 3) k = 0 from this, bt_zero p hp]
  rfl
theorem div1 (x : Int32) : x / 1 = x := Int32.div_one
theorem sum_extra {I : aI} {g nl nd p : Nat} {a : Nat → Int32} (hp : p < 6) (h1 : nd < nl) (hl : IVl I g nl nd) (hr : RLl I g a nl nd) : smI (shRk a p nd) nl = smI (shV I (g + 8) p) nd + I (g + 10) nd := by
  refine smI_one h1 (fun k hk => ?_) ?_ (fun k h3 h4 => ?_)
  · obtain ⟨r0, r1, r2, -⟩ := hr k (by omega)
    rw [shRk, if_neg (by omega), r1, r2, shV]
    by_cases hb : bt (I (g + 11) k) p = true
    · rw [if_pos hb, if_pos hb, shr, if_neg]
      intro h0
      rw [h0, bt_zero p hp] at hb
      cases hb
    · rw [if_neg hb, if_neg hb]
  · obtain ⟨r0, r1, r2, -⟩ := hr nd h1
    rw [shRk, if_pos rfl, r1, div1]
  · obtain ⟨r0, r1, r2, -⟩ := hr k h4
    have := (hl k h4).2.2.2 (by omega)
    rw [shRk, if_neg (by omega), r2, this, bt_zero p hp]
    rfl
theorem qS_step : ∀ s : Nat, s ≤ 20 → ∀ n : Nat, n ≤ 12 → qS (nI s) (n + 1) = qS (nI s) n + nI s * nI n := by decide +kernel
theorem nI_ofI {x : Int32} {b : Nat} (h : bd x 0 b) (hb : b < 2147483648) : ∃ s : Nat, s ≤ b ∧ x = nI s := by
  obtain ⟨h0, h1⟩ := h
  refine ⟨x.toInt.toNat, by omega, ?_⟩
  apply Int32.toInt_inj.mp
  rw [nI_toInt (by omega)]
  omega
theorem vSum_congr {st v : Int32} {cc cc' : Nat → Nat} : ∀ n, (∀ c, c < n → cc c = cc' c) → vSum st cc v n = vSum st cc' v n := by
  intro n
  induction n with
  | zero => intro _; rfl
  | succ n ih => intro h; rw [vSum, vSum, ih (fun c hc => h c (by omega)), h n (by omega)]
theorem vEnd_congr {st rb v : Int32} {cc cc' : Nat → Nat} (h : ∀ c, c < 6 → cc c = cc' c) : vEnd st rb cc v = vEnd st rb cc' v := by
  rw [vEnd, vEnd, vSum_congr 6 h, ctn_congr (fun c hc => by rw [h c hc])]
theorem vSum_v (st v w : Int32) (cc : Nat → Nat) : ∀ n, vSum st cc (v + w) n = vSum st cc v n + w := by
  intro n
  induction n with
  | zero => rfl
  | succ n ih => rw [vSum, vSum, ih, Int32.add_assoc, Int32.add_comm w, ← Int32.add_assoc]
theorem vSum_up {st v : Int32} {cc : Nat → Nat} {c0 : Nat} {d : Int32} (hd : qS st (cc c0 + 1) = qS st (cc c0) + d) : ∀ n, vSum st (fun c => cc c + if c = c0 then 1 else 0) v n = vSum st cc v n + (if c0 < n then d else 0) := by
  intro n
  induction n with
  | zero => simp [vSum]
  | succ n ih =>
    rw [vSum, vSum, ih]
    by_cases e : n = c0
    · subst e
      rw [if_pos rfl, hd, if_neg (by omega), if_pos (by omega), Int32.add_zero, Int32.add_assoc]
    · rw [if_neg e, Nat.add_zero]
      by_cases h : c0 < n
      · rw [if_pos h, if_pos (by omega), Int32.add_assoc, Int32.add_comm d, ← Int32.add_assoc]
      · rw [if_neg h, if_neg (by omega), Int32.add_zero, Int32.add_zero]
theorem ctn_up {cc : Nat → Nat} {c0 : Nat} : ∀ n, ctn (fun c => decide (0 < cc c + if c = c0 then 1 else 0)) n = ctn (fun c => decide (0 < cc c)) n + (if c0 < n ∧ cc c0 = 0 then 1 else 0) := by
  intro n
  induction n with
  | zero => simp [ctn]
  | succ n ih =>
    rw [ctn, ctn, ih]
    by_cases e : n = c0
    · subst e
      by_cases z : cc n = 0
      · simp [z]
      · have : 0 < cc n := by omega
        simp [z, this]
    · by_cases h : c0 < n
      · have h2 : c0 < n + 1 := by omega
        simp only [h, h2, true_and, e, if_false, Nat.add_zero]
        omega
      · have h2 : ¬ c0 < n + 1 := by omega
        simp [h, h2, e]
theorem sub_a (S w x : Int32) : (S + w + x) - S = w + x := by rw [Int32.add_assoc, Int32.add_comm S, Int32.add_sub_cancel]
theorem gain_eq {I : aI} {g np nl nd p c0 : Nat} {a : Nat → Int32} (hp : p < 6) (h1 : nd < nl) (h12 : nl ≤ 12) (hs : IVs I g) (hl : IVl I g nl nd) (hrs : RLs I g a) (hr : RLl I g a nl nd) (hc0 : c0 < 6) (hcI : I (g + 9) nd = nI c0) :
    vEnd (a 13) (a 14) (fun d => cntR a p nd d nl) (smI (shRk a p nd) nl) - vEnd (a 13) (a 14) (fun d => cntR a p 100 d nl) (smI (shRk a p 100) nl) = gainV I (g + 8) p nd (I (g + 1) 3) (I (g + 1) 4) c0 := by
  have e13 : a 13 = I (g + 1) 3 := hrs 3 (by omega)
  have e14 : a 14 = I (g + 1) 4 := hrs 4 (by omega)
  obtain ⟨s, hs20, hsI⟩ := nI_ofI (b := 20) hs.2.2.2.1 (by omega)
  rw [e13, e14, hsI]
  rw [vEnd_congr (cc' := fun c => cntC I (g + 8) p c nd + if c = c0 then 1 else 0) (fun c hc => cnt_extra hp h1 hl hr hc hc0 hcI), vEnd_congr (cc := fun d => cntR a p 100 d nl) (cc' := fun c => cntC I (g + 8) p c nd) (fun c hc => cnt_none hp (by omega) (by omega) hl hr), sum_extra hp h1 hl hr, sum_none hp (by omega) (by omega) hl hr]
  have hcl : cntC I (g + 8) p c0 nd ≤ nd := ctn_le _ _
  have hq := qS_step s hs20 (cntC I (g + 8) p c0 nd) (by omega)
  have hS := vSum_up (st := nI s) (v := smI (shV I (g + 8) p) nd + I (g + 10) nd) (cc := fun c => cntC I (g + 8) p c nd) hq 6
  rw [if_pos hc0, vSum_v _ _ _ (fun c => cntC I (g + 8) p c nd)] at hS
  have hct := ctn_up (cc := fun c => cntC I (g + 8) p c nd) (c0 := c0) 6
  rw [vEnd, vEnd, hS, hct, gainV]
  generalize vSum (nI s) (fun c => cntC I (g + 8) p c nd) (smI (shV I (g + 8) p) nd) 6 = S
  generalize ctn (fun c => decide (0 < cntC I (g + 8) p c nd)) 6 = N
  generalize hx : nI s * nI (cntC I (g + 8) p c0 nd) = x
  show _ = (I (g + 10) nd + x) + _
  generalize I (g + 10) nd = w
  generalize I (g + 1) 4 = rb
  by_cases z : cntC I (g + 8) p c0 nd = 0
  · by_cases h3 : N = 3
    · rw [if_neg (by rw [if_pos ⟨hc0, z⟩]; omega), if_pos (by omega), if_pos ⟨z, h3⟩, Int32.add_assoc (S + w), sub_a, Int32.add_assoc]
    · have n1 : ¬ (cntC I (g + 8) p c0 nd = 0 ∧ N = 3) := fun q => h3 q.2
      rw [if_neg n1, Int32.add_zero]
      by_cases h4 : N < 4
      · rw [if_pos (by rw [if_pos ⟨hc0, z⟩]; omega), if_pos h4, sub_a]
      · rw [if_neg (by omega), if_neg h4, show S + w + x + rb = (S + rb) + w + x by rw [Int32.add_assoc, Int32.add_assoc, Int32.add_comm (w), Int32.add_assoc x, Int32.add_comm x, ← Int32.add_assoc, ← Int32.add_assoc], sub_a]
  · have n1 : ¬ (cntC I (g + 8) p c0 nd = 0 ∧ N = 3) := fun q => z q.1
    rw [if_neg n1, Int32.add_zero]
    by_cases h4 : N < 4
    · rw [if_pos (by rw [if_neg (fun q => z q.2)]; omega), if_pos h4, sub_a]
    · rw [if_neg (by omega), if_neg h4, show S + w + x + rb = (S + rb) + w + x by rw [Int32.add_assoc, Int32.add_assoc, Int32.add_comm (w), Int32.add_assoc x, Int32.add_comm x, ← Int32.add_assoc, ← Int32.add_assoc], sub_a]
