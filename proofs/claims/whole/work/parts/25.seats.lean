/-! PURE: seats around the table -/
theorem rem_ok : ∀ a : Nat, a < 25 → ∀ b : Nat, b < 7 → b ≠ 0 → am_rem (nI a) (nI b) = nI (a % b) := by decide +kernel
theorem bt_nI : ∀ w : Nat, w < 64 → ∀ p : Nat, p < 6 → bt (nI w) p = w.testBit p := by decide +kernel
theorem shl_ok : ∀ p : Nat, p < 6 → am_shl 1 (nI p) = nI (2 ^ p) ∧ 2 ^ p < 64 ∧ 0 < 2 ^ p ∧ popc (2 ^ p) = 1 := by decide +kernel
theorem bt_one : ∀ h : Nat, h < 6 → ∀ p : Nat, p < 6 → bt (nI (2 ^ h)) p = decide (p = h) := by decide +kernel
theorem fw_starter {I : aI} {g np nl nd : Nat} (hh : IVh I g np nl nd) : f_X1_starter g I = some (nI (nd % np)) := by
  obtain ⟨h2, h6, h1, h12, hnp, hnl, hnd⟩ := hh
  rw [f_X1_starter, hnp, hnd, if_neg (nI_nle (by omega) (by omega)), am_g_of _ (decide_eq_true (nI_ne0 (by omega) (by omega))), rem_ok nd (by omega) np (by omega) (by omega)]
theorem fw_seatBehind {o : Nat} {I : aI} {np s k : Nat} (hn : I o 0 = nI np) (h6 : np ≤ 6) (hs : s < np) (hk : k < np) : f_X4_seatBehind o (nI s) (nI k) I = some (nI ((s + k) % np)) := by
  rw [f_X4_seatBehind, am_let_ap, hn, nI_add]
  by_cases h : np ≤ s + k
  · rw [if_pos (nI_le h (by omega)), nI_sub h, Nat.mod_eq_sub_mod h, Nat.mod_eq_of_lt (by omega)]
  · rw [if_neg (nI_ge (by omega) (by omega)), Nat.mod_eq_of_lt (by omega)]
theorem fw_starterR {m : Nat} {I : aI} {np nd : Nat} (h0 : I (m + 1) 0 = nI np) (h2 : I (m + 1) 2 = nI nd) (hnp : 2 ≤ np) (h6 : np ≤ 6) (hd : nd ≤ 12) : f_X7_starter m I = some (nI (nd % np)) := by
  rw [f_X7_starter, h0, h2, am_g_of _ (decide_eq_true (nI_ne0 (by omega) (by omega))), rem_ok nd (by omega) np (by omega) (by omega)]
theorem fw_seatR {m : Nat} {I : aI} {np nd k : Nat} (h0 : I (m + 1) 0 = nI np) (h2 : I (m + 1) 2 = nI nd) (hnp : 2 ≤ np) (h6 : np ≤ 6) (hd : nd ≤ 12) (hk : k < np) : f_X7_seat m (nI k) I = some (nI ((nd % np + k) % np)) := by
  have := Nat.mod_lt nd (show np > 0 by omega)
  rw [f_X7_seat, fw_starterR h0 h2 hnp h6 hd, am_b1_some, h0, am_g_of _ (decide_eq_true (nI_ne0 (by omega) (by omega))), nI_add, rem_ok _ (by omega) np (by omega) (by omega)]
/-- the first of n numbers from j on -/
def srch (P : Nat → Bool) : Nat → Nat → Option Nat
  | 0, _ => none
  | n + 1, j => if P j = true then some j else srch P n (j + 1)
def es (t np : Nat) (o : Option Nat) : Int32 := match o with
  | some k => nI ((t + k) % np)
  | none => -6
theorem srch_some {P : Nat → Bool} : ∀ {n j k : Nat}, srch P n j = some k → j ≤ k ∧ k < j + n ∧ P k = true ∧ ∀ i, j ≤ i → i < k → P i = false := by
  intro n
  induction n with
  | zero => intro j k h; cases h
  | succ n ih =>
    intro j k h
    rw [srch] at h
    cases hp : P j
    · rw [hp] at h
      obtain ⟨h1, h2, h3, h4⟩ := ih (show srch P n (j + 1) = some k from h)
      refine ⟨by omega, by omega, h3, fun i hi1 hi2 => ?_⟩
      by_cases e : i = j
      · subst e; exact hp
      · exact h4 i (by omega) hi2
    · rw [hp] at h
      cases h
      exact ⟨Nat.le_refl _, by omega, hp, fun i hi1 hi2 => by omega⟩
theorem srch_none {P : Nat → Bool} : ∀ {n j : Nat}, srch P n j = none → ∀ i, j ≤ i → i < j + n → P i = false := by
  intro n
  induction n with
  | zero => intro j h i h1 h2; omega
  | succ n ih =>
    intro j h i h1 h2
    rw [srch] at h
    cases hp : P j
    · rw [hp] at h
      by_cases e : i = j
      · subst e; exact hp
      · exact ih (show srch P n (j + 1) = none from h) i (by omega) (by omega)
    · rw [hp] at h; cases h
theorem srch_congr {P Q : Nat → Bool} : ∀ {n j : Nat}, (∀ i, j ≤ i → i < j + n → P i = Q i) → srch P n j = srch Q n j := by
  intro n
  induction n with
  | zero => intro j _; rfl
  | succ n ih =>
    intro j h
    rw [srch, srch, h j (Nat.le_refl _) (by omega), ih (fun i h1 h2 => h i (by omega) (by omega))]
/-! OPEN: whose turn is next -/
def nxP (I : aI) (g np t k : Nat) : Bool := decide (¬ nI ((t + k) % np) = I (g + 13) 3) && !bt (I (g + 13) 6) ((t + k) % np)
theorem nextC_h {I : aI} {g np t : Nat} (hn : I (g + 2) 0 = nI np) (h6 : np ≤ 6) (ht : t < np) : ∀ (n j : Nat), j ≤ np → np < n + j → f_X1_nextToAct_h2 g n (nI t) (nI j) I = some (es t np (srch (nxP I g np t) (np - j) j)) := by
  intro n
  induction n with
  | zero => intro j h1 h2; omega
  | succ n ih =>
    intro j h1 h2
    rw [f_X1_nextToAct_h2, hn]
    by_cases h : np ≤ j
    · rw [if_pos (nI_le h (by omega)), show np - j = 0 by omega]; rfl
    · have hm := Nat.mod_lt (t + j) (show np > 0 by omega)
      rw [if_neg (nI_ge (by omega) (by omega)), fw_seatBehind hn h6 ht (by omega), am_b1_some, nI_1, ih (j + 1) (by omega) (by omega), show np - j = (np - (j + 1)) + 1 by omega, srch]
      by_cases e : nI ((t + j) % np) = I (g + 13) 3
      · rw [if_pos e, if_neg (by simp [nxP, e])]
      · rw [if_neg e, f_X0_isOut]
        cases hb : bt (I (g + 13) 6) ((t + j) % np)
        · rw [if_neg (by rw [bt_f hb]; decide), am_b1_some, if_pos rfl, if_pos (by simp [nxP, e, hb])]; rfl
        · rw [if_pos (bt_t hb), am_b1_some, if_neg one0, if_neg (by simp [nxP, hb])]
theorem fw_nextToAct {I : aI} {g np t : Nat} (hn : I (g + 2) 0 = nI np) (h2 : 2 ≤ np) (h6 : np ≤ 6) (ht : t < np) : f_X1_nextToAct g (nI t) I = some (es t np (srch (nxP I g np t) (np - 1) 1)) := by
  have hF := am_F_big
  exact nextC_h hn h6 ht am_F 1 (by omega) (by omega)
theorem goOn_h {I Ir : aI} {g m np t : Nat} (h0 : Ir (m + 1) 0 = nI np) (h6 : np ≤ 6) (ht : t < np) (hb : RLb I g (Ir (m + 1))) (h7 : Ir (m + 1) 7 = I (g + 13) 3) : ∀ (n j : Nat), j < np → j < n → f_X7_goOn_h12 m n (nI t) (es t np (srch (nxP I g np t) (np - 1 - j) (j + 1))) (nI j) Ir = f_X7_goOn_b65 m (es t np (srch (nxP I g np t) (np - 1) 1)) Ir := by
  intro n
  induction n with
  | zero => intro j h1 h2; omega
  | succ n ih =>
    intro j h1 h2
    rw [f_X7_goOn_h12]
    by_cases h : j < 1
    · have : j = 0 := by omega
      subst this
      rw [if_pos (show nI 0 < (1 : Int32) by decide)]
      rfl
    · have hm := Nat.mod_lt (t + j) (show np > 0 by omega)
      have hp6 : (t + j) % np < 6 := by omega
      have hj1 : nI j + (-1) = nI (j - 1) := by
        rw [show j = (j - 1) + 1 by omega, nI_succ]
        simp [Int32.add_assoc]
      have q6 : f_X7_of m (nI ((t + j) % np)) 6 Ir = some (if bt (I (g + 13) 6) ((t + j) % np) = true then 1 else 0) := by
        rw [show f_X7_of m (nI ((t + j) % np)) 6 Ir = _ from fw_of (c := 6) hp6 (by omega), (hb _ hp6).2]
      have h5 := ih (j - 1) (by omega) (by omega)
      rw [show np - 1 - (j - 1) = (np - 1 - j) + 1 by omega, show j - 1 + 1 = j by omega, srch] at h5
      rw [if_neg (by rw [show (1 : Int32) = nI 1 from rfl, nI_ltq (by omega) (by omega)]; exact h), h0, am_g_of _ (decide_eq_true (nI_ne0 (by omega) (by omega))), am_let_ap, nI_add, rem_ok _ (by omega) np (by omega) (by omega), q6, am_b1_some, h7, hj1]
      cases hbt : bt (I (g + 13) 6) ((t + j) % np)
      · rw [if_neg (show ¬ false = true by decide), if_pos rfl]
        by_cases e : nI ((t + j) % np) = I (g + 13) 3
        · rw [if_pos e]
          rw [if_neg (by simp [nxP, e])] at h5
          exact h5
        · rw [if_neg e]
          rw [if_pos (by simp [nxP, e, hbt])] at h5
          exact h5
      · rw [if_pos rfl, if_neg one0]
        rw [if_neg (by simp [nxP, hbt])] at h5
        exact h5
/-! one winner pays -/
theorem mod_hit {np st h : Nat} (hs : st < np) (hh : h < np) : ∀ j, j < np → ((st + j) % np = h ↔ j = (h + np - st) % np) := by
  intro j hj
  by_cases h1 : st + j < np
  · rw [Nat.mod_eq_of_lt h1]
    by_cases h2 : h < st
    · rw [Nat.mod_eq_of_lt (show h + np - st < np by omega)]; omega
    · rw [show h + np - st = (h - st) + np by omega, Nat.add_mod_right, Nat.mod_eq_of_lt (show h - st < np by omega)]; omega
  · rw [Nat.mod_eq_sub_mod (by omega), Nat.mod_eq_of_lt (show st + j - np < np by omega)]
    by_cases h2 : h < st
    · rw [Nat.mod_eq_of_lt (show h + np - st < np by omega)]; omega
    · rw [show h + np - st = (h - st) + np by omega, Nat.add_mod_right, Nat.mod_eq_of_lt (show h - st < np by omega)]; omega
theorem collect_tail {I : aI} {g np st h : Nat} (hn : I (g + 2) 0 = nI np) (h6 : np ≤ 6) (hs : st < np) (hh : h < np) (v : Int32) : ∀ (n j : Nat) (r : Int32), j ≤ np → np < n + j → (h + np - st) % np < j → f_X1_collect_h29 g n (nI (2 ^ h)) v r (nI st) (nI j) I = some I := by
  intro n
  induction n with
  | zero => intro j r h1 h2; omega
  | succ n ih =>
    intro j r h1 h2 h3
    rw [f_X1_collect_h29, hn]
    by_cases e : np ≤ j
    · rw [if_pos (nI_le e (by omega))]
    · have hm := Nat.mod_lt (st + j) (show np > 0 by omega)
      rw [if_neg (nI_ge (by omega) (by omega)), fw_seatBehind hn h6 hs (by omega), am_b1_some, if_pos, nI_1, ih (j + 1) r (by omega) (by omega) (by omega)]
      apply bt_f
      rw [bt_one h (by omega) _ (by omega)]
      apply decide_eq_false
      intro q
      have := (mod_hit hs hh j (by omega)).mp q
      omega
theorem payC_np {I : aI} {g p : Nat} {v : Int32} : payC I (g + 2) p v (g + 2) 0 = I (g + 2) 0 := by
  unfold payC
  rw [am_w_nq _ _ (by omega), am_w_nq _ _ (by omega), am_w_nq _ _ (by omega), am_w_nq _ _ (by omega)]
theorem collect_one {I : aI} {g np st h : Nat} (hn : I (g + 2) 0 = nI np) (h6 : np ≤ 6) (hs : st < np) (hh : h < np) (v : Int32) : ∀ (n j : Nat), j ≤ np → np < n + j → j ≤ (h + np - st) % np → f_X1_collect_h29 g n (nI (2 ^ h)) v 0 (nI st) (nI j) I = some (payC I (g + 2) h v) := by
  intro n
  induction n with
  | zero => intro j h1 h2; omega
  | succ n ih =>
    intro j h1 h2 h3
    have hlt := Nat.mod_lt (h + np - st) (show np > 0 by omega)
    have hm := Nat.mod_lt (st + j) (show np > 0 by omega)
    rw [f_X1_collect_h29, hn, if_neg (nI_ge (by omega) (by omega)), fw_seatBehind hn h6 hs (by omega), am_b1_some]
    by_cases e : (st + j) % np = h
    · rw [e, if_neg (by rw [bt_t (by rw [bt_one h (by omega) h (by omega)]; simp)]; exact one0), if_pos (by decide), fw_takeFrom v hn h6 hh, am_b1_some, nI_1]
      refine collect_tail (by rw [payC_np]; exact hn) h6 hs hh v n (j + 1) _ (by omega) (by omega) ?_
      have := (mod_hit hs hh j (by omega)).mp e
      omega
    · rw [if_pos, nI_1, ih (j + 1) (by omega) (by omega) (by
        have : ¬ j = (h + np - st) % np := fun q => e ((mod_hit hs hh j (by omega)).mpr q)
        omega)]
      apply bt_f
      rw [bt_one h (by omega) _ (by omega)]
      exact decide_eq_false e
theorem div_one' (v : Int32) : am_rem v 1 = 0 := by
  unfold am_rem
  rw [div1, Int32.mul_one, Int32.sub_self]
theorem fw_collect1 {I : aI} {g np nl nd h : Nat} (hh : IVh I g np nl nd) (hp : h < np) (v : Int32) : f_X1_collect g (nI (2 ^ h)) v I = some (payC I (g + 2) h v) := by
  have hF := am_F_big
  have hst := fw_starter hh
  obtain ⟨h2, h6, h1, h12, hnp, hnl, hnd⟩ := hh
  have hp6 : h < 6 := by omega
  obtain ⟨s1, s2, s3, s4⟩ := shl_ok h hp6
  have hm := Nat.mod_lt nd (show np > 0 by omega)
  rw [f_X1_collect, bitCount_64 _ s2, am_b1_some, s4, if_neg (by decide), am_g_of _ (by decide), am_let_ap, am_g_of _ (by decide), am_let_ap, hst, am_b1_some]
  rw [show nI 1 = (1 : Int32) from rfl, div1, div_one']
  exact collect_one hnp h6 hm hp v am_F 0 (by omega) (by omega) (by omega)
theorem fw_collect0 {I : aI} {g : Nat} (v : Int32) : f_X1_collect g 0 v I = some I := by
  have := bitCount_64 0 (by omega)
  rw [f_X1_collect, show f_J6_bitCount_0f7a4 0 = _ from this, am_b1_some]
  rfl
theorem fw_closeC {I : aI} {g nl nd : Nat} {w v : Int32} (hn : I (g + 8) 0 = nI nl) (hd : I (g + 8) 1 = nI nd) (h1 : nd < nl) (h12 : nl ≤ 12) : f_X2_close (g + 8) w v I = some (am_w (am_w (am_w I (g + 11) nd w) (g + 12) nd v) (g + 8) 1 (nI (nd + 1))) := by
  have hg : ∀ q k x, q ≠ g + 8 → am_w I q k x (g + 8) 1 = nI nd := fun q k x hq => by rw [am_w_nq _ _ (by omega)]; exact hd
  rw [f_X2_close, hd, hn, if_neg (nI_pos (by omega)), if_pos (nI_lt h1 (by omega)), ok12 (by omega), am_g_tt, am_let_ap, nI_tn (by omega)]
  rw [show I (g + 8) 1 = nI nd from hd] at *
  rw [show am_w I (g + 8 + 3) nd w (g + 8) 1 = nI nd from hg _ _ _ (by omega), ok12 (by omega), am_g_tt, am_let_ap, nI_tn (by omega)]
  rw [show am_w (am_w I (g + 8 + 3) nd w) (g + 8 + 4) nd v (g + 8) 1 = nI nd by rw [am_w_nq _ _ (by omega)]; exact hg _ _ _ (by omega), am_let_ap, nI_1]
theorem fw_settleN {I : aI} {g : Nat} (h : I (g + 13) 7 = -6) : f_X1_settle g I = some (-6, I) := by
  rw [f_X1_settle, am_let_ap, h, if_pos rfl]
theorem fw_settle {I I3 : aI} {g nl nd s : Nat} (hw : I (g + 13) 7 = nI s) (hs : s < 64) (hc : f_X1_collect g (nI s) (I (g + 13) 2) I = some I3) (hn : I3 (g + 8) 0 = nI nl) (hd : I3 (g + 8) 1 = nI nd) (h1 : nd < nl) (h12 : nl ≤ 12) : f_X1_settle g I = some (nI s, closeC I3 g nd (nI s) (I3 (g + 13) 2)) := by
  rw [f_X1_settle, am_let_ap, hw, if_neg (by rw [nI_n6 s (by omega)]; exact fun h => h), hc, am_b1_some, fw_closeC hn hd h1 h12, am_b1_some, fw_clear, am_b1_some]
  rfl
theorem fw_finish {m : Nat} {Ir : aI} {nl nd s : Nat} {v : Int32} (hn : Ir (m + 1) 1 = nI nl) (hd : Ir (m + 1) 2 = nI nd) (h1 : nd < nl) (h12 : nl ≤ 12) (hs : s < 64) : f_X7_finish m (nI s) v Ir = some (nI s, rw1 Ir m (finR (Ir (m + 1)) nd (nI s) v)) := by
  have e2 : ∀ (x : Int32) (J : aI), f_X7_layLot m (nI nd) 2 x J = some (am_w J (m + 1) (58 + 5 * nd + 2) x) := fun x J => fw_layLot (c := 2) x (by omega) (by omega)
  have e3 : ∀ (x : Int32) (J : aI), f_X7_layLot m (nI nd) 3 x J = some (am_w J (m + 1) (58 + 5 * nd + 3) x) := fun x J => fw_layLot (c := 3) x (by omega) (by omega)
  have e4 : ∀ (x : Int32) (J : aI), f_X7_layLot m (nI nd) 4 x J = some (am_w J (m + 1) (58 + 5 * nd + 4) x) := fun x J => fw_layLot (c := 4) x (by omega) (by omega)
  have c2 : ∀ b : Nat → Int32, clearR b 2 = b 2 := fun b => clearR_o b (by unfold aix; omega)
  rw [f_X7_finish, fw_nextR hn hd h12 (by omega), if_pos h1, am_b1_some, e2, am_b1_some]
  by_cases z : nI s = 0
  · rw [if_pos z, f_X7_finish_b25, e3, am_b1_some, if_pos z, f_X7_finish_b40, e4, am_b1_some, fw_clearA, am_b1_some, am_let_ap]
    congr 2
    simp only [am_w_rw1, rw1_rw1, rw1_row]
    unfold finR
    rw [if_pos z, if_pos z, c2, upd_nq _ (by omega), upd_nq _ (by omega), upd_nq _ (by omega), hd, nI_1]
  · rw [if_neg z, f_X7_finish_b25, e3, am_b1_some, if_neg z, f_X7_finish_b40, e4, am_b1_some, fw_clearA, am_b1_some, am_let_ap]
    congr 2
    simp only [am_w_rw1, rw1_rw1, rw1_row]
    unfold finR
    rw [if_neg z, if_neg z, c2, upd_nq _ (by omega), upd_nq _ (by omega), upd_nq _ (by omega), hd, nI_1]
