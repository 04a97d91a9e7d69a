/-! PURE: the reference's slots -/
theorem ok236 {p : Nat} (h : p < 236) : am_ok (nI p) 236 = true := am_ok_nI h (by omega)
theorem saveR_h {m k : Nat} (hk : k < 2) : ∀ (n j : Nat) (I : aI), j ≤ 118 → 118 < n + j → f_X7_save_h14 m n (nI k) (nI j) I = f_X7_save_b43 m (nI k) (fun q i => if q = m + 3 ∧ 118 * k + j ≤ i ∧ i < 118 * k + 118 then I (m + 1) (i - 118 * k) else I q i) := by
  intro n
  induction n with
  | zero => intro j I h1 h2; omega
  | succ n ih =>
    intro j I h1 h2
    rw [f_X7_save_h14, show (118 : Int32) = nI 118 from rfl]
    by_cases c : 118 ≤ j
    · rw [if_pos (nI_le c (by omega))]
      congr 1; funext q i
      rw [if_neg (by omega)]
    · have e : nI 118 * nI k + nI j = nI (118 * k + j) := by rw [nI_mul, nI_add]
      rw [if_neg (nI_ge (by omega) (by omega)), e, ok118 (by omega), am_g_tt, ok236 (by omega), am_g_tt, am_let_ap, nI_tn (by omega), nI_tn (by omega), nI_1, ih _ _ (by omega) (by omega)]
      congr 1; funext q i
      rw [am_w_nq _ _ (by omega)]
      by_cases c2 : q = m + 3 ∧ 118 * k + (j + 1) ≤ i ∧ i < 118 * k + 118
      · rw [if_pos c2, if_pos (show q = m + 3 ∧ 118 * k + j ≤ i ∧ i < 118 * k + 118 by omega)]
      · rw [if_neg c2]
        by_cases c3 : q = m + 3 ∧ i = 118 * k + j
        · rw [am_w_eq _ _ c3, if_pos (show q = m + 3 ∧ 118 * k + j ≤ i ∧ i < 118 * k + 118 by omega), c3.2, show 118 * k + j - 118 * k = j by omega]
        · rw [am_w_nq _ _ c3, if_neg (by omega)]
theorem fw_saveR {I : aI} {m k : Nat} (hk : k < 2) : ∃ I1, f_X7_save m (nI k) I = some (I (m + 1) 2, I1) ∧ (∀ i, i < 118 → I1 (m + 3) (118 * k + i) = I (m + 1) i) ∧ I1 (m + 4) k = 1 ∧ (∀ i, ¬ (118 * k ≤ i ∧ i < 118 * k + 118) → I1 (m + 3) i = I (m + 3) i) ∧ (∀ i, i ≠ k → I1 (m + 4) i = I (m + 4) i) ∧ ∀ q, q ≠ m + 3 → q ≠ m + 4 → I1 q = I q := by
  have hF := am_F_big
  have h := saveR_h (m := m) hk am_F 0 I (by omega) (by omega)
  have hn : vp_nar .boolean (1 : Int32) = 1 := by decide
  rw [f_X7_save, fw_in, am_b1_some, if_neg (show ¬ (nI k < 0 ∨ 1 < nI k) by rw [nI_neg _ (by omega), false_or, show (1 : Int32) = nI 1 from rfl, nI_ltq (by omega) (by omega)]; omega), if_neg one0, show f_X7_save_h14 m am_F (nI k) 0 I = _ from h, f_X7_save_b43, am_g_of _ (am_ok_nI hk (by omega)), am_let_ap, nI_tn (by omega), hn, am_w_nq _ _ (by omega), if_neg (by omega)]
  refine ⟨_, rfl, fun i hi => ?_, am_w_eq _ _ ⟨rfl, rfl⟩, fun i hi => ?_, fun i hi => ?_, fun q h1 h2 => ?_⟩
  · rw [am_w_nq _ _ (by omega), if_pos (show m + 3 = m + 3 ∧ 118 * k + 0 ≤ 118 * k + i ∧ 118 * k + i < 118 * k + 118 by omega), show 118 * k + i - 118 * k = i by omega]
  · rw [am_w_nq _ _ (by omega), if_neg (by omega)]
  · rw [am_w_nq _ _ (by omega), if_neg (by omega)]
  · funext i
    rw [am_w_nq _ _ (by omega), if_neg (by omega)]
theorem fw_saveO {I : aI} {m : Nat} {a : Int32} (h : a < 0 ∨ nI 2 ≤ a) : f_X7_save m a I = some (-2, I) := by
  rw [f_X7_save, fw_in, am_b1_some, if_pos (h.imp id (fun q => Int32.lt_iff_toInt_lt.mpr (by
    have := Int32.le_iff_toInt_le.mp q
    rw [show (nI 2).toInt = 2 from rfl] at this
    rw [show (1 : Int32).toInt = 1 from rfl]
    omega))), if_pos rfl]
theorem restR_h {m k : Nat} (hk : k < 2) : ∀ (n j : Nat) (I : aI), j ≤ 118 → 118 < n + j → f_X7_restore_h26 m n (nI k) (nI j) I = some ((if j ≤ 2 then I (m + 3) (118 * k + 2) else I (m + 1) 2), fun q i => if q = m + 1 ∧ j ≤ i ∧ i < 118 then I (m + 3) (118 * k + i) else I q i) := by
  intro n
  induction n with
  | zero => intro j I h1 h2; omega
  | succ n ih =>
    intro j I h1 h2
    rw [f_X7_restore_h26, show (118 : Int32) = nI 118 from rfl]
    by_cases c : 118 ≤ j
    · rw [if_pos (nI_le c (by omega)), if_neg (by omega)]
      congr 2; funext q i
      rw [if_neg (by omega)]
    · have e : nI 118 * nI k + nI j = nI (118 * k + j) := by rw [nI_mul, nI_add]
      rw [if_neg (nI_ge (by omega) (by omega)), e, ok236 (by omega), am_g_tt, ok118 (by omega), am_g_tt, am_let_ap, nI_tn (by omega), nI_tn (by omega), nI_1, ih _ _ (by omega) (by omega)]
      congr 2
      · by_cases c2 : j + 1 ≤ 2
        · rw [if_pos c2, if_pos (by omega), am_w_nq _ _ (by omega)]
        · rw [if_neg c2]
          by_cases c3 : j = 2
          · subst c3
            rw [am_w_eq _ _ ⟨rfl, rfl⟩, if_pos (by omega)]
          · rw [am_w_nq _ _ (by omega), if_neg (by omega)]
      · funext q i
        rw [am_w_nq _ _ (by omega)]
        by_cases c2 : q = m + 1 ∧ j + 1 ≤ i ∧ i < 118
        · rw [if_pos c2, if_pos (show q = m + 1 ∧ j ≤ i ∧ i < 118 by omega)]
        · rw [if_neg c2]
          by_cases c3 : q = m + 1 ∧ i = j
          · rw [am_w_eq _ _ c3, if_pos (show q = m + 1 ∧ j ≤ i ∧ i < 118 by omega), c3.2]
          · rw [am_w_nq _ _ c3, if_neg (by omega)]
theorem fw_restR {I : aI} {m k : Nat} (hk : k < 2) : f_X7_restore m (nI k) I = if I (m + 4) k = 0 then some (-5, I) else some (I (m + 3) (118 * k + 2), fun q i => if q = m + 1 ∧ i < 118 then I (m + 3) (118 * k + i) else I q i) := by
  have hF := am_F_big
  have h := restR_h (m := m) hk am_F 0 I (by omega) (by omega)
  rw [f_X7_restore, fw_in, am_b1_some, if_neg (show ¬ (nI k < 0 ∨ 1 < nI k) by rw [nI_neg _ (by omega), false_or, show (1 : Int32) = nI 1 from rfl, nI_ltq (by omega) (by omega)]; omega), if_neg one0, am_g_of _ (am_ok_nI hk (by omega)), nI_tn (by omega)]
  by_cases c : I (m + 4) k = 0
  · rw [if_pos c, if_pos c]
  · rw [if_neg c, if_neg c, show f_X7_restore_h26 m am_F (nI k) 0 I = _ from h, if_pos (by omega)]
    congr 2; funext q i
    simp
theorem fw_restO {I : aI} {m : Nat} {a : Int32} (h : a < 0 ∨ nI 2 ≤ a) : f_X7_restore m a I = some (-2, I) := by
  rw [f_X7_restore, fw_in, am_b1_some, if_pos (h.imp id (fun q => Int32.lt_iff_toInt_lt.mpr (by
    have := Int32.le_iff_toInt_le.mp q
    rw [show (nI 2).toInt = 2 from rfl] at this
    rw [show (1 : Int32).toInt = 1 from rfl]
    omega))), if_pos rfl]
/-- a slot shows the same saved game on both sides: the class's at place g, the reference's in its row of slots -/
def SL (I Ir : aI) (m k : Nat) (o : Option Nat) : Prop := match o with
  | none => Ir (m + 4) k = 0
  | some g => Ir (m + 4) k = 1 ∧ ∃ np nl nd, IV I g np nl nd ∧ RW I g (fun i => Ir (m + 3) (118 * k + i)) nl nd
/-- the game of a class is laid into a slot -/
theorem SL.save {I Ir I1 Ir1 : aI} {g t m k np nl nd : Nat} (hv : IV I g np nl nd) (hw : RW I g (Ir (m + 1)) nl nd) (hs : sameG I g I1 t) (h1 : ∀ i, i < 118 → Ir1 (m + 3) (118 * k + i) = Ir (m + 1) i) (h2 : Ir1 (m + 4) k = 1) : SL I1 Ir1 m k (some t) :=
  ⟨h2, np, nl, nd, iv_same hs hv, rw_same hs h1 hv.1.2.2.2.1 hw⟩
/-- and taken back -/
theorem SL.rest {I Ir I1 Ir1 : aI} {g t m k : Nat} (h : SL I Ir m k (some t)) (hs : sameG I t I1 g) (h1 : ∀ i, i < 118 → Ir1 (m + 1) i = Ir (m + 3) (118 * k + i)) : ∃ np nl nd, IV I1 g np nl nd ∧ RW I1 g (Ir1 (m + 1)) nl nd ∧ Ir (m + 3) (118 * k + 2) = nI nd := by
  obtain ⟨-, np, nl, nd, hv, hw⟩ := h
  exact ⟨np, nl, nd, iv_same hs hv, rw_same hs h1 hv.1.2.2.2.1 hw, hw.1.2.2.trans hv.1.2.2.2.2.2.2⟩
