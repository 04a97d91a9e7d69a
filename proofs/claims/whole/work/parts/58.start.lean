/-! PURE: a new game on both sides, and the start of the law -/
theorem anew_pair {I : aI} {x n : Nat} (hs : IVs I (x + 1)) (h2 : 2 ≤ n) (h6 : n ≤ 6) :
    ∃ I1, f_X1_startAnew (x + 1) (nI n) I = some I1 ∧ IV I1 (x + 1) n 0 0 ∧ (∀ q, q < x + 3 ∨ x + 16 ≤ q → I1 q = I q) ∧ ∀ (m : Nat) (Ir : aI), RLs I (x + 1) (Ir (m + 1)) → ∃ Ir1, f_X7_beginGame m (nI n) Ir = some Ir1 ∧ RW I1 (x + 1) (Ir1 (m + 1)) 0 0 ∧ ∀ q, q ≠ m + 1 → Ir1 q = Ir q := by
  have hF := am_F_big
  have hmin : am_min (nI n) 6 = nI n := by
    unfold am_min
    rw [if_neg (show ¬ (6 : Int32) < nI n from by rw [show (6 : Int32) = nI 6 from rfl, nI_ltq (by omega) (by omega)]; omega)]
  have hs0 : f_X1_settingOf (x + 1) 0 I = some (I (x + 1 + 1) 0) := fw_settingOf (k := 0) (by omega)
  obtain ⟨I1, hI1⟩ : ∃ I1, I1 = clearC (am_w (am_w (anC (am_w I (x + 1 + 2) 0 (nI n)) (x + 1 + 2) (I (x + 1 + 1) 0) 0) (x + 1 + 8) 0 0) (x + 1 + 8) 1 0) (x + 1 + 13) := ⟨_, rfl⟩
  have hC : f_X1_startAnew (x + 1) (nI n) I = some I1 := by
    rw [f_X1_startAnew, hs0, am_b1_some, f_X4_startAnew, hmin, am_let_ap, show (0 : Int32) = nI 0 from rfl, anew_h _ _ _ (by omega) (by omega), am_b1_some, f_X2_clear, am_let_ap, am_let_ap, am_b1_some, fw_clear, am_b1_some, hI1]
  have hd : ∀ q k, q ≠ x + 1 + 13 → q ≠ x + 1 + 14 → q ≠ x + 1 + 8 → ¬ (x + 1 + 3 ≤ q ∧ q ≤ x + 1 + 7 ∧ k < 6) → ¬ (q = x + 1 + 2 ∧ k = 0) → I1 q k = I q k := fun q k h1 h2 h3 h4 h5 => by
    rw [hI1, clearC_o _ _ h1 (by omega), am_w_nq _ _ (by omega), am_w_nq _ _ (by omega)]
    unfold anC
    rw [if_neg (by omega), am_w_nq _ _ (by omega)]
  have hp : ∀ j k, 3 ≤ j → j ≤ 7 → k < 6 → I1 (x + 1 + j) k = (if j = 3 then I (x + 1 + 1) 0 else if j = 4 then 10 else if j = 7 then 300 else 0) := fun j k h1 h2 h3 => by
    rw [hI1, clearC_o _ _ (by omega) (by omega), am_w_nq _ _ (by omega), am_w_nq _ _ (by omega)]
    unfold anC
    rw [if_pos (by omega)]
    have hj : j = 3 ∨ j = 4 ∨ j = 5 ∨ j = 6 ∨ j = 7 := by omega
    rcases hj with rfl | rfl | rfl | rfl | rfl
    · rw [if_pos (by omega), if_pos rfl]
    · rw [if_neg (by omega), if_pos (by omega), if_neg (by omega), if_pos rfl]
    · rw [if_neg (by omega), if_neg (by omega), if_neg (by omega), if_neg (by omega), if_neg (by omega), if_neg (by omega)]
    · rw [if_neg (by omega), if_neg (by omega), if_neg (by omega), if_neg (by omega), if_neg (by omega), if_neg (by omega)]
    · rw [if_neg (by omega), if_neg (by omega), if_pos (by omega), if_neg (by omega), if_neg (by omega), if_pos rfl]
  have g2 : I1 (x + 1 + 2) 0 = nI n := by
    rw [hI1, clearC_o _ _ (by omega) (by omega), am_w_nq _ _ (by omega), am_w_nq _ _ (by omega)]
    unfold anC
    rw [if_neg (by omega), am_w_eq _ _ ⟨rfl, rfl⟩]
  have g80 : I1 (x + 1 + 8) 0 = 0 := by rw [hI1, clearC_o _ _ (by omega) (by omega), am_w_nq _ _ (by omega), am_w_eq _ _ ⟨rfl, rfl⟩]
  have g81 : I1 (x + 1 + 8) 1 = 0 := by rw [hI1, clearC_o _ _ (by omega) (by omega), am_w_eq _ _ ⟨rfl, rfl⟩]
  have hA : AUn I1 (x + 1) := by rw [hI1]; exact clear_n _ _
  refine ⟨I1, hC, ⟨?_, ?_, ?_, ?_, Or.inl hA⟩, fun q hq => funext fun k => hd _ _ (by omega) (by omega) (by omega) (by omega) (by omega), fun m Ir j2 => ?_⟩
  · exact ⟨by omega, by omega, by omega, by omega, g2, g80, g81⟩
  · unfold IVs at *
    have : I1 (x + 1 + 1) = I (x + 1 + 1) := funext fun k => hd _ _ (by omega) (by omega) (by omega) (by omega) (by omega)
    rw [this]; exact hs
  · intro p hp1
    rw [hp 6 p (by omega) (by omega) (by omega), hp 3 p (by omega) (by omega) (by omega), hp 7 p (by omega) (by omega) (by omega), hp 4 p (by omega) (by omega) (by omega)]
    have := hs.1.1
    have := hs.1.2
    simp only [if_true, show ¬ (6 : Nat) = 3 by omega, show ¬ (6 : Nat) = 4 by omega, show ¬ (6 : Nat) = 7 by omega, show ¬ (7 : Nat) = 3 by omega, show ¬ (7 : Nat) = 4 by omega, show ¬ (4 : Nat) = 3 by omega, if_false]
    rw [zI, show (300 : Int32).toInt = 300 from rfl]
    exact ⟨by omega, by omega, by omega, by omega, show (0 : Int) ≤ 10 ∧ (10 : Int) ≤ 30 by omega⟩
  · intro k hk; omega
  · obtain ⟨a5, ha5⟩ : ∃ a5, a5 = clearR (anR (upd (upd (upd (Ir (m + 1)) 0 (nI n)) 1 0) 2 0) (I (x + 1 + 1) 0) 0) := ⟨_, rfl⟩
    have hR : f_X7_beginGame m (nI n) Ir = some (rw1 Ir m a5) := by
      rw [f_X7_beginGame, am_let_ap, am_let_ap, am_let_ap]
      simp only [am_w_rw1, rw1_rw1, rw1_row]
      have := anewR_h (m := m) am_F 0 (rw1 Ir m (upd (upd (upd (Ir (m + 1)) 0 (nI n)) 1 0) 2 0)) (by omega) (by omega)
      rw [rw1_row, rw1_rw1] at this
      simp (disch := omega) only [upd_nq] at this
      rw [show Ir (m + 1) 10 = I (x + 1 + 1) 0 from j2 0 (by omega), ← ha5] at this
      exact this
    have hro : ∀ i, ¬ aix i → 3 ≤ i → ¬ (16 ≤ i ∧ i < 58) → a5 i = Ir (m + 1) i := fun i h1 h2 h3 => by
      rw [ha5, clearR_o _ h1]
      unfold anR
      rw [if_neg (by omega), upd_nq _ (by omega), upd_nq _ (by omega), upd_nq _ (by omega)]
    have hrp : ∀ p c, p < 6 → c < 5 → a5 (16 + 7 * p + c) = (if c = 0 then I (x + 1 + 1) 0 else if c = 1 then 10 else if c = 4 then 300 else 0) := fun p c h1 h2 => by
      have e : (16 + 7 * p + c - 16) % 7 = c := by omega
      rw [ha5, clearR_o _ (by unfold aix; omega)]
      unfold anR
      rw [e, if_pos (by omega)]
    have r0 : a5 0 = nI n := by
      rw [ha5, clearR_o _ (by unfold aix; omega)]
      unfold anR
      rw [if_neg (by omega), upd_nq _ (by omega), upd_nq _ (by omega), upd_eq _ rfl]
    have r1 : a5 1 = 0 := by
      rw [ha5, clearR_o _ (by unfold aix; omega)]
      unfold anR
      rw [if_neg (by omega), upd_nq _ (by omega), upd_eq _ rfl]
    have r2 : a5 2 = 0 := by
      rw [ha5, clearR_o _ (by unfold aix; omega)]
      unfold anR
      rw [if_neg (by omega), upd_eq _ rfl]
    refine ⟨rw1 Ir m a5, hR, ⟨?_, ?_, ?_, ?_, ?_, ?_⟩, fun q n1 => rw1_ne _ _ _ n1⟩
    · refine ⟨?_, ?_, ?_⟩
      · rw [rw1_row, r0, g2]
      · rw [rw1_row, r1, g80]
      · rw [rw1_row, r2, g81]
    · intro k hk
      rw [rw1_row, hro _ (by unfold aix; omega) (by omega) (by omega), hd _ _ (by omega) (by omega) (by omega) (by omega) (by omega)]
      exact j2 k hk
    · intro p hp1
      rw [rw1_row, hrp p 0 hp1 (by omega), hrp p 1 hp1 (by omega), hrp p 2 hp1 (by omega), hrp p 3 hp1 (by omega), hrp p 4 hp1 (by omega), hp 6 p (by omega) (by omega) (by omega), hp 5 p (by omega) (by omega) (by omega), hp 3 p (by omega) (by omega) (by omega), hp 7 p (by omega) (by omega) (by omega), hp 4 p (by omega) (by omega) (by omega)]
      exact ⟨rfl, rfl, rfl, rfl, rfl⟩
    · intro p hp1
      rw [rw1_row, hI1, ha5]
      exact clear_b _ _ _ p hp1
    · intro k hk; omega
    · rw [rw1_row, hI1, ha5]
      exact clear_a _ _ _
theorem zI_eq {I : aI} {N k : Nat} : am_zI I N N k = 0 := by
  unfold am_zI
  rw [if_pos rfl]
theorem nI0_old {I : aI} {N q : Nat} (h : q < N) : nI0 I N q = I q := funext fun i => by unfold nI0; rw [gI_old h, zI_nq (by omega)]
theorem xi_E_set {I : aI} {k : Nat} : xi_E I 2 k = am_first k := by
  unfold xi_E xi_B
  rw [zI_nq (by omega), zI_nq (by omega), zI_nq (by omega), nI0_old (by omega)]
  unfold nI0
  exact gI_set
theorem xi_E_pad {I : aI} {k : Nat} : xi_E I 35 k = 0 := by
  unfold xi_E
  rw [zI_nq (by omega), zI_eq]
/-- the start of the law: the two sides agree -/
theorem start_rel (I : aI) : ∃ I1, f_X1_startAnew 1 3 (xi_E I) = some I1 ∧ ∀ P : aP, (∀ k, k < 2 → P 31 k = none) → ∀ sh : aS, ∃ I2, f_X7_beginGame 37 3 (xi_M (am_zI I1 37)) = some I2 ∧ MI sh P I2 := by
  have e2 : xi_E I (0 + 1 + 1) = am_first := funext fun k => xi_E_set
  have hs : IVs (xi_E I) (0 + 1) := by
    unfold IVs
    rw [e2]
    exact ⟨by unfold bd; decide, by unfold bd; decide, by unfold bd; decide, by unfold bd; decide, by unfold bd; decide, by unfold bd; decide⟩
  obtain ⟨I1, h1, v1, f1, hrest⟩ := anew_pair (x := 0) (n := 3) hs (by omega) (by omega)
  refine ⟨I1, h1, fun P hP sh => ?_⟩
  obtain ⟨Ir, hIr⟩ : ∃ Ir, Ir = xi_M (am_zI I1 37) := ⟨_, rfl⟩
  have fo : ∀ q, q < 37 → Ir q = I1 q := fun q hq => funext fun k => by
    rw [hIr]
    unfold xi_M xi_0M
    simp (disch := omega) only [am_w_nq, zI_nq]
  have g37 : ∀ k, Ir 37 k = 0 := fun k => by
    rw [hIr]
    unfold xi_M xi_0M
    simp (disch := omega) only [am_w_nq, zI_nq]
    exact zI_eq
  have g41 : ∀ k, Ir 41 k = 0 := fun k => by
    rw [hIr]
    unfold xi_M xi_0M
    simp (disch := omega) only [am_w_nq, zI_nq]
    exact zI_eq
  have hr : RLs (xi_E I) (0 + 1) (Ir (37 + 1)) := fun k hk => by
    rw [e2]
    match k, hk with
    | 0, _ => rw [hIr]; unfold xi_M; simp (disch := omega) only [am_w_nq, am_w_eq]; rfl
    | 1, _ => rw [hIr]; unfold xi_M; simp (disch := omega) only [am_w_nq, am_w_eq]; rfl
    | 2, _ => rw [hIr]; unfold xi_M; simp (disch := omega) only [am_w_nq, am_w_eq]; rfl
    | 3, _ => rw [hIr]; unfold xi_M; simp (disch := omega) only [am_w_nq, am_w_eq]; rfl
    | 4, _ => rw [hIr]; unfold xi_M; simp (disch := omega) only [am_w_nq, am_w_eq]; rfl
    | 5, _ => rw [hIr]; unfold xi_M; simp (disch := omega) only [am_w_nq, am_w_eq]; rfl
  obtain ⟨I2, h2, w2, f2⟩ := hrest 37 Ir hr
  have hsm : sameG I1 1 I2 1 := sameG.rf (fun q k1 k2 => by rw [f2 q (by omega), fo q (by omega)])
  have hpad : I2 35 = fun _ => 0 := funext fun k => by
    rw [f2 35 (by omega), fo 35 (by omega), f1 35 (by omega)]
    exact xi_E_pad
  refine ⟨I2, by rw [← hIr]; exact h2, 3, 0, 0, 0, fun _ => 0, iv_same hsm v1, rw_same hsm (fun _ _ => rfl) (by omega) w2, ⟨by rw [hpad]; rfl, by omega, fun k hk => by omega⟩, ⟨by rw [f2 37 (by omega), g37]; rfl, by omega, fun k hk => by omega⟩, ?_, ?_, ?_⟩
  · refine ⟨?_, fun z hz => by rw [hP 0 (by omega)] at hz; cases hz⟩
    rw [hP 0 (by omega)]
    show I2 41 0 = 0
    rw [f2 41 (by omega), g41]
  · refine ⟨?_, fun z hz => by rw [hP 1 (by omega)] at hz; cases hz⟩
    rw [hP 1 (by omega)]
    show I2 41 1 = 0
    rw [f2 41 (by omega), g41]
  · intro z w hz
    rw [hP 0 (by omega)] at hz
    cases hz
