/-! PURE: limits, scores, places of the two sides -/
def limV (I : aI) (g p nl nd : Nat) : Int32 := if nd < nl then am_min (I (g + 3) p) ((gainV I (g + 8) p nd (I (g + 1) 3) (I (g + 1) 4) (Int32.toNatClampNeg (I (g + 9) nd)) * I (g + 4) p) / 10) else -6
theorem fw_next {o : Nat} {I : aI} {nl nd : Nat} (hn : I o 0 = nI nl) (hd : I o 1 = nI nd) (h12 : nl ≤ 12) (h1 : nd ≤ nl) : f_X2_next o I = some (if nd < nl then nI nd else -6) := by
  rw [f_X2_next, hn, hd]
  by_cases h : nd < nl
  · rw [if_neg (nI_ge h (by omega)), if_pos h]
  · rw [if_pos (nI_le (by omega) (by omega)), if_neg h]
theorem fw_limC {I : aI} {g np nl nd p : Nat} (hh : IVh I g np nl nd) (hl : IVl I g nl nd) (hp : p < np) : f_X1_limitOf g (nI p) I = some (limV I g p nl nd) := by
  obtain ⟨h2, h6, h1, h12, hnp, hnl, hnd⟩ := hh
  rw [f_X1_limitOf, fw_next hnl hnd h12 h1, am_b1_some]
  by_cases h : nd < nl
  · obtain ⟨⟨c, hc, hcI⟩, -⟩ := hl nd h
    rw [if_pos h, if_neg (by rw [nI_n6 nd (by omega)]; exact fun h => h), show f_X1_settingOf g 3 I = _ from fw_settingOf (k := 3) (by omega), am_b1_some, show f_X1_settingOf g 4 I = _ from fw_settingOf (k := 4) (by omega), am_b1_some, fw_gainFor _ _ hnl hnd h h12 (fun k hk => (hl k hk).1) hcI hc, am_b1_some, fw_amountOf hnp h6 hp, am_b1_some, fw_boldnessOf hnp h6 hp, am_b1_some, am_g_of _ (by decide), limV, if_pos h, hcI, nI_tn (by omega)]
  · rw [if_neg h, if_pos rfl, limV, if_neg h]
theorem fw_nextR {m : Nat} {I : aI} {nl nd : Nat} (hn : I (m + 1) 1 = nI nl) (hd : I (m + 1) 2 = nI nd) (h12 : nl ≤ 12) (h1 : nd ≤ nl) : f_X7_nextLot m I = some (if nd < nl then nI nd else -6) := by
  rw [f_X7_nextLot, hn, hd]
  by_cases h : nd < nl
  · rw [if_neg (nI_ge h (by omega)), if_pos h]
  · rw [if_pos (nI_le (by omega) (by omega)), if_neg h]
theorem colR {I : aI} {g nl nd : Nat} {a : Nat → Int32} (hl : IVl I g nl nd) (hr : RLl I g a nl nd) : ∀ k, k < nl → ∃ c, c < 6 ∧ a (58 + 5 * k + 0) = nI c := fun k hk => by
  rw [(hr k hk).1]; exact (hl k hk).1
theorem ownR {I : aI} {g nl nd : Nat} {a : Nat → Int32} (hl : IVl I g nl nd) (hr : RLl I g a nl nd) : ∀ k, k < nl → ∃ s, s < 64 ∧ a (58 + 5 * k + 2) = nI s := fun k hk => by
  rw [(hr k hk).2.2.1]; exact (hl k hk).2.2.1
theorem ex_none : ∀ j, j < 12 → (nI j = (-6 : Int32) ↔ j = 100) := fun j hj => ⟨fun h => by rw [nI_n6 j (by omega)] at h; exact h.elim, fun h => by omega⟩
theorem ex_some {nd : Nat} (h : nd < 12) : ∀ j, j < 12 → (nI j = nI nd ↔ j = nd) := fun j hj => by rw [nI_inj (by omega) (by omega)]
/-- the model's row shows the game -/
theorem fw_limR {I Ir : aI} {g m np nl nd p : Nat} (hh : IVh I g np nl nd) (hs : IVs I g) (hl : IVl I g nl nd) (hrh : RLh I g (Ir (m + 1))) (hrs : RLs I g (Ir (m + 1))) (hrp : RLp I g (Ir (m + 1))) (hr : RLl I g (Ir (m + 1)) nl nd) (hp : p < np) : ∃ c', f_X7_limitOf m (nI p) Ir = some (limV I g p nl nd, rwS Ir m c') := by
  obtain ⟨h2, h6, h1, h12, hnp, hnl, hnd⟩ := hh
  have hp6 : p < 6 := by omega
  have a1 : Ir (m + 1) 1 = nI nl := hrh.2.1.trans hnl
  have a2 : Ir (m + 1) 2 = nI nd := hrh.2.2.trans hnd
  rw [f_X7_limitOf, fw_nextR a1 a2 h12 h1, am_b1_some]
  by_cases h : nd < nl
  · obtain ⟨⟨c, hc, hcI⟩, -⟩ := hl nd h
    obtain ⟨c1, e1⟩ := fw_valueWith (I := Ir) (m := m) (p := p) (e := nd) (ex := nI nd) a1 h12 hp6 (ex_some (by omega)) (colR hl hr) (ownR hl hr)
    obtain ⟨c2, e2⟩ := fw_valueWith (I := rwS Ir m c1) (m := m) (p := p) (e := 100) (ex := -6) (by rw [rwS_row]; exact a1) h12 hp6 ex_none (by rw [rwS_row]; exact colR hl hr) (by rw [rwS_row]; exact ownR hl hr)
    refine ⟨c2, ?_⟩
    rw [rwS_row, rwS_rwS] at e2
    have hg := gain_eq (np := np) hp6 h h12 hs hl hrs hr hc hcI
    rw [if_pos h, if_pos (nI_pos' (by omega)), e1, am_b2_some, e2, am_b2_some]
    have q1 : f_X7_of m (nI p) 1 (rwS Ir m c2) = some (I (g + 4) p) := by
      rw [show f_X7_of m (nI p) 1 (rwS Ir m c2) = _ from fw_of (c := 1) hp6 (by omega), rwS_row, (hrp p hp6).2.1]
    have q0 : f_X7_of m (nI p) 0 (rwS Ir m c2) = some (I (g + 3) p) := by
      rw [show f_X7_of m (nI p) 0 (rwS Ir m c2) = _ from fw_of (c := 0) hp6 (by omega), rwS_row, (hrp p hp6).1]
    rw [q1, am_b1_some, am_g_of _ (by decide), am_let_ap, q0, am_b1_some, hg, limV, if_pos h, hcI, nI_tn (by omega), am_min, am_b1_some]
    by_cases h9 : I (g + 3) p ≤ gainV I (g + 8) p nd (I (g + 1) 3) (I (g + 1) 4) c * I (g + 4) p / 10
    · rw [if_pos h9, if_neg (Int32.not_lt.mpr h9)]
    · rw [if_neg h9, if_pos (Int32.not_le.mp h9)]
  · refine ⟨Ir (m + 6), ?_⟩
    rw [if_neg h, if_neg (by decide), limV, if_neg h]
    congr 2
    funext q
    simp only [rwS]
    split
    · rename_i e; rw [e]
    · rfl
def valV (I : aI) (g p nd : Nat) : Int32 := vEnd (I (g + 1) 3) (I (g + 1) 4) (fun c => cntC I (g + 8) p c nd) (smI (shV I (g + 8) p) nd)
theorem fw_valC {I : aI} {g np nl nd p : Nat} (hh : IVh I g np nl nd) (hl : IVl I g nl nd) : f_X1_valueOf g (nI p) I = some (valV I g p nd) := by
  obtain ⟨h2, h6, h1, h12, hnp, hnl, hnd⟩ := hh
  rw [f_X1_valueOf, show f_X1_settingOf g 3 I = _ from fw_settingOf (k := 3) (by omega), am_b1_some, show f_X1_settingOf g 4 I = _ from fw_settingOf (k := 4) (by omega), am_b1_some, fw_valueFor _ _ hnl hnd h1 h12 (fun k hk => (hl k hk).2.2.1), am_b1_some]
  rfl
theorem fw_valR {I Ir : aI} {g m np nl nd p : Nat} (hh : IVh I g np nl nd) (hl : IVl I g nl nd) (hrh : RLh I g (Ir (m + 1))) (hrs : RLs I g (Ir (m + 1))) (hr : RLl I g (Ir (m + 1)) nl nd) (hp : p < np) : ∃ c', f_X7_valueWith m (nI p) (-6) Ir = some (valV I g p nd, rwS Ir m c') := by
  obtain ⟨h2, h6, h1, h12, hnp, hnl, hnd⟩ := hh
  have hp6 : p < 6 := by omega
  have a1 : Ir (m + 1) 1 = nI nl := hrh.2.1.trans hnl
  obtain ⟨c1, e1⟩ := fw_valueWith (I := Ir) (m := m) (p := p) (e := 100) (ex := -6) a1 h12 hp6 ex_none (colR hl hr) (ownR hl hr)
  refine ⟨c1, ?_⟩
  rw [e1]
  congr 2
  rw [show Ir (m + 1) 13 = I (g + 1) 3 from hrs 3 (by omega), show Ir (m + 1) 14 = I (g + 1) 4 from hrs 4 (by omega), vEnd_congr (fun c hc => cnt_none hp6 h1 (by omega) hl hr), sum_none hp6 h1 (by omega) hl hr]
  rfl
def scoV (I : aI) (g p nd : Nat) : Int32 := valV I g p nd + I (g + 3) p / I (g + 1) 5
theorem fw_scoC {I : aI} {g np nl nd p : Nat} (hh : IVh I g np nl nd) (hs : IVs I g) (hl : IVl I g nl nd) (hp : p < np) : f_X1_scoreOf g (nI p) I = some (scoV I g p nd) := by
  have hh' := hh
  obtain ⟨h2, h6, h1, h12, hnp, hnl, hnd⟩ := hh'
  obtain ⟨s, hs20, hsI⟩ := nI_ofI (x := I (g + 1) 5) (b := 20) ⟨by have := hs.2.2.2.2.2.1; omega, hs.2.2.2.2.2.2⟩ (by omega)
  have hs1 : 1 ≤ s := by
    have := hs.2.2.2.2.2.1
    rw [hsI, nI_toInt (by omega)] at this
    omega
  rw [f_X1_scoreOf, show f_X1_settingOf g 5 I = _ from fw_settingOf (k := 5) (by omega), am_b1_some, fw_valC hh hl, am_b1_some, hsI, if_neg (nI_nle (by omega) (by omega)), fw_amountOf hnp h6 hp, am_b1_some, am_g_of _ (decide_eq_true (nI_ne0 (by omega) (by omega))), scoV, hsI]
theorem fw_scoR {I Ir : aI} {g m np nl nd p : Nat} (hh : IVh I g np nl nd) (hs : IVs I g) (hl : IVl I g nl nd) (hrh : RLh I g (Ir (m + 1))) (hrs : RLs I g (Ir (m + 1))) (hrp : RLp I g (Ir (m + 1))) (hr : RLl I g (Ir (m + 1)) nl nd) (hp : p < np) : ∃ c', f_X7_scoreOf m (nI p) Ir = some (scoV I g p nd, rwS Ir m c') := by
  have hp6 : p < 6 := by have := hh.2.1; omega
  obtain ⟨c1, e1⟩ := fw_valR hh hl hrh hrs hr hp
  refine ⟨c1, ?_⟩
  have hs1 := hs.2.2.2.2.2.1
  have q0 : f_X7_of m (nI p) 0 (rwS Ir m c1) = some (I (g + 3) p) := by
    rw [show f_X7_of m (nI p) 0 (rwS Ir m c1) = _ from fw_of (c := 0) hp6 (by omega), rwS_row, (hrp p hp6).1]
  have q5 : f_X7_setting m 5 (rwS Ir m c1) = some (I (g + 1) 5) := by
    rw [show f_X7_setting m 5 (rwS Ir m c1) = _ from fw_setting (k := 5) (by omega), rwS_row, hrs 5 (by omega)]
  have h5 : ¬ I (g + 1) 5 = 0 := fun h => by
    rw [h] at hs1
    have e : (0 : Int32).toInt = 0 := rfl
    omega
  rw [f_X7_scoreOf, e1, am_b2_some, q0, am_b1_some, q5, am_b1_some, am_g_of _ (decide_eq_true h5), scoV]
