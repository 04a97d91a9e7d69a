/-! PURE: an auction begins -/
theorem fw_isMode (a : Int32) : f_X6_isMode a = some (if a < 0 ∨ 2 < a then 0 else 1) := by rw [f_X6_isMode, fw_within, am_b1_some, zk_ite]
theorem fw_isReserve (a : Int32) : f_X6_isReserve a = some (if a < 1 ∨ 300 < a then 0 else 1) := by rw [f_X6_isReserve, fw_within, am_b1_some, zk_ite]
theorem mode_cases {a : Int32} (h : ¬ (a < 0 ∨ 2 < a)) : a = 0 ∨ a = 1 ∨ a = 2 := by
  rcases seat_cases a 3 (by omega) with ⟨p, hp, rfl⟩ | q | q
  · match p, hp with
    | 0, _ => exact Or.inl rfl
    | 1, _ => exact Or.inr (Or.inl rfl)
    | 2, _ => exact Or.inr (Or.inr rfl)
  · exact absurd (Or.inl q) h
  · refine absurd (Or.inr ?_) h
    apply Int32.lt_iff_toInt_lt.mpr
    have := Int32.le_iff_toInt_le.mp q
    rw [show (nI 3).toInt = 3 from rfl] at this
    rw [show (2 : Int32).toInt = 2 from rfl]
    omega
theorem bd_of {a x y : Int32} (h : ¬ (a < x ∨ y < a)) : x.toInt ≤ a.toInt ∧ a.toInt ≤ y.toInt :=
  ⟨Int32.le_iff_toInt_le.mp (Int32.not_lt.mp (fun z => h (Or.inl z))), Int32.le_iff_toInt_le.mp (Int32.not_lt.mp (fun z => h (Or.inr z)))⟩
theorem fw_forSale {I : aI} {g nl nd : Nat} (hn : I (g + 8) 0 = nI nl) (hd : I (g + 8) 1 = nI nd) (h12 : nl ≤ 12) (h1 : nd ≤ nl) : f_X2_nextIsForSale (g + 8) I = some (if nd + 1 < nl then 1 else 0) := by
  rw [f_X2_nextIsForSale, hn, hd]
  by_cases c : nd + 1 < nl
  · rw [if_pos c, show (1 : Int32) = nI 1 from rfl, nI_sub (by omega), if_neg (nI_ge (by omega) (by omega))]
  · rw [if_neg c]
    by_cases z : nl = 0
    · have : nd = 0 := by omega
      subst z; subst this; rw [if_pos (by decide)]
    · rw [show (1 : Int32) = nI 1 from rfl, nI_sub (by omega), if_pos (nI_le (by omega) (by omega))]
theorem fw_lastNextR {Ir : aI} {m nl nd : Nat} (hn : Ir (m + 1) 1 = nI nl) (hd : Ir (m + 1) 2 = nI nd) (h12 : nl ≤ 12) (h1 : nd ≤ nl) : f_X7_isLastNext m Ir = some (if nd + 1 = nl then 1 else 0) := by
  rw [f_X7_isLastNext, hn, hd]
  by_cases c : nd + 1 = nl
  · rw [if_pos c, if_neg (nI_nle (by omega) (by omega)), show (1 : Int32) = nI 1 from rfl, nI_sub (by omega), if_pos (by rw [← c]; rfl)]
  · rw [if_neg c]
    by_cases z : nl = 0
    · subst z; rw [if_pos (by decide)]
    · rw [if_neg (nI_nle (by omega) (by omega)), show (1 : Int32) = nI 1 from rfl, nI_sub (by omega), if_neg (by rw [nI_inj (by omega) (by omega)]; omega)]
theorem start_pair {I Ir : aI} {g m np nl nd : Nat} (hv : IV I g np nl nd) (hw : RW I g (Ir (m + 1)) nl nd) (h1 : nd + 1 < nl) {a v : Int32} (ha : a = 0 ∨ a = 1 ∨ a = 2) (hv1 : bd v 1 300) :
    ∃ I1 Ir1, f_X0_start (g + 13) a v (nI (nd % np)) I = some I1 ∧ f_X7_start m a v Ir = some (nI nd, Ir1) ∧ IV I1 g np nl nd ∧ RW I1 g (Ir1 (m + 1)) nl nd ∧ I1 (g + 13) 0 = a ∧ frC g I I1 ∧ frR m Ir Ir1 := by
  have hco := co_of hv hw
  obtain ⟨q2, q6, q1, q12, qnp, qnl, qnd⟩ := id hv.1
  have hs := Nat.mod_lt nd (show np > 0 by omega)
  obtain ⟨Ia, hIa⟩ : ∃ Ia, Ia = am_w (am_w (am_w (am_w (am_w (clearC I (g + 13)) (g + 13) 0 a) (g + 13) 1 v) (g + 13) 2 (if a = 2 then v else -6)) (g + 13) 4 (if a = 0 then nI (nd % np) else -6)) (g + 13) 5 0 := ⟨_, rfl⟩
  obtain ⟨a5, ha5⟩ : ∃ a5, a5 = upd (upd (upd (upd (clearR (Ir (m + 1))) 3 1) 4 a) 5 v) 8 (if a = 0 then nI (nd % np) else -6) := ⟨_, rfl⟩
  obtain ⟨n0, n1, n2, n3, n4, n5, n6, n7, n8⟩ := clear_n I g
  have g0 : Ia (g + 13) 0 = a := by rw [hIa]; simp (disch := omega) only [am_w_nq, am_w_eq]
  have g1 : Ia (g + 13) 1 = v := by rw [hIa]; simp (disch := omega) only [am_w_nq, am_w_eq]
  have g2 : Ia (g + 13) 2 = (if a = 2 then v else -6) := by rw [hIa]; simp (disch := omega) only [am_w_nq, am_w_eq]
  have g3 : Ia (g + 13) 3 = -6 := by rw [hIa]; simp (disch := omega) only [am_w_nq, n3]
  have g4 : Ia (g + 13) 4 = (if a = 0 then nI (nd % np) else -6) := by rw [hIa]; simp (disch := omega) only [am_w_nq, am_w_eq]
  have g5 : Ia (g + 13) 5 = 0 := by rw [hIa]; simp (disch := omega) only [am_w_nq, am_w_eq]
  have g6 : Ia (g + 13) 6 = 0 := by rw [hIa]; simp (disch := omega) only [am_w_nq, n6]
  have g7 : Ia (g + 13) 7 = -6 := by rw [hIa]; simp (disch := omega) only [am_w_nq, n7]
  have gb : ∀ p, p < 6 → Ia (g + 14) p = -6 := fun p hp => by rw [hIa]; simp (disch := omega) only [am_w_nq, n8 p hp]
  have gx : ∀ q, q ≠ g + 13 → q ≠ g + 14 → Ia q = I q := fun q x1 x2 => by
    rw [hIa, am_w_ne _ _ x1, am_w_ne _ _ x1, am_w_ne _ _ x1, am_w_ne _ _ x1, am_w_ne _ _ x1]
    exact clearC_o _ _ x1 x2
  have hcb : CO Ia g np nl nd a5 := co_auc hco gx (fun i hi => by
    have hi2 := hi
    unfold aix at hi2
    rw [ha5, upd_nq _ (by omega), upd_nq _ (by omega), upd_nq _ (by omega), upd_nq _ (by omega), clearR_o _ hi])
  have hb : RLb Ia g a5 := fun p hp => by
    obtain ⟨b5, b6⟩ := clear_b I g (Ir (m + 1)) p hp
    rw [gb p hp, g6, ha5]
    simp (disch := omega) only [upd_nq]
    rw [b5, b6, n6, n8 p hp]
    exact ⟨rfl, rfl⟩
  obtain ⟨c3, c4, c5, c6, c7, c8, c9⟩ := clear_a I g (Ir (m + 1))
  rw [n0, if_neg (by decide)] at c6
  rw [n3] at c7
  rw [n0, if_pos rfl] at c9
  have hA : RLa Ia g a5 := by
    unfold RLa
    rw [g0, g1, g2, g3, g4, g5, ha5]
    simp (disch := omega) only [upd_nq, upd_eq]
    rw [c6, c7, c9]
    rcases ha with rfl | rfl | rfl
    · exact ⟨rfl, trivial, rfl, rfl, rfl, trivial, rfl⟩
    · exact ⟨rfl, trivial, rfl, rfl, rfl, trivial, rfl⟩
    · exact ⟨rfl, trivial, rfl, rfl, rfl, trivial, rfl⟩
  have hset2 : 1 ≤ (I (g + 1) 2).toInt := hv.2.1.2.2.1.1
  have hU : AU Ia g np nl nd := by
    refine Or.inr ⟨h1, ?_⟩
    rcases ha with rfl | rfl | rfl
    · refine Or.inl ⟨g0, by rw [g1]; exact hv1, g7, ⟨nd % np, hs, g4, by rw [g6]; exact bt_zero _ (by omega), by rw [g3]; exact fun q => by rw [n6_nI _ (by omega)] at q; exact q.elim⟩, ⟨0, g5, ?_⟩, ⟨0, by omega, g6⟩, Or.inl ⟨g3, g2⟩⟩
      rw [gx _ (by omega) (by omega)]
      omega
    · have hz : ctn (hasB Ia g) np = 0 := by
        have := ctn_stay (f := hasB Ia g) (m := 0) (n := np) (by omega) (fun k _ hk => by simp [hasB, gb k (by omega)])
        exact this
      exact Or.inr (Or.inl ⟨g0, by rw [g1]; exact hv1, g2, g3, g4, g6, g7, fun p hp => Or.inl (gb p (by omega)), by rw [g5, hz]; rfl, by omega⟩)
    · exact Or.inr (Or.inr ⟨g0, by rw [g2]; exact hv1, g3, g4, g6, g7, fun p hp => Or.inl (gb p (by omega))⟩)
  obtain ⟨i1, i2⟩ := iv_of hcb hU hb hA
  refine ⟨Ia, rw1 Ir m a5, ?_, ?_, i1, by rw [rw1_row]; exact i2, g0, ?_, frR.rw1 frR.rf⟩
  · rw [f_X0_start, fw_clear, am_b1_some, am_let_ap, am_let_ap, hIa]
    rcases ha with rfl | rfl | rfl
    · rw [if_neg (show ¬ (0 : Int32) = 2 by decide), f_X0_start_b26, am_let_ap, if_pos rfl, am_let_ap, am_let_ap, if_neg (show ¬ (0 : Int32) = 2 by decide), if_pos rfl]
    · rw [if_neg (show ¬ (1 : Int32) = 2 by decide), f_X0_start_b26, am_let_ap, if_neg (show ¬ (1 : Int32) = 0 by decide), am_let_ap, am_let_ap, if_neg (show ¬ (1 : Int32) = 2 by decide), if_neg (show ¬ (1 : Int32) = 0 by decide)]
    · rw [if_pos rfl, f_X0_start_b26, am_let_ap, if_neg (show ¬ (2 : Int32) = 0 by decide), am_let_ap, am_let_ap, if_pos rfl, if_neg (show ¬ (2 : Int32) = 0 by decide)]
  · have e0 : ∀ x y z : Int32, ∀ w : Int32, am_w (am_w (am_w (am_w (rw1 Ir m (clearR (Ir (m + 1)))) (m + 1) 3 x) (m + 1) 4 y) (m + 1) 5 z) (m + 1) 8 w = rw1 Ir m (upd (upd (upd (upd (clearR (Ir (m + 1))) 3 x) 4 y) 5 z) 8 w) := fun x y z w => by
      simp only [am_w_rw1, rw1_rw1, rw1_row]
    have e00 : ∀ x y z : Int32, am_w (am_w (am_w (rw1 Ir m (clearR (Ir (m + 1)))) (m + 1) 3 x) (m + 1) 4 y) (m + 1) 5 z = rw1 Ir m (upd (upd (upd (clearR (Ir (m + 1))) 3 x) 4 y) 5 z) := fun x y z => by
      simp only [am_w_rw1, rw1_rw1, rw1_row]
    have hx : ∀ w, (clearR (Ir (m + 1))) 0 = nI np ∧ (clearR (Ir (m + 1))) 1 = nI nl ∧ (clearR (Ir (m + 1))) 2 = nI nd := fun _ : Unit => by
      obtain ⟨⟨a0, a1, a2⟩, -⟩ := hw
      rw [clearR_o _ (by unfold aix; omega), clearR_o _ (by unfold aix; omega), clearR_o _ (by unfold aix; omega)]
      exact ⟨a0.trans qnp, a1.trans qnl, a2.trans qnd⟩
    obtain ⟨x0, x1, x2⟩ := hx ()
    rw [f_X7_start, fw_clearA, am_b1_some, am_let_ap, am_let_ap, am_let_ap]
    have hnx : ∀ w, f_X7_nextLot m (rw1 Ir m (upd (upd (upd (upd (clearR (Ir (m + 1))) 3 1) 4 a) 5 v) 8 w)) = some (nI nd) := fun w => by
      rw [fw_nextR (nl := nl) (nd := nd) (by rw [rw1_row]; simp (disch := omega) only [upd_nq]; exact x1) (by rw [rw1_row]; simp (disch := omega) only [upd_nq]; exact x2) q12 (by omega), if_pos (by omega)]
    by_cases c : a = 0
    · rw [if_pos c, e00, fw_starterR (np := np) (nd := nd) (by rw [rw1_row]; simp (disch := omega) only [upd_nq]; exact x0) (by rw [rw1_row]; simp (disch := omega) only [upd_nq]; exact x2) q2 q6 (by omega), am_b1_some, am_let_ap, ← e00, e0, hnx, am_b1_some, ha5, if_pos c]
    · rw [if_neg c, am_let_ap, e0, hnx, am_b1_some, ha5, if_neg c]
  · rw [hIa]
    exact ((((((frC.rf.clear).w (by omega)).w (by omega)).w (by omega)).w (by omega)).w (by omega))
theorem begin_pair {I Ir : aI} {g m np nl nd : Nat} (hv : IV I g np nl nd) (hw : RW I g (Ir (m + 1)) nl nd) (a v : Int32) : PA g m np nl I Ir (f_X1_startAuction g a v I) (f_X7_begin m a v Ir) := by
  obtain ⟨q2, q6, q1, q12, qnp, qnl, qnd⟩ := id hv.1
  obtain ⟨⟨a0, a1, a2⟩, -⟩ := id hw
  rw [f_X1_startAuction, f_X7_begin, fw_isMode, am_b1_some, fw_in, am_b1_some]
  by_cases c1 : a < 0 ∨ 2 < a
  · rw [if_pos c1, if_pos rfl, if_pos rfl]
    exact PA.same hv hw rfl rfl
  rw [if_neg c1, if_neg one0, if_neg one0, fw_isReserve, am_b1_some, fw_in, am_b1_some]
  by_cases c2 : v < 1 ∨ 300 < v
  · rw [if_pos c2, if_pos rfl, if_pos rfl]
    exact PA.same hv hw rfl rfl
  rw [if_neg c2, if_neg one0, if_neg one0, fw_goesC, am_b1_some, fw_goesR hw, am_b1_some]
  by_cases c3 : I (g + 13) 0 = -6
  · rw [if_pos c3, if_pos rfl, if_pos rfl, fw_forSale qnl qnd q12 q1, am_b1_some, fw_nextR (a1.trans qnl) (a2.trans qnd) q12 q1, am_b1_some, fw_lastNextR (a1.trans qnl) (a2.trans qnd) q12 q1]
    by_cases c4 : nd + 1 < nl
    · obtain ⟨I1, Ir1, z1, z2, z3, z4, z5, z6, z7⟩ := start_pair (m := m) hv hw c4 (mode_cases c1) (bd_of c2)
      obtain ⟨q2', q6', q1', q12', qnp', qnl', qnd'⟩ := id z3.1
      rw [if_pos c4, if_neg one0, if_pos (show nd < nl by omega), if_neg (nI_pos (by omega)), am_b1_some, if_neg (show ¬ nd + 1 = nl by omega), if_pos rfl, fw_starter hv.1, am_b1_some, z1, am_b1_some, fw_next qnl' qnd' q12' q1', if_pos (show nd < nl by omega), am_b1_some, z2, am_b2_some]
      exact ⟨nI nd, I1, Ir1, rfl, rfl, nd, z3, z4, z6, z7⟩
    · rw [if_neg c4, if_pos rfl]
      by_cases c5 : nd < nl
      · rw [if_pos c5, if_neg (nI_pos (by omega)), am_b1_some, if_pos (show nd + 1 = nl by omega), if_neg one0]
        exact PA.same hv hw rfl rfl
      · rw [if_neg c5, if_pos (show (-6 : Int32) < 0 by decide)]
        exact PA.same hv hw rfl rfl
  · rw [if_neg c3, if_neg one0, if_neg one0]
    exact PA.same hv hw rfl rfl
