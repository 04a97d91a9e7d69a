/-! the calls save and restore of the law -/
def MS (sh : aS) (P : aP) : Prop := L6 sh P 0 ∧ L7 sh P 37 ∧ am_pc P sh.length ∧ 47 ≤ sh.length ∧ sh.length + (if P 31 0 = none then 15 else 0) + (if P 31 1 = none then 15 else 0) ≤ 77
theorem slot_cases (a : Int32) : (a = nI 0 ∨ a = nI 1) ∨ ((a < 0 ∨ nI 2 ≤ a) ∧ f_X6_isSlot a = some 0) := by
  rcases seat_cases a 2 (by omega) with ⟨p, hp, rfl⟩ | h
  · match p, hp with
    | 0, _ => exact Or.inl (Or.inl rfl)
    | 1, _ => exact Or.inl (Or.inr rfl)
  · refine Or.inr ⟨h, ?_⟩
    rw [f_X6_isSlot, fw_within, am_b1_some, if_pos]
    · rfl
    · refine h.imp id (fun q => Int32.lt_iff_toInt_lt.mpr ?_)
      have := Int32.le_iff_toInt_le.mp q
      rw [show (nI 2).toInt = 2 from rfl] at this
      rw [show (1 : Int32).toInt = 1 from rfl]
      omega
theorem isSlot_k {k : Nat} (hk : k < 2) : f_X6_isSlot (nI k) = some 1 := by
  match k, hk with
  | 0, _ => decide
  | 1, _ => decide
theorem L1_top {sh : aS} {P : aP} {z : Nat} (h : L1 sh P z) : z + 15 ≤ sh.length := by
  have h14 := h.1 14 (.inr (0, 6)) rfl
  obtain ⟨hq, -⟩ := List.getElem?_eq_some_iff.mp h14
  omega
theorem L1_keep {sh sh' : aS} {P P' : aP} {z N : Nat} (h : L1 sh P z) (hN : z + 15 ≤ N) (h1 : ∀ (q : Nat) (v : Nat ⊕ (Nat × Nat)), sh[q]? = some v → sh'[q]? = some v) (h2 : ∀ q k, 47 ≤ q → q < N → P' q k = P q k) (hz : 47 ≤ z) : L1 sh' P' z := by
  refine ⟨fun j y hy => h1 _ _ (h.1 j y hy), fun q hq => ?_⟩
  have hb : ∀ q ∈ Q1, q.1 < 15 := by decide
  have b := hb q hq
  rw [h2 _ _ (by omega) (by omega)]
  exact h.2 q hq
theorem L7_keep {sh sh' : aS} {P P' : aP} {o : Nat} (h : L7 sh P o) (h1 : ∀ (q : Nat) (v : Nat ⊕ (Nat × Nat)), sh[q]? = some v → sh'[q]? = some v) (h2 : ∀ k, P' o k = P o k) : L7 sh' P' o := by
  refine ⟨fun j y hy => h1 _ _ (h.1 j y hy), fun q hq => ?_⟩
  have hb : ∀ q ∈ Q7, q.1 = 0 := by decide
  rw [hb q hq, Nat.add_zero, h2]
  have := h.2 q hq
  rw [hb q hq, Nat.add_zero] at this
  exact this
/-- what a save leaves, on both sides -/
theorem MI.saved {sh sh1 : aS} {P P1 : aP} {I I1 I2 : aI} {k t : Nat} (hk : k < 2) (hm : MI sh P I)
    (hP1 : P1 31 k = some t) (hPo : ∀ k', k' < 2 → k' ≠ k → P1 31 k' = P 31 k')
    (ht : 47 ≤ t) (hL : L1 sh1 P1 t) (hLo : ∀ z, 47 ≤ z → L1 sh P z → L1 sh1 P1 z) (hap : ∀ k' z, k' < 2 → k' ≠ k → P 31 k' = some z → z + 15 ≤ t ∨ t + 15 ≤ z)
    (hI : sameG I 1 I1 t) (hIo : ∀ q, q < t → I1 q = I q) (hIz : ∀ k' z, k' < 2 → k' ≠ k → P 31 k' = some z → ∀ q, z + 1 ≤ q → q < z + 15 → I1 q = I q)
    (g1 : ∀ i, i < 118 → I2 40 (118 * k + i) = I1 38 i) (g2 : I2 41 k = 1) (g3 : ∀ i, ¬ (118 * k ≤ i ∧ i < 118 * k + 118) → I2 40 i = I1 40 i) (g4 : ∀ i, i ≠ k → I2 41 i = I1 41 i) (g5 : ∀ q, q ≠ 40 → q ≠ 41 → I2 q = I1 q) : MI sh1 P1 I2 := by
  obtain ⟨np, nl, nd, len, c, hv, hw, hp, hq, s0, s1, hd⟩ := id hm
  have f : ∀ q, q < t → q ≠ 40 → q ≠ 41 → I2 q = I q := fun q h a b => (g5 q a b).trans (hIo q h)
  have hs : sameG I 1 I2 1 := sameG.rf (fun q k1 k2 => f q (by omega) (by omega) (by omega))
  have hst : sameG I 1 I2 t := fun j i h1 h2 h3 => by rw [g5 (t + j) (by omega) (by omega)]; exact hI j i h1 h2 h3
  have hnew : slS sh1 P1 I2 k := by
    unfold slS
    rw [hP1]
    refine ⟨SL.save (Ir := I) hv hw hst (fun i hi => ?_) g2, fun z hz => ?_⟩
    · show I2 40 (118 * k + i) = I 38 i
      rw [g1 i hi, hIo 38 (by omega)]
    · cases hz
      exact ⟨ht, hL⟩
  have hold : ∀ k', k' < 2 → k' ≠ k → slS sh P I k' → slS sh1 P1 I2 k' := fun k' h1 h2 s => by
    unfold slS
    rw [hPo k' h1 h2]
    refine ⟨s.1.fr (fun i hi => ?_) ?_ (fun z hz q k1 k2 => ?_), fun z hz => ⟨(s.2 z hz).1, hLo z (s.2 z hz).1 (s.2 z hz).2⟩⟩
    · rw [g3 _ (by omega), hIo 40 (by omega)]
    · rw [g4 k' h2, hIo 41 (by omega)]
    · have := (s.2 z hz).1
      rw [g5 q (by omega) (by omega)]
      exact hIz k' z h1 h2 hz q k1 k2
  refine ⟨np, nl, nd, len, c, iv_same hs hv, rw_same hs (fun i _ => by rw [f 38 (by omega) (by omega) (by omega)]) hv.1.2.2.2.1 hw, pd_fr hp (f 35 (by omega) (by omega) (by omega)) (f 36 (by omega) (by omega) (by omega)), pm_fr hq (f 37 (by omega) (by omega) (by omega)) (f 42 (by omega) (by omega) (by omega)), ?_, ?_, ?_⟩
  · by_cases e : 0 = k
    · rw [e]; exact hnew
    · exact hold 0 (by omega) e s0
  · by_cases e : 1 = k
    · rw [e]; exact hnew
    · exact hold 1 (by omega) e s1
  · intro z w hz hw2
    by_cases e : k = 0
    · subst e
      rw [hP1] at hz
      cases hz
      rw [hPo 1 (by omega) (by omega)] at hw2
      have := hap 1 w (by omega) (by omega) hw2
      omega
    · have e1 : k = 1 := by omega
      subst e1
      rw [hP1] at hw2
      cases hw2
      rw [hPo 0 (by omega) (by omega)] at hz
      exact hap 0 z (by omega) (by omega) hz
def CS (sh : aS) (P : aP) (I : aI) (J : aJ) (a : Int32) : Prop := ∃ r sh1 P1 I1 I2 mc ms, AM yX6_save cX6_save 3 (some .int) 5 200 [.ref 0, .int a] sh P I J (some (.int r)) sh1 P1 I1 J mc ms ∧ f_X7_save 37 a I1 = some (r, I2) ∧ MS sh1 P1 ∧ MI sh1 P1 I2 ∧ sh1.length = sh.length + mc ∧ ms ≤ 115 * mc
theorem cl_save_k {sh : aS} {P : aP} {I : aI} (hs : MS sh P) (hm : MI sh P I) (J : aJ) {k : Nat} (hk : k < 2) : CS sh P I J (nI k) := by
  obtain ⟨h6, h7, hpc, h47, h77⟩ := id hs
  obtain ⟨np, nl, nd, len, c, hv, hw, hp, hq, s0, s1, hd⟩ := id hm
  obtain ⟨q2, q6, q1, q12, qnp, qnl, qnd⟩ := id hv.1
  obtain ⟨⟨a0, a1, a2⟩, -⟩ := id hw
  have hsl : ∀ k', k' < 2 → slS sh P I k' := fun k' h => by
    match k', h with
    | 0, _ => exact s0
    | 1, _ => exact s1
  cases hPk : P 31 k with
  | none =>
    have hb : sh.length + 30 < 1000000 := by
      have : 0 ≤ (if P 31 0 = none then 15 else 0) := Nat.zero_le _
      omega
    have hAM := am_X6_saveNew (J := J) h6 hk rfl (by omega) hpc hb hPk (I := I)
    obtain ⟨N, hN⟩ : ∃ N, N = sh.length := ⟨_, rfl⟩
    rw [← hN] at hAM h47 hpc hb h77
    obtain ⟨I1, hI1⟩ : ∃ I1, I1 = tkO (nI0 I N) N 1 := ⟨_, rfl⟩
    obtain ⟨I2, e1, g1, g2, g3, g4, g5⟩ := fw_saveR (I := I1) (m := 37) hk
    have hI0 : ∀ q, q < N → nI0 I N q = I q := fun q h => funext fun i => by unfold nI0; rw [gI_old h, zI_nq (by omega)]
    have hIo : ∀ q, q < N → I1 q = I q := fun q h => by rw [hI1, tkO_fr q (by omega), hI0 q h]
    have hIs : sameG I 1 I1 N := fun j i j1 j2 j3 => by
      rw [hI1, tkO_same (I := nI0 I N) (t := N) (w := 1) (by omega) j i j1 j2 j3, hI0 (1 + j) (by omega)]
    have hr : I1 9 1 = I1 38 2 := by
      rw [hIo 9 (by omega), hIo 38 (by omega)]
      exact a2.symm
    obtain ⟨P1, hP1⟩ : ∃ P1, P1 = am_wP (nP P N) 31 k (some N) := ⟨_, rfl⟩
    have hPo : ∀ q i, q < N → ¬ (q = 31 ∧ i = k) → P1 q i = P q i := fun q i h1 h2 => by
      rw [hP1]
      unfold am_wP
      rw [if_neg h2]
      unfold nP
      rw [gP_old h1, zP_nq (by omega)]
    have hPk1 : P1 31 k = some N := by rw [hP1]; exact wP_eq
    have hsh : ∀ (q : Nat) (v : Nat ⊕ (Nat × Nat)), sh[q]? = some v → (nS sh)[q]? = some v := fun q v h => gS_old (sh_old h)
    have e15 : (nS sh).length = N + 15 := by
      unfold nS
      rw [gS_len (N := N + 1) (by rw [hN]; exact sh_len rfl)]
    have hG : L1 (nS sh) P1 N := by
      have hG0 : L1 (nS sh) (nP P N) N := gL (sh_new hN.symm) (by rw [hN]; exact sh_len rfl)
      refine ⟨hG0.1, fun q hq => ?_⟩
      rw [hP1, wP_nq (by omega)]
      exact hG0.2 q hq
    have hm2 : MI (nS sh) P1 I2 := MI.saved hk hm hPk1 (fun k' _ h2 => hPo 31 k' (by omega) (fun z => h2 z.2)) h47 hG
      (fun z hz hl => L1_keep hl (L1_top hl) hsh (fun q i z1 z2 => hPo q i (by rw [hN]; exact z2) (by omega)) hz)
      (fun k' z h1 h2 h3 => Or.inl (by rw [hN]; exact L1_top ((hsl k' h1).2 z h3).2))
      hIs hIo
      (fun k' z h1 h2 h3 q z1 z2 => hIo q (by have := L1_top ((hsl k' h1).2 z h3).2; omega))
      g1 g2 g3 g4 g5
    refine ⟨I1 9 1, nS sh, P1, I1, I2, 15, 115, ?_, ?_, ⟨?_, ?_, ?_, ?_, ?_⟩, hm2, ?_, by omega⟩
    · rw [hP1, hI1]; exact hAM
    · rw [e1, hr]
    · exact L6_keep h6 (N := N) (by omega) hsh (fun q i z1 z2 => hPo q i z1 (fun z => z2 (by omega)))
    · exact L7_keep h7 hsh (fun i => hPo 37 i (by omega) (by omega))
    · rw [e15, hP1]
      exact (gP_pc (o := N) ((hpc.mono (by omega)).z)).wk (by omega)
    · rw [e15]; omega
    · rw [e15]
      by_cases e : k = 0
      · subst e
        rw [hPk1, hPo 31 1 (by omega) (by omega), if_neg (by simp)]
        rw [hPk, if_pos rfl] at h77
        omega
      · have e1 : k = 1 := by omega
        subst e1
        rw [hPk1, hPo 31 0 (by omega) (by omega), if_neg (c := some N = none) (by simp)]
        rw [hPk, if_pos (c := (none : Option Nat) = none) rfl] at h77
        omega
    · rw [e15, hN]
  | some z =>
    obtain ⟨hz47, hzL⟩ := (hsl k hk).2 z hPk
    have hAM := am_X6_saveOld (J := J) h6 hk hPk hzL (Or.inl (by omega)) (I := I)
    obtain ⟨I1, hI1⟩ : ∃ I1, I1 = tkO I z 1 := ⟨_, rfl⟩
    obtain ⟨I2, e1, g1, g2, g3, g4, g5⟩ := fw_saveR (I := I1) (m := 37) hk
    have hIo : ∀ q, q < z → I1 q = I q := fun q h => by rw [hI1, tkO_fr q (by omega)]
    have hIs : sameG I 1 I1 z := by rw [hI1]; exact tkO_same (by omega)
    have hr : I1 9 1 = I1 38 2 := by
      rw [hIo 9 (by omega), hIo 38 (by omega)]
      exact a2.symm
    have hap : ∀ k' w, k' < 2 → k' ≠ k → P 31 k' = some w → w + 15 ≤ z ∨ z + 15 ≤ w := fun k' w h1 h2 h3 => by
      by_cases e : k = 0
      · subst e
        have e1 : k' = 1 := by omega
        subst e1
        have := hd z w hPk h3
        omega
      · have e1 : k = 1 := by omega
        subst e1
        have e2 : k' = 0 := by omega
        subst e2
        exact hd w z h3 hPk
    have hm2 : MI sh P I2 := MI.saved hk hm hPk (fun k' _ h2 => rfl) hz47 hzL (fun w hw hl => hl) hap hIs hIo
      (fun k' w h1 h2 h3 q z1 z2 => by
        have := hap k' w h1 h2 h3
        rw [hI1, tkO_fr q (by omega)])
      g1 g2 g3 g4 g5
    refine ⟨I1 9 1, sh, P, I1, I2, 0, 0, ?_, ?_, hs, hm2, rfl, by omega⟩
    · rw [hI1]; exact hAM
    · rw [e1, hr]
theorem cl_save {sh : aS} {P : aP} {I : aI} (hs : MS sh P) (hm : MI sh P I) (J : aJ) (a : Int32) : CS sh P I J a := by
  rcases slot_cases a with (rfl | rfl) | ⟨h1, h2⟩
  · exact cl_save_k hs hm J (by omega)
  · exact cl_save_k hs hm J (by omega)
  · exact ⟨-2, sh, P, I, I, 0, 0, am_X6_saveBad h2, fw_saveO h1, hs, hm, rfl, by omega⟩
theorem am_X6_restoreBad {sh : aS} {P : aP} {I : aI} {J : aJ} {o : Nat} {a : Int32} (h : f_X6_isSlot a = some 0) : AM yX6_restore cX6_restore 3 (some .int) 4 119 [.ref o, .int a] sh P I J (some (.int (-2))) sh P I J 0 0 := by
  refine am_met (by decide +kernel) (Nat.le_of_ble_eq_true rfl) (fun K X hR => ?_)
  have X : am_C K cX6_restore 3 RX6 "restore" ({ frames := 4, cells := 0, slots := 0, locals := 119 } : Room) := X
  show AW K 3 0 [(0, .ref o), (1, .int a)] [] sh P I J 0 0
  refine ar_iload_n X dX6_restore_0 rfl 1 rfl ?_
  refine ar_cSi (As := [.int a]) (st := []) X dX6_restore_1 (am_X6_isSlot h) lk_X6_291 mt_X6_isSlot ms_X6_isSlot rfl (Nat.le_of_ble_eq_true rfl) ⟨by decide, by decide⟩ ⟨Nat.zero_le _, Nat.zero_le _⟩ rfl ?_
  refine ar_if_ne (β := Unit) (T := some ()) (F := none) (Rs := ()) (tgt := 10) X dX6_restore_4 (by decide) (if_pos rfl) (fun h2 hf => ?_) (fun h2 hf => by cases hf)
  refine ar_bipush (v := -2) X dX6_restore_7 (by decide) ?_
  exact ar_iret X dX6_restore_9 hR (Nat.le_refl _) (Nat.le_refl _)
def CT (sh : aS) (P : aP) (I : aI) (J : aJ) (a : Int32) : Prop := ∃ r I1 I2, AM yX6_restore cX6_restore 3 (some .int) 4 119 [.ref 0, .int a] sh P I J (some (.int r)) sh P I1 J 0 0 ∧ f_X7_restore 37 a I1 = some (r, I2) ∧ MI sh P I2
theorem cl_restore_k {sh : aS} {P : aP} {I : aI} (hs : MS sh P) (hm : MI sh P I) (J : aJ) {k : Nat} (hk : k < 2) : CT sh P I J (nI k) := by
  obtain ⟨h6, h7, hpc, h47, h77⟩ := id hs
  obtain ⟨np, nl, nd, len, c, hv, hw, hp, hq, s0, s1, hd⟩ := id hm
  have hsl : slS sh P I k := by
    match k, hk with
    | 0, _ => exact s0
    | 1, _ => exact s1
  have hkt : Int32.toNatClampNeg (nI k) = k := nI_tn (by omega)
  have hok : ¬ f_X6_isSlot (nI k) = some 0 → am_ok (nI k) 2 = true := fun _ => am_ok_nI hk (by omega)
  have hPt : P (0 + 31) (Int32.toNatClampNeg (nI k)) = P 31 k := by rw [hkt]
  cases hPk : P 31 k with
  | none =>
    have h0 : I 41 k = 0 := by
      have := hsl.1
      rw [hPk] at this
      exact this
    have hf : f_X6_restore 0 none (nI k) I = some (-5, I) := by
      unfold f_X6_restore
      rw [isSlot_k hk, am_b1_some, if_neg one0]
    refine ⟨-5, I, I, am_X6_restore h6 hok (hPt.trans hPk) (fun z hz => by cases hz) hf, ?_, hm⟩
    rw [fw_restR hk, if_pos h0]
  | some z =>
    obtain ⟨hz47, hzL⟩ := hsl.2 z hPk
    have hSL : SL I I 37 k (some z) := by
      have := hsl.1
      rw [hPk] at this
      exact this
    have h1 : I 41 k = 1 := hSL.1
    obtain ⟨I1, hI1⟩ : ∃ I1, I1 = tkO I 1 z := ⟨_, rfl⟩
    have hto : f_X1_takeOver (0 + 1) z I = some I1 := by
      rw [fw_takeOver (by omega), hI1]
    have hf : f_X6_restore 0 (some z) (nI k) I = some (I1 9 1, I1) := by
      unfold f_X6_restore
      rw [isSlot_k hk, am_b1_some, if_neg one0]
      show am_b1 (f_X1_takeOver (0 + 1) z I) (fun I1 => some (I1 (0 + 9) 1, I1)) = _
      rw [hto, am_b1_some]
    have hIo : ∀ q, q < 2 ∨ 16 ≤ q → I1 q = I q := fun q h => by rw [hI1, tkO_fr q (by omega)]
    have hIs : sameG I z I1 1 := by rw [hI1]; exact tkO_same (by omega)
    have hR := fw_restR (I := I1) (m := 37) hk
    rw [if_neg (show ¬ I1 (37 + 4) k = 0 by rw [hIo 41 (by omega), h1]; exact one0)] at hR
    obtain ⟨I2, hI2⟩ : ∃ I2 : aI, I2 = fun q i => if q = 37 + 1 ∧ i < 118 then I1 (37 + 3) (118 * k + i) else I1 q i := ⟨_, rfl⟩
    rw [← hI2] at hR
    have hI2o : ∀ q, q ≠ 38 → I2 q = I1 q := fun q h => funext fun i => by rw [hI2]; exact if_neg (fun z => h z.1)
    have hI2r : ∀ i, i < 118 → I2 38 i = I1 40 (118 * k + i) := fun i h => by rw [hI2]; exact if_pos ⟨rfl, h⟩
    have hst : sameG I z I2 1 := fun j i j1 j2 j3 => by rw [hI2o (1 + j) (by omega)]; exact hIs j i j1 j2 j3
    obtain ⟨np2, nl2, nd2, v2, w2, e2⟩ := SL.rest (I1 := I2) (Ir1 := I2) (g := 1) hSL hst (fun i hi => by
      show I2 38 i = I 40 (118 * k + i)
      rw [hI2r i hi, hIo 40 (by omega)])
    have f : ∀ q, 16 ≤ q → q ≠ 38 → I2 q = I q := fun q a b => (hI2o q b).trans (hIo q (Or.inr a))
    have hr : I1 9 1 = I1 (37 + 3) (118 * k + 2) := by
      rw [hIo (37 + 3) (by omega)]
      have n2 : I2 (1 + 8) 1 = nI nd2 := v2.1.2.2.2.2.2.2
      rw [hI2o (1 + 8) (by omega)] at n2
      exact n2.trans e2.symm
    refine ⟨I1 9 1, I1, I2, am_X6_restore h6 hok (hPt.trans hPk) (fun w hw => by cases hw; exact hzL) hf, by rw [hR, hr], ?_⟩
    exact hm.next v2 w2 (pd_fr hp (f 35 (by omega) (by omega)) (f 36 (by omega) (by omega))) (pm_fr hq (f 37 (by omega) (by omega)) (f 42 (by omega) (by omega))) (fun q hq => f q (by omega) (by omega))
theorem cl_restore {sh : aS} {P : aP} {I : aI} (hs : MS sh P) (hm : MI sh P I) (J : aJ) (a : Int32) : CT sh P I J a := by
  rcases slot_cases a with (rfl | rfl) | ⟨h1, h2⟩
  · exact cl_restore_k hs hm J (by omega)
  · exact cl_restore_k hs hm J (by omega)
  · exact ⟨-2, I, I, am_X6_restoreBad h2, fw_restO h1, hm⟩
