/-! PURE: games taken over, put aside -/
def cellN (j : Nat) : Nat := if j = 2 then 1 else if j = 8 then 2 else if j = 13 then 8 else if 9 ≤ j ∧ j ≤ 12 then 12 else 6
def sameG (I : aI) (g : Nat) (I' : aI) (t : Nat) : Prop := ∀ j k, 1 ≤ j → j < 15 → k < cellN j → I' (t + j) k = I (g + j) k
def tkO (I : aI) (t w : Nat) : aI := (am_cpy (am_w (am_w (am_w (am_w (am_w (am_w (am_w (am_w (am_cpy (am_cpy (am_cpy (am_cpy (am_w (am_w (am_cpy (am_cpy (am_cpy (am_cpy (am_cpy (am_w (am_cpy I (w + 1) (t + 1) 6) (t + 2) 0 (I (w + 2) 0)) (w + 2 + 1) (t + 2 + 1) 6) (w + 2 + 2) (t + 2 + 2) 6) (w + 2 + 3) (t + 2 + 3) 6) (w + 2 + 4) (t + 2 + 4) 6) (w + 2 + 5) (t + 2 + 5) 6) (t + 8) 0 (I (w + 8) 0)) (t + 8) 1 (I (w + 8) 1)) (w + 8 + 1) (t + 8 + 1) 12) (w + 8 + 2) (t + 8 + 2) 12) (w + 8 + 3) (t + 8 + 3) 12) (w + 8 + 4) (t + 8 + 4) 12) (t + 13) 0 (I (w + 13) 0)) (t + 13) 1 (I (w + 13) 1)) (t + 13) 2 (I (w + 13) 2)) (t + 13) 3 (I (w + 13) 3)) (t + 13) 4 (I (w + 13) 4)) (t + 13) 5 (I (w + 13) 5)) (t + 13) 6 (I (w + 13) 6)) (t + 13) 7 (I (w + 13) 7)) (w + 13 + 1) (t + 13 + 1) 6)
theorem fw_takeOver {I : aI} {t w : Nat} (h : w + 15 ≤ t ∨ t + 15 ≤ w) : f_X1_takeOver t w I = some (tkO I t w) := by
  simp (disch := omega) only [f_X1_takeOver, f_X4_takeOver, f_X2_takeOver, f_X0_takeOver, am_let_ap, am_b1_some, am_w_nq, am_cpy_nq]
  rfl
theorem tkO_fr {I : aI} {t w : Nat} : ∀ q, q < t + 1 ∨ t + 15 ≤ q → tkO I t w q = I q := fun q hq => by
  funext k
  unfold tkO
  simp (disch := omega) only [am_w_nq, am_cpy_nq]
theorem tkO_same {I : aI} {t w : Nat} (h : w + 15 ≤ t ∨ t + 15 ≤ w) : sameG I w (tkO I t w) t := by
  intro j k h1 h2 hk
  have hj : j = 1 ∨ j = 2 ∨ j = 3 ∨ j = 4 ∨ j = 5 ∨ j = 6 ∨ j = 7 ∨ j = 8 ∨ j = 9 ∨ j = 10 ∨ j = 11 ∨ j = 12 ∨ j = 13 ∨ j = 14 := by omega
  unfold cellN at hk
  rcases hj with rfl | rfl | rfl | rfl | rfl | rfl | rfl | rfl | rfl | rfl | rfl | rfl | rfl | rfl
  · have hk0 : k < 6 := hk
    unfold tkO
    simp (disch := omega) only [am_w_nq, am_cpy_nq, am_cpy_eq]
  · have hk0 : k = 0 := by simpa using hk
    subst hk0
    unfold tkO
    simp (disch := omega) only [am_w_nq, am_w_eq, am_cpy_nq, am_cpy_eq]
  · have hk0 : k < 6 := hk
    unfold tkO
    simp (disch := omega) only [am_w_nq, am_cpy_nq, am_cpy_eq]
  · have hk0 : k < 6 := hk
    unfold tkO
    simp (disch := omega) only [am_w_nq, am_cpy_nq, am_cpy_eq]
  · have hk0 : k < 6 := hk
    unfold tkO
    simp (disch := omega) only [am_w_nq, am_cpy_nq, am_cpy_eq]
  · have hk0 : k < 6 := hk
    unfold tkO
    simp (disch := omega) only [am_w_nq, am_cpy_nq, am_cpy_eq]
  · have hk0 : k < 6 := hk
    unfold tkO
    simp (disch := omega) only [am_w_nq, am_cpy_nq, am_cpy_eq]
  · have hk0 : k < 2 := hk
    have hk1 : k = 0 ∨ k = 1 := by omega
    rcases hk1 with rfl | rfl
    · unfold tkO
      simp (disch := omega) only [am_w_nq, am_w_eq, am_cpy_nq, am_cpy_eq]
    · unfold tkO
      simp (disch := omega) only [am_w_nq, am_w_eq, am_cpy_nq, am_cpy_eq]
  · have hk0 : k < 12 := hk
    unfold tkO
    simp (disch := omega) only [am_w_nq, am_cpy_nq, am_cpy_eq]
  · have hk0 : k < 12 := hk
    unfold tkO
    simp (disch := omega) only [am_w_nq, am_cpy_nq, am_cpy_eq]
  · have hk0 : k < 12 := hk
    unfold tkO
    simp (disch := omega) only [am_w_nq, am_cpy_nq, am_cpy_eq]
  · have hk0 : k < 12 := hk
    unfold tkO
    simp (disch := omega) only [am_w_nq, am_cpy_nq, am_cpy_eq]
  · have hk0 : k < 8 := hk
    have hk1 : k = 0 ∨ k = 1 ∨ k = 2 ∨ k = 3 ∨ k = 4 ∨ k = 5 ∨ k = 6 ∨ k = 7 := by omega
    rcases hk1 with rfl | rfl | rfl | rfl | rfl | rfl | rfl | rfl
    · unfold tkO
      simp (disch := omega) only [am_w_nq, am_w_eq, am_cpy_nq, am_cpy_eq]
    · unfold tkO
      simp (disch := omega) only [am_w_nq, am_w_eq, am_cpy_nq, am_cpy_eq]
    · unfold tkO
      simp (disch := omega) only [am_w_nq, am_w_eq, am_cpy_nq, am_cpy_eq]
    · unfold tkO
      simp (disch := omega) only [am_w_nq, am_w_eq, am_cpy_nq, am_cpy_eq]
    · unfold tkO
      simp (disch := omega) only [am_w_nq, am_w_eq, am_cpy_nq, am_cpy_eq]
    · unfold tkO
      simp (disch := omega) only [am_w_nq, am_w_eq, am_cpy_nq, am_cpy_eq]
    · unfold tkO
      simp (disch := omega) only [am_w_nq, am_w_eq, am_cpy_nq, am_cpy_eq]
    · unfold tkO
      simp (disch := omega) only [am_w_nq, am_w_eq, am_cpy_nq, am_cpy_eq]
  · have hk0 : k < 6 := hk
    unfold tkO
    simp (disch := omega) only [am_w_nq, am_cpy_nq, am_cpy_eq]
theorem iv_same {I I' : aI} {g t np nl nd : Nat} (hs : sameG I g I' t) (hv : IV I g np nl nd) : IV I' t np nl nd := by
  obtain ⟨h1, h2, h3, h4, h5⟩ := hv
  obtain ⟨q2, q6, q1, q12, qnp, qnl, qnd⟩ := h1
  have s1 : ∀ k, k < 6 → I' (t + 1) k = I (g + 1) k := fun k hk => hs 1 k (by omega) (by omega) hk
  have s3 : ∀ k, k < 6 → I' (t + 3) k = I (g + 3) k := fun k hk => hs 3 k (by omega) (by omega) hk
  have s4 : ∀ k, k < 6 → I' (t + 4) k = I (g + 4) k := fun k hk => hs 4 k (by omega) (by omega) hk
  have s6 : ∀ k, k < 6 → I' (t + 6) k = I (g + 6) k := fun k hk => hs 6 k (by omega) (by omega) hk
  have s7 : ∀ k, k < 6 → I' (t + 7) k = I (g + 7) k := fun k hk => hs 7 k (by omega) (by omega) hk
  have s9 : ∀ k, k < 12 → I' (t + 9) k = I (g + 9) k := fun k hk => hs 9 k (by omega) (by omega) hk
  have s10 : ∀ k, k < 12 → I' (t + 10) k = I (g + 10) k := fun k hk => hs 10 k (by omega) (by omega) hk
  have s11 : ∀ k, k < 12 → I' (t + 11) k = I (g + 11) k := fun k hk => hs 11 k (by omega) (by omega) hk
  have s13 : ∀ k, k < 8 → I' (t + 13) k = I (g + 13) k := fun k hk => hs 13 k (by omega) (by omega) hk
  have s14 : ∀ k, k < 6 → I' (t + 14) k = I (g + 14) k := fun k hk => hs 14 k (by omega) (by omega) hk
  refine ⟨⟨q2, q6, q1, q12, ?_, ?_, ?_⟩, ?_, ?_, ?_, ?_⟩
  · rw [hs 2 0 (by omega) (by omega) (by decide)]; exact qnp
  · rw [hs 8 0 (by omega) (by omega) (by decide)]; exact qnl
  · rw [hs 8 1 (by omega) (by omega) (by decide)]; exact qnd
  · unfold IVs at *
    rw [s1 0 (by omega), s1 1 (by omega), s1 2 (by omega), s1 3 (by omega), s1 4 (by omega), s1 5 (by omega)]; exact h2
  · intro p hp
    rw [s6 p (by omega), s3 p (by omega), s7 p (by omega), s4 p (by omega)]
    exact h3 p hp
  · intro k hk
    rw [s9 k (by omega), s10 k (by omega), s11 k (by omega)]
    exact h4 k hk
  · have hc : ∀ n, n ≤ 6 → ctn (hasB I' t) n = ctn (hasB I g) n := fun n hn => ctn_congr (fun k hk => by unfold hasB; rw [s14 k (by omega)])
    refine h5.imp (fun hn => ?_) (fun h => ⟨h.1, h.2.imp (fun ho => ?_) (fun h => h.imp (fun hs => ?_) (fun hf => ?_))⟩)
    · unfold AUn at *
      rw [s13 0 (by omega), s13 1 (by omega), s13 2 (by omega), s13 3 (by omega), s13 4 (by omega), s13 5 (by omega), s13 6 (by omega), s13 7 (by omega)]
      refine ⟨hn.1, hn.2.1, hn.2.2.1, hn.2.2.2.1, hn.2.2.2.2.1, hn.2.2.2.2.2.1, hn.2.2.2.2.2.2.1, hn.2.2.2.2.2.2.2.1, fun p hp => ?_⟩
      rw [s14 p hp]; exact hn.2.2.2.2.2.2.2.2 p hp
    · unfold AUo at *
      rw [s13 0 (by omega), s13 1 (by omega), s13 2 (by omega), s13 3 (by omega), s13 4 (by omega), s13 5 (by omega), s13 6 (by omega), s13 7 (by omega), s1 2 (by omega)]
      refine ⟨ho.1, ho.2.1, ho.2.2.1, ho.2.2.2.1, ho.2.2.2.2.1, ho.2.2.2.2.2.1, ho.2.2.2.2.2.2.imp id ?_⟩
      rintro ⟨x, hx, r⟩
      refine ⟨x, hx, ?_⟩
      rw [s3 x (by omega)]; exact r
    · unfold AUs at *
      rw [s13 0 (by omega), s13 1 (by omega), s13 2 (by omega), s13 3 (by omega), s13 4 (by omega), s13 5 (by omega), s13 6 (by omega), s13 7 (by omega), hc np q6]
      refine ⟨hs.1, hs.2.1, hs.2.2.1, hs.2.2.2.1, hs.2.2.2.2.1, hs.2.2.2.2.2.1, hs.2.2.2.2.2.2.1, fun p hp => ?_, hs.2.2.2.2.2.2.2.2⟩
      rw [s14 p (by omega), s3 p (by omega)]; exact hs.2.2.2.2.2.2.2.1 p hp
    · unfold AUf at *
      rw [s13 0 (by omega), s13 2 (by omega), s13 3 (by omega), s13 4 (by omega), s13 6 (by omega), s13 7 (by omega)]
      refine ⟨hf.1, hf.2.1, hf.2.2.1, hf.2.2.2.1, hf.2.2.2.2.1, hf.2.2.2.2.2.1, fun p hp => ?_⟩
      rw [s14 p (by omega), s3 p (by omega)]; exact hf.2.2.2.2.2.2 p hp
theorem rw_same {I I' : aI} {g t nl nd : Nat} {a a' : Nat → Int32} (hs : sameG I g I' t) (ha : ∀ k, k < 118 → a' k = a k) (h12 : nl ≤ 12) (hw : RW I g a nl nd) : RW I' t a' nl nd := by
  obtain ⟨⟨a0, a1, a2⟩, hset, hp, hb, hl, r3, r4, r5, r6, r7, r8, r9⟩ := hw
  have s1 : ∀ k, k < 6 → I' (t + 1) k = I (g + 1) k := fun k hk => hs 1 k (by omega) (by omega) hk
  have s3 : ∀ k, k < 6 → I' (t + 3) k = I (g + 3) k := fun k hk => hs 3 k (by omega) (by omega) hk
  have s4 : ∀ k, k < 6 → I' (t + 4) k = I (g + 4) k := fun k hk => hs 4 k (by omega) (by omega) hk
  have s5 : ∀ k, k < 6 → I' (t + 5) k = I (g + 5) k := fun k hk => hs 5 k (by omega) (by omega) hk
  have s6 : ∀ k, k < 6 → I' (t + 6) k = I (g + 6) k := fun k hk => hs 6 k (by omega) (by omega) hk
  have s7 : ∀ k, k < 6 → I' (t + 7) k = I (g + 7) k := fun k hk => hs 7 k (by omega) (by omega) hk
  have s9 : ∀ k, k < 12 → I' (t + 9) k = I (g + 9) k := fun k hk => hs 9 k (by omega) (by omega) hk
  have s10 : ∀ k, k < 12 → I' (t + 10) k = I (g + 10) k := fun k hk => hs 10 k (by omega) (by omega) hk
  have s11 : ∀ k, k < 12 → I' (t + 11) k = I (g + 11) k := fun k hk => hs 11 k (by omega) (by omega) hk
  have s12 : ∀ k, k < 12 → I' (t + 12) k = I (g + 12) k := fun k hk => hs 12 k (by omega) (by omega) hk
  have s13 : ∀ k, k < 8 → I' (t + 13) k = I (g + 13) k := fun k hk => hs 13 k (by omega) (by omega) hk
  have s14 : ∀ k, k < 6 → I' (t + 14) k = I (g + 14) k := fun k hk => hs 14 k (by omega) (by omega) hk
  refine ⟨⟨?_, ?_, ?_⟩, fun k hk => ?_, fun p hp6 => ?_, fun p hp6 => ?_, fun k hk => ?_, ?_⟩
  · rw [hs 2 0 (by omega) (by omega) (by decide), ha _ (by omega)]; exact a0
  · rw [hs 8 0 (by omega) (by omega) (by decide), ha _ (by omega)]; exact a1
  · rw [hs 8 1 (by omega) (by omega) (by decide), ha _ (by omega)]; exact a2
  · rw [s1 k hk, ha _ (by omega)]; exact hset k hk
  · rw [s3 p hp6, s4 p hp6, s5 p hp6, s6 p hp6, s7 p hp6, ha _ (by omega), ha _ (by omega), ha _ (by omega), ha _ (by omega), ha _ (by omega)]; exact hp p hp6
  · rw [s14 p hp6, s13 6 (by omega), ha _ (by omega), ha _ (by omega)]; exact hb p hp6
  · rw [s9 k (by omega), s10 k (by omega), s11 k (by omega), s12 k (by omega), ha _ (by omega), ha _ (by omega), ha _ (by omega), ha _ (by omega), ha _ (by omega)]; exact hl k hk
  · unfold RLa
    rw [s13 0 (by omega), s13 1 (by omega), s13 2 (by omega), s13 3 (by omega), s13 4 (by omega), s13 5 (by omega), ha _ (by omega), ha _ (by omega), ha _ (by omega), ha _ (by omega), ha _ (by omega), ha _ (by omega), ha _ (by omega)]
    exact ⟨r3, r4, r5, r6, r7, r8, r9⟩
theorem ok118 {p : Nat} (h : p < 118) : am_ok (nI p) 118 = true := am_ok_nI h (by omega)
theorem aside_h (m : Nat) : ∀ (n j : Nat) (I : aI), j ≤ 118 → 118 < n + j → f_X7_putAside_h2 m n (nI j) I = some (fun q k => if q = m + 2 ∧ j ≤ k ∧ k < 118 then I (m + 1) k else I q k) := by
  intro n
  induction n with
  | zero => intro j I h1 h2; omega
  | succ n ih =>
    intro j I h1 h2
    rw [f_X7_putAside_h2, show (118 : Int32) = nI 118 from rfl]
    by_cases h : 118 ≤ j
    · rw [if_pos (nI_le h (by omega))]
      congr 1; funext q k
      rw [if_neg (by omega)]
    · rw [if_neg (nI_ge (by omega) (by omega)), ok118 (by omega), am_g_tt, am_g_tt, am_let_ap, nI_tn (by omega), nI_1, ih _ _ (by omega) (by omega)]
      congr 1; funext q k
      rw [am_w_nq _ _ (by omega)]
      by_cases c : q = m + 2 ∧ j + 1 ≤ k ∧ k < 118
      · rw [if_pos c, if_pos (by omega)]
      · rw [if_neg c]
        by_cases c2 : q = m + 2 ∧ k = j
        · rw [am_w_eq _ _ c2, if_pos (by omega), c2.2]
        · rw [am_w_nq _ _ c2, if_neg (by omega)]
theorem back_h (m : Nat) : ∀ (n j : Nat) (I : aI), j ≤ 118 → 118 < n + j → f_X7_putBack_h2 m n (nI j) I = some (fun q k => if q = m + 1 ∧ j ≤ k ∧ k < 118 then I (m + 2) k else I q k) := by
  intro n
  induction n with
  | zero => intro j I h1 h2; omega
  | succ n ih =>
    intro j I h1 h2
    rw [f_X7_putBack_h2, show (118 : Int32) = nI 118 from rfl]
    by_cases h : 118 ≤ j
    · rw [if_pos (nI_le h (by omega))]
      congr 1; funext q k
      rw [if_neg (by omega)]
    · rw [if_neg (nI_ge (by omega) (by omega)), ok118 (by omega), am_g_tt, am_g_tt, am_let_ap, nI_tn (by omega), nI_1, ih _ _ (by omega) (by omega)]
      congr 1; funext q k
      rw [am_w_nq _ _ (by omega)]
      by_cases c : q = m + 1 ∧ j + 1 ≤ k ∧ k < 118
      · rw [if_pos c, if_pos (by omega)]
      · rw [if_neg c]
        by_cases c2 : q = m + 1 ∧ k = j
        · rw [am_w_eq _ _ c2, if_pos (by omega), c2.2]
        · rw [am_w_nq _ _ c2, if_neg (by omega)]
theorem fw_putAside (m : Nat) (I : aI) : f_X7_putAside m I = some (fun q k => if q = m + 2 ∧ k < 118 then I (m + 1) k else I q k) := by
  have hF := am_F_big
  have := aside_h m am_F 0 I (by omega) (by omega)
  rw [f_X7_putAside, show (0 : Int32) = nI 0 from rfl, this]
  congr 1; funext q k
  simp
theorem fw_putBack (m : Nat) (I : aI) : f_X7_putBack m I = some (fun q k => if q = m + 1 ∧ k < 118 then I (m + 2) k else I q k) := by
  have hF := am_F_big
  have := back_h m am_F 0 I (by omega) (by omega)
  rw [f_X7_putBack, show (0 : Int32) = nI 0 from rfl, this]
  congr 1; funext q k
  simp
