/-! PURE: counting ways -/
theorem am_wJ_eq (J : aJ) {q k q' k' : Nat} (v : Int64) (h : q' = q ∧ k' = k) : am_wJ J q k v q' k' = v := by simp [am_wJ, h]
theorem am_wJ_nq (J : aJ) {q k q' k' : Nat} (v : Int64) (h : ¬ (q' = q ∧ k' = k)) : am_wJ J q k v q' k' = J q' k' := by simp only [am_wJ, if_neg h]
def PS (b : Nat → Int64) : Nat → Int64
  | 0 => 0
  | n + 1 => PS b n + b n
def nW (b : Nat → Int64) (l g k : Nat) : Int64 := PS b (k + 1 - l) - PS b (k - g)
theorem PS_congr {b c : Nat → Int64} : ∀ n, (∀ i, i < n → b i = c i) → PS b n = PS c n := by
  intro n
  induction n with
  | zero => intro _; rfl
  | succ n ih => intro h; rw [PS, PS, ih (fun i hi => h i (by omega)), h n (by omega)]
theorem ok1801 {p : Nat} (h : p < 1801) : am_ok (nI p) 1801 = true := am_ok_nI h (by omega)
theorem ti5_h {w : Nat} {a b : Int32} : ∀ (n j : Nat) (J : aJ), j ≤ 1801 → 1801 < n + j → f_X5_takeIn_h5 w n a b (PS (J (w + 1)) j) (nI j) J = f_X5_takeIn_h40 w am_F a b 0 (fun q k => if q = w + 2 ∧ j ≤ k ∧ k < 1801 then PS (J (w + 1)) (k + 1) else J q k) := by
  intro n
  induction n with
  | zero => intro j J h1 h2; omega
  | succ n ih =>
    intro j J h1 h2
    rw [f_X5_takeIn_h5, show (1801 : Int32) = nI 1801 from rfl]
    by_cases h : 1801 ≤ j
    · rw [if_pos (nI_le h (by omega))]
      congr 1; funext q k
      rw [if_neg (by omega)]
    · rw [if_neg (nI_ge (by omega) (by omega)), ok1801 (by omega), nI_tn (by omega)]
      simp only [am_g_tt, am_let_ap]
      have h5 := ih (j + 1) (am_wJ J (w + 2) j (PS (J (w + 1)) j + J (w + 1) j)) (by omega) (by omega)
      rw [am_wJ_ne _ _ (show w + 1 ≠ w + 2 by omega)] at h5
      rw [nI_1]
      refine Eq.trans h5 ?_
      congr 1; funext q k
      by_cases c : q = w + 2 ∧ j + 1 ≤ k ∧ k < 1801
      · rw [if_pos c, if_pos (show q = w + 2 ∧ j ≤ k ∧ k < 1801 by omega)]
      · rw [if_neg c]
        by_cases c2 : q = w + 2 ∧ k = j
        · rw [am_wJ_eq _ _ c2, if_pos (show q = w + 2 ∧ j ≤ k ∧ k < 1801 by omega), c2.2]; rfl
        · rw [am_wJ_nq _ _ c2, if_neg (by omega)]
def upT (J : aJ) (w n : Nat) : Int64 := if n = 0 then 0 else J (w + 2) (n - 1)
theorem fw_upTo {J : aJ} {w k l : Nat} (hk : k < 1801) (hl : l < 1000) : f_X5_waysUpTo w (nI k - nI l) J = some (upT J w (k + 1 - l)) := by
  rw [f_X5_waysUpTo, fw_within, am_b1_some]
  by_cases c : l ≤ k
  · rw [nI_sub c, if_neg (show ¬ (nI (k - l) < 0 ∨ 1800 < nI (k - l)) by rw [nI_neg _ (by omega), false_or, show (1800 : Int32) = nI 1800 from rfl, nI_ltq (by omega) (by omega)]; omega), if_neg one0, ok1801 (by omega), am_g_tt, nI_tn (by omega), upT, if_neg (by omega), show k + 1 - l - 1 = k - l by omega]
  · rw [if_pos (show (nI k - nI l < 0 ∨ 1800 < nI k - nI l) from Or.inl (Int32.lt_iff_toInt_lt.mpr (by rw [sub_toInt (by rw [nI_toInt (by omega), nI_toInt (by omega)]; omega) (by rw [nI_toInt (by omega), nI_toInt (by omega)]; omega), zI, nI_toInt (by omega), nI_toInt (by omega)]; omega))), if_pos rfl, upT, if_pos (by omega)]
theorem sub_1 (a b : Int32) : a - b - 1 = a - (b + 1) := by
  rw [Int32.sub_eq_add_neg, Int32.sub_eq_add_neg, Int32.sub_eq_add_neg, Int32.neg_add, Int32.add_assoc, ← Int32.sub_eq_add_neg (-b)]
theorem ti40_h {w l g : Nat} (hl : l < 900) (hg : g < 900) : ∀ (n j : Nat) (J : aJ), j ≤ 1801 → 1801 < n + j → f_X5_takeIn_h40 w n (nI l) (nI g) (nI j) J = some (fun q k => if q = w + 1 ∧ j ≤ k ∧ k < 1801 then upT J w (k + 1 - l) - upT J w (k - g) else J q k) := by
  intro n
  induction n with
  | zero => intro j J h1 h2; omega
  | succ n ih =>
    intro j J h1 h2
    rw [f_X5_takeIn_h40, show (1801 : Int32) = nI 1801 from rfl]
    by_cases h : 1801 ≤ j
    · rw [if_pos (nI_le h (by omega))]
      congr 1; funext q k
      rw [if_neg (by omega)]
    · have hu : ∀ v n, upT (am_wJ J (w + 1) j v) w n = upT J w n := fun v n => by
        unfold upT; rw [am_wJ_ne _ _ (show w + 2 ≠ w + 1 by omega)]
      rw [if_neg (nI_ge (by omega) (by omega)), fw_upTo (by omega) (by omega), am_b1_some, sub_1, nI_1 g, fw_upTo (by omega) (by omega), am_b1_some, ok1801 (by omega), nI_tn (by omega), am_g_tt, am_let_ap, nI_1, ih _ _ (by omega) (by omega)]
      congr 1; funext q k
      simp only [hu]
      by_cases c : q = w + 1 ∧ j + 1 ≤ k ∧ k < 1801
      · rw [if_pos c, if_pos (show q = w + 1 ∧ j ≤ k ∧ k < 1801 by omega)]
      · rw [if_neg c]
        by_cases c2 : q = w + 1 ∧ k = j
        · rw [am_wJ_eq _ _ c2, if_pos (show q = w + 1 ∧ j ≤ k ∧ k < 1801 by omega), c2.2, show j + 1 - (g + 1) = j - g by omega]
        · rw [am_wJ_nq _ _ c2, if_neg (by omega)]
theorem fw_takeIn {J : aJ} {w l g : Nat} (hl : l < 900) (hg : g < 900) : ∃ J', f_X5_takeIn w (nI l) (nI g) J = some J' ∧ (∀ k, k < 1801 → J' (w + 1) k = nW (J (w + 1)) l g k) ∧ ∀ q, q ≠ w + 1 → q ≠ w + 2 → J' q = J q := by
  have hF := am_F_big
  have h5 := ti5_h (w := w) (a := nI l) (b := nI g) am_F 0 J (by omega) (by omega)
  have h4 := ti40_h (w := w) hl hg am_F 0 (fun q k => if q = w + 2 ∧ 0 ≤ k ∧ k < 1801 then PS (J (w + 1)) (k + 1) else J q k) (by omega) (by omega)
  refine ⟨_, h5.trans h4, fun k hk => ?_, fun q h1 h2 => ?_⟩
  · have hu : ∀ n, n ≤ 1801 → upT (fun q k => if q = w + 2 ∧ 0 ≤ k ∧ k < 1801 then PS (J (w + 1)) (k + 1) else J q k) w n = PS (J (w + 1)) n := fun n hn => by
      unfold upT
      by_cases c : n = 0
      · rw [if_pos c, c]; rfl
      · rw [if_neg c]
        show (if w + 2 = w + 2 ∧ 0 ≤ n - 1 ∧ n - 1 < 1801 then PS (J (w + 1)) (n - 1 + 1) else J (w + 2) (n - 1)) = _
        rw [if_pos (by omega), show n - 1 + 1 = n by omega]
    show (if w + 1 = w + 1 ∧ 0 ≤ k ∧ k < 1801 then _ else _) = _
    rw [if_pos (by omega), hu _ (by omega), hu _ (by omega)]
    rfl
  · funext k
    show (if q = w + 1 ∧ 0 ≤ k ∧ k < 1801 then _ else (if q = w + 2 ∧ 0 ≤ k ∧ k < 1801 then _ else _)) = _
    rw [if_neg (by omega), if_neg (by omega)]
def wF (L G : Nat → Nat) (sk : Nat → Bool) : Nat → Nat → Int64
  | 0, k => if k = 0 then 1 else 0
  | j + 1, k => if sk j = true then wF L G sk j k else nW (wF L G sk j) (L j) (G j) k
theorem nW_congr {b c : Nat → Int64} {l g k : Nat} (h : ∀ i, i < k + 1 → b i = c i) : nW b l g k = nW c l g k := by
  unfold nW
  rw [PS_congr _ (fun i hi => h i (by omega)), PS_congr (k - g) (fun i hi => h i (by omega))]
theorem others_h {I : aI} {w o np : Nat} {L G : Nat → Nat} {sk : Nat → Bool} {a : Int32} (hn : I o 0 = nI np) (h6 : np ≤ 6) (hL : ∀ p, p < np → I (o + 4) p = nI (L p) ∧ L p < 900) (hG : ∀ p, p < np → I (o + 5) p = nI (G p) ∧ G p < 900) (hsk : ∀ j, j < np → (nI j = a ↔ sk j = true)) : ∀ (n j : Nat) (J : aJ), (∀ k, k < 1801 → J (w + 1) k = wF L G sk j k) → j ≤ np → np < n + j → ∃ J', f_X5_takeInOthers_h32 w o n a (nI j) I J = some J' ∧ (∀ k, k < 1801 → J' (w + 1) k = wF L G sk np k) ∧ ∀ q, q ≠ w + 1 → q ≠ w + 2 → J' q = J q := by
  intro n
  induction n with
  | zero => intro j J _ h1 h2; omega
  | succ n ih =>
    intro j J hJ h1 h2
    rw [f_X5_takeInOthers_h32, hn]
    by_cases h : np ≤ j
    · have : j = np := by omega
      subst this
      rw [if_pos (nI_le h (by omega))]
      exact ⟨J, rfl, hJ, fun _ _ _ => rfl⟩
    · have hj : j < np := by omega
      rw [if_neg (nI_ge (by omega) (by omega)), nI_1]
      by_cases c : sk j = true
      · rw [if_pos ((hsk j hj).mpr c)]
        exact ih (j + 1) J (fun k hk => by rw [wF, if_pos c]; exact hJ k hk) (by omega) (by omega)
      · obtain ⟨J1, z1, z2, z3⟩ := fw_takeIn (J := J) (w := w) (hL j hj).2 (hG j hj).2
        rw [if_neg (fun z => c ((hsk j hj).mp z)), fw_leastOf hn h6 hj, am_b1_some, fw_greatestOf hn h6 hj, am_b1_some, (hL j hj).1, (hG j hj).1, z1, am_b1_some]
        obtain ⟨J2, y1, y2, y3⟩ := ih (j + 1) J1 (fun k hk => by
          rw [z2 k hk, wF, if_neg c]
          exact nW_congr (fun i hi => hJ i (by omega))) (by omega) (by omega)
        exact ⟨J2, y1, y2, fun q n1 n2 => (y3 q n1 n2).trans (z3 q n1 n2)⟩
theorem oini_h {I : aI} {w o : Nat} {a : Int32} : ∀ (n j : Nat) (J : aJ), j ≤ 1801 → 1801 < n + j → f_X5_takeInOthers_h2 w o n a (nI j) I J = f_X5_takeInOthers_h32 w o am_F a 0 I (fun q k => if q = w + 1 ∧ j ≤ k ∧ k < 1801 then (if k = 0 then 1 else 0) else J q k) := by
  intro n
  induction n with
  | zero => intro j J h1 h2; omega
  | succ n ih =>
    intro j J h1 h2
    rw [f_X5_takeInOthers_h2, show (1801 : Int32) = nI 1801 from rfl]
    by_cases h : 1801 ≤ j
    · rw [if_pos (nI_le h (by omega))]
      congr 1; funext q k
      rw [if_neg (by omega)]
    · have hs : ∀ v : Int64, v = (if j = 0 then 1 else 0) → f_X5_takeInOthers_h2 w o n a (nI j + 1) I (am_wJ J (w + 1) j v) = f_X5_takeInOthers_h32 w o am_F a 0 I (fun q k => if q = w + 1 ∧ j ≤ k ∧ k < 1801 then (if k = 0 then 1 else 0) else J q k) := fun v hv => by
        rw [nI_1, ih _ _ (by omega) (by omega)]
        congr 1; funext q k
        by_cases c : q = w + 1 ∧ j + 1 ≤ k ∧ k < 1801
        · rw [if_pos c, if_pos (show q = w + 1 ∧ j ≤ k ∧ k < 1801 by omega)]
        · rw [if_neg c]
          by_cases c2 : q = w + 1 ∧ k = j
          · rw [am_wJ_eq _ _ c2, if_pos (show q = w + 1 ∧ j ≤ k ∧ k < 1801 by omega), c2.2]; exact hv
          · rw [am_wJ_nq _ _ c2, if_neg (show ¬ (q = w + 1 ∧ j ≤ k ∧ k < 1801) by omega)]
      rw [if_neg (nI_ge (by omega) (by omega)), ok1801 (by omega), nI_tn (by omega)]
      simp only [am_g_tt, am_let_ap]
      by_cases z : j = 0
      · rw [if_pos (show nI j = 0 by rw [z]; rfl)]
        exact hs 1 (by rw [if_pos z])
      · rw [if_neg (nI_ne0 (by omega) (by omega))]
        exact hs 0 (by rw [if_neg z])
theorem fw_others {I : aI} {J : aJ} {w o np : Nat} {L G : Nat → Nat} {sk : Nat → Bool} {a : Int32} (hn : I o 0 = nI np) (h6 : np ≤ 6) (hL : ∀ p, p < np → I (o + 4) p = nI (L p) ∧ L p < 900) (hG : ∀ p, p < np → I (o + 5) p = nI (G p) ∧ G p < 900) (hsk : ∀ j, j < np → (nI j = a ↔ sk j = true)) : ∃ J', f_X5_takeInOthers w o a I J = some J' ∧ (∀ k, k < 1801 → J' (w + 1) k = wF L G sk np k) ∧ ∀ q, q ≠ w + 1 → q ≠ w + 2 → J' q = J q := by
  have hF := am_F_big
  have h2 := oini_h (I := I) (w := w) (o := o) (a := a) am_F 0 J (by omega) (by omega)
  obtain ⟨J', z1, z2, z3⟩ := others_h (w := w) hn h6 hL hG hsk am_F 0 (fun q k => if q = w + 1 ∧ 0 ≤ k ∧ k < 1801 then (if k = 0 then 1 else 0) else J q k) (fun k hk => by
    show (if w + 1 = w + 1 ∧ 0 ≤ k ∧ k < 1801 then (if k = 0 then (1 : Int64) else 0) else _) = _
    rw [if_pos (by omega)]; rfl) (by omega) (by omega)
  refine ⟨J', h2.trans z1, z2, fun q n1 n2 => (z3 q n1 n2).trans ?_⟩
  funext k
  show (if q = w + 1 ∧ 0 ≤ k ∧ k < 1801 then _ else _) = _
  rw [if_neg (by omega)]
/-! the reference -/
def nWp (b : Nat → Int64) (l g j : Nat) : Int64 := PS b (j - l) - PS b (j - 1 - g)
theorem i64_alg (A B x y : Int64) : A - B + x - y = (A + x) - (B + y) := by
  simp only [Int64.sub_eq_add_neg, Int64.neg_add, Int64.add_assoc]
  congr 1
  rw [← Int64.add_assoc, Int64.add_comm (-B) x, Int64.add_assoc]
theorem stepW {b : Nat → Int64} {l g j : Nat} : nWp b l g j + (if j < l then 0 else b (j - l)) - (if j ≤ g then 0 else b (j - g - 1)) = nW b l g j := by
  unfold nWp nW
  have h1 : PS b (j + 1 - l) = PS b (j - l) + (if j < l then 0 else b (j - l)) := by
    by_cases c : j < l
    · rw [if_pos c, show j + 1 - l = 0 by omega, show j - l = 0 by omega, Int64.add_zero]
    · rw [if_neg c, show j + 1 - l = (j - l) + 1 by omega, PS]
  have h2 : PS b (j - g) = PS b (j - 1 - g) + (if j ≤ g then 0 else b (j - g - 1)) := by
    by_cases c : j ≤ g
    · rw [if_pos c, show j - g = 0 by omega, show j - 1 - g = 0 by omega, Int64.add_zero]
    · rw [if_neg c, show j - g = (j - 1 - g) + 1 by omega, PS, show j - 1 - g + 1 - 1 = j - 1 - g by omega]
  rw [i64_alg, ← h1, ← h2]
theorem add32_h {m l g : Nat} (hl : l < 900) (hg : g < 900) : ∀ (n j : Nat) (J : aJ), j ≤ 1801 → 1801 < n + j → f_X7_addPurse_h32 m n (nI l) (nI g) (nWp (J (m + 8)) l g j) (nI j) J = some (fun q k => if q = m + 7 ∧ j ≤ k ∧ k < 1801 then nW (J (m + 8)) l g k else J q k) := by
  intro n
  induction n with
  | zero => intro j J h1 h2; omega
  | succ n ih =>
    intro j J h1 h2
    rw [f_X7_addPurse_h32, show (1801 : Int32) = nI 1801 from rfl]
    by_cases h : 1801 ≤ j
    · rw [if_pos (nI_le h (by omega))]
      congr 1; funext q k
      rw [if_neg (by omega)]
    · have hb84 : ∀ s0 s1 : Int64, s1 - s0 = nW (J (m + 8)) l g j → f_X7_addPurse_b84 m (f_X7_addPurse_h32 m n) (nI l) (nI g) (nI j) s0 s1 J = some (fun q k => if q = m + 7 ∧ j ≤ k ∧ k < 1801 then nW (J (m + 8)) l g k else J q k) := fun s0 s1 hs => by
        have h5 := ih (j + 1) (am_wJ J (m + 7) j (nW (J (m + 8)) l g j)) (by omega) (by omega)
        rw [am_wJ_ne _ _ (show m + 8 ≠ m + 7 by omega)] at h5
        rw [f_X7_addPurse_b84, am_let_ap, ok1801 (by omega), nI_tn (by omega), am_g_tt, am_let_ap, hs, nI_1]
        refine Eq.trans h5 ?_
        congr 1; funext q k
        by_cases c : q = m + 7 ∧ j + 1 ≤ k ∧ k < 1801
        · rw [if_pos c, if_pos (show q = m + 7 ∧ j ≤ k ∧ k < 1801 by omega)]
        · rw [if_neg c]
          by_cases c2 : q = m + 7 ∧ k = j
          · rw [am_wJ_eq _ _ c2, if_pos (show q = m + 7 ∧ j ≤ k ∧ k < 1801 by omega), c2.2]
          · rw [am_wJ_nq _ _ c2, if_neg (by omega)]
      have hb60 : ∀ s0 s1 : Int64, s0 = (if j < l then 0 else J (m + 8) (j - l)) → s1 = nWp (J (m + 8)) l g j → f_X7_addPurse_b60 m (f_X7_addPurse_h32 m n) (nI l) (nI g) (nI j) s0 s1 J = some (fun q k => if q = m + 7 ∧ j ≤ k ∧ k < 1801 then nW (J (m + 8)) l g k else J q k) := fun s0 s1 hs0 hs1 => by
        have hst := stepW (b := J (m + 8)) (l := l) (g := g) (j := j)
        rw [← hs0, ← hs1] at hst
        rw [f_X7_addPurse_b60, am_let_ap]
        by_cases c : j ≤ g
        · rw [if_pos c] at hst
          rw [if_pos (nI_le c (by omega))]
          exact hb84 _ _ hst
        · rw [if_neg c] at hst
          rw [if_neg (nI_ge (by omega) (by omega)), nI_sub (by omega), show (1 : Int32) = nI 1 from rfl, nI_sub (by omega), ok1801 (by omega), am_g_tt, nI_tn (by omega)]
          exact hb84 _ _ hst
      rw [if_neg (nI_ge (by omega) (by omega))]
      by_cases c : j < l
      · rw [if_pos (nI_lt c (by omega))]
        exact hb60 _ _ (by rw [if_pos c]) rfl
      · rw [if_neg (nI_nlt (by omega) (by omega)), nI_sub (by omega), ok1801 (by omega), am_g_tt, nI_tn (by omega)]
        exact hb60 _ _ (by rw [if_neg c]) rfl
theorem add2_h {m : Nat} {a b : Int32} : ∀ (n j : Nat) (J : aJ), j ≤ 1801 → 1801 < n + j → f_X7_addPurse_h2 m n a b (nI j) J = f_X7_addPurse_h32 m am_F a b 0 0 (fun q k => if q = m + 8 ∧ j ≤ k ∧ k < 1801 then J (m + 7) k else J q k) := by
  intro n
  induction n with
  | zero => intro j J h1 h2; omega
  | succ n ih =>
    intro j J h1 h2
    rw [f_X7_addPurse_h2, show (1801 : Int32) = nI 1801 from rfl]
    by_cases h : 1801 ≤ j
    · rw [if_pos (nI_le h (by omega))]
      congr 1; funext q k
      rw [if_neg (by omega)]
    · rw [if_neg (nI_ge (by omega) (by omega)), ok1801 (by omega), nI_tn (by omega), am_g_tt, am_g_tt, am_let_ap, nI_1, ih _ _ (by omega) (by omega), am_wJ_ne _ _ (show m + 7 ≠ m + 8 by omega)]
      congr 1; funext q k
      by_cases c : q = m + 8 ∧ j + 1 ≤ k ∧ k < 1801
      · rw [if_pos c, if_pos (show q = m + 8 ∧ j ≤ k ∧ k < 1801 by omega)]
      · rw [if_neg c]
        by_cases c2 : q = m + 8 ∧ k = j
        · rw [am_wJ_eq _ _ c2, if_pos (show q = m + 8 ∧ j ≤ k ∧ k < 1801 by omega), c2.2]
        · rw [am_wJ_nq _ _ c2, if_neg (by omega)]
theorem fw_addPurse {J : aJ} {m l g : Nat} (hl : l < 900) (hg : g < 900) : ∃ J', f_X7_addPurse m (nI l) (nI g) J = some J' ∧ (∀ k, k < 1801 → J' (m + 7) k = nW (J (m + 7)) l g k) ∧ ∀ q, q ≠ m + 7 → q ≠ m + 8 → J' q = J q := by
  have hF := am_F_big
  have h2 := add2_h (m := m) (a := nI l) (b := nI g) am_F 0 J (by omega) (by omega)
  obtain ⟨J1, hJ1⟩ : ∃ J1 : aJ, J1 = (fun q k => if q = m + 8 ∧ 0 ≤ k ∧ k < 1801 then J (m + 7) k else J q k) := ⟨_, rfl⟩
  have h3 := add32_h (m := m) hl hg am_F 0 J1 (by omega) (by omega)
  have e0 : nWp (J1 (m + 8)) l g 0 = 0 := by
    unfold nWp
    rw [show 0 - l = 0 by omega, show 0 - 1 - g = 0 by omega, Int64.sub_self]
  rw [e0] at h3
  rw [← hJ1] at h2
  refine ⟨_, h2.trans h3, fun k hk => ?_, fun q h1 h2 => ?_⟩
  · show (if m + 7 = m + 7 ∧ 0 ≤ k ∧ k < 1801 then _ else _) = _
    rw [if_pos (by omega)]
    refine nW_congr (fun i hi => ?_)
    rw [hJ1]
    show (if m + 8 = m + 8 ∧ 0 ≤ i ∧ i < 1801 then _ else _) = _
    rw [if_pos (by omega)]
  · funext k
    show (if q = m + 7 ∧ 0 ≤ k ∧ k < 1801 then _ else J1 q k) = _
    rw [if_neg (by omega), hJ1]
    show (if q = m + 8 ∧ 0 ≤ k ∧ k < 1801 then _ else _) = _
    rw [if_neg (by omega)]
theorem lay_h {I Ir : aI} {g m np nl nd : Nat} {L G : Nat → Nat} {sk : Nat → Bool} {a : Int32} (hw : RW I g (Ir (m + 1)) nl nd) (hn : I (g + 2) 0 = nI np) (h6 : np ≤ 6) (hL : ∀ p, p < np → I (g + 6) p = nI (L p) ∧ L p < 900) (hG : ∀ p, p < np → I (g + 7) p = nI (G p) ∧ G p < 900) (hsk : ∀ j, j < np → (nI j = a ↔ sk j = true)) : ∀ (n j : Nat) (J : aJ), (∀ k, k < 1801 → J (m + 7) k = wF L G sk j k) → j ≤ np → np < n + j → ∃ J', f_X7_layWays_h32 m n a (nI j) Ir J = some J' ∧ (∀ k, k < 1801 → J' (m + 7) k = wF L G sk np k) ∧ ∀ q, q ≠ m + 7 → q ≠ m + 8 → J' q = J q := by
  intro n
  induction n with
  | zero => intro j J _ h1 h2; omega
  | succ n ih =>
    intro j J hJ h1 h2
    rw [f_X7_layWays_h32, hw.1.1, hn]
    by_cases h : np ≤ j
    · have : j = np := by omega
      subst this
      rw [if_pos (nI_le h (by omega))]
      exact ⟨J, rfl, hJ, fun _ _ _ => rfl⟩
    · have hj : j < np := by omega
      obtain ⟨r0, r1, r2, r3, r4⟩ := hw.2.2.1 j (by omega)
      rw [if_neg (nI_ge (by omega) (by omega)), nI_1]
      by_cases c : sk j = true
      · rw [if_pos ((hsk j hj).mpr c)]
        exact ih (j + 1) J (fun k hk => by rw [wF, if_pos c]; exact hJ k hk) (by omega) (by omega)
      · obtain ⟨J1, z1, z2, z3⟩ := fw_addPurse (J := J) (m := m) (hL j hj).2 (hG j hj).2
        rw [if_neg (fun z => c ((hsk j hj).mp z)), show f_X7_of m (nI j) 3 Ir = _ from fw_of (c := 3) (by omega) (by omega), r3, am_b1_some, show f_X7_of m (nI j) 4 Ir = _ from fw_of (c := 4) (by omega) (by omega), r4, am_b1_some, (hL j hj).1, (hG j hj).1, z1, am_b1_some]
        obtain ⟨J2, y1, y2, y3⟩ := ih (j + 1) J1 (fun k hk => by
          rw [z2 k hk, wF, if_neg c]
          exact nW_congr (fun i hi => hJ i (by omega))) (by omega) (by omega)
        exact ⟨J2, y1, y2, fun q n1 n2 => (y3 q n1 n2).trans (z3 q n1 n2)⟩
theorem lini_h {I : aI} {m : Nat} {a : Int32} : ∀ (n j : Nat) (J : aJ), j ≤ 1801 → 1801 < n + j → f_X7_layWays_h2 m n a (nI j) I J = f_X7_layWays_h32 m am_F a 0 I (fun q k => if q = m + 7 ∧ j ≤ k ∧ k < 1801 then (if k = 0 then 1 else 0) else J q k) := by
  intro n
  induction n with
  | zero => intro j J h1 h2; omega
  | succ n ih =>
    intro j J h1 h2
    rw [f_X7_layWays_h2, show (1801 : Int32) = nI 1801 from rfl]
    by_cases h : 1801 ≤ j
    · rw [if_pos (nI_le h (by omega))]
      congr 1; funext q k
      rw [if_neg (by omega)]
    · have hs : ∀ v : Int64, v = (if j = 0 then 1 else 0) → f_X7_layWays_h2 m n a (nI j + 1) I (am_wJ J (m + 7) j v) = f_X7_layWays_h32 m am_F a 0 I (fun q k => if q = m + 7 ∧ j ≤ k ∧ k < 1801 then (if k = 0 then 1 else 0) else J q k) := fun v hv => by
        rw [nI_1, ih _ _ (by omega) (by omega)]
        congr 1; funext q k
        by_cases c : q = m + 7 ∧ j + 1 ≤ k ∧ k < 1801
        · rw [if_pos c, if_pos (show q = m + 7 ∧ j ≤ k ∧ k < 1801 by omega)]
        · rw [if_neg c]
          by_cases c2 : q = m + 7 ∧ k = j
          · rw [am_wJ_eq _ _ c2, if_pos (show q = m + 7 ∧ j ≤ k ∧ k < 1801 by omega), c2.2]; exact hv
          · rw [am_wJ_nq _ _ c2, if_neg (show ¬ (q = m + 7 ∧ j ≤ k ∧ k < 1801) by omega)]
      rw [if_neg (nI_ge (by omega) (by omega)), ok1801 (by omega), nI_tn (by omega)]
      simp only [am_g_tt, am_let_ap]
      by_cases z : j = 0
      · rw [if_pos (show nI j = 0 by rw [z]; rfl)]
        exact hs 1 (by rw [if_pos z])
      · rw [if_neg (nI_ne0 (by omega) (by omega))]
        exact hs 0 (by rw [if_neg z])
theorem fw_layWays {I Ir : aI} {J : aJ} {g m np nl nd : Nat} {L G : Nat → Nat} {sk : Nat → Bool} {a : Int32} (hw : RW I g (Ir (m + 1)) nl nd) (hn : I (g + 2) 0 = nI np) (h6 : np ≤ 6) (hL : ∀ p, p < np → I (g + 6) p = nI (L p) ∧ L p < 900) (hG : ∀ p, p < np → I (g + 7) p = nI (G p) ∧ G p < 900) (hsk : ∀ j, j < np → (nI j = a ↔ sk j = true)) : ∃ J', f_X7_layWays m a Ir J = some J' ∧ (∀ k, k < 1801 → J' (m + 7) k = wF L G sk np k) ∧ ∀ q, q ≠ m + 7 → q ≠ m + 8 → J' q = J q := by
  have hF := am_F_big
  have h2 := lini_h (I := Ir) (m := m) (a := a) am_F 0 J (by omega) (by omega)
  obtain ⟨J', z1, z2, z3⟩ := lay_h (m := m) (Ir := Ir) hw hn h6 hL hG hsk am_F 0 (fun q k => if q = m + 7 ∧ 0 ≤ k ∧ k < 1801 then (if k = 0 then 1 else 0) else J q k) (fun k hk => by
    show (if m + 7 = m + 7 ∧ 0 ≤ k ∧ k < 1801 then (if k = 0 then (1 : Int64) else 0) else _) = _
    rw [if_pos (by omega)]; rfl) (by omega) (by omega)
  refine ⟨J', h2.trans z1, z2, fun q n1 n2 => (z3 q n1 n2).trans ?_⟩
  funext k
  show (if q = m + 7 ∧ 0 ≤ k ∧ k < 1801 then _ else _) = _
  rw [if_neg (by omega)]
