/-! PURE: how many ways there are -/
def shN (b : Nat → Nat) (v k : Nat) : Nat := if v ≤ k then b (k - v) else 0
def cN (b : Nat → Nat) (l : Nat) : Nat → Nat → Nat
  | 0, _ => 0
  | n + 1, k => cN b l n k + shN b (l + n) k
theorem shN_add (f h : Nat → Nat) (v k : Nat) : shN (fun k => f k + h k) v k = shN f v k + shN h v k := by
  unfold shN
  by_cases c : v ≤ k
  · rw [if_pos c, if_pos c, if_pos c]
  · rw [if_neg c, if_neg c, if_neg c]
theorem cN_add (f h : Nat → Nat) (l k : Nat) : ∀ n, cN (fun k => f k + h k) l n k = cN f l n k + cN h l n k := by
  intro n
  induction n with
  | zero => rfl
  | succ n ih => rw [cN, cN, cN, ih, shN_add]; omega
theorem shN_sh (b : Nat → Nat) (u v k : Nat) : shN (shN b u) v k = shN (shN b v) u k := by
  unfold shN
  by_cases h : u + v ≤ k
  · rw [if_pos (show v ≤ k by omega), if_pos (show u ≤ k - v by omega), if_pos (show u ≤ k by omega), if_pos (show v ≤ k - u by omega), show k - v - u = k - u - v by omega]
  · by_cases h1 : v ≤ k
    · by_cases h2 : u ≤ k
      · rw [if_pos h1, if_neg (by omega), if_pos h2, if_neg (by omega)]
      · rw [if_pos h1, if_neg (by omega), if_neg h2]
    · by_cases h2 : u ≤ k
      · rw [if_neg h1, if_pos h2, if_neg (by omega)]
      · rw [if_neg h1, if_neg h2]
theorem shN_c (b : Nat → Nat) (l v k : Nat) : ∀ n, shN (cN b l n) v k = cN (shN b v) l n k := by
  intro n
  induction n with
  | zero => unfold shN; split <;> rfl
  | succ n ih =>
    have e : cN b l (n + 1) = fun k => cN b l n k + shN b (l + n) k := rfl
    rw [e, shN_add, ih, shN_sh, cN]
theorem cN_zero (l k : Nat) : ∀ n, cN (fun _ => 0) l n k = 0 := by
  intro n
  induction n with
  | zero => rfl
  | succ n ih => rw [cN, ih]; unfold shN; split <;> rfl
theorem cN_comm (b : Nat → Nat) (l n l' k : Nat) : ∀ n', cN (cN b l n) l' n' k = cN (cN b l' n') l n k := by
  intro n'
  induction n' with
  | zero =>
    have : cN b l' 0 = fun _ => 0 := rfl
    rw [this, cN_zero]; rfl
  | succ n' ih =>
    have e : cN b l' (n' + 1) = fun k => cN b l' n' k + shN b (l' + n') k := rfl
    rw [e, cN_add, cN, ih, shN_c]
theorem cN_left (b : Nat → Nat) (k : Nat) : ∀ n l, cN b l (n + 1) k = shN b l k + cN b (l + 1) n k := by
  intro n
  induction n with
  | zero => intro l; simp [cN]
  | succ n ih => intro l; rw [cN, ih, cN, show l + (n + 1) = l + 1 + n by omega]; omega
theorem cN_out (b : Nat → Nat) (k : Nat) : ∀ n l, k < l → cN b l n k = 0 := by
  intro n
  induction n with
  | zero => intro l _; rfl
  | succ n ih => intro l h; rw [cN, ih l h]; unfold shN; rw [if_neg (by omega)]
def pN (b : Nat → Nat) : Nat → Nat
  | 0 => 0
  | n + 1 => pN b n + b n
theorem pN_c (b : Nat → Nat) (l k : Nat) : ∀ n, pN b (k + 1 - l) = cN b l n k + pN b (k + 1 - l - n) := by
  intro n
  induction n with
  | zero => simp [cN]
  | succ n ih =>
    rw [ih, cN]
    unfold shN
    by_cases c : l + n ≤ k
    · rw [if_pos c, show k + 1 - l - n = (k - (l + n)) + 1 by omega, pN, show k + 1 - l - (n + 1) = k - (l + n) by omega]; omega
    · rw [if_neg c, show k + 1 - l - n = 0 by omega, show k + 1 - l - (n + 1) = 0 by omega]; omega
theorem PS_nat (b : Nat → Nat) : ∀ n, PS (fun i => Int64.ofNat (b i)) n = Int64.ofNat (pN b n) := by
  intro n
  induction n with
  | zero => rfl
  | succ n ih => rw [PS, ih, pN, Int64.ofNat_add]
theorem nW_nat (b : Nat → Nat) {l g : Nat} (h : l ≤ g) (k : Nat) : nW (fun i => Int64.ofNat (b i)) l g k = Int64.ofNat (cN b l (g + 1 - l) k) := by
  unfold nW
  rw [PS_nat, PS_nat, pN_c b l k (g + 1 - l), show k + 1 - l - (g + 1 - l) = k - g by omega, Int64.ofNat_add, Int64.add_sub_cancel]
def wN (L G : Nat → Nat) (sk : Nat → Bool) : Nat → Nat → Nat
  | 0, k => if k = 0 then 1 else 0
  | j + 1, k => if sk j = true then wN L G sk j k else cN (wN L G sk j) (L j) (G j + 1 - L j) k
theorem wF_nat {L G : Nat → Nat} {sk : Nat → Bool} {np : Nat} (h : ∀ j, j < np → L j ≤ G j) : ∀ j, j ≤ np → ∀ k, wF L G sk j k = Int64.ofNat (wN L G sk j k) := by
  intro j
  induction j with
  | zero =>
    intro _ k
    rw [wF, wN]
    split <;> rfl
  | succ j ih =>
    intro hj k
    rw [wF, wN]
    by_cases c : sk j = true
    · rw [if_pos c, if_pos c]; exact ih (by omega) k
    · rw [if_neg c, if_neg c, ← nW_nat _ (h j (by omega))]
      exact nW_congr (fun i _ => ih (by omega) i)
def sN (f : Nat → Nat) (sk : Nat → Bool) : Nat → Nat
  | 0 => 0
  | n + 1 => sN f sk n + (if sk n = true then 0 else f n)
theorem cN_pos (b : Nat → Nat) (k : Nat) : ∀ n l, (0 < cN b l n k ↔ ∃ v, l ≤ v ∧ v < l + n ∧ v ≤ k ∧ 0 < b (k - v)) := by
  intro n
  induction n with
  | zero => intro l; rw [cN]; exact ⟨fun h => by omega, fun ⟨v, h1, h2, _⟩ => by omega⟩
  | succ n ih =>
    intro l
    rw [cN]
    constructor
    · intro h
      by_cases c : 0 < cN b l n k
      · obtain ⟨v, h1, h2, h3, h4⟩ := (ih l).mp c
        exact ⟨v, h1, by omega, h3, h4⟩
      · have : 0 < shN b (l + n) k := by omega
        unfold shN at this
        by_cases c2 : l + n ≤ k
        · rw [if_pos c2] at this
          exact ⟨l + n, by omega, by omega, c2, this⟩
        · rw [if_neg c2] at this; omega
    · rintro ⟨v, h1, h2, h3, h4⟩
      by_cases c : v < l + n
      · have := (ih l).mpr ⟨v, h1, c, h3, h4⟩; omega
      · have : v = l + n := by omega
        subst this
        have : shN b (l + n) k = b (k - (l + n)) := by unfold shN; rw [if_pos h3]
        omega
theorem wN_pos {L G : Nat → Nat} {sk : Nat → Bool} {np : Nat} (h : ∀ j, j < np → L j ≤ G j) : ∀ j, j ≤ np → ∀ k, (0 < wN L G sk j k ↔ sN L sk j ≤ k ∧ k ≤ sN G sk j) := by
  intro j
  induction j with
  | zero =>
    intro _ k
    rw [wN, sN, sN]
    by_cases c : k = 0
    · rw [if_pos c]; omega
    · rw [if_neg c]; omega
  | succ j ih =>
    intro hj k
    rw [wN, sN, sN]
    by_cases c : sk j = true
    · rw [if_pos c, if_pos c, if_pos c]; exact ih (by omega) k
    · have hlg := h j (by omega)
      have hss : sN L sk j ≤ sN G sk j := by
        have : ∀ i, i ≤ j → sN L sk i ≤ sN G sk i := by
          intro i
          induction i with
          | zero => intro _; exact Nat.le_refl _
          | succ i ihi =>
            intro hi
            have := h i (by omega)
            have := ihi (by omega)
            rw [sN, sN]
            split <;> omega
        exact this j (Nat.le_refl _)
      rw [if_neg c, if_neg c, if_neg c, cN_pos]
      constructor
      · rintro ⟨v, h1, h2, h3, h4⟩
        have := (ih (by omega) (k - v)).mp h4
        omega
      · rintro ⟨h1, h2⟩
        by_cases c2 : k ≤ sN L sk j + G j
        · exact ⟨k - sN L sk j, by omega, by omega, by omega, (ih (by omega) _).mpr (by omega)⟩
        · exact ⟨G j, by omega, by omega, by omega, (ih (by omega) _).mpr (by omega)⟩
theorem cN_le {b : Nat → Nat} {M : Nat} (h : ∀ k, b k ≤ M) (k : Nat) : ∀ n l, cN b l n k ≤ n * M := by
  intro n
  induction n with
  | zero => intro l; rw [cN]; omega
  | succ n ih =>
    intro l
    have h1 := ih l
    have h2 : shN b (l + n) k ≤ M := by unfold shN; split; exact h _; omega
    rw [cN, Nat.succ_mul]
    omega
theorem wN_le {L G : Nat → Nat} {sk : Nat → Bool} {np : Nat} (h : ∀ j, j < np → G j ≤ 300) : ∀ j, j ≤ np → ∀ k, wN L G sk j k ≤ 301 ^ j := by
  intro j
  induction j with
  | zero => intro _ k; rw [wN]; split <;> omega
  | succ j ih =>
    intro hj k
    have hp : 301 ^ (j + 1) = 301 * 301 ^ j := by rw [Nat.pow_succ, Nat.mul_comm]
    rw [wN, hp]
    by_cases c : sk j = true
    · rw [if_pos c]
      have := ih (by omega) k
      omega
    · rw [if_neg c]
      have h1 := cN_le (fun k => ih (by omega) k) k (G j + 1 - L j) (L j)
      have h2 := h j (by omega)
      have h3 : (G j + 1 - L j) * 301 ^ j ≤ 301 * 301 ^ j := Nat.mul_le_mul_right _ (by omega)
      omega
theorem wN_first {L G : Nat → Nat} : ∀ j k, wN L G (fun _ => false) (j + 1) k = cN (wN L G (fun i => decide (i = 0)) (j + 1)) (L 0) (G 0 + 1 - L 0) k := by
  intro j
  induction j with
  | zero =>
    intro k
    rw [wN, if_neg (by decide)]
    have : wN L G (fun i => decide (i = 0)) (0 + 1) = wN L G (fun _ => false) 0 := by
      funext i
      show (if decide ((0 : Nat) = 0) = true then wN L G (fun i => decide (i = 0)) 0 i else _) = _
      rw [if_pos (show decide ((0 : Nat) = 0) = true from rfl)]; rfl
    rw [this]
  | succ j ih =>
    intro k
    rw [wN, if_neg (by decide)]
    have e1 : wN L G (fun _ => false) (j + 1) = cN (wN L G (fun i => decide (i = 0)) (j + 1)) (L 0) (G 0 + 1 - L 0) := funext ih
    have e2 : wN L G (fun i => decide (i = 0)) (j + 1 + 1) = cN (wN L G (fun i => decide (i = 0)) (j + 1)) (L (j + 1)) (G (j + 1) + 1 - L (j + 1)) := by
      funext i
      rw [wN, if_neg (by simp)]
    rw [e1, e2, cN_comm]
/-! the questions about ways -/
theorem i64_pos {n : Nat} (h : n < 9223372036854775808) : (lg_cmp (Int64.ofNat n) 0 ≤ 0) ↔ n = 0 := by
  rw [lg_cmp_le, Int64.le_iff_toInt_le, Int64.toInt_ofNat_of_lt h, show (0 : Int64).toInt = 0 from rfl]
  omega
theorem pur_nat {I : aI} {g np nl nd : Nat} (hv : IV I g np nl nd) : ∃ A L G : Nat → Nat, ∀ p, p < np → I (g + 3) p = nI (A p) ∧ I (g + 6) p = nI (L p) ∧ I (g + 7) p = nI (G p) ∧ L p ≤ A p ∧ A p ≤ G p ∧ G p ≤ 300 := by
  refine ⟨fun p => (I (g + 3) p).toInt.toNat, fun p => (I (g + 6) p).toInt.toNat, fun p => (I (g + 7) p).toInt.toNat, fun p hp => ?_⟩
  have hh := hv.2.2.1 p hp
  have e : ∀ z : Int32, 0 ≤ z.toInt → z.toInt ≤ 300 → z = nI z.toInt.toNat := fun z h1 h2 => by
    apply Int32.toInt_inj.mp
    rw [nI_toInt (by omega)]
    omega
  exact ⟨e _ (by omega) (by omega), e _ (by omega) (by omega), e _ (by omega) (by omega), by dsimp only; omega, by dsimp only; omega, by dsimp only; omega⟩
theorem smI_nat {f : Nat → Int32} {A : Nat → Nat} {np : Nat} (h : ∀ p, p < np → f p = nI (A p)) : ∀ n, n ≤ np → smI f n = nI (sN A (fun _ => false) n) := by
  intro n
  induction n with
  | zero => intro _; rfl
  | succ n ih =>
    intro hn
    rw [smI, ih (by omega), h n (by omega), nI_add, sN, if_neg (by decide)]
theorem sN_le {f : Nat → Nat} {sk : Nat → Bool} {np : Nat} (h : ∀ p, p < np → f p ≤ 300) : ∀ n, n ≤ np → sN f sk n ≤ 300 * n := by
  intro n
  induction n with
  | zero => intro _; exact Nat.le_refl _
  | succ n ih =>
    intro hn
    have := ih (by omega)
    have := h n (by omega)
    rw [sN]; split <;> omega
theorem sN_mono {f h : Nat → Nat} {sk : Nat → Bool} {np : Nat} (hh : ∀ p, p < np → f p ≤ h p) : ∀ n, n ≤ np → sN f sk n ≤ sN h sk n := by
  intro n
  induction n with
  | zero => intro _; exact Nat.le_refl _
  | succ n ih =>
    intro hn
    have := ih (by omega)
    have := hh n (by omega)
    rw [sN, sN]; split <;> omega
theorem sN_out {f : Nat → Nat} {p : Nat} : ∀ n, n ≤ p → sN f (fun i => decide (i = p)) n = sN f (fun _ => false) n := by
  intro n
  induction n with
  | zero => intro _; rfl
  | succ n ih =>
    intro hn
    rw [sN, sN, ih (by omega), if_neg (by simp; omega), if_neg (by decide)]
theorem sN_one {f : Nat → Nat} {p : Nat} : ∀ n, p < n → sN f (fun _ => false) n = sN f (fun i => decide (i = p)) n + f p := by
  intro n
  induction n with
  | zero => intro h; omega
  | succ n ih =>
    intro h
    rw [sN, sN, if_neg (show ¬ (false = true) by decide)]
    by_cases e : p = n
    · subst e
      rw [sN_out p (Nat.le_refl _), if_pos (by simp)]; omega
    · rw [ih (by omega), if_neg (by simp; omega)]; omega
theorem fw_waysOf {J : aJ} {w S v : Nat} {W : Nat → Nat} (hJ : ∀ k, k < 1801 → J (w + 1) k = Int64.ofNat (W k)) (hS : S ≤ 1800) (hv : v < 2000) : f_X5_waysOf w (nI S - nI v) J = some (Int64.ofNat (shN W v S)) := by
  rw [f_X5_waysOf, fw_within, am_b1_some]
  unfold shN
  by_cases c : v ≤ S
  · rw [nI_sub c, if_neg (show ¬ (nI (S - v) < 0 ∨ 1800 < nI (S - v)) by rw [nI_neg _ (by omega), false_or, show (1800 : Int32) = nI 1800 from rfl, nI_ltq (by omega) (by omega)]; omega), if_neg one0, ok1801 (by omega), am_g_tt, nI_tn (by omega), if_pos c, hJ _ (by omega)]
  · rw [if_pos (show (nI S - nI v < 0 ∨ 1800 < nI S - nI v) from Or.inl (Int32.lt_iff_toInt_lt.mpr (by rw [sub_toInt (by rw [nI_toInt (by omega), nI_toInt (by omega)]; omega) (by rw [nI_toInt (by omega), nI_toInt (by omega)]; omega), zI, nI_toInt (by omega), nI_toInt (by omega)]; omega))), if_pos rfl, if_neg c]; rfl
theorem ww_h {I : aI} {J : aJ} {w o p S G np : Nat} {W : Nat → Nat} (hn : I o 0 = nI np) (h6 : np ≤ 6) (hp : p < np) (hG : I (o + 5) p = nI G) (hG3 : G ≤ 300) (hS : S ≤ 1800) (hJ : ∀ k, k < 1801 → J (w + 1) k = Int64.ofNat (W k)) : ∀ (n j : Nat) (acc : Nat), j ≤ 301 → 301 < n + j → f_X5_waysWith_h26 w o n (nI p) (nI S) (Int64.ofNat acc) (nI j) I J = some (Int64.ofNat (acc + cN W j (G + 1 - j) S), J) := by
  intro n
  induction n with
  | zero => intro j acc h1 h2; omega
  | succ n ih =>
    intro j acc h1 h2
    rw [f_X5_waysWith_h26, fw_greatestOf hn h6 hp, am_b1_some, hG]
    by_cases c : G < j
    · rw [if_pos (nI_lt c (by omega)), show G + 1 - j = 0 by omega]; rfl
    · rw [if_neg (nI_nlt (by omega) (by omega)), fw_waysOf hJ hS (by omega), am_b1_some, am_let_ap, ← Int64.ofNat_add, nI_1, ih (j + 1) _ (by omega) (by omega), show G + 1 - j = (G - j) + 1 by omega, cN_left, show G + 1 - (j + 1) = G - j by omega, Nat.add_assoc]
theorem cp_h {I Ir : aI} {J : aJ} {g m p S a G np nl nd : Nat} {W : Nat → Nat} (hw : RW I g (Ir (m + 1)) nl nd) (h6 : np ≤ 6) (hp : p < np) (hG : I (g + 7) p = nI G) (hG3 : G ≤ 300) (ha : a ≤ 300) (hS : S ≤ 1800) (hJ : ∀ k, k < 1801 → J (m + 7) k = Int64.ofNat (W k)) : ∀ (n j : Nat) (acc : Nat), j ≤ 301 → 301 < n + j → f_X7_canPay_h49 m n (nI p) (nI a) (nI S) (Int64.ofNat acc) (nI j) Ir J = some (Int64.ofNat (acc + cN W (max j a) (G + 1 - max j a) S), J) := by
  intro n
  induction n with
  | zero => intro j acc h1 h2; omega
  | succ n ih =>
    intro j acc h1 h2
    have r4 := (hw.2.2.1 p (by omega)).2.2.2.2
    rw [f_X7_canPay_h49, show f_X7_of m (nI p) 4 Ir = _ from fw_of (c := 4) (by omega) (by omega), r4, am_b1_some, hG]
    by_cases c : G < j
    · rw [if_pos (nI_lt c (by omega)), show G + 1 - max j a = 0 by omega]; rfl
    · rw [if_neg (nI_nlt (by omega) (by omega))]
      by_cases c1 : S < j
      · rw [if_pos (nI_lt c1 (by omega)), cN_out _ _ _ _ (show S < max j a by omega)]; rfl
      · rw [if_neg (nI_nlt (by omega) (by omega))]
        by_cases c2 : j < a
        · rw [if_pos (nI_lt c2 (by omega)), am_let_ap, Int64.add_zero, nI_1, ih (j + 1) _ (by omega) (by omega), show max (j + 1) a = max j a by omega]
        · rw [if_neg (nI_nlt (by omega) (by omega)), nI_sub (by omega), ok1801 (by omega), am_g_tt, am_let_ap, nI_tn (by omega), hJ _ (by omega), ← Int64.ofNat_add, nI_1, ih (j + 1) _ (by omega) (by omega), show max (j + 1) a = j + 1 by omega, show max j a = j by omega, show G + 1 - j = (G - j) + 1 by omega, cN_left, show G + 1 - (j + 1) = G - j by omega, Nat.add_assoc]
          unfold shN
          rw [if_pos (show j ≤ S by omega)]
