/-! PURE: reading the pad -/
/-- the sign at a place of the pad -/
def sg (c : Nat → Nat) (len a : Nat) : Nat := if a < len then c a else 0
def PD (I : aI) (o len : Nat) (c : Nat → Nat) : Prop := I o 1 = nI len ∧ len ≤ 60 ∧ ∀ k, k < len → I (o + 1) k = nI (c k) ∧ 33 ≤ c k ∧ c k ≤ 126
def PM (I : aI) (m len : Nat) (c : Nat → Nat) : Prop := I m 5 = nI len ∧ len ≤ 60 ∧ ∀ k, k < len → I (m + 5) k = nI (c k) ∧ 33 ≤ c k ∧ c k ≤ 126
theorem PD.sgl {I : aI} {o len : Nat} {c : Nat → Nat} (h : PD I o len c) (a : Nat) : sg c len a ≤ 126 := by
  unfold sg
  by_cases e : a < len
  · rw [if_pos e]; exact (h.2.2 a e).2.2
  · rw [if_neg e]; omega
theorem sg_pos {c : Nat → Nat} {len a : Nat} (h : 0 < sg c len a) : a < len := by
  unfold sg at h
  by_cases e : a < len
  · exact e
  · rw [if_neg e] at h; omega
theorem fw_signAt {I : aI} {o len a : Nat} {c : Nat → Nat} (h : PD I o len c) (ha : a ≤ 1000) : f_X3_signAt o (nI a) I = some (nI (sg c len a)) := by
  obtain ⟨h1, h2, h3⟩ := h
  rw [f_X3_signAt, if_neg (nI_pos (by omega)), h1]
  unfold sg
  by_cases e : a < len
  · rw [if_neg (nI_ge (by omega) (by omega)), am_g_of _ (am_ok_nI (show a < 60 by omega) (by omega)), nI_tn (by omega), if_pos e, (h3 a e).1]
  · rw [if_pos (nI_le (by omega) (by omega)), if_neg e]; rfl
theorem fw_nextS {I : aI} {m len a : Nat} {c : Nat → Nat} (h : PM I m len c) (h9 : I m 9 = nI a) (ha : a ≤ 1000) : f_X7_next m I = some (nI (sg c len a)) := by
  obtain ⟨h1, h2, h3⟩ := h
  rw [f_X7_next, h1, h9]
  unfold sg
  by_cases e : a < len
  · rw [if_neg (nI_ge (by omega) (by omega)), am_g_of _ (am_ok_nI (show a < 60 by omega) (by omega)), nI_tn (by omega), if_pos e, (h3 a e).1]
  · rw [if_pos (nI_le (by omega) (by omega)), if_neg e]; rfl
theorem PD.w {I : aI} {o len k : Nat} {c : Nat → Nat} {v : Int32} (h : PD I o len c) (hk : k ≠ 1) : PD (am_w I o k v) o len c := by
  obtain ⟨h1, h2, h3⟩ := h
  refine ⟨by rw [am_w_nq _ _ (by omega)]; exact h1, h2, fun j hj => ?_⟩
  rw [am_w_nq _ _ (by omega)]; exact h3 j hj
theorem PM.w {I : aI} {m len k : Nat} {c : Nat → Nat} {v : Int32} (h : PM I m len c) (hk : k ≠ 5) : PM (am_w I m k v) m len c := by
  obtain ⟨h1, h2, h3⟩ := h
  refine ⟨by rw [am_w_nq _ _ (by omega)]; exact h1, h2, fun j hj => ?_⟩
  rw [am_w_nq _ _ (by omega)]; exact h3 j hj
theorem PM.w9 {I : aI} {m len k : Nat} {c : Nat → Nat} {v : Int32} (h : PM I m len c) : PM (am_w I (m + 9) k v) m len c := by
  obtain ⟨h1, h2, h3⟩ := h
  refine ⟨by rw [am_w_nq _ _ (by omega)]; exact h1, h2, fun j hj => ?_⟩
  rw [am_w_nq _ _ (by omega)]; exact h3 j hj
/-- a number is read on -/
def numL (s : Nat → Nat) (hi : Nat) : Nat → Nat → Nat → Nat × Nat
  | 0, v, a => (v, a)
  | n + 1, v, a => if v ≠ 0 ∧ 48 ≤ s a ∧ s a ≤ 57 ∧ v * 10 + (s a - 48) ≤ hi then numL s hi n (v * 10 + (s a - 48)) (a + 1) else (v, a)
def num (s : Nat → Nat) (lo hi a : Nat) : Option (Nat × Nat) := if 48 + lo ≤ s a ∧ s a ≤ 57 ∧ s a ≤ 48 + hi then some (numL s hi 2 (s a - 48) (a + 1)) else none
theorem numL_a {c : Nat → Nat} {len hi : Nat} : ∀ n v a, a ≤ len → a ≤ (numL (sg c len) hi n v a).2 ∧ (numL (sg c len) hi n v a).2 ≤ len := by
  intro n
  induction n with
  | zero => intro v a h; exact ⟨Nat.le_refl _, h⟩
  | succ n ih =>
    intro v a h
    rw [numL]
    by_cases e : v ≠ 0 ∧ 48 ≤ sg c len a ∧ sg c len a ≤ 57 ∧ v * 10 + (sg c len a - 48) ≤ hi
    · rw [if_pos e]
      have := sg_pos (c := c) (len := len) (a := a) (by omega)
      have := ih (v * 10 + (sg c len a - 48)) (a + 1) (by omega)
      omega
    · rw [if_neg e]; exact ⟨Nat.le_refl _, h⟩
theorem numL_v {s : Nat → Nat} {hi : Nat} : ∀ n v a, v ≤ hi → (numL s hi n v a).1 ≤ hi := by
  intro n
  induction n with
  | zero => intro v a h; exact h
  | succ n ih =>
    intro v a h
    rw [numL]
    split
    · exact ih _ _ (by omega)
    · exact h
theorem num_a {c : Nat → Nat} {len lo hi a v b : Nat} (h : num (sg c len) lo hi a = some (v, b)) : a + 1 ≤ b ∧ b ≤ len ∧ v ≤ hi := by
  unfold num at h
  by_cases e : 48 + lo ≤ sg c len a ∧ sg c len a ≤ 57 ∧ sg c len a ≤ 48 + hi
  · rw [if_pos e] at h
    have hp := sg_pos (c := c) (len := len) (a := a) (by omega)
    have h1 := numL_a (c := c) (len := len) (hi := hi) 2 (sg c len a - 48) (a + 1) (by omega)
    have h2 := numL_v (s := sg c len) (hi := hi) 2 (sg c len a - 48) (a + 1) (by omega)
    injection h with h
    rw [h] at h1 h2
    exact ⟨h1.1, h1.2, h2⟩
  · rw [if_neg e] at h; cases h
theorem fw_digitAt {I : aI} {o len a : Nat} {c : Nat → Nat} (h : PD I o len c) (ha : a ≤ 1000) : f_X3_digitAt o (nI a) I = some (if 48 ≤ sg c len a ∧ sg c len a ≤ 57 then nI (sg c len a - 48) else -6) := by
  have hs := h.sgl a
  rw [f_X3_digitAt, fw_signAt h ha, am_b1_some, fw_within, am_b1_some]
  by_cases e : 48 ≤ sg c len a ∧ sg c len a ≤ 57
  · rw [if_neg (show ¬ (nI (sg c len a) < 48 ∨ 57 < nI (sg c len a)) by rw [show (48 : Int32) = nI 48 from rfl, show (57 : Int32) = nI 57 from rfl, nI_ltq (by omega) (by omega), nI_ltq (by omega) (by omega)]; omega), if_neg one0, if_pos e, show (48 : Int32) = nI 48 from rfl, nI_sub (by omega)]
  · rw [if_pos (show (nI (sg c len a) < 48 ∨ 57 < nI (sg c len a)) by rw [show (48 : Int32) = nI 48 from rfl, show (57 : Int32) = nI 57 from rfl, nI_ltq (by omega) (by omega), nI_ltq (by omega) (by omega)]; omega), if_pos rfl, if_neg e]
theorem readN_h {o len hi : Nat} {c : Nat → Nat} (hhi : hi ≤ 300) : ∀ (n k v a : Nat) (I : aI), PD I o len c → I o 2 = nI a → a + k ≤ 100 → v ≤ hi → k ≤ 2 → k < n → f_X3_readNumber_h35 o n (nI hi) (nI v) (nI (3 - k)) I = some (nI (numL (sg c len) hi k v a).1, am_w I o 2 (nI (numL (sg c len) hi k v a).2)) := by
  intro n
  induction n with
  | zero => intro k v a I h1 h2 h3 h4 h5 h6; omega
  | succ n ih =>
    intro k v a I h1 h2 h3 h4 h5 h6
    rw [f_X3_readNumber_h35, show (3 : Int32) = nI 3 from rfl]
    cases k with
    | zero => rw [if_pos (nI_le (by omega) (by omega)), numL, ← h2, am_w_id]
    | succ k =>
      rw [if_neg (nI_ge (by omega) (by omega)), numL]
      by_cases e0 : v = 0
      · rw [if_pos (show nI v ≤ 0 by rw [e0]; decide), if_neg (fun z => z.1 e0), ← h2, am_w_id]
      · rw [if_neg (nI_nle (by omega) (by omega)), h2, fw_digitAt h1 (by omega), am_b1_some]
        by_cases e1 : 48 ≤ sg c len a ∧ sg c len a ≤ 57
        · have e2 : nI v * 10 + nI (sg c len a - 48) = nI (v * 10 + (sg c len a - 48)) := by rw [show (10 : Int32) = nI 10 from rfl, nI_mul, nI_add]
          rw [if_pos e1, if_neg (by rw [nI_n6 _ (by omega)]; exact fun h => h), e2]
          by_cases e3 : v * 10 + (sg c len a - 48) ≤ hi
          · rw [if_pos (nI_le e3 (by omega)), if_pos (show v ≠ 0 ∧ 48 ≤ sg c len a ∧ sg c len a ≤ 57 ∧ v * 10 + (sg c len a - 48) ≤ hi from ⟨e0, e1.1, e1.2, e3⟩), am_let_ap, am_let_ap, nI_1, nI_1, show 3 - (k + 1) + 1 = 3 - k by omega, ih k _ (a + 1) _ (h1.w (by omega)) (am_w_eq _ _ ⟨rfl, rfl⟩) (by omega) e3 (by omega) (by omega)]
            congr 2
            funext q i
            by_cases z : q = o ∧ i = 2
            · rw [am_w_eq _ _ z, am_w_eq _ _ z]
            · rw [am_w_nq _ _ z, am_w_nq _ _ z, am_w_nq _ _ z]
          · rw [if_neg (nI_ge (by omega) (by omega)), if_neg (fun z => e3 z.2.2.2), ← h2, am_w_id]
        · rw [if_neg e1, if_pos rfl, if_neg (fun z => e1 ⟨z.2.1, z.2.2.1⟩), ← h2, am_w_id]
theorem w_w (I : aI) (q k : Nat) (u v : Int32) : am_w (am_w I q k u) q k v = am_w I q k v := by
  funext p i
  by_cases z : p = q ∧ i = k
  · rw [am_w_eq _ _ z, am_w_eq _ _ z]
  · rw [am_w_nq _ _ z, am_w_nq _ _ z, am_w_nq _ _ z]
theorem fw_readNumber {o len hi lo a : Nat} {c : Nat → Nat} {I : aI} (hhi : hi ≤ 300) (hlo : lo ≤ hi) (h1 : PD I o len c) (h2 : I o 2 = nI a) (h3 : a ≤ 90) : f_X3_readNumber o (nI lo) (nI hi) I = some (match num (sg c len) lo hi a with | none => (-6, I) | some (v, b) => (nI v, am_w I o 2 (nI b))) := by
  have hF := am_F_big
  rw [f_X3_readNumber, h2, fw_digitAt h1 (by omega), am_b1_some]
  unfold num
  by_cases e1 : 48 ≤ sg c len a ∧ sg c len a ≤ 57
  · rw [if_pos e1]
    by_cases e2 : 48 + lo ≤ sg c len a
    · rw [if_neg (nI_nlt (by omega) (by omega))]
      by_cases e3 : sg c len a ≤ 48 + hi
      · have := readN_h (o := o) (len := len) (c := c) hhi am_F 2 (sg c len a - 48) (a + 1) (am_w I o 2 (nI (a + 1))) (h1.w (by omega)) (am_w_eq _ _ ⟨rfl, rfl⟩) (by omega) (by omega) (by omega) (by omega)
        rw [w_w] at this
        rw [if_pos (nI_le (by omega) (by omega)), am_let_ap, nI_1, if_pos ⟨e2, e1.2, e3⟩]
        exact this
      · rw [if_neg (nI_ge (by omega) (by omega)), if_neg (fun z => e3 z.2.2)]
    · rw [if_pos (nI_lt (by omega) (by omega)), if_neg (fun z => e2 z.1)]
  · rw [if_neg e1, if_pos (Int32.lt_iff_toInt_lt.mpr (by rw [n6I, nI_toInt (by omega)]; omega)), if_neg (fun z => e1 ⟨by omega, z.2.1⟩)]
theorem takeN_h {m len hi : Nat} {c : Nat → Nat} (hhi : hi ≤ 300) : ∀ (k n v a : Nat) (I : aI), PM I m len c → I m 9 = nI a → a + k ≤ 100 → v ≤ hi → k ≤ 2 → k < n → (v = 0 ∨ hi < v * 10 ^ (k + 1)) → f_X7_takeNumber_h72 m n (nI hi) (nI v) I = some (nI (numL (sg c len) hi k v a).1, am_w I m 9 (nI (numL (sg c len) hi k v a).2)) := by
  intro k
  induction k with
  | zero =>
    intro n v a I h1 h2 h3 h4 h5 h6 h7
    obtain ⟨n, rfl⟩ : ∃ t, n = t + 1 := ⟨n - 1, by omega⟩
    have hs : sg c len a ≤ 126 := by
      unfold sg
      by_cases e : a < len
      · rw [if_pos e]; exact (h1.2.2 a e).2.2
      · rw [if_neg e]; omega
    rw [f_X7_takeNumber_h72, numL]
    by_cases e0 : v = 0
    · rw [if_pos (show nI v ≤ 0 by rw [e0]; decide), ← h2, am_w_id]
    · rw [if_neg (nI_nle (by omega) (by omega)), fw_nextS h1 h2 (by omega), am_b1_some, fw_in, am_b1_some]
      by_cases e1 : 48 ≤ sg c len a ∧ sg c len a ≤ 57
      · have h8 := h7.resolve_left e0
        have e2 : (10 : Int32) * nI v + nI (sg c len a) - 48 = nI (v * 10 + (sg c len a - 48)) := by rw [show (10 : Int32) = nI 10 from rfl, show (48 : Int32) = nI 48 from rfl, nI_mul, nI_add, nI_sub (by omega)]; congr 1; omega
        rw [if_neg (show ¬ (nI (sg c len a) < 48 ∨ 57 < nI (sg c len a)) by rw [show (48 : Int32) = nI 48 from rfl, show (57 : Int32) = nI 57 from rfl, nI_ltq (by omega) (by omega), nI_ltq (by omega) (by omega)]; omega), if_neg one0, am_b1_some, e2, if_pos (nI_lt (by omega) (by omega)), ← h2, am_w_id]
      · rw [if_pos (show (nI (sg c len a) < 48 ∨ 57 < nI (sg c len a)) by rw [show (48 : Int32) = nI 48 from rfl, show (57 : Int32) = nI 57 from rfl, nI_ltq (by omega) (by omega), nI_ltq (by omega) (by omega)]; omega), if_pos rfl, ← h2, am_w_id]
  | succ k ih =>
    intro n v a I h1 h2 h3 h4 h5 h6 h7
    obtain ⟨n, rfl⟩ : ∃ t, n = t + 1 := ⟨n - 1, by omega⟩
    have hs : sg c len a ≤ 126 := by
      unfold sg
      by_cases e : a < len
      · rw [if_pos e]; exact (h1.2.2 a e).2.2
      · rw [if_neg e]; omega
    rw [f_X7_takeNumber_h72, numL]
    by_cases e0 : v = 0
    · rw [if_pos (show nI v ≤ 0 by rw [e0]; decide), if_neg (fun z => z.1 e0), ← h2, am_w_id]
    · rw [if_neg (nI_nle (by omega) (by omega)), fw_nextS h1 h2 (by omega), am_b1_some, fw_in, am_b1_some]
      by_cases e1 : 48 ≤ sg c len a ∧ sg c len a ≤ 57
      · have h8 := h7.resolve_left e0
        have e2 : (10 : Int32) * nI v + nI (sg c len a) - 48 = nI (v * 10 + (sg c len a - 48)) := by rw [show (10 : Int32) = nI 10 from rfl, show (48 : Int32) = nI 48 from rfl, nI_mul, nI_add, nI_sub (by omega)]; congr 1; omega
        rw [if_neg (show ¬ (nI (sg c len a) < 48 ∨ 57 < nI (sg c len a)) by rw [show (48 : Int32) = nI 48 from rfl, show (57 : Int32) = nI 57 from rfl, nI_ltq (by omega) (by omega), nI_ltq (by omega) (by omega)]; omega), if_neg one0, am_b1_some, e2]
        by_cases e3 : v * 10 + (sg c len a - 48) ≤ hi
        · have h9 : hi < (v * 10 + (sg c len a - 48)) * 10 ^ (k + 1) := by
            have : v * 10 ^ (k + 1 + 1) = (v * 10) * 10 ^ (k + 1) := by rw [Nat.pow_succ 10 (k + 1), Nat.mul_assoc, Nat.mul_comm 10]
            have h10 : (v * 10) * 10 ^ (k + 1) ≤ (v * 10 + (sg c len a - 48)) * 10 ^ (k + 1) := Nat.mul_le_mul_right _ (by omega)
            omega
          rw [if_neg (nI_nlt (by omega) (by omega)), am_b1_some, e2, am_let_ap, am_let_ap, h2, nI_1, if_pos (show v ≠ 0 ∧ 48 ≤ sg c len a ∧ sg c len a ≤ 57 ∧ v * 10 + (sg c len a - 48) ≤ hi from ⟨e0, e1.1, e1.2, e3⟩), ih n _ (a + 1) _ (h1.w (by omega)) (am_w_eq _ _ ⟨rfl, rfl⟩) (by omega) e3 (by omega) (by omega) (Or.inr h9), w_w]
        · rw [if_pos (nI_lt (by omega) (by omega)), if_neg (fun z => e3 z.2.2.2), ← h2, am_w_id]
      · rw [if_pos (show (nI (sg c len a) < 48 ∨ 57 < nI (sg c len a)) by rw [show (48 : Int32) = nI 48 from rfl, show (57 : Int32) = nI 57 from rfl, nI_ltq (by omega) (by omega), nI_ltq (by omega) (by omega)]; omega), if_pos rfl, if_neg (fun z => e1 ⟨z.2.1, z.2.2.1⟩), ← h2, am_w_id]
theorem fw_takeWrong {m hi lo : Nat} {I : aI} (h : I m 10 = 1) : f_X7_takeNumber m (nI lo) (nI hi) I = some (0, I) := by
  rw [f_X7_takeNumber, h, if_neg one0, f_X7_takeNumber_b42, am_g_of _ (by decide), am_let_ap, if_neg (by rw [am_w_eq _ _ ⟨rfl, rfl⟩]; exact one0), ← h, am_w_id]
theorem fw_takeNumber {m len hi lo a : Nat} {c : Nat → Nat} {I : aI} (hhi : hi ≤ 300) (hlo : lo ≤ hi) (h1 : PM I m len c) (h2 : I m 9 = nI a) (h10 : I m 10 = 0) (h3 : a ≤ 90) : f_X7_takeNumber m (nI lo) (nI hi) I = some (match num (sg c len) lo hi a with | none => (0, am_w I m 10 1) | some (v, b) => (nI v, am_w I m 9 (nI b))) := by
  have hF := am_F_big
  have hs : sg c len a ≤ 126 := by
    unfold sg
    by_cases e : a < len
    · rw [if_pos e]; exact (h1.2.2 a e).2.2
    · rw [if_neg e]; omega
  have hb1 : f_X7_takeNumber_b42 m (nI hi) 1 I = some (0, am_w I m 10 1) := by
    rw [f_X7_takeNumber_b42, am_g_of _ (by decide), am_let_ap, if_neg (by rw [am_w_eq _ _ ⟨rfl, rfl⟩]; exact one0)]
  have hb0 : 48 + lo ≤ sg c len a → sg c len a ≤ 57 → sg c len a ≤ 48 + hi → f_X7_takeNumber_b42 m (nI hi) 0 I = some (nI (numL (sg c len) hi 2 (sg c len a - 48) (a + 1)).1, am_w I m 9 (nI (numL (sg c len) hi 2 (sg c len a - 48) (a + 1)).2)) := fun k1 k2 k3 => by
    have hid : am_w I m 10 0 = I := by rw [← h10, am_w_id]
    have := takeN_h (m := m) (len := len) (c := c) hhi 2 am_F (sg c len a - 48) (a + 1) (am_w I m 9 (nI (a + 1))) (h1.w (by omega)) (am_w_eq _ _ ⟨rfl, rfl⟩) (by omega) (by omega) (by omega) (by omega) (by
      by_cases e : sg c len a - 48 = 0
      · exact Or.inl e
      · refine Or.inr ?_
        have : (10 : Nat) ^ (2 + 1) = 1000 := by decide
        rw [this]; omega)
    rw [w_w] at this
    rw [f_X7_takeNumber_b42, am_g_of _ (by decide), am_let_ap, hid, h10, if_pos rfl, fw_nextS h1 h2 (by omega), am_b1_some, am_let_ap, am_let_ap, h2, nI_1, show (48 : Int32) = nI 48 from rfl, nI_sub (by omega)]
    exact this
  rw [f_X7_takeNumber, h10, if_pos rfl, fw_nextS h1 h2 (by omega), am_b1_some, show (9 : Int32) = nI 9 from rfl, show (48 : Int32) = nI 48 from rfl, nI_add, nI_add, show (57 : Int32) = nI 57 from rfl]
  unfold num
  by_cases e : 48 + lo ≤ sg c len a ∧ sg c len a ≤ 57 ∧ sg c len a ≤ 48 + hi
  · rw [if_pos e]
    by_cases e9 : 9 ≤ hi
    · rw [if_pos (nI_le e9 (by omega)), fw_in, am_b1_some, if_neg (show ¬ (nI (sg c len a) < nI (48 + lo) ∨ nI 57 < nI (sg c len a)) by rw [nI_ltq (by omega) (by omega), nI_ltq (by omega) (by omega)]; omega), if_neg one0]
      exact hb0 e.1 e.2.1 e.2.2
    · rw [if_neg (nI_ge (by omega) (by omega)), fw_in, am_b1_some, if_neg (show ¬ (nI (sg c len a) < nI (48 + lo) ∨ nI (48 + hi) < nI (sg c len a)) by rw [nI_ltq (by omega) (by omega), nI_ltq (by omega) (by omega)]; omega), if_neg one0]
      exact hb0 e.1 e.2.1 e.2.2
  · rw [if_neg e]
    by_cases e9 : 9 ≤ hi
    · rw [if_pos (nI_le e9 (by omega)), fw_in, am_b1_some, if_pos (show (nI (sg c len a) < nI (48 + lo) ∨ nI 57 < nI (sg c len a)) by rw [nI_ltq (by omega) (by omega), nI_ltq (by omega) (by omega)]; omega), if_pos rfl]
      exact hb1
    · rw [if_neg (nI_ge (by omega) (by omega)), fw_in, am_b1_some, if_pos (show (nI (sg c len a) < nI (48 + lo) ∨ nI (48 + hi) < nI (sg c len a)) by rw [nI_ltq (by omega) (by omega), nI_ltq (by omega) (by omega)]; omega), if_pos rfl]
      exact hb1
/-! one act of the pad -/
def secN (s : Nat → Nat) (lo b : Nat) : Nat × Option Nat := if s b = 58 then (match num s lo 300 (b + 1) with
  | none => (b + 1, none)
  | some (w, d) => (d, some w)) else (b, none)
def pairN (s : Nat → Nat) (hi lo a : Nat) : Nat × Option (Nat × Nat) := match num s 0 hi a with
  | none => (a, none)
  | some (v, b) => ((secN s lo b).1, (secN s lo b).2.map (fun w => (v, w)))
def actN (s : Nat → Nat) (a : Nat) : Nat × Option (Nat × Nat × Nat) :=
  if s a = 98 then ((pairN s 5 0 (a + 1)).1, (pairN s 5 0 (a + 1)).2.map (fun p => (98, p.1, p.2)))
  else if s a = 115 then ((pairN s 2 1 (a + 1)).1, (pairN s 2 1 (a + 1)).2.map (fun p => (115, p.1, p.2)))
  else if s a = 112 then (match num s 0 5 (a + 1) with
    | none => (a + 1, none)
    | some (v, b) => (b, some (112, v, 0)))
  else if s a = 109 then (a + 1, some (109, 0, 0))
  else if s a = 102 then (a + 1, some (102, 0, 0))
  else (a, none)
theorem secN_a {c : Nat → Nat} {len lo b : Nat} (h : b ≤ len) : b ≤ (secN (sg c len) lo b).1 ∧ (secN (sg c len) lo b).1 ≤ len := by
  unfold secN
  by_cases e : sg c len b = 58
  · have := sg_pos (c := c) (len := len) (a := b) (by omega)
    rw [if_pos e]
    cases hn : num (sg c len) lo 300 (b + 1) with
    | none => simp only []; omega
    | some p =>
      obtain ⟨w, d⟩ := p
      have := num_a hn
      simp only []; omega
  · rw [if_neg e]; simp only []; omega
theorem pairN_a {c : Nat → Nat} {len hi lo a : Nat} (h : a ≤ len) : a ≤ (pairN (sg c len) hi lo a).1 ∧ (pairN (sg c len) hi lo a).1 ≤ len := by
  unfold pairN
  cases hn : num (sg c len) 0 hi a with
  | none => simp only []; omega
  | some p =>
    obtain ⟨v, b⟩ := p
    have h1 := num_a hn
    have h2 := secN_a (c := c) (len := len) (lo := lo) (b := b) (by omega)
    simp only []; omega
theorem actN_a {c : Nat → Nat} {len a : Nat} (h : a ≤ len) : a ≤ (actN (sg c len) a).1 ∧ (actN (sg c len) a).1 ≤ len ∧ ((actN (sg c len) a).2 ≠ none → a + 1 ≤ (actN (sg c len) a).1) := by
  have hp : 0 < sg c len a → a < len := sg_pos
  unfold actN
  by_cases e1 : sg c len a = 98
  · have := pairN_a (c := c) (len := len) (hi := 5) (lo := 0) (a := a + 1) (by omega)
    rw [if_pos e1]; simp only []; omega
  rw [if_neg e1]
  by_cases e2 : sg c len a = 115
  · have := pairN_a (c := c) (len := len) (hi := 2) (lo := 1) (a := a + 1) (by omega)
    rw [if_pos e2]; simp only []; omega
  rw [if_neg e2]
  by_cases e3 : sg c len a = 112
  · rw [if_pos e3]
    cases hn : num (sg c len) 0 5 (a + 1) with
    | none => simp only []; omega
    | some p =>
      obtain ⟨v, b⟩ := p
      have h1 := num_a hn
      simp only []; omega
  rw [if_neg e3]
  by_cases e4 : sg c len a = 109
  · rw [if_pos e4]; simp only []; omega
  rw [if_neg e4]
  by_cases e5 : sg c len a = 102
  · rw [if_pos e5]; simp only []; omega
  rw [if_neg e5]
  exact ⟨Nat.le_refl _, h, fun z => absurd rfl z⟩
theorem fw_readSign {I : aI} {o len a t : Nat} {c : Nat → Nat} (h : PD I o len c) (h2 : I o 2 = nI a) (ha : a ≤ 1000) (ht : t < 200) : f_X3_readSign o (nI t) I = some (if sg c len a = t then (1, am_w I o 2 (nI (a + 1))) else (0, I)) := by
  have hs := h.sgl a
  rw [f_X3_readSign, h2, fw_signAt h ha, am_b1_some]
  by_cases e : sg c len a = t
  · rw [if_pos (by rw [e]), am_let_ap, nI_1, if_pos e]
  · rw [if_neg (by rw [nI_inj (by omega) (by omega)]; exact e), if_neg e]
theorem fw_need {I : aI} {m len a t : Nat} {c : Nat → Nat} (h : PM I m len c) (h9 : I m 9 = nI a) (h10 : I m 10 = 0) (ha : a ≤ 1000) (ht : t < 200) : f_X7_need m (nI t) I = some (if sg c len a = t then am_w I m 9 (nI (a + 1)) else am_w I m 10 1) := by
  have hs : sg c len a ≤ 126 := by
    unfold sg
    by_cases e : a < len
    · rw [if_pos e]; exact (h.2.2 a e).2.2
    · rw [if_neg e]; omega
  have hid : am_w I m 10 0 = I := by rw [← h10, am_w_id]
  rw [f_X7_need, h10, if_pos rfl, fw_nextS h h9 ha, am_b1_some]
  by_cases e : sg c len a = t
  · rw [if_pos (by rw [e]), if_pos e, f_X7_need_b21, am_g_of _ (by decide), am_let_ap, hid, h10, if_pos rfl, am_let_ap, h9, nI_1]
  · rw [if_neg (by rw [nI_inj (by omega) (by omega)]; exact e), if_neg e, f_X7_need_b21, am_g_of _ (by decide), am_let_ap, if_neg (by rw [am_w_eq _ _ ⟨rfl, rfl⟩]; exact one0), am_let_ap, Int32.add_zero, am_w_id]
theorem fw_needWrong {I : aI} {m : Nat} {t : Int32} (h10 : I m 10 = 1) : f_X7_need m t I = some I := by
  have hid : am_w I m 10 1 = I := by rw [← h10, am_w_id]
  rw [f_X7_need, h10, if_neg one0, f_X7_need_b21, am_g_of _ (by decide), am_let_ap, hid, h10, if_neg one0, am_let_ap, Int32.add_zero, am_w_id]
/-- what reading an act leaves of the class's pad -/
def RA (o a : Nat) (s : Nat → Nat) (I : aI) (r : Int32) (I1 : aI) : Prop := r = (if (actN s a).2.isSome = true then 1 else 0) ∧ I1 o 2 = nI (actN s a).1 ∧ (∀ q k, q ≠ o ∨ k < 2 ∨ 6 ≤ k → I1 q k = I q k) ∧ ∀ op v w, (actN s a).2 = some (op, v, w) → I1 o 3 = nI op ∧ ((op = 98 ∨ op = 115) → I1 o 4 = nI v ∧ I1 o 5 = nI w) ∧ (op = 112 → I1 o 4 = nI v)
