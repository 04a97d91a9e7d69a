/-! PURE: signs are put on the pad -/
theorem shk : ∀ k : Nat, k < 64 → (Int32.toInt64 (nI k)).toUInt64 &&& Int64.toUInt64 63 = UInt64.ofNat k := by decide +kernel
theorem shk2 : ∀ k : Nat, k < 64 → (Int32.toInt64 (nI k)) &&& 63 = Int64.ofNat k := by decide +kernel
theorem smk : ∀ k : Nat, k < 64 → ((Int64.ofNat k).toBitVec.smod 64#64).toNat = k := by decide +kernel
def Nu (x : Int64) : Nat := x.toUInt64.toNat
theorem Nu_shr (x : Int64) {k : Nat} (hk : k < 64) : Nu (am_lushr x (nI k)) = Nu x / 2 ^ k := by
  unfold am_lushr Nu
  rw [shk k hk, UInt64.toUInt64_toInt64, UInt64.toNat_shiftRight, UInt64.toNat_ofNat', Nat.mod_eq_of_lt (show k < 2 ^ 64 by omega), Nat.mod_eq_of_lt hk, Nat.shiftRight_eq_div_pow]
theorem Nu_255 (x : Int64) : Nu (x &&& 255) = Nu x % 256 := by
  have : (x &&& 255).toUInt64 = x.toUInt64 &&& 255 := rfl
  unfold Nu
  rw [this, UInt64.toNat_and]
  exact Nat.and_two_pow_sub_one_eq_mod _ 8
theorem Nu_i32 (x : Int64) (h : Nu x < 256) : x.toInt32 = nI (Nu x) := by
  unfold Nu at *
  apply Int32.toBitVec_inj.mp
  rw [Int64.toBitVec_toInt32]
  apply BitVec.eq_of_toNat_eq
  have e : x.toBitVec.toNat = x.toUInt64.toNat := rfl
  have hm : x.toBitVec.msb = false := by
    rw [BitVec.msb_eq_false_iff_two_mul_lt, e]; omega
  rw [BitVec.toNat_signExtend, hm, BitVec.toNat_setWidth, e]
  show x.toUInt64.toNat % 2 ^ 32 + 0 = x.toUInt64.toNat % 2 ^ 32
  omega
theorem Nu_inj {x y : Int64} (h : Nu x = Nu y) : x = y := by
  apply Int64.toBitVec_inj.mp
  exact BitVec.eq_of_toNat_eq h
theorem Nu_lt (x : Int64) : Nu x < 18446744073709551616 := x.toUInt64.toBitVec.isLt
theorem lg0 (x : Int64) : lg_cmp x 0 = 0 ↔ Nu x = 0 := by
  have h1 := lg_cmp_le x 0
  have h2 := lg_cmp_ge x 0
  constructor
  · intro h
    rw [h] at h1 h2
    have a1 := h1.mp (by decide)
    have a2 := h2.mp (by decide)
    have : x = 0 := Int64.le_antisymm a1 a2
    rw [this]; rfl
  · intro h
    have : x = 0 := Nu_inj h
    rw [this]; decide
theorem low8 (x : BitVec 64) {k : Nat} (hk : k ≤ 56) : x.sshiftRight k &&& 255#64 = x >>> k &&& 255#64 := by
  ext i hi
  by_cases h8 : i < 8
  · simp [BitVec.getElem_sshiftRight, show k + i < 64 by omega]
  · have : (255#64)[i] = false := by
      have : ∀ i : Nat, (h : i < 64) → ¬ i < 8 → (255#64)[i]'h = false := by decide
      exact this i hi h8
    simp [this]
theorem lshr8 (x : Int64) {k : Nat} (hk : k ≤ 56) : am_lshr x (nI k) &&& 255 = am_lushr x (nI k) &&& 255 := by
  apply Int64.toBitVec_inj.mp
  have h1 : (am_lshr x (nI k)).toBitVec = x.toBitVec.sshiftRight k := by
    unfold am_lshr
    rw [shk2 k (by omega), Int64.toBitVec_shiftRight]
    show x.toBitVec.sshiftRight' ((Int64.ofNat k).toBitVec.smod 64#64) = _
    unfold BitVec.sshiftRight'
    rw [smk k (by omega)]
  have h2 : (am_lushr x (nI k)).toBitVec = x.toBitVec >>> k := by
    apply BitVec.eq_of_toNat_eq
    have := Nu_shr x (k := k) (by omega)
    rw [BitVec.toNat_ushiftRight, Nat.shiftRight_eq_div_pow]
    exact this
  rw [Int64.toBitVec_and, Int64.toBitVec_and, h1, h2]
  exact low8 _ hk
theorem i2c_ok : ∀ b : Nat, b < 256 → am_i2c (nI b) = nI b := by decide +kernel
theorem nar_ok : ∀ b : Nat, b < 256 → vp_nar .char (nI b) = nI b := by decide +kernel
def Dg (a : Int64) (i : Nat) : Nat := Nu a / 256 ^ i % 256
theorem byte_ok (a : Int64) {i : Nat} (hi : i ≤ 7) : ((am_lushr a (nI (8 * i))) &&& 255).toInt32 = nI (Dg a i) := by
  have h1 : Nu ((am_lushr a (nI (8 * i))) &&& 255) = Dg a i := by
    rw [Nu_255, Nu_shr _ (by omega), Dg, Nat.pow_mul]
  rw [Nu_i32 _ (by rw [h1, Dg]; omega), h1]
theorem signs_h {a : Int64} {m : Nat} {I : aI} : ∀ (n1 n2 j : Nat) (l2 : Int64), Nu l2 = Nu a / 256 ^ j → j ≤ 8 → 8 < n1 + j → 8 < n2 + j → (∀ i, i < j → 33 ≤ Dg a i ∧ Dg a i ≤ 126) → (f_X6_signsIn_h8 n1 l2 (nI j) (nI j) = some 0 ∧ f_X7_put_h5 m n2 a (nI j) l2 I = some (-2, I)) ∨ ∃ t, 1 ≤ t ∧ t ≤ 8 ∧ (∀ i, i < t → 33 ≤ Dg a i ∧ Dg a i ≤ 126) ∧ f_X6_signsIn_h8 n1 l2 (nI j) (nI j) = some (nI t) ∧ f_X7_put_h5 m n2 a (nI j) l2 I = (if I m 5 + nI t ≤ 60 then f_X7_put_h86 m am_F a (nI t) 0 I else some (-4, I)) := by
  intro n1
  induction n1 with
  | zero => intro n2 j l2 _ h1 h2; omega
  | succ n1 ih =>
    intro n2 j l2 hl hj h1 h2 hd
    obtain ⟨n2, rfl⟩ : ∃ t, n2 = t + 1 := ⟨n2 - 1, by omega⟩
    have hend : (f_X6_signsIn_b57 l2 (nI j) = some 0 ∧ f_X7_put_b55 m a (nI j) l2 I = some (-2, I)) ∨ ∃ t, 1 ≤ t ∧ t ≤ 8 ∧ (∀ i, i < t → 33 ≤ Dg a i ∧ Dg a i ≤ 126) ∧ f_X6_signsIn_b57 l2 (nI j) = some (nI t) ∧ f_X7_put_b55 m a (nI j) l2 I = (if I m 5 + nI t ≤ 60 then f_X7_put_h86 m am_F a (nI t) 0 I else some (-4, I)) := by
      rw [f_X6_signsIn_b57, f_X7_put_b55]
      by_cases z : lg_cmp l2 0 = 0
      · rw [if_pos z, if_pos z]
        by_cases e : j = 0
        · subst e
          exact Or.inl ⟨rfl, by rw [if_pos (show nI 0 = (0 : Int32) from rfl)]⟩
        · exact Or.inr ⟨j, by omega, hj, hd, rfl, by rw [if_neg (nI_ne0 (by omega) (by omega))]⟩
      · rw [if_neg z, if_neg z]
        refine Or.inl ⟨rfl, ?_⟩
        split <;> rfl
    rw [f_X6_signsIn_h8, f_X7_put_h5, show (8 : Int32) = nI 8 from rfl]
    by_cases c : 8 ≤ j
    · rw [if_pos (nI_le c (by omega)), if_pos (nI_le c (by omega))]
      exact hend
    · have hb : Nu (l2 &&& 255) = Dg a j := by rw [Nu_255, hl, Dg]
      have hb2 : (l2 &&& 255).toInt32 = nI (Dg a j) := by rw [Nu_i32 _ (by rw [hb, Dg]; omega), hb]
      have hD : Dg a j < 256 := by rw [Dg]; omega
      rw [if_neg (nI_ge (by omega) (by omega)), if_neg (nI_ge (by omega) (by omega))]
      by_cases c2 : Dg a j = 0
      · have : lg_cmp (l2 &&& 255) 0 = 0 := (lg0 _).mpr (hb.trans c2)
        rw [if_pos this, if_pos this]
        exact hend
      · have : ¬ lg_cmp (l2 &&& 255) 0 = 0 := fun z => c2 (hb.symm.trans ((lg0 _).mp z))
        rw [if_neg this, if_neg this, fw_within, am_b1_some, fw_in, am_b1_some, hb2]
        by_cases c3 : 33 ≤ Dg a j ∧ Dg a j ≤ 126
        · have c4 : ¬ (nI (Dg a j) < 33 ∨ 126 < nI (Dg a j)) := by rw [show (33 : Int32) = nI 33 from rfl, show (126 : Int32) = nI 126 from rfl, nI_ltq (by omega) (by omega), nI_ltq (by omega) (by omega)]; omega
          rw [if_neg c4, if_neg one0, if_neg one0, am_let_ap, am_let_ap, nI_1]
          exact ih n2 (j + 1) (am_lushr l2 (nI 8)) (by rw [Nu_shr _ (by omega), hl, Nat.div_div_eq_div_mul, show (2 : Nat) ^ 8 = 256 by decide, Nat.pow_succ]) (by omega) (by omega) (by omega) (fun i hi => by
            by_cases e : i = j
            · subst e; exact c3
            · exact hd i (by omega))
        · have c4 : (nI (Dg a j) < 33 ∨ 126 < nI (Dg a j)) := by rw [show (33 : Int32) = nI 33 from rfl, show (126 : Int32) = nI 126 from rfl, nI_ltq (by omega) (by omega), nI_ltq (by omega) (by omega)]; omega
          rw [if_pos c4, if_pos rfl, if_pos rfl]
          exact Or.inl ⟨rfl, rfl⟩
/-- the pad with t signs of a behind it -/
def c2p (c : Nat → Nat) (len : Nat) (a : Int64) (t k : Nat) : Nat := if k < len then c k else Dg a (t - 1 - (k - len))
theorem append_h {x len t : Nat} {c : Nat → Nat} {a : Int64} (ht8 : t ≤ 8) (hlt : len + t ≤ 60) (hd : ∀ i, i < t → 33 ≤ Dg a i ∧ Dg a i ≤ 126) : ∀ (n j : Nat) (I : aI), j ≤ t → j < n → PD I (x + 35) (len + (t - j)) (c2p c len a t) → ∃ I1, f_X6_put_h34 x n a (nI j - 1) I = some (nI (len + t), I1) ∧ PD I1 (x + 35) (len + t) (c2p c len a t) ∧ ∀ q, q ≠ x + 35 → q ≠ x + 36 → I1 q = I q := by
  intro n
  induction n with
  | zero => intro j I h1 h2; omega
  | succ n ih =>
    intro j I h1 h2 hp
    rw [f_X6_put_h34]
    cases j with
    | zero =>
      rw [if_pos (show nI 0 - 1 < (0 : Int32) by decide), hp.1]
      exact ⟨I, rfl, hp, fun _ _ _ => rfl⟩
    | succ j =>
      have e1 : nI (j + 1) - 1 = nI j := by rw [show (1 : Int32) = nI 1 from rfl, nI_sub (by omega)]; rfl
      have e2 : nI j + (-1) = nI j - 1 := (Int32.sub_eq_add_neg _ _).symm
      have e8 : (8 : Int32) * nI j = nI (8 * j) := by rw [show (8 : Int32) = nI 8 from rfl, nI_mul]
      have hD := hd j (by omega)
      obtain ⟨p1, p2, p3⟩ := hp
      have hap : f_X3_append (x + 35) (nI (Dg a j)) I = some (am_w (am_w I (x + 36) (len + (t - (j + 1))) (nI (Dg a j))) (x + 35) 1 (nI (len + (t - j)))) := by
        rw [f_X3_append, p1, if_pos (show nI (len + (t - (j + 1))) < (60 : Int32) from nI_lt (b := 60) (by omega) (by omega)), am_g_of _ (am_ok_nI (show len + (t - (j + 1)) < 60 by omega) (by omega)), am_let_ap, nI_tn (by omega), nar_ok _ (by omega), am_let_ap, am_w_nq _ _ (by omega), p1, nI_1, show len + (t - (j + 1)) + 1 = len + (t - j) by omega]
      rw [e1, if_neg (nI_pos (by omega)), e8, byte_ok a (by omega), i2c_ok _ (by omega), hap, am_b1_some, e2]
      obtain ⟨I1, z1, z2, z3⟩ := ih j (am_w (am_w I (x + 36) (len + (t - (j + 1))) (nI (Dg a j))) (x + 35) 1 (nI (len + (t - j)))) (by omega) (by omega) ⟨am_w_eq _ _ ⟨rfl, rfl⟩, by omega, fun k hk => by
        rw [am_w_nq _ _ (by omega)]
        by_cases e : k = len + (t - (j + 1))
        · rw [am_w_eq _ _ ⟨rfl, e⟩]
          unfold c2p
          rw [if_neg (by omega), show t - 1 - (k - len) = j by omega]
          exact ⟨rfl, hD⟩
        · rw [am_w_nq _ _ (by omega)]
          exact p3 k (by omega)⟩
      exact ⟨I1, z1, z2, fun q h1 h2 => by rw [z3 q h1 h2, am_w_ne _ _ h1, am_w_ne _ _ h2]⟩
theorem putR_h {m len t : Nat} {c : Nat → Nat} {a : Int64} (ht8 : t ≤ 8) (hlt : len + t ≤ 60) (hd : ∀ i, i < t → 33 ≤ Dg a i ∧ Dg a i ≤ 126) : ∀ (n j : Nat) (I : aI), j ≤ t → t < n + j → I m 5 = nI len → (∀ k, k < len + j → I (m + 5) k = nI (c2p c len a t k) ∧ 33 ≤ c2p c len a t k ∧ c2p c len a t k ≤ 126) → ∃ I1, f_X7_put_h86 m n a (nI t) (nI j) I = some (nI (len + t), I1) ∧ PM I1 m (len + t) (c2p c len a t) ∧ ∀ q, q ≠ m → q ≠ m + 5 → I1 q = I q := by
  intro n
  induction n with
  | zero => intro j I h1 h2; omega
  | succ n ih =>
    intro j I h1 h2 h5 hp
    rw [f_X7_put_h86]
    by_cases c1 : t ≤ j
    · have : j = t := by omega
      subst this
      rw [if_pos (nI_le c1 (by omega)), f_X7_put_b126, am_let_ap, am_w_eq _ _ ⟨rfl, rfl⟩, h5, nI_add]
      exact ⟨_, rfl, ⟨am_w_eq _ _ ⟨rfl, rfl⟩, hlt, fun k hk => by rw [am_w_nq _ _ (by omega)]; exact hp k hk⟩, fun q k1 k2 => am_w_ne _ _ k1⟩
    · have e8 : (8 : Int32) * ((nI t - 1) - nI j) = nI (8 * (t - 1 - j)) := by rw [show (1 : Int32) = nI 1 from rfl, nI_sub (by omega), nI_sub (by omega), show (8 : Int32) = nI 8 from rfl, nI_mul]
      have hD := hd (t - 1 - j) (by omega)
      rw [if_neg (nI_ge (by omega) (by omega)), h5, nI_add, am_g_of _ (am_ok_nI (show len + j < 60 by omega) (by omega)), nI_tn (by omega), e8, lshr8 a (by omega), byte_ok a (by omega), am_let_ap, nI_1]
      obtain ⟨I1, z1, z2, z3⟩ := ih (j + 1) (am_w I (m + 5) (len + j) (nI (Dg a (t - 1 - j)))) (by omega) (by omega) (by rw [am_w_nq _ _ (by omega)]; exact h5) (fun k hk => by
        by_cases e : k = len + j
        · rw [am_w_eq _ _ ⟨rfl, e⟩]
          unfold c2p
          rw [if_neg (by omega), show t - 1 - (k - len) = t - 1 - j by omega]
          exact ⟨rfl, hD⟩
        · rw [am_w_nq _ _ (by omega)]
          exact hp k (by omega))
      exact ⟨I1, z1, z2, fun q k1 k2 => by rw [z3 q k1 k2, am_w_ne _ _ k2]⟩
theorem put_pair {I Ir : aI} {x m np nl nd len : Nat} {c : Nat → Nat} (hv : IV I (x + 1) np nl nd) (hw : RW I (x + 1) (Ir (m + 1)) nl nd) (hp : PD I (x + 35) len c) (hm : PM Ir m len c) (a : Int64) : PP x m I Ir (f_X6_put x a I) (f_X7_put m a Ir) := by
  have hF := am_F_big
  have h60 := hp.2.1
  have same : ∀ (u y : Option (Int32 × aI)) (r : Int32), u = some (r, I) → y = some (r, Ir) → PP x m I Ir u y := fun u y r h1 h2 => ⟨r, I, Ir, np, nl, nd, len, c, h1, h2, hv, hw, hp, hm, fun _ _ _ _ => rfl, fun _ _ _ _ _ _ _ => rfl⟩
  rw [f_X6_put, f_X7_put, f_X6_signsIn]
  rcases signs_h (a := a) (m := m) (I := Ir) am_F am_F 0 a (by rw [Nat.pow_zero, Nat.div_one]) (by omega) (by omega) (by omega) (fun i hi => by omega) with ⟨z1, z2⟩ | ⟨t, t1, t8, hd, z1, z2⟩
  · rw [show f_X6_signsIn_h8 am_F a 0 0 = some 0 from z1, am_b1_some, if_pos rfl]
    exact same _ _ _ rfl z2
  · rw [show f_X6_signsIn_h8 am_F a 0 0 = some (nI t) from z1, am_b1_some, if_neg (nI_ne0 (by omega) (by omega)), hp.1, nI_add, show f_X7_put_h5 m am_F a 0 a Ir = _ from z2, hm.1, nI_add]
    by_cases e : len + t ≤ 60
    · have e60 : nI (len + t) ≤ (60 : Int32) := nI_le (b := 60) e (by omega)
      rw [if_pos e60, if_pos e60, am_let_ap]
      have hc : ∀ k, k < len → c2p c len a t k = c k := fun k hk => by unfold c2p; rw [if_pos hk]
      obtain ⟨I1, y1, y2, y3⟩ := append_h (x := x) (c := c) (len := len) t8 e hd am_F t I (Nat.le_refl _) (by omega) ⟨by rw [hp.1, show len + (t - t) = len by omega], by omega, fun k hk => by rw [hc k (by omega)]; exact hp.2.2 k (by omega)⟩
      obtain ⟨Ir1, w1, w2, w3⟩ := putR_h (m := m) (c := c) (len := len) t8 e hd am_F 0 Ir (by omega) (by omega) hm.1 (fun k hk => by rw [hc k (by omega)]; exact hm.2.2 k (by omega))
      have hsm : sameG I (x + 1) I1 (x + 1) := sameG.rf (fun q k1 k2 => y3 q (by omega) (by omega))
      exact ⟨_, I1, Ir1, np, nl, nd, len + t, c2p c len a t, y1, w1, iv_same hsm hv, rw_same hsm (fun k _ => by rw [w3 _ (by omega) (by omega)]) hv.1.2.2.2.1 hw, y2, w2, fun q k1 k2 k3 => y3 q k2 k3, fun q k0 k1 k2 k5 k6 k9 => w3 q k0 k5⟩
    · have e60 : ¬ nI (len + t) ≤ (60 : Int32) := by rw [show (60 : Int32) = nI 60 from rfl, nI_leq (by omega) (by omega)]; omega
      rw [if_neg e60, if_neg e60]
      exact same _ _ _ rfl rfl
