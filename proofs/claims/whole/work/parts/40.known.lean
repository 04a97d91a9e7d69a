/-! PURE: what is known of purses -/
def JP {β : Type} (x m : Nat) (J Jr : aJ) (u v : Option (β × aJ)) : Prop := ∃ r J1 J2, u = some (r, J1) ∧ v = some (r, J2) ∧ (∀ q, q ≠ x + 33 → q ≠ x + 34 → J1 q = J q) ∧ (∀ q, q ≠ m + 7 → q ≠ m + 8 → J2 q = Jr q)
theorem JP.same {β : Type} {x m : Nat} {J Jr : aJ} {u v : Option (β × aJ)} {r : β} (h1 : u = some (r, J)) (h2 : v = some (r, Jr)) : JP x m J Jr u v := ⟨r, J, Jr, h1, h2, fun _ _ _ => rfl, fun _ _ _ => rfl⟩
/-- both counters are laid out for the others than p -/
theorem lay_pair {I Ir : aI} {x m np nl nd p : Nat} {A L G : Nat → Nat} (hv : IV I (x + 1) np nl nd) (hw : RW I (x + 1) (Ir (m + 1)) nl nd) (hp : p < np) (hA : ∀ p, p < np → I (x + 1 + 3) p = nI (A p) ∧ I (x + 1 + 6) p = nI (L p) ∧ I (x + 1 + 7) p = nI (G p) ∧ L p ≤ A p ∧ A p ≤ G p ∧ G p ≤ 300) (J Jr : aJ) :
    ∃ J1 J2, f_X5_takeInOthers (x + 32) (x + 1 + 2) (nI p) I J = some J1 ∧ f_X7_layWays m (nI p) Ir Jr = some J2 ∧ (∀ k, k < 1801 → J1 (x + 33) k = Int64.ofNat (wN L G (fun i => decide (i = p)) np k)) ∧ (∀ k, k < 1801 → J2 (m + 7) k = Int64.ofNat (wN L G (fun i => decide (i = p)) np k)) ∧ (∀ q, q ≠ x + 33 → q ≠ x + 34 → J1 q = J q) ∧ (∀ q, q ≠ m + 7 → q ≠ m + 8 → J2 q = Jr q) := by
  obtain ⟨q2, q6, q1, q12, qnp, qnl, qnd⟩ := id hv.1
  have hL : ∀ p, p < np → I (x + 1 + 6) p = nI (L p) ∧ L p < 900 := fun p hp => by obtain ⟨h1, h2, h3, h4, h5, h6⟩ := hA p hp; exact ⟨h2, by omega⟩
  have hG : ∀ p, p < np → I (x + 1 + 7) p = nI (G p) ∧ G p < 900 := fun p hp => by obtain ⟨h1, h2, h3, h4, h5, h6⟩ := hA p hp; exact ⟨h3, by omega⟩
  have hsk : ∀ j, j < np → (nI j = nI p ↔ (fun i => decide (i = p)) j = true) := fun j hj => by rw [nI_inj (by omega) (by omega)]; simp
  have hlg : ∀ j, j < np → L j ≤ G j := fun j hj => by obtain ⟨h1, h2, h3, h4, h5, h6⟩ := hA j hj; omega
  obtain ⟨J1, z1, z2, z3⟩ := fw_others (J := J) (w := x + 32) (o := x + 1 + 2) (sk := fun i => decide (i = p)) qnp q6 hL hG hsk
  obtain ⟨J2, y1, y2, y3⟩ := fw_layWays (J := Jr) (m := m) (sk := fun i => decide (i = p)) hw qnp q6 hL hG hsk
  exact ⟨J1, J2, z1, y1, fun k hk => by rw [z2 k hk, wF_nat hlg np (Nat.le_refl _)], fun k hk => by rw [y2 k hk, wF_nat hlg np (Nat.le_refl _)], z3, y3⟩
theorem sum_nat {I : aI} {g np : Nat} {A : Nat → Nat} (hA : ∀ p, p < np → I (g + 3) p = nI (A p)) : smI (I (g + 3)) np = nI (sN A (fun _ => false) np) := smI_nat hA np (Nat.le_refl _)
theorem canPay_pair {I Ir : aI} {x m np nl nd : Nat} (hv : IV I (x + 1) np nl nd) (hw : RW I (x + 1) (Ir (m + 1)) nl nd) (J Jr : aJ) (a v : Int32) : JP x m J Jr (f_X6_canPay x a v I J) (f_X7_canPay m a v Ir Jr) := by
  have hF := am_F_big
  obtain ⟨q2, q6, q1, q12, qnp, qnl, qnd⟩ := id hv.1
  obtain ⟨⟨a0, a1, a2⟩, -⟩ := id hw
  have e3 : x + 3 = x + 1 + 2 := by omega
  rw [f_X6_canPay, f_X7_canPay, e3]
  rcases seat_cases a np (by omega) with ⟨p, hp, rfl⟩ | ho
  · rw [fw_hasSeat_in qnp q6 hp, fw_isPin (a0.trans qnp) q6 hp, am_b1_some, am_b1_some, if_neg one0, if_neg one0, fw_within, am_b1_some, fw_in, am_b1_some]
    by_cases c : v < 0 ∨ 300 < v
    · rw [if_pos c, if_pos rfl, if_pos rfl]
      exact JP.same rfl rfl
    have hb := bd_of c
    rw [zI, show (300 : Int32).toInt = 300 from rfl] at hb
    obtain ⟨b, hb3, rfl⟩ := nI_ofI (x := v) (b := 300) ⟨hb.1, hb.2⟩ (by omega)
    obtain ⟨A, L, G, hA⟩ := pur_nat hv
    obtain ⟨J1, J2, z1, z2, z3, z4, z5, z6⟩ := lay_pair hv hw hp hA J Jr
    obtain ⟨p1, p2, p3, p4, p5, p6⟩ := hA p hp
    have hS := sum_nat (fun p hp => (hA p hp).1)
    have hSle : sN A (fun _ => false) np ≤ 1800 := by
      have := sN_le (f := A) (sk := fun _ => false) (np := np) (fun p hp => by obtain ⟨h1, h2, h3, h4, h5, h6⟩ := hA p hp; omega) np (Nat.le_refl _)
      omega
    have hmx : am_max (nI b) (nI (L p)) = nI (max (L p) b) := by
      unfold am_max
      by_cases c1 : b < L p
      · rw [if_pos (nI_lt c1 (by omega)), show max (L p) b = L p by omega]
      · rw [if_neg (nI_nlt (by omega) (by omega)), show max (L p) b = b by omega]
    rw [if_neg c, if_neg one0, if_neg one0, f_X5_waysWith, z1, am_b1_some, fw_sumC qnp q6, am_b1_some, fw_leastOf qnp q6 hp, am_b1_some, am_let_ap, z2, am_b1_some, fw_sumR hw qnp q6, am_b1_some, show f_X7_of m (nI p) 3 Ir = _ from fw_of (c := 3) (by omega) (by omega), (hw.2.2.1 p (by omega)).2.2.2.1, am_b1_some, show smI (I (x + 1 + 2 + 1)) np = nI (sN A (fun _ => false) np) from hS, show I (x + 1 + 2 + 4) p = nI (L p) from p2, hmx]
    have w1 := ww_h (I := I) (J := J1) (w := x + 32) (o := x + 1 + 2) (p := p) (S := sN A (fun _ => false) np) (G := G p) qnp q6 hp p3 p6 hSle z3 am_F (max (L p) b) 0 (by omega) (by omega)
    have w2 := cp_h (Ir := Ir) (J := J2) (m := m) (p := p) (S := sN A (fun _ => false) np) (G := G p) (a := b) hw q6 hp p3 p6 hb3 hSle z4 am_F (L p) 0 (by omega) (by omega)
    rw [show f_X5_waysWith_h26 (x + 32) (x + 1 + 2) am_F (nI p) (nI (sN A (fun _ => false) np)) 0 (nI (max (L p) b)) I J1 = _ from w1, am_b2_some, show f_X7_canPay_h49 m am_F (nI p) (nI b) (nI (sN A (fun _ => false) np)) 0 (nI (L p)) Ir J2 = _ from w2]
    exact ⟨_, J1, J2, rfl, rfl, z5, z6⟩
  · rw [fw_hasSeat_out qnp ho, fw_isPout (a0.trans qnp) (by omega) q6 ho, am_b1_some, am_b1_some, if_pos rfl, if_pos rfl]
    exact JP.same rfl rfl
theorem ways_pair {I Ir : aI} {x m np nl nd : Nat} (hv : IV I (x + 1) np nl nd) (hw : RW I (x + 1) (Ir (m + 1)) nl nd) (J Jr : aJ) : JP x m J Jr (f_X6_ways x I J) (f_X7_ways m Ir Jr) := by
  have hF := am_F_big
  obtain ⟨q2, q6, q1, q12, qnp, qnl, qnd⟩ := id hv.1
  have e3 : x + 3 = x + 1 + 2 := by omega
  have hp : 0 < np := by omega
  obtain ⟨A, L, G, hA⟩ := pur_nat hv
  obtain ⟨J1, -, z1, -, z3, -, z5, -⟩ := lay_pair hv hw hp hA J Jr
  have hL : ∀ p, p < np → I (x + 1 + 6) p = nI (L p) ∧ L p < 900 := fun p hp => by obtain ⟨h1, h2, h3, h4, h5, h6⟩ := hA p hp; exact ⟨h2, by omega⟩
  have hG : ∀ p, p < np → I (x + 1 + 7) p = nI (G p) ∧ G p < 900 := fun p hp => by obtain ⟨h1, h2, h3, h4, h5, h6⟩ := hA p hp; exact ⟨h3, by omega⟩
  have hlg : ∀ j, j < np → L j ≤ G j := fun j hj => by obtain ⟨h1, h2, h3, h4, h5, h6⟩ := hA j hj; omega
  obtain ⟨J2, y1, y2, y3⟩ := fw_layWays (J := Jr) (m := m) (a := -6) (sk := fun _ => false) hw qnp q6 hL hG (fun j hj => by rw [nI_n6 j (by omega)]; simp)
  obtain ⟨p1, p2, p3, p4, p5, p6⟩ := hA 0 hp
  have hS := sum_nat (fun p hp => (hA p hp).1)
  have hSle : sN A (fun _ => false) np ≤ 1800 := by
    have := sN_le (f := A) (sk := fun _ => false) (np := np) (fun p hp => by obtain ⟨h1, h2, h3, h4, h5, h6⟩ := hA p hp; omega) np (Nat.le_refl _)
    omega
  have hmx : am_max 0 (nI (L 0)) = nI (L 0) := by
    unfold am_max
    by_cases c1 : 0 < L 0
    · rw [if_pos (show (0 : Int32) < nI (L 0) from nI_lt (a := 0) c1 (by omega))]
    · rw [show L 0 = 0 by omega]; rfl
  have w1 := ww_h (I := I) (J := J1) (w := x + 32) (o := x + 1 + 2) (p := 0) (S := sN A (fun _ => false) np) (G := G 0) qnp q6 hp p3 p6 hSle z3 am_F (L 0) 0 (by omega) (by omega)
  obtain ⟨n, hnp⟩ : ∃ n, np = n + 1 := ⟨np - 1, by omega⟩
  have hfin : J2 (m + 7) (sN A (fun _ => false) np) = Int64.ofNat (0 + cN (wN L G (fun i => decide (i = 0)) np) (L 0) (G 0 + 1 - L 0) (sN A (fun _ => false) np)) := by
    rw [y2 _ (by omega), wF_nat hlg np (Nat.le_refl _), Nat.zero_add]
    congr 1
    rw [hnp]
    exact wN_first n _
  rw [f_X6_ways, e3, f_X5_waysWith, show f_X5_takeInOthers (x + 32) (x + 1 + 2) 0 I J = some J1 from z1, am_b1_some, fw_sumC qnp q6, am_b1_some, show f_X4_leastOf (x + 1 + 2) 0 I = _ from fw_leastOf (p := 0) qnp q6 hp, am_b1_some, am_let_ap, show smI (I (x + 1 + 2 + 1)) np = nI (sN A (fun _ => false) np) from hS, show I (x + 1 + 2 + 4) 0 = nI (L 0) from p2, hmx, show f_X5_waysWith_h26 (x + 32) (x + 1 + 2) am_F 0 (nI (sN A (fun _ => false) np)) 0 (nI (L 0)) I J1 = _ from w1, am_b2_some, f_X7_ways, y1, am_b1_some, fw_sumR hw qnp q6, am_b1_some, hS, ok1801 (by omega), am_g_tt, nI_tn (by omega), hfin]
  exact ⟨_, J1, J2, rfl, rfl, z5, y3⟩
theorem lst_h {I : aI} {J : aJ} {w o p S G v np : Nat} {L0 : Int32} {W : Nat → Nat} (hn : I o 0 = nI np) (h6 : np ≤ 6) (hp : p < np) (hG : I (o + 5) p = nI G) (hG3 : G ≤ 300) (hS : S ≤ 1800) (hJ : ∀ k, k < 1801 → J (w + 1) k = Int64.ofNat (W k)) (hW : ∀ k, W k < 9223372036854775808) (hv : v ≤ G) (hpos : shN W v S ≠ 0) : ∀ (n j : Nat), j ≤ v → v < n + j → (∀ i, j ≤ i → i < v → shN W i S = 0) → f_X5_leastIn_h22 w o n (nI p) (nI S) L0 (nI j) I J = some (nI v, J) := by
  have hsh : ∀ i, shN W i S < 9223372036854775808 := fun i => by unfold shN; split; exact hW _; omega
  intro n
  induction n with
  | zero => intro j h1 h2; omega
  | succ n ih =>
    intro j h1 h2 h3
    rw [f_X5_leastIn_h22, fw_greatestOf hn h6 hp, am_b1_some, hG, if_neg (nI_nlt (by omega) (by omega)), fw_waysOf hJ hS (by omega), am_b1_some]
    by_cases c : j = v
    · subst c
      rw [if_neg (fun z => hpos ((i64_pos (hsh _)).mp z))]
    · rw [if_pos ((i64_pos (hsh _)).mpr (h3 j (Nat.le_refl _) (by omega))), nI_1]
      exact ih (j + 1) (by omega) (by omega) (fun i h4 h5 => h3 i (by omega) h5)
theorem grt_h {I : aI} {J : aJ} {w o p S L v np : Nat} {L0 : Int32} {W : Nat → Nat} (hn : I o 0 = nI np) (h6 : np ≤ 6) (hp : p < np) (hL : I (o + 4) p = nI L) (hL3 : L ≤ 300) (hS : S ≤ 1800) (hJ : ∀ k, k < 1801 → J (w + 1) k = Int64.ofNat (W k)) (hW : ∀ k, W k < 9223372036854775808) (hv : L ≤ v) (hpos : shN W v S ≠ 0) : ∀ (n j : Nat), v ≤ j → j < n + v → j ≤ 300 → (∀ i, v < i → i ≤ j → shN W i S = 0) → f_X5_greatestIn_h22 w o n (nI p) (nI S) L0 (nI j) I J = some (nI v, J) := by
  have hsh : ∀ i, shN W i S < 9223372036854775808 := fun i => by unfold shN; split; exact hW _; omega
  intro n
  induction n with
  | zero => intro j h1 h2; omega
  | succ n ih =>
    intro j h1 h2 h3 h4
    rw [f_X5_greatestIn_h22, fw_leastOf hn h6 hp, am_b1_some, hL, if_neg (nI_nlt (by omega) (by omega)), fw_waysOf hJ hS (by omega), am_b1_some]
    by_cases c : j = v
    · subst c
      rw [if_neg (fun z => hpos ((i64_pos (hsh _)).mp z))]
    · have hj1 : nI j + (-1) = nI (j - 1) := by
        rw [show j = (j - 1) + 1 by omega, nI_succ]
        simp [Int32.add_assoc]
      rw [if_pos ((i64_pos (hsh _)).mpr (h4 j (by omega) (Nat.le_refl _))), hj1]
      exact ih (j - 1) (by omega) (by omega) (by omega) (fun i h5 h6 => h4 i h5 (by omega))
theorem ext_h {I Ir : aI} {g m np nl nd p : Nat} {k : Int32} {B : Nat → Nat} {s : Int32} (hw : RW I g (Ir (m + 1)) nl nd) (hn : I (g + 2) 0 = nI np) (h6 : np ≤ 6) (hp : p < np) (hB : ∀ j, j < np → (if k = 0 then I (g + 6) j else I (g + 7) j) = nI (B j)) : ∀ (n j : Nat), j ≤ np → np < n + j → f_X7_extreme_h9 m n (nI p) k (s - nI (sN B (fun i => decide (i = p)) j)) (nI j) Ir = f_X7_extreme_b54 m (nI p) k (s - nI (sN B (fun i => decide (i = p)) np)) Ir := by
  intro n
  induction n with
  | zero => intro j h1 h2; omega
  | succ n ih =>
    intro j h1 h2
    rw [f_X7_extreme_h9, hw.1.1, hn]
    by_cases h : np ≤ j
    · have : j = np := by omega
      subst this
      rw [if_pos (nI_le h (by omega))]
    · have hj : j < np := by omega
      obtain ⟨r0, r1, r2, r3, r4⟩ := hw.2.2.1 j (by omega)
      rw [if_neg (nI_ge (by omega) (by omega)), nI_1, ← ih (j + 1) (by omega) (by omega)]
      by_cases c : j = p
      · subst c
        have e : sN B (fun i => decide (i = j)) (j + 1) = sN B (fun i => decide (i = j)) j := by simp [sN]
        rw [if_pos rfl, am_let_ap, Int32.sub_zero, e]
      · have hs : ∀ v : Int32, v = nI (B j) → (s - nI (sN B (fun i => decide (i = p)) j)) - v = s - nI (sN B (fun i => decide (i = p)) j + B j) := fun v hv => by
          rw [hv, ← nI_add, Int32.sub_eq_add_neg, Int32.sub_eq_add_neg, Int32.sub_eq_add_neg, Int32.neg_add, Int32.add_assoc, ← Int32.sub_eq_add_neg (-_)]
        have e : sN B (fun i => decide (i = p)) (j + 1) = sN B (fun i => decide (i = p)) j + B j := by simp [sN, c]
        have hb := hB j hj
        rw [if_neg (show ¬ nI j = nI p by rw [nI_inj (by omega) (by omega)]; exact c), e]
        by_cases k0 : k = 0
        · rw [if_pos k0] at hb
          rw [if_pos k0, show f_X7_of m (nI j) 3 Ir = _ from fw_of (c := 3) (by omega) (by omega), r3, am_b1_some, am_let_ap, hs _ hb]
        · rw [if_neg k0] at hb
          rw [if_neg k0, show f_X7_of m (nI j) 4 Ir = _ from fw_of (c := 4) (by omega) (by omega), r4, am_b1_some, am_let_ap, hs _ hb]
def tS (W : Nat → Nat) (S : Nat) : Nat → Nat → Int64
  | _, 0 => 0
  | j, n + 1 => Int64.ofNat (shN W j S) * Int32.toInt64 (nI j) + tS W S (j + 1) n
theorem tS_out {W : Nat → Nat} {S : Nat} : ∀ n j, S < j → tS W S j n = 0 := by
  intro n
  induction n with
  | zero => intro j _; rfl
  | succ n ih =>
    intro j h
    have : shN W j S = 0 := by unfold shN; rw [if_neg (by omega)]
    rw [tS, ih (j + 1) (by omega), this, show Int64.ofNat 0 = 0 from rfl, Int64.zero_mul, Int64.add_zero]
theorem avC_h {I : aI} {J : aJ} {w o p S G np : Nat} {W : Nat → Nat} (hn : I o 0 = nI np) (h6 : np ≤ 6) (hp : p < np) (hG : I (o + 5) p = nI G) (hG3 : G ≤ 300) (hS : S ≤ 1800) (hJ : ∀ k, k < 1801 → J (w + 1) k = Int64.ofNat (W k)) : ∀ (n j : Nat) (acc : Nat) (x : Int64), j ≤ 301 → 301 < n + j → f_X5_averageIn_h24 w o n (nI p) (nI S) (Int64.ofNat acc) x (nI j) I J = f_X5_averageIn_b68 w o (Int64.ofNat (acc + cN W j (G + 1 - j) S)) (x + tS W S j (G + 1 - j)) I J := by
  intro n
  induction n with
  | zero => intro j acc x h1 h2; omega
  | succ n ih =>
    intro j acc x h1 h2
    rw [f_X5_averageIn_h24, fw_greatestOf hn h6 hp, am_b1_some, hG]
    by_cases c : G < j
    · rw [if_pos (nI_lt c (by omega)), show G + 1 - j = 0 by omega, tS, Int64.add_zero]; rfl
    · rw [if_neg (nI_nlt (by omega) (by omega)), fw_waysOf hJ hS (by omega), am_b1_some, am_let_ap, am_let_ap, ← Int64.ofNat_add, nI_1, ih (j + 1) _ _ (by omega) (by omega), show G + 1 - j = (G - j) + 1 by omega, cN_left, show G + 1 - (j + 1) = G - j by omega, Nat.add_assoc, tS, Int64.add_assoc]
theorem avR_h {I Ir : aI} {J : aJ} {g m p S G np nl nd : Nat} {W : Nat → Nat} (hw : RW I g (Ir (m + 1)) nl nd) (h6 : np ≤ 6) (hp : p < np) (hG : I (g + 7) p = nI G) (hG3 : G ≤ 300) (hS : S ≤ 1800) (hJ : ∀ k, k < 1801 → J (m + 7) k = Int64.ofNat (W k)) : ∀ (n j : Nat) (acc : Nat) (x : Int64), j ≤ 301 → 301 < n + j → ¬ Int64.ofNat (acc + cN W j (G + 1 - j) S) = 0 → f_X7_average_h24 m n (nI p) (nI S) (Int64.ofNat acc) x (nI j) Ir J = some (Int64.toInt32 ((x + tS W S j (G + 1 - j)) / Int64.ofNat (acc + cN W j (G + 1 - j) S)), J) := by
  intro n
  induction n with
  | zero => intro j acc x h1 h2; omega
  | succ n ih =>
    intro j acc x h1 h2 hne
    have r4 := (hw.2.2.1 p (by omega)).2.2.2.2
    rw [f_X7_average_h24, show f_X7_of m (nI p) 4 Ir = _ from fw_of (c := 4) (by omega) (by omega), r4, am_b1_some, hG]
    by_cases c : G < j
    · rw [show G + 1 - j = 0 by omega] at hne
      have hne' : ¬ Int64.ofNat acc = 0 := hne
      rw [if_pos (nI_lt c (by omega)), show G + 1 - j = 0 by omega, tS, Int64.add_zero, am_g_of _ (decide_eq_true hne')]; rfl
    · rw [if_neg (nI_nlt (by omega) (by omega))]
      by_cases c1 : S < j
      · rw [cN_out _ _ _ _ c1] at hne
        have hne' : ¬ Int64.ofNat acc = 0 := hne
        rw [if_pos (nI_lt c1 (by omega)), cN_out _ _ _ _ c1, tS_out _ _ c1, Int64.add_zero, am_g_of _ (decide_eq_true hne')]; rfl
      · have e1 : shN W j S = W (S - j) := by unfold shN; rw [if_pos (by omega)]
        have e2 : acc + cN W j (G + 1 - j) S = acc + W (S - j) + cN W (j + 1) (G + 1 - (j + 1)) S := by
          rw [show G + 1 - j = (G - j) + 1 by omega, cN_left, show G + 1 - (j + 1) = G - j by omega, e1, Nat.add_assoc]
        rw [if_neg (nI_nlt (by omega) (by omega)), nI_sub (by omega), ok1801 (by omega), nI_tn (by omega)]
        simp only [am_g_tt, am_let_ap]
        rw [hJ _ (by omega), ← Int64.ofNat_add, nI_1, ih (j + 1) _ _ (by omega) (by omega) (by rw [← e2]; exact hne), ← e2, show G + 1 - j = (G - j) + 1 by omega, tS, show G + 1 - (j + 1) = G - j by omega, e1, Int64.mul_comm, Int64.add_assoc]
theorem known_pair {I Ir : aI} {x m np nl nd : Nat} (hv : IV I (x + 1) np nl nd) (hw : RW I (x + 1) (Ir (m + 1)) nl nd) (J Jr : aJ) (a k : Int32) : JP x m J Jr (f_X6_known x a k I J) (f_X7_known m a k Ir Jr) := by
  have hF := am_F_big
  obtain ⟨q2, q6, q1, q12, qnp, qnl, qnd⟩ := id hv.1
  obtain ⟨⟨a0, a1, a2⟩, -⟩ := id hw
  have e3 : x + 3 = x + 1 + 2 := by omega
  rw [f_X6_known, f_X7_known, e3]
  rcases seat_cases a np (by omega) with ⟨p, hp, rfl⟩ | ho
  · have hp6 : p < 6 := by omega
    obtain ⟨r0, r1, r2, r3, r4⟩ := hw.2.2.1 p hp6
    obtain ⟨A, L, G, hA⟩ := pur_nat hv
    obtain ⟨J1, J2, z1, z2, z3, z4, z5, z6⟩ := lay_pair hv hw hp hA J Jr
    obtain ⟨p1, p2, p3, p4, p5, p6⟩ := hA p hp
    have hS := sum_nat (fun p hp => (hA p hp).1)
    have hlg : ∀ j, j < np → L j ≤ G j := fun j hj => by obtain ⟨h1, h2, h3, h4, h5, h6⟩ := hA j hj; omega
    have hG3 : ∀ j, j < np → G j ≤ 300 := fun j hj => by obtain ⟨h1, h2, h3, h4, h5, h6⟩ := hA j hj; omega
    have hSle : sN A (fun _ => false) np ≤ 1800 := by
      have := sN_le (f := A) (sk := fun _ => false) (np := np) (fun p hp => by obtain ⟨h1, h2, h3, h4, h5, h6⟩ := hA p hp; omega) np (Nat.le_refl _)
      omega
    have hS1 := sN_one (f := A) (p := p) np hp
    have hSL := sN_mono (f := L) (h := A) (sk := fun i => decide (i = p)) (np := np) (fun p hp => by obtain ⟨h1, h2, h3, h4, h5, h6⟩ := hA p hp; omega) np (Nat.le_refl _)
    have hSG := sN_mono (f := A) (h := G) (sk := fun i => decide (i = p)) (np := np) (fun p hp => by obtain ⟨h1, h2, h3, h4, h5, h6⟩ := hA p hp; omega) np (Nat.le_refl _)
    have hSG3 := sN_le (f := G) (sk := fun i => decide (i = p)) (np := np) hG3 np (Nat.le_refl _)
    have hwp := fun k => wN_pos (L := L) (G := G) (sk := fun i => decide (i = p)) (np := np) hlg np (Nat.le_refl _) k
    have hwl := fun k => wN_le (L := L) (G := G) (sk := fun i => decide (i = p)) (np := np) hG3 np (Nat.le_refl _) k
    have hpw : (301 : Nat) ^ np ≤ 301 ^ 6 := Nat.pow_le_pow_right (by omega) q6
    have hbig : (301 : Nat) ^ 6 < 1000000000000000 := by decide
    have hWb : ∀ k, wN L G (fun i => decide (i = p)) np k < 9223372036854775808 := fun k => by have := hwl k; omega
    rw [fw_hasSeat_in qnp q6 hp, fw_isPin (a0.trans qnp) q6 hp, am_b1_some, am_b1_some, if_neg one0, if_neg one0]
    by_cases k0 : k = 0
    · rw [if_pos k0, if_pos k0, fw_leastOf qnp q6 hp, am_b1_some, show f_X7_of m (nI p) 3 Ir = _ from fw_of (c := 3) hp6 (by omega), r3, am_b1_some]
      exact JP.same rfl rfl
    rw [if_neg k0, if_neg k0]
    by_cases k1 : k = 1
    · rw [if_pos k1, if_pos k1, fw_greatestOf qnp q6 hp, am_b1_some, show f_X7_of m (nI p) 4 Ir = _ from fw_of (c := 4) hp6 (by omega), r4, am_b1_some]
      exact JP.same rfl rfl
    rw [if_neg k1, if_neg k1]
    by_cases k2 : k = 2
    · have hx := ext_h (Ir := Ir) (m := m) (p := p) (k := 1) (B := G) (s := nI (sN A (fun _ => false) np)) hw qnp q6 hp (fun j hj => by rw [if_neg one0]; exact (hA j hj).2.2.1) am_F 0 (by omega) (by omega)
      rw [show nI (sN A (fun _ => false) np) - nI (sN G (fun i => decide (i = p)) 0) = nI (sN A (fun _ => false) np) from Int32.sub_zero _] at hx
      have hpos : ∀ v, (shN (wN L G (fun i => decide (i = p)) np) v (sN A (fun _ => false) np) ≠ 0 ↔ v ≤ sN A (fun _ => false) np ∧ sN L (fun i => decide (i = p)) np ≤ sN A (fun _ => false) np - v ∧ sN A (fun _ => false) np - v ≤ sN G (fun i => decide (i = p)) np) := fun v => by
        unfold shN
        by_cases c : v ≤ sN A (fun _ => false) np
        · rw [if_pos c, ← hwp]; omega
        · rw [if_neg c]; omega
      have hl := lst_h (I := I) (J := J1) (w := x + 32) (o := x + 1 + 2) (p := p) (S := sN A (fun _ => false) np) (G := G p) (v := max (L p) (sN A (fun _ => false) np - sN G (fun i => decide (i = p)) np)) (L0 := nI (L p)) qnp q6 hp p3 p6 hSle z3 hWb (by omega) ((hpos _).mpr (by omega)) am_F (L p) (by omega) (by omega) (fun i h1 h2 => by
        have := hpos i
        omega)
      rw [if_pos k2, if_pos k2, f_X5_leastIn, z1, am_b1_some, fw_sumC qnp q6, am_b1_some, fw_leastOf qnp q6 hp, am_b1_some, show smI (I (x + 1 + 2 + 1)) np = nI (sN A (fun _ => false) np) from hS, show I (x + 1 + 2 + 4) p = nI (L p) from p2, hl, am_b2_some, f_X7_extreme, fw_sumR hw qnp q6, am_b1_some, hS, show f_X7_extreme_h9 m am_F (nI p) 1 (nI (sN A (fun _ => false) np)) 0 Ir = _ from hx, f_X7_extreme_b54, if_neg one0, f_X7_extreme_b65, show f_X7_of m (nI p) 3 Ir = _ from fw_of (c := 3) hp6 (by omega), r3, am_b1_some, if_neg one0, p2]
      by_cases c : sN G (fun i => decide (i = p)) np + L p < sN A (fun _ => false) np
      · have e : nI (sN A (fun _ => false) np) - nI (sN G (fun i => decide (i = p)) np) = nI (sN A (fun _ => false) np - sN G (fun i => decide (i = p)) np) := nI_sub (by omega)
        rw [e, if_neg (nI_ge (by omega) (by omega)), am_b1_some, show max (L p) (sN A (fun _ => false) np - sN G (fun i => decide (i = p)) np) = sN A (fun _ => false) np - sN G (fun i => decide (i = p)) np by omega]
        exact ⟨_, J1, Jr, rfl, rfl, z5, fun _ _ _ => rfl⟩
      · have hle : nI (sN A (fun _ => false) np) - nI (sN G (fun i => decide (i = p)) np) ≤ nI (L p) := by
          apply Int32.le_iff_toInt_le.mpr
          rw [sub_toInt (by rw [nI_toInt (by omega), nI_toInt (by omega)]; omega) (by rw [nI_toInt (by omega), nI_toInt (by omega)]; omega), nI_toInt (by omega), nI_toInt (by omega), nI_toInt (by omega)]
          omega
        rw [if_pos hle, am_b1_some, show max (L p) (sN A (fun _ => false) np - sN G (fun i => decide (i = p)) np) = L p by omega]
        exact ⟨_, J1, Jr, rfl, rfl, z5, fun _ _ _ => rfl⟩
    rw [if_neg k2, if_neg k2]
    by_cases k3 : k = 3
    · have hx := ext_h (Ir := Ir) (m := m) (p := p) (k := 0) (B := L) (s := nI (sN A (fun _ => false) np)) hw qnp q6 hp (fun j hj => by rw [if_pos rfl]; exact (hA j hj).2.1) am_F 0 (by omega) (by omega)
      rw [show nI (sN A (fun _ => false) np) - nI (sN L (fun i => decide (i = p)) 0) = nI (sN A (fun _ => false) np) from Int32.sub_zero _, show nI (sN A (fun _ => false) np) - nI (sN L (fun i => decide (i = p)) np) = nI (sN A (fun _ => false) np - sN L (fun i => decide (i = p)) np) from nI_sub (by omega)] at hx
      have hpos : ∀ v, (shN (wN L G (fun i => decide (i = p)) np) v (sN A (fun _ => false) np) ≠ 0 ↔ v ≤ sN A (fun _ => false) np ∧ sN L (fun i => decide (i = p)) np ≤ sN A (fun _ => false) np - v ∧ sN A (fun _ => false) np - v ≤ sN G (fun i => decide (i = p)) np) := fun v => by
        unfold shN
        by_cases c : v ≤ sN A (fun _ => false) np
        · rw [if_pos c, ← hwp]; omega
        · rw [if_neg c]; omega
      have hl := grt_h (I := I) (J := J1) (w := x + 32) (o := x + 1 + 2) (p := p) (S := sN A (fun _ => false) np) (L := L p) (v := min (G p) (sN A (fun _ => false) np - sN L (fun i => decide (i = p)) np)) (L0 := nI (G p)) qnp q6 hp p2 (by omega) hSle z3 hWb (by omega) ((hpos _).mpr (by omega)) am_F (G p) (by omega) (by omega) p6 (fun i h1 h2 => by
        have := hpos i
        omega)
      rw [if_pos k3, if_pos k3, f_X5_greatestIn, z1, am_b1_some, fw_sumC qnp q6, am_b1_some, fw_greatestOf qnp q6 hp, am_b1_some, show smI (I (x + 1 + 2 + 1)) np = nI (sN A (fun _ => false) np) from hS, show I (x + 1 + 2 + 5) p = nI (G p) from p3, hl, am_b2_some, f_X7_extreme, fw_sumR hw qnp q6, am_b1_some, hS, show f_X7_extreme_h9 m am_F (nI p) 0 (nI (sN A (fun _ => false) np)) 0 Ir = _ from hx, f_X7_extreme_b54, if_pos rfl, f_X7_extreme_b65, show f_X7_of m (nI p) 4 Ir = _ from fw_of (c := 4) hp6 (by omega), r4, am_b1_some, if_pos rfl, p3]
      by_cases c : G p ≤ sN A (fun _ => false) np - sN L (fun i => decide (i = p)) np
      · rw [if_pos (nI_le c (by omega)), am_b1_some, show min (G p) (sN A (fun _ => false) np - sN L (fun i => decide (i = p)) np) = G p by omega]
        exact ⟨_, J1, Jr, rfl, rfl, z5, fun _ _ _ => rfl⟩
      · rw [if_neg (nI_ge (by omega) (by omega)), am_b1_some, show min (G p) (sN A (fun _ => false) np - sN L (fun i => decide (i = p)) np) = sN A (fun _ => false) np - sN L (fun i => decide (i = p)) np by omega]
        exact ⟨_, J1, Jr, rfl, rfl, z5, fun _ _ _ => rfl⟩
    rw [if_neg k3, if_neg k3]
    by_cases k4 : k = 4
    · have hcp : 0 < cN (wN L G (fun i => decide (i = p)) np) (L p) (G p + 1 - L p) (sN A (fun _ => false) np) := (cN_pos _ _ _ _).mpr ⟨A p, p4, by omega, by omega, (hwp _).mpr (by omega)⟩
      have hcl := cN_le (fun k => hwl k) (sN A (fun _ => false) np) (G p + 1 - L p) (L p)
      have hcl2 : (G p + 1 - L p) * 301 ^ np ≤ 301 * 301 ^ np := Nat.mul_le_mul_right _ (by omega)
      have hcb : 0 + cN (wN L G (fun i => decide (i = p)) np) (L p) (G p + 1 - L p) (sN A (fun _ => false) np) < 9223372036854775808 := by omega
      have hcz : ¬ Int64.ofNat (0 + cN (wN L G (fun i => decide (i = p)) np) (L p) (G p + 1 - L p) (sN A (fun _ => false) np)) = 0 := fun z => by
        have := (i64_pos hcb).mp (by rw [z]; decide)
        omega
      have w1 := avC_h (I := I) (J := J1) (w := x + 32) (o := x + 1 + 2) (p := p) (S := sN A (fun _ => false) np) (G := G p) qnp q6 hp p3 p6 hSle z3 am_F (L p) 0 0 (by omega) (by omega)
      have w2 := avR_h (Ir := Ir) (J := J2) (m := m) (p := p) (S := sN A (fun _ => false) np) (G := G p) hw q6 hp p3 p6 hSle z4 am_F (L p) 0 0 (by omega) (by omega) hcz
      rw [if_pos k4, if_pos k4, f_X5_averageIn, z1, am_b1_some, fw_sumC qnp q6, am_b1_some, fw_leastOf qnp q6 hp, am_b1_some, show smI (I (x + 1 + 2 + 1)) np = nI (sN A (fun _ => false) np) from hS, show I (x + 1 + 2 + 4) p = nI (L p) from p2, show f_X5_averageIn_h24 (x + 32) (x + 1 + 2) am_F (nI p) (nI (sN A (fun _ => false) np)) 0 0 (nI (L p)) I J1 = _ from w1, f_X5_averageIn_b68, if_neg (fun z => absurd ((i64_pos hcb).mp z) (by omega)), am_g_of _ (decide_eq_true hcz), am_b2_some, f_X7_average, z2, am_b1_some, fw_sumR hw qnp q6, am_b1_some, show f_X7_of m (nI p) 3 Ir = _ from fw_of (c := 3) hp6 (by omega), r3, am_b1_some, hS, p2, show f_X7_average_h24 m am_F (nI p) (nI (sN A (fun _ => false) np)) 0 0 (nI (L p)) Ir J2 = _ from w2, am_b2_some]
      exact ⟨_, J1, J2, rfl, rfl, z5, z6⟩
    rw [if_neg k4, if_neg k4]
    exact JP.same rfl rfl
  · rw [fw_hasSeat_out qnp ho, fw_isPout (a0.trans qnp) (by omega) q6 ho, am_b1_some, am_b1_some, if_pos rfl, if_pos rfl]
    exact JP.same rfl rfl
