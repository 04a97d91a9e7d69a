/-! PURE: SEALED auctions -/
def bB (b : Nat → Int32) : Nat → Int32
  | 0 => 0
  | n + 1 => if b n ≤ bB b n then bB b n else b n
def wS (b : Nat → Int32) (v : Int32) : Nat → Nat
  | 0 => 0
  | n + 1 => if b n = v then wS b v n ||| 2 ^ n else wS b v n
theorem bB_ub {b : Nat → Int32} : ∀ n, ∀ i, i < n → (b i).toInt ≤ (bB b n).toInt := by
  intro n
  induction n with
  | zero => intro i h; omega
  | succ n ih =>
    intro i h
    rw [bB]
    by_cases c : b n ≤ bB b n
    · rw [if_pos c]
      by_cases e : i = n
      · subst e; exact Int32.le_iff_toInt_le.mp c
      · exact ih i (by omega)
    · rw [if_neg c]
      by_cases e : i = n
      · subst e; exact Int.le_refl _
      · have := ih i (by omega)
        have h2 : ¬ (b n).toInt ≤ (bB b n).toInt := fun q => c (Int32.le_iff_toInt_le.mpr q)
        omega
theorem bB_at {b : Nat → Int32} : ∀ n, bB b n = 0 ∨ ∃ i, i < n ∧ b i = bB b n := by
  intro n
  induction n with
  | zero => exact Or.inl rfl
  | succ n ih =>
    rw [bB]
    by_cases c : b n ≤ bB b n
    · rw [if_pos c]
      rcases ih with h | ⟨i, h1, h2⟩
      · exact Or.inl h
      · exact Or.inr ⟨i, by omega, h2⟩
    · rw [if_neg c]; exact Or.inr ⟨n, by omega, rfl⟩
theorem bB_nn {b : Nat → Int32} : ∀ n, 0 ≤ (bB b n).toInt := by
  intro n
  induction n with
  | zero => exact Int.le_refl _
  | succ n ih =>
    rw [bB]
    by_cases c : b n ≤ bB b n
    · rw [if_pos c]; exact ih
    · rw [if_neg c]
      have h2 : ¬ (b n).toInt ≤ (bB b n).toInt := fun q => c (Int32.le_iff_toInt_le.mpr q)
      omega
theorem wS_ok {b : Nat → Int32} {v : Int32} : ∀ n, n ≤ 6 → wS b v n < 64 ∧ ∀ p, p < 6 → (wS b v n).testBit p = (decide (p < n) && decide (b p = v)) := by
  intro n
  induction n with
  | zero => intro _; exact ⟨show 0 < 64 by omega, fun p hp => by simp [wS]⟩
  | succ n ih =>
    intro hn
    obtain ⟨h1, h2⟩ := ih (by omega)
    obtain ⟨-, o2, o3⟩ := or_64 _ h1 n (by omega)
    rw [wS]
    by_cases c : b n = v
    · rw [if_pos c]
      refine ⟨o2, fun p hp => ?_⟩
      rw [o3 p hp, h2 p hp]
      by_cases e : n = p
      · subst e; simp [c]
      · have : (p < n + 1) ↔ (p < n) := by omega
        simp [e, this]
    · rw [if_neg c]
      refine ⟨h1, fun p hp => ?_⟩
      rw [h2 p hp]
      by_cases e : n = p
      · subst e; simp [c]
      · have : (p < n + 1) ↔ (p < n) := by omega
        simp [this]
theorem wS_zero {b : Nat → Int32} {v : Int32} : ∀ n, (∀ i, i < n → b i ≠ v) → wS b v n = 0 := by
  intro n
  induction n with
  | zero => intro _; rfl
  | succ n ih => intro h; rw [wS, if_neg (h n (by omega)), ih (fun i hi => h i (by omega))]
theorem learn_pair {g m np nl nd : Nat} {b : Nat → Int32} (h6 : np ≤ 6) : ∀ (n j : Nat) (I Ir : aI), CO I g np nl nd (Ir (m + 1)) → (∀ p, p < np → I (g + 14) p = b p) → (∀ p, p < np → Ir (m + 1) (16 + 7 * p + 5) = b p) → (∀ p, p < np → (b p).toInt ≤ (I (g + 3) p).toInt) → j ≤ np → np < n + j →
    ∃ I1 Ir1, f_X1_openBids_h6 g n (bB b j) (nI (wS b (bB b j) j)) (nI j) I = f_X1_openBids_b66 g (bB b np) (nI (wS b (bB b np) np)) I1 ∧ f_X7_openSealed_h4 m n (bB b j) (nI j) Ir = f_X7_openSealed_b52 m (bB b np) Ir1 ∧ CO I1 g np nl nd (Ir1 (m + 1)) ∧ (∀ q, q ≠ g + 6 → I1 q = I q) ∧ (∀ p, p < np → Ir1 (m + 1) (16 + 7 * p + 5) = b p) ∧ Ir1 (m + 1) 5 = Ir (m + 1) 5 ∧ frR m Ir Ir1 := by
  intro n
  induction n with
  | zero => intro j I Ir _ _ _ _ h1 h2; omega
  | succ n ih =>
    intro j I Ir hc hb hbr ha h1 h2
    obtain ⟨hh, -, -, -, ⟨a0, a1, a2⟩, -⟩ := id hc
    obtain ⟨q2, q6, q1, q12, qnp, qnl, qnd⟩ := id hh
    rw [f_X1_openBids_h6, f_X7_openSealed_h4, qnp, a0, qnp]
    by_cases h : np ≤ j
    · have : j = np := by omega
      subst this
      rw [if_pos (nI_le h (by omega)), if_pos (nI_le h (by omega))]
      exact ⟨I, Ir, rfl, rfl, hc, fun _ _ => rfl, hbr, rfl, frR.rf⟩
    · have hj : j < np := by omega
      have hj6 : j < 6 := by omega
      obtain ⟨Ia, hIa⟩ : ∃ Ia, Ia = am_w I (g + 6) j (mxI (I (g + 6) j) (b j)) := ⟨_, rfl⟩
      obtain ⟨Ira, hIra⟩ : ∃ Ira, Ira = rw1 Ir m (upd (Ir (m + 1)) (16 + 7 * j + 3) (mxI (Ir (m + 1) (16 + 7 * j + 3)) (b j))) := ⟨_, rfl⟩
      have q5 : f_X7_of m (nI j) 5 Ir = some (b j) := by
        rw [show f_X7_of m (nI j) 5 Ir = _ from fw_of (c := 5) hj6 (by omega), hbr _ hj]
      have q5' : f_X7_of m (nI j) 5 Ira = some (b j) := by
        rw [show f_X7_of m (nI j) 5 Ira = _ from fw_of (c := 5) hj6 (by omega), hIra, rw1_row, upd_nq _ (by omega), hbr _ hj]
      have hca : CO Ia g np nl nd (Ira (m + 1)) := by
        rw [hIa, hIra, rw1_row]
        exact co_know hc hj (ha j hj)
      have hfa : ∀ q, q ≠ g + 6 → Ia q = I q := fun q hq => by rw [hIa]; exact am_w_ne _ _ hq
      have hbra : ∀ p, p < np → Ira (m + 1) (16 + 7 * p + 5) = b p := fun p hp => by rw [hIra, rw1_row, upd_nq _ (by omega)]; exact hbr p hp
      obtain ⟨I1, Ir1, z1, z2, z3, z4, z5, z6, z7⟩ := ih (j + 1) Ia Ira hca (fun p hp => by rw [hfa _ (by omega)]; exact hb p hp) hbra (fun p hp => by rw [hfa _ (by omega)]; exact ha p hp) (by omega) (by omega)
      have hlt : f_X4_learnAtLeast (g + 2) (nI j) (b j) I = some Ia := by
        rw [fw_learn (b j) qnp q6 hj, hIa]
      refine ⟨I1, Ir1, ?_, ?_, z3, fun q hq => (z4 q hq).trans (hfa q hq), z5, ?_, frR.tr (by rw [hIra]; exact frR.rw1 frR.rf) z7⟩
      · rw [← z1, if_neg (nI_ge (by omega) (by omega)), fw_bidOf hj6, am_b1_some, show I (g + 13 + 1) j = b j from hb j hj, hlt, am_b1_some]
        rw [bB]
        by_cases c : b j ≤ bB b j
        · rw [if_pos c, if_pos c, f_X1_openBids_b48, wS, nI_1]
          by_cases e : b j = bB b j
          · obtain ⟨w1, -⟩ := wS_ok (b := b) (v := bB b j) j (by omega)
            rw [if_pos e, if_pos e, am_let_ap, (or_64 _ w1 j hj6).1]
          · rw [if_neg e, if_neg e]
        · have h2 : ¬ (b j).toInt ≤ (bB b j).toInt := fun q => c (Int32.le_iff_toInt_le.mpr q)
          have hz : wS b (b j) j = 0 := wS_zero j (fun i hi he => by
            have := bB_ub (b := b) j i hi
            rw [he] at this
            omega)
          have h0 := (or_64 0 (by omega) j hj6).1
          rw [if_neg c, if_neg c, f_X1_openBids_b48, wS, nI_1, if_pos rfl, if_pos rfl, am_let_ap, hz, show (0 : Int32) = nI 0 from rfl, h0]
      · rw [← z2, if_neg (nI_ge (by omega) (by omega)), q5, am_b1_some, fw_know _ hj6, am_b1_some, ← hIra, q5', am_b1_some, nI_1]
        rw [bB]
        by_cases c : b j ≤ bB b j
        · rw [if_pos c, if_pos c]
        · rw [if_neg c, if_neg c, am_b1_some]
      · rw [z6, hIra, rw1_row, upd_nq _ (by omega)]
theorem set_h {m np : Nat} {b : Nat → Int32} {v : Int32} {Ir : aI} (h6 : np ≤ 6) (h0 : Ir (m + 1) 0 = nI np) (hbr : ∀ p, p < np → Ir (m + 1) (16 + 7 * p + 5) = b p) : ∀ (n j : Nat), j ≤ np → np < n + j → f_X7_openSealed_h74 m n v (nI (wS b v j)) (nI j) Ir = f_X7_openSealed_b110 m v (nI (wS b v np)) Ir := by
  intro n
  induction n with
  | zero => intro j h1 h2; omega
  | succ n ih =>
    intro j h1 h2
    rw [f_X7_openSealed_h74, h0]
    by_cases h : np ≤ j
    · have : j = np := by omega
      subst this
      rw [if_pos (nI_le h (by omega))]
    · have q5 : f_X7_of m (nI j) 5 Ir = some (b j) := by
        rw [show f_X7_of m (nI j) 5 Ir = _ from fw_of (c := 5) (show j < 6 by omega) (by omega), hbr _ (by omega)]
      obtain ⟨w1, -⟩ := wS_ok (b := b) (v := v) j (by omega)
      rw [if_neg (nI_ge (by omega) (by omega)), q5, am_b1_some, ← ih (j + 1) (by omega) (by omega), wS]
      by_cases e : b j = v
      · rw [if_pos e, if_pos e, am_let_ap, (or_64 _ w1 j (by omega)).1, nI_1]
      · rw [if_neg e, if_neg e, am_let_ap, Int32.or_zero, nI_1]
theorem div_ok : ∀ a : Nat, a < 301 → ∀ k : Nat, k < 7 → k ≠ 0 → nI a / nI k = nI (a / k) ∧ am_rem (nI a) (nI k) = nI (a % k) := by decide +kernel
/-- the winners pay, the both sides at once -/
theorem pay_pair {g m np nl nd W e : Nat} {B : Int32} (hW : W < 64) (he : e ≤ 300) (hd : nd < nl) : ∀ (n j : Nat) (c r : Int32) (I Ir : aI), CO I g np nl nd (Ir (m + 1)) → j ≤ np → np < n + j → ((∃ q, q < 7 ∧ c = nI q ∧ r = nI q) ∨ (-(j : Int) ≤ c.toInt ∧ c.toInt ≤ 0 ∧ r = 0)) → (∀ i, j ≤ i → i < np → W.testBit ((nd % np + i) % np) = true → (e : Int) ≤ (I (g + 3) ((nd % np + i) % np)).toInt ∧ (r ≠ 0 → (e : Int) + 1 ≤ (I (g + 3) ((nd % np + i) % np)).toInt)) →
    ∃ I1 Ir1, f_X1_collect_h29 g n (nI W) (nI e) c (nI (nd % np)) (nI j) I = some I1 ∧ f_X7_openSealed_h128 m n B (nI W) (nI e) r (nI j) Ir = (am_b2 (f_X7_finish m (nI W) B Ir1) fun r2 I2 => some (r2, I2)) ∧ CO I1 g np nl nd (Ir1 (m + 1)) ∧ I1 (g + 13) = I (g + 13) ∧ frC g I I1 ∧ frR m Ir Ir1 := by
  intro n
  induction n with
  | zero => intro j c r I Ir _ h1 h2; omega
  | succ n ih =>
    intro j c r I Ir hc h1 h2 hcr ha
    obtain ⟨hh, -, -, -, ⟨a0, a1, a2⟩, -⟩ := id hc
    obtain ⟨q2, q6, q1, q12, qnp, qnl, qnd⟩ := id hh
    rw [f_X1_collect_h29, f_X7_openSealed_h128, qnp, a0, qnp]
    by_cases h : np ≤ j
    · rw [if_pos (nI_le h (by omega)), if_pos (nI_le h (by omega))]
      exact ⟨I, Ir, rfl, rfl, hc, rfl, frC.rf, frR.rf⟩
    · have hs := Nat.mod_lt nd (show np > 0 by omega)
      have hm := Nat.mod_lt (nd % np + j) (show np > 0 by omega)
      have hp6 : (nd % np + j) % np < 6 := by omega
      rw [if_neg (nI_ge (by omega) (by omega)), if_neg (nI_ge (by omega) (by omega)), fw_seatBehind qnp q6 hs (by omega), am_b1_some, fw_seatR (a0.trans qnp) (a2.trans qnd) q2 q6 (by omega) (by omega), am_b1_some]
      have hbt := bt_nI W hW ((nd % np + j) % np) hp6
      cases hb : W.testBit ((nd % np + j) % np)
      · rw [hb] at hbt
        rw [bt_f hbt, if_pos rfl, if_neg (show ¬ (0 : Int32) = 1 by decide), nI_1]
        exact ih (j + 1) c r I Ir hc (by omega) (by omega) (hcr.imp id (fun z => ⟨by omega, z.2⟩)) (fun i hi => ha i (by omega))
      · rw [hb] at hbt
        rw [bt_t hbt, if_neg (show ¬ (1 : Int32) = 0 by decide), if_pos rfl]
        obtain ⟨ha1, ha2⟩ := ha j (Nat.le_refl _) (by omega) hb
        -- one payment of v on both sides
        have step : ∀ (v : Int32) (c' r' : Int32), 0 ≤ v.toInt → v.toInt ≤ (I (g + 3) ((nd % np + j) % np)).toInt → (r' ≠ 0 → r ≠ 0) → ((∃ q, q < 7 ∧ c' = nI q ∧ r' = nI q) ∨ (-((j + 1 : Nat) : Int) ≤ c'.toInt ∧ c'.toInt ≤ 0 ∧ r' = 0)) →
            ∃ I1 Ir1, (am_b1 (f_X4_takeFrom (g + 2) (nI ((nd % np + j) % np)) v I) fun I5 => f_X1_collect_h29 g n (nI W) (nI e) c' (nI (nd % np)) (nI j + 1) I5) = some I1 ∧ (am_b1 (f_X7_pay m (nI ((nd % np + j) % np)) v Ir) fun I5 => f_X7_openSealed_h128 m n B (nI W) (nI e) r' (nI j + 1) I5) = (am_b2 (f_X7_finish m (nI W) B Ir1) fun r2 I2 => some (r2, I2)) ∧ CO I1 g np nl nd (Ir1 (m + 1)) ∧ I1 (g + 13) = I (g + 13) ∧ frC g I I1 ∧ frR m Ir Ir1 := by
          intro v c' r' hv0 hv1 hrr hcr'
          have hcp : CO (payC I (g + 2) ((nd % np + j) % np) v) g np nl nd (rw1 Ir m (payR (Ir (m + 1)) ((nd % np + j) % np) v) (m + 1)) := by
            rw [rw1_row]
            exact co_pay hc hm hv0 hv1
          obtain ⟨I1, Ir1, z1, z2, z3, z4, z5, z6⟩ := ih (j + 1) c' r' _ _ hcp (by omega) (by omega) hcr' (fun i hi hi2 hwi => by
            obtain ⟨y1, y2⟩ := ha i (by omega) hi2 hwi
            have hne : ¬ (nd % np + i) % np = (nd % np + j) % np := fun q => by
              have k1 := (mod_hit hs hm i hi2).mp q
              have k2 := (mod_hit hs hm j (by omega)).mp rfl
              omega
            have hk : payC I (g + 2) ((nd % np + j) % np) v (g + 3) ((nd % np + i) % np) = I (g + 3) ((nd % np + i) % np) := by
              unfold payC
              rw [am_w_nq _ _ (by omega), am_w_nq _ _ (by omega), am_w_nq _ _ (by omega), am_w_nq _ _ (by omega)]
            rw [hk]
            exact ⟨y1, fun z => y2 (hrr z)⟩)
          refine ⟨I1, Ir1, ?_, ?_, z3, ?_, frC.rf.pay.tr z5, (frR.rw1 frR.rf).tr z6⟩
          · rw [fw_takeFrom v qnp q6 hm, am_b1_some, nI_1, z1]
          · rw [fw_pay v hp6, am_b1_some, nI_1, z2]
          · rw [z4]
            funext k
            unfold payC
            rw [am_w_nq _ _ (by omega), am_w_nq _ _ (by omega), am_w_nq _ _ (by omega), am_w_nq _ _ (by omega)]
        have hcm : ∀ (c : Int32), -(j : Int) ≤ c.toInt → c.toInt ≤ 0 → (c + (-1)).toInt = c.toInt - 1 := fun c k1 k2 => by
          rw [add_toInt (by rw [show ((-1 : Int32)).toInt = -1 from rfl]; omega) (by rw [show ((-1 : Int32)).toInt = -1 from rfl]; omega), show ((-1 : Int32)).toInt = -1 from rfl]
          omega
        have hz : c ≤ 0 → r = 0 ∧ (-(j : Int) ≤ c.toInt ∧ c.toInt ≤ 0) := fun q => by
          have h9 := Int32.le_iff_toInt_le.mp q
          rw [zI] at h9
          rcases hcr with ⟨k, k1, k2, k3⟩ | ⟨k1, k2, k3⟩
          · rw [k2, nI_toInt (by omega)] at h9
            have : k = 0 := by omega
            subst this
            exact ⟨k3, by rw [k2]; exact ⟨by rw [nI_toInt (by omega)]; omega, by rw [nI_toInt (by omega)]; omega⟩⟩
          · exact ⟨k3, k1, k2⟩
        by_cases hq : c ≤ 0
        · obtain ⟨hr0, hc1, hc2⟩ := hz hq
          rw [if_pos hq, hr0, if_pos (show (0 : Int32) ≤ 0 by decide), f_X7_openSealed_b171, Int32.add_zero]
          simp only [am_let_ap, if_pos (show (0 : Int32) ≤ 0 by decide)]
          rw [show (0 : Int32) - 0 = 0 from rfl]
          have t1 : -((j + 1 : Nat) : Int) ≤ (c + (-1)).toInt := by rw [hcm c hc1 hc2]; omega
          have t2 : (c + (-1)).toInt ≤ 0 := by rw [hcm c hc1 hc2]; omega
          exact step (nI e) (c + (-1)) 0 (by rw [nI_toInt (by omega)]; omega) (by rw [nI_toInt (by omega)]; exact ha1) (fun z => absurd rfl z) (Or.inr ⟨t1, t2, rfl⟩)
        · have hcp : ∃ k, k + 1 < 7 ∧ c = nI (k + 1) ∧ r = nI (k + 1) := by
            rcases hcr with ⟨k, k1, k2, k3⟩ | ⟨k1, k2, k3⟩
            · cases k with
              | zero => exact absurd (by rw [k2]; decide) hq
              | succ k => exact ⟨k, k1, k2, k3⟩
            · exact absurd (Int32.le_iff_toInt_le.mpr (by rw [zI]; exact k2)) hq
          obtain ⟨k, k1, k2, k3⟩ := hcp
          have hrq : ¬ r ≤ 0 := by rw [k3, ← k2]; exact hq
          have hr0 : r ≠ 0 := fun z => hrq (by rw [z]; decide)
          rw [if_neg hq, if_neg hrq, f_X7_openSealed_b171]
          simp only [am_let_ap, if_neg hrq]
          have e1 : nI e + 1 = nI (e + 1) := nI_1 e
          have c1 : c + (-1) = nI k := by
            rw [k2, nI_succ]
            simp [Int32.add_assoc]
          have r1 : r - 1 = nI k := by
            rw [k3, show (1 : Int32) = nI 1 from rfl, nI_sub (by omega)]; rfl
          rw [e1, c1, r1]
          exact step (nI (e + 1)) (nI k) (nI k) (by rw [nI_toInt (by omega)]; omega) (by rw [nI_toInt (by omega)]; have := ha2 hr0; omega) (fun _ => hr0) (Or.inl ⟨k, by omega, rfl, rfl⟩)
theorem ctn_flip {f f' : Nat → Bool} {p : Nat} : ∀ n, p < n → f p = false → f' p = true → (∀ k, k < n → k ≠ p → f' k = f k) → ctn f' n = ctn f n + 1 := by
  intro n
  induction n with
  | zero => intro h; omega
  | succ n ih =>
    intro h h1 h2 h3
    rw [ctn, ctn]
    by_cases e : p = n
    · subst e
      rw [ctn_congr (n := p) (f := f') (g := f) (fun k hk => h3 k (by omega) (by omega)), h1, h2]
      simp
    · rw [ih (by omega) h1 h2 (fun k hk => h3 k (by omega)), h3 n (by omega) (fun q => e q.symm)]
      omega
theorem ctn_all {f : Nat → Bool} : ∀ n, ctn f n = n → ∀ k, k < n → f k = true := by
  intro n
  induction n with
  | zero => intro _ k hk; omega
  | succ n ih =>
    intro h k hk
    rw [ctn] at h
    have := ctn_le f n
    by_cases c : f n = true
    · rw [if_pos c] at h
      by_cases e : k = n
      · subst e; exact c
      · exact ih (by omega) k (by omega)
    · rw [if_neg c] at h; omega
theorem fw_collectN {I I3 : aI} {g np nl nd W B : Nat} (hh : IVh I g np nl nd) (hW : W < 64) (hW0 : 0 < W) (hB : B ≤ 300) (h3 : f_X1_collect_h29 g am_F (nI W) (nI (B / popc W)) (nI (B % popc W)) (nI (nd % np)) (nI 0) I = some I3) : f_X1_collect g (nI W) (nI B) I = some I3 := by
  have hp := popc_pos W hW hW0
  have hp6 := popc_le W
  obtain ⟨d1, d2⟩ := div_ok B (by omega) (popc W) (by omega) (by omega)
  have hk : ¬ nI (popc W) = 0 := nI_ne0 (by omega) (by omega)
  rw [f_X1_collect, bitCount_64 _ hW, am_b1_some, if_neg hk, am_g_of _ (decide_eq_true hk), am_let_ap, am_g_of _ (decide_eq_true hk), am_let_ap, fw_starter hh, am_b1_some, d1, d2]
  exact h3
theorem fw_b110 {m W B : Nat} {Ir : aI} (hW : W < 64) (hW0 : 0 < W) (hB : B ≤ 300) : f_X7_openSealed_b110 m (nI B) (nI W) Ir = f_X7_openSealed_h128 m am_F (nI B) (nI W) (nI (B / popc W)) (nI (B % popc W)) (nI 0) Ir := by
  have hp := popc_pos W hW hW0
  have hp6 := popc_le W
  obtain ⟨d1, d2⟩ := div_ok B (by omega) (popc W) (by omega) (by omega)
  have hk : ¬ nI (popc W) = 0 := nI_ne0 (by omega) (by omega)
  rw [f_X7_openSealed_b110, sizeOf_64 hW, am_b1_some, am_g_of _ (decide_eq_true hk), am_let_ap, am_b1_some, am_g_of _ (decide_eq_true hk), am_let_ap, d1, d2]
  rfl
/-- all bids are in: both sides open them -/
theorem sealed_open {I Ir : aI} {g m np nl nd : Nat} (hc : CO I g np nl nd (Ir (m + 1))) (h1 : nd < nl) (hrs : bd (I (g + 13) 1) 1 300) (r5 : Ir (m + 1) 5 = I (g + 13) 1) (hbr : ∀ p, p < np → Ir (m + 1) (16 + 7 * p + 5) = I (g + 14) p) (hbs : ∀ p, p < np → (I (g + 14) p).toInt ≤ (I (g + 3) p).toInt) :
    ∃ r Ia I1 Ir1, Ia (g + 13) 0 = I (g + 13) 0 ∧ f_X1_openBids g I = some Ia ∧ f_X1_settle g Ia = some (r, I1) ∧ f_X7_openSealed m Ir = some (r, Ir1) ∧ PO I Ir g m np nl r I1 Ir1 ∧ I1 (g + 8) 1 = nI (nd + 1) := by
  have hF := am_F_big
  obtain ⟨hh, hs0, hp0, -⟩ := id hc
  obtain ⟨q2, q6, q1, q12, qnp, qnl, qnd⟩ := id hh
  obtain ⟨b, hbd⟩ : ∃ b : Nat → Int32, b = fun p => I (g + 14) p := ⟨_, rfl⟩
  have hbp : ∀ p, b p = I (g + 14) p := fun p => by rw [hbd]
  obtain ⟨J, Jr, z1, z2, z3, z4, z5, z6, z7⟩ := learn_pair (b := b) q6 am_F 0 I Ir hc (fun p _ => (hbp p).symm) (fun p hp => (hbr p hp).trans (hbp p).symm) (fun p hp => by rw [hbp]; exact hbs p hp) (by omega) (by omega)
  have eC : f_X1_openBids g I = f_X1_openBids_b66 g (bB b np) (nI (wS b (bB b np) np)) J := z1
  have eR : f_X7_openSealed m Ir = f_X7_openSealed_b52 m (bB b np) Jr := z2
  have hB0 := bB_nn (b := b) np
  have hBle : bB b np = 0 ∨ ∃ i, i < np ∧ b i = bB b np := bB_at np
  have hB3 : (bB b np).toInt ≤ 300 := by
    rcases hBle with h | ⟨i, h2, h3⟩
    · rw [h, zI]; omega
    · rw [← h3, hbp]
      have := hbs i h2
      have := hp0 i h2
      omega
  obtain ⟨B, hB, hBI⟩ := nI_ofI (x := bB b np) (b := 300) ⟨hB0, hB3⟩ (by omega)
  obtain ⟨W, hWd⟩ : ∃ W, W = wS b (bB b np) np := ⟨_, rfl⟩
  obtain ⟨w1, w2⟩ := wS_ok (b := b) (v := bB b np) np q6
  rw [← hWd] at eC w1 w2
  rw [eC, eR, f_X1_openBids_b66, f_X7_openSealed_b52, am_let_ap, am_w_nq _ _ (by omega), z4 _ (by omega), z6, r5]
  have hfJ : frC g I J := fun q hq => z4 q (by omega)
  by_cases hlt : bB b np < I (g + 13) 1
  · have hge : ¬ I (g + 13) 1 ≤ bB b np := fun q => by
      have := Int32.le_iff_toInt_le.mp q
      have := Int32.lt_iff_toInt_lt.mp hlt
      omega
    rw [if_pos hlt, if_neg hge, am_let_ap]
    have hc2 : CO (am_w (am_w J (g + 13) 2 (bB b np)) (g + 13) 7 0) g np nl nd (Jr (m + 1)) := co_auc z3 (fun q n1 n2 => by rw [am_w_ne _ _ n1, am_w_ne _ _ n1]) (fun _ _ => rfl)
    obtain ⟨I1, Ir1, y1, y2, y3, y4, y5, y6⟩ := close0 hc2 h1 (am_w_eq _ _ ⟨rfl, rfl⟩)
    refine ⟨_, _, I1, Ir1, by rw [am_w_nq _ _ (by omega), am_w_nq _ _ (by omega), z4 _ (by omega)], rfl, y1, ?_, ⟨nd + 1, y3, y4, (hfJ.tr ((frC.rf.w (by omega)).w (by omega))).tr y5, z7.tr y6⟩, y3.1.2.2.2.2.2.2⟩
    rw [show f_X7_finish m 0 (-6) Jr = _ from y2, am_b2_some]
  · have hge : I (g + 13) 1 ≤ bB b np := Int32.not_lt.mp hlt
    have hB1 : 1 ≤ (bB b np).toInt := by
      have := Int32.le_iff_toInt_le.mp hge
      have := hrs.1
      omega
    obtain ⟨i0, hi0, hbi0⟩ := hBle.resolve_left (fun z => by rw [z, zI] at hB1; omega)
    have hW0 : 0 < W := by
      rcases Nat.eq_zero_or_pos W with z | z
      · have := w2 i0 (by omega)
        rw [z] at this
        simp [hi0, hbi0] at this
      · exact z
    have hWb : ∀ p, p < np → W.testBit p = true → b p = bB b np := fun p hp ht => by
      rw [w2 p (by omega)] at ht
      simp only [Bool.and_eq_true, decide_eq_true_eq] at ht
      exact ht.2
    have hk := popc_pos W w1 hW0
    have hkd := Nat.div_add_mod B (popc W)
    have hkm := Nat.mod_lt B hk
    have hk1 : B / popc W ≤ B := Nat.div_le_self _ _
    have hk2 : B % popc W ≠ 0 → B / popc W + 1 ≤ B := fun hz => by
      have : B / popc W ≤ popc W * (B / popc W) := Nat.le_mul_of_pos_left _ hk
      omega
    have hc2 : CO (am_w (am_w J (g + 13) 2 (bB b np)) (g + 13) 7 (nI W)) g np nl nd (Jr (m + 1)) := co_auc z3 (fun q n1 n2 => by rw [am_w_ne _ _ n1, am_w_ne _ _ n1]) (fun _ _ => rfl)
    have hW2 : (am_w (am_w J (g + 13) 2 (bB b np)) (g + 13) 7 (nI W)) (g + 3) = I (g + 3) := by
      rw [am_w_ne _ _ (by omega), am_w_ne _ _ (by omega), z4 _ (by omega)]
    have hBt : (bB b np).toInt = B := by rw [hBI, nI_toInt (by omega)]
    obtain ⟨J3, Jr3, x1, x2, x3, x4, x5, x6⟩ := pay_pair (W := W) (e := B / popc W) (B := nI B) w1 (by omega) h1 am_F 0 (nI (B % popc W)) (nI (B % popc W)) _ Jr hc2 (by omega) (by omega) (Or.inl ⟨B % popc W, by have := popc_le W; omega, rfl, rfl⟩) (fun i _ hi ht => by
      have hm := Nat.mod_lt (nd % np + i) (show np > 0 by omega)
      have e1 := hWb _ hm ht
      have e2 := hbs _ hm
      rw [← hbp, e1, hBt] at e2
      rw [hW2]
      refine ⟨by omega, fun hz => ?_⟩
      have := hk2 (fun z => hz (by rw [z]; rfl))
      omega)
    have hst := hh
    have hh3 := x3.1
    have hset := fw_settle (I := am_w (am_w J (g + 13) 2 (bB b np)) (g + 13) 7 (nI W)) (I3 := J3) (s := W) (am_w_eq _ _ ⟨rfl, rfl⟩) w1 (by
      have ee : am_w (am_w J (g + 13) 2 (bB b np)) (g + 13) 7 (nI W) (g + 13) 2 = nI B := by rw [am_w_nq _ _ (by omega), am_w_eq _ _ ⟨rfl, rfl⟩, hBI]
      rw [ee]
      exact fw_collectN hc2.1 w1 hW0 hB x1) hh3.2.2.2.2.2.1 hh3.2.2.2.2.2.2 h1 q12
    obtain ⟨-, -, -, -, ⟨a0, a1, a2⟩, -⟩ := id x3
    have hfin := fw_finish (m := m) (Ir := Jr3) (s := W) (v := nI B) (a1.trans hh3.2.2.2.2.2.1) (a2.trans hh3.2.2.2.2.2.2) h1 q12 w1
    obtain ⟨c1, c2⟩ := co_close (s := W) (v := nI B) x3 h1 w1
    rw [if_neg hlt, if_pos hge, am_let_ap]
    have e2 : J3 (g + 13) 2 = nI B := by
      rw [x4, am_w_nq _ _ (by omega), am_w_eq _ _ ⟨rfl, rfl⟩, hBI]
    rw [e2] at hset
    refine ⟨_, _, _, rw1 Jr3 m (finR (Jr3 (m + 1)) nd (nI W) (nI B)), by rw [am_w_nq _ _ (by omega), am_w_nq _ _ (by omega), z4 _ (by omega)], rfl, hset, ?_, ⟨nd + 1, c1, ?_, ((hfJ.tr ((frC.rf.w (by omega)).w (by omega))).tr x5).close, (z7.tr x6).rw1⟩, c1.1.2.2.2.2.2.2⟩
    · have hsh := set_h (m := m) (v := bB b np) (Ir := Jr) q6 (z3.2.2.2.2.1.1.trans z3.1.2.2.2.2.1) z5 am_F 0 (by omega) (by omega)
      rw [show f_X7_openSealed_h74 m am_F (bB b np) 0 0 Jr = _ from hsh, ← hWd, hBI, fw_b110 w1 hW0 hB, x2, hfin, am_b2_some]
    · rw [rw1_row]; exact c2
/-- a player hands in a sealed bid -/
theorem sealed_hand {I Ir : aI} {g m np nl nd p : Nat} {v : Int32} (hv : IV I g np nl nd) (hw : RW I g (Ir (m + 1)) nl nd) (hu : AUs I g np) (h1 : nd + 1 < nl) (hp : p < np) (hb0 : I (g + 14) p = -6) (hv0 : 0 ≤ v.toInt) (hv1 : v.toInt ≤ (I (g + 3) p).toInt) :
    ∃ r Ia I1 Ir1, Ia (g + 13) 0 = 1 ∧ f_X1_handIn g (nI p) v I = some (-6, Ia) ∧ f_X1_settle g Ia = some (r, I1) ∧ f_X7_bidSealed m (nI p) v Ir = some (r, Ir1) ∧ PO I Ir g m np nl r I1 Ir1 ∧ pg g nd I I1 := by
  have hco := co_of hv hw
  obtain ⟨q2, q6, q1, q12, qnp, qnl, qnd⟩ := id hv.1
  have hp6 : p < 6 := by omega
  obtain ⟨h0, hrs, l2, l3, l4, l6, l7, hbs, hct, hcl⟩ := id hu
  obtain ⟨⟨a0, a1, a2⟩, hset, hrp, hb, -, r3, r4, r5, r6, r7, r8, r9⟩ := id hw
  rw [h0] at r3 r4 r5 r6 r9
  rw [if_neg (by decide)] at r3 r6 r9
  rw [if_neg (by decide)] at r5
  obtain ⟨Ia, hIa⟩ : ∃ Ia, Ia = am_w (am_w I (g + 14) p v) (g + 13) 5 (I (g + 13) 5 + 1) := ⟨_, rfl⟩
  have hrd : ∀ q k, Ia q k = if q = g + 13 ∧ k = 5 then I (g + 13) 5 + 1 else if q = g + 14 ∧ k = p then v else I q k := fun q k => by rw [hIa]; rfl
  obtain ⟨a5, ha5⟩ : ∃ a5, a5 = upd (upd (Ir (m + 1)) (16 + 7 * p + 5) v) 9 (I (g + 13) 5 + 1) := ⟨_, rfl⟩
  have hard : ∀ i, a5 i = if i = 9 then I (g + 13) 5 + 1 else if i = 16 + 7 * p + 5 then v else Ir (m + 1) i := fun i => by rw [ha5]; rfl
  have g0 : Ia (g + 13) 0 = I (g + 13) 0 := by rw [hrd]; simp
  have g1 : Ia (g + 13) 1 = I (g + 13) 1 := by rw [hrd]; simp
  have g2 : Ia (g + 13) 2 = I (g + 13) 2 := by rw [hrd]; simp
  have g3 : Ia (g + 13) 3 = I (g + 13) 3 := by rw [hrd]; simp
  have g4 : Ia (g + 13) 4 = I (g + 13) 4 := by rw [hrd]; simp
  have g5 : Ia (g + 13) 5 = I (g + 13) 5 + 1 := by rw [hrd]; simp
  have g6 : Ia (g + 13) 6 = I (g + 13) 6 := by rw [hrd]; simp
  have g7 : Ia (g + 13) 7 = I (g + 13) 7 := by rw [hrd]; simp
  have gam : ∀ k, Ia (g + 3) k = I (g + 3) k := fun k => by rw [hrd]; simp
  have gnp : Ia (g + 2) 0 = I (g + 2) 0 := by rw [hrd]; simp
  have gb : ∀ k, Ia (g + 14) k = if k = p then v else I (g + 14) k := fun k => by rw [hrd]; simp
  have hcb : CO Ia g np nl nd (rw1 Ir m a5 (m + 1)) := by
    rw [rw1_row]
    refine co_auc hco (fun q n1 n2 => ?_) (fun i hi => ?_)
    · funext k
      rw [hrd, if_neg (show ¬ (q = g + 13 ∧ k = 5) by omega), if_neg (show ¬ (q = g + 14 ∧ k = p) by omega)]
    · unfold aix at hi
      rw [hard, if_neg (by omega), if_neg (by omega)]
  have hvn : ¬ v = -6 := fun z => by rw [z, n6I] at hv0; omega
  have hflip : ctn (hasB Ia g) np = ctn (hasB I g) np + 1 := ctn_flip np hp (by simp [hasB, hb0]) (by simp [hasB, gb, hvn]) (fun k hk hne => by simp [hasB, gb, hne])
  have hfr : frC g I Ia := by rw [hIa]; exact (frC.rf.w (by omega)).w (by omega)
  have hbs' : ∀ k, k < np → Ia (g + 14) k = -6 ∨ (0 ≤ (Ia (g + 14) k).toInt ∧ (Ia (g + 14) k).toInt ≤ (Ia (g + 3) k).toInt) := fun k hk => by
    rw [gb, gam]
    by_cases e : k = p
    · subst e
      rw [if_pos rfl]
      exact Or.inr ⟨hv0, hv1⟩
    · rw [if_neg e]; exact hbs k hk
  have hbr' : ∀ k, k < 6 → a5 (16 + 7 * k + 5) = Ia (g + 14) k := fun k hk => by
    obtain ⟨b5, b6⟩ := hb k hk
    rw [hard, gb]
    by_cases e : k = p
    · subst e
      rw [if_neg (by omega), if_pos rfl, if_pos rfl]
    · rw [if_neg (by omega), if_neg (by omega), if_neg e]; exact b5
  have hcnt : I (g + 13) 5 + 1 = nI (ctn (hasB Ia g) np) := by rw [hct, nI_1, hflip]
  have hin : f_X1_handIn g (nI p) v I = if nI (ctn (hasB Ia g) np) = nI np then (am_b1 (f_X1_openBids g Ia) fun I8 => some ((-6 : Int32), I8)) else some (-6, Ia) := by
    have hlt1 : ¬ (v < 0 ∨ I (g + 3) p < v) := by
      rintro (q | q)
      · have := Int32.lt_iff_toInt_lt.mp q; rw [zI] at this; omega
      · have := Int32.lt_iff_toInt_lt.mp q; omega
    rw [f_X1_handIn, fw_bidOf hp6, am_b1_some, show I (g + 13 + 1) p = -6 from hb0, if_pos rfl, fw_amountOf qnp q6 hp, am_b1_some, fw_within, am_b1_some, show I (g + 2 + 1) p = I (g + 3) p from rfl, if_neg hlt1, if_neg one0, fw_noteBid v hp6, am_b1_some, show am_w (am_w I (g + 13 + 1) p v) (g + 13) 5 (I (g + 13) 5 + 1) = Ia from hIa.symm]
    rw [g5, gnp, hcnt, qnp]
  have hre : f_X7_bidSealed m (nI p) v Ir = if nI (ctn (hasB Ia g) np) = nI np then (am_b2 (f_X7_openSealed m (rw1 Ir m a5)) fun r4 I4 => some (r4, I4)) else some (-6, rw1 Ir m a5) := by
    have e1 : am_w (am_w Ir (m + 1) (16 + 7 * p + 5) v) (m + 1) 9 ((am_w Ir (m + 1) (16 + 7 * p + 5) v) (m + 1) 9 + 1) = rw1 Ir m a5 := by
      simp (disch := omega) only [am_w_rw1, rw1_rw1, rw1_row, upd_nq, r9, ha5]
    have e9 : rw1 Ir m a5 (m + 1) 9 = nI (ctn (hasB Ia g) np) := by rw [rw1_row, hard, if_pos rfl, hcnt]
    have e0 : rw1 Ir m a5 (m + 1) 0 = nI np := by rw [rw1_row, hard, if_neg (by omega), if_neg (by omega), a0, qnp]
    rw [f_X7_bidSealed, show f_X7_lay m (nI p) 5 v Ir = _ from fw_lay (c := 5) v hp6 (by omega), am_b1_some, am_let_ap, e1, e9, e0]
  rw [hin, hre]
  have hle := ctn_le (hasB Ia g) np
  by_cases e : ctn (hasB Ia g) np = np
  · rw [e, if_pos rfl, if_pos rfl]
    have hall := ctn_all np e
    obtain ⟨r, Ib, I1, Ir1, z0, z1, z2, z3, z4, z5⟩ := sealed_open (Ir := rw1 Ir m a5) hcb (by omega) (by rw [g1]; exact hrs) (by rw [rw1_row, hard, if_neg (by omega), if_neg (by omega), g1]; exact r5) (fun k hk => by rw [rw1_row]; exact hbr' k (by omega)) (fun k hk => ((hbs' k hk).resolve_left (hasB_t (hall k hk))).2)
    refine ⟨r, Ib, I1, Ir1, z0.trans (g0.trans h0), ?_, z2, ?_, z4.of hfr (frR.rw1 frR.rf), Or.inl z5⟩
    · rw [z1, am_b1_some]
    · rw [z3, am_b2_some]
  · have hne : ¬ nI (ctn (hasB Ia g) np) = nI np := by rw [nI_inj (by omega) (by omega)]; exact e
    rw [if_neg hne, if_neg hne]
    have hS : AUs Ia g np := ⟨g0.trans h0, by rw [g1]; exact hrs, g2.trans l2, g3.trans l3, g4.trans l4, g6.trans l6, g7.trans l7, hbs', by rw [g5, hcnt], by omega⟩
    rw [rw1_row] at hcb
    have hiv := iv_of hcb (Or.inr ⟨h1, Or.inr (Or.inl hS)⟩) (fun k hk => by
      refine ⟨hbr' k hk, ?_⟩
      rw [hard, if_neg (by omega), if_neg (by omega), g6]
      exact (hb k hk).2) (by
      unfold RLa
      rw [g0, g1, g2, g3, g4, g5, h0, if_neg (show ¬ (1:Int32) = -6 by decide), if_neg (show ¬ (1:Int32) = -6 by decide), if_neg (show ¬ (1:Int32) = 2 by decide), if_neg (show ¬ (1:Int32) = 0 by decide)]
      refine ⟨?_, ?_, ?_, ?_, ?_, ?_, ?_⟩
      · rw [hard, if_neg (by omega), if_neg (by omega)]; exact r3
      · rw [hard, if_neg (by omega), if_neg (by omega)]; exact r4
      · rw [hard, if_neg (by omega), if_neg (by omega)]; exact r5
      · rw [hard, if_neg (by omega), if_neg (by omega)]; exact r6
      · rw [hard, if_neg (by omega), if_neg (by omega)]; exact r7
      · rw [hard, if_neg (by omega), if_neg (by omega)]; exact r8
      · rw [hard, if_pos rfl])
    exact ⟨-6, Ia, Ia, _, g0.trans h0, rfl, fw_settleN (g7.trans l7), rfl, ⟨nd, hiv.1, by rw [rw1_row]; exact hiv.2, hfr, frR.rw1 frR.rf⟩, Or.inr ⟨hiv.1.1.2.2.2.2.2.2, by unfold inn; rw [g0, g5, h0, if_neg (show ¬ (1 : Int32) = 0 by decide), if_pos rfl, if_neg (show ¬ (1 : Int32) = 0 by decide), if_pos rfl, hcnt, hct, nI_toInt (by omega), nI_toInt (by omega), hflip]; omega, g0⟩⟩
