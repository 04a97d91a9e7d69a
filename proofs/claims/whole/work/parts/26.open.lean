/-! PURE: OPEN auctions -/
def frC (g : Nat) (I I1 : aI) : Prop := ∀ q, q < g + 2 ∨ g + 15 ≤ q → I1 q = I q
def frR (m : Nat) (Ir Ir1 : aI) : Prop := ∀ q, q ≠ m + 1 → q ≠ m + 6 → Ir1 q = Ir q
theorem frC.rf {g : Nat} {I : aI} : frC g I I := fun _ _ => rfl
theorem frC.tr {g : Nat} {I I1 I2 : aI} (h1 : frC g I I1) (h2 : frC g I1 I2) : frC g I I2 := fun q hq => (h2 q hq).trans (h1 q hq)
theorem frC.w {g q k : Nat} {I I1 : aI} {v : Int32} (h : frC g I I1) (hq : g + 2 ≤ q ∧ q < g + 15) : frC g I (am_w I1 q k v) := fun z hz => by rw [am_w_ne _ _ (by omega)]; exact h z hz
theorem frC.pay {g p : Nat} {I I1 : aI} {v : Int32} (h : frC g I I1) : frC g I (payC I1 (g + 2) p v) := by
  unfold payC
  exact (((h.w (by omega)).w (by omega)).w (by omega)).w (by omega)
theorem frC.clear {g : Nat} {I I1 : aI} (h : frC g I I1) : frC g I (clearC I1 (g + 13)) := fun q hq => by rw [clearC_o _ _ (by omega) (by omega)]; exact h q hq
theorem frC.close {g nd : Nat} {I I1 : aI} {w v : Int32} (h : frC g I I1) : frC g I (closeC I1 g nd w v) := by
  unfold closeC
  exact (((h.w (by omega)).w (by omega)).w (by omega)).clear
theorem frR.rf {m : Nat} {I : aI} : frR m I I := fun _ _ _ => rfl
theorem frR.tr {m : Nat} {I I1 I2 : aI} (h1 : frR m I I1) (h2 : frR m I1 I2) : frR m I I2 := fun q hq hq2 => (h2 q hq hq2).trans (h1 q hq hq2)
theorem frR.rw1 {m : Nat} {I I1 : aI} {a : Nat → Int32} (h : frR m I I1) : frR m I (rw1 I1 m a) := fun q hq hq2 => by rw [rw1_ne _ _ _ hq]; exact h q hq hq2
theorem frR.rwS {m : Nat} {I I1 : aI} {c : Nat → Int32} (h : frR m I I1) : frR m I (rwS I1 m c) := fun q hq hq2 => by rw [rwS_ne _ _ _ hq2]; exact h q hq hq2
/-- the two sides after an act: the same answer, and they show the same game again -/
def PO (I Ir : aI) (g m np nl : Nat) (r : Int32) (I1 Ir1 : aI) : Prop := ∃ nd1, IV I1 g np nl nd1 ∧ RW I1 g (Ir1 (m + 1)) nl nd1 ∧ frC g I I1 ∧ frR m Ir Ir1
/-- how far an auction has come -/
def inn (I : aI) (g : Nat) : Int := if I (g + 13) 0 = 0 then (40 - (I (g + 13) 5).toInt) + (64 - (I (g + 13) 6).toInt) else if I (g + 13) 0 = 1 then 6 - (I (g + 13) 5).toInt else (I (g + 13) 2).toInt
def pq (g nd : Nat) (I I1 : aI) : Prop := I1 (g + 8) 1 = nI (nd + 1) ∨ (I1 (g + 8) 1 = nI nd ∧ inn I1 g = inn I g ∧ I1 (g + 13) 0 = I (g + 13) 0)
def pg (g nd : Nat) (I I1 : aI) : Prop := I1 (g + 8) 1 = nI (nd + 1) ∨ (I1 (g + 8) 1 = nI nd ∧ inn I1 g < inn I g ∧ I1 (g + 13) 0 = I (g + 13) 0)
theorem pq.lt {g nd : Nat} {I Ib I1 : aI} (h : pq g nd Ib I1) (hl : inn Ib g < inn I g) (hm : Ib (g + 13) 0 = I (g + 13) 0) : pg g nd I I1 := by
  rcases h with h | ⟨h1, h2, h3⟩
  · exact Or.inl h
  · exact Or.inr ⟨h1, by omega, h3.trans hm⟩
theorem pg.le {g nd : Nat} {I Ib I1 : aI} (h : pg g nd Ib I1) (hl : inn Ib g = inn I g) (hm : Ib (g + 13) 0 = I (g + 13) 0) : pg g nd I I1 := by
  rcases h with h | ⟨h1, h2, h3⟩
  · exact Or.inl h
  · exact Or.inr ⟨h1, by omega, h3.trans hm⟩
theorem co_of {I : aI} {g np nl nd : Nat} {a : Nat → Int32} (h1 : IV I g np nl nd) (h2 : RW I g a nl nd) : CO I g np nl nd a := ⟨h1.1, h1.2.1, h1.2.2.1, h1.2.2.2.1, h2.1, h2.2.1, h2.2.2.1, h2.2.2.2.2.1⟩
theorem iv_of {I : aI} {g np nl nd : Nat} {a : Nat → Int32} (h : CO I g np nl nd a) (hu : AU I g np nl nd) (hb : RLb I g a) (ha : RLa I g a) : IV I g np nl nd ∧ RW I g a nl nd := by
  obtain ⟨h1, h2, h3, h4, h5, h6, h7, h8⟩ := h
  exact ⟨⟨h1, h2, h3, h4, hu⟩, h5, h6, h7, hb, h8, ha⟩
theorem finR_zero (a : Nat → Int32) (nd : Nat) (v v' : Int32) : finR a nd (nI 0) v = finR a nd (nI 0) v' := by
  unfold finR
  simp only [show nI 0 = (0 : Int32) from rfl, if_true]
/-- both sides close a lot unsold -/
theorem close0 {I Ir : aI} {g m np nl nd : Nat} (h : CO I g np nl nd (Ir (m + 1))) (h1 : nd < nl) (hw : I (g + 13) 7 = nI 0) : ∃ I1 Ir1, f_X1_settle g I = some (nI 0, I1) ∧ f_X7_finish m (nI 0) (-6) Ir = some (nI 0, Ir1) ∧ IV I1 g np nl (nd + 1) ∧ RW I1 g (Ir1 (m + 1)) nl (nd + 1) ∧ frC g I I1 ∧ frR m Ir Ir1 := by
  have h' := h
  obtain ⟨⟨q2, q6, q1, q12, qnp, qnl, qnd⟩, -, -, -, ⟨a0, a1, a2⟩, -⟩ := h'
  have hs := fw_settle (I3 := I) (s := 0) hw (by omega) (fw_collect0 _) qnl qnd h1 q12
  have hf := fw_finish (m := m) (Ir := Ir) (s := 0) (v := -6) (a1.trans qnl) (a2.trans qnd) h1 q12 (by omega)
  obtain ⟨c1, c2⟩ := co_close (s := 0) (v := I (g + 13) 2) h h1 (by omega)
  refine ⟨_, _, hs, hf, c1, ?_, frC.rf.close, frR.rf.rw1⟩
  rw [rw1_row, finR_zero _ _ (-6) (I (g + 13) 2)]
  exact c2
/-- both sides sell a lot to one player -/
theorem close1 {I Ir : aI} {g m np nl nd p : Nat} {v : Int32} (h : CO I g np nl nd (Ir (m + 1))) (h1 : nd < nl) (hp : p < np) (hw : I (g + 13) 7 = am_shl 1 (nI p)) (hv : I (g + 13) 2 = v) (hv0 : 0 ≤ v.toInt) (hv1 : v.toInt ≤ (I (g + 3) p).toInt) : ∃ r I1 Ir1, f_X1_settle g I = some (r, I1) ∧ f_X7_sellTo m (nI p) v Ir = some (r, Ir1) ∧ 0 ≤ r ∧ IV I1 g np nl (nd + 1) ∧ RW I1 g (Ir1 (m + 1)) nl (nd + 1) ∧ frC g I I1 ∧ frR m Ir Ir1 := by
  have h' := h
  obtain ⟨hh, -, -, -, ⟨a0, a1, a2⟩, -⟩ := h'
  have hh' := hh
  obtain ⟨q2, q6, q1, q12, qnp, qnl, qnd⟩ := hh'
  have hp6 : p < 6 := by omega
  obtain ⟨s1, s2, s3, s4⟩ := shl_ok p hp6
  have hc := co_pay h hp hv0 hv1
  have e8 : ∀ k, payC I (g + 2) p v (g + 8) k = I (g + 8) k := fun k => by
    unfold payC
    rw [am_w_nq _ _ (by omega), am_w_nq _ _ (by omega), am_w_nq _ _ (by omega), am_w_nq _ _ (by omega)]
  have e13 : ∀ k, payC I (g + 2) p v (g + 13) k = I (g + 13) k := fun k => by
    unfold payC
    rw [am_w_nq _ _ (by omega), am_w_nq _ _ (by omega), am_w_nq _ _ (by omega), am_w_nq _ _ (by omega)]
  have hs := fw_settle (I := I) (I3 := payC I (g + 2) p v) (hw.trans s1) s2 (by rw [hv]; exact fw_collect1 hh hp v) ((e8 0).trans qnl) ((e8 1).trans qnd) h1 q12
  have hr1 : payR (Ir (m + 1)) p v 1 = Ir (m + 1) 1 := by
    unfold payR
    rw [upd_nq _ (by omega), upd_nq _ (by omega), upd_nq _ (by omega), upd_nq _ (by omega)]
  have hr2 : payR (Ir (m + 1)) p v 2 = Ir (m + 1) 2 := by
    unfold payR
    rw [upd_nq _ (by omega), upd_nq _ (by omega), upd_nq _ (by omega), upd_nq _ (by omega)]
  have hf := fw_finish (m := m) (Ir := rw1 Ir m (payR (Ir (m + 1)) p v)) (s := 2 ^ p) (v := v) (by rw [rw1_row, hr1]; exact a1.trans qnl) (by rw [rw1_row, hr2]; exact a2.trans qnd) h1 q12 s2
  obtain ⟨c1, c2⟩ := co_close (s := 2 ^ p) (v := v) hc h1 s2
  refine ⟨_, _, rw1 (rw1 Ir m (payR (Ir (m + 1)) p v)) m (finR (rw1 Ir m (payR (Ir (m + 1)) p v) (m + 1)) nd (nI (2 ^ p)) v), hs, ?_, nI_pos' (by omega), ?_, ?_, frC.rf.pay.close, frR.rw1 (frR.rw1 frR.rf)⟩
  · rw [f_X7_sellTo, if_pos (nI_pos' (by omega)), fw_pay v hp6, am_b1_some, s1, hf, am_b2_some]
  · rw [e13 2, hv]; exact c1
  · rw [e13 2, hv, rw1_row, rw1_row]; exact c2
/-- what is left to do behind an act of an OPEN auction -/
theorem turn_pair {I Ir : aI} {g m np nl nd t b w : Nat} (h : CO I g np nl nd (Ir (m + 1))) (h1 : nd + 1 < nl) (ht : t < np) (h0 : I (g + 13) 0 = 0) (hrs : bd (I (g + 13) 1) 1 300) (hwn : I (g + 13) 7 = -6) (hbn : I (g + 13) 5 = nI b) (hbs : (b : Int) ≤ (I (g + 1) 2).toInt) (how : I (g + 13) 6 = nI w) (hw : w < 64)
    (hld : (I (g + 13) 3 = -6 ∧ I (g + 13) 2 = -6) ∨ ∃ h, h < np ∧ I (g + 13) 3 = nI h ∧ 1 ≤ (I (g + 13) 2).toInt ∧ (I (g + 13) 2).toInt ≤ (I (g + 3) h).toInt)
    (hb : RLb I g (Ir (m + 1))) (r3 : Ir (m + 1) 3 = 1) (r4 : Ir (m + 1) 4 = 0) (r5 : Ir (m + 1) 5 = I (g + 13) 1) (r6 : Ir (m + 1) 6 = I (g + 13) 2) (r7 : Ir (m + 1) 7 = I (g + 13) 3) (r9 : Ir (m + 1) 9 = I (g + 13) 5) :
    ∃ r I' I1 Ir1, I' (g + 13) 0 = I (g + 13) 0 ∧ f_X1_turnBehind g (nI t) I = some I' ∧ f_X1_settle g I' = some (r, I1) ∧ f_X7_goOn m (nI t) Ir = some (r, Ir1) ∧ PO I Ir g m np nl r I1 Ir1 ∧ pq g nd I I1 := by
  have h' := h
  obtain ⟨hh, hs, hp, hl, ⟨a0, a1, a2⟩, hrset, -⟩ := h'
  obtain ⟨q2, q6, q1, q12, qnp, qnl, qnd⟩ := hh
  have hF := am_F_big
  have hst : f_X1_settingOf g 2 I = some (I (g + 1) 2) := fw_settingOf (k := 2) (by omega)
  have hstR : f_X7_setting m 2 Ir = some (I (g + 1) 2) := by
    rw [show f_X7_setting m 2 Ir = _ from fw_setting (k := 2) (by omega), hrset 2 (by omega)]
  obtain ⟨st, hst40, hstI⟩ := nI_ofI (x := I (g + 1) 2) (b := 40) ⟨by have := hs.2.2.1.1; omega, hs.2.2.1.2⟩ (by omega)
  have hb40 : b ≤ 40 := by
    have := hs.2.2.1.2
    omega
  have hg0 := goOn_h (m := m) (Ir := Ir) (t := t) (a0.trans qnp) q6 ht hb r7 am_F (np - 1) (by omega) (by omega)
  rw [show np - 1 - (np - 1) = 0 by omega] at hg0
  have hgo : f_X7_goOn m (nI t) Ir = f_X7_goOn_b65 m (es t np (srch (nxP I g np t) (np - 1) 1)) Ir := by
    rw [f_X7_goOn, am_let_ap, a0, qnp, show (1 : Int32) = nI 1 from rfl, nI_sub (by omega)]
    exact hg0
  -- the end
  have hend : f_X7_goOn_b65 m (es t np (srch (nxP I g np t) (np - 1) 1)) Ir = f_X7_goOn_b84 m Ir → f_X1_turnBehind g (nI t) I = f_X1_turnBehind_b29 g (-6) I → ∃ r I' I1 Ir1, I' (g + 13) 0 = I (g + 13) 0 ∧ f_X1_turnBehind g (nI t) I = some I' ∧ f_X1_settle g I' = some (r, I1) ∧ f_X7_goOn m (nI t) Ir = some (r, Ir1) ∧ PO I Ir g m np nl r I1 Ir1 ∧ pq g nd I I1 := by
    intro g1 g2
    rw [hgo, g1, g2, f_X7_goOn_b84, f_X1_turnBehind_b29, am_let_ap, if_pos (by rw [am_w_eq _ _ (by omega)]), am_w_nq _ _ (by omega), r7, r6]
    rcases hld with ⟨l3, l2⟩ | ⟨x, hx, l3, l2a, l2b⟩
    · rw [if_pos l3, am_let_ap, l3, l2]
      have hc : CO (am_w (am_w I (g + 13) 4 (-6)) (g + 13) 7 0) g np nl nd (Ir (m + 1)) := co_auc h (fun q n1 n2 => by rw [am_w_ne _ _ n1, am_w_ne _ _ n1]) (fun _ _ => rfl)
      obtain ⟨I1, Ir1, z1, z2, z3, z4, z5, z6⟩ := close0 hc (by omega) (am_w_eq _ _ ⟨rfl, rfl⟩)
      refine ⟨_, _, I1, Ir1, by rw [am_w_nq _ _ (by omega), am_w_nq _ _ (by omega)], rfl, z1, ?_, ⟨nd + 1, z3, z4, ((frC.rf.w (by omega)).w (by omega)).tr z5, z6⟩, Or.inl z3.1.2.2.2.2.2.2⟩
      rw [f_X7_sellTo, if_neg (by decide), show f_X7_finish m 0 (-6) Ir = _ from z2, am_b2_some, am_b2_some]
    · rw [if_neg (by rw [l3, nI_n6 x (by omega)]; exact fun h => h), am_let_ap, l3]
      have hc : CO (am_w (am_w I (g + 13) 4 (-6)) (g + 13) 7 (am_shl 1 (nI x))) g np nl nd (Ir (m + 1)) := co_auc h (fun q n1 n2 => by rw [am_w_ne _ _ n1, am_w_ne _ _ n1]) (fun _ _ => rfl)
      obtain ⟨r, I1, Ir1, z1, z2, z0, z3, z4, z5, z6⟩ := close1 (v := I (g + 13) 2) hc (by omega) hx (am_w_eq _ _ ⟨rfl, rfl⟩) (by rw [am_w_nq _ _ (by omega), am_w_nq _ _ (by omega)]) (by omega) (by rw [am_w_nq _ _ (by omega), am_w_nq _ _ (by omega)]; exact l2b)
      refine ⟨r, _, I1, Ir1, by rw [am_w_nq _ _ (by omega), am_w_nq _ _ (by omega)], rfl, z1, ?_, ⟨nd + 1, z3, z4, ((frC.rf.w (by omega)).w (by omega)).tr z5, z6⟩, Or.inl z3.1.2.2.2.2.2.2⟩
      rw [z2, am_b2_some]
  have htb : f_X1_turnBehind g (nI t) I = f_X1_turnBehind_b29 g (if st ≤ b then -6 else es t np (srch (nxP I g np t) (np - 1) 1)) I := by
    rw [f_X1_turnBehind, hst, am_b1_some, hbn, hstI]
    by_cases e : st ≤ b
    · rw [if_pos (nI_le e (by omega)), if_pos e]
    · rw [if_neg (nI_ge (by omega) (by omega)), if_neg e, fw_nextToAct qnp q2 q6 ht, am_b1_some]
  cases hsr : srch (nxP I g np t) (np - 1) 1 with
  | none =>
    refine hend ?_ ?_
    · rw [hsr]
      show f_X7_goOn_b65 m (-6) Ir = _
      rw [f_X7_goOn_b65, if_pos (by decide)]
    · rw [htb, hsr]
      show f_X1_turnBehind_b29 g (if st ≤ b then -6 else -6) I = _
      split <;> rfl
  | some k =>
    obtain ⟨k1, k2, k3, -⟩ := srch_some hsr
    have hm := Nat.mod_lt (t + k) (show np > 0 by omega)
    rw [hsr] at hend htb hgo
    have hes : es t np (some k) = nI ((t + k) % np) := rfl
    rw [hes] at hend htb hgo
    have hb65 : f_X7_goOn_b65 m (nI ((t + k) % np)) Ir = if st ≤ b then f_X7_goOn_b84 m Ir else some (-6, am_w Ir (m + 1) 8 (nI ((t + k) % np))) := by
      rw [f_X7_goOn_b65, if_neg (nI_pos (by omega)), hstR, am_b1_some, r9, hbn, hstI, am_let_ap]
      by_cases e : st ≤ b
      · rw [if_neg (nI_nlt e (by omega)), if_pos e]
      · rw [if_pos (nI_lt (by omega) (by omega)), if_neg e]
    by_cases e : st ≤ b
    · refine hend ?_ ?_
      · rw [hb65, if_pos e]
      · rw [htb, if_pos e]
    · rw [htb, hgo, hb65, if_neg e, if_neg e, f_X1_turnBehind_b29, am_let_ap, if_neg (by rw [am_w_eq _ _ ⟨rfl, rfl⟩, nI_n6 _ (by omega)]; exact fun h => h)]
      refine ⟨-6, _, _, _, by rw [am_w_nq _ _ (by omega)], rfl, fw_settleN (by rw [am_w_nq _ _ (by omega)]; exact hwn), rfl, ⟨nd, ?_⟩, Or.inr ⟨by rw [am_w_nq _ _ (by omega)]; exact qnd, by unfold inn; simp (disch := omega) only [am_w_nq], by rw [am_w_nq _ _ (by omega)]⟩⟩
      have hc : CO (am_w I (g + 13) 4 (nI ((t + k) % np))) g np nl nd (am_w Ir (m + 1) 8 (nI ((t + k) % np)) (m + 1)) := by
        rw [am_w_self]
        exact co_auc h (fun q n1 n2 => am_w_ne _ _ n1) (fun i hi => upd_nq _ (by unfold aix at hi; omega))
      simp only [nxP, Bool.and_eq_true, decide_eq_true_eq, Bool.not_eq_true'] at k3
      have hst2 : (I (g + 1) 2).toInt = st := by rw [hstI, nI_toInt (by omega)]
      have hO : AUo (am_w I (g + 13) 4 (nI ((t + k) % np))) g np := by
        unfold AUo
        simp (disch := omega) only [am_w_nq, am_w_eq]
        refine ⟨h0, hrs, hwn, ⟨_, hm, rfl, k3.2, fun q => k3.1 q.symm⟩, ⟨b, hbn, by omega⟩, ⟨w, hw, how⟩, hld⟩
      have hiv := iv_of hc (Or.inr ⟨h1, Or.inl hO⟩) (fun p hp6 => by
        rw [am_w_self, am_w_nq _ _ (by omega), am_w_nq _ _ (by omega), upd_nq _ (by omega), upd_nq _ (by omega)]
        exact hb p hp6) (by
        unfold RLa
        rw [am_w_self]
        simp (disch := omega) only [am_w_nq, am_w_eq, upd_nq, upd_eq, h0]
        exact ⟨r3, r4, r5, r6, r7, trivial, r9⟩)
      exact ⟨hiv.1, hiv.2, frC.rf.w (by omega), by rw [am_w_rw1]; exact frR.rf.rw1⟩
