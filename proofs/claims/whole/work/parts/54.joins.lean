/-! PURE: what holds ahead of every call of the law: the class at 0, the reference at 37, one memory -/
def slS (sh : aS) (P : aP) (I : aI) (k : Nat) : Prop := SL I I 37 k (P 31 k) ∧ ∀ z, P 31 k = some z → 47 ≤ z ∧ L1 sh P z
def MI (sh : aS) (P : aP) (I : aI) : Prop := ∃ np nl nd len c, IV I 1 np nl nd ∧ RW I 1 (I 38) nl nd ∧ PD I 35 len c ∧ PM I 37 len c ∧ slS sh P I 0 ∧ slS sh P I 1 ∧ ∀ z w, P 31 0 = some z → P 31 1 = some w → z + 15 ≤ w ∨ w + 15 ≤ z
theorem SL.fr {I I1 : aI} {k : Nat} {o : Option Nat} (h : SL I I 37 k o) (h40 : ∀ i, i < 118 → I1 40 (118 * k + i) = I 40 (118 * k + i)) (h41 : I1 41 k = I 41 k) (hz : ∀ z, o = some z → ∀ q, z + 1 ≤ q → q < z + 15 → I1 q = I q) : SL I1 I1 37 k o := by
  cases o with
  | none =>
    have h : I 41 k = 0 := h
    exact h41.trans h
  | some z =>
    obtain ⟨a, np, nl, nd, hv, hw⟩ := h
    have hs : sameG I z I1 z := sameG.rf (fun q k1 k2 => hz z rfl q k1 k2)
    exact ⟨h41.trans a, np, nl, nd, iv_same hs hv, rw_same hs h40 hv.1.2.2.2.1 hw⟩
theorem pd_fr {I I1 : aI} {o len : Nat} {c : Nat → Nat} (h : PD I o len c) (h0 : I1 o = I o) (h1 : I1 (o + 1) = I (o + 1)) : PD I1 o len c :=
  ⟨by rw [h0]; exact h.1, h.2.1, fun k hk => by rw [h1]; exact h.2.2 k hk⟩
theorem pm_fr {I I1 : aI} {m len : Nat} {c : Nat → Nat} (h : PM I m len c) (h0 : I1 m = I m) (h1 : I1 (m + 5) = I (m + 5)) : PM I1 m len c :=
  ⟨by rw [h0]; exact h.1, h.2.1, fun k hk => by rw [h1]; exact h.2.2 k hk⟩
theorem MI.next {sh : aS} {P : aP} {I I2 : aI} (hm : MI sh P I) {np nl nd len : Nat} {c : Nat → Nat} (v : IV I2 1 np nl nd) (w : RW I2 1 (I2 38) nl nd) (p : PD I2 35 len c) (q : PM I2 37 len c) (hf : ∀ q, 47 ≤ q ∨ q = 40 ∨ q = 41 → I2 q = I q) : MI sh P I2 := by
  obtain ⟨_, _, _, _, _, -, -, -, -, s0, s1, hd⟩ := hm
  have g : ∀ k, slS sh P I k → slS sh P I2 k := fun k s => ⟨s.1.fr (fun i _ => by rw [hf 40 (by omega)]) (by rw [hf 41 (by omega)]) (fun z hz q k1 k2 => hf q (Or.inl (by have := (s.2 z hz).1; omega))), s.2⟩
  exact ⟨np, nl, nd, len, c, v, w, p, q, g 0 s0, g 1 s1, hd⟩
def CR (sh : aS) (P : aP) (u : Option (Int32 × aI)) (w : aI → Option (Int32 × aI)) : Prop := ∃ r I1 I2, u = some (r, I1) ∧ w I1 = some (r, I2) ∧ MI sh P I2
theorem same_some {γ δ : Type} {u : Option (γ × δ)} {r r' : γ} {x x' : δ} (h : u = some (r, x)) (h' : u = some (r', x')) : r' = r ∧ x' = x := by
  rw [h] at h'
  injection h' with e
  injection e with e1 e2
  exact ⟨e1.symm, e2.symm⟩
theorem GP.join {sh : aS} {P : aP} {I : aI} {u : Option (Int32 × aI)} {w : aI → Option (Int32 × aI)} (hm : MI sh P I) (h : ∀ (np nl nd : Nat) (Ir : aI), IV I 1 np nl nd → RW I 1 (Ir 38) nl nd → GP 0 37 I Ir u (w Ir)) : CR sh P u w := by
  obtain ⟨np, nl, nd, len, c, hv, hw, hp, hq, s0, s1, hd⟩ := id hm
  obtain ⟨r, I1, Ir1, np1, nl1, nd1, e1, e2, -, -, f1, -⟩ := h np nl nd I hv hw
  obtain ⟨r', I1', I2, np2, nl2, nd2, e1', e2', v2, w2, -, f2⟩ := h np nl nd I1 hv (by rw [f1 38 (by omega)]; exact hw)
  obtain ⟨rfl, rfl⟩ := same_some e1 e1'
  have v2 : IV I1' 1 np2 nl2 nd2 := v2
  have w2 : RW I1' 1 (I2 38) nl2 nd2 := w2
  have g : ∀ q, q ≠ 38 → q ≠ 39 → q ≠ 43 → I2 q = I1' q := f2
  have g2 : ∀ q, 31 ≤ q → q ≠ 38 → q ≠ 39 → q ≠ 43 → I2 q = I q := fun q h a b c => (g q a b c).trans (f1 q (by omega))
  have hs : sameG I1' 1 I2 1 := sameG.rf (fun q k1 k2 => g q (by omega) (by omega) (by omega))
  exact ⟨r', I1', I2, e1, e2', hm.next (iv_same hs v2) (rw_same hs (fun _ _ => rfl) v2.1.2.2.2.1 w2) (pd_fr hp (g2 35 (by omega) (by omega) (by omega) (by omega)) (g2 36 (by omega) (by omega) (by omega) (by omega))) (pm_fr hq (g2 37 (by omega) (by omega) (by omega) (by omega)) (g2 42 (by omega) (by omega) (by omega) (by omega))) (fun q hq => g2 q (by omega) (by omega) (by omega) (by omega))⟩
theorem PP.join {sh : aS} {P : aP} {I : aI} {u : Option (Int32 × aI)} {w : aI → Option (Int32 × aI)} (hm : MI sh P I) (h : ∀ (np nl nd len : Nat) (c : Nat → Nat) (Ir : aI), IV I 1 np nl nd → RW I 1 (Ir 38) nl nd → PD I 35 len c → PM Ir 37 len c → PP 0 37 I Ir u (w Ir)) : CR sh P u w := by
  obtain ⟨np, nl, nd, len, c, hv, hw, hp, hq, s0, s1, hd⟩ := id hm
  obtain ⟨r, I1, Ir1, np1, nl1, nd1, len1, c1, e1, e2, -, -, -, -, f1, -⟩ := h np nl nd len c I hv hw hp hq
  obtain ⟨r', I1', I2, np2, nl2, nd2, len2, c2, e1', e2', v2, w2, p2, q2, -, f2⟩ := h np nl nd len c I1 hv (by rw [f1 38 (by omega) (by omega) (by omega)]; exact hw) hp (pm_fr hq (f1 37 (by omega) (by omega) (by omega)) (f1 42 (by omega) (by omega) (by omega)))
  obtain ⟨rfl, rfl⟩ := same_some e1 e1'
  have v2 : IV I1' 1 np2 nl2 nd2 := v2
  have w2 : RW I1' 1 (I2 38) nl2 nd2 := w2
  have p2 : PD I1' 35 len2 c2 := p2
  have g : ∀ q, q ≠ 37 → q ≠ 38 → q ≠ 39 → q ≠ 42 → q ≠ 43 → q ≠ 46 → I2 q = I1' q := f2
  have g2 : ∀ q, 47 ≤ q ∨ q = 40 ∨ q = 41 → I2 q = I q := fun q h => (g q (by omega) (by omega) (by omega) (by omega) (by omega) (by omega)).trans (f1 q (by omega) (by omega) (by omega))
  have hs : sameG I1' 1 I2 1 := sameG.rf (fun q k1 k2 => g q (by omega) (by omega) (by omega) (by omega) (by omega) (by omega))
  exact ⟨r', I1', I2, e1, e2', hm.next (iv_same hs v2) (rw_same hs (fun _ _ => rfl) v2.1.2.2.2.1 w2) (pd_fr p2 (g 35 (by omega) (by omega) (by omega) (by omega) (by omega) (by omega)) (g 36 (by omega) (by omega) (by omega) (by omega) (by omega) (by omega))) q2 g2⟩
def CQ (sh : aS) (P : aP) (u : Option Int32) (w : Option (Int32 × aI)) : Prop := ∃ r I2, u = some r ∧ w = some (r, I2) ∧ MI sh P I2
theorem rwS_nq {I : aI} {m q : Nat} {c : Nat → Int32} (h : q ≠ m + 6) : rwS I m c q = I q := by unfold rwS; rw [if_neg h]
theorem QP.join {sh : aS} {P : aP} {I : aI} {u : Option Int32} {w : Option (Int32 × aI)} (hm : MI sh P I) (h : ∀ (np nl nd : Nat), IV I 1 np nl nd → RW I 1 (I 38) nl nd → QP 37 I u w) : CQ sh P u w := by
  obtain ⟨np, nl, nd, len, c, hv, hw, hp, hq, s0, s1, hd⟩ := id hm
  obtain ⟨r, d, e1, e2⟩ := h np nl nd hv hw
  have g : ∀ q, q ≠ 43 → rwS I 37 d q = I q := fun q h => rwS_nq h
  have hs : sameG I 1 (rwS I 37 d) 1 := sameG.rf (fun q k1 k2 => g q (by omega))
  exact ⟨r, _, e1, e2, hm.next (iv_same hs hv) (rw_same hs (fun k _ => by rw [g 38 (by omega)]) hv.1.2.2.2.1 hw) (pd_fr hp (g 35 (by omega)) (g 36 (by omega))) (pm_fr hq (g 37 (by omega)) (g 42 (by omega))) (fun q hq => g q (by omega))⟩
theorem am_b2_id {γ δ : Type} (u : Option (γ × δ)) : am_b2 u (fun r I => some (r, I)) = u := by
  cases u with
  | none => rfl
  | some p => cases p; rfl
/-! the calls of the law but save and restore -/
section CL
variable {sh : aS} {P : aP} {I : aI}
theorem cl_setUp (hm : MI sh P I) (a : Int32) : CR sh P (f_X6_setUp 0 a I) (fun I1 => f_X7_setUp 37 a I1) := GP.join hm (fun np nl nd Ir hv hw => setUp_pair (x := 0) (m := 37) hv hw a)
theorem cl_set (hm : MI sh P I) (a b : Int32) : CR sh P (f_X6_set 0 a b I) (fun I1 => f_X7_set 37 a b I1) := GP.join hm (fun np nl nd Ir hv hw => set_pair (x := 0) (m := 37) hv hw a b)
theorem cl_fill (hm : MI sh P I) (a b : Int32) : CR sh P (f_X6_fill 0 a b I) (fun I1 => f_X7_fill 37 a b I1) := GP.join hm (fun np nl nd Ir hv hw => fill_pair (x := 0) (m := 37) hv hw a b)
theorem cl_embolden (hm : MI sh P I) (a b : Int32) : CR sh P (f_X6_embolden 0 a b I) (fun I1 => f_X7_embolden 37 a b I1) := GP.join hm (fun np nl nd Ir hv hw => embolden_pair (x := 0) (m := 37) hv hw a b)
theorem cl_lot (hm : MI sh P I) (a b : Int32) : CR sh P (f_X6_lot 0 a b I) (fun I1 => f_X7_lot 37 a b I1) := GP.join hm (fun np nl nd Ir hv hw => lot_pair (x := 0) (m := 37) hv hw a b)
theorem cl_begin (hm : MI sh P I) (a b : Int32) : CR sh P (f_X6_begin 0 a b I) (fun I1 => f_X7_begin 37 a b I1) := by
  rw [show f_X6_begin 0 a b I = f_X1_startAuction 1 a b I from am_b2_id _]
  exact GP.join hm (fun np nl nd Ir hv hw => (begin_pair (g := 1) (m := 37) hv hw a b).gp (x := 0))
theorem cl_bid (hm : MI sh P I) (a b : Int32) : CR sh P (f_X6_bid 0 a b I) (fun I1 => f_X7_bid 37 a b I1) := by
  rw [show f_X6_bid 0 a b I = f_X1_takeBid 1 a b I from am_b2_id _]
  exact GP.join hm (fun np nl nd Ir hv hw => (bid_pair (g := 1) (m := 37) hv hw a b).gp (x := 0))
theorem cl_pass (hm : MI sh P I) (a : Int32) : CR sh P (f_X6_pass 0 a I) (fun I1 => f_X7_pass 37 a I1) := by
  rw [show f_X6_pass 0 a I = f_X1_takePass 1 a I from am_b2_id _]
  exact GP.join hm (fun np nl nd Ir hv hw => (pass_pair (g := 1) (m := 37) hv hw a).gp (x := 0))
theorem cl_move (hm : MI sh P I) : CR sh P (f_X6_move 0 I) (fun I1 => f_X7_move 37 I1) := by
  rw [show f_X6_move 0 I = f_X1_moveAlone 1 I from am_b2_id _]
  exact GP.join hm (fun np nl nd Ir hv hw => (move_pair (g := 1) (m := 37) hv hw).gp (x := 0))
theorem cl_last (hm : MI sh P I) : CR sh P (f_X6_last 0 I) (fun I1 => f_X7_last 37 I1) := by
  rw [show f_X6_last 0 I = f_X1_giveLast 1 I from am_b2_id _]
  exact GP.join hm (fun np nl nd Ir hv hw => (last_pair (g := 1) (m := 37) hv hw).1.gp (x := 0))
theorem cl_ask (hm : MI sh P I) (a b : Int32) : CR sh P (f_X6_ask 0 a b I) (fun I1 => f_X7_ask 37 a b I1) := GP.join hm (fun np nl nd Ir hv hw => ask_pair (x := 0) (m := 37) hv hw a b)
theorem cl_player (hm : MI sh P I) (a b : Int32) : CQ sh P (f_X6_player 0 a b I) (f_X7_player 37 a b I) := QP.join hm (fun np nl nd hv hw => player_pair (x := 0) (m := 37) hv hw a b)
theorem cl_about (hm : MI sh P I) (a b : Int32) : ∃ r, f_X6_about 0 a b I = some r ∧ f_X7_about 37 a b I = some r := by
  obtain ⟨np, nl, nd, len, c, hv, hw, hp, hq, s0, s1, hd⟩ := id hm
  exact about_pair (x := 0) (m := 37) hv hw a b
theorem cl_count (hm : MI sh P I) (a : Int32) : ∃ r, f_X6_count 0 a I = some r ∧ f_X7_count 37 a I = some r := by
  obtain ⟨np, nl, nd, len, c, hv, hw, hp, hq, s0, s1, hd⟩ := id hm
  exact count_pair (x := 0) (m := 37) hv hw (hp.1.trans hq.1.symm) a
def CJ {β : Type} (u : Option (β × aJ)) (v : aJ → Option (β × aJ)) : Prop := ∃ r J1 J2, u = some (r, J1) ∧ v J1 = some (r, J2)
theorem JP.join {β : Type} {J : aJ} {u : Option (β × aJ)} {v : aJ → Option (β × aJ)} (h : ∀ Jr, JP 0 37 J Jr u (v Jr)) : CJ u v := by
  obtain ⟨r, J1, J2, e1, e2, -, -⟩ := h J
  obtain ⟨r', J1', J2', e1', e2', -, -⟩ := h J1
  obtain ⟨rfl, rfl⟩ := same_some e1 e1'
  exact ⟨r', J1', J2', e1, e2'⟩
theorem cl_known (hm : MI sh P I) (J : aJ) (a b : Int32) : CJ (f_X6_known 0 a b I J) (fun J1 => f_X7_known 37 a b I J1) := by
  obtain ⟨np, nl, nd, len, c, hv, hw, hp, hq, s0, s1, hd⟩ := id hm
  exact JP.join (fun Jr => known_pair (x := 0) (m := 37) hv hw J Jr a b)
theorem cl_ways (hm : MI sh P I) (J : aJ) : CJ (f_X6_ways 0 I J) (fun J1 => f_X7_ways 37 I J1) := by
  obtain ⟨np, nl, nd, len, c, hv, hw, hp, hq, s0, s1, hd⟩ := id hm
  exact JP.join (fun Jr => ways_pair (x := 0) (m := 37) hv hw J Jr)
theorem cl_canPay (hm : MI sh P I) (J : aJ) (a b : Int32) : CJ (f_X6_canPay 0 a b I J) (fun J1 => f_X7_canPay 37 a b I J1) := by
  obtain ⟨np, nl, nd, len, c, hv, hw, hp, hq, s0, s1, hd⟩ := id hm
  exact JP.join (fun Jr => canPay_pair (x := 0) (m := 37) hv hw J Jr a b)
theorem cl_forecast (hm : MI sh P I) (a b d : Int32) : CR sh P (f_X6_forecast 0 a b d I) (fun I1 => f_X7_forecast 37 a b d I1) := GP.join hm (fun np nl nd Ir hv hw => fcast_pair (x := 0) (m := 37) hv hw a b d)
theorem cl_bestMode (hm : MI sh P I) (a b : Int32) : CR sh P (f_X6_bestMode 0 a b I) (fun I1 => f_X7_bestMode 37 a b I1) := GP.join hm (fun np nl nd Ir hv hw => best_pair (x := 0) (m := 37) hv hw a b)
theorem cl_leastBid (hm : MI sh P I) (a b : Int32) : CQ sh P (f_X6_leastBid 0 a b I) (f_X7_leastBid 37 a b I) := QP.join hm (fun np nl nd hv hw => least_pair (x := 0) (m := 37) hv hw a b)
theorem cl_put (hm : MI sh P I) (a : Int64) : CR sh P (f_X6_put 0 a I) (fun I1 => f_X7_put 37 a I1) := PP.join hm (fun np nl nd len c Ir hv hw hp hq => put_pair (x := 0) (m := 37) hv hw hp hq a)
theorem cl_wipe (hm : MI sh P I) : CR sh P (f_X6_wipe 0 I) (fun I1 => f_X7_wipe 37 I1) := PP.join hm (fun np nl nd len c Ir hv hw hp hq => wipe_pair (x := 0) (m := 37) hv hw hp hq)
theorem cl_fault (hm : MI sh P I) : CR sh P (f_X6_fault 0 I) (fun I1 => f_X7_fault 37 I1) := PP.join hm (fun np nl nd len c Ir hv hw hp hq => fault_pair (x := 0) (m := 37) hv hw hp hq)
theorem cl_carryOut (hm : MI sh P I) : CR sh P (f_X6_carryOut 0 I) (fun I1 => f_X7_carryOut 37 I1) := PP.join hm (fun np nl nd len c Ir hv hw hp hq => carry_pair (x := 0) (m := 37) hv hw hp hq)
end CL
