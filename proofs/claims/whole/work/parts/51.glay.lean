/-! a new game lies where it should -/
def gT : aS := [.inr (0, 6), .inl 4, .inr (0, 6), .inr (0, 6), .inr (0, 6), .inr (0, 6), .inr (0, 6), .inl 2, .inr (0, 12), .inr (0, 12), .inr (0, 12), .inr (0, 12), .inl 0, .inr (0, 6)]
theorem gS_eq (sh : aS) : gS sh = sh ++ gT := by
  simp [gS, gS3, gS2, gS1, iS4, iS2, gT]
theorem gS_len {sh : aS} {N : Nat} (h : sh.length = N) : (gS sh).length = N + 14 := by
  rw [gS_eq, List.length_append, h]; rfl
theorem gS_old {sh : aS} {q : Nat} {v : Nat ⊕ (Nat × Nat)} (h : sh[q]? = some v) : (gS sh)[q]? = some v := by
  rw [gS_eq]
  obtain ⟨hq, -⟩ := List.getElem?_eq_some_iff.mp h
  rw [List.getElem?_append_left hq]; exact h
theorem gS_new {sh : aS} {o : Nat} (h : sh.length = o + 1) (j : Nat) : (gS sh)[o + (j + 1)]? = gT[j]? := by
  rw [gS_eq, List.getElem?_append_right (by omega), h, show o + (j + 1) - (o + 1) = j by omega]
theorem gP_pc {P : aP} {o : Nat} (hpc : am_pc P (o + 1)) : am_pc (gP P o) (o + 15) := by
  have p0 := (hpc.mono (show o + 1 ≤ o + 2 by omega)).wk (q := o) (k := 0) (show o + 1 < o + 2 by omega)
  have p1 : am_pc (gP1 P o) (o + 3) := (p0.mono (by omega)).z
  have p2 := (iP4_pc p1).wk (q := o) (k := 1) (show o + 2 < o + 2 + 6 by omega)
  have p3 : am_pc (gP2 P o) (o + 9) := (p2.mono (by omega)).z
  have p4 := (iP2_pc (o := o + 8) p3).wk (q := o) (k := 2) (show o + 8 < o + 9 + 4 by omega)
  have p5 : am_pc (gP3 P o) (o + 14) := (p4.mono (by omega)).z
  exact ((p5.mono (by omega)).wk (by omega)).wk (by omega)
theorem gL {sh : aS} {P : aP} {o : Nat} (ho : sh[o]? = some (.inl 1)) (hN : sh.length = o + 1) : L1 (gS sh) (gP P o) o := by
  refine ⟨fun j z hz => ?_, fun q hq => ?_⟩
  · cases j with
    | zero => cases hz; exact gS_old ho
    | succ j =>
      rw [gS_new hN j, ← hz]
      match j with
      | 0 => rfl
      | 1 => rfl
      | 2 => rfl
      | 3 => rfl
      | 4 => rfl
      | 5 => rfl
      | 6 => rfl
      | 7 => rfl
      | 8 => rfl
      | 9 => rfl
      | 10 => rfl
      | 11 => rfl
      | 12 => rfl
      | 13 => rfl
      | j + 14 => rfl
  · have hall : ∀ q ∈ Q1, gP P o (o + q.1) q.2.1 = some (o + q.2.2) := by
      unfold Q1
      simp [gP, gP3, gP2, gP1, iP4, iP2, am_wP, am_zP]
    exact hall q hq
/-- what is old stays -/
theorem wP_nq {P : aP} {q k q' k' : Nat} {v : Option Nat} (h : q' ≠ q) : am_wP P q k v q' k' = P q' k' := by
  unfold am_wP
  rw [if_neg (fun z => h z.1)]
theorem zP_nq {P : aP} {N q k : Nat} (h : q ≠ N) : am_zP P N q k = P q k := by
  unfold am_zP
  rw [if_neg h]
theorem zI_nq {I : aI} {N q k : Nat} (h : q ≠ N) : am_zI I N q k = I q k := by
  unfold am_zI
  rw [if_neg h]
theorem clI_nq {I : aI} {N t q k : Nat} (h : q ≠ N) : am_clI I N t q k = I q k := by
  unfold am_clI
  rw [if_neg h]
theorem clC_nq {I : aI} {o q k : Nat} (h1 : q ≠ o) (h2 : q ≠ o + 1) : clearC I o q k = I q k := by
  unfold clearC
  rw [if_neg (fun z => h1 z.1), if_neg (fun z => h2 z.1)]
theorem gP_old {P : aP} {o q k : Nat} (h : q < o) : gP P o q k = P q k := by
  unfold gP gP3 gP2 gP1 iP4 iP2
  simp (disch := omega) only [wP_nq, zP_nq]
theorem gI_old {I : aI} {o q k : Nat} (h : q < o) : gI I o q k = I q k := by
  unfold gI gI3 gI2 gI1 iI4 iI2
  simp (disch := omega) only [clC_nq, zI_nq, clI_nq, am_w_nq]
/-- the settings of a new game -/
theorem gI_set {I : aI} {o k : Nat} : gI I o (o + 1) k = am_first k := by
  unfold gI gI3 gI2 gI1 iI4 iI2
  simp (disch := omega) only [clC_nq, zI_nq, am_w_nq]
  unfold am_clI
  rw [if_pos rfl]
  rfl
