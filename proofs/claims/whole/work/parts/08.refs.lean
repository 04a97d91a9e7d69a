/-! references: null, rows of references, clone -/
section AO
variable {K : aK} {cc : ByteArray} {nL : Nat} {own nm : String} {R0 : Room} {pc : Nat} {lo lo' : List (Nat × Value)} {st : List Value} {sh : aS} {P : aP} {I : aI} {J : aJ} {cells slots : Nat} {β : Type} {Rs : β}
theorem ar_aload_nN (X : am_C K cc nL own nm R0) {k : Fin 4} {i : Nat} (hd : decode cc pc = .ok (.aload_n k, 1)) (hi : (k : Nat) = i) (j : Nat) (hj : lo[j]? = some (i, .null)) (kk : AW K nL (pc + 1) lo (.null :: st) sh P I J cells slots) : AW K nL pc lo st sh P I J cells slots := by
  obtain ⟨p, l, e, R, s, m, args, below, meth, c, Q, dC, dI, cA, A, α0, N0⟩ := K
  obtain ⟨hx, hb, hml, hown, hlk, hnm, hR0, hT, hK, hA, hZ⟩ := X
  intro α H locs ls ha hP hD hS hl
  exact lv_aload_nN hx hb hd hi (am_at hl j hj) (kk α H locs ls ha hP hD hS hl)
theorem ar_astore_nN (X : am_C K cc nL own nm R0) {k : Fin 4} {i : Nat} (hd : decode cc pc = .ok (.astore_n k, 1)) (hi : (k : Nat) = i) (hn : i < nL) (hl' : (i, Value.null) :: lo.filter (am_f1 i) = lo') (kk : AW K nL (pc + 1) lo' st sh P I J cells slots) : AW K nL pc lo (.null :: st) sh P I J cells slots := by
  obtain ⟨p, l, e, R, s, m, args, below, meth, c, Q, dC, dI, cA, A, α0, N0⟩ := K
  obtain ⟨hx, hb, hml, hown, hlk, hnm, hR0, hT, hK, hA, hZ⟩ := X
  intro α H locs ls ha hP hD hS hl
  exact lv_astore_nN hx hb hd hi hl hn (am_fm1 α i hl') (fun ls' hl2 => kk α H locs ls' ha hP hD hS hl2)
theorem ar_ifnonnull (X : am_C K cc nL own nm R0) {q : Nat} {off : Int} {tgt : Nat} (hd : decode cc pc = .ok (.ifnonnull off, 3)) (ht : (pc : Int) + off = (tgt : Int)) (kk : AW K nL tgt lo st sh P I J cells slots) : AW K nL pc lo (.ref q :: st) sh P I J cells slots := by
  obtain ⟨p, l, e, R, s, m, args, below, meth, c, Q, dC, dI, cA, A, α0, N0⟩ := K
  obtain ⟨hx, hb, hml, hown, hlk, hnm, hR0, hT, hK, hA, hZ⟩ := X
  intro α H locs ls ha hP hD hS hl
  exact lv_ifnonnull hx hb hd ht (kk α H locs ls ha hP hD hS hl)
theorem ar_ifnonnullN (X : am_C K cc nL own nm R0) {off : Int} (hd : decode cc pc = .ok (.ifnonnull off, 3)) (kk : AW K nL (pc + 3) lo st sh P I J cells slots) : AW K nL pc lo (.null :: st) sh P I J cells slots := by
  obtain ⟨p, l, e, R, s, m, args, below, meth, c, Q, dC, dI, cA, A, α0, N0⟩ := K
  obtain ⟨hx, hb, hml, hown, hlk, hnm, hR0, hT, hK, hA, hZ⟩ := X
  intro α H locs ls ha hP hD hS hl
  exact lv_ifnonnullN hx hb hd (kk α H locs ls ha hP hD hS hl)
theorem ar_aald (X : am_C K cc nL own nm R0) {q n : Nat} {i : Int32} {v : Value} (hd : decode cc pc = .ok (.aaload, 1)) (hs : sh[q]? = some (.inr (4, n))) (hi : am_ok i n = true) (hv : v = va_rf (P q i.toNatClampNeg)) (kk : AW K nL (pc + 1) lo (v :: st) sh P I J cells slots) : AW K nL pc lo (.int i :: .ref q :: st) sh P I J cells slots := by
  obtain ⟨p, l, e, R, s, m, args, below, meth, c, Q, dC, dI, cA, A, α0, N0⟩ := K
  obtain ⟨hx, hb, hml, hown, hlk, hnm, hR0, hT, hK, hA, hZ⟩ := X
  intro α H locs ls ha hP hD hS hl
  refine va_aldq (C := "PurseAuction$Game") hx hb hK hP q 4 (am_ws_get hs) rfl (am_ok_in hi) hd ?_
  have h := kk α H locs ls ha hP hD hS hl
  have e1 : (v :: st).map (am_v α) = va_rf ((P q i.toNatClampNeg).map α) :: st.map (am_v α) := by
    subst hv
    cases P q i.toNatClampNeg <;> rfl
  rw [e1] at h
  exact h
theorem ar_aast (X : am_C K cc nL own nm R0) {q n z : Nat} {i : Int32} (hd : decode cc pc = .ok (.aastore, 1)) (hs : sh[q]? = some (.inr (4, n))) (hi : am_ok i n = true) (hz : sh[z]? = some (.inl 1)) (kk : AW K nL (pc + 1) lo st sh (am_wP P q i.toNatClampNeg (some z)) I J cells slots) : AW K nL pc lo (.ref z :: .int i :: .ref q :: st) sh P I J cells slots := by
  obtain ⟨p, l, e, R, s, m, args, below, meth, c, Q, dC, dI, cA, A, α0, N0⟩ := K
  obtain ⟨hx, hb, hml, hown, hlk, hnm, hR0, hT, hK, hA, hZ⟩ := X
  intro α H locs ls ha hP hD hS hl
  have hset : (am_ws α cA sh I J P).set q (α q, .inl (cA 4, n, .inr (.inr (.inr (.inr (va_up (fun j => (P q j).map α) i.toNatClampNeg (some (α z)))))))) = am_ws α cA sh I J (am_wP P q i.toNatClampNeg (some z)) := by
    have e1 : va_up (fun j => (P q j).map α) i.toNatClampNeg (some (α z)) = (fun j => ((am_wP P q i.toNatClampNeg (some z)) q j).map α) := by
      funext j
      simp only [va_up, am_wP, true_and]
      split <;> rfl
    rw [e1]
    exact am_ws_set (z := .inr (4, n)) hs (fun _ _ => rfl) (fun _ _ => rfl) (fun j hj => am_wP_ne P _ hj)
  exact va_astq hx hb hK hP hD hS q 4 z 1 (am_ws_get hs) rfl (am_ws_get hz) rfl (am_ok_in hi) hd (fun H1 locs1 hP1 hD1 hS1 => kk α H1 locs1 ls ha (hset ▸ hP1) (hset ▸ hD1) hS1 hl)
theorem ar_anewa (X : am_C K cc nL own nm R0) {idx n : Nat} {z : Int32} (hd : decode cc pc = .ok (.anewarray idx, 3)) (hcl : Cond.classLink own idx "PurseAuction$Game" ∈ lw_tbl) (hz : ¬ z < 0) (hzn : z.toNatClampNeg = n) (hsz : n ≤ 10000) (hpc : am_pc P sh.length) (hN : sh.length < 1000000) (hv : am_rvs sh.length (lo.map (·.2)) ∧ am_rvs sh.length st) (hcells : cells + 1 ≤ R0.cells ∧ slots + n ≤ R0.slots)
    (kk : AW K nL (pc + 3) lo (.ref sh.length :: st) (sh ++ [.inr (4, n)]) (am_zP P sh.length) I J (cells + 1) (slots + n)) : AW K nL pc lo (.int z :: st) sh P I J cells slots := by
  obtain ⟨p, l, e, R, s, m, args, below, meth, c, Q, dC, dI, cA, A, α0, N0⟩ := K
  obtain ⟨hx, hb, hml, hown, hlk, hnm, hR0, hT, hK, hA, hZ⟩ := X
  intro α H locs ls ha hP hD hS hl
  subst hR0
  refine va_newq (C := "PurseAuction$Game") hx hb hown (hT _ hcl rfl args) hZ.2.1 hK hP hD hS hA hz hzn (by omega) hcells.1 hcells.2 hd (fun q cA' H1 hK1 hP1 hD1 hS1 => ?_)
  have hcc : cA' = cA 4 := by
    obtain ⟨_, _, _, _, _, g1⟩ := (hK1.2 5 (cA', .object "PurseAuction$Game") rfl).2
    obtain ⟨_, _, _, _, _, g2⟩ := (hK.2 4 (cA 4, .object "PurseAuction$Game") rfl).2
    exact Option.some.inj (g1.symm.trans g2)
  subst hcc
  have hal : am_al α sh.length (fun k => if k = sh.length then q else α k) := fun k hk => by
    have : k ≠ sh.length := by omega
    simp only [this, if_false]
  have hEE : am_ws (fun k => if k = sh.length then q else α k) cA (sh ++ [.inr (4, n)]) I J (am_zP P sh.length) = am_ws α cA sh I J P ++ [(q, .inl (cA 4, n, .inr (.inr (.inr (.inr (fun _ => none))))))] := by
    refine am_ws_push (fun _ _ => rfl) (fun _ _ => rfl) (fun k hk => by funext i; simp [am_zP, Nat.ne_of_lt hk]) hpc ?_
    simp [am_E, am_row, am_zP]
  have hk := kk (fun k => if k = sh.length then q else α k) H1 locs ls ⟨am_al_push ha.1 ha.2.1 hN, by simp; omega, fun h => by simp at h; omega⟩ (hEE ▸ hP1) (hEE ▸ hD1) hS1 (by rw [am_rvs_lo hal hv.1]; exact hl)
  have e1 : ((.ref sh.length :: st : List Value)).map (am_v (fun k => if k = sh.length then q else α k)) = .ref q :: st.map (am_v α) := by
    rw [List.map_cons, am_rvs_eq hal hv.2]
    simp [am_v]
  rw [e1] at hk
  exact hk
def am_clI (I : aI) (N t : Nat) : aI := fun q j => if q = N then am_sf t j else I q j
theorem ar_clone (X : am_C K cc nL own nm R0) {idx t : Nat} (hd : decode cc pc = .ok (.invokevirtual idx, 3)) (ht : t = 1000001 ∨ t = 1000002 ∨ t = 1000003) (h1 : Cond.methodLink own idx ⟨"[I", "clone", "()Ljava/lang/Object;"⟩ ∈ lw_tbl) (h2 : Cond.sameMethod "[I" "java/lang/Object" "clone" "()Ljava/lang/Object;" ∈ lw_tbl) (h3 : Cond.native ⟨"java/lang/Object", "clone", "()Ljava/lang/Object;"⟩ ∈ lw_tbl) (h4 : Cond.instanceMethod ⟨"java/lang/Object", "clone", "()Ljava/lang/Object;"⟩ ∈ lw_tbl) (h5 : Cond.selects "[I" ⟨"[I", "clone", "()Ljava/lang/Object;"⟩ ⟨"java/lang/Object", "clone", "()Ljava/lang/Object;"⟩ ∈ lw_tbl) (hf : 1 ≤ R0.frames) (hcat : (st.map fun v => v.category).sum + 14 ≤ R0.locals) (hpc : am_pc P sh.length) (hN : sh.length < 1000000) (hv : am_rvs sh.length (lo.map (·.2)) ∧ am_rvs sh.length st) (hcells : cells + 1 ≤ R0.cells ∧ slots + 6 ≤ R0.slots)
    (kk : AW K nL (pc + 3) lo (.ref sh.length :: st) (sh ++ [.inr (0, 6)]) P (am_clI I sh.length t) J (cells + 1) (slots + 6)) : AW K nL pc lo (.ref t :: st) sh P I J cells slots := by
  obtain ⟨p, l, e, R, s, m, args, below, meth, c, Q, dC, dI, cA, A, α0, N0⟩ := K
  obtain ⟨hx, hb, hml, hown, hlk, hnm, hR0, hT, hK, hA, hZ⟩ := X
  intro α H locs ls ha hP hD hS hl
  subst hR0
  obtain ⟨-, ⟨scr, g1, g2, g3, g4, g5, g6⟩, hnA⟩ := hZ.at ht
  have hee : α t = α0 t := ha.1 t (Or.inr (by omega))
  have hlt : α0 t < s.heap.size := (Array.getElem?_eq_some_iff.mp g1).1
  have hH : H[α t]? = some scr := by rw [hee, hS.2.1 _ hlt hnA]; exact g1
  obtain ⟨c0, t0', f1, f2, f3⟩ := Cond.castable_spec (va_Nw.use (A := args) rfl hZ.2.2)
  cases g6.symm.trans f1
  have hcA0 : scr.cls = cA 0 := by
    have q1 := (hK.2 0 (cA 0, .int) rfl).2
    exact Option.some.inj (g6.symm.trans q1)
  have hnew : ({ cls := scr.cls, slots := scr.slots } : Cell) = vp_cell (cA 0) (6, .inl (am_sf t)) := by
    rw [vp_cell_i]
    unfold arrV
    congr 1
    · apply Array.ext_getElem?
      intro j
      by_cases hj : j < 6
      · rw [g5 j hj]
        simp [hj]
      · rw [Array.getElem?_eq_none (by omega), Array.getElem?_eq_none (by simp; omega)]
  intro T hTT XX
  obtain ⟨-, kA, hkA, comp, hkind⟩ := State.isArrayOf_alike XX.warmed.alike g2
  obtain ⟨hob, kS, hkS, compS, hkindS⟩ := g2
  have hcellT : T.heap[α t]? = some scr := by rw [hTT]; exact hH
  obtain ⟨vm', X', st'⟩ := XX.cloneArray hx hown (hT _ h1 rfl args) (hT _ h2 rfl args) (hT _ h3 rfl args) (hT _ h4 rfl args) (hT _ h5 rfl args) (a := α t) (cell := scr) hcellT hob g3 g6 f2 f3
    (fun i v hv => by
      have hi : i < 6 := by
        have := (Array.getElem?_eq_some_iff.mp hv).1
        omega
      rw [g5 i hi] at hv
      cases hv
      have hk' : T.vm.classes[scr.cls]? = some kA := hkA
      simp [State.fitsSlot, State.slotType?, hk', hkind, fits])
    (g := F0 m pc ls ((.ref t :: st).map (am_v α))) rfl (by rw [hml]; exact hl.1) rfl (by rw [hb]; exact hd) hf (by
      rw [am_catsum]
      show 2 * 0 + _ + 14 ≤ _
      omega) hcells.1 (by rw [g4]; exact hcells.2) (hloader := Vm.clonesLoader_of_array hkS hkindS)
  rw [hnew, g4] at X'
  rw [hnew] at st'
  generalize hH1 : H.push (vp_cell (cA 0) (6, .inl (am_sf t))) = H1
  have z1 : H1.size = H.size + 1 := by rw [← hH1, Array.size_push]
  have e1 : H1[H.size]? = some (vp_cell (cA 0) (6, .inl (am_sf t))) := by rw [← hH1, Array.getElem?_push_size]
  have o1 : ∀ q : Nat, q < H.size → H1[q]? = H[q]? := fun q hq => by rw [← hH1, Array.getElem?_push, if_neg (Nat.ne_of_lt hq)]
  have hk : ∀ (k : Nat) (y : Nat × va_E), (am_ws α cA sh I J P)[k]? = some y → H1[y.1]? = H[y.1]? := fun k y hy => o1 y.1 ((hP k y hy).lt)
  have hP1 : va_P (dC, dI) vwCl (am_ws α cA sh I J P ++ [(H.size, .inl (cA 0, 6, .inl (am_sf t)))]) H1 := (hP.kept hk).app (fun k y hy => by
      have hz : k < 1 := (List.getElem?_eq_some_iff.mp hy).1
      rw [show k = 0 by omega] at hy
      cases hy
      exact e1)
  have hD1 : va_D A (am_ws α cA sh I J P ++ [(H.size, .inl (cA 0, 6, .inl (am_sf t)))]) := hD.push hP rfl (hA _ hS.1)
  have hS1 : va_S A s.heap H1 locs := ⟨Nat.le_trans hS.1 (by omega), fun y h1 h2 => (o1 y (Nat.lt_of_lt_of_le h1 hS.1)).trans (hS.2.1 y h1 h2), hS.2.2⟩
  have hal : am_al α sh.length (fun k => if k = sh.length then H.size else α k) := fun k hk => by
    have : k ≠ sh.length := by omega
    simp only [this, if_false]
  have hEE : am_ws (fun k => if k = sh.length then H.size else α k) cA (sh ++ [.inr (0, 6)]) (am_clI I sh.length t) J P = am_ws α cA sh I J P ++ [(H.size, .inl (cA 0, 6, .inl (am_sf t)))] := by
    refine am_ws_push (fun k hk => by funext i; simp [am_clI, Nat.ne_of_lt hk]) (fun _ _ => rfl) (fun _ _ => rfl) hpc ?_
    have hz0 : (am_clI I sh.length t) sh.length = am_sf t := by funext i; simp [am_clI]
    simp only [am_E, am_row, hz0]
  have hkk := kk (fun k => if k = sh.length then H.size else α k) H1 locs ls ⟨am_al_push ha.1 ha.2.1 hN, by simp; omega, fun h => by simp at h; omega⟩ (hEE ▸ hP1) (hEE ▸ hD1) hS1 (by rw [am_rvs_lo hal hv.1]; exact hl)
  have e2 : ((.ref sh.length :: st : List Value)).map (am_v (fun k => if k = sh.length then H.size else α k)) = .ref H.size :: st.map (am_v α) := by
    rw [List.map_cons, am_rvs_eq hal hv.2]
    simp [am_v]
  rw [e2] at hkk
  obtain ⟨t9, b1, b2⟩ := hkk ((T.setVm vm').pushCell (vp_cell (cA 0) (6, .inl (am_sf t)))) (by rw [← hH1, ← hTT]; rfl) X'
  refine ⟨t9, st' t9 ?_, b2⟩
  rw [hTT]
  exact b1
theorem ar_castA (X : am_C K cc nL own nm R0) {idx q n : Nat} (hd : decode cc pc = .ok (.checkcast idx, 3)) (h1 : Cond.classLink own idx "[I" ∈ lw_tbl) (hs : sh[q]? = some (.inr (0, n))) (kk : AW K nL (pc + 3) lo (.ref q :: st) sh P I J cells slots) : AW K nL pc lo (.ref q :: st) sh P I J cells slots := by
  obtain ⟨p, l, e, R, s, m, args, below, meth, c, Q, dC, dI, cA, A, α0, N0⟩ := K
  obtain ⟨hx, hb, hml, hown, hlk, hnm, hR0, hT, hK, hA, hZ⟩ := X
  intro α H locs ls ha hP hD hS hl
  have g2 := (hK.2 0 (cA 0, .int) rfl).2
  exact va_castA hx hb hown (hT _ h1 rfl args) hP q (am_ws_get hs) g2 hd (kk α H locs ls ha hP hD hS hl)
end AO
