/-! the start that the statement allows, in the words of the abstract machine -/
theorem arr_of {args : Array Value} {s : State} {ty : FieldType} (h : (Cond.arrayClass ty).before args s = true) : ∃ c, ArrOfT s c ty ∧ s.vm.findClass ("[" ++ ty.toString) = some c := by
  obtain ⟨c, k, comp, h1, h2, h3⟩ := Cond.arrayClass_spec h
  exact ⟨c, fun N z => ⟨(fun k h => by cases h), k, h2, comp, h3⟩, h1⟩
theorem arr_over {args : Array Value} {s : State} {C : String} (h : (Cond.arrayOver (.object C)).before args s = true) : ∃ c, ArrOfT s c (.object C) ∧ va_RA s c (.object C) := by
  obtain ⟨comp, c, k, h1, h2, h3, h4, h5⟩ := Cond.arrayOver_spec h
  exact ⟨c, fun N z => ⟨(fun k h => by cases h), k, h3, comp, h4⟩, k, comp, h3, h4, h1, h5⟩
theorem st_of {args : Array Value} {s : State} {n : String} {f : Nat → Int32} {A : Nat → Prop} (harr : (Cond.arrayOf (.static "PurseAuction" n "[I") .int).before args s = true) (hlen : (Cond.eq (.length (.static "PurseAuction" n "[I")) (.int 6)).before args s = true) (hel : ∀ j : Nat, j < 6 → (Cond.eq (.elem (.static "PurseAuction" n "[I") (.int (Int32.ofNat j))) (.int (f j))).before args s = true) (hex : (Cond.exactly (.static "PurseAuction" n "[I") "[I").before args s = true) (hl : (Cond.laysStatic "PurseAuction" n "[I").before args s = true) (hini : (Cond.initialized "PurseAuction").before args s = true) (hA : ∀ a : Nat, a < s.heap.size → ¬ A a) : ∃ t, am_st n f t A s s.heap := by
  have hlv := va_eqt hlen
  obtain ⟨t, ht, cell, hcell, hof, hkn, -, -, hv, hnA⟩ := va_Tof (tm := .static "PurseAuction" n "[I") (ty := .int) (N := 6) (f := fun j => .int (f j)) (A := A) (by decide) harr hlv (fun j hj => va_eqt (hel j hj)) hA
  obtain ⟨a, c, cell2, k, q1, q2, q3, q4, q5, q6, q7⟩ := Cond.exactly_spec hex
  cases ht.symm.trans q1
  cases hcell.symm.trans q3
  obtain ⟨a', cell3, w1, w2, w3⟩ := Term.length_spec hlv
  cases ht.symm.trans w1
  obtain ⟨x1, x2, x3, x4⟩ := State.arrayAt?_spec w2
  cases hcell.symm.trans x1
  have hlt : cell.slots.size < 2147483648 := by
    have hlv2 := hlv
    simp only [Term.eval, w2, Option.bind_eq_bind] at hlv2
    have ht2 := ht
    simp only [Term.eval, Option.bind_eq_bind] at ht2
    rw [ht2] at hlv2
    by_cases hlt : cell.slots.size < 2147483648
    · exact hlt
    · simp [w2, hlt] at hlv2
  have hsz : cell.slots.size = 6 := by
    have e : nI 6 = nI cell.slots.size := Value.int.inj w3
    rw [nI_inj (by omega) hlt] at e
    exact e.symm
  exact ⟨t, va_Zof hl hini ht hA, ⟨cell, hcell, hof, hkn, hsz, hv, by rw [q6]; exact q2⟩, hnA⟩
theorem cls_of {s : State} {args : Array Value} (hts : ∀ w ∈ lw_tbl, w.before args s = true) : ∃ (dC : Nat → ClassId) (dI : Nat → Nat → Nat), ∀ (c : Nat) (q : vw_C), vwCl[c]? = some q → u_Kn s q.1 q.2.1 q.2.2 (dC c) (dI c) := by
  obtain ⟨c0, i0, k0⟩ := u_known (C := RX0) (T := TX0) (N := 9) (n := 9) hts (fun w hw => (cl0.2.2.1 w hw).1) (hts (.instantiable RX0 9) (tw 93 (by decide +kernel)))
  obtain ⟨c1, i1, k1⟩ := u_known (C := RX1) (T := TX1) (N := 4) (n := 4) hts (fun w hw => (cl1.2.2.1 w hw).1) (hts (.instantiable RX1 4) (tw 21 (by decide +kernel)))
  obtain ⟨c2, i2, k2⟩ := u_known (C := RX2) (T := TX2) (N := 6) (n := 6) hts (fun w hw => (cl2.2.2.1 w hw).1) (hts (.instantiable RX2 6) (tw 65 (by decide +kernel)))
  obtain ⟨c3, i3, k3⟩ := u_known (C := RX3) (T := TX3) (N := 6) (n := 6) hts (fun w hw => (cl3.2.2.1 w hw).1) (hts (.instantiable RX3 6) (tw 174 (by decide +kernel)))
  obtain ⟨c4, i4, k4⟩ := u_known (C := RX4) (T := TX4) (N := 6) (n := 6) hts (fun w hw => (cl4.2.2.1 w hw).1) (hts (.instantiable RX4 6) (tw 36 (by decide +kernel)))
  obtain ⟨c5, i5, k5⟩ := u_known (C := RX5) (T := TX5) (N := 2) (n := 2) hts (fun w hw => (cl5.2.2.1 w hw).1) (hts (.instantiable RX5 2) (tw 160 (by decide +kernel)))
  obtain ⟨c6, i6, k6⟩ := u_known (C := RX6) (T := TX6) (N := 5) (n := 5) hts (fun w hw => (cl6.2.2.1 w hw).1) (hts (.instantiable RX6 5) (tw 13 (by decide +kernel)))
  obtain ⟨c7, i7, k7⟩ := u_known (C := RX7) (T := TX7) (N := 13) (n := 13) hts (fun w hw => (cl7.2.2.1 w hw).1) (hts (.instantiable RX7 13) (tw 790 (by decide +kernel)))
  have h : ∀ c : Nat, ∃ (cC : ClassId) (iS : Nat → Nat), ∀ q : vw_C, vwCl[c]? = some q → u_Kn s q.1 q.2.1 q.2.2 cC iS := by
    intro c
    match c with
    | 0 => exact ⟨c0, i0, fun q hq => by cases hq; exact k0⟩
    | 1 => exact ⟨c1, i1, fun q hq => by cases hq; exact k1⟩
    | 2 => exact ⟨c2, i2, fun q hq => by cases hq; exact k2⟩
    | 3 => exact ⟨c3, i3, fun q hq => by cases hq; exact k3⟩
    | 4 => exact ⟨c4, i4, fun q hq => by cases hq; exact k4⟩
    | 5 => exact ⟨c5, i5, fun q hq => by cases hq; exact k5⟩
    | 6 => exact ⟨c6, i6, fun q hq => by cases hq; exact k6⟩
    | 7 => exact ⟨c7, i7, fun q hq => by cases hq; exact k7⟩
    | c + 8 => exact ⟨c0, i0, fun q hq => absurd (List.getElem?_eq_some_iff.mp hq).1 (show ¬ c + 8 < 8 from by omega)⟩
  exact ⟨fun c => Classical.choose (h c), fun c => Classical.choose (Classical.choose_spec (h c)), fun c q hq => Classical.choose_spec (Classical.choose_spec (h c)) q hq⟩
theorem arrs_of {s : State} {args : Array Value} (hts : ∀ w ∈ lw_tbl, w.before args s = true) : ∃ cA : Nat → ClassId, ∀ (k : Nat) (q : ClassId × FieldType), (am_tys cA)[k]? = some q → ArrOfT s q.1 q.2 ∧ va_RA s q.1 q.2 := by
  obtain ⟨a0, g0, n0⟩ := arr_of (hts (.arrayClass .int) (tw 63 (by decide +kernel)))
  obtain ⟨a1, g1, n1⟩ := arr_of (hts (.arrayClass .boolean) (tw 851 (by decide +kernel)))
  obtain ⟨a2, g2, n2⟩ := arr_of (hts (.arrayClass .char) (tw 202 (by decide +kernel)))
  obtain ⟨a3, g3, n3⟩ := arr_of (hts (.arrayClass .long) (tw 172 (by decide +kernel)))
  obtain ⟨a4, g4, n4⟩ := arr_over (hts (.arrayOver (.object "PurseAuction$Game")) (tw 158 (by decide +kernel)))
  refine ⟨fun k => if k = 0 then a0 else if k = 1 then a1 else if k = 2 then a2 else if k = 3 then a3 else a4, fun k q h => ?_⟩
  match k, h with
  | 0, h => cases h; exact ⟨g0, n0⟩
  | 1, h => cases h; exact ⟨g1, n1⟩
  | 2, h => cases h; exact ⟨g2, n2⟩
  | 3, h => cases h; exact ⟨g3, n3⟩
  | 4, h => cases h; exact ⟨g4, n4⟩
  | k + 5, h => exact absurd (List.getElem?_eq_some_iff.mp h).1 (show ¬ k + 5 < 5 from by omega)
theorem st_least {args : Array Value} {s : State} {A : Nat → Prop} (hs : ∀ c ∈ flatC (Jvm.Cond.and given_1 narrow_1), c.before args s = true) (hts : ∀ w ∈ lw_tbl, w.before args s = true) (hA : ∀ a : Nat, a < s.heap.size → ¬ A a) : ∃ t, am_st "SETTING_LEAST" am_least t A s s.heap := by
  refine st_of (hs _ (by decide +kernel)) (hs _ (by decide +kernel)) (fun j hj => ?_) (hs _ (by decide +kernel)) (hts _ (tw 257 (by decide +kernel))) (hts _ (tw 1 (by decide +kernel))) hA
  match j, hj with
  | 0, _ => exact hs _ (by decide +kernel)
  | 1, _ => exact hs _ (by decide +kernel)
  | 2, _ => exact hs _ (by decide +kernel)
  | 3, _ => exact hs _ (by decide +kernel)
  | 4, _ => exact hs _ (by decide +kernel)
  | 5, _ => exact hs _ (by decide +kernel)
  | j + 6, hj => exact absurd hj (by omega)
theorem st_first {args : Array Value} {s : State} {A : Nat → Prop} (hs : ∀ c ∈ flatC (Jvm.Cond.and given_1 narrow_1), c.before args s = true) (hts : ∀ w ∈ lw_tbl, w.before args s = true) (hA : ∀ a : Nat, a < s.heap.size → ¬ A a) : ∃ t, am_st "SETTING_FIRST" am_first t A s s.heap := by
  refine st_of (hs _ (by decide +kernel)) (hs _ (by decide +kernel)) (fun j hj => ?_) (hs _ (by decide +kernel)) (hts _ (tw 27 (by decide +kernel))) (hts _ (tw 1 (by decide +kernel))) hA
  match j, hj with
  | 0, _ => exact hs _ (by decide +kernel)
  | 1, _ => exact hs _ (by decide +kernel)
  | 2, _ => exact hs _ (by decide +kernel)
  | 3, _ => exact hs _ (by decide +kernel)
  | 4, _ => exact hs _ (by decide +kernel)
  | 5, _ => exact hs _ (by decide +kernel)
  | j + 6, hj => exact absurd hj (by omega)
theorem st_most {args : Array Value} {s : State} {A : Nat → Prop} (hs : ∀ c ∈ flatC (Jvm.Cond.and given_1 narrow_1), c.before args s = true) (hts : ∀ w ∈ lw_tbl, w.before args s = true) (hA : ∀ a : Nat, a < s.heap.size → ¬ A a) : ∃ t, am_st "SETTING_MOST" am_most t A s s.heap := by
  refine st_of (hs _ (by decide +kernel)) (hs _ (by decide +kernel)) (fun j hj => ?_) (hs _ (by decide +kernel)) (hts _ (tw 259 (by decide +kernel))) (hts _ (tw 1 (by decide +kernel))) hA
  match j, hj with
  | 0, _ => exact hs _ (by decide +kernel)
  | 1, _ => exact hs _ (by decide +kernel)
  | 2, _ => exact hs _ (by decide +kernel)
  | 3, _ => exact hs _ (by decide +kernel)
  | 4, _ => exact hs _ (by decide +kernel)
  | 5, _ => exact hs _ (by decide +kernel)
  | j + 6, hj => exact absurd hj (by omega)
set_option maxRecDepth 100000 in
set_option maxHeartbeats 400000 in
/-- the law, from its entry -/
theorem whole_start {p : Program} {e : Env} {s : State} {m : MethodId} {below : List Frame} {meth : Method} {c : Code} (l : Launch) (hflags : l.flags = flags0) {b L : Nat} {xs : Nat → Int32} (hL : L ≤ 2048) (C0 : lw_At p s m meth c b L xs) : W p l e room_1 s m #[Value.ref b] below meth c s.heap [] 0 0 (lw_Z below #[Value.ref b] s) (entryFrame m ([Value.ref b] : List Value).toArray 4) := by
  obtain ⟨hx, hb, hr, hml, hown, hts, hX, hbl, hlocks, hgv⟩ := id C0
  have hs := flat_of_before _ hgv
  have hT : am_T s := fun w hw hg _ => am_word (State.WarmedH.refl s) hg (hts w hw)
  obtain ⟨dC, dI, hcl⟩ := cls_of hts
  obtain ⟨cA, har⟩ := arrs_of hts
  have hAn : ∀ a : Nat, a < s.heap.size → ¬ (fun q : Nat => s.heap.size ≤ q) a := fun a h => Nat.not_le.mpr h
  obtain ⟨t1, z1⟩ := st_least (A := fun q : Nat => s.heap.size ≤ q) hs hts hAn
  obtain ⟨t2, z2⟩ := st_first (A := fun q : Nat => s.heap.size ≤ q) hs hts hAn
  obtain ⟨t3, z3⟩ := st_most (A := fun q : Nat => s.heap.size ≤ q) hs hts hAn
  obtain ⟨α0, e0, e1, e2, e3⟩ : ∃ α0 : Nat → Nat, α0 1000000 = b ∧ α0 1000001 = t1 ∧ α0 1000002 = t2 ∧ α0 1000003 = t3 := ⟨fun q => if q = 1000000 then b else if q = 1000001 then t1 else if q = 1000002 then t2 else t3, by simp, by simp, by simp, by simp⟩
  have hZ : am_Z α0 (fun q : Nat => s.heap.size ≤ q) s s.heap := ⟨⟨by rw [e1]; exact z1, by rw [e2]; exact z2, by rw [e3]; exact z3⟩, va_AO.of (hts (.arrayOver (.object "PurseAuction$Game")) (tw 158 (by decide +kernel))), va_Nw.of rfl (hts (.castable "[I" "java/lang/Cloneable") (tw 33 (by decide +kernel)))⟩
  have main := lw_enter (K := (p, l, e, room_1, s, m, #[Value.ref b], below, meth, c, lw_Z below #[Value.ref b] s, dC, dI, cA, (fun q : Nat => s.heap.size ≤ q), α0, 0)) (nm := meth.name) (b := b) (L := L) (xs := xs) ⟨hx, hb, hml, hown, hlocks, rfl, rfl, hT, ⟨hcl, har⟩, fun q h => h, hZ⟩ ⟨rfl, rfl, rfl, hr, hX, hbl, Nat.not_le.mpr hbl, e0, fun q h => h⟩ hL
  have hl := lv_entry ([.ref b]) (n := 4) (Nat.le_of_ble_eq_true rfl)
  rw [lg_entry_eq]
  generalize (lg_sl ([.ref b]) ++ List.replicate (4 - (lg_sl ([.ref b])).length) Slot.unset).toArray = ls at hl ⊢
  have hl : lv_has ls 4 [(0, .ref (α0 1000000))] := by rw [e0]; exact hl
  exact main α0 s.heap [] ls ⟨am_al.rf, Nat.le_refl _, fun _ => rfl⟩ (fun k q h => by simp [am_ws] at h) ⟨fun i j p q h => by simp [am_ws] at h, fun k q h => by simp [am_ws] at h⟩ va_S.rf hl
