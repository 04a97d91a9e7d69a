/-! ROWS of the abstract machine -/
def am_ok (i : Int32) (n : Nat) : Bool := decide (¬ (i < 0)) && decide (i.toNatClampNeg < n)
def am_g {β : Type} (b : Bool) (x : Option β) : Option β := match b with
  | true => x
  | false => none
def am_let {γ β : Type} (a : γ) (f : γ → Option β) : Option β := f a
theorem am_g_elim {β : Type} {b : Bool} {x : Option β} {R : β} (h : am_g b x = some R) : b = true ∧ x = some R := by
  cases b with
  | true => exact ⟨rfl, h⟩
  | false => cases h
theorem am_ok_in {i : Int32} {n : Nat} (h : am_ok i n = true) : vp_in i n := by
  simp only [am_ok, Bool.and_eq_true, decide_eq_true_eq] at h
  intro q
  rcases q with q | q
  · exact h.1 q
  · omega
theorem am_bind {γ β : Type} {x : Option γ} {f : γ → Option β} {R : β} (h : x.bind f = some R) : ∃ a, x = some a ∧ f a = some R := by
  cases x with
  | none => cases h
  | some a => exact ⟨a, rfl, h⟩
theorem am_filter (α : Nat → Nat) (f : Nat → Nat → Bool) (lo : List (Nat × Value)) : (lo.map (fun q => (q.1, am_v α q.2))).filter (fun q => f q.1 q.2.category) = (lo.filter (fun q => f q.1 q.2.category)).map (fun q => (q.1, am_v α q.2)) := by
  induction lo with
  | nil => rfl
  | cons a t ih =>
    simp only [List.map_cons, List.filter_cons, am_cat, ih]
    split <;> rfl
def am_f1 (i : Nat) (q : Nat × Value) : Bool := !(q.1 == i) && !(q.1 + 1 == i && q.2.category == 2)
def am_f2 (i : Nat) (q : Nat × Value) : Bool := !(q.1 == i) && (!(q.1 == i + 1) && !(q.1 + 1 == i && q.2.category == 2))
theorem am_fm1 (α : Nat → Nat) (i : Nat) {v : Value} {lo lo' : List (Nat × Value)} (h : (i, v) :: lo.filter (am_f1 i) = lo') : (i, am_v α v) :: (lo.map (fun q => (q.1, am_v α q.2))).filter (fun q => !(q.1 == i) && !(q.1 + 1 == i && q.2.category == 2)) = lo'.map (fun q => (q.1, am_v α q.2)) := by
  subst h
  rw [am_filter α (fun a b => !(a == i) && !(a + 1 == i && b == 2))]
  rfl
theorem am_fm2 (α : Nat → Nat) (i : Nat) {v : Value} {lo lo' : List (Nat × Value)} (h : (i, v) :: lo.filter (am_f2 i) = lo') : (i, am_v α v) :: (lo.map (fun q => (q.1, am_v α q.2))).filter (fun q => !(q.1 == i) && (!(q.1 == i + 1) && !(q.1 + 1 == i && q.2.category == 2))) = lo'.map (fun q => (q.1, am_v α q.2)) := by
  subst h
  rw [am_filter α (fun a b => !(a == i) && (!(a == i + 1) && !(a + 1 == i && b == 2)))]
  rfl
theorem am_at {α : Nat → Nat} {ls : Array Slot} {nL : Nat} {lo : List (Nat × Value)} (h : lv_has ls nL (lo.map (fun q => (q.1, am_v α q.2)))) (k : Nat) {i : Nat} {v : Value} (hk : lo[k]? = some (i, v)) : ls[i]? = some (.val (am_v α v)) :=
  lv_at h k (by rw [List.getElem?_map, hk]; rfl)
section AR
variable {K : aK} {cc : ByteArray} {nL : Nat} {own nm : String} {R0 : Room} {pc : Nat} {lo lo' : List (Nat × Value)} {st : List Value} {sh : aS} {P : aP} {I : aI} {J : aJ} {cells slots : Nat} {β : Type} {Rs : β}

theorem ar_iload_n (X : am_C K cc nL own nm R0) {k : Fin 4} {i : Nat} {x : Int32} (hd : decode cc pc = .ok (.iload_n k, 1)) (hi : (k : Nat) = i) (j : Nat) (hj : lo[j]? = some (i, .int x)) (kk : AW K nL (pc + 1) lo (.int x :: st) sh P I J cells slots) : AW K nL pc lo st sh P I J cells slots := by
  obtain ⟨p, l, e, R, s, m, args, below, meth, c, Q, dC, dI, cA, A, α0, N0⟩ := K
  obtain ⟨hx, hb, hml, hown, hlk, hnm, hR0, hT, hK, hA, hZ⟩ := X
  intro α H locs ls ha hP hD hS hl
  exact lv_iload_n hx hb hd hi (am_at hl j hj) (kk α H locs ls ha hP hD hS hl)
theorem ar_iload (X : am_C K cc nL own nm R0) {i : Nat} {x : Int32} (hd : decode cc pc = .ok (.iload i, 2)) (j : Nat) (hj : lo[j]? = some (i, .int x)) (kk : AW K nL (pc + 2) lo (.int x :: st) sh P I J cells slots) : AW K nL pc lo st sh P I J cells slots := by
  obtain ⟨p, l, e, R, s, m, args, below, meth, c, Q, dC, dI, cA, A, α0, N0⟩ := K
  obtain ⟨hx, hb, hml, hown, hlk, hnm, hR0, hT, hK, hA, hZ⟩ := X
  intro α H locs ls ha hP hD hS hl
  exact lv_iload hx hb hd (am_at hl j hj) (kk α H locs ls ha hP hD hS hl)
theorem ar_istore_n (X : am_C K cc nL own nm R0) {k : Fin 4} {i : Nat} {x : Int32} (hd : decode cc pc = .ok (.istore_n k, 1)) (hi : (k : Nat) = i) (hn : i < nL) (hl' : (i, Value.int x) :: lo.filter (am_f1 i) = lo') (kk : AW K nL (pc + 1) lo' st sh P I J cells slots) : AW K nL pc lo (.int x :: st) sh P I J cells slots := by
  obtain ⟨p, l, e, R, s, m, args, below, meth, c, Q, dC, dI, cA, A, α0, N0⟩ := K
  obtain ⟨hx, hb, hml, hown, hlk, hnm, hR0, hT, hK, hA, hZ⟩ := X
  intro α H locs ls ha hP hD hS hl
  exact lv_istore_n hx hb hd hi hl hn (am_fm1 α i hl') (fun ls' hl2 => kk α H locs ls' ha hP hD hS hl2)
theorem ar_istore (X : am_C K cc nL own nm R0) {i : Nat} {x : Int32} (hd : decode cc pc = .ok (.istore i, 2)) (hn : i < nL) (hl' : (i, Value.int x) :: lo.filter (am_f1 i) = lo') (kk : AW K nL (pc + 2) lo' st sh P I J cells slots) : AW K nL pc lo (.int x :: st) sh P I J cells slots := by
  obtain ⟨p, l, e, R, s, m, args, below, meth, c, Q, dC, dI, cA, A, α0, N0⟩ := K
  obtain ⟨hx, hb, hml, hown, hlk, hnm, hR0, hT, hK, hA, hZ⟩ := X
  intro α H locs ls ha hP hD hS hl
  exact lv_istore hx hb hd hl hn (am_fm1 α i hl') (fun ls' hl2 => kk α H locs ls' ha hP hD hS hl2)
theorem ar_lload_n (X : am_C K cc nL own nm R0) {k : Fin 4} {i : Nat} {x : Int64} (hd : decode cc pc = .ok (.lload_n k, 1)) (hi : (k : Nat) = i) (j : Nat) (hj : lo[j]? = some (i, .long x)) (kk : AW K nL (pc + 1) lo (.long x :: st) sh P I J cells slots) : AW K nL pc lo st sh P I J cells slots := by
  obtain ⟨p, l, e, R, s, m, args, below, meth, c, Q, dC, dI, cA, A, α0, N0⟩ := K
  obtain ⟨hx, hb, hml, hown, hlk, hnm, hR0, hT, hK, hA, hZ⟩ := X
  intro α H locs ls ha hP hD hS hl
  exact lv_lload_n hx hb hd hi (am_at hl j hj) (kk α H locs ls ha hP hD hS hl)
theorem ar_lload (X : am_C K cc nL own nm R0) {i : Nat} {x : Int64} (hd : decode cc pc = .ok (.lload i, 2)) (j : Nat) (hj : lo[j]? = some (i, .long x)) (kk : AW K nL (pc + 2) lo (.long x :: st) sh P I J cells slots) : AW K nL pc lo st sh P I J cells slots := by
  obtain ⟨p, l, e, R, s, m, args, below, meth, c, Q, dC, dI, cA, A, α0, N0⟩ := K
  obtain ⟨hx, hb, hml, hown, hlk, hnm, hR0, hT, hK, hA, hZ⟩ := X
  intro α H locs ls ha hP hD hS hl
  exact lv_lload hx hb hd (am_at hl j hj) (kk α H locs ls ha hP hD hS hl)
theorem ar_lstore_n (X : am_C K cc nL own nm R0) {k : Fin 4} {i : Nat} {x : Int64} (hd : decode cc pc = .ok (.lstore_n k, 1)) (hi : (k : Nat) = i) (hn : i + 1 < nL) (hl' : (i, Value.long x) :: lo.filter (am_f2 i) = lo') (kk : AW K nL (pc + 1) lo' st sh P I J cells slots) : AW K nL pc lo (.long x :: st) sh P I J cells slots := by
  obtain ⟨p, l, e, R, s, m, args, below, meth, c, Q, dC, dI, cA, A, α0, N0⟩ := K
  obtain ⟨hx, hb, hml, hown, hlk, hnm, hR0, hT, hK, hA, hZ⟩ := X
  intro α H locs ls ha hP hD hS hl
  exact lv_lstore_n hx hb hd hi hl hn (am_fm2 α i hl') (fun ls' hl2 => kk α H locs ls' ha hP hD hS hl2)
theorem ar_lstore (X : am_C K cc nL own nm R0) {i : Nat} {x : Int64} (hd : decode cc pc = .ok (.lstore i, 2)) (hn : i + 1 < nL) (hl' : (i, Value.long x) :: lo.filter (am_f2 i) = lo') (kk : AW K nL (pc + 2) lo' st sh P I J cells slots) : AW K nL pc lo (.long x :: st) sh P I J cells slots := by
  obtain ⟨p, l, e, R, s, m, args, below, meth, c, Q, dC, dI, cA, A, α0, N0⟩ := K
  obtain ⟨hx, hb, hml, hown, hlk, hnm, hR0, hT, hK, hA, hZ⟩ := X
  intro α H locs ls ha hP hD hS hl
  exact lv_lstore hx hb hd hl hn (am_fm2 α i hl') (fun ls' hl2 => kk α H locs ls' ha hP hD hS hl2)
theorem ar_aload_n (X : am_C K cc nL own nm R0) {k : Fin 4} {i : Nat} {x : Nat} (hd : decode cc pc = .ok (.aload_n k, 1)) (hi : (k : Nat) = i) (j : Nat) (hj : lo[j]? = some (i, .ref x)) (kk : AW K nL (pc + 1) lo (.ref x :: st) sh P I J cells slots) : AW K nL pc lo st sh P I J cells slots := by
  obtain ⟨p, l, e, R, s, m, args, below, meth, c, Q, dC, dI, cA, A, α0, N0⟩ := K
  obtain ⟨hx, hb, hml, hown, hlk, hnm, hR0, hT, hK, hA, hZ⟩ := X
  intro α H locs ls ha hP hD hS hl
  exact lv_aload_n hx hb hd hi (am_at hl j hj) (kk α H locs ls ha hP hD hS hl)
theorem ar_aload (X : am_C K cc nL own nm R0) {i : Nat} {x : Nat} (hd : decode cc pc = .ok (.aload i, 2)) (j : Nat) (hj : lo[j]? = some (i, .ref x)) (kk : AW K nL (pc + 2) lo (.ref x :: st) sh P I J cells slots) : AW K nL pc lo st sh P I J cells slots := by
  obtain ⟨p, l, e, R, s, m, args, below, meth, c, Q, dC, dI, cA, A, α0, N0⟩ := K
  obtain ⟨hx, hb, hml, hown, hlk, hnm, hR0, hT, hK, hA, hZ⟩ := X
  intro α H locs ls ha hP hD hS hl
  exact lv_aload hx hb hd (am_at hl j hj) (kk α H locs ls ha hP hD hS hl)
theorem ar_astore_n (X : am_C K cc nL own nm R0) {k : Fin 4} {i : Nat} {x : Nat} (hd : decode cc pc = .ok (.astore_n k, 1)) (hi : (k : Nat) = i) (hn : i < nL) (hl' : (i, Value.ref x) :: lo.filter (am_f1 i) = lo') (kk : AW K nL (pc + 1) lo' st sh P I J cells slots) : AW K nL pc lo (.ref x :: st) sh P I J cells slots := by
  obtain ⟨p, l, e, R, s, m, args, below, meth, c, Q, dC, dI, cA, A, α0, N0⟩ := K
  obtain ⟨hx, hb, hml, hown, hlk, hnm, hR0, hT, hK, hA, hZ⟩ := X
  intro α H locs ls ha hP hD hS hl
  exact lv_astore_n hx hb hd hi hl hn (am_fm1 α i hl') (fun ls' hl2 => kk α H locs ls' ha hP hD hS hl2)
theorem ar_astore (X : am_C K cc nL own nm R0) {i : Nat} {x : Nat} (hd : decode cc pc = .ok (.astore i, 2)) (hn : i < nL) (hl' : (i, Value.ref x) :: lo.filter (am_f1 i) = lo') (kk : AW K nL (pc + 2) lo' st sh P I J cells slots) : AW K nL pc lo (.ref x :: st) sh P I J cells slots := by
  obtain ⟨p, l, e, R, s, m, args, below, meth, c, Q, dC, dI, cA, A, α0, N0⟩ := K
  obtain ⟨hx, hb, hml, hown, hlk, hnm, hR0, hT, hK, hA, hZ⟩ := X
  intro α H locs ls ha hP hD hS hl
  exact lv_astore hx hb hd hl hn (am_fm1 α i hl') (fun ls' hl2 => kk α H locs ls' ha hP hD hS hl2)
theorem ar_iinc (X : am_C K cc nL own nm R0) {i j : Nat} {n : Int} {x v : Int32} (hd : decode cc pc = .ok (.iinc i n, 3)) (hj : lo[j]? = some (i, .int x)) (hv : x + Int32.ofInt n = v) (hn : i < nL) (hl' : (i, Value.int v) :: lo.filter (am_f1 i) = lo') (kk : AW K nL (pc + 3) lo' st sh P I J cells slots) : AW K nL pc lo st sh P I J cells slots := by
  obtain ⟨p, l, e, R, s, m, args, below, meth, c, Q, dC, dI, cA, A, α0, N0⟩ := K
  obtain ⟨hx, hb, hml, hown, hlk, hnm, hR0, hT, hK, hA, hZ⟩ := X
  intro α H locs ls ha hP hD hS hl
  exact lv_iinc (k := j) hx hb hd hl (by rw [List.getElem?_map, hj]; rfl) hv hn (am_fm1 α i hl') (fun ls' hl2 => kk α H locs ls' ha hP hD hS hl2)
theorem am_pick (α : Nat → Nat) (lo : List (Nat × Value)) (ks : List Nat) : lv_pick (lo.map (fun q => (q.1, am_v α q.2))) ks = (lv_pick lo ks).map (fun q => (q.1, am_v α q.2)) := by
  induction ks with
  | nil => rfl
  | cons a t ih =>
    simp only [lv_pick, List.filterMap_cons, List.getElem?_map] at ih ⊢
    cases lo[a]? with
    | none => simpa using ih
    | some q => simpa using ih
theorem ar_lo (ks : List Nat) (hk : lv_pick lo ks = lo') (kk : AW K nL pc lo' st sh P I J cells slots) : AW K nL pc lo st sh P I J cells slots := by
  obtain ⟨p, l, e, R, s, m, args, below, meth, c, Q, dC, dI, cA, A, α0, N0⟩ := K
  intro α H locs ls ha hP hD hS hl
  exact kk α H locs ls ha hP hD hS (lv_sub hl ks (by rw [am_pick, hk]))
theorem ar_iconst (X : am_C K cc nL own nm R0) {n : Int} {v : Int32} (hd : decode cc pc = .ok (.iconst n, 1)) (hv : Int32.ofInt n = v) (kk : AW K nL (pc + 1) lo (.int v :: st) sh P I J cells slots) : AW K nL pc lo st sh P I J cells slots := by
  obtain ⟨p, l, e, R, s, m, args, below, meth, c, Q, dC, dI, cA, A, α0, N0⟩ := K
  obtain ⟨hx, hb, hml, hown, hlk, hnm, hR0, hT, hK, hA, hZ⟩ := X
  intro α H locs ls ha hP hD hS hl
  exact lv_iconst hx hb hd hv (kk α H locs ls ha hP hD hS hl)
theorem ar_bipush (X : am_C K cc nL own nm R0) {n : Int} {v : Int32} (hd : decode cc pc = .ok (.bipush n, 2)) (hv : (Int8.ofInt n).toInt32 = v) (kk : AW K nL (pc + 2) lo (.int v :: st) sh P I J cells slots) : AW K nL pc lo st sh P I J cells slots := by
  obtain ⟨p, l, e, R, s, m, args, below, meth, c, Q, dC, dI, cA, A, α0, N0⟩ := K
  obtain ⟨hx, hb, hml, hown, hlk, hnm, hR0, hT, hK, hA, hZ⟩ := X
  intro α H locs ls ha hP hD hS hl
  exact lv_bipush hx hb hd hv (kk α H locs ls ha hP hD hS hl)
theorem ar_sipush (X : am_C K cc nL own nm R0) {n : Int} {v : Int32} (hd : decode cc pc = .ok (.sipush n, 3)) (hv : (Int16.ofInt n).toInt32 = v) (kk : AW K nL (pc + 3) lo (.int v :: st) sh P I J cells slots) : AW K nL pc lo st sh P I J cells slots := by
  obtain ⟨p, l, e, R, s, m, args, below, meth, c, Q, dC, dI, cA, A, α0, N0⟩ := K
  obtain ⟨hx, hb, hml, hown, hlk, hnm, hR0, hT, hK, hA, hZ⟩ := X
  intro α H locs ls ha hP hD hS hl
  exact lv_sipush hx hb hd hv (kk α H locs ls ha hP hD hS hl)
theorem ar_lconst (X : am_C K cc nL own nm R0) {n : Fin 2} {v : Int64} (hd : decode cc pc = .ok (.lconst n, 1)) (hv : Int64.ofNat (n : Nat) = v) (kk : AW K nL (pc + 1) lo (.long v :: st) sh P I J cells slots) : AW K nL pc lo st sh P I J cells slots := by
  obtain ⟨p, l, e, R, s, m, args, below, meth, c, Q, dC, dI, cA, A, α0, N0⟩ := K
  obtain ⟨hx, hb, hml, hown, hlk, hnm, hR0, hT, hK, hA, hZ⟩ := X
  intro α H locs ls ha hP hD hS hl
  exact lv_lconst hx hb hd hv (kk α H locs ls ha hP hD hS hl)
theorem ar_ldc (X : am_C K cc nL own nm R0) {i : Nat} {v : Int32} (hd : decode cc pc = .ok (.ldc i, 2)) (hw : Cond.constant own i v ∈ lw_tbl) (kk : AW K nL (pc + 2) lo (.int v :: st) sh P I J cells slots) : AW K nL pc lo st sh P I J cells slots := by
  obtain ⟨p, l, e, R, s, m, args, below, meth, c, Q, dC, dI, cA, A, α0, N0⟩ := K
  obtain ⟨hx, hb, hml, hown, hlk, hnm, hR0, hT, hK, hA, hZ⟩ := X
  intro α H locs ls ha hP hD hS hl
  exact lv_ldc hx hb hown (hT _ hw rfl args) hd (kk α H locs ls ha hP hD hS hl)
theorem ar_ldcw (X : am_C K cc nL own nm R0) {i : Nat} {v : Int32} (hd : decode cc pc = .ok (.ldc_w i, 3)) (hw : Cond.constant own i v ∈ lw_tbl) (kk : AW K nL (pc + 3) lo (.int v :: st) sh P I J cells slots) : AW K nL pc lo st sh P I J cells slots := by
  obtain ⟨p, l, e, R, s, m, args, below, meth, c, Q, dC, dI, cA, A, α0, N0⟩ := K
  obtain ⟨hx, hb, hml, hown, hlk, hnm, hR0, hT, hK, hA, hZ⟩ := X
  intro α H locs ls ha hP hD hS hl
  exact lv_ldcw hx hb hown (hT _ hw rfl args) hd (kk α H locs ls ha hP hD hS hl)
theorem ar_ldc2 (X : am_C K cc nL own nm R0) {i : Nat} {v : Int64} (hd : decode cc pc = .ok (.ldc2_w i, 3)) (hw : Cond.constantLong own i v ∈ lw_tbl) (kk : AW K nL (pc + 3) lo (.long v :: st) sh P I J cells slots) : AW K nL pc lo st sh P I J cells slots := by
  obtain ⟨p, l, e, R, s, m, args, below, meth, c, Q, dC, dI, cA, A, α0, N0⟩ := K
  obtain ⟨hx, hb, hml, hown, hlk, hnm, hR0, hT, hK, hA, hZ⟩ := X
  intro α H locs ls ha hP hD hS hl
  exact lv_ldc2 hx hb hown (hT _ hw rfl args) hd (kk α H locs ls ha hP hD hS hl)
def am_rem (x y : Int32) : Int32 := x - x / y * y
def am_shl (x y : Int32) : Int32 := x <<< (y &&& 31)
def am_shr (x y : Int32) : Int32 := x >>> (y &&& 31)
def am_ushr (x y : Int32) : Int32 := (x.toUInt32 >>> (y.toUInt32 &&& Int32.toUInt32 31)).toInt32
def am_lshl (x : Int64) (y : Int32) : Int64 := x <<< (y.toInt64 &&& 63)
def am_lshr (x : Int64) (y : Int32) : Int64 := x >>> (y.toInt64 &&& 63)
def am_lushr (x : Int64) (y : Int32) : Int64 := (x.toUInt64 >>> (y.toInt64.toUInt64 &&& Int64.toUInt64 63)).toInt64
def am_i2c (x : Int32) : Int32 := (x.toUInt32 % 65536).toInt32
theorem ar_iadd (X : am_C K cc nL own nm R0) {x y : Int32} (hd : decode cc pc = .ok (.iadd, 1)) (kk : AW K nL (pc + 1) lo (.int (x + y) :: st) sh P I J cells slots) : AW K nL pc lo (.int y :: .int x :: st) sh P I J cells slots := by
  obtain ⟨p, l, e, R, s, m, args, below, meth, c, Q, dC, dI, cA, A, α0, N0⟩ := K
  obtain ⟨hx, hb, hml, hown, hlk, hnm, hR0, hT, hK, hA, hZ⟩ := X
  intro α H locs ls ha hP hD hS hl
  exact lv_iadd hx hb hd (kk α H locs ls ha hP hD hS hl)
theorem ar_isub (X : am_C K cc nL own nm R0) {x y : Int32} (hd : decode cc pc = .ok (.isub, 1)) (kk : AW K nL (pc + 1) lo (.int (x - y) :: st) sh P I J cells slots) : AW K nL pc lo (.int y :: .int x :: st) sh P I J cells slots := by
  obtain ⟨p, l, e, R, s, m, args, below, meth, c, Q, dC, dI, cA, A, α0, N0⟩ := K
  obtain ⟨hx, hb, hml, hown, hlk, hnm, hR0, hT, hK, hA, hZ⟩ := X
  intro α H locs ls ha hP hD hS hl
  exact lv_isub hx hb hd (kk α H locs ls ha hP hD hS hl)
theorem ar_imul (X : am_C K cc nL own nm R0) {x y : Int32} (hd : decode cc pc = .ok (.imul, 1)) (kk : AW K nL (pc + 1) lo (.int (x * y) :: st) sh P I J cells slots) : AW K nL pc lo (.int y :: .int x :: st) sh P I J cells slots := by
  obtain ⟨p, l, e, R, s, m, args, below, meth, c, Q, dC, dI, cA, A, α0, N0⟩ := K
  obtain ⟨hx, hb, hml, hown, hlk, hnm, hR0, hT, hK, hA, hZ⟩ := X
  intro α H locs ls ha hP hD hS hl
  exact lv_imul hx hb hd (kk α H locs ls ha hP hD hS hl)
theorem ar_iand (X : am_C K cc nL own nm R0) {x y : Int32} (hd : decode cc pc = .ok (.iand, 1)) (kk : AW K nL (pc + 1) lo (.int (x &&& y) :: st) sh P I J cells slots) : AW K nL pc lo (.int y :: .int x :: st) sh P I J cells slots := by
  obtain ⟨p, l, e, R, s, m, args, below, meth, c, Q, dC, dI, cA, A, α0, N0⟩ := K
  obtain ⟨hx, hb, hml, hown, hlk, hnm, hR0, hT, hK, hA, hZ⟩ := X
  intro α H locs ls ha hP hD hS hl
  exact lv_iand hx hb hd (kk α H locs ls ha hP hD hS hl)
theorem ar_ior (X : am_C K cc nL own nm R0) {x y : Int32} (hd : decode cc pc = .ok (.ior, 1)) (kk : AW K nL (pc + 1) lo (.int (x ||| y) :: st) sh P I J cells slots) : AW K nL pc lo (.int y :: .int x :: st) sh P I J cells slots := by
  obtain ⟨p, l, e, R, s, m, args, below, meth, c, Q, dC, dI, cA, A, α0, N0⟩ := K
  obtain ⟨hx, hb, hml, hown, hlk, hnm, hR0, hT, hK, hA, hZ⟩ := X
  intro α H locs ls ha hP hD hS hl
  exact lv_ior hx hb hd (kk α H locs ls ha hP hD hS hl)
theorem ar_ishl (X : am_C K cc nL own nm R0) {x y : Int32} (hd : decode cc pc = .ok (.ishl, 1)) (kk : AW K nL (pc + 1) lo (.int (am_shl x y) :: st) sh P I J cells slots) : AW K nL pc lo (.int y :: .int x :: st) sh P I J cells slots := by
  obtain ⟨p, l, e, R, s, m, args, below, meth, c, Q, dC, dI, cA, A, α0, N0⟩ := K
  obtain ⟨hx, hb, hml, hown, hlk, hnm, hR0, hT, hK, hA, hZ⟩ := X
  intro α H locs ls ha hP hD hS hl
  exact lv_ishl hx hb hd (kk α H locs ls ha hP hD hS hl)
theorem ar_ishr (X : am_C K cc nL own nm R0) {x y : Int32} (hd : decode cc pc = .ok (.ishr, 1)) (kk : AW K nL (pc + 1) lo (.int (am_shr x y) :: st) sh P I J cells slots) : AW K nL pc lo (.int y :: .int x :: st) sh P I J cells slots := by
  obtain ⟨p, l, e, R, s, m, args, below, meth, c, Q, dC, dI, cA, A, α0, N0⟩ := K
  obtain ⟨hx, hb, hml, hown, hlk, hnm, hR0, hT, hK, hA, hZ⟩ := X
  intro α H locs ls ha hP hD hS hl
  exact lv_ishr hx hb hd (kk α H locs ls ha hP hD hS hl)
theorem ar_iushr (X : am_C K cc nL own nm R0) {x y : Int32} (hd : decode cc pc = .ok (.iushr, 1)) (kk : AW K nL (pc + 1) lo (.int (am_ushr x y) :: st) sh P I J cells slots) : AW K nL pc lo (.int y :: .int x :: st) sh P I J cells slots := by
  obtain ⟨p, l, e, R, s, m, args, below, meth, c, Q, dC, dI, cA, A, α0, N0⟩ := K
  obtain ⟨hx, hb, hml, hown, hlk, hnm, hR0, hT, hK, hA, hZ⟩ := X
  intro α H locs ls ha hP hD hS hl
  exact lv_iushr hx hb hd rfl (kk α H locs ls ha hP hD hS hl)
theorem ar_idiv (X : am_C K cc nL own nm R0) {x y : Int32} (hd : decode cc pc = .ok (.idiv, 1)) (hne : decide (¬ y = 0) = true) (kk : AW K nL (pc + 1) lo (.int (x / y) :: st) sh P I J cells slots) : AW K nL pc lo (.int y :: .int x :: st) sh P I J cells slots := by
  obtain ⟨p, l, e, R, s, m, args, below, meth, c, Q, dC, dI, cA, A, α0, N0⟩ := K
  obtain ⟨hx, hb, hml, hown, hlk, hnm, hR0, hT, hK, hA, hZ⟩ := X
  intro α H locs ls ha hP hD hS hl
  exact lv_idiv hx hb hd (of_decide_eq_true hne) (kk α H locs ls ha hP hD hS hl)
theorem ar_irem (X : am_C K cc nL own nm R0) {x y : Int32} (hd : decode cc pc = .ok (.irem, 1)) (hne : decide (¬ y = 0) = true) (kk : AW K nL (pc + 1) lo (.int (am_rem x y) :: st) sh P I J cells slots) : AW K nL pc lo (.int y :: .int x :: st) sh P I J cells slots := by
  obtain ⟨p, l, e, R, s, m, args, below, meth, c, Q, dC, dI, cA, A, α0, N0⟩ := K
  obtain ⟨hx, hb, hml, hown, hlk, hnm, hR0, hT, hK, hA, hZ⟩ := X
  intro α H locs ls ha hP hD hS hl
  exact lv_irem hx hb hd (of_decide_eq_true hne) (kk α H locs ls ha hP hD hS hl)
theorem ar_ldiv (X : am_C K cc nL own nm R0) {x y : Int64} (hd : decode cc pc = .ok (.ldiv, 1)) (hne : decide (¬ y = 0) = true) (kk : AW K nL (pc + 1) lo (.long (x / y) :: st) sh P I J cells slots) : AW K nL pc lo (.long y :: .long x :: st) sh P I J cells slots := by
  obtain ⟨p, l, e, R, s, m, args, below, meth, c, Q, dC, dI, cA, A, α0, N0⟩ := K
  obtain ⟨hx, hb, hml, hown, hlk, hnm, hR0, hT, hK, hA, hZ⟩ := X
  intro α H locs ls ha hP hD hS hl
  exact lv_ldiv hx hb hd (of_decide_eq_true hne) (kk α H locs ls ha hP hD hS hl)
theorem ar_ladd (X : am_C K cc nL own nm R0) {x y : Int64} (hd : decode cc pc = .ok (.ladd, 1)) (kk : AW K nL (pc + 1) lo (.long (x + y) :: st) sh P I J cells slots) : AW K nL pc lo (.long y :: .long x :: st) sh P I J cells slots := by
  obtain ⟨p, l, e, R, s, m, args, below, meth, c, Q, dC, dI, cA, A, α0, N0⟩ := K
  obtain ⟨hx, hb, hml, hown, hlk, hnm, hR0, hT, hK, hA, hZ⟩ := X
  intro α H locs ls ha hP hD hS hl
  exact lv_ladd hx hb hd (kk α H locs ls ha hP hD hS hl)
theorem ar_lsub (X : am_C K cc nL own nm R0) {x y : Int64} (hd : decode cc pc = .ok (.lsub, 1)) (kk : AW K nL (pc + 1) lo (.long (x - y) :: st) sh P I J cells slots) : AW K nL pc lo (.long y :: .long x :: st) sh P I J cells slots := by
  obtain ⟨p, l, e, R, s, m, args, below, meth, c, Q, dC, dI, cA, A, α0, N0⟩ := K
  obtain ⟨hx, hb, hml, hown, hlk, hnm, hR0, hT, hK, hA, hZ⟩ := X
  intro α H locs ls ha hP hD hS hl
  exact lv_lsub hx hb hd (kk α H locs ls ha hP hD hS hl)
theorem ar_lmul (X : am_C K cc nL own nm R0) {x y : Int64} (hd : decode cc pc = .ok (.lmul, 1)) (kk : AW K nL (pc + 1) lo (.long (x * y) :: st) sh P I J cells slots) : AW K nL pc lo (.long y :: .long x :: st) sh P I J cells slots := by
  obtain ⟨p, l, e, R, s, m, args, below, meth, c, Q, dC, dI, cA, A, α0, N0⟩ := K
  obtain ⟨hx, hb, hml, hown, hlk, hnm, hR0, hT, hK, hA, hZ⟩ := X
  intro α H locs ls ha hP hD hS hl
  exact lv_lmul hx hb hd (kk α H locs ls ha hP hD hS hl)
theorem ar_land (X : am_C K cc nL own nm R0) {x y : Int64} (hd : decode cc pc = .ok (.land, 1)) (kk : AW K nL (pc + 1) lo (.long (x &&& y) :: st) sh P I J cells slots) : AW K nL pc lo (.long y :: .long x :: st) sh P I J cells slots := by
  obtain ⟨p, l, e, R, s, m, args, below, meth, c, Q, dC, dI, cA, A, α0, N0⟩ := K
  obtain ⟨hx, hb, hml, hown, hlk, hnm, hR0, hT, hK, hA, hZ⟩ := X
  intro α H locs ls ha hP hD hS hl
  exact lv_land hx hb hd (kk α H locs ls ha hP hD hS hl)
theorem ar_lor (X : am_C K cc nL own nm R0) {x y : Int64} (hd : decode cc pc = .ok (.lor, 1)) (kk : AW K nL (pc + 1) lo (.long (x ||| y) :: st) sh P I J cells slots) : AW K nL pc lo (.long y :: .long x :: st) sh P I J cells slots := by
  obtain ⟨p, l, e, R, s, m, args, below, meth, c, Q, dC, dI, cA, A, α0, N0⟩ := K
  obtain ⟨hx, hb, hml, hown, hlk, hnm, hR0, hT, hK, hA, hZ⟩ := X
  intro α H locs ls ha hP hD hS hl
  exact lv_lor hx hb hd (kk α H locs ls ha hP hD hS hl)
theorem ar_lshl (X : am_C K cc nL own nm R0) {x : Int64} {y : Int32} (hd : decode cc pc = .ok (.lshl, 1)) (kk : AW K nL (pc + 1) lo (.long (am_lshl x y) :: st) sh P I J cells slots) : AW K nL pc lo (.int y :: .long x :: st) sh P I J cells slots := by
  obtain ⟨p, l, e, R, s, m, args, below, meth, c, Q, dC, dI, cA, A, α0, N0⟩ := K
  obtain ⟨hx, hb, hml, hown, hlk, hnm, hR0, hT, hK, hA, hZ⟩ := X
  intro α H locs ls ha hP hD hS hl
  exact lv_lshl hx hb hd rfl (kk α H locs ls ha hP hD hS hl)
theorem ar_lshr (X : am_C K cc nL own nm R0) {x : Int64} {y : Int32} (hd : decode cc pc = .ok (.lshr, 1)) (kk : AW K nL (pc + 1) lo (.long (am_lshr x y) :: st) sh P I J cells slots) : AW K nL pc lo (.int y :: .long x :: st) sh P I J cells slots := by
  obtain ⟨p, l, e, R, s, m, args, below, meth, c, Q, dC, dI, cA, A, α0, N0⟩ := K
  obtain ⟨hx, hb, hml, hown, hlk, hnm, hR0, hT, hK, hA, hZ⟩ := X
  intro α H locs ls ha hP hD hS hl
  exact lv_lshr hx hb hd rfl (kk α H locs ls ha hP hD hS hl)
theorem ar_lushr (X : am_C K cc nL own nm R0) {x : Int64} {y : Int32} (hd : decode cc pc = .ok (.lushr, 1)) (kk : AW K nL (pc + 1) lo (.long (am_lushr x y) :: st) sh P I J cells slots) : AW K nL pc lo (.int y :: .long x :: st) sh P I J cells slots := by
  obtain ⟨p, l, e, R, s, m, args, below, meth, c, Q, dC, dI, cA, A, α0, N0⟩ := K
  obtain ⟨hx, hb, hml, hown, hlk, hnm, hR0, hT, hK, hA, hZ⟩ := X
  intro α H locs ls ha hP hD hS hl
  exact lv_lushr hx hb hd rfl (kk α H locs ls ha hP hD hS hl)
theorem ar_lcmp (X : am_C K cc nL own nm R0) {x y : Int64} (hd : decode cc pc = .ok (.lcmp, 1)) (kk : AW K nL (pc + 1) lo (.int (lg_cmp x y) :: st) sh P I J cells slots) : AW K nL pc lo (.long y :: .long x :: st) sh P I J cells slots := by
  obtain ⟨p, l, e, R, s, m, args, below, meth, c, Q, dC, dI, cA, A, α0, N0⟩ := K
  obtain ⟨hx, hb, hml, hown, hlk, hnm, hR0, hT, hK, hA, hZ⟩ := X
  intro α H locs ls ha hP hD hS hl
  exact W.lcmp hx hb hd (kk α H locs ls ha hP hD hS hl)
theorem ar_i2l (X : am_C K cc nL own nm R0) {x : Int32} (hd : decode cc pc = .ok (.i2l, 1)) (kk : AW K nL (pc + 1) lo (.long x.toInt64 :: st) sh P I J cells slots) : AW K nL pc lo (.int x :: st) sh P I J cells slots := by
  obtain ⟨p, l, e, R, s, m, args, below, meth, c, Q, dC, dI, cA, A, α0, N0⟩ := K
  obtain ⟨hx, hb, hml, hown, hlk, hnm, hR0, hT, hK, hA, hZ⟩ := X
  intro α H locs ls ha hP hD hS hl
  exact lv_i2l hx hb hd rfl (kk α H locs ls ha hP hD hS hl)
theorem ar_l2i (X : am_C K cc nL own nm R0) {x : Int64} (hd : decode cc pc = .ok (.l2i, 1)) (kk : AW K nL (pc + 1) lo (.int x.toInt32 :: st) sh P I J cells slots) : AW K nL pc lo (.long x :: st) sh P I J cells slots := by
  obtain ⟨p, l, e, R, s, m, args, below, meth, c, Q, dC, dI, cA, A, α0, N0⟩ := K
  obtain ⟨hx, hb, hml, hown, hlk, hnm, hR0, hT, hK, hA, hZ⟩ := X
  intro α H locs ls ha hP hD hS hl
  exact lv_l2i hx hb hd rfl (kk α H locs ls ha hP hD hS hl)
theorem ar_i2c (X : am_C K cc nL own nm R0) {x : Int32} (hd : decode cc pc = .ok (.i2c, 1)) (kk : AW K nL (pc + 1) lo (.int (am_i2c x) :: st) sh P I J cells slots) : AW K nL pc lo (.int x :: st) sh P I J cells slots := by
  obtain ⟨p, l, e, R, s, m, args, below, meth, c, Q, dC, dI, cA, A, α0, N0⟩ := K
  obtain ⟨hx, hb, hml, hown, hlk, hnm, hR0, hT, hK, hA, hZ⟩ := X
  intro α H locs ls ha hP hD hS hl
  exact lv_i2c hx hb hd rfl (kk α H locs ls ha hP hD hS hl)
theorem ar_dup (X : am_C K cc nL own nm R0) {v : Value} (hd : decode cc pc = .ok (.dup, 1)) (hc : v.category = 1) (kk : AW K nL (pc + 1) lo (v :: v :: st) sh P I J cells slots) : AW K nL pc lo (v :: st) sh P I J cells slots := by
  obtain ⟨p, l, e, R, s, m, args, below, meth, c, Q, dC, dI, cA, A, α0, N0⟩ := K
  obtain ⟨hx, hb, hml, hown, hlk, hnm, hR0, hT, hK, hA, hZ⟩ := X
  intro α H locs ls ha hP hD hS hl
  exact lv_dup hx hb hd ((am_cat α v).trans hc) (kk α H locs ls ha hP hD hS hl)
theorem ar_pop (X : am_C K cc nL own nm R0) {v : Value} (hd : decode cc pc = .ok (.pop, 1)) (hc : v.category = 1) (kk : AW K nL (pc + 1) lo st sh P I J cells slots) : AW K nL pc lo (v :: st) sh P I J cells slots := by
  obtain ⟨p, l, e, R, s, m, args, below, meth, c, Q, dC, dI, cA, A, α0, N0⟩ := K
  obtain ⟨hx, hb, hml, hown, hlk, hnm, hR0, hT, hK, hA, hZ⟩ := X
  intro α H locs ls ha hP hD hS hl
  exact lv_pop hx hb hd ((am_cat α v).trans hc) (kk α H locs ls ha hP hD hS hl)
theorem ar_dup2 (X : am_C K cc nL own nm R0) {v w : Value} (hd : decode cc pc = .ok (.dup2, 1)) (hv : v.category = 1) (hw : w.category = 1) (kk : AW K nL (pc + 1) lo (v :: w :: v :: w :: st) sh P I J cells slots) : AW K nL pc lo (v :: w :: st) sh P I J cells slots := by
  obtain ⟨p, l, e, R, s, m, args, below, meth, c, Q, dC, dI, cA, A, α0, N0⟩ := K
  obtain ⟨hx, hb, hml, hown, hlk, hnm, hR0, hT, hK, hA, hZ⟩ := X
  intro α H locs ls ha hP hD hS hl
  exact lv_dup2_11 hx hb hd ((am_cat α v).trans hv) ((am_cat α w).trans hw) (kk α H locs ls ha hP hD hS hl)
theorem ar_goto (X : am_C K cc nL own nm R0) {off : Int} {tgt : Nat} (hd : decode cc pc = .ok (.goto off, 3)) (ht : (pc : Int) + off = (tgt : Int)) (kk : AW K nL tgt lo st sh P I J cells slots) : AW K nL pc lo st sh P I J cells slots := by
  obtain ⟨p, l, e, R, s, m, args, below, meth, c, Q, dC, dI, cA, A, α0, N0⟩ := K
  obtain ⟨hx, hb, hml, hown, hlk, hnm, hR0, hT, hK, hA, hZ⟩ := X
  intro α H locs ls ha hP hD hS hl
  exact lv_goto hx hb hd ht (kk α H locs ls ha hP hD hS hl)
theorem ar_icmp_eq (X : am_C K cc nL own nm R0) {x y : Int32} {off : Int} {tgt : Nat} {T F : Option β} (hd : decode cc pc = .ok (.if_icmp .eq off, 3)) (ht : (pc : Int) + off = (tgt : Int)) (hf : (if x = y then T else F) = some Rs) (kt : x = y → T = some Rs → AW K nL tgt lo st sh P I J cells slots) (kf : ¬ x = y → F = some Rs → AW K nL (pc + 3) lo st sh P I J cells slots) : AW K nL pc lo (.int y :: .int x :: st) sh P I J cells slots := by
  obtain ⟨p, l, e, R, s, m, args, below, meth, c, Q, dC, dI, cA, A, α0, N0⟩ := K
  obtain ⟨hx, hb, hml, hown, hlk, hnm, hR0, hT, hK, hA, hZ⟩ := X
  intro α H locs ls ha hP hD hS hl
  exact lv_icmp_eq hx hb hd ht (fun h => kt h (by rw [if_pos h] at hf; exact hf) α H locs ls ha hP hD hS hl) (fun h => kf h (by rw [if_neg h] at hf; exact hf) α H locs ls ha hP hD hS hl)
theorem ar_icmp_ne (X : am_C K cc nL own nm R0) {x y : Int32} {off : Int} {tgt : Nat} {T F : Option β} (hd : decode cc pc = .ok (.if_icmp .ne off, 3)) (ht : (pc : Int) + off = (tgt : Int)) (hf : (if x = y then T else F) = some Rs) (kt : x = y → T = some Rs → AW K nL (pc + 3) lo st sh P I J cells slots) (kf : ¬ x = y → F = some Rs → AW K nL tgt lo st sh P I J cells slots) : AW K nL pc lo (.int y :: .int x :: st) sh P I J cells slots := by
  obtain ⟨p, l, e, R, s, m, args, below, meth, c, Q, dC, dI, cA, A, α0, N0⟩ := K
  obtain ⟨hx, hb, hml, hown, hlk, hnm, hR0, hT, hK, hA, hZ⟩ := X
  intro α H locs ls ha hP hD hS hl
  exact lv_icmp_ne hx hb hd ht (fun h => kf h (by rw [if_neg h] at hf; exact hf) α H locs ls ha hP hD hS hl) (fun h => kt h (by rw [if_pos h] at hf; exact hf) α H locs ls ha hP hD hS hl)
theorem ar_icmp_lt (X : am_C K cc nL own nm R0) {x y : Int32} {off : Int} {tgt : Nat} {T F : Option β} (hd : decode cc pc = .ok (.if_icmp .lt off, 3)) (ht : (pc : Int) + off = (tgt : Int)) (hf : (if x < y then T else F) = some Rs) (kt : x < y → T = some Rs → AW K nL tgt lo st sh P I J cells slots) (kf : ¬ x < y → F = some Rs → AW K nL (pc + 3) lo st sh P I J cells slots) : AW K nL pc lo (.int y :: .int x :: st) sh P I J cells slots := by
  obtain ⟨p, l, e, R, s, m, args, below, meth, c, Q, dC, dI, cA, A, α0, N0⟩ := K
  obtain ⟨hx, hb, hml, hown, hlk, hnm, hR0, hT, hK, hA, hZ⟩ := X
  intro α H locs ls ha hP hD hS hl
  exact lv_icmp_lt hx hb hd ht (fun h => kt h (by rw [if_pos h] at hf; exact hf) α H locs ls ha hP hD hS hl) (fun h => kf h (by rw [if_neg h] at hf; exact hf) α H locs ls ha hP hD hS hl)
theorem ar_icmp_ge (X : am_C K cc nL own nm R0) {x y : Int32} {off : Int} {tgt : Nat} {T F : Option β} (hd : decode cc pc = .ok (.if_icmp .ge off, 3)) (ht : (pc : Int) + off = (tgt : Int)) (hf : (if y ≤ x then T else F) = some Rs) (kt : y ≤ x → T = some Rs → AW K nL tgt lo st sh P I J cells slots) (kf : ¬ y ≤ x → F = some Rs → AW K nL (pc + 3) lo st sh P I J cells slots) : AW K nL pc lo (.int y :: .int x :: st) sh P I J cells slots := by
  obtain ⟨p, l, e, R, s, m, args, below, meth, c, Q, dC, dI, cA, A, α0, N0⟩ := K
  obtain ⟨hx, hb, hml, hown, hlk, hnm, hR0, hT, hK, hA, hZ⟩ := X
  intro α H locs ls ha hP hD hS hl
  exact lv_icmp_ge hx hb hd ht (fun h => kt h (by rw [if_pos h] at hf; exact hf) α H locs ls ha hP hD hS hl) (fun h => kf h (by rw [if_neg h] at hf; exact hf) α H locs ls ha hP hD hS hl)
theorem ar_icmp_gt (X : am_C K cc nL own nm R0) {x y : Int32} {off : Int} {tgt : Nat} {T F : Option β} (hd : decode cc pc = .ok (.if_icmp .gt off, 3)) (ht : (pc : Int) + off = (tgt : Int)) (hf : (if y < x then T else F) = some Rs) (kt : y < x → T = some Rs → AW K nL tgt lo st sh P I J cells slots) (kf : ¬ y < x → F = some Rs → AW K nL (pc + 3) lo st sh P I J cells slots) : AW K nL pc lo (.int y :: .int x :: st) sh P I J cells slots := by
  obtain ⟨p, l, e, R, s, m, args, below, meth, c, Q, dC, dI, cA, A, α0, N0⟩ := K
  obtain ⟨hx, hb, hml, hown, hlk, hnm, hR0, hT, hK, hA, hZ⟩ := X
  intro α H locs ls ha hP hD hS hl
  exact lv_icmp_gt hx hb hd ht (fun h => kt h (by rw [if_pos h] at hf; exact hf) α H locs ls ha hP hD hS hl) (fun h => kf h (by rw [if_neg h] at hf; exact hf) α H locs ls ha hP hD hS hl)
theorem ar_icmp_le (X : am_C K cc nL own nm R0) {x y : Int32} {off : Int} {tgt : Nat} {T F : Option β} (hd : decode cc pc = .ok (.if_icmp .le off, 3)) (ht : (pc : Int) + off = (tgt : Int)) (hf : (if x ≤ y then T else F) = some Rs) (kt : x ≤ y → T = some Rs → AW K nL tgt lo st sh P I J cells slots) (kf : ¬ x ≤ y → F = some Rs → AW K nL (pc + 3) lo st sh P I J cells slots) : AW K nL pc lo (.int y :: .int x :: st) sh P I J cells slots := by
  obtain ⟨p, l, e, R, s, m, args, below, meth, c, Q, dC, dI, cA, A, α0, N0⟩ := K
  obtain ⟨hx, hb, hml, hown, hlk, hnm, hR0, hT, hK, hA, hZ⟩ := X
  intro α H locs ls ha hP hD hS hl
  exact lv_icmp_le hx hb hd ht (fun h => kt h (by rw [if_pos h] at hf; exact hf) α H locs ls ha hP hD hS hl) (fun h => kf h (by rw [if_neg h] at hf; exact hf) α H locs ls ha hP hD hS hl)
theorem ar_if_eq (X : am_C K cc nL own nm R0) {x : Int32} {off : Int} {tgt : Nat} {T F : Option β} (hd : decode cc pc = .ok (.ifCond .eq off, 3)) (ht : (pc : Int) + off = (tgt : Int)) (hf : (if x = 0 then T else F) = some Rs) (kt : x = 0 → T = some Rs → AW K nL tgt lo st sh P I J cells slots) (kf : ¬ x = 0 → F = some Rs → AW K nL (pc + 3) lo st sh P I J cells slots) : AW K nL pc lo (.int x :: st) sh P I J cells slots := by
  obtain ⟨p, l, e, R, s, m, args, below, meth, c, Q, dC, dI, cA, A, α0, N0⟩ := K
  obtain ⟨hx, hb, hml, hown, hlk, hnm, hR0, hT, hK, hA, hZ⟩ := X
  intro α H locs ls ha hP hD hS hl
  exact lv_if_eq hx hb hd ht (fun h => kt h (by rw [if_pos h] at hf; exact hf) α H locs ls ha hP hD hS hl) (fun h => kf h (by rw [if_neg h] at hf; exact hf) α H locs ls ha hP hD hS hl)
theorem ar_if_ne (X : am_C K cc nL own nm R0) {x : Int32} {off : Int} {tgt : Nat} {T F : Option β} (hd : decode cc pc = .ok (.ifCond .ne off, 3)) (ht : (pc : Int) + off = (tgt : Int)) (hf : (if x = 0 then T else F) = some Rs) (kt : x = 0 → T = some Rs → AW K nL (pc + 3) lo st sh P I J cells slots) (kf : ¬ x = 0 → F = some Rs → AW K nL tgt lo st sh P I J cells slots) : AW K nL pc lo (.int x :: st) sh P I J cells slots := by
  obtain ⟨p, l, e, R, s, m, args, below, meth, c, Q, dC, dI, cA, A, α0, N0⟩ := K
  obtain ⟨hx, hb, hml, hown, hlk, hnm, hR0, hT, hK, hA, hZ⟩ := X
  intro α H locs ls ha hP hD hS hl
  exact lv_if_ne hx hb hd ht (fun h => kf h (by rw [if_neg h] at hf; exact hf) α H locs ls ha hP hD hS hl) (fun h => kt h (by rw [if_pos h] at hf; exact hf) α H locs ls ha hP hD hS hl)
theorem ar_if_lt (X : am_C K cc nL own nm R0) {x : Int32} {off : Int} {tgt : Nat} {T F : Option β} (hd : decode cc pc = .ok (.ifCond .lt off, 3)) (ht : (pc : Int) + off = (tgt : Int)) (hf : (if x < 0 then T else F) = some Rs) (kt : x < 0 → T = some Rs → AW K nL tgt lo st sh P I J cells slots) (kf : ¬ x < 0 → F = some Rs → AW K nL (pc + 3) lo st sh P I J cells slots) : AW K nL pc lo (.int x :: st) sh P I J cells slots := by
  obtain ⟨p, l, e, R, s, m, args, below, meth, c, Q, dC, dI, cA, A, α0, N0⟩ := K
  obtain ⟨hx, hb, hml, hown, hlk, hnm, hR0, hT, hK, hA, hZ⟩ := X
  intro α H locs ls ha hP hD hS hl
  exact lv_if_lt hx hb hd ht (fun h => kt h (by rw [if_pos h] at hf; exact hf) α H locs ls ha hP hD hS hl) (fun h => kf h (by rw [if_neg h] at hf; exact hf) α H locs ls ha hP hD hS hl)
theorem ar_if_ge (X : am_C K cc nL own nm R0) {x : Int32} {off : Int} {tgt : Nat} {T F : Option β} (hd : decode cc pc = .ok (.ifCond .ge off, 3)) (ht : (pc : Int) + off = (tgt : Int)) (hf : (if 0 ≤ x then T else F) = some Rs) (kt : 0 ≤ x → T = some Rs → AW K nL tgt lo st sh P I J cells slots) (kf : ¬ 0 ≤ x → F = some Rs → AW K nL (pc + 3) lo st sh P I J cells slots) : AW K nL pc lo (.int x :: st) sh P I J cells slots := by
  obtain ⟨p, l, e, R, s, m, args, below, meth, c, Q, dC, dI, cA, A, α0, N0⟩ := K
  obtain ⟨hx, hb, hml, hown, hlk, hnm, hR0, hT, hK, hA, hZ⟩ := X
  intro α H locs ls ha hP hD hS hl
  exact lv_if_ge hx hb hd ht (fun h => kt h (by rw [if_pos h] at hf; exact hf) α H locs ls ha hP hD hS hl) (fun h => kf h (by rw [if_neg h] at hf; exact hf) α H locs ls ha hP hD hS hl)
theorem ar_if_gt (X : am_C K cc nL own nm R0) {x : Int32} {off : Int} {tgt : Nat} {T F : Option β} (hd : decode cc pc = .ok (.ifCond .gt off, 3)) (ht : (pc : Int) + off = (tgt : Int)) (hf : (if 0 < x then T else F) = some Rs) (kt : 0 < x → T = some Rs → AW K nL tgt lo st sh P I J cells slots) (kf : ¬ 0 < x → F = some Rs → AW K nL (pc + 3) lo st sh P I J cells slots) : AW K nL pc lo (.int x :: st) sh P I J cells slots := by
  obtain ⟨p, l, e, R, s, m, args, below, meth, c, Q, dC, dI, cA, A, α0, N0⟩ := K
  obtain ⟨hx, hb, hml, hown, hlk, hnm, hR0, hT, hK, hA, hZ⟩ := X
  intro α H locs ls ha hP hD hS hl
  exact lv_if_gt hx hb hd ht (fun h => kt h (by rw [if_pos h] at hf; exact hf) α H locs ls ha hP hD hS hl) (fun h => kf h (by rw [if_neg h] at hf; exact hf) α H locs ls ha hP hD hS hl)
theorem ar_if_le (X : am_C K cc nL own nm R0) {x : Int32} {off : Int} {tgt : Nat} {T F : Option β} (hd : decode cc pc = .ok (.ifCond .le off, 3)) (ht : (pc : Int) + off = (tgt : Int)) (hf : (if x ≤ 0 then T else F) = some Rs) (kt : x ≤ 0 → T = some Rs → AW K nL tgt lo st sh P I J cells slots) (kf : ¬ x ≤ 0 → F = some Rs → AW K nL (pc + 3) lo st sh P I J cells slots) : AW K nL pc lo (.int x :: st) sh P I J cells slots := by
  obtain ⟨p, l, e, R, s, m, args, below, meth, c, Q, dC, dI, cA, A, α0, N0⟩ := K
  obtain ⟨hx, hb, hml, hown, hlk, hnm, hR0, hT, hK, hA, hZ⟩ := X
  intro α H locs ls ha hP hD hS hl
  exact lv_if_le hx hb hd ht (fun h => kt h (by rw [if_pos h] at hf; exact hf) α H locs ls ha hP hD hS hl) (fun h => kf h (by rw [if_neg h] at hf; exact hf) α H locs ls ha hP hD hS hl)
theorem ar_lookup (X : am_C K cc nL own nm R0) {dflt : Int} {ps : Array (Int × Int)} {len : Nat} {x : Int32} {off : Int} {tgt : Nat} (hd : decode cc pc = .ok (.lookupswitch dflt ps, len)) (hp : (ps.toList.zip (ps.toList.drop 1)).all (fun (a, next) => a.1 < next.1) = true) (ho : Op.lookupswitch.offset ps.toList dflt x.toInt = off) (ht : (pc : Int) + off = (tgt : Int)) (kk : AW K nL tgt lo st sh P I J cells slots) : AW K nL pc lo (.int x :: st) sh P I J cells slots := by
  obtain ⟨p, l, e, R, s, m, args, below, meth, c, Q, dC, dI, cA, A, α0, N0⟩ := K
  obtain ⟨hx, hb, hml, hown, hlk, hnm, hR0, hT, hK, hA, hZ⟩ := X
  intro α H locs ls ha hP hD hS hl
  exact lv_lookup hx hb hd hp ho ht (kk α H locs ls ha hP hD hS hl)
theorem ar_tableOut (X : am_C K cc nL own nm R0) {dflt lo1 hi1 : Int} {offs : Array Int} {len : Nat} {x : Int32} {tgt : Nat} (hd : decode cc pc = .ok (.tableswitch dflt lo1 hi1 offs, len)) (h : x.toInt < lo1 ∨ hi1 < x.toInt) (ht : (pc : Int) + dflt = (tgt : Int)) (kk : AW K nL tgt lo st sh P I J cells slots) : AW K nL pc lo (.int x :: st) sh P I J cells slots := by
  obtain ⟨p, l, e, R, s, m, args, below, meth, c, Q, dC, dI, cA, A, α0, N0⟩ := K
  obtain ⟨hx, hb, hml, hown, hlk, hnm, hR0, hT, hK, hA, hZ⟩ := X
  intro α H locs ls ha hP hD hS hl
  exact lv_tableOut hx hb hd h ht (kk α H locs ls ha hP hD hS hl)
theorem ar_tableIn (X : am_C K cc nL own nm R0) {dflt lo1 hi1 : Int} {offs : Array Int} {len : Nat} {x : Int32} {off : Int} {tgt : Nat} (hd : decode cc pc = .ok (.tableswitch dflt lo1 hi1 offs, len)) (h1 : ¬ x.toInt < lo1) (h2 : ¬ hi1 < x.toInt) (ho : offs[(x.toInt - lo1).toNat]? = some off) (ht : (pc : Int) + off = (tgt : Int)) (kk : AW K nL tgt lo st sh P I J cells slots) : AW K nL pc lo (.int x :: st) sh P I J cells slots := by
  obtain ⟨p, l, e, R, s, m, args, below, meth, c, Q, dC, dI, cA, A, α0, N0⟩ := K
  obtain ⟨hx, hb, hml, hown, hlk, hnm, hR0, hT, hK, hA, hZ⟩ := X
  intro α H locs ls ha hP hD hS hl
  exact lv_tableIn hx hb hd h1 h2 ho ht (kk α H locs ls ha hP hD hS hl)
theorem am_fs_get {α : Nat → Nat} {I : Nat → Int32} {P : Nat → Option Nat} {ty : Nat → FieldType} {n k : Nat} (hk : k < n) : ((List.range n).map (am_fv α I P ty))[k]? = some (am_fv α I P ty k) := by
  simp [hk]
theorem am_fs_set {α : Nat → Nat} {I I' : Nat → Int32} {P P' : Nat → Option Nat} {ty : Nat → FieldType} {n k : Nat} {v : Value} (hv : am_fv α I' P' ty k = v) (ho : ∀ j, j ≠ k → am_fv α I' P' ty j = am_fv α I P ty j) : ((List.range n).map (am_fv α I P ty)).set k v = (List.range n).map (am_fv α I' P' ty) := by
  apply List.ext_getElem?
  intro j
  by_cases hl : j < n
  · by_cases hj : j = k
    · subst hj
      rw [List.getElem?_set_self (by simpa using hl), am_fs_get hl, hv]
    · rw [List.getElem?_set_ne (fun e => hj e.symm), am_fs_get hl, am_fs_get hl, ho j hj]
  · rw [List.getElem?_eq_none (by simpa using hl), List.getElem?_eq_none (by simpa using hl)]
def am_cl (ci : Nat) (C : String) (T : u_T) (n : Nat) : Prop := vwCl[ci]? = some (C, T, n) ∧ am_n ci = n ∧ (∀ w ∈ u_ws C T n, w ∈ lw_tbl ∧ am_good w = true) ∧ (∀ k, k < n → parseFieldDescriptor (T k).2.2.1 = some (am_ty ci k)) ∧ (∀ a, a < n → ∀ b, b < n → a ≠ b → (T a).2.1 ≠ (T b).2.1)
def am_fl (own : String) (idx : Nat) (ref name desc : String) : Prop := Cond.fieldLink own idx ref name desc ∈ lw_tbl ∨ ∃ host, Cond.fieldLinkNest own idx ref name desc host ∈ lw_tbl
/-- entry idx of own's pool is field k of class ci -/
def am_fld (own : String) (idx ci k : Nat) : Prop := ∃ (C : String) (T : u_T) (n : Nat), am_cl ci C T n ∧ k < n ∧ am_fl own idx (T k).1 (T k).2.1 (T k).2.2.1 ∧ (T k).2.2.2 = false
def am_fldF (own : String) (idx ci k : Nat) : Prop := ∃ (C : String) (T : u_T) (n : Nat), am_cl ci C T n ∧ k < n ∧ Cond.fieldLink own idx (T k).1 (T k).2.1 (T k).2.2.1 ∈ lw_tbl ∧ (T k).2.2.2 = true ∧ (T k).1 = own
def am_fldG (own : String) (idx ci k : Nat) : Prop := ∃ (C : String) (T : u_T) (n : Nat), am_cl ci C T n ∧ k < n ∧ am_fl own idx (T k).1 (T k).2.1 (T k).2.2.1
theorem am_fld.G {own : String} {idx ci k : Nat} (h : am_fld own idx ci k) : am_fldG own idx ci k := by
  obtain ⟨C, T, n, h1, h2, h3, -⟩ := h
  exact ⟨C, T, n, h1, h2, h3⟩
theorem am_fldF.G {own : String} {idx ci k : Nat} (h : am_fldF own idx ci k) : am_fldG own idx ci k := by
  obtain ⟨C, T, n, h1, h2, h3, -⟩ := h
  exact ⟨C, T, n, h1, h2, Or.inl h3⟩
theorem am_cl.hts {ci : Nat} {C : String} {T : u_T} {n : Nat} (h : am_cl ci C T n) {s : State} (hT : am_T s) (a : Array Value) : ∀ w ∈ u_ws C T n, w.before a s = true := fun w hw => hT w (h.2.2.1 w hw).1 (h.2.2.1 w hw).2 a
theorem ar_get (X : am_C K cc nL own nm R0) {idx q ci k : Nat} {v : Value} (hd : decode cc pc = .ok (.getfield idx, 3)) (hF : am_fldG own idx ci k) (hs : sh[q]? = some (.inl ci)) (hv : ∀ α, am_fv α (I q) (P q) (am_ty ci) k = am_v α v) (kk : AW K nL (pc + 3) lo (v :: st) sh P I J cells slots) : AW K nL pc lo (.ref q :: st) sh P I J cells slots := by
  obtain ⟨p, l, e, R, s, m, args, below, meth, c, Q, dC, dI, cA, A, α0, N0⟩ := K
  obtain ⟨hx, hb, hml, hown, hlk, hnm, hR0, hT, hK, hA, hZ⟩ := X
  intro α H locs ls ha hP hD hS hl
  obtain ⟨C, T, n, hC, hk, hw⟩ := hF
  have he := am_ws_get (α := α) (cA := cA) (I := I) (J := J) (P := P) hs
  have hg := am_fs_get (α := α) (I := I q) (P := P q) (ty := am_ty ci) (n := am_n ci) (k := k) (by rw [hC.2.1]; exact hk)
  rcases hw with hw | ⟨host, hw⟩
  · exact va_get hx hb (hC.hts hT args) (fun _ h => h) hown hK hP q he hC.1 k hk (hT _ hw rfl args) (fun _ h => h) (hg.trans (congrArg some (hv α))) hd (kk α H locs ls ha hP hD hS hl)
  · exact va_getN hx hb (hC.hts hT args) (fun _ h => h) hown hK hP q he hC.1 k hk (hT _ hw rfl args) (fun _ h => h) (hg.trans (congrArg some (hv α))) hd (kk α H locs ls ha hP hD hS hl)
theorem ar_geti (X : am_C K cc nL own nm R0) {idx q ci k : Nat} (hd : decode cc pc = .ok (.getfield idx, 3)) (hF : am_fldG own idx ci k) (hty : am_ref (am_ty ci k) = false) (hs : sh[q]? = some (.inl ci)) (kk : AW K nL (pc + 3) lo (.int (I q k) :: st) sh P I J cells slots) : AW K nL pc lo (.ref q :: st) sh P I J cells slots :=
  ar_get X hd hF hs (v := .int (I q k)) (fun α => by simp [am_fv, hty, am_v]) kk
theorem ar_getr (X : am_C K cc nL own nm R0) {idx q ci k q' : Nat} (hd : decode cc pc = .ok (.getfield idx, 3)) (hF : am_fldG own idx ci k) (hty : am_ref (am_ty ci k) = true) (hs : sh[q]? = some (.inl ci)) (hp : P q k = some q') (kk : AW K nL (pc + 3) lo (.ref q' :: st) sh P I J cells slots) : AW K nL pc lo (.ref q :: st) sh P I J cells slots :=
  ar_get X hd hF hs (v := .ref q') (fun α => by simp [am_fv, hty, am_v, hp, va_rf]) kk
theorem ar_puti (X : am_C K cc nL own nm R0) {idx q ci k : Nat} {v : Int32} {F : aI → Option β} (hd : decode cc pc = .ok (.putfield idx, 3)) (hF : am_fld own idx ci k) (hty : am_ref (am_ty ci k) = false) (hn : narrow (am_ty ci k) (.int v) = .int v ∧ fits (am_ty ci k) (.int v) = true) (hs : sh[q]? = some (.inl ci)) (hf : am_let (am_w I q k v) F = some Rs) (kk : ∀ I1, F I1 = some Rs → AW K nL (pc + 3) lo st sh P I1 J cells slots) : AW K nL pc lo (.int v :: .ref q :: st) sh P I J cells slots := by
  obtain ⟨p, l, e, R, s, m, args, below, meth, c, Q, dC, dI, cA, A, α0, N0⟩ := K
  obtain ⟨hx, hb, hml, hown, hlk, hnm, hR0, hT, hK, hA, hZ⟩ := X
  intro α H locs ls ha hP hD hS hl
  obtain ⟨C, T, n, hC, hk, hw, hfin⟩ := hF
  have he := am_ws_get (α := α) (cA := cA) (I := I) (J := J) (P := P) hs
  have hset : (am_ws α cA sh I J P).set q (α q, .inr (ci, ((List.range (am_n ci)).map (am_fv α (I q) (P q) (am_ty ci))).set k (.int v))) = am_ws α cA sh (am_w I q k v) J P := by
    rw [am_fs_set (I' := (am_w I q k v) q) (P' := P q) (by simp [am_fv, hty, am_w]) (fun j hj => by simp [am_fv, am_w, hj])]
    exact am_ws_set hs (fun j hj => am_w_ne I v hj) (fun _ _ => rfl) (fun _ _ => rfl)
  have hlen : k < ((List.range (am_n ci)).map (am_fv α (I q) (P q) (am_ty ci))).length := by rw [List.length_map, List.length_range, hC.2.1]; exact hk
  rcases hw with hw | ⟨host, hw⟩
  · exact va_put hx hb (hC.hts hT args) (fun _ h => h) (am_ty ci) hC.2.2.2.1 hC.2.2.2.2 hown hK hP hD hS q he hC.1 k hk (hT _ hw rfl args) (fun _ h => h) hfin (hC.2.2.2.1 k hk) hn.1 hn.2 hlen hd (fun H1 locs1 hP1 hD1 hS1 => kk _ hf α H1 locs1 ls ha (hset ▸ hP1) (hset ▸ hD1) hS1 hl)
  · exact va_putN hx hb (hC.hts hT args) (fun _ h => h) (am_ty ci) hC.2.2.2.1 hC.2.2.2.2 hown hK hP hD hS q he hC.1 k hk (hT _ hw rfl args) (fun _ h => h) hfin (hC.2.2.2.1 k hk) hn.1 hn.2 hlen hd (fun H1 locs1 hP1 hD1 hS1 => kk _ hf α H1 locs1 ls ha (hset ▸ hP1) (hset ▸ hD1) hS1 hl)
theorem ar_putF (X : am_C K cc nL own nm R0) {idx q ci k q1 : Nat} (hd : decode cc pc = .ok (.putfield idx, 3)) (hF : am_fldF own idx ci k) (hty : am_ref (am_ty ci k) = true) (hn : ∀ x : Nat, narrow (am_ty ci k) (.ref x) = .ref x ∧ fits (am_ty ci k) (.ref x) = true) (hnm1 : nm = "<init>") (hs : sh[q]? = some (.inl ci)) (kk : AW K nL (pc + 3) lo st sh (am_wP P q k (some q1)) I J cells slots) : AW K nL pc lo (.ref q1 :: .ref q :: st) sh P I J cells slots := by
  obtain ⟨p, l, e, R, s, m, args, below, meth, c, Q, dC, dI, cA, A, α0, N0⟩ := K
  obtain ⟨hx, hb, hml, hown, hlk, hnm, hR0, hT, hK, hA, hZ⟩ := X
  intro α H locs ls ha hP hD hS hl
  obtain ⟨C, T, n, hC, hk, hw, hfin, hdecl⟩ := hF
  have he := am_ws_get (α := α) (cA := cA) (I := I) (J := J) (P := P) hs
  have hset : (am_ws α cA sh I J P).set q (α q, .inr (ci, ((List.range (am_n ci)).map (am_fv α (I q) (P q) (am_ty ci))).set k (.ref (α q1)))) = am_ws α cA sh I J (am_wP P q k (some q1)) := by
    rw [am_fs_set (I' := I q) (P' := (am_wP P q k (some q1)) q) (by simp [am_fv, hty, am_wP, va_rf]) (fun j hj => by simp [am_fv, am_wP, hj])]
    exact am_ws_set hs (fun _ _ => rfl) (fun _ _ => rfl) (fun j hj => am_wP_ne P _ hj)
  have hlen : k < ((List.range (am_n ci)).map (am_fv α (I q) (P q) (am_ty ci))).length := by rw [List.length_map, List.length_range, hC.2.1]; exact hk
  exact va_putF hx hb (hC.hts hT args) (fun _ h => h) (am_ty ci) hC.2.2.2.1 hC.2.2.2.2 hown hK hP hD hS q he hC.1 k hk (hT _ hw rfl args) (fun _ h => h) hfin (hnm.trans hnm1) hdecl (hC.2.2.2.1 k hk) (hn _).1 (hn _).2 hlen hd (fun H1 locs1 hP1 hD1 hS1 => kk α H1 locs1 ls ha (hset ▸ hP1) (hset ▸ hD1) hS1 hl)
theorem ar_iald (X : am_C K cc nL own nm R0) {q n : Nat} {i : Int32} {F : Option β} (hd : decode cc pc = .ok (.iaload, 1)) (hs : sh[q]? = some (.inr (0, n))) (hf : am_g (am_ok i n) F = some Rs) (kk : F = some Rs → AW K nL (pc + 1) lo (.int (I q i.toNatClampNeg) :: st) sh P I J cells slots) : AW K nL pc lo (.int i :: .ref q :: st) sh P I J cells slots := by
  obtain ⟨p, l, e, R, s, m, args, below, meth, c, Q, dC, dI, cA, A, α0, N0⟩ := K
  obtain ⟨hx, hb, hml, hown, hlk, hnm, hR0, hT, hK, hA, hZ⟩ := X
  intro α H locs ls ha hP hD hS hl
  obtain ⟨h1, h2⟩ := am_g_elim hf
  exact va_iald hx hb hK hP q 0 (am_ws_get hs) rfl (am_ok_in h1) hd (kk h2 α H locs ls ha hP hD hS hl)
theorem ar_iast (X : am_C K cc nL own nm R0) {q n : Nat} {i v : Int32} {F : aI → Option β} (hd : decode cc pc = .ok (.iastore, 1)) (hs : sh[q]? = some (.inr (0, n))) (hf : am_g (am_ok i n) (am_let (am_w I q i.toNatClampNeg v) F) = some Rs) (kk : ∀ I1, F I1 = some Rs → AW K nL (pc + 1) lo st sh P I1 J cells slots) : AW K nL pc lo (.int v :: .int i :: .ref q :: st) sh P I J cells slots := by
  obtain ⟨p, l, e, R, s, m, args, below, meth, c, Q, dC, dI, cA, A, α0, N0⟩ := K
  obtain ⟨hx, hb, hml, hown, hlk, hnm, hR0, hT, hK, hA, hZ⟩ := X
  intro α H locs ls ha hP hD hS hl
  obtain ⟨h1, h2⟩ := am_g_elim hf
  have hset : (am_ws α cA sh I J P).set q (α q, .inl (cA 0, n, .inl (upd (I q) i.toNatClampNeg v))) = am_ws α cA sh (am_w I q i.toNatClampNeg v) J P := by
    rw [← am_w_self]
    exact am_ws_set (z := .inr (0, n)) hs (fun j hj => am_w_ne I _ hj) (fun _ _ => rfl) (fun _ _ => rfl)
  exact va_iast hx hb hK hP hD hS q 0 (am_ws_get hs) rfl (am_ok_in h1) hd (fun H1 locs1 hP1 hD1 hS1 => kk _ h2 α H1 locs1 ls ha (hset ▸ hP1) (hset ▸ hD1) hS1 hl)
theorem ar_zald (X : am_C K cc nL own nm R0) {q n : Nat} {i : Int32} {F : Option β} (hd : decode cc pc = .ok (.baload, 1)) (hs : sh[q]? = some (.inr (1, n))) (hf : am_g (am_ok i n) F = some Rs) (kk : F = some Rs → AW K nL (pc + 1) lo (.int (I q i.toNatClampNeg) :: st) sh P I J cells slots) : AW K nL pc lo (.int i :: .ref q :: st) sh P I J cells slots := by
  obtain ⟨p, l, e, R, s, m, args, below, meth, c, Q, dC, dI, cA, A, α0, N0⟩ := K
  obtain ⟨hx, hb, hml, hown, hlk, hnm, hR0, hT, hK, hA, hZ⟩ := X
  intro α H locs ls ha hP hD hS hl
  obtain ⟨h1, h2⟩ := am_g_elim hf
  exact va_zald hx hb hK hP q 1 (am_ws_get hs) rfl (am_ok_in h1) hd (kk h2 α H locs ls ha hP hD hS hl)
theorem ar_zast (X : am_C K cc nL own nm R0) {q n : Nat} {i v : Int32} {F : aI → Option β} (hd : decode cc pc = .ok (.bastore, 1)) (hs : sh[q]? = some (.inr (1, n))) (hf : am_g (am_ok i n) (am_let (am_w I q i.toNatClampNeg (vp_nar .boolean v)) F) = some Rs) (kk : ∀ I1, F I1 = some Rs → AW K nL (pc + 1) lo st sh P I1 J cells slots) : AW K nL pc lo (.int v :: .int i :: .ref q :: st) sh P I J cells slots := by
  obtain ⟨p, l, e, R, s, m, args, below, meth, c, Q, dC, dI, cA, A, α0, N0⟩ := K
  obtain ⟨hx, hb, hml, hown, hlk, hnm, hR0, hT, hK, hA, hZ⟩ := X
  intro α H locs ls ha hP hD hS hl
  obtain ⟨h1, h2⟩ := am_g_elim hf
  have hset : (am_ws α cA sh I J P).set q (α q, .inl (cA 1, n, .inl (upd (I q) i.toNatClampNeg (vp_nar .boolean v)))) = am_ws α cA sh (am_w I q i.toNatClampNeg (vp_nar .boolean v)) J P := by
    rw [← am_w_self]
    exact am_ws_set (z := .inr (1, n)) hs (fun j hj => am_w_ne I _ hj) (fun _ _ => rfl) (fun _ _ => rfl)
  exact va_zast hx hb hK hP hD hS q 1 (am_ws_get hs) rfl (am_ok_in h1) hd (fun H1 locs1 hP1 hD1 hS1 => kk _ h2 α H1 locs1 ls ha (hset ▸ hP1) (hset ▸ hD1) hS1 hl)
theorem ar_cald (X : am_C K cc nL own nm R0) {q n : Nat} {i : Int32} {F : Option β} (hd : decode cc pc = .ok (.caload, 1)) (hs : sh[q]? = some (.inr (2, n))) (hf : am_g (am_ok i n) F = some Rs) (kk : F = some Rs → AW K nL (pc + 1) lo (.int (I q i.toNatClampNeg) :: st) sh P I J cells slots) : AW K nL pc lo (.int i :: .ref q :: st) sh P I J cells slots := by
  obtain ⟨p, l, e, R, s, m, args, below, meth, c, Q, dC, dI, cA, A, α0, N0⟩ := K
  obtain ⟨hx, hb, hml, hown, hlk, hnm, hR0, hT, hK, hA, hZ⟩ := X
  intro α H locs ls ha hP hD hS hl
  obtain ⟨h1, h2⟩ := am_g_elim hf
  exact va_cald hx hb hK hP q 2 (am_ws_get hs) rfl (am_ok_in h1) hd (kk h2 α H locs ls ha hP hD hS hl)
theorem ar_cast (X : am_C K cc nL own nm R0) {q n : Nat} {i v : Int32} {F : aI → Option β} (hd : decode cc pc = .ok (.castore, 1)) (hs : sh[q]? = some (.inr (2, n))) (hf : am_g (am_ok i n) (am_let (am_w I q i.toNatClampNeg (vp_nar .char v)) F) = some Rs) (kk : ∀ I1, F I1 = some Rs → AW K nL (pc + 1) lo st sh P I1 J cells slots) : AW K nL pc lo (.int v :: .int i :: .ref q :: st) sh P I J cells slots := by
  obtain ⟨p, l, e, R, s, m, args, below, meth, c, Q, dC, dI, cA, A, α0, N0⟩ := K
  obtain ⟨hx, hb, hml, hown, hlk, hnm, hR0, hT, hK, hA, hZ⟩ := X
  intro α H locs ls ha hP hD hS hl
  obtain ⟨h1, h2⟩ := am_g_elim hf
  have hset : (am_ws α cA sh I J P).set q (α q, .inl (cA 2, n, .inl (upd (I q) i.toNatClampNeg (vp_nar .char v)))) = am_ws α cA sh (am_w I q i.toNatClampNeg (vp_nar .char v)) J P := by
    rw [← am_w_self]
    exact am_ws_set (z := .inr (2, n)) hs (fun j hj => am_w_ne I _ hj) (fun _ _ => rfl) (fun _ _ => rfl)
  exact va_cast hx hb hK hP hD hS q 2 (am_ws_get hs) rfl (am_ok_in h1) hd (fun H1 locs1 hP1 hD1 hS1 => kk _ h2 α H1 locs1 ls ha (hset ▸ hP1) (hset ▸ hD1) hS1 hl)
theorem ar_lald (X : am_C K cc nL own nm R0) {q n : Nat} {i : Int32} {F : Option β} (hd : decode cc pc = .ok (.laload, 1)) (hs : sh[q]? = some (.inr (3, n))) (hf : am_g (am_ok i n) F = some Rs) (kk : F = some Rs → AW K nL (pc + 1) lo (.long (J q i.toNatClampNeg) :: st) sh P I J cells slots) : AW K nL pc lo (.int i :: .ref q :: st) sh P I J cells slots := by
  obtain ⟨p, l, e, R, s, m, args, below, meth, c, Q, dC, dI, cA, A, α0, N0⟩ := K
  obtain ⟨hx, hb, hml, hown, hlk, hnm, hR0, hT, hK, hA, hZ⟩ := X
  intro α H locs ls ha hP hD hS hl
  obtain ⟨h1, h2⟩ := am_g_elim hf
  exact va_lald hx hb hK hP q 3 (am_ws_get hs) rfl (am_ok_in h1) hd (kk h2 α H locs ls ha hP hD hS hl)
theorem ar_last (X : am_C K cc nL own nm R0) {q n : Nat} {i : Int32} {v : Int64} {F : aJ → Option β} (hd : decode cc pc = .ok (.lastore, 1)) (hs : sh[q]? = some (.inr (3, n))) (hf : am_g (am_ok i n) (am_let (am_wJ J q i.toNatClampNeg v) F) = some Rs) (kk : ∀ J1, F J1 = some Rs → AW K nL (pc + 1) lo st sh P I J1 cells slots) : AW K nL pc lo (.long v :: .int i :: .ref q :: st) sh P I J cells slots := by
  obtain ⟨p, l, e, R, s, m, args, below, meth, c, Q, dC, dI, cA, A, α0, N0⟩ := K
  obtain ⟨hx, hb, hml, hown, hlk, hnm, hR0, hT, hK, hA, hZ⟩ := X
  intro α H locs ls ha hP hD hS hl
  obtain ⟨h1, h2⟩ := am_g_elim hf
  have hset : (am_ws α cA sh I J P).set q (α q, .inl (cA 3, n, .inr (.inl (vp_updL (J q) i.toNatClampNeg v)))) = am_ws α cA sh I (am_wJ J q i.toNatClampNeg v) P := by
    have e : vp_updL (J q) i.toNatClampNeg v = (am_wJ J q i.toNatClampNeg v) q := by funext j; simp [am_wJ, vp_updL]
    rw [e]
    exact am_ws_set (z := .inr (3, n)) hs (fun _ _ => rfl) (fun j hj => am_wJ_ne J _ hj) (fun _ _ => rfl)
  exact va_last hx hb hK hP hD hS q 3 (am_ws_get hs) rfl (am_ok_in h1) hd (fun H1 locs1 hP1 hD1 hS1 => kk _ h2 α H1 locs1 ls ha (hset ▸ hP1) (hset ▸ hD1) hS1 hl)
theorem ar_alen (X : am_C K cc nL own nm R0) {q n : Nat} {t : Nat} {v : Int32} (hd : decode cc pc = .ok (.arraylength, 1)) (hs : sh[q]? = some (.inr (t, n))) (ht : t < 4) (hv : Int32.ofNat n = v) (kk : AW K nL (pc + 1) lo (.int v :: st) sh P I J cells slots) : AW K nL pc lo (.ref q :: st) sh P I J cells slots := by
  obtain ⟨p, l, e, R, s, m, args, below, meth, c, Q, dC, dI, cA, A, α0, N0⟩ := K
  obtain ⟨hx, hb, hml, hown, hlk, hnm, hR0, hT, hK, hA, hZ⟩ := X
  intro α H locs ls ha hP hD hS hl
  obtain ⟨ty, hty⟩ : ∃ ty, (am_tys cA)[t]? = some (cA t, ty) := by
    match t, ht with
    | 0, _ => exact ⟨_, rfl⟩
    | 1, _ => exact ⟨_, rfl⟩
    | 2, _ => exact ⟨_, rfl⟩
    | 3, _ => exact ⟨_, rfl⟩
  exact va_alen hx hb hK hP q t (am_ws_get hs) hty hv hd (kk α H locs ls ha hP hD hS hl)
theorem ar_iret (X : am_C K cc nL own nm R0) {v : Int32} {mc ms : Nat} (hd : decode cc pc = .ok (.ireturn, 1)) (hR : am_R K (some .int) (some (.int v)) sh P I J mc ms) (hc : cells ≤ mc) (hs : slots ≤ ms) : AW K nL pc lo [.int v] sh P I J cells slots := by
  obtain ⟨p, l, e, R, s, m, args, below, meth, c, Q, dC, dI, cA, A, α0, N0⟩ := K
  obtain ⟨hx, hb, hml, hown, hlk, hnm, hR0, hT, hK, hA, hZ⟩ := X
  intro α H locs ls ha hP hD hS hl
  obtain ⟨hr, hQ⟩ := hR
  subst hQ
  refine W.widen (k := mc) (n := ms) hc hs ?_
  exact W.iret hx hb hr (fun t ht hW => ⟨⟨rfl, α, ha.1, ha.2.2, by rw [ht]; exact hP, hD⟩, hS.F ht⟩) hS.2.2 hd
theorem ar_lret (X : am_C K cc nL own nm R0) {v : Int64} {mc ms : Nat} (hd : decode cc pc = .ok (.lreturn, 1)) (hR : am_R K (some .long) (some (.long v)) sh P I J mc ms) (hc : cells ≤ mc) (hs : slots ≤ ms) : AW K nL pc lo [.long v] sh P I J cells slots := by
  obtain ⟨p, l, e, R, s, m, args, below, meth, c, Q, dC, dI, cA, A, α0, N0⟩ := K
  obtain ⟨hx, hb, hml, hown, hlk, hnm, hR0, hT, hK, hA, hZ⟩ := X
  intro α H locs ls ha hP hD hS hl
  obtain ⟨hr, hQ⟩ := hR
  subst hQ
  refine W.widen (k := mc) (n := ms) hc hs ?_
  exact W.lret hx hb hr (fun t ht hW => ⟨⟨rfl, α, ha.1, ha.2.2, by rw [ht]; exact hP, hD⟩, hS.F ht⟩) hS.2.2 hd
theorem ar_zret (X : am_C K cc nL own nm R0) {v : Int32} {ty : FieldType} {mc ms : Nat} (hd : decode cc pc = .ok (.ireturn, 1)) (hn : narrow ty (.int v) = .int v) (hR : am_R K (some ty) (some (.int v)) sh P I J mc ms) (hc : cells ≤ mc) (hs : slots ≤ ms) : AW K nL pc lo [.int v] sh P I J cells slots := by
  obtain ⟨p, l, e, R, s, m, args, below, meth, c, Q, dC, dI, cA, A, α0, N0⟩ := K
  obtain ⟨hx, hb, hml, hown, hlk, hnm, hR0, hT, hK, hA, hZ⟩ := X
  intro α H locs ls ha hP hD hS hl
  obtain ⟨hr, hQ⟩ := hR
  subst hQ
  refine W.widen (k := mc) (n := ms) hc hs ?_
  exact W.zret hx hb hr hn (fun t ht hW => ⟨⟨rfl, α, ha.1, ha.2.2, by rw [ht]; exact hP, hD⟩, hS.F ht⟩) hS.2.2 hd
theorem ar_vret (X : am_C K cc nL own nm R0) {mc ms : Nat} (hd : decode cc pc = .ok (.return_, 1)) (hR : am_R K none none sh P I J mc ms) (hc : cells ≤ mc) (hs : slots ≤ ms) : AW K nL pc lo [] sh P I J cells slots := by
  obtain ⟨p, l, e, R, s, m, args, below, meth, c, Q, dC, dI, cA, A, α0, N0⟩ := K
  obtain ⟨hx, hb, hml, hown, hlk, hnm, hR0, hT, hK, hA, hZ⟩ := X
  intro α H locs ls ha hP hD hS hl
  obtain ⟨hr, hQ⟩ := hR
  subst hQ
  refine W.widen (k := mc) (n := ms) hc hs ?_
  exact W.vret hx hb hr (fun t ht hW => ⟨⟨rfl, α, ha.1, ha.2.2, by rw [ht]; exact hP, hD⟩, hS.F ht⟩) hS.2.2 hd
end AR
