/-! THE ABSTRACT MACHINE: places for addresses, memory as total functions -/
abbrev aI : Type := Nat → Nat → Int32
abbrev aJ : Type := Nat → Nat → Int64
abbrev aP : Type := Nat → Nat → Option Nat
/-- the shapes of the cells: an object of a class of vwCl, or an array (0 int, 1 boolean, 2 char, 3 long, 4 Game) with its length -/
abbrev aS : Type := List (Nat ⊕ (Nat × Nat))
def am_ty (ci : Nat) : Nat → FieldType := match ci with
  | 0 => tyX0
  | 1 => tyX1
  | 2 => tyX2
  | 3 => tyX3
  | 4 => tyX4
  | 5 => tyX5
  | 6 => tyX6
  | _ => tyX7
def am_n (ci : Nat) : Nat := match ci with
  | 0 => 9
  | 1 => 4
  | 2 => 6
  | 3 => 6
  | 4 => 6
  | 5 => 2
  | 6 => 5
  | _ => 13
def am_ref (t : FieldType) : Bool := match t with
  | .object _ => true
  | .array _ => true
  | _ => false
def am_v (α : Nat → Nat) (v : Value) : Value := match v with
  | .ref k => .ref (α k)
  | w => w
def am_fv (α : Nat → Nat) (I : Nat → Int32) (P : Nat → Option Nat) (ty : Nat → FieldType) (k : Nat) : Value := if am_ref (ty k) = true then va_rf ((P k).map α) else .int (I k)
def am_row (t : Nat) (α : Nat → Nat) (I : Nat → Int32) (J : Nat → Int64) (P : Nat → Option Nat) : ((Nat → Int32) ⊕ (Nat → Int64) ⊕ (Nat → UInt32) ⊕ (Nat → UInt64) ⊕ (Nat → Option Nat)) := match t with
  | 3 => .inr (.inl J)
  | 4 => .inr (.inr (.inr (.inr (fun j => (P j).map α))))
  | _ => .inl I
def am_E (α : Nat → Nat) (cA : Nat → ClassId) (I : aI) (J : aJ) (P : aP) (q : Nat) (z : Nat ⊕ (Nat × Nat)) : va_E := match z with
  | .inl ci => .inr (ci, (List.range (am_n ci)).map (am_fv α (I q) (P q) (am_ty ci)))
  | .inr (t, n) => .inl (cA t, n, am_row t α (I q) (J q) (P q))
def am_ws (α : Nat → Nat) (cA : Nat → ClassId) (sh : aS) (I : aI) (J : aJ) (P : aP) : va_W := sh.mapIdx (fun q z => (α q, am_E α cA I J P q z))
theorem am_ws_get {α : Nat → Nat} {cA : Nat → ClassId} {sh : aS} {I : aI} {J : aJ} {P : aP} {q : Nat} {z : Nat ⊕ (Nat × Nat)} (h : sh[q]? = some z) : (am_ws α cA sh I J P)[q]? = some (α q, am_E α cA I J P q z) := by
  simp [am_ws, h]
theorem am_E_congr {α : Nat → Nat} {cA : Nat → ClassId} {I I' : aI} {J J' : aJ} {P P' : aP} {q : Nat} (z : Nat ⊕ (Nat × Nat)) (hI : I' q = I q) (hJ : J' q = J q) (hP : P' q = P q) : am_E α cA I' J' P' q z = am_E α cA I J P q z := by
  cases z with
  | inl ci => simp only [am_E, hI, hP]
  | inr x => simp only [am_E, hI, hJ, hP]
theorem am_ws_set {α : Nat → Nat} {cA : Nat → ClassId} {sh : aS} {I I' : aI} {J J' : aJ} {P P' : aP} {q : Nat} {z : Nat ⊕ (Nat × Nat)} (h : sh[q]? = some z) (hI : ∀ j, j ≠ q → I' j = I j) (hJ : ∀ j, j ≠ q → J' j = J j) (hP : ∀ j, j ≠ q → P' j = P j) :
    (am_ws α cA sh I J P).set q (α q, am_E α cA I' J' P' q z) = am_ws α cA sh I' J' P' := by
  apply List.ext_getElem?
  intro j
  have hq : q < sh.length := (List.getElem?_eq_some_iff.mp h).1
  by_cases hj : j = q
  · subst hj
    rw [am_ws_get h, List.getElem?_set_self (by simpa [am_ws] using hq)]
  · rw [List.getElem?_set_ne (fun e => hj e.symm)]
    simp only [am_ws, List.getElem?_mapIdx]
    cases hz : sh[j]? with
    | none => rfl
    | some y => simp [am_E_congr y (hI j hj) (hJ j hj) (hP j hj)]
/-- α at the old places -/
def am_al (α0 : Nat → Nat) (N0 : Nat) (α : Nat → Nat) : Prop := ∀ q, q < N0 ∨ 1000000 ≤ q → α q = α0 q
theorem am_al.rf {α : Nat → Nat} {N : Nat} : am_al α N α := fun _ _ => rfl
theorem am_al.tr {α0 α1 α2 : Nat → Nat} {N0 N1 : Nat} (h1 : am_al α0 N0 α1) (h2 : am_al α1 N1 α2) (h : N0 ≤ N1) : am_al α0 N0 α2 := fun q hq => (h2 q (by omega)).trans (h1 q hq)
def am_w (I : aI) (q k : Nat) (v : Int32) : aI := fun q' k' => if q' = q ∧ k' = k then v else I q' k'
def am_wJ (J : aJ) (q k : Nat) (v : Int64) : aJ := fun q' k' => if q' = q ∧ k' = k then v else J q' k'
def am_wP (P : aP) (q k : Nat) (v : Option Nat) : aP := fun q' k' => if q' = q ∧ k' = k then v else P q' k'
theorem am_w_self (I : aI) (q k : Nat) (v : Int32) : am_w I q k v q = upd (I q) k v := by funext j; simp [am_w, upd]
theorem am_w_ne (I : aI) {q k : Nat} (v : Int32) {j : Nat} (h : j ≠ q) : am_w I q k v j = I j := by funext i; simp [am_w, h]
theorem am_wJ_ne (J : aJ) {q k : Nat} (v : Int64) {j : Nat} (h : j ≠ q) : am_wJ J q k v j = J j := by funext i; simp [am_wJ, h]
theorem am_wP_ne (P : aP) {q k : Nat} (v : Option Nat) {j : Nat} (h : j ≠ q) : am_wP P q k v j = P j := by funext i; simp [am_wP, h]
def am_tys (cA : Nat → ClassId) : List (ClassId × FieldType) := [(cA 0, .int), (cA 1, .boolean), (cA 2, .char), (cA 3, .long), (cA 4, .object "PurseAuction$Game")]
/-! the words of the tables, for any arguments -/
def am_good (w : Cond) : Bool := match w with
  | .fieldLinkNest .. => true
  | .methodLinkNest .. => true
  | .arrayClass _ => true
  | w => w.onTables && w.keeps
def am_T (U : State) : Prop := ∀ w ∈ lw_tbl, am_good w = true → ∀ a : Array Value, w.before a U = true
theorem am_word {w : Cond} {args a : Array Value} {s U : State} (hW : s.WarmedH U.vm) (hg : am_good w = true) (h0 : w.before args s = true) : w.before a U = true := by
  by_cases hn : (w.onTables && w.keeps) = true
  · exact word_at hW (Or.inl hn) h0
  · cases w with
    | fieldLinkNest => exact va_Nw.use rfl (va_Nw.warmF hW (va_Nw.of rfl h0))
    | methodLinkNest => exact va_Nw.use rfl (va_Nw.warmM hW (va_Nw.of rfl h0))
    | arrayClass ty => exact word_at hW (Or.inr ⟨_, rfl⟩) h0
    | _ => exact absurd hg hn
theorem am_T.moved {s U : State} (hW : s.WarmedH U.vm) (h : am_T s) : am_T U := fun w hw hg _ => am_word hW hg (h w hw hg #[])
theorem am_T.calling {U : State} {g : JFrame} {mk : MethodId} {a : Array Value} (h : am_T U) : am_T (U.calling g mk a) := h.moved (State.WarmedH.refl U)
/-! the three static rows, which nobody writes -/
def am_least (j : Nat) : Int32 := ([1, 1, 1, 0, 0, 1] : List Int32).getD j 0
def am_first (j : Nat) : Int32 := ([100, 5, 12, 4, 15, 5] : List Int32).getD j 0
def am_most (j : Nat) : Int32 := ([300, 20, 40, 20, 100, 20] : List Int32).getD j 0
def am_sX (f : Nat → Int32) (t : Nat) (U : State) (H : Heap) : Prop := ∃ scr : Cell, H[t]? = some scr ∧ U.isArrayOf scr .int ∧ scr.vm ≠ .unknown ∧ scr.slots.size = 6 ∧ (∀ j : Nat, j < 6 → scr.slots[j]? = some (.int (f j))) ∧ U.vm.findClass "[I" = some scr.cls
def am_st (n : String) (f : Nat → Int32) (t : Nat) (A : Nat → Prop) (U : State) (H : Heap) : Prop := va_Z "PurseAuction" n "[I" (.ref t) A U H ∧ am_sX f t U H ∧ ¬ A t
theorem am_st.kept {n : String} {f : Nat → Int32} {t : Nat} {A : Nat → Prop} {U : State} {H H1 : Heap} (h : am_st n f t A U H) (hq : ∀ a : Nat, a < H.size → ¬ A a → H1[a]? = H[a]?) : am_st n f t A U H1 := by
  obtain ⟨h1, ⟨scr, e, h2⟩, h3⟩ := h
  exact ⟨h1.kept hq, ⟨scr, by rw [hq t (Array.getElem?_eq_some_iff.mp e).1 h3]; exact e, h2⟩, h3⟩
theorem am_st.moved {n : String} {f : Nat → Int32} {t : Nat} {A : Nat → Prop} {u U : State} {H : Heap} (hvm : u.vm.Alike U.vm) (h : am_st n f t A u H) : am_st n f t A U H := by
  obtain ⟨h1, ⟨scr, e, h2, h3, h4, h5, h6⟩, h7⟩ := h
  exact ⟨h1.moved hvm, ⟨scr, e, State.isArrayOf_alike hvm h2, h3, h4, h5, by rw [hvm.findClass]; exact h6⟩, h7⟩
theorem am_st.narrow {n : String} {f : Nat → Int32} {t : Nat} {A B : Nat → Prop} {U : State} {H : Heap} (h : am_st n f t A U H) (hAB : ∀ q, B q → A q) : am_st n f t B U H := ⟨h.1.narrow hAB, h.2.1, fun z => h.2.2 (hAB t z)⟩
def am_Z (α : Nat → Nat) (A : Nat → Prop) (U : State) (H : Heap) : Prop := (am_st "SETTING_LEAST" am_least (α 1000001) A U H ∧ am_st "SETTING_FIRST" am_first (α 1000002) A U H ∧ am_st "SETTING_MOST" am_most (α 1000003) A U H) ∧ va_AO "PurseAuction$Game" U ∧ va_Nw (.castable "[I" "java/lang/Cloneable") U
theorem am_cast_moved {a b : String} {u U : State} (hvm : u.vm.Alike U.vm) (h : va_Nw (.castable a b) u) : va_Nw (.castable a b) U := by
  obtain ⟨c, t, h1, h2, h3⟩ := Cond.castable_spec h
  have f1 : U.vm.findClass a = some c := by rw [hvm.findClass]; exact h1
  have f2 : U.vm.findClass b = some t := by rw [hvm.findClass]; exact h2
  have f3 : U.vm.assignable c t = true := by rw [hvm.assignable]; exact h3
  unfold va_Nw Cond.before Cond.holds
  simp [Cond.value, f1, f2, f3]
theorem am_Z.kept {α : Nat → Nat} {A : Nat → Prop} {U : State} {H H1 : Heap} (h : am_Z α A U H) (hq : ∀ a : Nat, a < H.size → ¬ A a → H1[a]? = H[a]?) : am_Z α A U H1 := ⟨⟨h.1.1.kept hq, h.1.2.1.kept hq, h.1.2.2.kept hq⟩, h.2⟩
theorem am_Z.moved {α : Nat → Nat} {A : Nat → Prop} {u U : State} {H : Heap} (hvm : u.vm.Alike U.vm) (h : am_Z α A u H) : am_Z α A U H := ⟨⟨h.1.1.moved hvm, h.1.2.1.moved hvm, h.1.2.2.moved hvm⟩, h.2.1.moved hvm, am_cast_moved hvm h.2.2⟩
theorem am_Z.narrow {α : Nat → Nat} {A B : Nat → Prop} {U : State} {H : Heap} (h : am_Z α A U H) (hAB : ∀ q, B q → A q) : am_Z α B U H := ⟨⟨h.1.1.narrow hAB, h.1.2.1.narrow hAB, h.1.2.2.narrow hAB⟩, h.2⟩
theorem am_Z.al {α α' : Nat → Nat} {A : Nat → Prop} {U : State} {H : Heap} {N : Nat} (ha : am_al α N α') (h : am_Z α A U H) : am_Z α' A U H := by
  refine ⟨⟨?_, ?_, ?_⟩, h.2⟩
  · rw [ha 1000001 (Or.inr (by omega))]; exact h.1.1
  · rw [ha 1000002 (Or.inr (by omega))]; exact h.1.2.1
  · rw [ha 1000003 (Or.inr (by omega))]; exact h.1.2.2
/-! the judgement at a pc -/
abbrev aK : Type := Program × Launch × Env × Room × State × MethodId × Array Value × List Frame × Method × Code × (State → Prop) × (Nat → ClassId) × (Nat → Nat → Nat) × (Nat → ClassId) × (Nat → Prop) × (Nat → Nat) × Nat
def AW (K : aK) (nL pc : Nat) (lo : List (Nat × Value)) (st : List Value) (sh : aS) (P : aP) (I : aI) (J : aJ) (cells slots : Nat) : Prop := match K with
  | (p, l, e, R, s, m, args, below, meth, c, Q, dC, dI, cA, A, α0, N0) => ∀ (α : Nat → Nat) (H : Heap) (locs : List Loc) (ls : Array Slot), am_al α0 N0 α ∧ N0 ≤ sh.length ∧ (sh.length = N0 → α = α0) → va_P (dC, dI) vwCl (am_ws α cA sh I J P) H → va_D A (am_ws α cA sh I J P) → va_S A s.heap H locs → lv_has ls nL (lo.map (fun q => (q.1, am_v α q.2))) →
    W p l e R s m args below meth c H locs cells slots Q (F0 m pc ls (st.map (am_v α)))
def am_C (K : aK) (cc : ByteArray) (nL : Nat) (own nm : String) (R0 : Room) : Prop := match K with
  | (p, l, e, R, s, m, args, below, meth, c, Q, dC, dI, cA, A, α0, N0) => p.tables.exec = Jvm.exec ∧ c.code = cc ∧ c.maxLocals = nL ∧ s.vm.findClass own = some m.cls ∧ meth.locks = false ∧ meth.name = nm ∧ R = R0 ∧ am_T s ∧ va_K (dC, dI) vwCl (am_tys cA) s ∧ (∀ q, s.heap.size ≤ q → A q) ∧ am_Z α0 A s s.heap
def am_Q (dC : Nat → ClassId) (dI : Nat → Nat → Nat) (cA : Nat → ClassId) (A : Nat → Prop) (α0 : Nat → Nat) (N0 : Nat) (sh : aS) (P : aP) (I : aI) (J : aJ) (r : Option Value) : Array Value → State → Outcome → State → Prop := fun _ st oc t =>
  (oc = .returned r ∧ ∃ α, am_al α0 N0 α ∧ (sh.length = N0 → α = α0) ∧ va_P (dC, dI) vwCl (am_ws α cA sh I J P) t.heap ∧ va_D A (am_ws α cA sh I J P)) ∧ va_F A st t
def am_R (K : aK) (ret : Option FieldType) (r : Option Value) (sh : aS) (P : aP) (I : aI) (J : aJ) (mc ms : Nat) : Prop := match K with
  | (p, l, e, R, s, m, args, below, meth, c, Q, dC, dI, cA, A, α0, N0) => meth.sig.returnType = ret ∧ Q = MQ below (am_Q dC dI cA A α0 N0 sh P I J r) args s mc ms A
def am_B (dC : Nat → ClassId) (dI : Nat → Nat → Nat) (cA : Nat → ClassId) (α : Nat → Nat) (sh : aS) (P : aP) (I : aI) (J : aJ) (sz : Nat) (U : State) : Prop :=
  U.heap.size = sz ∧ va_P (dC, dI) vwCl (am_ws α cA sh I J P) U.heap ∧ va_D (fun _ => True) (am_ws α cA sh I J P) ∧ va_K (dC, dI) vwCl (am_tys cA) U ∧ am_T U ∧ am_Z α (va_A (am_ws α cA sh I J P) sz) U U.heap
/-- a method's contract: from the world (sh, P, I, J), with these arguments, it returns r, and the world is (sh1, P1, I1, J1) -/
def AM (y : MethodName) (b : ByteArray) (n : Nat) (ret : Option FieldType) (fr lo : Nat) (as : List Value) (sh : aS) (P : aP) (I : aI) (J : aJ) (r : Option Value) (sh1 : aS) (P1 : aP) (I1 : aI) (J1 : aJ) (mc ms : Nat) : Prop :=
  ∀ (l : Launch) (dC : Nat → ClassId) (dI : Nat → Nat → Nat) (cA : Nat → ClassId) (α : Nat → Nat) (sz : Nat), Met l y [.code y b n ret] ({ frames := fr, cells := mc, slots := ms, locals := lo }) (va_Pc (as.map (am_v α)) (am_B dC dI cA α sh P I J sz))
    (am_Q dC dI cA (va_A (am_ws α cA sh I J P) sz) α sh.length sh1 P1 I1 J1 r) mc ms (va_A (am_ws α cA sh I J P) sz)
theorem am_cat (α : Nat → Nat) (v : Value) : (am_v α v).category = v.category := by cases v <;> rfl
theorem am_catsum (α : Nat → Nat) (st : List Value) : ((st.map (am_v α)).map fun v => v.category) = st.map fun v => v.category := by
  simp [am_cat]
theorem am_sl (α : Nat → Nat) (as : List Value) : (lg_sl (as.map (am_v α))).length = (lg_sl as).length := by
  induction as with
  | nil => rfl
  | cons v t ih =>
    simp only [lg_sl, List.map_cons, List.flatMap_cons, List.length_append, am_cat] at ih ⊢
    rw [ih]
    split <;> rfl
theorem am_args (α : Nat → Nat) (as : List Value) : ∀ i, lv_args i (as.map (am_v α)) = (lv_args i as).map (fun q => (q.1, am_v α q.2)) := by
  induction as with
  | nil => intro i; rfl
  | cons v t ih => intro i; simp only [List.map_cons, lv_args, am_cat, ih]
theorem am_met {y : MethodName} {b : ByteArray} {n : Nat} {ret : Option FieldType} {fr lo : Nat} {as : List Value} {sh : aS} {P : aP} {I : aI} {J : aJ} {r : Option Value} {sh1 : aS} {P1 : aP} {I1 : aI} {J1 : aJ} {mc ms : Nat} (hy : plainName y.cls = true) (hn : (lg_sl as).length ≤ n)
    (h : ∀ K : aK, am_C K b n y.cls y.name ({ frames := fr, cells := mc, slots := ms, locals := lo }) → am_R K ret r sh1 P1 I1 J1 mc ms → AW K n 0 (lv_args 0 as) [] sh P I J 0 0) : AM y b n ret fr lo as sh P I J r sh1 P1 I1 J1 mc ms := by
  intro l dC dI cA α sz
  refine Met.ofW (cc := b) (maxL := n) (ret := ret) hy rfl ?_
  intro p e s m args below meth c s₁ B hml hv
  obtain ⟨rfl, hsz, hP, hD0, hK, hT, hZ⟩ := hv
  subst hsz
  have hD := hD0.self (sz := s.heap.size)
  have hl := lv_entry (as.map (am_v α)) (n := n) (by rw [am_sl]; exact hn)
  rw [lg_entry_eq]
  rw [am_args] at hl
  exact h (p, l, e, _, s, m, _, below, meth, c, _, dC, dI, cA, _, α, sh.length)
    ⟨B.exec, B.bytes, hml, findClass_of_methodNamed B.named, B.notSynchronized, (name_of_methodNamed B.named B.method).1, rfl, hT, hK, fun q hq => Or.inr hq, hZ⟩ ⟨B.returns, rfl⟩ α s.heap [] _ ⟨am_al.rf, Nat.le_refl _, fun _ => rfl⟩ hP hD va_S.rf hl
