/-! CALLS over the abstract machine -/
def am_rv (N : Nat) (v : Value) : Prop := match v with
  | .ref k => k < N ∨ 1000000 ≤ k
  | _ => True
def am_rvs (N : Nat) (l : List Value) : Prop := match l with
  | [] => True
  | v :: t => am_rv N v ∧ am_rvs N t
theorem am_rv_eq {α α' : Nat → Nat} {N : Nat} (ha : am_al α N α') {v : Value} (h : am_rv N v) : am_v α' v = am_v α v := by
  cases v with
  | ref k => exact congrArg Value.ref (ha k h)
  | _ => rfl
theorem am_rvs_eq {α α' : Nat → Nat} {N : Nat} (ha : am_al α N α') {st : List Value} (h : am_rvs N st) : st.map (am_v α') = st.map (am_v α) := by
  induction st with
  | nil => rfl
  | cons v t ih => simp only [List.map_cons, am_rv_eq ha h.1, ih h.2]
theorem am_rvs_lo {α α' : Nat → Nat} {N : Nat} (ha : am_al α N α') {lo : List (Nat × Value)} (h : am_rvs N (lo.map (·.2))) : lo.map (fun q => (q.1, am_v α' q.2)) = lo.map (fun q => (q.1, am_v α q.2)) := by
  induction lo with
  | nil => rfl
  | cons v t ih => simp only [List.map_cons, am_rv_eq ha h.1, ih h.2]
def am_lk (own : String) (idx : Nat) (y : MethodName) : Prop := Cond.methodLink own idx y ∈ lw_tbl ∨ ∃ host, Cond.methodLinkNest own idx y host ∈ lw_tbl
def am_mt (y : MethodName) (b : ByteArray) (n : Nat) (ret : Option FieldType) (k : Nat) : Prop := Cond.code y b n ret ∈ lw_tbl ∧ Cond.initialized y.cls ∈ lw_tbl ∧ (y.cls ≠ "java/lang/invoke/MethodHandle" ∧ y.cls ≠ "java/lang/invoke/VarHandle") ∧ (parseMethodDescriptor y.desc).map (fun d => d.parameters.length) = some k
theorem am_len {y : MethodName} {k : Nat} (h : (parseMethodDescriptor y.desc).map (fun d => d.parameters.length) = some k) : ∀ sig, parseMethodDescriptor y.desc = some sig → k = sig.parameters.length := by
  intro sig h1
  rw [h1] at h
  exact (Option.some.inj h).symm
theorem am_blind {as : List Value} {dC : Nat → ClassId} {dI : Nat → Nat → Nat} {cA : Nat → ClassId} {α : Nat → Nat} {sh : aS} {P : aP} {I : aI} {J : aJ} {sz : Nat} : FrameBlind (va_Pc as (am_B dC dI cA α sh P I J sz)) := by
  intro a U g mk h
  obtain ⟨h0, h1, h2, h3, h4, h5, h6⟩ := h
  exact ⟨h0, h1, h2, h3, va_K.moved (u := U) (U := U.calling g mk a) (Vm.Alike.refl U.vm) h4, h5.calling, am_Z.moved (u := U) (U := U.calling g mk a) (Vm.Alike.refl U.vm) h6⟩
theorem am_sub {A : Nat → Prop} {ws : va_W} {H0 H : Heap} {locs : List Loc} (hD : va_D A ws) (hS : va_S A H0 H locs) (hA : ∀ q, H0.size ≤ q → A q) : ∀ q, va_A ws H.size q → A q := by
  intro q h
  rcases h with ⟨k, e, h⟩ | h
  · exact hD.2 k (q, e) h
  · exact hA q (Nat.le_trans hS.1 h)
/-- what a callee is given -/
theorem am_give {dC : Nat → ClassId} {dI : Nat → Nat → Nat} {cA : Nat → ClassId} {A : Nat → Prop} {α α0 : Nat → Nat} {N0 : Nat} {sh : aS} {P : aP} {I : aI} {J : aJ} {s : State} {H : Heap} {locs : List Loc} (hK : va_K (dC, dI) vwCl (am_tys cA) s) (hT : am_T s) (hZ : am_Z α0 A s s.heap) (hA : ∀ q, s.heap.size ≤ q → A q) (ha : am_al α0 N0 α) (hP : va_P (dC, dI) vwCl (am_ws α cA sh I J P) H) (hD : va_D A (am_ws α cA sh I J P)) (hS : va_S A s.heap H locs) (U : State) (hU : U.heap = H) (hW : s.WarmedH U.vm) : am_B dC dI cA α sh P I J H.size U := by
  refine ⟨by rw [hU], by rw [hU]; exact hP, hD.weaken (fun _ _ _ _ => trivial), va_K.moved hW.alike hK, hT.moved hW, ?_⟩
  have h1 := ((hZ.kept (H1 := H) (fun a h1 h2 => hS.2.1 a h1 h2)).al ha).narrow (am_sub hD hS hA)
  rw [hU]
  exact h1.moved hW.alike
section AC
variable {K : aK} {cc : ByteArray} {nL : Nat} {own nm : String} {R0 : Room} {pc : Nat} {lo lo' : List (Nat × Value)} {st : List Value} {sh : aS} {P : aP} {I : aI} {J : aJ} {cells slots : Nat} {β : Type} {Rs : β}
theorem am_after {p : Program} {l : Launch} {e : Env} {R : Room} {s : State} {m : MethodId} {args : Array Value} {below : List Frame} {meth : Method} {c : Code} {Q : State → Prop} {dC : Nat → ClassId} {dI : Nat → Nat → Nat} {cA : Nat → ClassId} {A : Nat → Prop} {α0 α : Nat → Nat} {N0 : Nat} {H : Heap} {locs : List Loc} {ls : Array Slot} {st0 : List Value} {mc ms : Nat} {sh1 : aS} {P1 : aP} {I1 : aI} {J1 : aJ} {r : Option Value} {a : Array Value}
    (hr : va_Run p l e R s m args below meth c H locs cells slots mc ms (F0 m pc ls st0) (st.map (am_v α)) (am_Q dC dI cA (va_A (am_ws α cA sh I J P) H.size) α sh.length sh1 P1 I1 J1 r a) (va_A (am_ws α cA sh I J P) H.size))
    (ha : am_al α0 N0 α ∧ N0 ≤ sh.length ∧ (sh.length = N0 → α = α0)) (hD : va_D A (am_ws α cA sh I J P)) (hS : va_S A s.heap H locs) (hA : ∀ q, s.heap.size ≤ q → A q) (hl : lv_has ls nL (lo.map (fun q => (q.1, am_v α q.2))))
    (hsh : sh.length ≤ sh1.length) (hv : sh1.length = sh.length ∨ (am_rvs sh.length (lo.map (·.2)) ∧ am_rvs sh.length st)) (hrv : ∀ v, r = some v → ∀ β : Nat → Nat, am_v β v = v)
    (kk : AW (p, l, e, R, s, m, args, below, meth, c, Q, dC, dI, cA, A, α0, N0) nL (pc + 3) lo (r.toList ++ st) sh1 P1 I1 J1 (cells + mc) (slots + ms)) : W p l e R s m args below meth c H locs cells slots Q (F0 m pc ls st0) := by
  have hF := am_sub hD hS hA
  intro T hT X
  obtain ⟨v, st₀, t, T', L, h0, X', hL, e1, e2, ⟨⟨hv0, α', hal, hal2, hP', hD'⟩, hz, hk⟩, hst⟩ := hr T hT X
  have hvr : v = r := Outcome.returned.inj hv0
  subst hvr
  rw [h0] at hz hk
  have eqs : st.map (am_v α') = st.map (am_v α) ∧ lo.map (fun q => (q.1, am_v α' q.2)) = lo.map (fun q => (q.1, am_v α q.2)) := by
    rcases hv with hv | hv
    · rw [hal2 hv]; exact ⟨rfl, rfl⟩
    · exact ⟨am_rvs_eq hal hv.2, am_rvs_lo hal hv.1⟩
  have hst1 : (v.toList ++ st).map (am_v α') = v.toList ++ st.map (am_v α) := by
    rw [List.map_append, eqs.1]
    cases v with
    | none => rfl
    | some w => simp [hrv w rfl α']
  have ha' : am_al α0 N0 α' ∧ N0 ≤ sh1.length ∧ (sh1.length = N0 → α' = α0) := ⟨ha.1.tr hal ha.2.1, Nat.le_trans ha.2.1 hsh, fun h => by
    have h2 : sh.length = N0 := by omega
    rw [hal2 (by omega), ha.2.2 h2]⟩
  have hS' : va_S A s.heap T'.heap (locs ++ L) := ⟨Nat.le_trans hS.1 (by rw [e1]; exact hz), fun q h1 h2 => by rw [e1, hk q (Nat.lt_of_lt_of_le h1 hS.1) (fun z => h2 (hF q z))]; exact hS.2.1 q h1 h2, fun q hq => by
      rcases List.mem_append.mp hq with h | h
      · exact hS.2.2 q h
      · exact hF _ (hL q h)⟩
  have hw := kk α' T'.heap (locs ++ L) ls ha' (by rw [e1]; exact hP') (hD'.weaken (fun k q _ h => hF q.1 h)) hS' (by rw [eqs.2]; exact hl)
  rw [hst1] at hw
  obtain ⟨t2, a1, b1⟩ := hw T' rfl X'
  exact ⟨t2, hst t2 a1, b1⟩
theorem ar_callV (X : am_C K cc nL own nm R0) {idx n k fr lc mc ms : Nat} {y : MethodName} {b : ByteArray} {ret : Option FieldType} {q : Nat} {As : List Value} {sh1 : aS} {P1 : aP} {I1 : aI} {J1 : aJ} {r : Option Value} (hd : decode cc pc = .ok (.invokevirtual idx, 3)) (hM : AM y b n ret fr lc (.ref q :: As) sh P I J r sh1 P1 I1 J1 mc ms) (hlk : am_lk own idx y) (hm : am_mt y b n ret k) (hm2 : Cond.instanceMethod y ∈ lw_tbl ∧ Cond.selects y.cls y y ∈ lw_tbl) (hs : ∃ ci T n, sh[q]? = some (.inl ci) ∧ vwCl[ci]? = some (y.cls, T, n)) (hn : As.length = k) (hcat : (st.map fun v => v.category).sum ≤ 8) (hroom : fr + 1 ≤ R0.frames ∧ 8 + (n + 11) + lc ≤ R0.locals) (hcells : cells + mc ≤ R0.cells ∧ slots + ms ≤ R0.slots)
    (hsh : sh.length ≤ sh1.length) (hv : sh1.length = sh.length ∨ (am_rvs sh.length (lo.map (·.2)) ∧ am_rvs sh.length st)) (hrv : ∀ v, r = some v → ∀ β : Nat → Nat, am_v β v = v) (kk : AW K nL (pc + 3) lo (r.toList ++ st) sh1 P1 I1 J1 (cells + mc) (slots + ms)) : AW K nL pc lo (As.reverse ++ .ref q :: st) sh P I J cells slots := by
  obtain ⟨p, l, e, R, s, m, args, below, meth, c, Q, dC, dI, cA, A, α0, N0⟩ := K
  obtain ⟨hx, hb, hml, hown, hlk0, hnm, hR0, hT, hK, hA, hZ⟩ := X
  intro α H locs ls ha hP hD hS hl
  subst hR0
  have hM1 := hM l dC dI cA α H.size
  have hpc : ∀ U : State, U.heap = H → s.WarmedH U.vm → va_Pc ((.ref q :: As).map (am_v α)) (am_B dC dI cA α sh P I J H.size) ((.ref q :: As).map (am_v α)).toArray U := fun U hU hW => ⟨rfl, am_give hK hT hZ hA ha.1 hP hD hS U hU hW⟩
  have hws : ∀ w ∈ [Cond.code y b n ret], ∀ (a' : Array Value) (U : State), s.WarmedH U.vm → w.before a' U = true := fun w hw a' U hW => by
    rw [List.mem_singleton.mp hw]
    exact hT.moved hW _ hm.1 rfl a'
  have hcode := hT _ hm.1 rfl args
  have hini := hT _ hm.2.1 rfl args
  have hstk : (As.reverse ++ .ref q :: st : List Value).map (am_v α) = ((As.map (am_v α)).reverse ++ .ref (α q) :: st.map (am_v α)) := by
    simp [am_v]
  have hcat' : 2 * (F0 m pc ls ([] : List Value)).monitorRoom + ((st.map (am_v α)).map fun v => v.category).sum ≤ 8 := by
    rw [am_catsum]
    show 2 * 0 + _ ≤ 8
    omega
  have hnn : (As.map (am_v α)).length = k := by rw [List.length_map]; exact hn
  refine am_after (a := ((.ref q :: As).map (am_v α)).toArray) (st := st) (lo := lo) ?_ ha hD hS hA hl hsh hv hrv kk
  rw [hstk]
  obtain ⟨ci, T', n', hs1, hs2⟩ := hs
  have hrec := va_recv hK hP hs2 (am_ws_get hs1)
  rcases hlk with hlk | ⟨host, hlk⟩
  · exact va_runV (As := As.map (am_v α)) (rest := st.map (am_v α)) ⟨hx, hb, hml, hown, (fun _ h => nomatch h : ∀ w ∈ ([] : List Cond), w.before args s = true)⟩ hM1 ⟨⟨rfl, rfl, hroom.1, hroom.2, hws, List.mem_singleton.mpr rfl, hcode, hini, hm.2.2.1, am_len hm.2.2.2, hT _ hlk rfl args⟩, hT _ hm2.1 rfl args, hT _ hm2.2 rfl args⟩ ⟨am_blind, hrec, hpc⟩ rfl hnn hl.1 rfl hcat' hd hcells
  · exact va_runVN (As := As.map (am_v α)) (rest := st.map (am_v α)) ⟨hx, hb, hml, hown, (fun _ h => nomatch h : ∀ w ∈ ([] : List Cond), w.before args s = true)⟩ hM1 ⟨⟨⟨rfl, rfl, hroom.1, hroom.2, hws, List.mem_singleton.mpr rfl⟩, hcode, hini, hm.2.2.1, am_len hm.2.2.2, hT _ hlk rfl args⟩, hT _ hm2.1 rfl args, hT _ hm2.2 rfl args⟩ ⟨am_blind, hrec, hpc⟩ rfl hnn hl.1 rfl hcat' hd hcells
theorem ar_callS (X : am_C K cc nL own nm R0) {idx n k fr lc mc ms : Nat} {y : MethodName} {b : ByteArray} {ret : Option FieldType} {As : List Value} {sh1 : aS} {P1 : aP} {I1 : aI} {J1 : aJ} {r : Option Value} (hd : decode cc pc = .ok (.invokestatic idx, 3)) (hM : AM y b n ret fr lc (As) sh P I J r sh1 P1 I1 J1 mc ms) (hlk : am_lk own idx y) (hm : am_mt y b n ret k) (hm2 : Cond.static y ∈ lw_tbl) (hn : As.length = k) (hcat : (st.map fun v => v.category).sum ≤ 8) (hroom : fr + 1 ≤ R0.frames ∧ 8 + (n + 11) + lc ≤ R0.locals) (hcells : cells + mc ≤ R0.cells ∧ slots + ms ≤ R0.slots)
    (hsh : sh.length ≤ sh1.length) (hv : sh1.length = sh.length ∨ (am_rvs sh.length (lo.map (·.2)) ∧ am_rvs sh.length st)) (hrv : ∀ v, r = some v → ∀ β : Nat → Nat, am_v β v = v) (kk : AW K nL (pc + 3) lo (r.toList ++ st) sh1 P1 I1 J1 (cells + mc) (slots + ms)) : AW K nL pc lo (As.reverse ++ st) sh P I J cells slots := by
  obtain ⟨p, l, e, R, s, m, args, below, meth, c, Q, dC, dI, cA, A, α0, N0⟩ := K
  obtain ⟨hx, hb, hml, hown, hlk0, hnm, hR0, hT, hK, hA, hZ⟩ := X
  intro α H locs ls ha hP hD hS hl
  subst hR0
  have hM1 := hM l dC dI cA α H.size
  have hpc : ∀ U : State, U.heap = H → s.WarmedH U.vm → va_Pc ((As).map (am_v α)) (am_B dC dI cA α sh P I J H.size) ((As).map (am_v α)).toArray U := fun U hU hW => ⟨rfl, am_give hK hT hZ hA ha.1 hP hD hS U hU hW⟩
  have hws : ∀ w ∈ [Cond.code y b n ret], ∀ (a' : Array Value) (U : State), s.WarmedH U.vm → w.before a' U = true := fun w hw a' U hW => by
    rw [List.mem_singleton.mp hw]
    exact hT.moved hW _ hm.1 rfl a'
  have hcode := hT _ hm.1 rfl args
  have hini := hT _ hm.2.1 rfl args
  have hstk : (As.reverse ++ st : List Value).map (am_v α) = ((As.map (am_v α)).reverse ++ st.map (am_v α)) := by
    simp [am_v]
  have hcat' : 2 * (F0 m pc ls ([] : List Value)).monitorRoom + ((st.map (am_v α)).map fun v => v.category).sum ≤ 8 := by
    rw [am_catsum]
    show 2 * 0 + _ ≤ 8
    omega
  have hnn : (As.map (am_v α)).length = k := by rw [List.length_map]; exact hn
  refine am_after (a := ((As).map (am_v α)).toArray) (st := st) (lo := lo) ?_ ha hD hS hA hl hsh hv hrv kk
  rw [hstk]
  rcases hlk with hlk | ⟨host, hlk⟩
  · exact va_runS (As := As.map (am_v α)) (rest := st.map (am_v α)) ⟨hx, hb, hml, hown, (fun _ h => nomatch h : ∀ w ∈ ([] : List Cond), w.before args s = true)⟩ hM1 ⟨⟨rfl, rfl, hroom.1, hroom.2, hws, List.mem_singleton.mpr rfl, hcode, hini, hm.2.2.1, am_len hm.2.2.2, hT _ hlk rfl args⟩, hT _ hm2 rfl args⟩ ⟨am_blind, hpc⟩ rfl hnn hl.1 rfl hcat' hd hcells
  · exact va_runSN (As := As.map (am_v α)) (rest := st.map (am_v α)) ⟨hx, hb, hml, hown, (fun _ h => nomatch h : ∀ w ∈ ([] : List Cond), w.before args s = true)⟩ hM1 ⟨⟨⟨rfl, rfl, hroom.1, hroom.2, hws, List.mem_singleton.mpr rfl⟩, hcode, hini, hm.2.2.1, am_len hm.2.2.2, hT _ hlk rfl args⟩, hT _ hm2 rfl args, trivial⟩ ⟨am_blind, hpc⟩ rfl hnn hl.1 rfl hcat' hd hcells
theorem ar_callI (X : am_C K cc nL own nm R0) {idx n k fr lc mc ms : Nat} {y : MethodName} {b : ByteArray} {q : Nat} {As : List Value} {sh1 : aS} {P1 : aP} {I1 : aI} {J1 : aJ} {r : Option Value} (hd : decode cc pc = .ok (.invokespecial idx, 3)) (hM : AM y b n none fr lc (.ref q :: As) sh P I J r sh1 P1 I1 J1 mc ms) (hlk : am_lk own idx y) (hm : am_mt y b n none k) (hm2 : Cond.instanceMethod y ∈ lw_tbl ∧ y.name = "<init>") (hn : As.length = k) (hcat : (st.map fun v => v.category).sum ≤ 8) (hroom : fr + 1 ≤ R0.frames ∧ 8 + (n + 11) + lc ≤ R0.locals) (hcells : cells + mc ≤ R0.cells ∧ slots + ms ≤ R0.slots)
    (hsh : sh.length ≤ sh1.length) (hv : sh1.length = sh.length ∨ (am_rvs sh.length (lo.map (·.2)) ∧ am_rvs sh.length st)) (hrv : ∀ v, r = some v → ∀ β : Nat → Nat, am_v β v = v) (kk : AW K nL (pc + 3) lo (r.toList ++ st) sh1 P1 I1 J1 (cells + mc) (slots + ms)) : AW K nL pc lo (As.reverse ++ .ref q :: st) sh P I J cells slots := by
  obtain ⟨p, l, e, R, s, m, args, below, meth, c, Q, dC, dI, cA, A, α0, N0⟩ := K
  obtain ⟨hx, hb, hml, hown, hlk0, hnm, hR0, hT, hK, hA, hZ⟩ := X
  intro α H locs ls ha hP hD hS hl
  subst hR0
  have hM1 := hM l dC dI cA α H.size
  have hpc : ∀ U : State, U.heap = H → s.WarmedH U.vm → va_Pc ((.ref q :: As).map (am_v α)) (am_B dC dI cA α sh P I J H.size) ((.ref q :: As).map (am_v α)).toArray U := fun U hU hW => ⟨rfl, am_give hK hT hZ hA ha.1 hP hD hS U hU hW⟩
  have hws : ∀ w ∈ [Cond.code y b n none], ∀ (a' : Array Value) (U : State), s.WarmedH U.vm → w.before a' U = true := fun w hw a' U hW => by
    rw [List.mem_singleton.mp hw]
    exact hT.moved hW _ hm.1 rfl a'
  have hcode := hT _ hm.1 rfl args
  have hini := hT _ hm.2.1 rfl args
  have hstk : (As.reverse ++ .ref q :: st : List Value).map (am_v α) = ((As.map (am_v α)).reverse ++ .ref (α q) :: st.map (am_v α)) := by
    simp [am_v]
  have hcat' : 2 * (F0 m pc ls ([] : List Value)).monitorRoom + ((st.map (am_v α)).map fun v => v.category).sum ≤ 8 := by
    rw [am_catsum]
    show 2 * 0 + _ ≤ 8
    omega
  have hnn : (As.map (am_v α)).length = k := by rw [List.length_map]; exact hn
  refine am_after (a := ((.ref q :: As).map (am_v α)).toArray) (st := st) (lo := lo) ?_ ha hD hS hA hl hsh hv hrv kk
  rw [hstk]
  rcases hlk with hlk | ⟨host, hlk⟩
  · exact va_runI (As := As.map (am_v α)) (rest := st.map (am_v α)) ⟨hx, hb, hml, hown, (fun _ h => nomatch h : ∀ w ∈ ([] : List Cond), w.before args s = true)⟩ hM1 ⟨⟨rfl, rfl, hroom.1, hroom.2, hws, List.mem_singleton.mpr rfl, hcode, hini, hm.2.2.1, am_len hm.2.2.2, hT _ hlk rfl args⟩, hm2.2, hT _ hm2.1 rfl args⟩ ⟨am_blind, hpc⟩ rfl hnn hl.1 rfl hcat' hd hcells
  · exact va_runIN (As := As.map (am_v α)) (rest := st.map (am_v α)) ⟨hx, hb, hml, hown, (fun _ h => nomatch h : ∀ w ∈ ([] : List Cond), w.before args s = true)⟩ hM1 ⟨⟨⟨rfl, rfl, hroom.1, hroom.2, hws, List.mem_singleton.mpr rfl⟩, hcode, hini, hm.2.2.1, am_len hm.2.2.2, hT _ hlk rfl args⟩, hm2.2, hT _ hm2.1 rfl args⟩ ⟨am_blind, hpc⟩ rfl hnn hl.1 rfl hcat' hd hcells
end AC
