/-! THE CLAIM OUT OF ONE WALK OF THE LAW'S BODY. Your part is whole_start (and what it stands on); all else here is the same for every law, but numbers. -/
def R_law : String := "PurseAuctionLaw"
def lw_P (b : Addr) (xs : List Int32) (args : Array Value) (s : State) : Prop := args = #[.ref b] ∧ s.IntsAt b xs ∧ xs.length ≤ 2048 ∧ (Jvm.Cond.and given_1 narrow_1).before args s = true
def lw_Q (_ : Array Value) (s : State) (o : Outcome) (t : State) : Prop := o = .returned (some (.int 1)) ∧ Framed s o t [] 600000 7302250
def lw_Z (below : List Frame) (a : Array Value) (s : State) : State → Prop := fun t => ∃ o, t.status = .running ∧ Ended t below o ∧ lw_Q a s o t
/-- the law's own end, with 1 on the stack, nothing written that was there before, its room as the claim has it -/
theorem lw_ret {p : Program} {l : Launch} {e : Env} {s : State} {m : MethodId} {below : List Frame} {meth : Method} {c : Code} {b : Nat} (hx : p.tables.exec = Jvm.exec) (hb : c.code = code) (hr : meth.sig.returnType = ret) (hlocks : meth.locks = false) {pc : Nat} {H : Heap} {ls : Array Slot} (hdg : decode code pc = .ok (.ireturn, 1)) : W p l e room_1 s m #[Value.ref b] below meth c H [] 600000 7302250 (lw_Z below #[Value.ref b] s) (F0 m pc ls [.int 1]) := by
  intro T hT X
  obtain ⟨fs, hret, hrun, hended, hW, hframe⟩ := X.leave (v := some (.int 1)) (hlocks := hlocks) (fun h => by rw [hr] at h; cases h)
  have hmeth' : T.vm.method? m = some meth := X.method'
  refine ⟨T.setFrames fs, ?_, .returned (some (.int 1)), hrun, hended, rfl, ⟨_, rfl⟩, hW, hframe⟩
  jvm_step X.here [X.here.top, hx, hb, hdg, hmeth', hr, ret, narrow_b1]
  (try refine ⟨rfl, ?_⟩); (try refine ⟨rfl, ?_⟩)
  first | (intro acts; rw [hret _ acts rfl rfl rfl]) | rw [hret _ _ rfl rfl rfl]
  exact Steps.refl _
/-- what holds at the law's entry: the machine, the code, the tables' words (any of lw_tbl by 'hts w (by decide +kernel)'), the script of L ints xs at the cell b, what the Statement gives of the start (any of its parts by flat_of_before) -/
def lw_At (p : Program) (s : State) (m : MethodId) (meth : Method) (c : Code) (b L : Nat) (xs : Nat → Int32) : Prop :=
  p.tables.exec = Jvm.exec ∧ c.code = code ∧ meth.sig.returnType = ret ∧ c.maxLocals = 4 ∧ s.vm.findClass R_law = some m.cls ∧ (∀ w ∈ lw_tbl, w.before #[Value.ref b] s = true) ∧ va_X b L xs s s.heap ∧ b < s.heap.size ∧ meth.locks = false ∧ (Jvm.Cond.and given_1 narrow_1).before #[Value.ref b] s = true
/-! the rows of the law over the abstract machine -/
def am_L0 (K : aK) (b L : Nat) (xs : Nat → Int32) : Prop := match K with
  | (p, l, e, R, s, m, args, below, meth, c, Q, dC, dI, cA, A, α0, N0) => R = room_1 ∧ args = #[Value.ref b] ∧ Q = lw_Z below #[Value.ref b] s ∧ meth.sig.returnType = ret ∧ va_X b L xs s s.heap ∧ b < s.heap.size ∧ ¬ A b ∧ α0 1000000 = b ∧ ∀ q, A q → s.heap.size ≤ q
section AX
variable {K : aK} {cc : ByteArray} {nL : Nat} {own nm : String} {R0 : Room} {pc : Nat} {lo lo' : List (Nat × Value)} {st : List Value} {sh : aS} {P : aP} {I : aI} {J : aJ} {cells slots b L : Nat} {xs : Nat → Int32}
theorem ar_xld (X : am_C K cc nL own nm R0) (HL : am_L0 K b L xs) {i : Int32} (hd : decode cc pc = .ok (.iaload, 1)) (hi : vp_in i L) (kk : AW K nL (pc + 1) lo (.int (xs i.toNatClampNeg) :: st) sh P I J cells slots) : AW K nL pc lo (.int i :: .ref 1000000 :: st) sh P I J cells slots := by
  obtain ⟨p, l, e, R, s, m, args, below, meth, c, Q, dC, dI, cA, A, α0, N0⟩ := K
  obtain ⟨hx, hb, hml, hown, hlk, hnm, hR0, hT, hK, hA, hZ⟩ := X
  obtain ⟨r1, r2, r3, r4, hX, hbl, hbA, hα, hAq⟩ := HL
  intro α H locs ls ha hP hD hS hl
  have hee : α 1000000 = b := (ha.1 1000000 (Or.inr (Nat.le_refl _))).trans hα
  show W p l e R s m args below meth c H locs cells slots Q (F0 m pc ls (.int i :: .ref (α 1000000) :: st.map (am_v α)))
  rw [hee]
  exact va_sld hx hb hX hbl hbA hS hi hd (kk α H locs ls ha hP hD hS hl)
theorem ar_xlen (X : am_C K cc nL own nm R0) (HL : am_L0 K b L xs) (hd : decode cc pc = .ok (.arraylength, 1)) (kk : AW K nL (pc + 1) lo (.int (nI L) :: st) sh P I J cells slots) : AW K nL pc lo (.ref 1000000 :: st) sh P I J cells slots := by
  obtain ⟨p, l, e, R, s, m, args, below, meth, c, Q, dC, dI, cA, A, α0, N0⟩ := K
  obtain ⟨hx, hb, hml, hown, hlk, hnm, hR0, hT, hK, hA, hZ⟩ := X
  obtain ⟨r1, r2, r3, r4, hX, hbl, hbA, hα, hAq⟩ := HL
  intro α H locs ls ha hP hD hS hl
  have hee : α 1000000 = b := (ha.1 1000000 (Or.inr (Nat.le_refl _))).trans hα
  show W p l e R s m args below meth c H locs cells slots Q (F0 m pc ls (.ref (α 1000000) :: st.map (am_v α)))
  rw [hee]
  exact va_slen hx hb hX hbl hbA hS hd (kk α H locs ls ha hP hD hS hl)
theorem ar_widen {k n : Nat} (h1 : cells ≤ k) (h2 : slots ≤ n) (kk : AW K nL pc lo st sh P I J k n) : AW K nL pc lo st sh P I J cells slots := by
  obtain ⟨p, l, e, R, s, m, args, below, meth, c, Q, dC, dI, cA, A, α0, N0⟩ := K
  intro α H locs ls ha hP hD hS hl
  exact W.widen h1 h2 (kk α H locs ls ha hP hD hS hl)
theorem ar_lawret (X : am_C K cL_law nL own nm R0) (HL : am_L0 K b L xs) (hc : cells ≤ 600000) (hs : slots ≤ 7302250) (hd : decode cL_law pc = .ok (.ireturn, 1)) : AW K nL pc lo [.int 1] sh P I J cells slots := by
  obtain ⟨p, l, e, R, s, m, args, below, meth, c, Q, dC, dI, cA, A, α0, N0⟩ := K
  obtain ⟨hx, hb, hml, hown, hlk, hnm, hR0, hT, hK, hA, hZ⟩ := X
  obtain ⟨rfl, rfl, rfl, r4, hX, hbl, hbA, hα, hAq⟩ := HL
  intro α H locs ls ha hP hD hS hl
  show W p l e room_1 s m #[Value.ref b] below meth c H locs cells slots (lw_Z below #[Value.ref b] s) (F0 m pc ls [.int 1])
  exact va_forget (fun q hq => hAq _ (hS.2.2 q hq)) (W.widen hc hs (lw_ret hx hb r4 hlk hd))
end AX
abbrev lw_lo (k : Nat) : List (Nat × Value) := [(3, .int (nI k)), (2, .ref 37), (1, .ref 0), (0, .ref 1000000)]
def lw_go (K : aK) (pc k : Nat) : Prop := ∀ (sh : aS) (P : aP) (I : aI) (J : aJ), MS sh P → MI sh P I → AW K 4 pc (lw_lo k) [] sh P I J sh.length (8000 + 115 * sh.length)
theorem MS.len {sh : aS} {P : aP} (h : MS sh P) : sh.length ≤ 77 := Nat.le_trans (Nat.le_trans (Nat.le_add_right _ _) (Nat.le_add_right _ _)) h.2.2.2.2
theorem MS.room {sh : aS} {P : aP} (h : MS sh P) : sh.length ≤ room_1.cells ∧ 8000 + 115 * sh.length ≤ room_1.slots := by
  have := h.len
  show sh.length ≤ 600000 ∧ 8000 + 115 * sh.length ≤ 7302250
  omega
section AY
variable {K : aK} {nm : String} {pc : Nat} {st : List Value} {sh : aS} {P : aP} {I : aI} {J : aJ} {cells slots b L k : Nat} {xs : Nat → Int32}
/-- a number of the script is read -/
theorem lw_arg (X : am_C K cL_law 4 RL nm room_1) (HL : am_L0 K b L xs) (hL : L ≤ 2048) {j : Nat} {n : Int} (d0 : decode cL_law pc = .ok (.aload_n 0, 1)) (d1 : decode cL_law (pc + 1) = .ok (.iload_n 3, 1)) (d2 : decode cL_law (pc + 2) = .ok (.iconst n, 1)) (d3 : decode cL_law (pc + 3) = .ok (.iadd, 1)) (d4 : decode cL_law (pc + 4) = .ok (.iaload, 1)) (hn : Int32.ofInt n = nI j) (hj : k + j < L) (kk : AW K 4 (pc + 5) (lw_lo k) (.int (xs (k + j)) :: st) sh P I J cells slots) : AW K 4 pc (lw_lo k) st sh P I J cells slots := by
  refine ar_aload_n X d0 rfl 3 rfl ?_
  refine ar_iload_n X d1 rfl 0 rfl ?_
  refine ar_iconst X d2 hn ?_
  refine ar_iadd X d3 ?_
  rw [nI_add]
  refine ar_xld X HL d4 (vp_in_nI hj (by omega)) ?_
  rw [nI_tn (by omega)]
  exact kk
theorem lw_cmp_self (x : Int64) : lg_cmp x x = 0 := by
  unfold lg_cmp
  simp
end AY
