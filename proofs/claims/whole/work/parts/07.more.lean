/-! the JDK's own, static rows, allocation -/
def am_max (x y : Int32) : Int32 := if x < y then y else x
def am_min (x y : Int32) : Int32 := if y < x then y else x
def am_cpy (I : aI) (a b : Nat) (n : Nat) : aI := fun q j => if q = b ∧ j < n then I a j else I q j
def am_zI (I : aI) (N : Nat) : aI := fun q j => if q = N then 0 else I q j
def am_zJ (J : aJ) (N : Nat) : aJ := fun q j => if q = N then 0 else J q j
def am_zP (P : aP) (N : Nat) : aP := fun q j => if q = N then none else P q j
/-- no reference that hangs -/
def am_pc (P : aP) (N : Nat) : Prop := ∀ q k z, P q k = some z → z < N
theorem am_pc.z {P : aP} {N M : Nat} (h : am_pc P N) : am_pc (am_zP P M) N := by
  intro q k z hz
  simp only [am_zP] at hz
  split at hz
  · cases hz
  · exact h q k z hz
theorem am_pc.w {P : aP} {N q0 k0 z0 : Nat} (h : am_pc P N) (hz0 : z0 < N) : am_pc (am_wP P q0 k0 (some z0)) N := by
  intro q k z hz
  simp only [am_wP] at hz
  split at hz
  · cases hz; exact hz0
  · exact h q k z hz
theorem am_pc.up {P : aP} {N N' : Nat} (h : am_pc P N) (hN : N ≤ N') : am_pc P N' := fun q k z hz => Nat.lt_of_lt_of_le (h q k z hz) hN
theorem am_ws_push {α : Nat → Nat} {cA : Nat → ClassId} {sh : aS} {I I' : aI} {J J' : aJ} {P P' : aP} {z : Nat ⊕ (Nat × Nat)} {q : Nat} (hI : ∀ k, k < sh.length → I' k = I k) (hJ : ∀ k, k < sh.length → J' k = J k) (hP : ∀ k, k < sh.length → P' k = P k) (hc : am_pc P sh.length) {E : va_E} (hE : am_E (fun k => if k = sh.length then q else α k) cA I' J' P' sh.length z = E) :
    am_ws (fun k => if k = sh.length then q else α k) cA (sh ++ [z]) I' J' P' = am_ws α cA sh I J P ++ [(q, E)] := by
  apply List.ext_getElem?
  intro j
  have hlen : (am_ws α cA sh I J P).length = sh.length := by simp [am_ws]
  by_cases hj : j < sh.length
  · rw [List.getElem?_append_left (by rw [hlen]; exact hj)]
    have hz : (sh ++ [z])[j]? = some sh[j] := by rw [List.getElem?_append_left hj]; exact List.getElem?_eq_getElem hj
    rw [am_ws_get hz, am_ws_get (List.getElem?_eq_getElem hj)]
    have hne : j ≠ sh.length := by omega
    rw [if_neg hne]
    congr 2
    have hr : ∀ k, (P' j k).map (fun k => if k = sh.length then q else α k) = (P j k).map α := by
      intro k
      rw [hP j hj]
      cases hp : P j k with
      | none => rfl
      | some y =>
        have := hc j k y hp
        simp only [Option.map_some]
        rw [if_neg (by omega)]
    cases sh[j] with
    | inl ci =>
      simp only [am_E, hI j hj]
      congr 2
      apply List.map_congr_left
      intro k _
      simp only [am_fv, hr k]
    | inr x =>
      simp only [am_E, hI j hj, hJ j hj]
      unfold am_row
      split
      · rfl
      · simp only [hr]
      · rfl
  · by_cases hj2 : j = sh.length
    · subst hj2
      have hz : (sh ++ [z])[sh.length]? = some z := by simp
      rw [am_ws_get hz, hE, List.getElem?_append_right (by rw [hlen]; exact Nat.le_refl _), hlen]
      simp
    · rw [List.getElem?_eq_none (by simp [am_ws]; omega), List.getElem?_eq_none (by simp [am_ws]; omega)]
theorem am_al_push {α0 α : Nat → Nat} {N0 q N : Nat} (h : am_al α0 N0 α) (hN : N0 ≤ N) (hb : N < 1000000) : am_al α0 N0 (fun k => if k = N then q else α k) := by
  intro k hk
  have : k ≠ N := by omega
  simp only [this, if_false]
  exact h k hk
section AN
variable {K : aK} {cc : ByteArray} {nL : Nat} {own nm : String} {R0 : Room} {pc : Nat} {lo lo' : List (Nat × Value)} {st : List Value} {sh : aS} {P : aP} {I : aI} {J : aJ} {cells slots : Nat} {β : Type} {Rs : β}
theorem ar_max (X : am_C K cc nL own nm R0) {idx : Nat} {x y : Int32} (hd : decode cc pc = .ok (.invokestatic idx, 3)) (h1 : Cond.methodLink own idx Lib.Math.max.name ∈ lw_tbl) (h2 : Cond.static Lib.Math.max.name ∈ lw_tbl) (h3 : Cond.initialized "java/lang/Math" ∈ lw_tbl) (h4 : Cond.code Lib.Math.max.name Lib.Math.max.code 2 (some .int) ∈ lw_tbl) (hf : 1 ≤ R0.frames) (hcat : (st.map fun v => v.category).sum + 13 ≤ R0.locals) (hcells : cells ≤ R0.cells ∧ slots ≤ R0.slots) (kk : AW K nL (pc + 3) lo (.int (am_max x y) :: st) sh P I J cells slots) : AW K nL pc lo (.int y :: .int x :: st) sh P I J cells slots := by
  obtain ⟨p, l, e, R, s, m, args, below, meth, c, Q, dC, dI, cA, A, α0, N0⟩ := K
  obtain ⟨hx, hb, hml, hown, hlk, hnm, hR0, hT, hK, hA, hZ⟩ := X
  intro α H locs ls ha hP hD hS hl
  subst hR0
  exact va_mmax hx hb (hml.trans hl.1.symm) hown (hT _ h1 rfl args) (hT _ h2 rfl args) (hT _ h3 rfl args) (hT _ h4 rfl args) hf (by rw [am_catsum]; exact hcat) hcells.1 hcells.2 hd (kk α H locs ls ha hP hD hS hl)
theorem ar_min (X : am_C K cc nL own nm R0) {idx : Nat} {x y : Int32} (hd : decode cc pc = .ok (.invokestatic idx, 3)) (h1 : Cond.methodLink own idx Lib.Math.min.name ∈ lw_tbl) (h2 : Cond.static Lib.Math.min.name ∈ lw_tbl) (h3 : Cond.initialized "java/lang/Math" ∈ lw_tbl) (h4 : Cond.code Lib.Math.min.name Lib.Math.min.code 2 (some .int) ∈ lw_tbl) (hf : 1 ≤ R0.frames) (hcat : (st.map fun v => v.category).sum + 13 ≤ R0.locals) (hcells : cells ≤ R0.cells ∧ slots ≤ R0.slots) (kk : AW K nL (pc + 3) lo (.int (am_min x y) :: st) sh P I J cells slots) : AW K nL pc lo (.int y :: .int x :: st) sh P I J cells slots := by
  obtain ⟨p, l, e, R, s, m, args, below, meth, c, Q, dC, dI, cA, A, α0, N0⟩ := K
  obtain ⟨hx, hb, hml, hown, hlk, hnm, hR0, hT, hK, hA, hZ⟩ := X
  intro α H locs ls ha hP hD hS hl
  subst hR0
  exact va_mmin hx hb (hml.trans hl.1.symm) hown (hT _ h1 rfl args) (hT _ h2 rfl args) (hT _ h3 rfl args) (hT _ h4 rfl args) hf (by rw [am_catsum]; exact hcat) hcells.1 hcells.2 hd (kk α H locs ls ha hP hD hS hl)
theorem ar_copy (X : am_C K cc nL own nm R0) {idx a b n na nb : Nat} {z : Int32} (hd : decode cc pc = .ok (.invokestatic idx, 3)) (h1 : Cond.methodLink own idx arraycopyName ∈ lw_tbl) (h2 : Cond.native arraycopyName ∈ lw_tbl) (h3 : Cond.static arraycopyName ∈ lw_tbl) (h4 : Cond.initialized "java/lang/System" ∈ lw_tbl) (hsa : sh[a]? = some (.inr (0, na))) (hsb : sh[b]? = some (.inr (0, nb))) (hz : ¬ z < 0) (hzn : z.toNatClampNeg = n) (hna : n ≤ na) (hnb : n ≤ nb) (hf : 1 ≤ R0.frames) (hcat : (st.map fun v => v.category).sum + 18 ≤ R0.locals) (kk : AW K nL (pc + 3) lo st sh P (am_cpy I a b n) J cells slots) : AW K nL pc lo (.int z :: .int 0 :: .ref b :: .int 0 :: .ref a :: st) sh P I J cells slots := by
  obtain ⟨p, l, e, R, s, m, args, below, meth, c, Q, dC, dI, cA, A, α0, N0⟩ := K
  obtain ⟨hx, hb, hml, hown, hlk, hnm, hR0, hT, hK, hA, hZ⟩ := X
  intro α H locs ls ha hP hD hS hl
  subst hR0
  have hset : (am_ws α cA sh I J P).set b (α b, .inl (cA 0, nb, .inl (va_cpy (I a) (I b) (0 : Int32).toNatClampNeg (0 : Int32).toNatClampNeg z.toNatClampNeg))) = am_ws α cA sh (am_cpy I a b n) J P := by
    have e : va_cpy (I a) (I b) (0 : Int32).toNatClampNeg (0 : Int32).toNatClampNeg z.toNatClampNeg = (am_cpy I a b n) b := by
      funext j
      have e0 : (0 : Int32).toNatClampNeg = 0 := rfl
      simp [am_cpy, va_cpy, e0, hzn]
    rw [e]
    exact am_ws_set (z := .inr (0, nb)) hsb (fun j hj => by funext i; simp [am_cpy, hj]) (fun _ _ => rfl) (fun _ _ => rfl)
  have e0 : (0 : Int32).toNatClampNeg = 0 := rfl
  exact va_copyi hx hb (hml.trans hl.1.symm) hown (hT _ h1 rfl args) (hT _ h2 rfl args) (hT _ h3 rfl args) (hT _ h4 rfl args) hK hP hD hS a b 0 0 (am_ws_get hsa) (am_ws_get hsb) rfl rfl rfl (by decide) (by decide) hz (by rw [e0, hzn]; omega) (by rw [e0, hzn]; omega) (fun _ _ => rfl) hf (by
    rw [am_catsum]
    exact hcat) hd (fun H1 locs1 hP1 hD1 hS1 => kk α H1 locs1 ls ha (hset ▸ hP1) (hset ▸ hD1) hS1 hl)
theorem ar_objinit (X : am_C K cc nL own nm R0) {idx q : Nat} (hd : decode cc pc = .ok (.invokespecial idx, 3)) (h1 : Cond.methodLink own idx objectInit ∈ lw_tbl) (h2 : Cond.instanceMethod objectInit ∈ lw_tbl) (h3 : Cond.code objectInit ⟨#[0xb1]⟩ 1 none ∈ lw_tbl) (hf : 1 ≤ R0.frames) (hcat : (st.map fun v => v.category).sum + 12 ≤ R0.locals) (kk : AW K nL (pc + 3) lo st sh P I J cells slots) : AW K nL pc lo (.ref q :: st) sh P I J cells slots := by
  obtain ⟨p, l, e, R, s, m, args, below, meth, c, Q, dC, dI, cA, A, α0, N0⟩ := K
  obtain ⟨hx, hb, hml, hown, hlk, hnm, hR0, hT, hK, hA, hZ⟩ := X
  intro α H locs ls ha hP hD hS hl
  subst hR0
  exact W.objInit hx hb hown (hT _ h1 rfl args) (hT _ h2 rfl args) (hT _ h3 rfl args) rfl (hl.1.trans hml.symm) rfl hd hf (by
    rw [am_catsum]
    show 2 * 0 + _ + 12 ≤ _
    omega) (kk α H locs ls ha hP hD hS hl)
/-- a static row: 1000001 the least, 1000002 the first, 1000003 the greatest values of the settings -/
def am_sn (t : Nat) : String := match t with
  | 1000001 => "SETTING_LEAST"
  | 1000002 => "SETTING_FIRST"
  | _ => "SETTING_MOST"
def am_sf (t : Nat) : Nat → Int32 := match t with
  | 1000001 => am_least
  | 1000002 => am_first
  | _ => am_most
theorem am_Z.at {α : Nat → Nat} {A : Nat → Prop} {U : State} {H : Heap} (h : am_Z α A U H) {t : Nat} (ht : t = 1000001 ∨ t = 1000002 ∨ t = 1000003) : am_st (am_sn t) (am_sf t) (α t) A U H := by
  rcases ht with rfl | rfl | rfl
  · exact h.1.1
  · exact h.1.2.1
  · exact h.1.2.2
theorem ar_gets (X : am_C K cc nL own nm R0) {idx t : Nat} (hd : decode cc pc = .ok (.getstatic idx, 3)) (ht : t = 1000001 ∨ t = 1000002 ∨ t = 1000003) (hw : am_fl own idx "PurseAuction" (am_sn t) "[I") (kk : AW K nL (pc + 3) lo (.ref t :: st) sh P I J cells slots) : AW K nL pc lo st sh P I J cells slots := by
  obtain ⟨p, l, e, R, s, m, args, below, meth, c, Q, dC, dI, cA, A, α0, N0⟩ := K
  obtain ⟨hx, hb, hml, hown, hlk, hnm, hR0, hT, hK, hA, hZ⟩ := X
  intro α H locs ls ha hP hD hS hl
  have hs := (hZ.at ht).1
  have hk := kk α H locs ls ha hP hD hS hl
  have hee : α t = α0 t := ha.1 t (Or.inr (by omega))
  have hk2 : W p l e R s m args below meth c H locs cells slots Q (F0 m (pc + 3) ls (.ref (α0 t) :: st.map (am_v α))) := hee ▸ hk
  rcases hw with hw | ⟨host, hw⟩
  · exact va_gets hx hb hs hS hown (hT _ hw rfl args) (fun _ h => h) hd hk2
  · exact va_getsN hx hb hs hS hown (hT _ hw rfl args) (fun _ h => h) hd hk2
theorem ar_sld (X : am_C K cc nL own nm R0) {t : Nat} {i : Int32} {F : Option β} (hd : decode cc pc = .ok (.iaload, 1)) (ht : t = 1000001 ∨ t = 1000002 ∨ t = 1000003) (hf : am_g (am_ok i 6) F = some Rs) (kk : F = some Rs → AW K nL (pc + 1) lo (.int (am_sf t i.toNatClampNeg) :: st) sh P I J cells slots) : AW K nL pc lo (.int i :: .ref t :: st) sh P I J cells slots := by
  obtain ⟨p, l, e, R, s, m, args, below, meth, c, Q, dC, dI, cA, A, α0, N0⟩ := K
  obtain ⟨hx, hb, hml, hown, hlk, hnm, hR0, hT, hK, hA, hZ⟩ := X
  intro α H locs ls ha hP hD hS hl
  obtain ⟨h1, h2⟩ := am_g_elim hf
  obtain ⟨-, ⟨scr, g1, g2, g3, g4, g5, -⟩, hnA⟩ := hZ.at ht
  have hee : α t = α0 t := ha.1 t (Or.inr (by omega))
  have hlt : α0 t < s.heap.size := (Array.getElem?_eq_some_iff.mp g1).1
  have hq : va_X (α0 t) 6 (am_sf t) s s.heap := ⟨scr, g1, g2, g3, g4, g5⟩
  show W p l e R s m args below meth c H locs cells slots Q (F0 m pc ls (.int i :: .ref (α t) :: st.map (am_v α)))
  rw [hee]
  exact va_sld hx hb hq hlt hnA hS (am_ok_in h1) hd (kk h2 α H locs ls ha hP hD hS hl)
theorem ar_new (X : am_C K cc nL own nm R0) {idx ci n : Nat} {C : String} {T : u_T} (hd : decode cc pc = .ok (.new idx, 3)) (hC : am_cl ci C T n) (hcl : Cond.classLink own idx C ∈ lw_tbl) (hin : Cond.instantiable C n ∈ lw_tbl) (hini : Cond.initialized C ∈ lw_tbl) (hdf : ∀ j, j < n → defaultValue (am_ty ci j) = if am_ref (am_ty ci j) = true then .null else .int 0) (hpc : am_pc P sh.length) (hN : sh.length < 1000000) (hv : am_rvs sh.length (lo.map (·.2)) ∧ am_rvs sh.length st) (hcells : cells + 1 ≤ R0.cells ∧ slots + n ≤ R0.slots)
    (kk : AW K nL (pc + 3) lo (.ref sh.length :: st) (sh ++ [.inl ci]) (am_zP P sh.length) (am_zI I sh.length) J (cells + 1) (slots + n)) : AW K nL pc lo st sh P I J cells slots := by
  obtain ⟨p, l, e, R, s, m, args, below, meth, c, Q, dC, dI, cA, A, α0, N0⟩ := K
  obtain ⟨hx, hb, hml, hown, hlk, hnm, hR0, hT, hK, hA, hZ⟩ := X
  intro α H locs ls ha hP hD hS hl
  subst hR0
  have hfs : ∀ j, j < n → defaultValue (am_ty ci j) = vp_V ((List.range (am_n ci)).map (am_fv α ((am_zI I sh.length) sh.length) ((am_zP P sh.length) sh.length) (am_ty ci))) j := by
    intro j hj
    rw [hdf j hj]
    have hj' : j < am_n ci := by rw [hC.2.1]; exact hj
    simp only [vp_V, List.getD_eq_getElem?_getD, am_fs_get hj', Option.getD_some, am_fv, am_zI, am_zP, if_true]
    split <;> rfl
  refine va_new hx hb (hC.hts hT args) (fun _ h => h) (am_ty ci) hC.2.2.2.1 hown (hT _ hcl rfl args) (hT _ hin rfl args) (hT _ hini rfl args) hK hP hD hS hA hC.1 hfs hcells.1 hcells.2 hd (fun q H1 hP1 hD1 hS1 => ?_)
  have hal : am_al α sh.length (fun k => if k = sh.length then q else α k) := fun k hk => by
    have : k ≠ sh.length := by omega
    simp only [this, if_false]
  have hEE : am_ws (fun k => if k = sh.length then q else α k) cA (sh ++ [.inl ci]) (am_zI I sh.length) J (am_zP P sh.length) = am_ws α cA sh I J P ++ [(q, .inr (ci, (List.range (am_n ci)).map (am_fv α ((am_zI I sh.length) sh.length) ((am_zP P sh.length) sh.length) (am_ty ci))))] := by
    refine am_ws_push (fun k hk => by funext i; simp [am_zI, Nat.ne_of_lt hk]) (fun _ _ => rfl) (fun k hk => by funext i; simp [am_zP, Nat.ne_of_lt hk]) hpc ?_
    simp only [am_E]
    congr 2
    apply List.map_congr_left
    intro k _
    simp [am_fv, am_zP]
  have hk := kk (fun k => if k = sh.length then q else α k) H1 locs ls ⟨am_al_push ha.1 ha.2.1 hN, by simp; omega, fun h => by simp at h; omega⟩ (hEE ▸ hP1) (hEE ▸ hD1) hS1 (by rw [am_rvs_lo hal hv.1]; exact hl)
  have e1 : ((.ref sh.length :: st : List Value)).map (am_v (fun k => if k = sh.length then q else α k)) = .ref q :: st.map (am_v α) := by
    rw [List.map_cons, am_rvs_eq hal hv.2]
    simp [am_v]
  rw [e1] at hk
  exact hk
theorem ar_newaI (X : am_C K cc nL own nm R0) {n : Nat} {z : Int32} (hd : decode cc pc = .ok (.newarray .int, 2)) (hw : Cond.arrayClass .int ∈ lw_tbl) (hz : ¬ z < 0) (hzn : z.toNatClampNeg = n) (hsz : n ≤ 10000) (hpc : am_pc P sh.length) (hN : sh.length < 1000000) (hv : am_rvs sh.length (lo.map (·.2)) ∧ am_rvs sh.length st) (hcells : cells + 1 ≤ R0.cells ∧ slots + n ≤ R0.slots)
    (kk : AW K nL (pc + 2) lo (.ref sh.length :: st) (sh ++ [.inr (0, n)]) P (am_zI I sh.length) J (cells + 1) (slots + n)) : AW K nL pc lo (.int z :: st) sh P I J cells slots := by
  obtain ⟨p, l, e, R, s, m, args, below, meth, c, Q, dC, dI, cA, A, α0, N0⟩ := K
  obtain ⟨hx, hb, hml, hown, hlk, hnm, hR0, hT, hK, hA, hZ⟩ := X
  intro α H locs ls ha hP hD hS hl
  subst hR0
  refine va_newa (atype := .int) (ty := .int) hx hb (hT _ hw rfl args) rfl hK hP hD hS hA (N' := n) (a0 := (n, .inl (fun _ => (0 : Int32)))) (fun cA' => rfl) hz hzn (by
    have : componentBytes .int ≤ 8 := by decide
    have := Nat.mul_le_mul hsz this
    omega) hcells.1 hcells.2 hd (fun q cA' H1 hK1 hP1 hD1 hS1 => ?_)
  have hcc : cA' = cA 0 := by
    have g1 := (hK1.2 5 (cA', .int) rfl).2
    have g2 := (hK.2 0 (cA 0, .int) rfl).2
    exact Option.some.inj (g1.symm.trans g2)
  subst hcc
  have hal : am_al α sh.length (fun k => if k = sh.length then q else α k) := fun k hk => by
    have : k ≠ sh.length := by omega
    simp only [this, if_false]
  have hEE : am_ws (fun k => if k = sh.length then q else α k) cA (sh ++ [.inr (0, n)]) (am_zI I sh.length) J P = am_ws α cA sh I J P ++ [(q, .inl (cA 0, n, .inl (fun _ => (0 : Int32))))] := by
    refine am_ws_push (fun k hk => by funext i; simp [am_zI, Nat.ne_of_lt hk]) (fun _ _ => rfl) (fun _ _ => rfl) hpc ?_
    have hz0 : (am_zI I sh.length) sh.length = fun _ => 0 := by funext i; simp [am_zI]
    simp only [am_E, am_row, hz0]
  have hk := kk (fun k => if k = sh.length then q else α k) H1 locs ls ⟨am_al_push ha.1 ha.2.1 hN, by simp; omega, fun h => by simp at h; omega⟩ (hEE ▸ hP1) (hEE ▸ hD1) hS1 (by rw [am_rvs_lo hal hv.1]; exact hl)
  have e1 : ((.ref sh.length :: st : List Value)).map (am_v (fun k => if k = sh.length then q else α k)) = .ref q :: st.map (am_v α) := by
    rw [List.map_cons, am_rvs_eq hal hv.2]
    simp [am_v]
  rw [e1] at hk
  exact hk
theorem ar_newaZ (X : am_C K cc nL own nm R0) {n : Nat} {z : Int32} (hd : decode cc pc = .ok (.newarray .boolean, 2)) (hw : Cond.arrayClass .boolean ∈ lw_tbl) (hz : ¬ z < 0) (hzn : z.toNatClampNeg = n) (hsz : n ≤ 10000) (hpc : am_pc P sh.length) (hN : sh.length < 1000000) (hv : am_rvs sh.length (lo.map (·.2)) ∧ am_rvs sh.length st) (hcells : cells + 1 ≤ R0.cells ∧ slots + n ≤ R0.slots)
    (kk : AW K nL (pc + 2) lo (.ref sh.length :: st) (sh ++ [.inr (1, n)]) P (am_zI I sh.length) J (cells + 1) (slots + n)) : AW K nL pc lo (.int z :: st) sh P I J cells slots := by
  obtain ⟨p, l, e, R, s, m, args, below, meth, c, Q, dC, dI, cA, A, α0, N0⟩ := K
  obtain ⟨hx, hb, hml, hown, hlk, hnm, hR0, hT, hK, hA, hZ⟩ := X
  intro α H locs ls ha hP hD hS hl
  subst hR0
  refine va_newa (atype := .boolean) (ty := .boolean) hx hb (hT _ hw rfl args) rfl hK hP hD hS hA (N' := n) (a0 := (n, .inl (fun _ => (0 : Int32)))) (fun cA' => rfl) hz hzn (by
    have : componentBytes .boolean ≤ 8 := by decide
    have := Nat.mul_le_mul hsz this
    omega) hcells.1 hcells.2 hd (fun q cA' H1 hK1 hP1 hD1 hS1 => ?_)
  have hcc : cA' = cA 1 := by
    have g1 := (hK1.2 5 (cA', .boolean) rfl).2
    have g2 := (hK.2 1 (cA 1, .boolean) rfl).2
    exact Option.some.inj (g1.symm.trans g2)
  subst hcc
  have hal : am_al α sh.length (fun k => if k = sh.length then q else α k) := fun k hk => by
    have : k ≠ sh.length := by omega
    simp only [this, if_false]
  have hEE : am_ws (fun k => if k = sh.length then q else α k) cA (sh ++ [.inr (1, n)]) (am_zI I sh.length) J P = am_ws α cA sh I J P ++ [(q, .inl (cA 1, n, .inl (fun _ => (0 : Int32))))] := by
    refine am_ws_push (fun k hk => by funext i; simp [am_zI, Nat.ne_of_lt hk]) (fun _ _ => rfl) (fun _ _ => rfl) hpc ?_
    have hz0 : (am_zI I sh.length) sh.length = fun _ => 0 := by funext i; simp [am_zI]
    simp only [am_E, am_row, hz0]
  have hk := kk (fun k => if k = sh.length then q else α k) H1 locs ls ⟨am_al_push ha.1 ha.2.1 hN, by simp; omega, fun h => by simp at h; omega⟩ (hEE ▸ hP1) (hEE ▸ hD1) hS1 (by rw [am_rvs_lo hal hv.1]; exact hl)
  have e1 : ((.ref sh.length :: st : List Value)).map (am_v (fun k => if k = sh.length then q else α k)) = .ref q :: st.map (am_v α) := by
    rw [List.map_cons, am_rvs_eq hal hv.2]
    simp [am_v]
  rw [e1] at hk
  exact hk
theorem ar_newaC (X : am_C K cc nL own nm R0) {n : Nat} {z : Int32} (hd : decode cc pc = .ok (.newarray .char, 2)) (hw : Cond.arrayClass .char ∈ lw_tbl) (hz : ¬ z < 0) (hzn : z.toNatClampNeg = n) (hsz : n ≤ 10000) (hpc : am_pc P sh.length) (hN : sh.length < 1000000) (hv : am_rvs sh.length (lo.map (·.2)) ∧ am_rvs sh.length st) (hcells : cells + 1 ≤ R0.cells ∧ slots + n ≤ R0.slots)
    (kk : AW K nL (pc + 2) lo (.ref sh.length :: st) (sh ++ [.inr (2, n)]) P (am_zI I sh.length) J (cells + 1) (slots + n)) : AW K nL pc lo (.int z :: st) sh P I J cells slots := by
  obtain ⟨p, l, e, R, s, m, args, below, meth, c, Q, dC, dI, cA, A, α0, N0⟩ := K
  obtain ⟨hx, hb, hml, hown, hlk, hnm, hR0, hT, hK, hA, hZ⟩ := X
  intro α H locs ls ha hP hD hS hl
  subst hR0
  refine va_newa (atype := .char) (ty := .char) hx hb (hT _ hw rfl args) rfl hK hP hD hS hA (N' := n) (a0 := (n, .inl (fun _ => (0 : Int32)))) (fun cA' => rfl) hz hzn (by
    have : componentBytes .char ≤ 8 := by decide
    have := Nat.mul_le_mul hsz this
    omega) hcells.1 hcells.2 hd (fun q cA' H1 hK1 hP1 hD1 hS1 => ?_)
  have hcc : cA' = cA 2 := by
    have g1 := (hK1.2 5 (cA', .char) rfl).2
    have g2 := (hK.2 2 (cA 2, .char) rfl).2
    exact Option.some.inj (g1.symm.trans g2)
  subst hcc
  have hal : am_al α sh.length (fun k => if k = sh.length then q else α k) := fun k hk => by
    have : k ≠ sh.length := by omega
    simp only [this, if_false]
  have hEE : am_ws (fun k => if k = sh.length then q else α k) cA (sh ++ [.inr (2, n)]) (am_zI I sh.length) J P = am_ws α cA sh I J P ++ [(q, .inl (cA 2, n, .inl (fun _ => (0 : Int32))))] := by
    refine am_ws_push (fun k hk => by funext i; simp [am_zI, Nat.ne_of_lt hk]) (fun _ _ => rfl) (fun _ _ => rfl) hpc ?_
    have hz0 : (am_zI I sh.length) sh.length = fun _ => 0 := by funext i; simp [am_zI]
    simp only [am_E, am_row, hz0]
  have hk := kk (fun k => if k = sh.length then q else α k) H1 locs ls ⟨am_al_push ha.1 ha.2.1 hN, by simp; omega, fun h => by simp at h; omega⟩ (hEE ▸ hP1) (hEE ▸ hD1) hS1 (by rw [am_rvs_lo hal hv.1]; exact hl)
  have e1 : ((.ref sh.length :: st : List Value)).map (am_v (fun k => if k = sh.length then q else α k)) = .ref q :: st.map (am_v α) := by
    rw [List.map_cons, am_rvs_eq hal hv.2]
    simp [am_v]
  rw [e1] at hk
  exact hk
theorem ar_newaJ (X : am_C K cc nL own nm R0) {n : Nat} {z : Int32} (hd : decode cc pc = .ok (.newarray .long, 2)) (hw : Cond.arrayClass .long ∈ lw_tbl) (hz : ¬ z < 0) (hzn : z.toNatClampNeg = n) (hsz : n ≤ 10000) (hpc : am_pc P sh.length) (hN : sh.length < 1000000) (hv : am_rvs sh.length (lo.map (·.2)) ∧ am_rvs sh.length st) (hcells : cells + 1 ≤ R0.cells ∧ slots + n ≤ R0.slots)
    (kk : AW K nL (pc + 2) lo (.ref sh.length :: st) (sh ++ [.inr (3, n)]) P I (am_zJ J sh.length) (cells + 1) (slots + n)) : AW K nL pc lo (.int z :: st) sh P I J cells slots := by
  obtain ⟨p, l, e, R, s, m, args, below, meth, c, Q, dC, dI, cA, A, α0, N0⟩ := K
  obtain ⟨hx, hb, hml, hown, hlk, hnm, hR0, hT, hK, hA, hZ⟩ := X
  intro α H locs ls ha hP hD hS hl
  subst hR0
  refine va_newa (atype := .long) (ty := .long) hx hb (hT _ hw rfl args) rfl hK hP hD hS hA (N' := n) (a0 := (n, .inr (.inl (fun _ => (0 : Int64))))) (fun cA' => rfl) hz hzn (by
    have : componentBytes .long ≤ 8 := by decide
    have := Nat.mul_le_mul hsz this
    omega) hcells.1 hcells.2 hd (fun q cA' H1 hK1 hP1 hD1 hS1 => ?_)
  have hcc : cA' = cA 3 := by
    have g1 := (hK1.2 5 (cA', .long) rfl).2
    have g2 := (hK.2 3 (cA 3, .long) rfl).2
    exact Option.some.inj (g1.symm.trans g2)
  subst hcc
  have hal : am_al α sh.length (fun k => if k = sh.length then q else α k) := fun k hk => by
    have : k ≠ sh.length := by omega
    simp only [this, if_false]
  have hEE : am_ws (fun k => if k = sh.length then q else α k) cA (sh ++ [.inr (3, n)]) I (am_zJ J sh.length) P = am_ws α cA sh I J P ++ [(q, .inl (cA 3, n, .inr (.inl (fun _ => (0 : Int64)))))] := by
    refine am_ws_push (fun _ _ => rfl) (fun k hk => by funext i; simp [am_zJ, Nat.ne_of_lt hk]) (fun _ _ => rfl) hpc ?_
    have hz0 : (am_zJ J sh.length) sh.length = fun _ => 0 := by funext i; simp [am_zJ]
    simp only [am_E, am_row, hz0]
  have hk := kk (fun k => if k = sh.length then q else α k) H1 locs ls ⟨am_al_push ha.1 ha.2.1 hN, by simp; omega, fun h => by simp at h; omega⟩ (hEE ▸ hP1) (hEE ▸ hD1) hS1 (by rw [am_rvs_lo hal hv.1]; exact hl)
  have e1 : ((.ref sh.length :: st : List Value)).map (am_v (fun k => if k = sh.length then q else α k)) = .ref q :: st.map (am_v α) := by
    rw [List.map_cons, am_rvs_eq hal hv.2]
    simp [am_v]
  rw [e1] at hk
  exact hk
end AN
