theorem jm_max_X4_56 : Cond.methodLink RX4 56 Lib.Math.max.name ∈ lw_tbl := tw 419 (by decide +kernel)
theorem jm_max_X5_39 : Cond.methodLink RX5 39 Lib.Math.max.name ∈ lw_tbl := tw 652 (by decide +kernel)
theorem jm_max_X1_227 : Cond.methodLink RX1 227 Lib.Math.max.name ∈ lw_tbl := tw 706 (by decide +kernel)
theorem jm_max_s : Cond.static Lib.Math.max.name ∈ lw_tbl := tw 420 (by decide +kernel)
theorem jm_max_c : Cond.code Lib.Math.max.name Lib.Math.max.code 2 (some .int) ∈ lw_tbl := tw 421 (by decide +kernel)
theorem jm_min_X4_31 : Cond.methodLink RX4 31 Lib.Math.min.name ∈ lw_tbl := tw 215 (by decide +kernel)
theorem jm_min_X1_222 : Cond.methodLink RX1 222 Lib.Math.min.name ∈ lw_tbl := tw 475 (by decide +kernel)
theorem jm_min_X6_304 : Cond.methodLink RX6 304 Lib.Math.min.name ∈ lw_tbl := tw 672 (by decide +kernel)
theorem jm_min_s : Cond.static Lib.Math.min.name ∈ lw_tbl := tw 216 (by decide +kernel)
theorem jm_min_c : Cond.code Lib.Math.min.name Lib.Math.min.code 2 (some .int) ∈ lw_tbl := tw 217 (by decide +kernel)
theorem jm_i : Cond.initialized "java/lang/Math" ∈ lw_tbl := tw 8 (by decide +kernel)
theorem ja_X6_309 : Cond.methodLink RX6 309 arraycopyName ∈ lw_tbl := tw 673 (by decide +kernel)
theorem ja_n : Cond.native arraycopyName ∈ lw_tbl := tw 675 (by decide +kernel)
theorem ja_s : Cond.static arraycopyName ∈ lw_tbl := tw 674 (by decide +kernel)
theorem ja_i : Cond.initialized "java/lang/System" ∈ lw_tbl := tw 11 (by decide +kernel)
theorem am_ite {β : Type} {c : Prop} [Decidable c] {T F : Option β} {R : β} (h : (if c then T else F) = some R) : (c ∧ T = some R) ∨ (¬ c ∧ F = some R) := by
  by_cases hc : c
  · rw [if_pos hc] at h; exact Or.inl ⟨hc, h⟩
  · rw [if_neg hc] at h; exact Or.inr ⟨hc, h⟩
theorem am_nat12 : ∀ n : Nat, n ≤ 12 → ¬ Int32.ofNat n < 0 ∧ (Int32.ofNat n).toNatClampNeg = n := by decide +kernel
set_option maxRecDepth 100000 in
set_option maxHeartbeats 4000000 in
theorem am_X6_copyRow {sh : aS} {P : aP} {I : aI} {J : aJ} {a b n : Nat} (ha : sh[a]? = some (.inr (0, n))) (hb : sh[b]? = some (.inr (0, n))) (hn : n ≤ 12) : AM yX6_copyRow cX6_copyRow 2 none 1 26 [.ref a, .ref b] sh P I J none sh P (am_cpy I a b n) J 0 0 := by
  refine am_met (by decide +kernel) (Nat.le_of_ble_eq_true rfl) (fun K X hR => ?_)
  have X : am_C K cX6_copyRow 2 RX6 "copyRow" ({ frames := 1, cells := 0, slots := 0, locals := 26 } : Room) := X
  show AW K 2 0 [(0, .ref a), (1, .ref b)] [] sh P I J 0 0
  refine ar_aload_n X dX6_copyRow_0 rfl 0 rfl ?_
  refine ar_iconst (v := 0) X dX6_copyRow_1 (by decide) ?_
  refine ar_aload_n X dX6_copyRow_2 rfl 1 rfl ?_
  refine ar_iconst (v := 0) X dX6_copyRow_3 (by decide) ?_
  refine ar_aload_n X dX6_copyRow_4 rfl 0 rfl ?_
  refine ar_alen X dX6_copyRow_5 ha (by decide) rfl ?_
  refine ar_aload_n X dX6_copyRow_6 rfl 1 rfl ?_
  refine ar_alen X dX6_copyRow_7 hb (by decide) rfl ?_
  refine ar_min X dX6_copyRow_8 jm_min_X6_304 jm_min_s jm_i jm_min_c (by decide) (Nat.le_of_ble_eq_true rfl) ⟨Nat.zero_le _, Nat.zero_le _⟩ ?_
  have e : am_min (Int32.ofNat n) (Int32.ofNat n) = Int32.ofNat n := by simp [am_min]
  rw [e]
  refine ar_copy X dX6_copyRow_11 ja_X6_309 ja_n ja_s ja_i ha hb (am_nat12 n hn).1 (am_nat12 n hn).2 (Nat.le_refl _) (Nat.le_refl _) (by decide) (Nat.le_of_ble_eq_true rfl) ?_
  exact ar_vret X dX6_copyRow_14 hR (Nat.le_refl _) (Nat.le_refl _)
section AQ
variable {K : aK} {cc : ByteArray} {nL : Nat} {own nm : String} {R0 : Room} {pc : Nat} {lo lo' : List (Nat × Value)} {st st0 : List Value} {sh : aS} {P : aP} {I : aI} {J : aJ} {cells slots : Nat} {β : Type} {Rs : β}
theorem am_g_intro {β : Type} {b : Bool} {x : Option β} {R : β} (h : b = true) (hx : x = some R) : am_g b x = some R := by rw [h]; exact hx
theorem ar_ialdK (X : am_C K cc nL own nm R0) {q n k : Nat} {i : Int32} (hd : decode cc pc = .ok (.iaload, 1)) (hs : sh[q]? = some (.inr (0, n))) (hi : am_ok i n = true) (hk : i.toNatClampNeg = k) (kk : AW K nL (pc + 1) lo (.int (I q k) :: st) sh P I J cells slots) : AW K nL pc lo (.int i :: .ref q :: st) sh P I J cells slots := by
  subst hk
  exact ar_iald (F := some ()) (Rs := ()) X hd hs (am_g_intro hi rfl) (fun _ => kk)
theorem ar_zaldK (X : am_C K cc nL own nm R0) {q n k : Nat} {i : Int32} (hd : decode cc pc = .ok (.baload, 1)) (hs : sh[q]? = some (.inr (1, n))) (hi : am_ok i n = true) (hk : i.toNatClampNeg = k) (kk : AW K nL (pc + 1) lo (.int (I q k) :: st) sh P I J cells slots) : AW K nL pc lo (.int i :: .ref q :: st) sh P I J cells slots := by
  subst hk
  exact ar_zald (F := some ()) (Rs := ()) X hd hs (am_g_intro hi rfl) (fun _ => kk)
theorem ar_caldK (X : am_C K cc nL own nm R0) {q n k : Nat} {i : Int32} (hd : decode cc pc = .ok (.caload, 1)) (hs : sh[q]? = some (.inr (2, n))) (hi : am_ok i n = true) (hk : i.toNatClampNeg = k) (kk : AW K nL (pc + 1) lo (.int (I q k) :: st) sh P I J cells slots) : AW K nL pc lo (.int i :: .ref q :: st) sh P I J cells slots := by
  subst hk
  exact ar_cald (F := some ()) (Rs := ()) X hd hs (am_g_intro hi rfl) (fun _ => kk)
theorem ar_laldK (X : am_C K cc nL own nm R0) {q n k : Nat} {i : Int32} (hd : decode cc pc = .ok (.laload, 1)) (hs : sh[q]? = some (.inr (3, n))) (hi : am_ok i n = true) (hk : i.toNatClampNeg = k) (kk : AW K nL (pc + 1) lo (.long (J q k) :: st) sh P I J cells slots) : AW K nL pc lo (.int i :: .ref q :: st) sh P I J cells slots := by
  subst hk
  exact ar_lald (F := some ()) (Rs := ()) X hd hs (am_g_intro hi rfl) (fun _ => kk)
theorem ar_iastK (X : am_C K cc nL own nm R0) {q n k : Nat} {i v : Int32} {F : aI → Option β} (hd : decode cc pc = .ok (.iastore, 1)) (hs : sh[q]? = some (.inr (0, n))) (hi : am_ok i n = true) (hk : i.toNatClampNeg = k) (hf : am_let (am_w I q k v) F = some Rs) (kk : ∀ I1, F I1 = some Rs → AW K nL (pc + 1) lo st sh P I1 J cells slots) : AW K nL pc lo (.int v :: .int i :: .ref q :: st) sh P I J cells slots := by
  subst hk
  exact ar_iast X hd hs (am_g_intro hi hf) kk
theorem ar_zastK (X : am_C K cc nL own nm R0) {q n k : Nat} {i v : Int32} {F : aI → Option β} (hd : decode cc pc = .ok (.bastore, 1)) (hs : sh[q]? = some (.inr (1, n))) (hi : am_ok i n = true) (hk : i.toNatClampNeg = k) (hf : am_let (am_w I q k (vp_nar .boolean v)) F = some Rs) (kk : ∀ I1, F I1 = some Rs → AW K nL (pc + 1) lo st sh P I1 J cells slots) : AW K nL pc lo (.int v :: .int i :: .ref q :: st) sh P I J cells slots := by
  subst hk
  exact ar_zast X hd hs (am_g_intro hi hf) kk
theorem ar_castK (X : am_C K cc nL own nm R0) {q n k : Nat} {i v : Int32} {F : aI → Option β} (hd : decode cc pc = .ok (.castore, 1)) (hs : sh[q]? = some (.inr (2, n))) (hi : am_ok i n = true) (hk : i.toNatClampNeg = k) (hf : am_let (am_w I q k (vp_nar .char v)) F = some Rs) (kk : ∀ I1, F I1 = some Rs → AW K nL (pc + 1) lo st sh P I1 J cells slots) : AW K nL pc lo (.int v :: .int i :: .ref q :: st) sh P I J cells slots := by
  subst hk
  exact ar_cast X hd hs (am_g_intro hi hf) kk
end AQ
theorem L6_c18 {sh : aS} {P : aP} {o : Nat} (h : L6 sh P o) : L4 sh P (o + 18) := am_L.sub 18 h (by decide) (by decide)
theorem L6_c24 {sh : aS} {P : aP} {o : Nat} (h : L6 sh P o) : L2 sh P (o + 24) := am_L.sub 24 h (by decide) (by decide)
theorem L6_c29 {sh : aS} {P : aP} {o : Nat} (h : L6 sh P o) : L0 sh P (o + 29) := am_L.sub 29 h (by decide) (by decide)
