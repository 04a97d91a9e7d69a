/-! the loop of the law -/
theorem and31 (v : Int32) : ∃ j : Nat, j < 32 ∧ v &&& 31 = nI j := by
  refine ⟨(v.toBitVec &&& 31#32).toNat, ?_, ?_⟩
  · rw [BitVec.toNat_and]
    exact Nat.lt_of_le_of_lt Nat.and_le_right (by decide)
  · apply Int32.toBitVec_inj.mp
    show v.toBitVec &&& 31#32 = BitVec.ofNat 32 _
    rw [BitVec.ofNat_toNat, BitVec.setWidth_eq]
theorem sub4_low {L : Nat} (h : L < 4) : (nI L - 4).toInt < 0 := by
  match L, h with
  | 0, _ => decide
  | 1, _ => decide
  | 2, _ => decide
  | 3, _ => decide
set_option maxRecDepth 100000 in
set_option maxHeartbeats 4000000 in
theorem lw_tab {K : aK} {nm : String} {b L k : Nat} {xs : Nat → Int32} (X : am_C K cL_law 4 RL nm room_1) (HL : am_L0 K b L xs) (hL : L ≤ 2048) (hk : k + 4 ≤ L) (kk : lw_go K 872 k) {sh : aS} {P : aP} {I : aI} {J : aJ} (hs : MS sh P) (hm : MI sh P I) (v : Int32) : AW K 4 32 (lw_lo k) [.int (v &&& 31)] sh P I J sh.length (8000 + 115 * sh.length) := by
  obtain ⟨j, hj, e⟩ := and31 v
  rw [e]
  match j, hj with
  | 0, _ => exact ar_tableIn (x := nI 0) (off := 120) (tgt := 152) X dL_law_32 (by decide) (by decide) rfl (by decide) (lw_c0 X HL hL hk kk sh P I J hs hm)
  | 1, _ => exact ar_tableIn (x := nI 1) (off := 143) (tgt := 175) X dL_law_32 (by decide) (by decide) rfl (by decide) (lw_c1 X HL hL hk kk sh P I J hs hm)
  | 2, _ => exact ar_tableIn (x := nI 2) (off := 176) (tgt := 208) X dL_law_32 (by decide) (by decide) rfl (by decide) (lw_c2 X HL hL hk kk sh P I J hs hm)
  | 3, _ => exact ar_tableIn (x := nI 3) (off := 209) (tgt := 241) X dL_law_32 (by decide) (by decide) rfl (by decide) (lw_c3 X HL hL hk kk sh P I J hs hm)
  | 4, _ => exact ar_tableIn (x := nI 4) (off := 242) (tgt := 274) X dL_law_32 (by decide) (by decide) rfl (by decide) (lw_c4 X HL hL hk kk sh P I J hs hm)
  | 5, _ => exact ar_tableIn (x := nI 5) (off := 275) (tgt := 307) X dL_law_32 (by decide) (by decide) rfl (by decide) (lw_c5 X HL hL hk kk sh P I J hs hm)
  | 6, _ => exact ar_tableIn (x := nI 6) (off := 308) (tgt := 340) X dL_law_32 (by decide) (by decide) rfl (by decide) (lw_c6 X HL hL hk kk sh P I J hs hm)
  | 7, _ => exact ar_tableIn (x := nI 7) (off := 341) (tgt := 373) X dL_law_32 (by decide) (by decide) rfl (by decide) (lw_c7 X HL hL hk kk sh P I J hs hm)
  | 8, _ => exact ar_tableIn (x := nI 8) (off := 364) (tgt := 396) X dL_law_32 (by decide) (by decide) rfl (by decide) (lw_c8 X HL hL hk kk sh P I J hs hm)
  | 9, _ => exact ar_tableIn (x := nI 9) (off := 377) (tgt := 409) X dL_law_32 (by decide) (by decide) rfl (by decide) (lw_c9 X HL hL hk kk sh P I J hs hm)
  | 10, _ => exact ar_tableIn (x := nI 10) (off := 390) (tgt := 422) X dL_law_32 (by decide) (by decide) rfl (by decide) (lw_c10 X HL hL hk kk sh P I J hs hm)
  | 11, _ => exact ar_tableIn (x := nI 11) (off := 423) (tgt := 455) X dL_law_32 (by decide) (by decide) rfl (by decide) (lw_c11 X HL hL hk kk sh P I J hs hm)
  | 12, _ => exact ar_tableIn (x := nI 12) (off := 456) (tgt := 488) X dL_law_32 (by decide) (by decide) rfl (by decide) (lw_c12 X HL hL hk kk sh P I J hs hm)
  | 13, _ => exact ar_tableIn (x := nI 13) (off := 489) (tgt := 521) X dL_law_32 (by decide) (by decide) rfl (by decide) (lw_c13 X HL hL hk kk sh P I J hs hm)
  | 14, _ => exact ar_tableIn (x := nI 14) (off := 512) (tgt := 544) X dL_law_32 (by decide) (by decide) rfl (by decide) (lw_c14 X HL hL hk kk sh P I J hs hm)
  | 15, _ => exact ar_tableIn (x := nI 15) (off := 545) (tgt := 577) X dL_law_32 (by decide) (by decide) rfl (by decide) (lw_c15 X HL hL hk kk sh P I J hs hm)
  | 16, _ => exact ar_tableIn (x := nI 16) (off := 559) (tgt := 591) X dL_law_32 (by decide) (by decide) rfl (by decide) (lw_c16 X HL hL hk kk sh P I J hs hm)
  | 17, _ => exact ar_tableIn (x := nI 17) (off := 593) (tgt := 625) X dL_law_32 (by decide) (by decide) rfl (by decide) (lw_c17 X HL hL hk kk sh P I J hs hm)
  | 18, _ => exact ar_tableIn (x := nI 18) (off := 636) (tgt := 668) X dL_law_32 (by decide) (by decide) rfl (by decide) (lw_c18 X HL hL hk kk sh P I J hs hm)
  | 19, _ => exact ar_tableIn (x := nI 19) (off := 669) (tgt := 701) X dL_law_32 (by decide) (by decide) rfl (by decide) (lw_c19 X HL hL hk kk sh P I J hs hm)
  | 20, _ => exact ar_tableIn (x := nI 20) (off := 702) (tgt := 734) X dL_law_32 (by decide) (by decide) rfl (by decide) (lw_c20 X HL hL hk kk sh P I J hs hm)
  | 21, _ => exact ar_tableIn (x := nI 21) (off := 755) (tgt := 787) X dL_law_32 (by decide) (by decide) rfl (by decide) (lw_c21 X HL hL hk kk sh P I J hs hm)
  | 22, _ => exact ar_tableIn (x := nI 22) (off := 768) (tgt := 800) X dL_law_32 (by decide) (by decide) rfl (by decide) (lw_c22 X HL hL hk kk sh P I J hs hm)
  | 23, _ => exact ar_tableIn (x := nI 23) (off := 781) (tgt := 813) X dL_law_32 (by decide) (by decide) rfl (by decide) (lw_c23 X HL hL hk kk sh P I J hs hm)
  | 24, _ => exact ar_tableIn (x := nI 24) (off := 794) (tgt := 826) X dL_law_32 (by decide) (by decide) rfl (by decide) (lw_c24 X HL hL hk kk sh P I J hs hm)
  | 25, _ => exact ar_tableIn (x := nI 25) (off := 817) (tgt := 849) X dL_law_32 (by decide) (by decide) rfl (by decide) (lw_c25 X HL hL hk kk sh P I J hs hm)
  | 26, _ => exact ar_tableOut (x := nI 26) (tgt := 872) X dL_law_32 (by decide) (by decide) (kk sh P I J hs hm)
  | 27, _ => exact ar_tableOut (x := nI 27) (tgt := 872) X dL_law_32 (by decide) (by decide) (kk sh P I J hs hm)
  | 28, _ => exact ar_tableOut (x := nI 28) (tgt := 872) X dL_law_32 (by decide) (by decide) (kk sh P I J hs hm)
  | 29, _ => exact ar_tableOut (x := nI 29) (tgt := 872) X dL_law_32 (by decide) (by decide) (kk sh P I J hs hm)
  | 30, _ => exact ar_tableOut (x := nI 30) (tgt := 872) X dL_law_32 (by decide) (by decide) (kk sh P I J hs hm)
  | 31, _ => exact ar_tableOut (x := nI 31) (tgt := 872) X dL_law_32 (by decide) (by decide) (kk sh P I J hs hm)
  | j + 32, hj => exact absurd hj (by omega)
theorem law_loop {K : aK} {nm : String} {b L : Nat} {xs : Nat → Int32} (X : am_C K cL_law 4 RL nm room_1) (HL : am_L0 K b L xs) (hL : L ≤ 2048) : ∀ (n k : Nat), k ≤ L → L + 1 ≤ k + n → lw_go K 18 k := by
  intro n
  induction n with
  | zero => intro k h1 h2; omega
  | succ n ih =>
    intro k h1 h2 sh P I J hs hm
    have hr := hs.room
    refine ar_iload_n X dL_law_18 rfl 0 rfl ?_
    refine ar_aload_n X dL_law_19 rfl 3 rfl ?_
    refine ar_xlen X HL dL_law_20 ?_
    refine ar_iconst (v := 4) X dL_law_21 (by decide) ?_
    refine ar_isub X dL_law_22 ?_
    by_cases c : k + 4 ≤ L
    · have hle : ¬ nI L - 4 < nI k := by
        rw [show (4 : Int32) = nI 4 from rfl, nI_sub (by omega), nI_ltq (by omega) (by omega)]
        omega
      refine ar_icmp_gt (β := Unit) (T := none) (F := some ()) (Rs := ()) (tgt := 878) X dL_law_23 (by decide) (if_neg hle) (fun h _ => absurd h hle) (fun _ _ => ?_)
      refine ar_aload_n X dL_law_26 rfl 3 rfl ?_
      refine ar_iload_n X dL_law_27 rfl 0 rfl ?_
      refine ar_xld X HL dL_law_28 (vp_in_nI (by omega) (by omega)) ?_
      refine ar_bipush (v := 31) X dL_law_29 (by decide) ?_
      refine ar_iand X dL_law_31 ?_
      refine lw_tab X HL hL c ?_ hs hm _
      intro sh1 P1 I1 J1 hs1 hm1
      refine ar_iinc (lo' := lw_lo (k + 4)) X dL_law_872 (j := 0) rfl (show nI k + Int32.ofInt 4 = nI (k + 4) from by rw [show Int32.ofInt 4 = nI 4 from rfl, nI_add]) (by decide) rfl ?_
      refine ar_goto (tgt := 18) X dL_law_875 (by decide) ?_
      exact ih (k + 4) (by omega) (by omega) sh1 P1 I1 J1 hs1 hm1
    · have hlt : nI L - 4 < nI k := by
        by_cases c4 : L < 4
        · have h := sub4_low c4
          apply Int32.lt_iff_toInt_lt.mpr
          rw [nI_toInt (by omega)]
          omega
        · rw [show (4 : Int32) = nI 4 from rfl, nI_sub (by omega), nI_ltq (by omega) (by omega)]
          omega
      refine ar_icmp_gt (β := Unit) (T := some ()) (F := none) (Rs := ()) (tgt := 878) X dL_law_23 (by decide) (if_pos hlt) (fun _ _ => ?_) (fun h _ => absurd hlt h)
      refine ar_iconst (v := 1) X dL_law_878 (by decide) ?_
      exact ar_lawret X HL (by have := hs.len; omega) (by have := hs.len; omega) dL_law_879
