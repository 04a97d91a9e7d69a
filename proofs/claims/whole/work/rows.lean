section
-- ===== PART A: goes FIRST, ahead of the names: the tables' words, and 'selects' of the private methods out of them =====
/-- a private method of a class that the tables say can be made, by its rows of tables_1 -/
def lw_okq (q : MethodName × Nat) : Prop := (q.1.cls ≠ "java/lang/invoke/MethodHandle" ∧ q.1.cls ≠ "java/lang/invoke/VarHandle") ∧ Cond.instantiable q.1.cls q.2 ∈ tables_1 ∧ Cond.privateMethod q.1 ∈ tables_1 ∧ Cond.instanceMethod q.1 ∈ tables_1
theorem lw_p0 : lw_okq (⟨"PurseAuction$Auction", "clear", "()V"⟩, 9) := ⟨⟨by decide +kernel, by decide +kernel⟩, List.mem_of_getElem? (i := 93) (by decide +kernel), List.mem_of_getElem? (i := 99) (by decide +kernel), List.mem_of_getElem? (i := 100) (by decide +kernel)⟩
theorem lw_p1 : lw_okq (⟨"PurseAuction$Game", "startAnew", "(I)V"⟩, 4) := ⟨⟨by decide +kernel, by decide +kernel⟩, List.mem_of_getElem? (i := 21) (by decide +kernel), List.mem_of_getElem? (i := 204) (by decide +kernel), List.mem_of_getElem? (i := 205) (by decide +kernel)⟩
theorem lw_p2 : lw_okq (⟨"PurseAuction$Game", "settingOf", "(I)I"⟩, 4) := ⟨⟨by decide +kernel, by decide +kernel⟩, List.mem_of_getElem? (i := 21) (by decide +kernel), List.mem_of_getElem? (i := 208) (by decide +kernel), List.mem_of_getElem? (i := 209) (by decide +kernel)⟩
theorem lw_p3 : lw_okq (⟨"PurseAuction$Purses", "startAnew", "(II)V"⟩, 6) := ⟨⟨by decide +kernel, by decide +kernel⟩, List.mem_of_getElem? (i := 36) (by decide +kernel), List.mem_of_getElem? (i := 212) (by decide +kernel), List.mem_of_getElem? (i := 213) (by decide +kernel)⟩
theorem lw_p4 : lw_okq (⟨"PurseAuction$Lots", "clear", "()V"⟩, 6) := ⟨⟨by decide +kernel, by decide +kernel⟩, List.mem_of_getElem? (i := 65) (by decide +kernel), List.mem_of_getElem? (i := 219) (by decide +kernel), List.mem_of_getElem? (i := 220) (by decide +kernel)⟩
theorem lw_p5 : lw_okq (⟨"PurseAuction$Auction", "goesOn", "()Z"⟩, 9) := ⟨⟨by decide +kernel, by decide +kernel⟩, List.mem_of_getElem? (i := 93) (by decide +kernel), List.mem_of_getElem? (i := 261) (by decide +kernel), List.mem_of_getElem? (i := 262) (by decide +kernel)⟩
theorem lw_p6 : lw_okq (⟨"PurseAuction$Game", "changeSetting", "(II)I"⟩, 4) := ⟨⟨by decide +kernel, by decide +kernel⟩, List.mem_of_getElem? (i := 21) (by decide +kernel), List.mem_of_getElem? (i := 265) (by decide +kernel), List.mem_of_getElem? (i := 266) (by decide +kernel)⟩
theorem lw_p7 : lw_okq (⟨"PurseAuction$Purses", "hasSeat", "(I)Z"⟩, 6) := ⟨⟨by decide +kernel, by decide +kernel⟩, List.mem_of_getElem? (i := 36) (by decide +kernel), List.mem_of_getElem? (i := 274) (by decide +kernel), List.mem_of_getElem? (i := 275) (by decide +kernel)⟩
theorem lw_p8 : lw_okq (⟨"PurseAuction$Game", "isUnopened", "()Z"⟩, 4) := ⟨⟨by decide +kernel, by decide +kernel⟩, List.mem_of_getElem? (i := 21) (by decide +kernel), List.mem_of_getElem? (i := 278) (by decide +kernel), List.mem_of_getElem? (i := 279) (by decide +kernel)⟩
theorem lw_p9 : lw_okq (⟨"PurseAuction$Purses", "fillAnew", "(II)I"⟩, 6) := ⟨⟨by decide +kernel, by decide +kernel⟩, List.mem_of_getElem? (i := 36) (by decide +kernel), List.mem_of_getElem? (i := 283) (by decide +kernel), List.mem_of_getElem? (i := 284) (by decide +kernel)⟩
theorem lw_p10 : lw_okq (⟨"PurseAuction$Purses", "changeBoldness", "(II)I"⟩, 6) := ⟨⟨by decide +kernel, by decide +kernel⟩, List.mem_of_getElem? (i := 36) (by decide +kernel), List.mem_of_getElem? (i := 292) (by decide +kernel), List.mem_of_getElem? (i := 293) (by decide +kernel)⟩
theorem lw_p11 : lw_okq (⟨"PurseAuction$Lots", "areFull", "()Z"⟩, 6) := ⟨⟨by decide +kernel, by decide +kernel⟩, List.mem_of_getElem? (i := 65) (by decide +kernel), List.mem_of_getElem? (i := 300) (by decide +kernel), List.mem_of_getElem? (i := 301) (by decide +kernel)⟩
theorem lw_p12 : lw_okq (⟨"PurseAuction$Lots", "add", "(II)I"⟩, 6) := ⟨⟨by decide +kernel, by decide +kernel⟩, List.mem_of_getElem? (i := 65) (by decide +kernel), List.mem_of_getElem? (i := 304) (by decide +kernel), List.mem_of_getElem? (i := 305) (by decide +kernel)⟩
theorem lw_p13 : lw_okq (⟨"PurseAuction$Game", "startAuction", "(II)I"⟩, 4) := ⟨⟨by decide +kernel, by decide +kernel⟩, List.mem_of_getElem? (i := 21) (by decide +kernel), List.mem_of_getElem? (i := 313) (by decide +kernel), List.mem_of_getElem? (i := 314) (by decide +kernel)⟩
theorem lw_p14 : lw_okq (⟨"PurseAuction$Lots", "nextIsForSale", "()Z"⟩, 6) := ⟨⟨by decide +kernel, by decide +kernel⟩, List.mem_of_getElem? (i := 65) (by decide +kernel), List.mem_of_getElem? (i := 323) (by decide +kernel), List.mem_of_getElem? (i := 324) (by decide +kernel)⟩
theorem lw_p15 : lw_okq (⟨"PurseAuction$Game", "starter", "()I"⟩, 4) := ⟨⟨by decide +kernel, by decide +kernel⟩, List.mem_of_getElem? (i := 21) (by decide +kernel), List.mem_of_getElem? (i := 327) (by decide +kernel), List.mem_of_getElem? (i := 328) (by decide +kernel)⟩
def lw_privs_1 : List (MethodName × Nat) := [(⟨"PurseAuction$Auction", "clear", "()V"⟩, 9), (⟨"PurseAuction$Game", "startAnew", "(I)V"⟩, 4), (⟨"PurseAuction$Game", "settingOf", "(I)I"⟩, 4), (⟨"PurseAuction$Purses", "startAnew", "(II)V"⟩, 6), (⟨"PurseAuction$Lots", "clear", "()V"⟩, 6), (⟨"PurseAuction$Auction", "goesOn", "()Z"⟩, 9), (⟨"PurseAuction$Game", "changeSetting", "(II)I"⟩, 4), (⟨"PurseAuction$Purses", "hasSeat", "(I)Z"⟩, 6), (⟨"PurseAuction$Game", "isUnopened", "()Z"⟩, 4), (⟨"PurseAuction$Purses", "fillAnew", "(II)I"⟩, 6), (⟨"PurseAuction$Purses", "changeBoldness", "(II)I"⟩, 6), (⟨"PurseAuction$Lots", "areFull", "()Z"⟩, 6), (⟨"PurseAuction$Lots", "add", "(II)I"⟩, 6), (⟨"PurseAuction$Game", "startAuction", "(II)I"⟩, 4), (⟨"PurseAuction$Lots", "nextIsForSale", "()Z"⟩, 6), (⟨"PurseAuction$Game", "starter", "()I"⟩, 4)]
theorem lw_r1 : ∀ q ∈ lw_privs_1, lw_okq q := List.forall_mem_cons.mpr ⟨lw_p0, List.forall_mem_cons.mpr ⟨lw_p1, List.forall_mem_cons.mpr ⟨lw_p2, List.forall_mem_cons.mpr ⟨lw_p3, List.forall_mem_cons.mpr ⟨lw_p4, List.forall_mem_cons.mpr ⟨lw_p5, List.forall_mem_cons.mpr ⟨lw_p6, List.forall_mem_cons.mpr ⟨lw_p7, List.forall_mem_cons.mpr ⟨lw_p8, List.forall_mem_cons.mpr ⟨lw_p9, List.forall_mem_cons.mpr ⟨lw_p10, List.forall_mem_cons.mpr ⟨lw_p11, List.forall_mem_cons.mpr ⟨lw_p12, List.forall_mem_cons.mpr ⟨lw_p13, List.forall_mem_cons.mpr ⟨lw_p14, List.forall_mem_cons.mpr ⟨lw_p15, fun _ h => absurd h List.not_mem_nil⟩⟩⟩⟩⟩⟩⟩⟩⟩⟩⟩⟩⟩⟩⟩⟩
theorem lw_p16 : lw_okq (⟨"PurseAuction$Auction", "start", "(III)V"⟩, 9) := ⟨⟨by decide +kernel, by decide +kernel⟩, List.mem_of_getElem? (i := 93) (by decide +kernel), List.mem_of_getElem? (i := 331) (by decide +kernel), List.mem_of_getElem? (i := 332) (by decide +kernel)⟩
theorem lw_p17 : lw_okq (⟨"PurseAuction$Lots", "next", "()I"⟩, 6) := ⟨⟨by decide +kernel, by decide +kernel⟩, List.mem_of_getElem? (i := 65) (by decide +kernel), List.mem_of_getElem? (i := 335) (by decide +kernel), List.mem_of_getElem? (i := 336) (by decide +kernel)⟩
theorem lw_p18 : lw_okq (⟨"PurseAuction$Game", "takeBid", "(II)I"⟩, 4) := ⟨⟨by decide +kernel, by decide +kernel⟩, List.mem_of_getElem? (i := 21) (by decide +kernel), List.mem_of_getElem? (i := 343) (by decide +kernel), List.mem_of_getElem? (i := 344) (by decide +kernel)⟩
theorem lw_p19 : lw_okq (⟨"PurseAuction$Game", "raise", "(II)I"⟩, 4) := ⟨⟨by decide +kernel, by decide +kernel⟩, List.mem_of_getElem? (i := 21) (by decide +kernel), List.mem_of_getElem? (i := 348) (by decide +kernel), List.mem_of_getElem? (i := 349) (by decide +kernel)⟩
theorem lw_p20 : lw_okq (⟨"PurseAuction$Game", "leastRaise", "()I"⟩, 4) := ⟨⟨by decide +kernel, by decide +kernel⟩, List.mem_of_getElem? (i := 21) (by decide +kernel), List.mem_of_getElem? (i := 352) (by decide +kernel), List.mem_of_getElem? (i := 353) (by decide +kernel)⟩
theorem lw_p21 : lw_okq (⟨"PurseAuction$Purses", "amountOf", "(I)I"⟩, 6) := ⟨⟨by decide +kernel, by decide +kernel⟩, List.mem_of_getElem? (i := 36) (by decide +kernel), List.mem_of_getElem? (i := 356) (by decide +kernel), List.mem_of_getElem? (i := 357) (by decide +kernel)⟩
theorem lw_p22 : lw_okq (⟨"PurseAuction$Auction", "noteBid", "(II)V"⟩, 9) := ⟨⟨by decide +kernel, by decide +kernel⟩, List.mem_of_getElem? (i := 93) (by decide +kernel), List.mem_of_getElem? (i := 361) (by decide +kernel), List.mem_of_getElem? (i := 362) (by decide +kernel)⟩
theorem lw_p23 : lw_okq (⟨"PurseAuction$Purses", "learnAtLeast", "(II)V"⟩, 6) := ⟨⟨by decide +kernel, by decide +kernel⟩, List.mem_of_getElem? (i := 36) (by decide +kernel), List.mem_of_getElem? (i := 366) (by decide +kernel), List.mem_of_getElem? (i := 367) (by decide +kernel)⟩
theorem lw_p24 : lw_okq (⟨"PurseAuction$Game", "turnBehind", "(I)V"⟩, 4) := ⟨⟨by decide +kernel, by decide +kernel⟩, List.mem_of_getElem? (i := 21) (by decide +kernel), List.mem_of_getElem? (i := 370) (by decide +kernel), List.mem_of_getElem? (i := 371) (by decide +kernel)⟩
theorem lw_p25 : lw_okq (⟨"PurseAuction$Game", "nextToAct", "(I)I"⟩, 4) := ⟨⟨by decide +kernel, by decide +kernel⟩, List.mem_of_getElem? (i := 21) (by decide +kernel), List.mem_of_getElem? (i := 374) (by decide +kernel), List.mem_of_getElem? (i := 375) (by decide +kernel)⟩
theorem lw_p26 : lw_okq (⟨"PurseAuction$Purses", "seatBehind", "(II)I"⟩, 6) := ⟨⟨by decide +kernel, by decide +kernel⟩, List.mem_of_getElem? (i := 36) (by decide +kernel), List.mem_of_getElem? (i := 378) (by decide +kernel), List.mem_of_getElem? (i := 379) (by decide +kernel)⟩
theorem lw_p27 : lw_okq (⟨"PurseAuction$Auction", "isOut", "(I)Z"⟩, 9) := ⟨⟨by decide +kernel, by decide +kernel⟩, List.mem_of_getElem? (i := 93) (by decide +kernel), List.mem_of_getElem? (i := 382) (by decide +kernel), List.mem_of_getElem? (i := 383) (by decide +kernel)⟩
theorem lw_p28 : lw_okq (⟨"PurseAuction$Game", "handIn", "(II)I"⟩, 4) := ⟨⟨by decide +kernel, by decide +kernel⟩, List.mem_of_getElem? (i := 21) (by decide +kernel), List.mem_of_getElem? (i := 386) (by decide +kernel), List.mem_of_getElem? (i := 387) (by decide +kernel)⟩
theorem lw_p29 : lw_okq (⟨"PurseAuction$Auction", "bidOf", "(I)I"⟩, 9) := ⟨⟨by decide +kernel, by decide +kernel⟩, List.mem_of_getElem? (i := 93) (by decide +kernel), List.mem_of_getElem? (i := 390) (by decide +kernel), List.mem_of_getElem? (i := 391) (by decide +kernel)⟩
theorem lw_p30 : lw_okq (⟨"PurseAuction$Game", "openBids", "()V"⟩, 4) := ⟨⟨by decide +kernel, by decide +kernel⟩, List.mem_of_getElem? (i := 21) (by decide +kernel), List.mem_of_getElem? (i := 394) (by decide +kernel), List.mem_of_getElem? (i := 395) (by decide +kernel)⟩
theorem lw_p31 : lw_okq (⟨"PurseAuction$Game", "claim", "(II)I"⟩, 4) := ⟨⟨by decide +kernel, by decide +kernel⟩, List.mem_of_getElem? (i := 21) (by decide +kernel), List.mem_of_getElem? (i := 398) (by decide +kernel), List.mem_of_getElem? (i := 399) (by decide +kernel)⟩
def lw_privs_2 : List (MethodName × Nat) := [(⟨"PurseAuction$Auction", "start", "(III)V"⟩, 9), (⟨"PurseAuction$Lots", "next", "()I"⟩, 6), (⟨"PurseAuction$Game", "takeBid", "(II)I"⟩, 4), (⟨"PurseAuction$Game", "raise", "(II)I"⟩, 4), (⟨"PurseAuction$Game", "leastRaise", "()I"⟩, 4), (⟨"PurseAuction$Purses", "amountOf", "(I)I"⟩, 6), (⟨"PurseAuction$Auction", "noteBid", "(II)V"⟩, 9), (⟨"PurseAuction$Purses", "learnAtLeast", "(II)V"⟩, 6), (⟨"PurseAuction$Game", "turnBehind", "(I)V"⟩, 4), (⟨"PurseAuction$Game", "nextToAct", "(I)I"⟩, 4), (⟨"PurseAuction$Purses", "seatBehind", "(II)I"⟩, 6), (⟨"PurseAuction$Auction", "isOut", "(I)Z"⟩, 9), (⟨"PurseAuction$Game", "handIn", "(II)I"⟩, 4), (⟨"PurseAuction$Auction", "bidOf", "(I)I"⟩, 9), (⟨"PurseAuction$Game", "openBids", "()V"⟩, 4), (⟨"PurseAuction$Game", "claim", "(II)I"⟩, 4)]
theorem lw_r2 : ∀ q ∈ lw_privs_2, lw_okq q := List.forall_mem_cons.mpr ⟨lw_p16, List.forall_mem_cons.mpr ⟨lw_p17, List.forall_mem_cons.mpr ⟨lw_p18, List.forall_mem_cons.mpr ⟨lw_p19, List.forall_mem_cons.mpr ⟨lw_p20, List.forall_mem_cons.mpr ⟨lw_p21, List.forall_mem_cons.mpr ⟨lw_p22, List.forall_mem_cons.mpr ⟨lw_p23, List.forall_mem_cons.mpr ⟨lw_p24, List.forall_mem_cons.mpr ⟨lw_p25, List.forall_mem_cons.mpr ⟨lw_p26, List.forall_mem_cons.mpr ⟨lw_p27, List.forall_mem_cons.mpr ⟨lw_p28, List.forall_mem_cons.mpr ⟨lw_p29, List.forall_mem_cons.mpr ⟨lw_p30, List.forall_mem_cons.mpr ⟨lw_p31, fun _ h => absurd h List.not_mem_nil⟩⟩⟩⟩⟩⟩⟩⟩⟩⟩⟩⟩⟩⟩⟩⟩
theorem lw_p32 : lw_okq (⟨"PurseAuction$Game", "settle", "()I"⟩, 4) := ⟨⟨by decide +kernel, by decide +kernel⟩, List.mem_of_getElem? (i := 21) (by decide +kernel), List.mem_of_getElem? (i := 402) (by decide +kernel), List.mem_of_getElem? (i := 403) (by decide +kernel)⟩
theorem lw_p33 : lw_okq (⟨"PurseAuction$Game", "collect", "(II)V"⟩, 4) := ⟨⟨by decide +kernel, by decide +kernel⟩, List.mem_of_getElem? (i := 21) (by decide +kernel), List.mem_of_getElem? (i := 406) (by decide +kernel), List.mem_of_getElem? (i := 407) (by decide +kernel)⟩
theorem lw_p34 : lw_okq (⟨"PurseAuction$Purses", "takeFrom", "(II)V"⟩, 6) := ⟨⟨by decide +kernel, by decide +kernel⟩, List.mem_of_getElem? (i := 36) (by decide +kernel), List.mem_of_getElem? (i := 416) (by decide +kernel), List.mem_of_getElem? (i := 417) (by decide +kernel)⟩
theorem lw_p35 : lw_okq (⟨"PurseAuction$Lots", "close", "(II)V"⟩, 6) := ⟨⟨by decide +kernel, by decide +kernel⟩, List.mem_of_getElem? (i := 65) (by decide +kernel), List.mem_of_getElem? (i := 423) (by decide +kernel), List.mem_of_getElem? (i := 424) (by decide +kernel)⟩
theorem lw_p36 : lw_okq (⟨"PurseAuction$Game", "takePass", "(I)I"⟩, 4) := ⟨⟨by decide +kernel, by decide +kernel⟩, List.mem_of_getElem? (i := 21) (by decide +kernel), List.mem_of_getElem? (i := 431) (by decide +kernel), List.mem_of_getElem? (i := 432) (by decide +kernel)⟩
theorem lw_p37 : lw_okq (⟨"PurseAuction$Game", "stepOut", "(I)I"⟩, 4) := ⟨⟨by decide +kernel, by decide +kernel⟩, List.mem_of_getElem? (i := 21) (by decide +kernel), List.mem_of_getElem? (i := 435) (by decide +kernel), List.mem_of_getElem? (i := 436) (by decide +kernel)⟩
theorem lw_p38 : lw_okq (⟨"PurseAuction$Auction", "noteOut", "(I)V"⟩, 9) := ⟨⟨by decide +kernel, by decide +kernel⟩, List.mem_of_getElem? (i := 93) (by decide +kernel), List.mem_of_getElem? (i := 439) (by decide +kernel), List.mem_of_getElem? (i := 440) (by decide +kernel)⟩
theorem lw_p39 : lw_okq (⟨"PurseAuction$Game", "letFall", "()I"⟩, 4) := ⟨⟨by decide +kernel, by decide +kernel⟩, List.mem_of_getElem? (i := 21) (by decide +kernel), List.mem_of_getElem? (i := 443) (by decide +kernel), List.mem_of_getElem? (i := 444) (by decide +kernel)⟩
theorem lw_p40 : lw_okq (⟨"PurseAuction$Game", "moveAlone", "()I"⟩, 4) := ⟨⟨by decide +kernel, by decide +kernel⟩, List.mem_of_getElem? (i := 21) (by decide +kernel), List.mem_of_getElem? (i := 451) (by decide +kernel), List.mem_of_getElem? (i := 452) (by decide +kernel)⟩
theorem lw_p41 : lw_okq (⟨"PurseAuction$Game", "claimAlone", "()V"⟩, 4) := ⟨⟨by decide +kernel, by decide +kernel⟩, List.mem_of_getElem? (i := 21) (by decide +kernel), List.mem_of_getElem? (i := 455) (by decide +kernel), List.mem_of_getElem? (i := 456) (by decide +kernel)⟩
theorem lw_p42 : lw_okq (⟨"PurseAuction$Game", "limitOf", "(I)I"⟩, 4) := ⟨⟨by decide +kernel, by decide +kernel⟩, List.mem_of_getElem? (i := 21) (by decide +kernel), List.mem_of_getElem? (i := 459) (by decide +kernel), List.mem_of_getElem? (i := 460) (by decide +kernel)⟩
theorem lw_p43 : lw_okq (⟨"PurseAuction$Lots", "gainFor", "(III)I"⟩, 6) := ⟨⟨by decide +kernel, by decide +kernel⟩, List.mem_of_getElem? (i := 65) (by decide +kernel), List.mem_of_getElem? (i := 463) (by decide +kernel), List.mem_of_getElem? (i := 464) (by decide +kernel)⟩
theorem lw_p44 : lw_okq (⟨"PurseAuction$Lots", "hasLot", "(I)Z"⟩, 6) := ⟨⟨by decide +kernel, by decide +kernel⟩, List.mem_of_getElem? (i := 65) (by decide +kernel), List.mem_of_getElem? (i := 467) (by decide +kernel), List.mem_of_getElem? (i := 468) (by decide +kernel)⟩
theorem lw_p45 : lw_okq (⟨"PurseAuction$Purses", "boldnessOf", "(I)I"⟩, 6) := ⟨⟨by decide +kernel, by decide +kernel⟩, List.mem_of_getElem? (i := 36) (by decide +kernel), List.mem_of_getElem? (i := 472) (by decide +kernel), List.mem_of_getElem? (i := 473) (by decide +kernel)⟩
theorem lw_p46 : lw_okq (⟨"PurseAuction$Game", "firstWithoutBid", "()I"⟩, 4) := ⟨⟨by decide +kernel, by decide +kernel⟩, List.mem_of_getElem? (i := 21) (by decide +kernel), List.mem_of_getElem? (i := 477) (by decide +kernel), List.mem_of_getElem? (i := 478) (by decide +kernel)⟩
theorem lw_p47 : lw_okq (⟨"PurseAuction$Game", "giveLast", "()I"⟩, 4) := ⟨⟨by decide +kernel, by decide +kernel⟩, List.mem_of_getElem? (i := 21) (by decide +kernel), List.mem_of_getElem? (i := 485) (by decide +kernel), List.mem_of_getElem? (i := 486) (by decide +kernel)⟩
def lw_privs_3 : List (MethodName × Nat) := [(⟨"PurseAuction$Game", "settle", "()I"⟩, 4), (⟨"PurseAuction$Game", "collect", "(II)V"⟩, 4), (⟨"PurseAuction$Purses", "takeFrom", "(II)V"⟩, 6), (⟨"PurseAuction$Lots", "close", "(II)V"⟩, 6), (⟨"PurseAuction$Game", "takePass", "(I)I"⟩, 4), (⟨"PurseAuction$Game", "stepOut", "(I)I"⟩, 4), (⟨"PurseAuction$Auction", "noteOut", "(I)V"⟩, 9), (⟨"PurseAuction$Game", "letFall", "()I"⟩, 4), (⟨"PurseAuction$Game", "moveAlone", "()I"⟩, 4), (⟨"PurseAuction$Game", "claimAlone", "()V"⟩, 4), (⟨"PurseAuction$Game", "limitOf", "(I)I"⟩, 4), (⟨"PurseAuction$Lots", "gainFor", "(III)I"⟩, 6), (⟨"PurseAuction$Lots", "hasLot", "(I)Z"⟩, 6), (⟨"PurseAuction$Purses", "boldnessOf", "(I)I"⟩, 6), (⟨"PurseAuction$Game", "firstWithoutBid", "()I"⟩, 4), (⟨"PurseAuction$Game", "giveLast", "()I"⟩, 4)]
theorem lw_r3 : ∀ q ∈ lw_privs_3, lw_okq q := List.forall_mem_cons.mpr ⟨lw_p32, List.forall_mem_cons.mpr ⟨lw_p33, List.forall_mem_cons.mpr ⟨lw_p34, List.forall_mem_cons.mpr ⟨lw_p35, List.forall_mem_cons.mpr ⟨lw_p36, List.forall_mem_cons.mpr ⟨lw_p37, List.forall_mem_cons.mpr ⟨lw_p38, List.forall_mem_cons.mpr ⟨lw_p39, List.forall_mem_cons.mpr ⟨lw_p40, List.forall_mem_cons.mpr ⟨lw_p41, List.forall_mem_cons.mpr ⟨lw_p42, List.forall_mem_cons.mpr ⟨lw_p43, List.forall_mem_cons.mpr ⟨lw_p44, List.forall_mem_cons.mpr ⟨lw_p45, List.forall_mem_cons.mpr ⟨lw_p46, List.forall_mem_cons.mpr ⟨lw_p47, fun _ h => absurd h List.not_mem_nil⟩⟩⟩⟩⟩⟩⟩⟩⟩⟩⟩⟩⟩⟩⟩⟩
theorem lw_p48 : lw_okq (⟨"PurseAuction$Lots", "nextIsLast", "()Z"⟩, 6) := ⟨⟨by decide +kernel, by decide +kernel⟩, List.mem_of_getElem? (i := 65) (by decide +kernel), List.mem_of_getElem? (i := 489) (by decide +kernel), List.mem_of_getElem? (i := 490) (by decide +kernel)⟩
theorem lw_p49 : lw_okq (⟨"PurseAuction$Purses", "poorest", "(I)I"⟩, 6) := ⟨⟨by decide +kernel, by decide +kernel⟩, List.mem_of_getElem? (i := 36) (by decide +kernel), List.mem_of_getElem? (i := 493) (by decide +kernel), List.mem_of_getElem? (i := 494) (by decide +kernel)⟩
theorem lw_p50 : lw_okq (⟨"PurseAuction$Purses", "question", "(II)Z"⟩, 6) := ⟨⟨by decide +kernel, by decide +kernel⟩, List.mem_of_getElem? (i := 36) (by decide +kernel), List.mem_of_getElem? (i := 503) (by decide +kernel), List.mem_of_getElem? (i := 504) (by decide +kernel)⟩
theorem lw_p51 : lw_okq (⟨"PurseAuction$Purses", "learnAtMost", "(II)V"⟩, 6) := ⟨⟨by decide +kernel, by decide +kernel⟩, List.mem_of_getElem? (i := 36) (by decide +kernel), List.mem_of_getElem? (i := 508) (by decide +kernel), List.mem_of_getElem? (i := 509) (by decide +kernel)⟩
theorem lw_p52 : lw_okq (⟨"PurseAuction$Purses", "paidBy", "(I)I"⟩, 6) := ⟨⟨by decide +kernel, by decide +kernel⟩, List.mem_of_getElem? (i := 36) (by decide +kernel), List.mem_of_getElem? (i := 518) (by decide +kernel), List.mem_of_getElem? (i := 519) (by decide +kernel)⟩
theorem lw_p53 : lw_okq (⟨"PurseAuction$Game", "valueOf", "(I)I"⟩, 4) := ⟨⟨by decide +kernel, by decide +kernel⟩, List.mem_of_getElem? (i := 21) (by decide +kernel), List.mem_of_getElem? (i := 522) (by decide +kernel), List.mem_of_getElem? (i := 523) (by decide +kernel)⟩
theorem lw_p54 : lw_okq (⟨"PurseAuction$Lots", "valueFor", "(III)I"⟩, 6) := ⟨⟨by decide +kernel, by decide +kernel⟩, List.mem_of_getElem? (i := 65) (by decide +kernel), List.mem_of_getElem? (i := 526) (by decide +kernel), List.mem_of_getElem? (i := 527) (by decide +kernel)⟩
theorem lw_p55 : lw_okq (⟨"PurseAuction$Lots", "owns", "(II)Z"⟩, 6) := ⟨⟨by decide +kernel, by decide +kernel⟩, List.mem_of_getElem? (i := 65) (by decide +kernel), List.mem_of_getElem? (i := 530) (by decide +kernel), List.mem_of_getElem? (i := 531) (by decide +kernel)⟩
theorem lw_p56 : lw_okq (⟨"PurseAuction$Lots", "shareOf", "(I)I"⟩, 6) := ⟨⟨by decide +kernel, by decide +kernel⟩, List.mem_of_getElem? (i := 65) (by decide +kernel), List.mem_of_getElem? (i := 534) (by decide +kernel), List.mem_of_getElem? (i := 535) (by decide +kernel)⟩
theorem lw_p57 : lw_okq (⟨"PurseAuction$Lots", "ownedOfColour", "(II)I"⟩, 6) := ⟨⟨by decide +kernel, by decide +kernel⟩, List.mem_of_getElem? (i := 65) (by decide +kernel), List.mem_of_getElem? (i := 538) (by decide +kernel), List.mem_of_getElem? (i := 539) (by decide +kernel)⟩
theorem lw_p58 : lw_okq (⟨"PurseAuction$Game", "scoreOf", "(I)I"⟩, 4) := ⟨⟨by decide +kernel, by decide +kernel⟩, List.mem_of_getElem? (i := 21) (by decide +kernel), List.mem_of_getElem? (i := 542) (by decide +kernel), List.mem_of_getElem? (i := 543) (by decide +kernel)⟩
theorem lw_p59 : lw_okq (⟨"PurseAuction$Game", "placeOf", "(I)I"⟩, 4) := ⟨⟨by decide +kernel, by decide +kernel⟩, List.mem_of_getElem? (i := 21) (by decide +kernel), List.mem_of_getElem? (i := 547) (by decide +kernel), List.mem_of_getElem? (i := 548) (by decide +kernel)⟩
theorem lw_p60 : lw_okq (⟨"PurseAuction$Lots", "ownedBy", "(I)I"⟩, 6) := ⟨⟨by decide +kernel, by decide +kernel⟩, List.mem_of_getElem? (i := 65) (by decide +kernel), List.mem_of_getElem? (i := 552) (by decide +kernel), List.mem_of_getElem? (i := 553) (by decide +kernel)⟩
theorem lw_p61 : lw_okq (⟨"PurseAuction$Lots", "colourOf", "(I)I"⟩, 6) := ⟨⟨by decide +kernel, by decide +kernel⟩, List.mem_of_getElem? (i := 65) (by decide +kernel), List.mem_of_getElem? (i := 564) (by decide +kernel), List.mem_of_getElem? (i := 565) (by decide +kernel)⟩
theorem lw_p62 : lw_okq (⟨"PurseAuction$Lots", "worthOf", "(I)I"⟩, 6) := ⟨⟨by decide +kernel, by decide +kernel⟩, List.mem_of_getElem? (i := 65) (by decide +kernel), List.mem_of_getElem? (i := 568) (by decide +kernel), List.mem_of_getElem? (i := 569) (by decide +kernel)⟩
theorem lw_p63 : lw_okq (⟨"PurseAuction$Lots", "ownersOf", "(I)I"⟩, 6) := ⟨⟨by decide +kernel, by decide +kernel⟩, List.mem_of_getElem? (i := 65) (by decide +kernel), List.mem_of_getElem? (i := 572) (by decide +kernel), List.mem_of_getElem? (i := 573) (by decide +kernel)⟩
def lw_privs_4 : List (MethodName × Nat) := [(⟨"PurseAuction$Lots", "nextIsLast", "()Z"⟩, 6), (⟨"PurseAuction$Purses", "poorest", "(I)I"⟩, 6), (⟨"PurseAuction$Purses", "question", "(II)Z"⟩, 6), (⟨"PurseAuction$Purses", "learnAtMost", "(II)V"⟩, 6), (⟨"PurseAuction$Purses", "paidBy", "(I)I"⟩, 6), (⟨"PurseAuction$Game", "valueOf", "(I)I"⟩, 4), (⟨"PurseAuction$Lots", "valueFor", "(III)I"⟩, 6), (⟨"PurseAuction$Lots", "owns", "(II)Z"⟩, 6), (⟨"PurseAuction$Lots", "shareOf", "(I)I"⟩, 6), (⟨"PurseAuction$Lots", "ownedOfColour", "(II)I"⟩, 6), (⟨"PurseAuction$Game", "scoreOf", "(I)I"⟩, 4), (⟨"PurseAuction$Game", "placeOf", "(I)I"⟩, 4), (⟨"PurseAuction$Lots", "ownedBy", "(I)I"⟩, 6), (⟨"PurseAuction$Lots", "colourOf", "(I)I"⟩, 6), (⟨"PurseAuction$Lots", "worthOf", "(I)I"⟩, 6), (⟨"PurseAuction$Lots", "ownersOf", "(I)I"⟩, 6)]
theorem lw_r4 : ∀ q ∈ lw_privs_4, lw_okq q := List.forall_mem_cons.mpr ⟨lw_p48, List.forall_mem_cons.mpr ⟨lw_p49, List.forall_mem_cons.mpr ⟨lw_p50, List.forall_mem_cons.mpr ⟨lw_p51, List.forall_mem_cons.mpr ⟨lw_p52, List.forall_mem_cons.mpr ⟨lw_p53, List.forall_mem_cons.mpr ⟨lw_p54, List.forall_mem_cons.mpr ⟨lw_p55, List.forall_mem_cons.mpr ⟨lw_p56, List.forall_mem_cons.mpr ⟨lw_p57, List.forall_mem_cons.mpr ⟨lw_p58, List.forall_mem_cons.mpr ⟨lw_p59, List.forall_mem_cons.mpr ⟨lw_p60, List.forall_mem_cons.mpr ⟨lw_p61, List.forall_mem_cons.mpr ⟨lw_p62, List.forall_mem_cons.mpr ⟨lw_p63, fun _ h => absurd h List.not_mem_nil⟩⟩⟩⟩⟩⟩⟩⟩⟩⟩⟩⟩⟩⟩⟩⟩
theorem lw_p64 : lw_okq (⟨"PurseAuction$Lots", "priceOf", "(I)I"⟩, 6) := ⟨⟨by decide +kernel, by decide +kernel⟩, List.mem_of_getElem? (i := 65) (by decide +kernel), List.mem_of_getElem? (i := 576) (by decide +kernel), List.mem_of_getElem? (i := 577) (by decide +kernel)⟩
theorem lw_p65 : lw_okq (⟨"PurseAuction$Lots", "stateOf", "(I)I"⟩, 6) := ⟨⟨by decide +kernel, by decide +kernel⟩, List.mem_of_getElem? (i := 65) (by decide +kernel), List.mem_of_getElem? (i := 580) (by decide +kernel), List.mem_of_getElem? (i := 581) (by decide +kernel)⟩
theorem lw_p66 : lw_okq (⟨"PurseAuction$Purses", "sum", "()I"⟩, 6) := ⟨⟨by decide +kernel, by decide +kernel⟩, List.mem_of_getElem? (i := 36) (by decide +kernel), List.mem_of_getElem? (i := 592) (by decide +kernel), List.mem_of_getElem? (i := 593) (by decide +kernel)⟩
theorem lw_p67 : lw_okq (⟨"PurseAuction$Purses", "paidByAll", "()I"⟩, 6) := ⟨⟨by decide +kernel, by decide +kernel⟩, List.mem_of_getElem? (i := 36) (by decide +kernel), List.mem_of_getElem? (i := 596) (by decide +kernel), List.mem_of_getElem? (i := 597) (by decide +kernel)⟩
theorem lw_p68 : lw_okq (⟨"PurseAuction$Purses", "leastOf", "(I)I"⟩, 6) := ⟨⟨by decide +kernel, by decide +kernel⟩, List.mem_of_getElem? (i := 36) (by decide +kernel), List.mem_of_getElem? (i := 605) (by decide +kernel), List.mem_of_getElem? (i := 606) (by decide +kernel)⟩
theorem lw_p69 : lw_okq (⟨"PurseAuction$Purses", "greatestOf", "(I)I"⟩, 6) := ⟨⟨by decide +kernel, by decide +kernel⟩, List.mem_of_getElem? (i := 36) (by decide +kernel), List.mem_of_getElem? (i := 609) (by decide +kernel), List.mem_of_getElem? (i := 610) (by decide +kernel)⟩
theorem lw_p70 : lw_okq (⟨"PurseAuction$WayCounter", "leastIn", "(LPurseAuction$Purses;I)I"⟩, 2) := ⟨⟨by decide +kernel, by decide +kernel⟩, List.mem_of_getElem? (i := 160) (by decide +kernel), List.mem_of_getElem? (i := 613) (by decide +kernel), List.mem_of_getElem? (i := 614) (by decide +kernel)⟩
theorem lw_p71 : lw_okq (⟨"PurseAuction$WayCounter", "takeInOthers", "(LPurseAuction$Purses;I)V"⟩, 2) := ⟨⟨by decide +kernel, by decide +kernel⟩, List.mem_of_getElem? (i := 160) (by decide +kernel), List.mem_of_getElem? (i := 617) (by decide +kernel), List.mem_of_getElem? (i := 618) (by decide +kernel)⟩
theorem lw_p72 : lw_okq (⟨"PurseAuction$WayCounter", "takeIn", "(II)V"⟩, 2) := ⟨⟨by decide +kernel, by decide +kernel⟩, List.mem_of_getElem? (i := 160) (by decide +kernel), List.mem_of_getElem? (i := 623) (by decide +kernel), List.mem_of_getElem? (i := 624) (by decide +kernel)⟩
theorem lw_p73 : lw_okq (⟨"PurseAuction$WayCounter", "waysUpTo", "(I)J"⟩, 2) := ⟨⟨by decide +kernel, by decide +kernel⟩, List.mem_of_getElem? (i := 160) (by decide +kernel), List.mem_of_getElem? (i := 627) (by decide +kernel), List.mem_of_getElem? (i := 628) (by decide +kernel)⟩
theorem lw_p74 : lw_okq (⟨"PurseAuction$WayCounter", "waysOf", "(I)J"⟩, 2) := ⟨⟨by decide +kernel, by decide +kernel⟩, List.mem_of_getElem? (i := 160) (by decide +kernel), List.mem_of_getElem? (i := 633) (by decide +kernel), List.mem_of_getElem? (i := 634) (by decide +kernel)⟩
theorem lw_p75 : lw_okq (⟨"PurseAuction$WayCounter", "greatestIn", "(LPurseAuction$Purses;I)I"⟩, 2) := ⟨⟨by decide +kernel, by decide +kernel⟩, List.mem_of_getElem? (i := 160) (by decide +kernel), List.mem_of_getElem? (i := 637) (by decide +kernel), List.mem_of_getElem? (i := 638) (by decide +kernel)⟩
theorem lw_p76 : lw_okq (⟨"PurseAuction$WayCounter", "averageIn", "(LPurseAuction$Purses;I)I"⟩, 2) := ⟨⟨by decide +kernel, by decide +kernel⟩, List.mem_of_getElem? (i := 160) (by decide +kernel), List.mem_of_getElem? (i := 641) (by decide +kernel), List.mem_of_getElem? (i := 642) (by decide +kernel)⟩
theorem lw_p77 : lw_okq (⟨"PurseAuction$WayCounter", "waysWith", "(LPurseAuction$Purses;II)J"⟩, 2) := ⟨⟨by decide +kernel, by decide +kernel⟩, List.mem_of_getElem? (i := 160) (by decide +kernel), List.mem_of_getElem? (i := 649) (by decide +kernel), List.mem_of_getElem? (i := 650) (by decide +kernel)⟩
theorem lw_p78 : lw_okq (⟨"PurseAuction$Game", "takeOver", "(LPurseAuction$Game;)V"⟩, 4) := ⟨⟨by decide +kernel, by decide +kernel⟩, List.mem_of_getElem? (i := 21) (by decide +kernel), List.mem_of_getElem? (i := 666) (by decide +kernel), List.mem_of_getElem? (i := 667) (by decide +kernel)⟩
theorem lw_p79 : lw_okq (⟨"PurseAuction$Purses", "takeOver", "(LPurseAuction$Purses;)V"⟩, 6) := ⟨⟨by decide +kernel, by decide +kernel⟩, List.mem_of_getElem? (i := 36) (by decide +kernel), List.mem_of_getElem? (i := 677) (by decide +kernel), List.mem_of_getElem? (i := 678) (by decide +kernel)⟩
def lw_privs_5 : List (MethodName × Nat) := [(⟨"PurseAuction$Lots", "priceOf", "(I)I"⟩, 6), (⟨"PurseAuction$Lots", "stateOf", "(I)I"⟩, 6), (⟨"PurseAuction$Purses", "sum", "()I"⟩, 6), (⟨"PurseAuction$Purses", "paidByAll", "()I"⟩, 6), (⟨"PurseAuction$Purses", "leastOf", "(I)I"⟩, 6), (⟨"PurseAuction$Purses", "greatestOf", "(I)I"⟩, 6), (⟨"PurseAuction$WayCounter", "leastIn", "(LPurseAuction$Purses;I)I"⟩, 2), (⟨"PurseAuction$WayCounter", "takeInOthers", "(LPurseAuction$Purses;I)V"⟩, 2), (⟨"PurseAuction$WayCounter", "takeIn", "(II)V"⟩, 2), (⟨"PurseAuction$WayCounter", "waysUpTo", "(I)J"⟩, 2), (⟨"PurseAuction$WayCounter", "waysOf", "(I)J"⟩, 2), (⟨"PurseAuction$WayCounter", "greatestIn", "(LPurseAuction$Purses;I)I"⟩, 2), (⟨"PurseAuction$WayCounter", "averageIn", "(LPurseAuction$Purses;I)I"⟩, 2), (⟨"PurseAuction$WayCounter", "waysWith", "(LPurseAuction$Purses;II)J"⟩, 2), (⟨"PurseAuction$Game", "takeOver", "(LPurseAuction$Game;)V"⟩, 4), (⟨"PurseAuction$Purses", "takeOver", "(LPurseAuction$Purses;)V"⟩, 6)]
theorem lw_r5 : ∀ q ∈ lw_privs_5, lw_okq q := List.forall_mem_cons.mpr ⟨lw_p64, List.forall_mem_cons.mpr ⟨lw_p65, List.forall_mem_cons.mpr ⟨lw_p66, List.forall_mem_cons.mpr ⟨lw_p67, List.forall_mem_cons.mpr ⟨lw_p68, List.forall_mem_cons.mpr ⟨lw_p69, List.forall_mem_cons.mpr ⟨lw_p70, List.forall_mem_cons.mpr ⟨lw_p71, List.forall_mem_cons.mpr ⟨lw_p72, List.forall_mem_cons.mpr ⟨lw_p73, List.forall_mem_cons.mpr ⟨lw_p74, List.forall_mem_cons.mpr ⟨lw_p75, List.forall_mem_cons.mpr ⟨lw_p76, List.forall_mem_cons.mpr ⟨lw_p77, List.forall_mem_cons.mpr ⟨lw_p78, List.forall_mem_cons.mpr ⟨lw_p79, fun _ h => absurd h List.not_mem_nil⟩⟩⟩⟩⟩⟩⟩⟩⟩⟩⟩⟩⟩⟩⟩⟩
theorem lw_p80 : lw_okq (⟨"PurseAuction$Lots", "takeOver", "(LPurseAuction$Lots;)V"⟩, 6) := ⟨⟨by decide +kernel, by decide +kernel⟩, List.mem_of_getElem? (i := 65) (by decide +kernel), List.mem_of_getElem? (i := 682) (by decide +kernel), List.mem_of_getElem? (i := 683) (by decide +kernel)⟩
theorem lw_p81 : lw_okq (⟨"PurseAuction$Auction", "takeOver", "(LPurseAuction$Auction;)V"⟩, 9) := ⟨⟨by decide +kernel, by decide +kernel⟩, List.mem_of_getElem? (i := 93) (by decide +kernel), List.mem_of_getElem? (i := 687) (by decide +kernel), List.mem_of_getElem? (i := 688) (by decide +kernel)⟩
theorem lw_p82 : lw_okq (⟨"PurseAuction$Game", "neededAgainst", "(II)I"⟩, 4) := ⟨⟨by decide +kernel, by decide +kernel⟩, List.mem_of_getElem? (i := 21) (by decide +kernel), List.mem_of_getElem? (i := 703) (by decide +kernel), List.mem_of_getElem? (i := 704) (by decide +kernel)⟩
theorem lw_p83 : lw_okq (⟨"PurseAuction$Pad", "append", "(C)V"⟩, 6) := ⟨⟨by decide +kernel, by decide +kernel⟩, List.mem_of_getElem? (i := 174) (by decide +kernel), List.mem_of_getElem? (i := 716) (by decide +kernel), List.mem_of_getElem? (i := 717) (by decide +kernel)⟩
theorem lw_p84 : lw_okq (⟨"PurseAuction$Pad", "empty", "()V"⟩, 6) := ⟨⟨by decide +kernel, by decide +kernel⟩, List.mem_of_getElem? (i := 174) (by decide +kernel), List.mem_of_getElem? (i := 724) (by decide +kernel), List.mem_of_getElem? (i := 725) (by decide +kernel)⟩
theorem lw_p85 : lw_okq (⟨"PurseAuction$Pad", "firstFault", "()I"⟩, 6) := ⟨⟨by decide +kernel, by decide +kernel⟩, List.mem_of_getElem? (i := 174) (by decide +kernel), List.mem_of_getElem? (i := 732) (by decide +kernel), List.mem_of_getElem? (i := 733) (by decide +kernel)⟩
theorem lw_p86 : lw_okq (⟨"PurseAuction$Pad", "toStart", "()V"⟩, 6) := ⟨⟨by decide +kernel, by decide +kernel⟩, List.mem_of_getElem? (i := 174) (by decide +kernel), List.mem_of_getElem? (i := 736) (by decide +kernel), List.mem_of_getElem? (i := 737) (by decide +kernel)⟩
theorem lw_p87 : lw_okq (⟨"PurseAuction$Pad", "readAct", "()Z"⟩, 6) := ⟨⟨by decide +kernel, by decide +kernel⟩, List.mem_of_getElem? (i := 174) (by decide +kernel), List.mem_of_getElem? (i := 740) (by decide +kernel), List.mem_of_getElem? (i := 741) (by decide +kernel)⟩
theorem lw_p88 : lw_okq (⟨"PurseAuction$Pad", "signAt", "(I)I"⟩, 6) := ⟨⟨by decide +kernel, by decide +kernel⟩, List.mem_of_getElem? (i := 174) (by decide +kernel), List.mem_of_getElem? (i := 744) (by decide +kernel), List.mem_of_getElem? (i := 745) (by decide +kernel)⟩
theorem lw_p89 : lw_okq (⟨"PurseAuction$Pad", "readPair", "(II)Z"⟩, 6) := ⟨⟨by decide +kernel, by decide +kernel⟩, List.mem_of_getElem? (i := 174) (by decide +kernel), List.mem_of_getElem? (i := 748) (by decide +kernel), List.mem_of_getElem? (i := 749) (by decide +kernel)⟩
theorem lw_p90 : lw_okq (⟨"PurseAuction$Pad", "readNumber", "(II)I"⟩, 6) := ⟨⟨by decide +kernel, by decide +kernel⟩, List.mem_of_getElem? (i := 174) (by decide +kernel), List.mem_of_getElem? (i := 752) (by decide +kernel), List.mem_of_getElem? (i := 753) (by decide +kernel)⟩
theorem lw_p91 : lw_okq (⟨"PurseAuction$Pad", "digitAt", "(I)I"⟩, 6) := ⟨⟨by decide +kernel, by decide +kernel⟩, List.mem_of_getElem? (i := 174) (by decide +kernel), List.mem_of_getElem? (i := 756) (by decide +kernel), List.mem_of_getElem? (i := 757) (by decide +kernel)⟩
theorem lw_p92 : lw_okq (⟨"PurseAuction$Pad", "readSign", "(C)Z"⟩, 6) := ⟨⟨by decide +kernel, by decide +kernel⟩, List.mem_of_getElem? (i := 174) (by decide +kernel), List.mem_of_getElem? (i := 761) (by decide +kernel), List.mem_of_getElem? (i := 762) (by decide +kernel)⟩
theorem lw_p93 : lw_okq (⟨"PurseAuction", "carryOutAct", "()I"⟩, 5) := ⟨⟨by decide +kernel, by decide +kernel⟩, List.mem_of_getElem? (i := 13) (by decide +kernel), List.mem_of_getElem? (i := 771) (by decide +kernel), List.mem_of_getElem? (i := 772) (by decide +kernel)⟩
theorem lw_p94 : lw_okq (⟨"PurseAuctionModel", "beginGame", "(I)V"⟩, 13) := ⟨⟨by decide +kernel, by decide +kernel⟩, List.mem_of_getElem? (i := 790) (by decide +kernel), List.mem_of_getElem? (i := 796) (by decide +kernel), List.mem_of_getElem? (i := 797) (by decide +kernel)⟩
theorem lw_p95 : lw_okq (⟨"PurseAuctionModel", "setting", "(I)I"⟩, 13) := ⟨⟨by decide +kernel, by decide +kernel⟩, List.mem_of_getElem? (i := 790) (by decide +kernel), List.mem_of_getElem? (i := 800) (by decide +kernel), List.mem_of_getElem? (i := 801) (by decide +kernel)⟩
def lw_privs_6 : List (MethodName × Nat) := [(⟨"PurseAuction$Lots", "takeOver", "(LPurseAuction$Lots;)V"⟩, 6), (⟨"PurseAuction$Auction", "takeOver", "(LPurseAuction$Auction;)V"⟩, 9), (⟨"PurseAuction$Game", "neededAgainst", "(II)I"⟩, 4), (⟨"PurseAuction$Pad", "append", "(C)V"⟩, 6), (⟨"PurseAuction$Pad", "empty", "()V"⟩, 6), (⟨"PurseAuction$Pad", "firstFault", "()I"⟩, 6), (⟨"PurseAuction$Pad", "toStart", "()V"⟩, 6), (⟨"PurseAuction$Pad", "readAct", "()Z"⟩, 6), (⟨"PurseAuction$Pad", "signAt", "(I)I"⟩, 6), (⟨"PurseAuction$Pad", "readPair", "(II)Z"⟩, 6), (⟨"PurseAuction$Pad", "readNumber", "(II)I"⟩, 6), (⟨"PurseAuction$Pad", "digitAt", "(I)I"⟩, 6), (⟨"PurseAuction$Pad", "readSign", "(C)Z"⟩, 6), (⟨"PurseAuction", "carryOutAct", "()I"⟩, 5), (⟨"PurseAuctionModel", "beginGame", "(I)V"⟩, 13), (⟨"PurseAuctionModel", "setting", "(I)I"⟩, 13)]
theorem lw_r6 : ∀ q ∈ lw_privs_6, lw_okq q := List.forall_mem_cons.mpr ⟨lw_p80, List.forall_mem_cons.mpr ⟨lw_p81, List.forall_mem_cons.mpr ⟨lw_p82, List.forall_mem_cons.mpr ⟨lw_p83, List.forall_mem_cons.mpr ⟨lw_p84, List.forall_mem_cons.mpr ⟨lw_p85, List.forall_mem_cons.mpr ⟨lw_p86, List.forall_mem_cons.mpr ⟨lw_p87, List.forall_mem_cons.mpr ⟨lw_p88, List.forall_mem_cons.mpr ⟨lw_p89, List.forall_mem_cons.mpr ⟨lw_p90, List.forall_mem_cons.mpr ⟨lw_p91, List.forall_mem_cons.mpr ⟨lw_p92, List.forall_mem_cons.mpr ⟨lw_p93, List.forall_mem_cons.mpr ⟨lw_p94, List.forall_mem_cons.mpr ⟨lw_p95, fun _ h => absurd h List.not_mem_nil⟩⟩⟩⟩⟩⟩⟩⟩⟩⟩⟩⟩⟩⟩⟩⟩
theorem lw_p96 : lw_okq (⟨"PurseAuctionModel", "lay", "(III)V"⟩, 13) := ⟨⟨by decide +kernel, by decide +kernel⟩, List.mem_of_getElem? (i := 790) (by decide +kernel), List.mem_of_getElem? (i := 804) (by decide +kernel), List.mem_of_getElem? (i := 805) (by decide +kernel)⟩
theorem lw_p97 : lw_okq (⟨"PurseAuctionModel", "clearAuction", "()V"⟩, 13) := ⟨⟨by decide +kernel, by decide +kernel⟩, List.mem_of_getElem? (i := 790) (by decide +kernel), List.mem_of_getElem? (i := 808) (by decide +kernel), List.mem_of_getElem? (i := 809) (by decide +kernel)⟩
theorem lw_p98 : lw_okq (⟨"PurseAuctionModel", "goes", "()Z"⟩, 13) := ⟨⟨by decide +kernel, by decide +kernel⟩, List.mem_of_getElem? (i := 790) (by decide +kernel), List.mem_of_getElem? (i := 867) (by decide +kernel), List.mem_of_getElem? (i := 868) (by decide +kernel)⟩
theorem lw_p99 : lw_okq (⟨"PurseAuctionModel", "isPlayer", "(I)Z"⟩, 13) := ⟨⟨by decide +kernel, by decide +kernel⟩, List.mem_of_getElem? (i := 790) (by decide +kernel), List.mem_of_getElem? (i := 875) (by decide +kernel), List.mem_of_getElem? (i := 876) (by decide +kernel)⟩
theorem lw_p100 : lw_okq (⟨"PurseAuctionModel", "of", "(II)I"⟩, 13) := ⟨⟨by decide +kernel, by decide +kernel⟩, List.mem_of_getElem? (i := 790) (by decide +kernel), List.mem_of_getElem? (i := 879) (by decide +kernel), List.mem_of_getElem? (i := 880) (by decide +kernel)⟩
theorem lw_p101 : lw_okq (⟨"PurseAuctionModel", "layLot", "(III)V"⟩, 13) := ⟨⟨by decide +kernel, by decide +kernel⟩, List.mem_of_getElem? (i := 790) (by decide +kernel), List.mem_of_getElem? (i := 891) (by decide +kernel), List.mem_of_getElem? (i := 892) (by decide +kernel)⟩
theorem lw_p102 : lw_okq (⟨"PurseAuctionModel", "nextLot", "()I"⟩, 13) := ⟨⟨by decide +kernel, by decide +kernel⟩, List.mem_of_getElem? (i := 790) (by decide +kernel), List.mem_of_getElem? (i := 899) (by decide +kernel), List.mem_of_getElem? (i := 900) (by decide +kernel)⟩
theorem lw_p103 : lw_okq (⟨"PurseAuctionModel", "isLastNext", "()Z"⟩, 13) := ⟨⟨by decide +kernel, by decide +kernel⟩, List.mem_of_getElem? (i := 790) (by decide +kernel), List.mem_of_getElem? (i := 903) (by decide +kernel), List.mem_of_getElem? (i := 904) (by decide +kernel)⟩
theorem lw_p104 : lw_okq (⟨"PurseAuctionModel", "start", "(II)I"⟩, 13) := ⟨⟨by decide +kernel, by decide +kernel⟩, List.mem_of_getElem? (i := 790) (by decide +kernel), List.mem_of_getElem? (i := 907) (by decide +kernel), List.mem_of_getElem? (i := 908) (by decide +kernel)⟩
theorem lw_p105 : lw_okq (⟨"PurseAuctionModel", "starter", "()I"⟩, 13) := ⟨⟨by decide +kernel, by decide +kernel⟩, List.mem_of_getElem? (i := 790) (by decide +kernel), List.mem_of_getElem? (i := 911) (by decide +kernel), List.mem_of_getElem? (i := 912) (by decide +kernel)⟩
theorem lw_p106 : lw_okq (⟨"PurseAuctionModel", "isBid", "(II)Z"⟩, 13) := ⟨⟨by decide +kernel, by decide +kernel⟩, List.mem_of_getElem? (i := 790) (by decide +kernel), List.mem_of_getElem? (i := 919) (by decide +kernel), List.mem_of_getElem? (i := 920) (by decide +kernel)⟩
theorem lw_p107 : lw_okq (⟨"PurseAuctionModel", "leastOpen", "()I"⟩, 13) := ⟨⟨by decide +kernel, by decide +kernel⟩, List.mem_of_getElem? (i := 790) (by decide +kernel), List.mem_of_getElem? (i := 923) (by decide +kernel), List.mem_of_getElem? (i := 924) (by decide +kernel)⟩
theorem lw_p108 : lw_okq (⟨"PurseAuctionModel", "bidOpen", "(II)I"⟩, 13) := ⟨⟨by decide +kernel, by decide +kernel⟩, List.mem_of_getElem? (i := 790) (by decide +kernel), List.mem_of_getElem? (i := 927) (by decide +kernel), List.mem_of_getElem? (i := 928) (by decide +kernel)⟩
theorem lw_p109 : lw_okq (⟨"PurseAuctionModel", "know", "(II)V"⟩, 13) := ⟨⟨by decide +kernel, by decide +kernel⟩, List.mem_of_getElem? (i := 790) (by decide +kernel), List.mem_of_getElem? (i := 931) (by decide +kernel), List.mem_of_getElem? (i := 932) (by decide +kernel)⟩
theorem lw_p110 : lw_okq (⟨"PurseAuctionModel", "goOn", "(I)I"⟩, 13) := ⟨⟨by decide +kernel, by decide +kernel⟩, List.mem_of_getElem? (i := 790) (by decide +kernel), List.mem_of_getElem? (i := 935) (by decide +kernel), List.mem_of_getElem? (i := 936) (by decide +kernel)⟩
theorem lw_p111 : lw_okq (⟨"PurseAuctionModel", "sellTo", "(II)I"⟩, 13) := ⟨⟨by decide +kernel, by decide +kernel⟩, List.mem_of_getElem? (i := 790) (by decide +kernel), List.mem_of_getElem? (i := 939) (by decide +kernel), List.mem_of_getElem? (i := 940) (by decide +kernel)⟩
def lw_privs_7 : List (MethodName × Nat) := [(⟨"PurseAuctionModel", "lay", "(III)V"⟩, 13), (⟨"PurseAuctionModel", "clearAuction", "()V"⟩, 13), (⟨"PurseAuctionModel", "goes", "()Z"⟩, 13), (⟨"PurseAuctionModel", "isPlayer", "(I)Z"⟩, 13), (⟨"PurseAuctionModel", "of", "(II)I"⟩, 13), (⟨"PurseAuctionModel", "layLot", "(III)V"⟩, 13), (⟨"PurseAuctionModel", "nextLot", "()I"⟩, 13), (⟨"PurseAuctionModel", "isLastNext", "()Z"⟩, 13), (⟨"PurseAuctionModel", "start", "(II)I"⟩, 13), (⟨"PurseAuctionModel", "starter", "()I"⟩, 13), (⟨"PurseAuctionModel", "isBid", "(II)Z"⟩, 13), (⟨"PurseAuctionModel", "leastOpen", "()I"⟩, 13), (⟨"PurseAuctionModel", "bidOpen", "(II)I"⟩, 13), (⟨"PurseAuctionModel", "know", "(II)V"⟩, 13), (⟨"PurseAuctionModel", "goOn", "(I)I"⟩, 13), (⟨"PurseAuctionModel", "sellTo", "(II)I"⟩, 13)]
theorem lw_r7 : ∀ q ∈ lw_privs_7, lw_okq q := List.forall_mem_cons.mpr ⟨lw_p96, List.forall_mem_cons.mpr ⟨lw_p97, List.forall_mem_cons.mpr ⟨lw_p98, List.forall_mem_cons.mpr ⟨lw_p99, List.forall_mem_cons.mpr ⟨lw_p100, List.forall_mem_cons.mpr ⟨lw_p101, List.forall_mem_cons.mpr ⟨lw_p102, List.forall_mem_cons.mpr ⟨lw_p103, List.forall_mem_cons.mpr ⟨lw_p104, List.forall_mem_cons.mpr ⟨lw_p105, List.forall_mem_cons.mpr ⟨lw_p106, List.forall_mem_cons.mpr ⟨lw_p107, List.forall_mem_cons.mpr ⟨lw_p108, List.forall_mem_cons.mpr ⟨lw_p109, List.forall_mem_cons.mpr ⟨lw_p110, List.forall_mem_cons.mpr ⟨lw_p111, fun _ h => absurd h List.not_mem_nil⟩⟩⟩⟩⟩⟩⟩⟩⟩⟩⟩⟩⟩⟩⟩⟩
theorem lw_p112 : lw_okq (⟨"PurseAuctionModel", "finish", "(II)I"⟩, 13) := ⟨⟨by decide +kernel, by decide +kernel⟩, List.mem_of_getElem? (i := 790) (by decide +kernel), List.mem_of_getElem? (i := 943) (by decide +kernel), List.mem_of_getElem? (i := 944) (by decide +kernel)⟩
theorem lw_p113 : lw_okq (⟨"PurseAuctionModel", "pay", "(II)V"⟩, 13) := ⟨⟨by decide +kernel, by decide +kernel⟩, List.mem_of_getElem? (i := 790) (by decide +kernel), List.mem_of_getElem? (i := 947) (by decide +kernel), List.mem_of_getElem? (i := 948) (by decide +kernel)⟩
theorem lw_p114 : lw_okq (⟨"PurseAuctionModel", "bidSealed", "(II)I"⟩, 13) := ⟨⟨by decide +kernel, by decide +kernel⟩, List.mem_of_getElem? (i := 790) (by decide +kernel), List.mem_of_getElem? (i := 951) (by decide +kernel), List.mem_of_getElem? (i := 952) (by decide +kernel)⟩
theorem lw_p115 : lw_okq (⟨"PurseAuctionModel", "openSealed", "()I"⟩, 13) := ⟨⟨by decide +kernel, by decide +kernel⟩, List.mem_of_getElem? (i := 790) (by decide +kernel), List.mem_of_getElem? (i := 955) (by decide +kernel), List.mem_of_getElem? (i := 956) (by decide +kernel)⟩
theorem lw_p116 : lw_okq (⟨"PurseAuctionModel", "seat", "(I)I"⟩, 13) := ⟨⟨by decide +kernel, by decide +kernel⟩, List.mem_of_getElem? (i := 790) (by decide +kernel), List.mem_of_getElem? (i := 962) (by decide +kernel), List.mem_of_getElem? (i := 963) (by decide +kernel)⟩
theorem lw_p117 : lw_okq (⟨"PurseAuctionModel", "claim", "(I)I"⟩, 13) := ⟨⟨by decide +kernel, by decide +kernel⟩, List.mem_of_getElem? (i := 790) (by decide +kernel), List.mem_of_getElem? (i := 966) (by decide +kernel), List.mem_of_getElem? (i := 967) (by decide +kernel)⟩
theorem lw_p118 : lw_okq (⟨"PurseAuctionModel", "passOpen", "(I)I"⟩, 13) := ⟨⟨by decide +kernel, by decide +kernel⟩, List.mem_of_getElem? (i := 790) (by decide +kernel), List.mem_of_getElem? (i := 974) (by decide +kernel), List.mem_of_getElem? (i := 975) (by decide +kernel)⟩
theorem lw_p119 : lw_okq (⟨"PurseAuctionModel", "fall", "()I"⟩, 13) := ⟨⟨by decide +kernel, by decide +kernel⟩, List.mem_of_getElem? (i := 790) (by decide +kernel), List.mem_of_getElem? (i := 978) (by decide +kernel), List.mem_of_getElem? (i := 979) (by decide +kernel)⟩
theorem lw_p120 : lw_okq (⟨"PurseAuctionModel", "makeMove", "()I"⟩, 13) := ⟨⟨by decide +kernel, by decide +kernel⟩, List.mem_of_getElem? (i := 790) (by decide +kernel), List.mem_of_getElem? (i := 986) (by decide +kernel), List.mem_of_getElem? (i := 987) (by decide +kernel)⟩
theorem lw_p121 : lw_okq (⟨"PurseAuctionModel", "limitOf", "(I)I"⟩, 13) := ⟨⟨by decide +kernel, by decide +kernel⟩, List.mem_of_getElem? (i := 790) (by decide +kernel), List.mem_of_getElem? (i := 990) (by decide +kernel), List.mem_of_getElem? (i := 991) (by decide +kernel)⟩
theorem lw_p122 : lw_okq (⟨"PurseAuctionModel", "valueWith", "(II)I"⟩, 13) := ⟨⟨by decide +kernel, by decide +kernel⟩, List.mem_of_getElem? (i := 790) (by decide +kernel), List.mem_of_getElem? (i := 994) (by decide +kernel), List.mem_of_getElem? (i := 995) (by decide +kernel)⟩
theorem lw_p123 : lw_okq (⟨"PurseAuctionModel", "ofLot", "(II)I"⟩, 13) := ⟨⟨by decide +kernel, by decide +kernel⟩, List.mem_of_getElem? (i := 790) (by decide +kernel), List.mem_of_getElem? (i := 998) (by decide +kernel), List.mem_of_getElem? (i := 999) (by decide +kernel)⟩
theorem lw_p124 : lw_okq (⟨"PurseAuctionModel", "moveSealed", "()I"⟩, 13) := ⟨⟨by decide +kernel, by decide +kernel⟩, List.mem_of_getElem? (i := 790) (by decide +kernel), List.mem_of_getElem? (i := 1002) (by decide +kernel), List.mem_of_getElem? (i := 1003) (by decide +kernel)⟩
theorem lw_p125 : lw_okq (⟨"PurseAuctionModel", "sealedOf", "(II)I"⟩, 13) := ⟨⟨by decide +kernel, by decide +kernel⟩, List.mem_of_getElem? (i := 790) (by decide +kernel), List.mem_of_getElem? (i := 1006) (by decide +kernel), List.mem_of_getElem? (i := 1007) (by decide +kernel)⟩
theorem lw_p126 : lw_okq (⟨"PurseAuctionModel", "moveFalling", "()I"⟩, 13) := ⟨⟨by decide +kernel, by decide +kernel⟩, List.mem_of_getElem? (i := 790) (by decide +kernel), List.mem_of_getElem? (i := 1010) (by decide +kernel), List.mem_of_getElem? (i := 1011) (by decide +kernel)⟩
theorem lw_p127 : lw_okq (⟨"PurseAuctionModel", "giveLast", "()I"⟩, 13) := ⟨⟨by decide +kernel, by decide +kernel⟩, List.mem_of_getElem? (i := 790) (by decide +kernel), List.mem_of_getElem? (i := 1018) (by decide +kernel), List.mem_of_getElem? (i := 1019) (by decide +kernel)⟩
def lw_privs_8 : List (MethodName × Nat) := [(⟨"PurseAuctionModel", "finish", "(II)I"⟩, 13), (⟨"PurseAuctionModel", "pay", "(II)V"⟩, 13), (⟨"PurseAuctionModel", "bidSealed", "(II)I"⟩, 13), (⟨"PurseAuctionModel", "openSealed", "()I"⟩, 13), (⟨"PurseAuctionModel", "seat", "(I)I"⟩, 13), (⟨"PurseAuctionModel", "claim", "(I)I"⟩, 13), (⟨"PurseAuctionModel", "passOpen", "(I)I"⟩, 13), (⟨"PurseAuctionModel", "fall", "()I"⟩, 13), (⟨"PurseAuctionModel", "makeMove", "()I"⟩, 13), (⟨"PurseAuctionModel", "limitOf", "(I)I"⟩, 13), (⟨"PurseAuctionModel", "valueWith", "(II)I"⟩, 13), (⟨"PurseAuctionModel", "ofLot", "(II)I"⟩, 13), (⟨"PurseAuctionModel", "moveSealed", "()I"⟩, 13), (⟨"PurseAuctionModel", "sealedOf", "(II)I"⟩, 13), (⟨"PurseAuctionModel", "moveFalling", "()I"⟩, 13), (⟨"PurseAuctionModel", "giveLast", "()I"⟩, 13)]
theorem lw_r8 : ∀ q ∈ lw_privs_8, lw_okq q := List.forall_mem_cons.mpr ⟨lw_p112, List.forall_mem_cons.mpr ⟨lw_p113, List.forall_mem_cons.mpr ⟨lw_p114, List.forall_mem_cons.mpr ⟨lw_p115, List.forall_mem_cons.mpr ⟨lw_p116, List.forall_mem_cons.mpr ⟨lw_p117, List.forall_mem_cons.mpr ⟨lw_p118, List.forall_mem_cons.mpr ⟨lw_p119, List.forall_mem_cons.mpr ⟨lw_p120, List.forall_mem_cons.mpr ⟨lw_p121, List.forall_mem_cons.mpr ⟨lw_p122, List.forall_mem_cons.mpr ⟨lw_p123, List.forall_mem_cons.mpr ⟨lw_p124, List.forall_mem_cons.mpr ⟨lw_p125, List.forall_mem_cons.mpr ⟨lw_p126, List.forall_mem_cons.mpr ⟨lw_p127, fun _ h => absurd h List.not_mem_nil⟩⟩⟩⟩⟩⟩⟩⟩⟩⟩⟩⟩⟩⟩⟩⟩
theorem lw_p128 : lw_okq (⟨"PurseAuctionModel", "scoreOf", "(I)I"⟩, 13) := ⟨⟨by decide +kernel, by decide +kernel⟩, List.mem_of_getElem? (i := 790) (by decide +kernel), List.mem_of_getElem? (i := 1030) (by decide +kernel), List.mem_of_getElem? (i := 1031) (by decide +kernel)⟩
theorem lw_p129 : lw_okq (⟨"PurseAuctionModel", "placeOf", "(I)I"⟩, 13) := ⟨⟨by decide +kernel, by decide +kernel⟩, List.mem_of_getElem? (i := 790) (by decide +kernel), List.mem_of_getElem? (i := 1034) (by decide +kernel), List.mem_of_getElem? (i := 1035) (by decide +kernel)⟩
theorem lw_p130 : lw_okq (⟨"PurseAuctionModel", "lotsOf", "(I)I"⟩, 13) := ⟨⟨by decide +kernel, by decide +kernel⟩, List.mem_of_getElem? (i := 790) (by decide +kernel), List.mem_of_getElem? (i := 1038) (by decide +kernel), List.mem_of_getElem? (i := 1039) (by decide +kernel)⟩
theorem lw_p131 : lw_okq (⟨"PurseAuctionModel", "ofAuction", "(I)I"⟩, 13) := ⟨⟨by decide +kernel, by decide +kernel⟩, List.mem_of_getElem? (i := 790) (by decide +kernel), List.mem_of_getElem? (i := 1050) (by decide +kernel), List.mem_of_getElem? (i := 1051) (by decide +kernel)⟩
theorem lw_p132 : lw_okq (⟨"PurseAuctionModel", "shownPrice", "()I"⟩, 13) := ⟨⟨by decide +kernel, by decide +kernel⟩, List.mem_of_getElem? (i := 790) (by decide +kernel), List.mem_of_getElem? (i := 1054) (by decide +kernel), List.mem_of_getElem? (i := 1055) (by decide +kernel)⟩
theorem lw_p133 : lw_okq (⟨"PurseAuctionModel", "sumOf", "(I)I"⟩, 13) := ⟨⟨by decide +kernel, by decide +kernel⟩, List.mem_of_getElem? (i := 790) (by decide +kernel), List.mem_of_getElem? (i := 1058) (by decide +kernel), List.mem_of_getElem? (i := 1059) (by decide +kernel)⟩
theorem lw_p134 : lw_okq (⟨"PurseAuctionModel", "layWays", "(I)V"⟩, 13) := ⟨⟨by decide +kernel, by decide +kernel⟩, List.mem_of_getElem? (i := 790) (by decide +kernel), List.mem_of_getElem? (i := 1066) (by decide +kernel), List.mem_of_getElem? (i := 1067) (by decide +kernel)⟩
theorem lw_p135 : lw_okq (⟨"PurseAuctionModel", "addPurse", "(II)V"⟩, 13) := ⟨⟨by decide +kernel, by decide +kernel⟩, List.mem_of_getElem? (i := 790) (by decide +kernel), List.mem_of_getElem? (i := 1070) (by decide +kernel), List.mem_of_getElem? (i := 1071) (by decide +kernel)⟩
theorem lw_p136 : lw_okq (⟨"PurseAuctionModel", "extreme", "(IZ)I"⟩, 13) := ⟨⟨by decide +kernel, by decide +kernel⟩, List.mem_of_getElem? (i := 790) (by decide +kernel), List.mem_of_getElem? (i := 1078) (by decide +kernel), List.mem_of_getElem? (i := 1079) (by decide +kernel)⟩
theorem lw_p137 : lw_okq (⟨"PurseAuctionModel", "average", "(I)I"⟩, 13) := ⟨⟨by decide +kernel, by decide +kernel⟩, List.mem_of_getElem? (i := 790) (by decide +kernel), List.mem_of_getElem? (i := 1082) (by decide +kernel), List.mem_of_getElem? (i := 1083) (by decide +kernel)⟩
theorem lw_p138 : lw_okq (⟨"PurseAuctionModel", "scoreAtEnd", "(III)I"⟩, 13) := ⟨⟨by decide +kernel, by decide +kernel⟩, List.mem_of_getElem? (i := 790) (by decide +kernel), List.mem_of_getElem? (i := 1096) (by decide +kernel), List.mem_of_getElem? (i := 1097) (by decide +kernel)⟩
theorem lw_p139 : lw_okq (⟨"PurseAuctionModel", "putAside", "()V"⟩, 13) := ⟨⟨by decide +kernel, by decide +kernel⟩, List.mem_of_getElem? (i := 790) (by decide +kernel), List.mem_of_getElem? (i := 1100) (by decide +kernel), List.mem_of_getElem? (i := 1101) (by decide +kernel)⟩
theorem lw_p140 : lw_okq (⟨"PurseAuctionModel", "putBack", "()V"⟩, 13) := ⟨⟨by decide +kernel, by decide +kernel⟩, List.mem_of_getElem? (i := 790) (by decide +kernel), List.mem_of_getElem? (i := 1104) (by decide +kernel), List.mem_of_getElem? (i := 1105) (by decide +kernel)⟩
theorem lw_p141 : lw_okq (⟨"PurseAuctionModel", "takeAct", "()V"⟩, 13) := ⟨⟨by decide +kernel, by decide +kernel⟩, List.mem_of_getElem? (i := 790) (by decide +kernel), List.mem_of_getElem? (i := 1129) (by decide +kernel), List.mem_of_getElem? (i := 1130) (by decide +kernel)⟩
theorem lw_p142 : lw_okq (⟨"PurseAuctionModel", "next", "()I"⟩, 13) := ⟨⟨by decide +kernel, by decide +kernel⟩, List.mem_of_getElem? (i := 790) (by decide +kernel), List.mem_of_getElem? (i := 1133) (by decide +kernel), List.mem_of_getElem? (i := 1134) (by decide +kernel)⟩
theorem lw_p143 : lw_okq (⟨"PurseAuctionModel", "takeNumber", "(II)I"⟩, 13) := ⟨⟨by decide +kernel, by decide +kernel⟩, List.mem_of_getElem? (i := 790) (by decide +kernel), List.mem_of_getElem? (i := 1137) (by decide +kernel), List.mem_of_getElem? (i := 1138) (by decide +kernel)⟩
def lw_privs_9 : List (MethodName × Nat) := [(⟨"PurseAuctionModel", "scoreOf", "(I)I"⟩, 13), (⟨"PurseAuctionModel", "placeOf", "(I)I"⟩, 13), (⟨"PurseAuctionModel", "lotsOf", "(I)I"⟩, 13), (⟨"PurseAuctionModel", "ofAuction", "(I)I"⟩, 13), (⟨"PurseAuctionModel", "shownPrice", "()I"⟩, 13), (⟨"PurseAuctionModel", "sumOf", "(I)I"⟩, 13), (⟨"PurseAuctionModel", "layWays", "(I)V"⟩, 13), (⟨"PurseAuctionModel", "addPurse", "(II)V"⟩, 13), (⟨"PurseAuctionModel", "extreme", "(IZ)I"⟩, 13), (⟨"PurseAuctionModel", "average", "(I)I"⟩, 13), (⟨"PurseAuctionModel", "scoreAtEnd", "(III)I"⟩, 13), (⟨"PurseAuctionModel", "putAside", "()V"⟩, 13), (⟨"PurseAuctionModel", "putBack", "()V"⟩, 13), (⟨"PurseAuctionModel", "takeAct", "()V"⟩, 13), (⟨"PurseAuctionModel", "next", "()I"⟩, 13), (⟨"PurseAuctionModel", "takeNumber", "(II)I"⟩, 13)]
theorem lw_r9 : ∀ q ∈ lw_privs_9, lw_okq q := List.forall_mem_cons.mpr ⟨lw_p128, List.forall_mem_cons.mpr ⟨lw_p129, List.forall_mem_cons.mpr ⟨lw_p130, List.forall_mem_cons.mpr ⟨lw_p131, List.forall_mem_cons.mpr ⟨lw_p132, List.forall_mem_cons.mpr ⟨lw_p133, List.forall_mem_cons.mpr ⟨lw_p134, List.forall_mem_cons.mpr ⟨lw_p135, List.forall_mem_cons.mpr ⟨lw_p136, List.forall_mem_cons.mpr ⟨lw_p137, List.forall_mem_cons.mpr ⟨lw_p138, List.forall_mem_cons.mpr ⟨lw_p139, List.forall_mem_cons.mpr ⟨lw_p140, List.forall_mem_cons.mpr ⟨lw_p141, List.forall_mem_cons.mpr ⟨lw_p142, List.forall_mem_cons.mpr ⟨lw_p143, fun _ h => absurd h List.not_mem_nil⟩⟩⟩⟩⟩⟩⟩⟩⟩⟩⟩⟩⟩⟩⟩⟩
theorem lw_p144 : lw_okq (⟨"PurseAuctionModel", "need", "(I)V"⟩, 13) := ⟨⟨by decide +kernel, by decide +kernel⟩, List.mem_of_getElem? (i := 790) (by decide +kernel), List.mem_of_getElem? (i := 1141) (by decide +kernel), List.mem_of_getElem? (i := 1142) (by decide +kernel)⟩
theorem lw_p145 : lw_okq (⟨"PurseAuctionModel", "does", "(I)I"⟩, 13) := ⟨⟨by decide +kernel, by decide +kernel⟩, List.mem_of_getElem? (i := 790) (by decide +kernel), List.mem_of_getElem? (i := 1150) (by decide +kernel), List.mem_of_getElem? (i := 1151) (by decide +kernel)⟩
def lw_privs_10 : List (MethodName × Nat) := [(⟨"PurseAuctionModel", "need", "(I)V"⟩, 13), (⟨"PurseAuctionModel", "does", "(I)I"⟩, 13)]
theorem lw_r10 : ∀ q ∈ lw_privs_10, lw_okq q := List.forall_mem_cons.mpr ⟨lw_p144, List.forall_mem_cons.mpr ⟨lw_p145, fun _ h => absurd h List.not_mem_nil⟩⟩
def lw_privs : List (MethodName × Nat) := lw_privs_1 ++ (lw_privs_2 ++ (lw_privs_3 ++ (lw_privs_4 ++ (lw_privs_5 ++ (lw_privs_6 ++ (lw_privs_7 ++ (lw_privs_8 ++ (lw_privs_9 ++ (lw_privs_10)))))))))
def lw_tbl : List Cond := k2_sels lw_privs ++ tables_1
theorem lw_privs_ok : ∀ q ∈ lw_privs, lw_okq q := by
  show ∀ q ∈ lw_privs_1 ++ (lw_privs_2 ++ (lw_privs_3 ++ (lw_privs_4 ++ (lw_privs_5 ++ (lw_privs_6 ++ (lw_privs_7 ++ (lw_privs_8 ++ (lw_privs_9 ++ (lw_privs_10))))))))), lw_okq q
  exact List.forall_mem_append.mpr ⟨lw_r1, List.forall_mem_append.mpr ⟨lw_r2, List.forall_mem_append.mpr ⟨lw_r3, List.forall_mem_append.mpr ⟨lw_r4, List.forall_mem_append.mpr ⟨lw_r5, List.forall_mem_append.mpr ⟨lw_r6, List.forall_mem_append.mpr ⟨lw_r7, List.forall_mem_append.mpr ⟨lw_r8, List.forall_mem_append.mpr ⟨lw_r9, lw_r10⟩⟩⟩⟩⟩⟩⟩⟩⟩
-- ===== end of PART A; then your names; then what follows =====
end
section
def RX0 : String := "PurseAuction$Auction"
def TX0 : u_T := fun k => match k with
  | 0 => ("PurseAuction$Auction", "mode", "I", false)
  | 1 => ("PurseAuction$Auction", "reserve", "I", false)
  | 2 => ("PurseAuction$Auction", "price", "I", false)
  | 3 => ("PurseAuction$Auction", "leader", "I", false)
  | 4 => ("PurseAuction$Auction", "turn", "I", false)
  | 5 => ("PurseAuction$Auction", "bids", "I", false)
  | 6 => ("PurseAuction$Auction", "outs", "I", false)
  | 7 => ("PurseAuction$Auction", "winners", "I", false)
  | _ => ("PurseAuction$Auction", "bid", "[I", true)
def tyX0 : Nat → FieldType := fun k => match k with
  | 0 => .int
  | 1 => .int
  | 2 => .int
  | 3 => .int
  | 4 => .int
  | 5 => .int
  | 6 => .int
  | 7 => .int
  | _ => .array .int
abbrev wsX00 : List Cond := u_ws RX0 TX0 9
theorem nmX0 : ∀ a, a < 9 → ∀ b, b < 9 → a ≠ b → (TX0 a).2.1 ≠ (TX0 b).2.1 := by decide +kernel
theorem tyX0_ok : ∀ k, k < 9 → parseFieldDescriptor (TX0 k).2.2.1 = some (tyX0 k) := by decide +kernel
abbrev cX0_init : ByteArray := prog_2_method_1_code
def yX0_init : MethodName := ⟨RX0, "<init>", "()V"⟩
abbrev cX0_clear : ByteArray := prog_2_method_2_code
def yX0_clear : MethodName := ⟨RX0, "clear", "()V"⟩
abbrev cX0_start : ByteArray := prog_2_method_3_code
def yX0_start : MethodName := ⟨RX0, "start", "(III)V"⟩
abbrev cX0_takeOver : ByteArray := prog_2_method_4_code
def yX0_takeOver : MethodName := ⟨RX0, "takeOver", "(LPurseAuction$Auction;)V"⟩
abbrev cX0_goesOn : ByteArray := prog_2_method_5_code
def yX0_goesOn : MethodName := ⟨RX0, "goesOn", "()Z"⟩
abbrev cX0_bidOf : ByteArray := prog_2_method_6_code
def yX0_bidOf : MethodName := ⟨RX0, "bidOf", "(I)I"⟩
abbrev cX0_isOut : ByteArray := prog_2_method_7_code
def yX0_isOut : MethodName := ⟨RX0, "isOut", "(I)Z"⟩
abbrev cX0_noteBid : ByteArray := prog_2_method_8_code
def yX0_noteBid : MethodName := ⟨RX0, "noteBid", "(II)V"⟩
abbrev cX0_noteOut : ByteArray := prog_2_method_9_code
def yX0_noteOut : MethodName := ⟨RX0, "noteOut", "(I)V"⟩
def RX1 : String := "PurseAuction$Game"
def TX1 : u_T := fun k => match k with
  | 0 => ("PurseAuction$Game", "settings", "[I", true)
  | 1 => ("PurseAuction$Game", "purses", "LPurseAuction$Purses;", true)
  | 2 => ("PurseAuction$Game", "lots", "LPurseAuction$Lots;", true)
  | _ => ("PurseAuction$Game", "auction", "LPurseAuction$Auction;", true)
def tyX1 : Nat → FieldType := fun k => match k with
  | 0 => .array .int
  | 1 => .object "PurseAuction$Purses"
  | 2 => .object "PurseAuction$Lots"
  | _ => .object "PurseAuction$Auction"
abbrev wsX10 : List Cond := u_ws RX1 TX1 4
theorem nmX1 : ∀ a, a < 4 → ∀ b, b < 4 → a ≠ b → (TX1 a).2.1 ≠ (TX1 b).2.1 := by decide +kernel
theorem tyX1_ok : ∀ k, k < 4 → parseFieldDescriptor (TX1 k).2.2.1 = some (tyX1 k) := by decide +kernel
abbrev cX1_init : ByteArray := prog_3_method_1_code
def yX1_init : MethodName := ⟨RX1, "<init>", "()V"⟩
abbrev cX1_startAnew : ByteArray := prog_3_method_2_code
def yX1_startAnew : MethodName := ⟨RX1, "startAnew", "(I)V"⟩
abbrev cX1_takeOver : ByteArray := prog_3_method_3_code
def yX1_takeOver : MethodName := ⟨RX1, "takeOver", "(LPurseAuction$Game;)V"⟩
abbrev cX1_settingOf : ByteArray := prog_3_method_4_code
def yX1_settingOf : MethodName := ⟨RX1, "settingOf", "(I)I"⟩
abbrev cX1_changeSetting : ByteArray := prog_3_method_5_code
def yX1_changeSetting : MethodName := ⟨RX1, "changeSetting", "(II)I"⟩
abbrev cX1_isUnopened : ByteArray := prog_3_method_6_code
def yX1_isUnopened : MethodName := ⟨RX1, "isUnopened", "()Z"⟩
abbrev cX1_starter : ByteArray := prog_3_method_7_code
def yX1_starter : MethodName := ⟨RX1, "starter", "()I"⟩
abbrev cX1_startAuction : ByteArray := prog_3_method_8_code
def yX1_startAuction : MethodName := ⟨RX1, "startAuction", "(II)I"⟩
abbrev cX1_takeBid : ByteArray := prog_3_method_9_code
def yX1_takeBid : MethodName := ⟨RX1, "takeBid", "(II)I"⟩
abbrev cX1_takePass : ByteArray := prog_3_method_10_code
def yX1_takePass : MethodName := ⟨RX1, "takePass", "(I)I"⟩
abbrev cX1_moveAlone : ByteArray := prog_3_method_11_code
def yX1_moveAlone : MethodName := ⟨RX1, "moveAlone", "()I"⟩
abbrev cX1_settle : ByteArray := prog_3_method_12_code
def yX1_settle : MethodName := ⟨RX1, "settle", "()I"⟩
abbrev cX1_collect : ByteArray := prog_3_method_13_code
def yX1_collect : MethodName := ⟨RX1, "collect", "(II)V"⟩
abbrev cX1_giveLast : ByteArray := prog_3_method_14_code
def yX1_giveLast : MethodName := ⟨RX1, "giveLast", "()I"⟩
abbrev cX1_leastRaise : ByteArray := prog_3_method_15_code
def yX1_leastRaise : MethodName := ⟨RX1, "leastRaise", "()I"⟩
abbrev cX1_raise : ByteArray := prog_3_method_16_code
def yX1_raise : MethodName := ⟨RX1, "raise", "(II)I"⟩
abbrev cX1_stepOut : ByteArray := prog_3_method_17_code
def yX1_stepOut : MethodName := ⟨RX1, "stepOut", "(I)I"⟩
abbrev cX1_turnBehind : ByteArray := prog_3_method_18_code
def yX1_turnBehind : MethodName := ⟨RX1, "turnBehind", "(I)V"⟩
abbrev cX1_nextToAct : ByteArray := prog_3_method_19_code
def yX1_nextToAct : MethodName := ⟨RX1, "nextToAct", "(I)I"⟩
abbrev cX1_firstWithoutBid : ByteArray := prog_3_method_20_code
def yX1_firstWithoutBid : MethodName := ⟨RX1, "firstWithoutBid", "()I"⟩
abbrev cX1_handIn : ByteArray := prog_3_method_21_code
def yX1_handIn : MethodName := ⟨RX1, "handIn", "(II)I"⟩
abbrev cX1_openBids : ByteArray := prog_3_method_22_code
def yX1_openBids : MethodName := ⟨RX1, "openBids", "()V"⟩
abbrev cX1_claim : ByteArray := prog_3_method_23_code
def yX1_claim : MethodName := ⟨RX1, "claim", "(II)I"⟩
abbrev cX1_claimAlone : ByteArray := prog_3_method_24_code
def yX1_claimAlone : MethodName := ⟨RX1, "claimAlone", "()V"⟩
abbrev cX1_letFall : ByteArray := prog_3_method_25_code
def yX1_letFall : MethodName := ⟨RX1, "letFall", "()I"⟩
abbrev cX1_limitOf : ByteArray := prog_3_method_26_code
def yX1_limitOf : MethodName := ⟨RX1, "limitOf", "(I)I"⟩
abbrev cX1_neededAgainst : ByteArray := prog_3_method_27_code
def yX1_neededAgainst : MethodName := ⟨RX1, "neededAgainst", "(II)I"⟩
abbrev cX1_valueOf : ByteArray := prog_3_method_28_code
def yX1_valueOf : MethodName := ⟨RX1, "valueOf", "(I)I"⟩
abbrev cX1_scoreOf : ByteArray := prog_3_method_29_code
def yX1_scoreOf : MethodName := ⟨RX1, "scoreOf", "(I)I"⟩
abbrev cX1_placeOf : ByteArray := prog_3_method_30_code
def yX1_placeOf : MethodName := ⟨RX1, "placeOf", "(I)I"⟩
def RX2 : String := "PurseAuction$Lots"
def TX2 : u_T := fun k => match k with
  | 0 => ("PurseAuction$Lots", "number", "I", false)
  | 1 => ("PurseAuction$Lots", "done", "I", false)
  | 2 => ("PurseAuction$Lots", "colour", "[I", true)
  | 3 => ("PurseAuction$Lots", "worth", "[I", true)
  | 4 => ("PurseAuction$Lots", "owners", "[I", true)
  | _ => ("PurseAuction$Lots", "price", "[I", true)
def tyX2 : Nat → FieldType := fun k => match k with
  | 0 => .int
  | 1 => .int
  | 2 => .array .int
  | 3 => .array .int
  | 4 => .array .int
  | _ => .array .int
abbrev wsX20 : List Cond := u_ws RX2 TX2 6
theorem nmX2 : ∀ a, a < 6 → ∀ b, b < 6 → a ≠ b → (TX2 a).2.1 ≠ (TX2 b).2.1 := by decide +kernel
theorem tyX2_ok : ∀ k, k < 6 → parseFieldDescriptor (TX2 k).2.2.1 = some (tyX2 k) := by decide +kernel
abbrev cX2_init : ByteArray := prog_4_method_1_code
def yX2_init : MethodName := ⟨RX2, "<init>", "()V"⟩
abbrev cX2_clear : ByteArray := prog_4_method_2_code
def yX2_clear : MethodName := ⟨RX2, "clear", "()V"⟩
abbrev cX2_takeOver : ByteArray := prog_4_method_3_code
def yX2_takeOver : MethodName := ⟨RX2, "takeOver", "(LPurseAuction$Lots;)V"⟩
abbrev cX2_areFull : ByteArray := prog_4_method_4_code
def yX2_areFull : MethodName := ⟨RX2, "areFull", "()Z"⟩
abbrev cX2_hasLot : ByteArray := prog_4_method_5_code
def yX2_hasLot : MethodName := ⟨RX2, "hasLot", "(I)Z"⟩
abbrev cX2_add : ByteArray := prog_4_method_6_code
def yX2_add : MethodName := ⟨RX2, "add", "(II)I"⟩
abbrev cX2_next : ByteArray := prog_4_method_7_code
def yX2_next : MethodName := ⟨RX2, "next", "()I"⟩
abbrev cX2_nextIsLast : ByteArray := prog_4_method_8_code
def yX2_nextIsLast : MethodName := ⟨RX2, "nextIsLast", "()Z"⟩
abbrev cX2_nextIsForSale : ByteArray := prog_4_method_9_code
def yX2_nextIsForSale : MethodName := ⟨RX2, "nextIsForSale", "()Z"⟩
abbrev cX2_close : ByteArray := prog_4_method_10_code
def yX2_close : MethodName := ⟨RX2, "close", "(II)V"⟩
abbrev cX2_colourOf : ByteArray := prog_4_method_11_code
def yX2_colourOf : MethodName := ⟨RX2, "colourOf", "(I)I"⟩
abbrev cX2_worthOf : ByteArray := prog_4_method_12_code
def yX2_worthOf : MethodName := ⟨RX2, "worthOf", "(I)I"⟩
abbrev cX2_ownersOf : ByteArray := prog_4_method_13_code
def yX2_ownersOf : MethodName := ⟨RX2, "ownersOf", "(I)I"⟩
abbrev cX2_priceOf : ByteArray := prog_4_method_14_code
def yX2_priceOf : MethodName := ⟨RX2, "priceOf", "(I)I"⟩
abbrev cX2_stateOf : ByteArray := prog_4_method_15_code
def yX2_stateOf : MethodName := ⟨RX2, "stateOf", "(I)I"⟩
abbrev cX2_owns : ByteArray := prog_4_method_16_code
def yX2_owns : MethodName := ⟨RX2, "owns", "(II)Z"⟩
abbrev cX2_ownedBy : ByteArray := prog_4_method_17_code
def yX2_ownedBy : MethodName := ⟨RX2, "ownedBy", "(I)I"⟩
abbrev cX2_valueFor : ByteArray := prog_4_method_18_code
def yX2_valueFor : MethodName := ⟨RX2, "valueFor", "(III)I"⟩
abbrev cX2_shareOf : ByteArray := prog_4_method_19_code
def yX2_shareOf : MethodName := ⟨RX2, "shareOf", "(I)I"⟩
abbrev cX2_ownedOfColour : ByteArray := prog_4_method_20_code
def yX2_ownedOfColour : MethodName := ⟨RX2, "ownedOfColour", "(II)I"⟩
abbrev cX2_gainFor : ByteArray := prog_4_method_21_code
def yX2_gainFor : MethodName := ⟨RX2, "gainFor", "(III)I"⟩
def RX3 : String := "PurseAuction$Pad"
def TX3 : u_T := fun k => match k with
  | 0 => ("PurseAuction$Pad", "signs", "[C", true)
  | 1 => ("PurseAuction$Pad", "length", "I", false)
  | 2 => ("PurseAuction$Pad", "at", "I", false)
  | 3 => ("PurseAuction$Pad", "act", "I", false)
  | 4 => ("PurseAuction$Pad", "first", "I", false)
  | _ => ("PurseAuction$Pad", "second", "I", false)
def tyX3 : Nat → FieldType := fun k => match k with
  | 0 => .array .char
  | 1 => .int
  | 2 => .int
  | 3 => .int
  | 4 => .int
  | _ => .int
abbrev wsX30 : List Cond := u_ws RX3 TX3 6
theorem nmX3 : ∀ a, a < 6 → ∀ b, b < 6 → a ≠ b → (TX3 a).2.1 ≠ (TX3 b).2.1 := by decide +kernel
theorem tyX3_ok : ∀ k, k < 6 → parseFieldDescriptor (TX3 k).2.2.1 = some (tyX3 k) := by decide +kernel
abbrev cX3_init : ByteArray := prog_5_method_1_code
def yX3_init : MethodName := ⟨RX3, "<init>", "()V"⟩
abbrev cX3_append : ByteArray := prog_5_method_2_code
def yX3_append : MethodName := ⟨RX3, "append", "(C)V"⟩
abbrev cX3_empty : ByteArray := prog_5_method_3_code
def yX3_empty : MethodName := ⟨RX3, "empty", "()V"⟩
abbrev cX3_toStart : ByteArray := prog_5_method_4_code
def yX3_toStart : MethodName := ⟨RX3, "toStart", "()V"⟩
abbrev cX3_firstFault : ByteArray := prog_5_method_5_code
def yX3_firstFault : MethodName := ⟨RX3, "firstFault", "()I"⟩
abbrev cX3_readAct : ByteArray := prog_5_method_6_code
def yX3_readAct : MethodName := ⟨RX3, "readAct", "()Z"⟩
abbrev cX3_readPair : ByteArray := prog_5_method_7_code
def yX3_readPair : MethodName := ⟨RX3, "readPair", "(II)Z"⟩
abbrev cX3_readSign : ByteArray := prog_5_method_8_code
def yX3_readSign : MethodName := ⟨RX3, "readSign", "(C)Z"⟩
abbrev cX3_readNumber : ByteArray := prog_5_method_9_code
def yX3_readNumber : MethodName := ⟨RX3, "readNumber", "(II)I"⟩
abbrev cX3_digitAt : ByteArray := prog_5_method_10_code
def yX3_digitAt : MethodName := ⟨RX3, "digitAt", "(I)I"⟩
abbrev cX3_signAt : ByteArray := prog_5_method_11_code
def yX3_signAt : MethodName := ⟨RX3, "signAt", "(I)I"⟩
def RX4 : String := "PurseAuction$Purses"
def TX4 : u_T := fun k => match k with
  | 0 => ("PurseAuction$Purses", "players", "I", false)
  | 1 => ("PurseAuction$Purses", "amount", "[I", true)
  | 2 => ("PurseAuction$Purses", "boldness", "[I", true)
  | 3 => ("PurseAuction$Purses", "paid", "[I", true)
  | 4 => ("PurseAuction$Purses", "least", "[I", true)
  | _ => ("PurseAuction$Purses", "greatest", "[I", true)
def tyX4 : Nat → FieldType := fun k => match k with
  | 0 => .int
  | 1 => .array .int
  | 2 => .array .int
  | 3 => .array .int
  | 4 => .array .int
  | _ => .array .int
abbrev wsX40 : List Cond := u_ws RX4 TX4 6
theorem nmX4 : ∀ a, a < 6 → ∀ b, b < 6 → a ≠ b → (TX4 a).2.1 ≠ (TX4 b).2.1 := by decide +kernel
theorem tyX4_ok : ∀ k, k < 6 → parseFieldDescriptor (TX4 k).2.2.1 = some (tyX4 k) := by decide +kernel
abbrev cX4_init : ByteArray := prog_6_method_1_code
def yX4_init : MethodName := ⟨RX4, "<init>", "()V"⟩
abbrev cX4_startAnew : ByteArray := prog_6_method_2_code
def yX4_startAnew : MethodName := ⟨RX4, "startAnew", "(II)V"⟩
abbrev cX4_takeOver : ByteArray := prog_6_method_3_code
def yX4_takeOver : MethodName := ⟨RX4, "takeOver", "(LPurseAuction$Purses;)V"⟩
abbrev cX4_hasSeat : ByteArray := prog_6_method_4_code
def yX4_hasSeat : MethodName := ⟨RX4, "hasSeat", "(I)Z"⟩
abbrev cX4_seatBehind : ByteArray := prog_6_method_5_code
def yX4_seatBehind : MethodName := ⟨RX4, "seatBehind", "(II)I"⟩
abbrev cX4_amountOf : ByteArray := prog_6_method_6_code
def yX4_amountOf : MethodName := ⟨RX4, "amountOf", "(I)I"⟩
abbrev cX4_boldnessOf : ByteArray := prog_6_method_7_code
def yX4_boldnessOf : MethodName := ⟨RX4, "boldnessOf", "(I)I"⟩
abbrev cX4_paidBy : ByteArray := prog_6_method_8_code
def yX4_paidBy : MethodName := ⟨RX4, "paidBy", "(I)I"⟩
abbrev cX4_leastOf : ByteArray := prog_6_method_9_code
def yX4_leastOf : MethodName := ⟨RX4, "leastOf", "(I)I"⟩
abbrev cX4_greatestOf : ByteArray := prog_6_method_10_code
def yX4_greatestOf : MethodName := ⟨RX4, "greatestOf", "(I)I"⟩
abbrev cX4_fillAnew : ByteArray := prog_6_method_11_code
def yX4_fillAnew : MethodName := ⟨RX4, "fillAnew", "(II)I"⟩
abbrev cX4_changeBoldness : ByteArray := prog_6_method_12_code
def yX4_changeBoldness : MethodName := ⟨RX4, "changeBoldness", "(II)I"⟩
abbrev cX4_learnAtLeast : ByteArray := prog_6_method_13_code
def yX4_learnAtLeast : MethodName := ⟨RX4, "learnAtLeast", "(II)V"⟩
abbrev cX4_learnAtMost : ByteArray := prog_6_method_14_code
def yX4_learnAtMost : MethodName := ⟨RX4, "learnAtMost", "(II)V"⟩
abbrev cX4_question : ByteArray := prog_6_method_15_code
def yX4_question : MethodName := ⟨RX4, "question", "(II)Z"⟩
abbrev cX4_takeFrom : ByteArray := prog_6_method_16_code
def yX4_takeFrom : MethodName := ⟨RX4, "takeFrom", "(II)V"⟩
abbrev cX4_sum : ByteArray := prog_6_method_17_code
def yX4_sum : MethodName := ⟨RX4, "sum", "()I"⟩
abbrev cX4_paidByAll : ByteArray := prog_6_method_18_code
def yX4_paidByAll : MethodName := ⟨RX4, "paidByAll", "()I"⟩
abbrev cX4_poorest : ByteArray := prog_6_method_19_code
def yX4_poorest : MethodName := ⟨RX4, "poorest", "(I)I"⟩
def RX5 : String := "PurseAuction$WayCounter"
def TX5 : u_T := fun k => match k with
  | 0 => ("PurseAuction$WayCounter", "ways", "[J", true)
  | _ => ("PurseAuction$WayCounter", "upTo", "[J", true)
def tyX5 : Nat → FieldType := fun k => match k with
  | 0 => .array .long
  | _ => .array .long
abbrev wsX50 : List Cond := u_ws RX5 TX5 2
theorem nmX5 : ∀ a, a < 2 → ∀ b, b < 2 → a ≠ b → (TX5 a).2.1 ≠ (TX5 b).2.1 := by decide +kernel
theorem tyX5_ok : ∀ k, k < 2 → parseFieldDescriptor (TX5 k).2.2.1 = some (tyX5 k) := by decide +kernel
abbrev cX5_init : ByteArray := prog_7_method_1_code
def yX5_init : MethodName := ⟨RX5, "<init>", "()V"⟩
abbrev cX5_leastIn : ByteArray := prog_7_method_2_code
def yX5_leastIn : MethodName := ⟨RX5, "leastIn", "(LPurseAuction$Purses;I)I"⟩
abbrev cX5_greatestIn : ByteArray := prog_7_method_3_code
def yX5_greatestIn : MethodName := ⟨RX5, "greatestIn", "(LPurseAuction$Purses;I)I"⟩
abbrev cX5_averageIn : ByteArray := prog_7_method_4_code
def yX5_averageIn : MethodName := ⟨RX5, "averageIn", "(LPurseAuction$Purses;I)I"⟩
abbrev cX5_waysWith : ByteArray := prog_7_method_5_code
def yX5_waysWith : MethodName := ⟨RX5, "waysWith", "(LPurseAuction$Purses;II)J"⟩
abbrev cX5_takeInOthers : ByteArray := prog_7_method_6_code
def yX5_takeInOthers : MethodName := ⟨RX5, "takeInOthers", "(LPurseAuction$Purses;I)V"⟩
abbrev cX5_takeIn : ByteArray := prog_7_method_7_code
def yX5_takeIn : MethodName := ⟨RX5, "takeIn", "(II)V"⟩
abbrev cX5_waysOf : ByteArray := prog_7_method_8_code
def yX5_waysOf : MethodName := ⟨RX5, "waysOf", "(I)J"⟩
abbrev cX5_waysUpTo : ByteArray := prog_7_method_9_code
def yX5_waysUpTo : MethodName := ⟨RX5, "waysUpTo", "(I)J"⟩
def RX6 : String := "PurseAuction"
def TX6 : u_T := fun k => match k with
  | 0 => ("PurseAuction", "game", "LPurseAuction$Game;", true)
  | 1 => ("PurseAuction", "trial", "LPurseAuction$Game;", true)
  | 2 => ("PurseAuction", "slots", "[LPurseAuction$Game;", true)
  | 3 => ("PurseAuction", "counter", "LPurseAuction$WayCounter;", true)
  | _ => ("PurseAuction", "pad", "LPurseAuction$Pad;", true)
def tyX6 : Nat → FieldType := fun k => match k with
  | 0 => .object "PurseAuction$Game"
  | 1 => .object "PurseAuction$Game"
  | 2 => .array (.object "PurseAuction$Game")
  | 3 => .object "PurseAuction$WayCounter"
  | _ => .object "PurseAuction$Pad"
abbrev wsX60 : List Cond := u_ws RX6 TX6 5
theorem nmX6 : ∀ a, a < 5 → ∀ b, b < 5 → a ≠ b → (TX6 a).2.1 ≠ (TX6 b).2.1 := by decide +kernel
theorem tyX6_ok : ∀ k, k < 5 → parseFieldDescriptor (TX6 k).2.2.1 = some (tyX6 k) := by decide +kernel
abbrev cX6_init : ByteArray := prog_1_method_1_code
def yX6_init : MethodName := ⟨RX6, "<init>", "()V"⟩
abbrev cX6_setUp : ByteArray := prog_1_method_2_code
def yX6_setUp : MethodName := ⟨RX6, "setUp", "(I)I"⟩
abbrev cX6_set : ByteArray := prog_1_method_3_code
def yX6_set : MethodName := ⟨RX6, "set", "(II)I"⟩
abbrev cX6_fill : ByteArray := prog_1_method_4_code
def yX6_fill : MethodName := ⟨RX6, "fill", "(II)I"⟩
abbrev cX6_embolden : ByteArray := prog_1_method_5_code
def yX6_embolden : MethodName := ⟨RX6, "embolden", "(II)I"⟩
abbrev cX6_lot : ByteArray := prog_1_method_6_code
def yX6_lot : MethodName := ⟨RX6, "lot", "(II)I"⟩
abbrev cX6_begin : ByteArray := prog_1_method_7_code
def yX6_begin : MethodName := ⟨RX6, "begin", "(II)I"⟩
abbrev cX6_bid : ByteArray := prog_1_method_8_code
def yX6_bid : MethodName := ⟨RX6, "bid", "(II)I"⟩
abbrev cX6_pass : ByteArray := prog_1_method_9_code
def yX6_pass : MethodName := ⟨RX6, "pass", "(I)I"⟩
abbrev cX6_move : ByteArray := prog_1_method_10_code
def yX6_move : MethodName := ⟨RX6, "move", "()I"⟩
abbrev cX6_last : ByteArray := prog_1_method_11_code
def yX6_last : MethodName := ⟨RX6, "last", "()I"⟩
abbrev cX6_ask : ByteArray := prog_1_method_12_code
def yX6_ask : MethodName := ⟨RX6, "ask", "(II)I"⟩
abbrev cX6_player : ByteArray := prog_1_method_13_code
def yX6_player : MethodName := ⟨RX6, "player", "(II)I"⟩
abbrev cX6_about : ByteArray := prog_1_method_14_code
def yX6_about : MethodName := ⟨RX6, "about", "(II)I"⟩
abbrev cX6_count : ByteArray := prog_1_method_15_code
def yX6_count : MethodName := ⟨RX6, "count", "(I)I"⟩
abbrev cX6_known : ByteArray := prog_1_method_16_code
def yX6_known : MethodName := ⟨RX6, "known", "(II)I"⟩
abbrev cX6_ways : ByteArray := prog_1_method_17_code
def yX6_ways : MethodName := ⟨RX6, "ways", "()J"⟩
abbrev cX6_canPay : ByteArray := prog_1_method_18_code
def yX6_canPay : MethodName := ⟨RX6, "canPay", "(II)J"⟩
abbrev cX6_forecast : ByteArray := prog_1_method_19_code
def yX6_forecast : MethodName := ⟨RX6, "forecast", "(III)I"⟩
abbrev cX6_bestMode : ByteArray := prog_1_method_20_code
def yX6_bestMode : MethodName := ⟨RX6, "bestMode", "(II)I"⟩
abbrev cX6_leastBid : ByteArray := prog_1_method_21_code
def yX6_leastBid : MethodName := ⟨RX6, "leastBid", "(II)I"⟩
abbrev cX6_put : ByteArray := prog_1_method_22_code
def yX6_put : MethodName := ⟨RX6, "put", "(J)I"⟩
abbrev cX6_wipe : ByteArray := prog_1_method_23_code
def yX6_wipe : MethodName := ⟨RX6, "wipe", "()I"⟩
abbrev cX6_fault : ByteArray := prog_1_method_24_code
def yX6_fault : MethodName := ⟨RX6, "fault", "()I"⟩
abbrev cX6_carryOut : ByteArray := prog_1_method_25_code
def yX6_carryOut : MethodName := ⟨RX6, "carryOut", "()I"⟩
abbrev cX6_carryOutAct : ByteArray := prog_1_method_26_code
def yX6_carryOutAct : MethodName := ⟨RX6, "carryOutAct", "()I"⟩
abbrev cX6_save : ByteArray := prog_1_method_27_code
def yX6_save : MethodName := ⟨RX6, "save", "(I)I"⟩
abbrev cX6_restore : ByteArray := prog_1_method_28_code
def yX6_restore : MethodName := ⟨RX6, "restore", "(I)I"⟩
abbrev cX6_within : ByteArray := prog_1_method_29_code
def yX6_within : MethodName := ⟨RX6, "within", "(III)Z"⟩
abbrev cX6_isMode : ByteArray := prog_1_method_30_code
def yX6_isMode : MethodName := ⟨RX6, "isMode", "(I)Z"⟩
abbrev cX6_isReserve : ByteArray := prog_1_method_31_code
def yX6_isReserve : MethodName := ⟨RX6, "isReserve", "(I)Z"⟩
abbrev cX6_isSetting : ByteArray := prog_1_method_32_code
def yX6_isSetting : MethodName := ⟨RX6, "isSetting", "(I)Z"⟩
abbrev cX6_isSettingValue : ByteArray := prog_1_method_33_code
def yX6_isSettingValue : MethodName := ⟨RX6, "isSettingValue", "(II)Z"⟩
abbrev cX6_isSlot : ByteArray := prog_1_method_34_code
def yX6_isSlot : MethodName := ⟨RX6, "isSlot", "(I)Z"⟩
abbrev cX6_isError : ByteArray := prog_1_method_35_code
def yX6_isError : MethodName := ⟨RX6, "isError", "(I)Z"⟩
abbrev cX6_signsIn : ByteArray := prog_1_method_36_code
def yX6_signsIn : MethodName := ⟨RX6, "signsIn", "(J)I"⟩
abbrev cX6_copyRow : ByteArray := prog_1_method_37_code
def yX6_copyRow : MethodName := ⟨RX6, "copyRow", "([I[I)V"⟩
def RX7 : String := "PurseAuctionModel"
def TX7 : u_T := fun k => match k with
  | 0 => ("PurseAuctionModel", "at", "[I", true)
  | 1 => ("PurseAuctionModel", "aside", "[I", true)
  | 2 => ("PurseAuctionModel", "slots", "[I", true)
  | 3 => ("PurseAuctionModel", "isSaved", "[Z", true)
  | 4 => ("PurseAuctionModel", "pad", "[I", true)
  | 5 => ("PurseAuctionModel", "padMany", "I", false)
  | 6 => ("PurseAuctionModel", "colours", "[I", true)
  | 7 => ("PurseAuctionModel", "ways", "[J", true)
  | 8 => ("PurseAuctionModel", "before", "[J", true)
  | 9 => ("PurseAuctionModel", "spot", "I", false)
  | 10 => ("PurseAuctionModel", "isWrong", "Z", false)
  | 11 => ("PurseAuctionModel", "acts", "[I", true)
  | _ => ("PurseAuctionModel", "actMany", "I", false)
def tyX7 : Nat → FieldType := fun k => match k with
  | 0 => .array .int
  | 1 => .array .int
  | 2 => .array .int
  | 3 => .array .boolean
  | 4 => .array .int
  | 5 => .int
  | 6 => .array .int
  | 7 => .array .long
  | 8 => .array .long
  | 9 => .int
  | 10 => .boolean
  | 11 => .array .int
  | _ => .int
abbrev wsX70 : List Cond := u_ws RX7 TX7 13
theorem nmX7 : ∀ a, a < 13 → ∀ b, b < 13 → a ≠ b → (TX7 a).2.1 ≠ (TX7 b).2.1 := by decide +kernel
theorem tyX7_ok : ∀ k, k < 13 → parseFieldDescriptor (TX7 k).2.2.1 = some (tyX7 k) := by decide +kernel
abbrev cX7_init : ByteArray := prog_9_method_1_code
def yX7_init : MethodName := ⟨RX7, "<init>", "()V"⟩
abbrev cX7_in : ByteArray := prog_9_method_3_code
def yX7_in : MethodName := ⟨RX7, "in", "(III)Z"⟩
abbrev cX7_setting : ByteArray := prog_9_method_4_code
def yX7_setting : MethodName := ⟨RX7, "setting", "(I)I"⟩
abbrev cX7_of : ByteArray := prog_9_method_5_code
def yX7_of : MethodName := ⟨RX7, "of", "(II)I"⟩
abbrev cX7_lay : ByteArray := prog_9_method_6_code
def yX7_lay : MethodName := ⟨RX7, "lay", "(III)V"⟩
abbrev cX7_ofLot : ByteArray := prog_9_method_7_code
def yX7_ofLot : MethodName := ⟨RX7, "ofLot", "(II)I"⟩
abbrev cX7_layLot : ByteArray := prog_9_method_8_code
def yX7_layLot : MethodName := ⟨RX7, "layLot", "(III)V"⟩
abbrev cX7_isPlayer : ByteArray := prog_9_method_9_code
def yX7_isPlayer : MethodName := ⟨RX7, "isPlayer", "(I)Z"⟩
abbrev cX7_goes : ByteArray := prog_9_method_10_code
def yX7_goes : MethodName := ⟨RX7, "goes", "()Z"⟩
abbrev cX7_clearAuction : ByteArray := prog_9_method_11_code
def yX7_clearAuction : MethodName := ⟨RX7, "clearAuction", "()V"⟩
abbrev cX7_beginGame : ByteArray := prog_9_method_12_code
def yX7_beginGame : MethodName := ⟨RX7, "beginGame", "(I)V"⟩
abbrev cX7_setUp : ByteArray := prog_9_method_13_code
def yX7_setUp : MethodName := ⟨RX7, "setUp", "(I)I"⟩
abbrev cX7_takes : ByteArray := prog_9_method_14_code
def yX7_takes : MethodName := ⟨RX7, "takes", "(II)Z"⟩
abbrev cX7_set : ByteArray := prog_9_method_15_code
def yX7_set : MethodName := ⟨RX7, "set", "(II)I"⟩
abbrev cX7_fill : ByteArray := prog_9_method_16_code
def yX7_fill : MethodName := ⟨RX7, "fill", "(II)I"⟩
abbrev cX7_embolden : ByteArray := prog_9_method_17_code
def yX7_embolden : MethodName := ⟨RX7, "embolden", "(II)I"⟩
abbrev cX7_lot : ByteArray := prog_9_method_18_code
def yX7_lot : MethodName := ⟨RX7, "lot", "(II)I"⟩
abbrev cX7_sizeOf : ByteArray := prog_9_method_19_code
def yX7_sizeOf : MethodName := ⟨RX7, "sizeOf", "(I)I"⟩
abbrev cX7_valueWith : ByteArray := prog_9_method_20_code
def yX7_valueWith : MethodName := ⟨RX7, "valueWith", "(II)I"⟩
abbrev cX7_scoreOf : ByteArray := prog_9_method_21_code
def yX7_scoreOf : MethodName := ⟨RX7, "scoreOf", "(I)I"⟩
abbrev cX7_placeOf : ByteArray := prog_9_method_22_code
def yX7_placeOf : MethodName := ⟨RX7, "placeOf", "(I)I"⟩
abbrev cX7_lotsOf : ByteArray := prog_9_method_23_code
def yX7_lotsOf : MethodName := ⟨RX7, "lotsOf", "(I)I"⟩
abbrev cX7_nextLot : ByteArray := prog_9_method_24_code
def yX7_nextLot : MethodName := ⟨RX7, "nextLot", "()I"⟩
abbrev cX7_limitOf : ByteArray := prog_9_method_25_code
def yX7_limitOf : MethodName := ⟨RX7, "limitOf", "(I)I"⟩
abbrev cX7_starter : ByteArray := prog_9_method_26_code
def yX7_starter : MethodName := ⟨RX7, "starter", "()I"⟩
abbrev cX7_seat : ByteArray := prog_9_method_27_code
def yX7_seat : MethodName := ⟨RX7, "seat", "(I)I"⟩
abbrev cX7_isLastNext : ByteArray := prog_9_method_28_code
def yX7_isLastNext : MethodName := ⟨RX7, "isLastNext", "()Z"⟩
abbrev cX7_begin : ByteArray := prog_9_method_29_code
def yX7_begin : MethodName := ⟨RX7, "begin", "(II)I"⟩
abbrev cX7_start : ByteArray := prog_9_method_30_code
def yX7_start : MethodName := ⟨RX7, "start", "(II)I"⟩
abbrev cX7_know : ByteArray := prog_9_method_31_code
def yX7_know : MethodName := ⟨RX7, "know", "(II)V"⟩
abbrev cX7_pay : ByteArray := prog_9_method_32_code
def yX7_pay : MethodName := ⟨RX7, "pay", "(II)V"⟩
abbrev cX7_finish : ByteArray := prog_9_method_33_code
def yX7_finish : MethodName := ⟨RX7, "finish", "(II)I"⟩
abbrev cX7_sellTo : ByteArray := prog_9_method_34_code
def yX7_sellTo : MethodName := ⟨RX7, "sellTo", "(II)I"⟩
abbrev cX7_goOn : ByteArray := prog_9_method_35_code
def yX7_goOn : MethodName := ⟨RX7, "goOn", "(I)I"⟩
abbrev cX7_leastOpen : ByteArray := prog_9_method_36_code
def yX7_leastOpen : MethodName := ⟨RX7, "leastOpen", "()I"⟩
abbrev cX7_bidOpen : ByteArray := prog_9_method_37_code
def yX7_bidOpen : MethodName := ⟨RX7, "bidOpen", "(II)I"⟩
abbrev cX7_passOpen : ByteArray := prog_9_method_38_code
def yX7_passOpen : MethodName := ⟨RX7, "passOpen", "(I)I"⟩
abbrev cX7_bidSealed : ByteArray := prog_9_method_39_code
def yX7_bidSealed : MethodName := ⟨RX7, "bidSealed", "(II)I"⟩
abbrev cX7_openSealed : ByteArray := prog_9_method_40_code
def yX7_openSealed : MethodName := ⟨RX7, "openSealed", "()I"⟩
abbrev cX7_claim : ByteArray := prog_9_method_41_code
def yX7_claim : MethodName := ⟨RX7, "claim", "(I)I"⟩
abbrev cX7_fall : ByteArray := prog_9_method_42_code
def yX7_fall : MethodName := ⟨RX7, "fall", "()I"⟩
abbrev cX7_isBid : ByteArray := prog_9_method_43_code
def yX7_isBid : MethodName := ⟨RX7, "isBid", "(II)Z"⟩
abbrev cX7_bid : ByteArray := prog_9_method_44_code
def yX7_bid : MethodName := ⟨RX7, "bid", "(II)I"⟩
abbrev cX7_pass : ByteArray := prog_9_method_45_code
def yX7_pass : MethodName := ⟨RX7, "pass", "(I)I"⟩
abbrev cX7_sealedOf : ByteArray := prog_9_method_46_code
def yX7_sealedOf : MethodName := ⟨RX7, "sealedOf", "(II)I"⟩
abbrev cX7_moveSealed : ByteArray := prog_9_method_47_code
def yX7_moveSealed : MethodName := ⟨RX7, "moveSealed", "()I"⟩
abbrev cX7_moveFalling : ByteArray := prog_9_method_48_code
def yX7_moveFalling : MethodName := ⟨RX7, "moveFalling", "()I"⟩
abbrev cX7_makeMove : ByteArray := prog_9_method_49_code
def yX7_makeMove : MethodName := ⟨RX7, "makeMove", "()I"⟩
abbrev cX7_move : ByteArray := prog_9_method_50_code
def yX7_move : MethodName := ⟨RX7, "move", "()I"⟩
abbrev cX7_giveLast : ByteArray := prog_9_method_51_code
def yX7_giveLast : MethodName := ⟨RX7, "giveLast", "()I"⟩
abbrev cX7_last : ByteArray := prog_9_method_52_code
def yX7_last : MethodName := ⟨RX7, "last", "()I"⟩
abbrev cX7_ask : ByteArray := prog_9_method_53_code
def yX7_ask : MethodName := ⟨RX7, "ask", "(II)I"⟩
abbrev cX7_player : ByteArray := prog_9_method_54_code
def yX7_player : MethodName := ⟨RX7, "player", "(II)I"⟩
abbrev cX7_about : ByteArray := prog_9_method_55_code
def yX7_about : MethodName := ⟨RX7, "about", "(II)I"⟩
abbrev cX7_sumOf : ByteArray := prog_9_method_56_code
def yX7_sumOf : MethodName := ⟨RX7, "sumOf", "(I)I"⟩
abbrev cX7_shownPrice : ByteArray := prog_9_method_57_code
def yX7_shownPrice : MethodName := ⟨RX7, "shownPrice", "()I"⟩
abbrev cX7_ofAuction : ByteArray := prog_9_method_58_code
def yX7_ofAuction : MethodName := ⟨RX7, "ofAuction", "(I)I"⟩
abbrev cX7_count : ByteArray := prog_9_method_59_code
def yX7_count : MethodName := ⟨RX7, "count", "(I)I"⟩
abbrev cX7_layWays : ByteArray := prog_9_method_60_code
def yX7_layWays : MethodName := ⟨RX7, "layWays", "(I)V"⟩
abbrev cX7_addPurse : ByteArray := prog_9_method_61_code
def yX7_addPurse : MethodName := ⟨RX7, "addPurse", "(II)V"⟩
abbrev cX7_ways : ByteArray := prog_9_method_62_code
def yX7_ways : MethodName := ⟨RX7, "ways", "()J"⟩
abbrev cX7_extreme : ByteArray := prog_9_method_63_code
def yX7_extreme : MethodName := ⟨RX7, "extreme", "(IZ)I"⟩
abbrev cX7_average : ByteArray := prog_9_method_64_code
def yX7_average : MethodName := ⟨RX7, "average", "(I)I"⟩
abbrev cX7_known : ByteArray := prog_9_method_65_code
def yX7_known : MethodName := ⟨RX7, "known", "(II)I"⟩
abbrev cX7_canPay : ByteArray := prog_9_method_66_code
def yX7_canPay : MethodName := ⟨RX7, "canPay", "(II)J"⟩
abbrev cX7_putAside : ByteArray := prog_9_method_67_code
def yX7_putAside : MethodName := ⟨RX7, "putAside", "()V"⟩
abbrev cX7_putBack : ByteArray := prog_9_method_68_code
def yX7_putBack : MethodName := ⟨RX7, "putBack", "()V"⟩
abbrev cX7_scoreAtEnd : ByteArray := prog_9_method_69_code
def yX7_scoreAtEnd : MethodName := ⟨RX7, "scoreAtEnd", "(III)I"⟩
abbrev cX7_forecast : ByteArray := prog_9_method_70_code
def yX7_forecast : MethodName := ⟨RX7, "forecast", "(III)I"⟩
abbrev cX7_bestMode : ByteArray := prog_9_method_71_code
def yX7_bestMode : MethodName := ⟨RX7, "bestMode", "(II)I"⟩
abbrev cX7_leastBid : ByteArray := prog_9_method_72_code
def yX7_leastBid : MethodName := ⟨RX7, "leastBid", "(II)I"⟩
abbrev cX7_put : ByteArray := prog_9_method_73_code
def yX7_put : MethodName := ⟨RX7, "put", "(J)I"⟩
abbrev cX7_wipe : ByteArray := prog_9_method_74_code
def yX7_wipe : MethodName := ⟨RX7, "wipe", "()I"⟩
abbrev cX7_next : ByteArray := prog_9_method_75_code
def yX7_next : MethodName := ⟨RX7, "next", "()I"⟩
abbrev cX7_takeNumber : ByteArray := prog_9_method_76_code
def yX7_takeNumber : MethodName := ⟨RX7, "takeNumber", "(II)I"⟩
abbrev cX7_need : ByteArray := prog_9_method_77_code
def yX7_need : MethodName := ⟨RX7, "need", "(I)V"⟩
abbrev cX7_takeAct : ByteArray := prog_9_method_78_code
def yX7_takeAct : MethodName := ⟨RX7, "takeAct", "()V"⟩
abbrev cX7_fault : ByteArray := prog_9_method_79_code
def yX7_fault : MethodName := ⟨RX7, "fault", "()I"⟩
abbrev cX7_does : ByteArray := prog_9_method_80_code
def yX7_does : MethodName := ⟨RX7, "does", "(I)I"⟩
abbrev cX7_carryOut : ByteArray := prog_9_method_81_code
def yX7_carryOut : MethodName := ⟨RX7, "carryOut", "()I"⟩
abbrev cX7_save : ByteArray := prog_9_method_82_code
def yX7_save : MethodName := ⟨RX7, "save", "(I)I"⟩
abbrev cX7_restore : ByteArray := prog_9_method_83_code
def yX7_restore : MethodName := ⟨RX7, "restore", "(I)I"⟩
def RJ6 : String := "java/lang/Integer"
abbrev cJ6_bitCount_0f7a4 : ByteArray := prog_11_method_49_code
def yJ6_bitCount_0f7a4 : MethodName := ⟨RJ6, "bitCount", "(I)I"⟩
def RL : String := "PurseAuctionLaw"
abbrev cL_law : ByteArray := code
def yL_law : MethodName := ⟨RL, "law", "([I)Z"⟩
abbrev vwCl : List vw_C := [(RX0, TX0, 9), (RX1, TX1, 4), (RX2, TX2, 6), (RX3, TX3, 6), (RX4, TX4, 6), (RX5, TX5, 2), (RX6, TX6, 5), (RX7, TX7, 13)]
end
section
theorem dX0_init_0 : decode cX0_init 0 = .ok (.aload_n 0, 1) := by decide +kernel
theorem dX0_init_1 : decode cX0_init 1 = .ok (.invokespecial 3, 3) := by decide +kernel
theorem dX0_init_4 : decode cX0_init 4 = .ok (.aload_n 0, 1) := by decide +kernel
theorem dX0_init_5 : decode cX0_init 5 = .ok (.bipush 6, 2) := by decide +kernel
theorem dX0_init_7 : decode cX0_init 7 = .ok (.newarray .int, 2) := by decide +kernel
theorem dX0_init_9 : decode cX0_init 9 = .ok (.putfield 9, 3) := by decide +kernel
theorem dX0_init_12 : decode cX0_init 12 = .ok (.aload_n 0, 1) := by decide +kernel
theorem dX0_init_13 : decode cX0_init 13 = .ok (.invokevirtual 15, 3) := by decide +kernel
theorem dX0_init_16 : decode cX0_init 16 = .ok (.return_, 1) := by decide +kernel
theorem dX0_clear_0 : decode cX0_clear 0 = .ok (.aload_n 0, 1) := by decide +kernel
theorem dX0_clear_1 : decode cX0_clear 1 = .ok (.bipush (-6), 2) := by decide +kernel
theorem dX0_clear_3 : decode cX0_clear 3 = .ok (.putfield 18, 3) := by decide +kernel
theorem dX0_clear_6 : decode cX0_clear 6 = .ok (.aload_n 0, 1) := by decide +kernel
theorem dX0_clear_7 : decode cX0_clear 7 = .ok (.bipush (-6), 2) := by decide +kernel
theorem dX0_clear_9 : decode cX0_clear 9 = .ok (.putfield 22, 3) := by decide +kernel
theorem dX0_clear_12 : decode cX0_clear 12 = .ok (.aload_n 0, 1) := by decide +kernel
theorem dX0_clear_13 : decode cX0_clear 13 = .ok (.bipush (-6), 2) := by decide +kernel
theorem dX0_clear_15 : decode cX0_clear 15 = .ok (.putfield 25, 3) := by decide +kernel
theorem dX0_clear_18 : decode cX0_clear 18 = .ok (.aload_n 0, 1) := by decide +kernel
theorem dX0_clear_19 : decode cX0_clear 19 = .ok (.bipush (-6), 2) := by decide +kernel
theorem dX0_clear_21 : decode cX0_clear 21 = .ok (.putfield 28, 3) := by decide +kernel
theorem dX0_clear_24 : decode cX0_clear 24 = .ok (.aload_n 0, 1) := by decide +kernel
theorem dX0_clear_25 : decode cX0_clear 25 = .ok (.bipush (-6), 2) := by decide +kernel
theorem dX0_clear_27 : decode cX0_clear 27 = .ok (.putfield 31, 3) := by decide +kernel
theorem dX0_clear_30 : decode cX0_clear 30 = .ok (.aload_n 0, 1) := by decide +kernel
theorem dX0_clear_31 : decode cX0_clear 31 = .ok (.bipush (-6), 2) := by decide +kernel
theorem dX0_clear_33 : decode cX0_clear 33 = .ok (.putfield 34, 3) := by decide +kernel
theorem dX0_clear_36 : decode cX0_clear 36 = .ok (.aload_n 0, 1) := by decide +kernel
theorem dX0_clear_37 : decode cX0_clear 37 = .ok (.iconst 0, 1) := by decide +kernel
theorem dX0_clear_38 : decode cX0_clear 38 = .ok (.putfield 37, 3) := by decide +kernel
theorem dX0_clear_41 : decode cX0_clear 41 = .ok (.aload_n 0, 1) := by decide +kernel
theorem dX0_clear_42 : decode cX0_clear 42 = .ok (.bipush (-6), 2) := by decide +kernel
theorem dX0_clear_44 : decode cX0_clear 44 = .ok (.putfield 40, 3) := by decide +kernel
theorem dX0_clear_47 : decode cX0_clear 47 = .ok (.iconst 0, 1) := by decide +kernel
theorem dX0_clear_48 : decode cX0_clear 48 = .ok (.istore_n 1, 1) := by decide +kernel
theorem dX0_clear_49 : decode cX0_clear 49 = .ok (.iload_n 1, 1) := by decide +kernel
theorem dX0_clear_50 : decode cX0_clear 50 = .ok (.bipush 6, 2) := by decide +kernel
theorem dX0_clear_52 : decode cX0_clear 52 = .ok (.if_icmp .ge 17, 3) := by decide +kernel
theorem dX0_clear_55 : decode cX0_clear 55 = .ok (.aload_n 0, 1) := by decide +kernel
theorem dX0_clear_56 : decode cX0_clear 56 = .ok (.getfield 9, 3) := by decide +kernel
theorem dX0_clear_59 : decode cX0_clear 59 = .ok (.iload_n 1, 1) := by decide +kernel
theorem dX0_clear_60 : decode cX0_clear 60 = .ok (.bipush (-6), 2) := by decide +kernel
theorem dX0_clear_62 : decode cX0_clear 62 = .ok (.iastore, 1) := by decide +kernel
theorem dX0_clear_63 : decode cX0_clear 63 = .ok (.iinc 1 1, 3) := by decide +kernel
theorem dX0_clear_66 : decode cX0_clear 66 = .ok (.goto (-17), 3) := by decide +kernel
theorem dX0_clear_69 : decode cX0_clear 69 = .ok (.return_, 1) := by decide +kernel
theorem dX0_start_0 : decode cX0_start 0 = .ok (.aload_n 0, 1) := by decide +kernel
theorem dX0_start_1 : decode cX0_start 1 = .ok (.invokevirtual 15, 3) := by decide +kernel
theorem dX0_start_4 : decode cX0_start 4 = .ok (.aload_n 0, 1) := by decide +kernel
theorem dX0_start_5 : decode cX0_start 5 = .ok (.iload_n 1, 1) := by decide +kernel
theorem dX0_start_6 : decode cX0_start 6 = .ok (.putfield 18, 3) := by decide +kernel
theorem dX0_start_9 : decode cX0_start 9 = .ok (.aload_n 0, 1) := by decide +kernel
theorem dX0_start_10 : decode cX0_start 10 = .ok (.iload_n 2, 1) := by decide +kernel
theorem dX0_start_11 : decode cX0_start 11 = .ok (.putfield 22, 3) := by decide +kernel
theorem dX0_start_14 : decode cX0_start 14 = .ok (.aload_n 0, 1) := by decide +kernel
theorem dX0_start_15 : decode cX0_start 15 = .ok (.iload_n 1, 1) := by decide +kernel
theorem dX0_start_16 : decode cX0_start 16 = .ok (.iconst 2, 1) := by decide +kernel
theorem dX0_start_17 : decode cX0_start 17 = .ok (.if_icmp .ne 7, 3) := by decide +kernel
theorem dX0_start_20 : decode cX0_start 20 = .ok (.iload_n 2, 1) := by decide +kernel
theorem dX0_start_21 : decode cX0_start 21 = .ok (.goto 5, 3) := by decide +kernel
theorem dX0_start_24 : decode cX0_start 24 = .ok (.bipush (-6), 2) := by decide +kernel
theorem dX0_start_26 : decode cX0_start 26 = .ok (.putfield 25, 3) := by decide +kernel
theorem dX0_start_29 : decode cX0_start 29 = .ok (.aload_n 0, 1) := by decide +kernel
theorem dX0_start_30 : decode cX0_start 30 = .ok (.iload_n 1, 1) := by decide +kernel
theorem dX0_start_31 : decode cX0_start 31 = .ok (.ifCond .ne 7, 3) := by decide +kernel
theorem dX0_start_34 : decode cX0_start 34 = .ok (.iload_n 3, 1) := by decide +kernel
theorem dX0_start_35 : decode cX0_start 35 = .ok (.goto 5, 3) := by decide +kernel
theorem dX0_start_38 : decode cX0_start 38 = .ok (.bipush (-6), 2) := by decide +kernel
theorem dX0_start_40 : decode cX0_start 40 = .ok (.putfield 31, 3) := by decide +kernel
theorem dX0_start_43 : decode cX0_start 43 = .ok (.aload_n 0, 1) := by decide +kernel
theorem dX0_start_44 : decode cX0_start 44 = .ok (.iconst 0, 1) := by decide +kernel
theorem dX0_start_45 : decode cX0_start 45 = .ok (.putfield 34, 3) := by decide +kernel
theorem dX0_start_48 : decode cX0_start 48 = .ok (.return_, 1) := by decide +kernel
theorem dX0_takeOver_0 : decode cX0_takeOver 0 = .ok (.aload_n 0, 1) := by decide +kernel
theorem dX0_takeOver_1 : decode cX0_takeOver 1 = .ok (.aload_n 1, 1) := by decide +kernel
theorem dX0_takeOver_2 : decode cX0_takeOver 2 = .ok (.getfield 18, 3) := by decide +kernel
theorem dX0_takeOver_5 : decode cX0_takeOver 5 = .ok (.putfield 18, 3) := by decide +kernel
theorem dX0_takeOver_8 : decode cX0_takeOver 8 = .ok (.aload_n 0, 1) := by decide +kernel
theorem dX0_takeOver_9 : decode cX0_takeOver 9 = .ok (.aload_n 1, 1) := by decide +kernel
theorem dX0_takeOver_10 : decode cX0_takeOver 10 = .ok (.getfield 22, 3) := by decide +kernel
theorem dX0_takeOver_13 : decode cX0_takeOver 13 = .ok (.putfield 22, 3) := by decide +kernel
theorem dX0_takeOver_16 : decode cX0_takeOver 16 = .ok (.aload_n 0, 1) := by decide +kernel
theorem dX0_takeOver_17 : decode cX0_takeOver 17 = .ok (.aload_n 1, 1) := by decide +kernel
theorem dX0_takeOver_18 : decode cX0_takeOver 18 = .ok (.getfield 25, 3) := by decide +kernel
theorem dX0_takeOver_21 : decode cX0_takeOver 21 = .ok (.putfield 25, 3) := by decide +kernel
theorem dX0_takeOver_24 : decode cX0_takeOver 24 = .ok (.aload_n 0, 1) := by decide +kernel
theorem dX0_takeOver_25 : decode cX0_takeOver 25 = .ok (.aload_n 1, 1) := by decide +kernel
theorem dX0_takeOver_26 : decode cX0_takeOver 26 = .ok (.getfield 28, 3) := by decide +kernel
theorem dX0_takeOver_29 : decode cX0_takeOver 29 = .ok (.putfield 28, 3) := by decide +kernel
theorem dX0_takeOver_32 : decode cX0_takeOver 32 = .ok (.aload_n 0, 1) := by decide +kernel
theorem dX0_takeOver_33 : decode cX0_takeOver 33 = .ok (.aload_n 1, 1) := by decide +kernel
theorem dX0_takeOver_34 : decode cX0_takeOver 34 = .ok (.getfield 31, 3) := by decide +kernel
theorem dX0_takeOver_37 : decode cX0_takeOver 37 = .ok (.putfield 31, 3) := by decide +kernel
theorem dX0_takeOver_40 : decode cX0_takeOver 40 = .ok (.aload_n 0, 1) := by decide +kernel
theorem dX0_takeOver_41 : decode cX0_takeOver 41 = .ok (.aload_n 1, 1) := by decide +kernel
theorem dX0_takeOver_42 : decode cX0_takeOver 42 = .ok (.getfield 34, 3) := by decide +kernel
theorem dX0_takeOver_45 : decode cX0_takeOver 45 = .ok (.putfield 34, 3) := by decide +kernel
theorem dX0_takeOver_48 : decode cX0_takeOver 48 = .ok (.aload_n 0, 1) := by decide +kernel
theorem dX0_takeOver_49 : decode cX0_takeOver 49 = .ok (.aload_n 1, 1) := by decide +kernel
theorem dX0_takeOver_50 : decode cX0_takeOver 50 = .ok (.getfield 37, 3) := by decide +kernel
theorem dX0_takeOver_53 : decode cX0_takeOver 53 = .ok (.putfield 37, 3) := by decide +kernel
theorem dX0_takeOver_56 : decode cX0_takeOver 56 = .ok (.aload_n 0, 1) := by decide +kernel
theorem dX0_takeOver_57 : decode cX0_takeOver 57 = .ok (.aload_n 1, 1) := by decide +kernel
theorem dX0_takeOver_58 : decode cX0_takeOver 58 = .ok (.getfield 40, 3) := by decide +kernel
theorem dX0_takeOver_61 : decode cX0_takeOver 61 = .ok (.putfield 40, 3) := by decide +kernel
theorem dX0_takeOver_64 : decode cX0_takeOver 64 = .ok (.aload_n 1, 1) := by decide +kernel
theorem dX0_takeOver_65 : decode cX0_takeOver 65 = .ok (.getfield 9, 3) := by decide +kernel
theorem dX0_takeOver_68 : decode cX0_takeOver 68 = .ok (.aload_n 0, 1) := by decide +kernel
theorem dX0_takeOver_69 : decode cX0_takeOver 69 = .ok (.getfield 9, 3) := by decide +kernel
theorem dX0_takeOver_72 : decode cX0_takeOver 72 = .ok (.invokestatic 43, 3) := by decide +kernel
theorem dX0_takeOver_75 : decode cX0_takeOver 75 = .ok (.return_, 1) := by decide +kernel
theorem dX0_goesOn_0 : decode cX0_goesOn 0 = .ok (.aload_n 0, 1) := by decide +kernel
theorem dX0_goesOn_1 : decode cX0_goesOn 1 = .ok (.getfield 18, 3) := by decide +kernel
theorem dX0_goesOn_4 : decode cX0_goesOn 4 = .ok (.bipush (-6), 2) := by decide +kernel
theorem dX0_goesOn_6 : decode cX0_goesOn 6 = .ok (.if_icmp .eq 7, 3) := by decide +kernel
theorem dX0_goesOn_9 : decode cX0_goesOn 9 = .ok (.iconst 1, 1) := by decide +kernel
theorem dX0_goesOn_10 : decode cX0_goesOn 10 = .ok (.goto 4, 3) := by decide +kernel
theorem dX0_goesOn_13 : decode cX0_goesOn 13 = .ok (.iconst 0, 1) := by decide +kernel
theorem dX0_goesOn_14 : decode cX0_goesOn 14 = .ok (.ireturn, 1) := by decide +kernel
theorem dX0_bidOf_0 : decode cX0_bidOf 0 = .ok (.iload_n 1, 1) := by decide +kernel
theorem dX0_bidOf_1 : decode cX0_bidOf 1 = .ok (.iconst 0, 1) := by decide +kernel
theorem dX0_bidOf_2 : decode cX0_bidOf 2 = .ok (.iconst 5, 1) := by decide +kernel
theorem dX0_bidOf_3 : decode cX0_bidOf 3 = .ok (.invokestatic 47, 3) := by decide +kernel
theorem dX0_bidOf_6 : decode cX0_bidOf 6 = .ok (.ifCond .eq 12, 3) := by decide +kernel
theorem dX0_bidOf_9 : decode cX0_bidOf 9 = .ok (.aload_n 0, 1) := by decide +kernel
theorem dX0_bidOf_10 : decode cX0_bidOf 10 = .ok (.getfield 9, 3) := by decide +kernel
theorem dX0_bidOf_13 : decode cX0_bidOf 13 = .ok (.iload_n 1, 1) := by decide +kernel
theorem dX0_bidOf_14 : decode cX0_bidOf 14 = .ok (.iaload, 1) := by decide +kernel
theorem dX0_bidOf_15 : decode cX0_bidOf 15 = .ok (.goto 5, 3) := by decide +kernel
theorem dX0_bidOf_18 : decode cX0_bidOf 18 = .ok (.bipush (-6), 2) := by decide +kernel
theorem dX0_bidOf_20 : decode cX0_bidOf 20 = .ok (.ireturn, 1) := by decide +kernel
theorem dX0_isOut_0 : decode cX0_isOut 0 = .ok (.aload_n 0, 1) := by decide +kernel
theorem dX0_isOut_1 : decode cX0_isOut 1 = .ok (.getfield 37, 3) := by decide +kernel
theorem dX0_isOut_4 : decode cX0_isOut 4 = .ok (.iload_n 1, 1) := by decide +kernel
theorem dX0_isOut_5 : decode cX0_isOut 5 = .ok (.ishr, 1) := by decide +kernel
theorem dX0_isOut_6 : decode cX0_isOut 6 = .ok (.iconst 1, 1) := by decide +kernel
theorem dX0_isOut_7 : decode cX0_isOut 7 = .ok (.iand, 1) := by decide +kernel
theorem dX0_isOut_8 : decode cX0_isOut 8 = .ok (.iconst 1, 1) := by decide +kernel
theorem dX0_isOut_9 : decode cX0_isOut 9 = .ok (.if_icmp .ne 7, 3) := by decide +kernel
theorem dX0_isOut_12 : decode cX0_isOut 12 = .ok (.iconst 1, 1) := by decide +kernel
theorem dX0_isOut_13 : decode cX0_isOut 13 = .ok (.goto 4, 3) := by decide +kernel
theorem dX0_isOut_16 : decode cX0_isOut 16 = .ok (.iconst 0, 1) := by decide +kernel
theorem dX0_isOut_17 : decode cX0_isOut 17 = .ok (.ireturn, 1) := by decide +kernel
theorem dX0_noteBid_0 : decode cX0_noteBid 0 = .ok (.iload_n 1, 1) := by decide +kernel
theorem dX0_noteBid_1 : decode cX0_noteBid 1 = .ok (.iconst 0, 1) := by decide +kernel
theorem dX0_noteBid_2 : decode cX0_noteBid 2 = .ok (.iconst 5, 1) := by decide +kernel
theorem dX0_noteBid_3 : decode cX0_noteBid 3 = .ok (.invokestatic 47, 3) := by decide +kernel
theorem dX0_noteBid_6 : decode cX0_noteBid 6 = .ok (.ifCond .ne 4, 3) := by decide +kernel
theorem dX0_noteBid_9 : decode cX0_noteBid 9 = .ok (.return_, 1) := by decide +kernel
theorem dX0_noteBid_10 : decode cX0_noteBid 10 = .ok (.aload_n 0, 1) := by decide +kernel
theorem dX0_noteBid_11 : decode cX0_noteBid 11 = .ok (.getfield 9, 3) := by decide +kernel
theorem dX0_noteBid_14 : decode cX0_noteBid 14 = .ok (.iload_n 1, 1) := by decide +kernel
theorem dX0_noteBid_15 : decode cX0_noteBid 15 = .ok (.iload_n 2, 1) := by decide +kernel
theorem dX0_noteBid_16 : decode cX0_noteBid 16 = .ok (.iastore, 1) := by decide +kernel
theorem dX0_noteBid_17 : decode cX0_noteBid 17 = .ok (.aload_n 0, 1) := by decide +kernel
theorem dX0_noteBid_18 : decode cX0_noteBid 18 = .ok (.dup, 1) := by decide +kernel
theorem dX0_noteBid_19 : decode cX0_noteBid 19 = .ok (.getfield 34, 3) := by decide +kernel
theorem dX0_noteBid_22 : decode cX0_noteBid 22 = .ok (.iconst 1, 1) := by decide +kernel
theorem dX0_noteBid_23 : decode cX0_noteBid 23 = .ok (.iadd, 1) := by decide +kernel
theorem dX0_noteBid_24 : decode cX0_noteBid 24 = .ok (.putfield 34, 3) := by decide +kernel
theorem dX0_noteBid_27 : decode cX0_noteBid 27 = .ok (.return_, 1) := by decide +kernel
theorem dX0_noteOut_0 : decode cX0_noteOut 0 = .ok (.aload_n 0, 1) := by decide +kernel
theorem dX0_noteOut_1 : decode cX0_noteOut 1 = .ok (.dup, 1) := by decide +kernel
theorem dX0_noteOut_2 : decode cX0_noteOut 2 = .ok (.getfield 37, 3) := by decide +kernel
theorem dX0_noteOut_5 : decode cX0_noteOut 5 = .ok (.iconst 1, 1) := by decide +kernel
theorem dX0_noteOut_6 : decode cX0_noteOut 6 = .ok (.iload_n 1, 1) := by decide +kernel
theorem dX0_noteOut_7 : decode cX0_noteOut 7 = .ok (.ishl, 1) := by decide +kernel
theorem dX0_noteOut_8 : decode cX0_noteOut 8 = .ok (.ior, 1) := by decide +kernel
theorem dX0_noteOut_9 : decode cX0_noteOut 9 = .ok (.putfield 37, 3) := by decide +kernel
theorem dX0_noteOut_12 : decode cX0_noteOut 12 = .ok (.return_, 1) := by decide +kernel
theorem dX1_init_0 : decode cX1_init 0 = .ok (.aload_n 0, 1) := by decide +kernel
theorem dX1_init_1 : decode cX1_init 1 = .ok (.invokespecial 3, 3) := by decide +kernel
theorem dX1_init_4 : decode cX1_init 4 = .ok (.aload_n 0, 1) := by decide +kernel
theorem dX1_init_5 : decode cX1_init 5 = .ok (.getstatic 9, 3) := by decide +kernel
theorem dX1_init_8 : decode cX1_init 8 = .ok (.invokevirtual 13, 3) := by decide +kernel
theorem dX1_init_11 : decode cX1_init 11 = .ok (.checkcast 14, 3) := by decide +kernel
theorem dX1_init_14 : decode cX1_init 14 = .ok (.putfield 18, 3) := by decide +kernel
theorem dX1_init_17 : decode cX1_init 17 = .ok (.aload_n 0, 1) := by decide +kernel
theorem dX1_init_18 : decode cX1_init 18 = .ok (.new 23, 3) := by decide +kernel
theorem dX1_init_21 : decode cX1_init 21 = .ok (.dup, 1) := by decide +kernel
theorem dX1_init_22 : decode cX1_init 22 = .ok (.invokespecial 25, 3) := by decide +kernel
theorem dX1_init_25 : decode cX1_init 25 = .ok (.putfield 26, 3) := by decide +kernel
theorem dX1_init_28 : decode cX1_init 28 = .ok (.aload_n 0, 1) := by decide +kernel
theorem dX1_init_29 : decode cX1_init 29 = .ok (.new 30, 3) := by decide +kernel
theorem dX1_init_32 : decode cX1_init 32 = .ok (.dup, 1) := by decide +kernel
theorem dX1_init_33 : decode cX1_init 33 = .ok (.invokespecial 32, 3) := by decide +kernel
theorem dX1_init_36 : decode cX1_init 36 = .ok (.putfield 33, 3) := by decide +kernel
theorem dX1_init_39 : decode cX1_init 39 = .ok (.aload_n 0, 1) := by decide +kernel
theorem dX1_init_40 : decode cX1_init 40 = .ok (.new 37, 3) := by decide +kernel
theorem dX1_init_43 : decode cX1_init 43 = .ok (.dup, 1) := by decide +kernel
theorem dX1_init_44 : decode cX1_init 44 = .ok (.invokespecial 39, 3) := by decide +kernel
theorem dX1_init_47 : decode cX1_init 47 = .ok (.putfield 40, 3) := by decide +kernel
theorem dX1_init_50 : decode cX1_init 50 = .ok (.return_, 1) := by decide +kernel
theorem dX1_startAnew_0 : decode cX1_startAnew 0 = .ok (.aload_n 0, 1) := by decide +kernel
theorem dX1_startAnew_1 : decode cX1_startAnew 1 = .ok (.getfield 26, 3) := by decide +kernel
theorem dX1_startAnew_4 : decode cX1_startAnew 4 = .ok (.iload_n 1, 1) := by decide +kernel
theorem dX1_startAnew_5 : decode cX1_startAnew 5 = .ok (.aload_n 0, 1) := by decide +kernel
theorem dX1_startAnew_6 : decode cX1_startAnew 6 = .ok (.iconst 0, 1) := by decide +kernel
theorem dX1_startAnew_7 : decode cX1_startAnew 7 = .ok (.invokevirtual 44, 3) := by decide +kernel
theorem dX1_startAnew_10 : decode cX1_startAnew 10 = .ok (.invokevirtual 48, 3) := by decide +kernel
theorem dX1_startAnew_13 : decode cX1_startAnew 13 = .ok (.aload_n 0, 1) := by decide +kernel
theorem dX1_startAnew_14 : decode cX1_startAnew 14 = .ok (.getfield 33, 3) := by decide +kernel
theorem dX1_startAnew_17 : decode cX1_startAnew 17 = .ok (.invokevirtual 52, 3) := by decide +kernel
theorem dX1_startAnew_20 : decode cX1_startAnew 20 = .ok (.aload_n 0, 1) := by decide +kernel
theorem dX1_startAnew_21 : decode cX1_startAnew 21 = .ok (.getfield 40, 3) := by decide +kernel
theorem dX1_startAnew_24 : decode cX1_startAnew 24 = .ok (.invokevirtual 55, 3) := by decide +kernel
theorem dX1_startAnew_27 : decode cX1_startAnew 27 = .ok (.return_, 1) := by decide +kernel
theorem dX1_takeOver_0 : decode cX1_takeOver 0 = .ok (.aload_n 1, 1) := by decide +kernel
theorem dX1_takeOver_1 : decode cX1_takeOver 1 = .ok (.getfield 18, 3) := by decide +kernel
theorem dX1_takeOver_4 : decode cX1_takeOver 4 = .ok (.aload_n 0, 1) := by decide +kernel
theorem dX1_takeOver_5 : decode cX1_takeOver 5 = .ok (.getfield 18, 3) := by decide +kernel
theorem dX1_takeOver_8 : decode cX1_takeOver 8 = .ok (.invokestatic 56, 3) := by decide +kernel
theorem dX1_takeOver_11 : decode cX1_takeOver 11 = .ok (.aload_n 0, 1) := by decide +kernel
theorem dX1_takeOver_12 : decode cX1_takeOver 12 = .ok (.getfield 26, 3) := by decide +kernel
theorem dX1_takeOver_15 : decode cX1_takeOver 15 = .ok (.aload_n 1, 1) := by decide +kernel
theorem dX1_takeOver_16 : decode cX1_takeOver 16 = .ok (.getfield 26, 3) := by decide +kernel
theorem dX1_takeOver_19 : decode cX1_takeOver 19 = .ok (.invokevirtual 60, 3) := by decide +kernel
theorem dX1_takeOver_22 : decode cX1_takeOver 22 = .ok (.aload_n 0, 1) := by decide +kernel
theorem dX1_takeOver_23 : decode cX1_takeOver 23 = .ok (.getfield 33, 3) := by decide +kernel
theorem dX1_takeOver_26 : decode cX1_takeOver 26 = .ok (.aload_n 1, 1) := by decide +kernel
theorem dX1_takeOver_27 : decode cX1_takeOver 27 = .ok (.getfield 33, 3) := by decide +kernel
theorem dX1_takeOver_30 : decode cX1_takeOver 30 = .ok (.invokevirtual 64, 3) := by decide +kernel
theorem dX1_takeOver_33 : decode cX1_takeOver 33 = .ok (.aload_n 0, 1) := by decide +kernel
theorem dX1_takeOver_34 : decode cX1_takeOver 34 = .ok (.getfield 40, 3) := by decide +kernel
theorem dX1_takeOver_37 : decode cX1_takeOver 37 = .ok (.aload_n 1, 1) := by decide +kernel
theorem dX1_takeOver_38 : decode cX1_takeOver 38 = .ok (.getfield 40, 3) := by decide +kernel
theorem dX1_takeOver_41 : decode cX1_takeOver 41 = .ok (.invokevirtual 67, 3) := by decide +kernel
theorem dX1_takeOver_44 : decode cX1_takeOver 44 = .ok (.return_, 1) := by decide +kernel
theorem dX1_settingOf_0 : decode cX1_settingOf 0 = .ok (.iload_n 1, 1) := by decide +kernel
theorem dX1_settingOf_1 : decode cX1_settingOf 1 = .ok (.ifCond .lt 21, 3) := by decide +kernel
theorem dX1_settingOf_4 : decode cX1_settingOf 4 = .ok (.iload_n 1, 1) := by decide +kernel
theorem dX1_settingOf_5 : decode cX1_settingOf 5 = .ok (.aload_n 0, 1) := by decide +kernel
theorem dX1_settingOf_6 : decode cX1_settingOf 6 = .ok (.getfield 18, 3) := by decide +kernel
theorem dX1_settingOf_9 : decode cX1_settingOf 9 = .ok (.arraylength, 1) := by decide +kernel
theorem dX1_settingOf_10 : decode cX1_settingOf 10 = .ok (.if_icmp .ge 12, 3) := by decide +kernel
theorem dX1_settingOf_13 : decode cX1_settingOf 13 = .ok (.aload_n 0, 1) := by decide +kernel
theorem dX1_settingOf_14 : decode cX1_settingOf 14 = .ok (.getfield 18, 3) := by decide +kernel
theorem dX1_settingOf_17 : decode cX1_settingOf 17 = .ok (.iload_n 1, 1) := by decide +kernel
theorem dX1_settingOf_18 : decode cX1_settingOf 18 = .ok (.iaload, 1) := by decide +kernel
theorem dX1_settingOf_19 : decode cX1_settingOf 19 = .ok (.goto 4, 3) := by decide +kernel
theorem dX1_settingOf_22 : decode cX1_settingOf 22 = .ok (.iconst 0, 1) := by decide +kernel
theorem dX1_settingOf_23 : decode cX1_settingOf 23 = .ok (.ireturn, 1) := by decide +kernel
theorem dX1_changeSetting_0 : decode cX1_changeSetting 0 = .ok (.iload_n 1, 1) := by decide +kernel
theorem dX1_changeSetting_1 : decode cX1_changeSetting 1 = .ok (.invokestatic 70, 3) := by decide +kernel
theorem dX1_changeSetting_4 : decode cX1_changeSetting 4 = .ok (.ifCond .ne 6, 3) := by decide +kernel
theorem dX1_changeSetting_7 : decode cX1_changeSetting 7 = .ok (.bipush (-2), 2) := by decide +kernel
theorem dX1_changeSetting_9 : decode cX1_changeSetting 9 = .ok (.ireturn, 1) := by decide +kernel
theorem dX1_changeSetting_10 : decode cX1_changeSetting 10 = .ok (.aload_n 0, 1) := by decide +kernel
theorem dX1_changeSetting_11 : decode cX1_changeSetting 11 = .ok (.getfield 18, 3) := by decide +kernel
theorem dX1_changeSetting_14 : decode cX1_changeSetting 14 = .ok (.iload_n 1, 1) := by decide +kernel
theorem dX1_changeSetting_15 : decode cX1_changeSetting 15 = .ok (.iaload, 1) := by decide +kernel
theorem dX1_changeSetting_16 : decode cX1_changeSetting 16 = .ok (.istore_n 3, 1) := by decide +kernel
theorem dX1_changeSetting_17 : decode cX1_changeSetting 17 = .ok (.aload_n 0, 1) := by decide +kernel
theorem dX1_changeSetting_18 : decode cX1_changeSetting 18 = .ok (.getfield 18, 3) := by decide +kernel
theorem dX1_changeSetting_21 : decode cX1_changeSetting 21 = .ok (.iload_n 1, 1) := by decide +kernel
theorem dX1_changeSetting_22 : decode cX1_changeSetting 22 = .ok (.iload_n 2, 1) := by decide +kernel
theorem dX1_changeSetting_23 : decode cX1_changeSetting 23 = .ok (.iastore, 1) := by decide +kernel
theorem dX1_changeSetting_24 : decode cX1_changeSetting 24 = .ok (.iload_n 3, 1) := by decide +kernel
theorem dX1_changeSetting_25 : decode cX1_changeSetting 25 = .ok (.ireturn, 1) := by decide +kernel
theorem dX1_isUnopened_0 : decode cX1_isUnopened 0 = .ok (.aload_n 0, 1) := by decide +kernel
theorem dX1_isUnopened_1 : decode cX1_isUnopened 1 = .ok (.getfield 33, 3) := by decide +kernel
theorem dX1_isUnopened_4 : decode cX1_isUnopened 4 = .ok (.getfield 74, 3) := by decide +kernel
theorem dX1_isUnopened_7 : decode cX1_isUnopened 7 = .ok (.ifCond .ne 17, 3) := by decide +kernel
theorem dX1_isUnopened_10 : decode cX1_isUnopened 10 = .ok (.aload_n 0, 1) := by decide +kernel
theorem dX1_isUnopened_11 : decode cX1_isUnopened 11 = .ok (.getfield 40, 3) := by decide +kernel
theorem dX1_isUnopened_14 : decode cX1_isUnopened 14 = .ok (.invokevirtual 78, 3) := by decide +kernel
theorem dX1_isUnopened_17 : decode cX1_isUnopened 17 = .ok (.ifCond .ne 7, 3) := by decide +kernel
theorem dX1_isUnopened_20 : decode cX1_isUnopened 20 = .ok (.iconst 1, 1) := by decide +kernel
theorem dX1_isUnopened_21 : decode cX1_isUnopened 21 = .ok (.goto 4, 3) := by decide +kernel
theorem dX1_isUnopened_24 : decode cX1_isUnopened 24 = .ok (.iconst 0, 1) := by decide +kernel
theorem dX1_isUnopened_25 : decode cX1_isUnopened 25 = .ok (.ireturn, 1) := by decide +kernel
theorem dX1_starter_0 : decode cX1_starter 0 = .ok (.aload_n 0, 1) := by decide +kernel
theorem dX1_starter_1 : decode cX1_starter 1 = .ok (.getfield 26, 3) := by decide +kernel
theorem dX1_starter_4 : decode cX1_starter 4 = .ok (.getfield 82, 3) := by decide +kernel
theorem dX1_starter_7 : decode cX1_starter 7 = .ok (.ifCond .le 21, 3) := by decide +kernel
theorem dX1_starter_10 : decode cX1_starter 10 = .ok (.aload_n 0, 1) := by decide +kernel
theorem dX1_starter_11 : decode cX1_starter 11 = .ok (.getfield 33, 3) := by decide +kernel
theorem dX1_starter_14 : decode cX1_starter 14 = .ok (.getfield 74, 3) := by decide +kernel
theorem dX1_starter_17 : decode cX1_starter 17 = .ok (.aload_n 0, 1) := by decide +kernel
theorem dX1_starter_18 : decode cX1_starter 18 = .ok (.getfield 26, 3) := by decide +kernel
theorem dX1_starter_21 : decode cX1_starter 21 = .ok (.getfield 82, 3) := by decide +kernel
theorem dX1_starter_24 : decode cX1_starter 24 = .ok (.irem, 1) := by decide +kernel
theorem dX1_starter_25 : decode cX1_starter 25 = .ok (.goto 4, 3) := by decide +kernel
theorem dX1_starter_28 : decode cX1_starter 28 = .ok (.iconst 0, 1) := by decide +kernel
theorem dX1_starter_29 : decode cX1_starter 29 = .ok (.ireturn, 1) := by decide +kernel
theorem dX1_startAuction_0 : decode cX1_startAuction 0 = .ok (.iload_n 1, 1) := by decide +kernel
theorem dX1_startAuction_1 : decode cX1_startAuction 1 = .ok (.invokestatic 85, 3) := by decide +kernel
theorem dX1_startAuction_4 : decode cX1_startAuction 4 = .ok (.ifCond .eq 10, 3) := by decide +kernel
theorem dX1_startAuction_7 : decode cX1_startAuction 7 = .ok (.iload_n 2, 1) := by decide +kernel
theorem dX1_startAuction_8 : decode cX1_startAuction 8 = .ok (.invokestatic 88, 3) := by decide +kernel
theorem dX1_startAuction_11 : decode cX1_startAuction 11 = .ok (.ifCond .ne 6, 3) := by decide +kernel
theorem dX1_startAuction_14 : decode cX1_startAuction 14 = .ok (.bipush (-2), 2) := by decide +kernel
theorem dX1_startAuction_16 : decode cX1_startAuction 16 = .ok (.ireturn, 1) := by decide +kernel
theorem dX1_startAuction_17 : decode cX1_startAuction 17 = .ok (.aload_n 0, 1) := by decide +kernel
theorem dX1_startAuction_18 : decode cX1_startAuction 18 = .ok (.getfield 40, 3) := by decide +kernel
theorem dX1_startAuction_21 : decode cX1_startAuction 21 = .ok (.invokevirtual 78, 3) := by decide +kernel
theorem dX1_startAuction_24 : decode cX1_startAuction 24 = .ok (.ifCond .ne 13, 3) := by decide +kernel
theorem dX1_startAuction_27 : decode cX1_startAuction 27 = .ok (.aload_n 0, 1) := by decide +kernel
theorem dX1_startAuction_28 : decode cX1_startAuction 28 = .ok (.getfield 33, 3) := by decide +kernel
theorem dX1_startAuction_31 : decode cX1_startAuction 31 = .ok (.invokevirtual 91, 3) := by decide +kernel
theorem dX1_startAuction_34 : decode cX1_startAuction 34 = .ok (.ifCond .ne 6, 3) := by decide +kernel
theorem dX1_startAuction_37 : decode cX1_startAuction 37 = .ok (.bipush (-5), 2) := by decide +kernel
theorem dX1_startAuction_39 : decode cX1_startAuction 39 = .ok (.ireturn, 1) := by decide +kernel
theorem dX1_startAuction_40 : decode cX1_startAuction 40 = .ok (.aload_n 0, 1) := by decide +kernel
theorem dX1_startAuction_41 : decode cX1_startAuction 41 = .ok (.getfield 40, 3) := by decide +kernel
theorem dX1_startAuction_44 : decode cX1_startAuction 44 = .ok (.iload_n 1, 1) := by decide +kernel
theorem dX1_startAuction_45 : decode cX1_startAuction 45 = .ok (.iload_n 2, 1) := by decide +kernel
theorem dX1_startAuction_46 : decode cX1_startAuction 46 = .ok (.aload_n 0, 1) := by decide +kernel
theorem dX1_startAuction_47 : decode cX1_startAuction 47 = .ok (.invokevirtual 94, 3) := by decide +kernel
theorem dX1_startAuction_50 : decode cX1_startAuction 50 = .ok (.invokevirtual 98, 3) := by decide +kernel
theorem dX1_startAuction_53 : decode cX1_startAuction 53 = .ok (.aload_n 0, 1) := by decide +kernel
theorem dX1_startAuction_54 : decode cX1_startAuction 54 = .ok (.getfield 33, 3) := by decide +kernel
theorem dX1_startAuction_57 : decode cX1_startAuction 57 = .ok (.invokevirtual 102, 3) := by decide +kernel
theorem dX1_startAuction_60 : decode cX1_startAuction 60 = .ok (.ireturn, 1) := by decide +kernel
theorem dX1_takeBid_0 : decode cX1_takeBid 0 = .ok (.aload_n 0, 1) := by decide +kernel
theorem dX1_takeBid_1 : decode cX1_takeBid 1 = .ok (.getfield 26, 3) := by decide +kernel
theorem dX1_takeBid_4 : decode cX1_takeBid 4 = .ok (.iload_n 1, 1) := by decide +kernel
theorem dX1_takeBid_5 : decode cX1_takeBid 5 = .ok (.invokevirtual 105, 3) := by decide +kernel
theorem dX1_takeBid_8 : decode cX1_takeBid 8 = .ok (.ifCond .ne 5, 3) := by decide +kernel
theorem dX1_takeBid_11 : decode cX1_takeBid 11 = .ok (.iconst (-1), 1) := by decide +kernel
theorem dX1_takeBid_12 : decode cX1_takeBid 12 = .ok (.ireturn, 1) := by decide +kernel
theorem dX1_takeBid_13 : decode cX1_takeBid 13 = .ok (.bipush (-5), 2) := by decide +kernel
theorem dX1_takeBid_15 : decode cX1_takeBid 15 = .ok (.istore_n 3, 1) := by decide +kernel
theorem dX1_takeBid_16 : decode cX1_takeBid 16 = .ok (.aload_n 0, 1) := by decide +kernel
theorem dX1_takeBid_17 : decode cX1_takeBid 17 = .ok (.getfield 40, 3) := by decide +kernel
theorem dX1_takeBid_20 : decode cX1_takeBid 20 = .ok (.getfield 108, 3) := by decide +kernel
theorem dX1_takeBid_23 : decode cX1_takeBid 23 = .ok (.ifCond .ne 10, 3) := by decide +kernel
theorem dX1_takeBid_26 : decode cX1_takeBid 26 = .ok (.aload_n 0, 1) := by decide +kernel
theorem dX1_takeBid_27 : decode cX1_takeBid 27 = .ok (.iload_n 1, 1) := by decide +kernel
theorem dX1_takeBid_28 : decode cX1_takeBid 28 = .ok (.iload_n 2, 1) := by decide +kernel
theorem dX1_takeBid_29 : decode cX1_takeBid 29 = .ok (.invokevirtual 111, 3) := by decide +kernel
theorem dX1_takeBid_32 : decode cX1_takeBid 32 = .ok (.istore_n 3, 1) := by decide +kernel
theorem dX1_takeBid_33 : decode cX1_takeBid 33 = .ok (.aload_n 0, 1) := by decide +kernel
theorem dX1_takeBid_34 : decode cX1_takeBid 34 = .ok (.getfield 40, 3) := by decide +kernel
theorem dX1_takeBid_37 : decode cX1_takeBid 37 = .ok (.getfield 108, 3) := by decide +kernel
theorem dX1_takeBid_40 : decode cX1_takeBid 40 = .ok (.iconst 1, 1) := by decide +kernel
theorem dX1_takeBid_41 : decode cX1_takeBid 41 = .ok (.if_icmp .ne 10, 3) := by decide +kernel
theorem dX1_takeBid_44 : decode cX1_takeBid 44 = .ok (.aload_n 0, 1) := by decide +kernel
theorem dX1_takeBid_45 : decode cX1_takeBid 45 = .ok (.iload_n 1, 1) := by decide +kernel
theorem dX1_takeBid_46 : decode cX1_takeBid 46 = .ok (.iload_n 2, 1) := by decide +kernel
theorem dX1_takeBid_47 : decode cX1_takeBid 47 = .ok (.invokevirtual 115, 3) := by decide +kernel
theorem dX1_takeBid_50 : decode cX1_takeBid 50 = .ok (.istore_n 3, 1) := by decide +kernel
theorem dX1_takeBid_51 : decode cX1_takeBid 51 = .ok (.aload_n 0, 1) := by decide +kernel
theorem dX1_takeBid_52 : decode cX1_takeBid 52 = .ok (.getfield 40, 3) := by decide +kernel
theorem dX1_takeBid_55 : decode cX1_takeBid 55 = .ok (.getfield 108, 3) := by decide +kernel
theorem dX1_takeBid_58 : decode cX1_takeBid 58 = .ok (.iconst 2, 1) := by decide +kernel
theorem dX1_takeBid_59 : decode cX1_takeBid 59 = .ok (.if_icmp .ne 10, 3) := by decide +kernel
theorem dX1_takeBid_62 : decode cX1_takeBid 62 = .ok (.aload_n 0, 1) := by decide +kernel
theorem dX1_takeBid_63 : decode cX1_takeBid 63 = .ok (.iload_n 1, 1) := by decide +kernel
theorem dX1_takeBid_64 : decode cX1_takeBid 64 = .ok (.iload_n 2, 1) := by decide +kernel
theorem dX1_takeBid_65 : decode cX1_takeBid 65 = .ok (.invokevirtual 118, 3) := by decide +kernel
theorem dX1_takeBid_68 : decode cX1_takeBid 68 = .ok (.istore_n 3, 1) := by decide +kernel
theorem dX1_takeBid_69 : decode cX1_takeBid 69 = .ok (.iload_n 3, 1) := by decide +kernel
theorem dX1_takeBid_70 : decode cX1_takeBid 70 = .ok (.bipush (-6), 2) := by decide +kernel
theorem dX1_takeBid_72 : decode cX1_takeBid 72 = .ok (.if_icmp .ne 10, 3) := by decide +kernel
theorem dX1_takeBid_75 : decode cX1_takeBid 75 = .ok (.aload_n 0, 1) := by decide +kernel
theorem dX1_takeBid_76 : decode cX1_takeBid 76 = .ok (.invokevirtual 121, 3) := by decide +kernel
theorem dX1_takeBid_79 : decode cX1_takeBid 79 = .ok (.goto 4, 3) := by decide +kernel
theorem dX1_takeBid_82 : decode cX1_takeBid 82 = .ok (.iload_n 3, 1) := by decide +kernel
theorem dX1_takeBid_83 : decode cX1_takeBid 83 = .ok (.ireturn, 1) := by decide +kernel
theorem dX1_takePass_0 : decode cX1_takePass 0 = .ok (.aload_n 0, 1) := by decide +kernel
theorem dX1_takePass_1 : decode cX1_takePass 1 = .ok (.getfield 26, 3) := by decide +kernel
theorem dX1_takePass_4 : decode cX1_takePass 4 = .ok (.iload_n 1, 1) := by decide +kernel
theorem dX1_takePass_5 : decode cX1_takePass 5 = .ok (.invokevirtual 105, 3) := by decide +kernel
theorem dX1_takePass_8 : decode cX1_takePass 8 = .ok (.ifCond .ne 5, 3) := by decide +kernel
theorem dX1_takePass_11 : decode cX1_takePass 11 = .ok (.iconst (-1), 1) := by decide +kernel
theorem dX1_takePass_12 : decode cX1_takePass 12 = .ok (.ireturn, 1) := by decide +kernel
theorem dX1_takePass_13 : decode cX1_takePass 13 = .ok (.bipush (-5), 2) := by decide +kernel
theorem dX1_takePass_15 : decode cX1_takePass 15 = .ok (.istore_n 2, 1) := by decide +kernel
theorem dX1_takePass_16 : decode cX1_takePass 16 = .ok (.aload_n 0, 1) := by decide +kernel
theorem dX1_takePass_17 : decode cX1_takePass 17 = .ok (.getfield 40, 3) := by decide +kernel
theorem dX1_takePass_20 : decode cX1_takePass 20 = .ok (.getfield 108, 3) := by decide +kernel
theorem dX1_takePass_23 : decode cX1_takePass 23 = .ok (.ifCond .ne 9, 3) := by decide +kernel
theorem dX1_takePass_26 : decode cX1_takePass 26 = .ok (.aload_n 0, 1) := by decide +kernel
theorem dX1_takePass_27 : decode cX1_takePass 27 = .ok (.iload_n 1, 1) := by decide +kernel
theorem dX1_takePass_28 : decode cX1_takePass 28 = .ok (.invokevirtual 124, 3) := by decide +kernel
theorem dX1_takePass_31 : decode cX1_takePass 31 = .ok (.istore_n 2, 1) := by decide +kernel
theorem dX1_takePass_32 : decode cX1_takePass 32 = .ok (.aload_n 0, 1) := by decide +kernel
theorem dX1_takePass_33 : decode cX1_takePass 33 = .ok (.getfield 40, 3) := by decide +kernel
theorem dX1_takePass_36 : decode cX1_takePass 36 = .ok (.getfield 108, 3) := by decide +kernel
theorem dX1_takePass_39 : decode cX1_takePass 39 = .ok (.iconst 2, 1) := by decide +kernel
theorem dX1_takePass_40 : decode cX1_takePass 40 = .ok (.if_icmp .ne 8, 3) := by decide +kernel
theorem dX1_takePass_43 : decode cX1_takePass 43 = .ok (.aload_n 0, 1) := by decide +kernel
theorem dX1_takePass_44 : decode cX1_takePass 44 = .ok (.invokevirtual 127, 3) := by decide +kernel
theorem dX1_takePass_47 : decode cX1_takePass 47 = .ok (.istore_n 2, 1) := by decide +kernel
theorem dX1_takePass_48 : decode cX1_takePass 48 = .ok (.iload_n 2, 1) := by decide +kernel
theorem dX1_takePass_49 : decode cX1_takePass 49 = .ok (.bipush (-6), 2) := by decide +kernel
theorem dX1_takePass_51 : decode cX1_takePass 51 = .ok (.if_icmp .ne 10, 3) := by decide +kernel
theorem dX1_takePass_54 : decode cX1_takePass 54 = .ok (.aload_n 0, 1) := by decide +kernel
theorem dX1_takePass_55 : decode cX1_takePass 55 = .ok (.invokevirtual 121, 3) := by decide +kernel
theorem dX1_takePass_58 : decode cX1_takePass 58 = .ok (.goto 4, 3) := by decide +kernel
theorem dX1_takePass_61 : decode cX1_takePass 61 = .ok (.iload_n 2, 1) := by decide +kernel
theorem dX1_takePass_62 : decode cX1_takePass 62 = .ok (.ireturn, 1) := by decide +kernel
theorem dX1_moveAlone_0 : decode cX1_moveAlone 0 = .ok (.aload_n 0, 1) := by decide +kernel
theorem dX1_moveAlone_1 : decode cX1_moveAlone 1 = .ok (.getfield 40, 3) := by decide +kernel
theorem dX1_moveAlone_4 : decode cX1_moveAlone 4 = .ok (.invokevirtual 78, 3) := by decide +kernel
theorem dX1_moveAlone_7 : decode cX1_moveAlone 7 = .ok (.ifCond .ne 6, 3) := by decide +kernel
theorem dX1_moveAlone_10 : decode cX1_moveAlone 10 = .ok (.bipush (-5), 2) := by decide +kernel
theorem dX1_moveAlone_12 : decode cX1_moveAlone 12 = .ok (.ireturn, 1) := by decide +kernel
theorem dX1_moveAlone_13 : decode cX1_moveAlone 13 = .ok (.aload_n 0, 1) := by decide +kernel
theorem dX1_moveAlone_14 : decode cX1_moveAlone 14 = .ok (.getfield 40, 3) := by decide +kernel
theorem dX1_moveAlone_17 : decode cX1_moveAlone 17 = .ok (.getfield 108, 3) := by decide +kernel
theorem dX1_moveAlone_20 : decode cX1_moveAlone 20 = .ok (.iconst 2, 1) := by decide +kernel
theorem dX1_moveAlone_21 : decode cX1_moveAlone 21 = .ok (.if_icmp .ne 17, 3) := by decide +kernel
theorem dX1_moveAlone_24 : decode cX1_moveAlone 24 = .ok (.aload_n 0, 1) := by decide +kernel
theorem dX1_moveAlone_25 : decode cX1_moveAlone 25 = .ok (.invokevirtual 130, 3) := by decide +kernel
theorem dX1_moveAlone_28 : decode cX1_moveAlone 28 = .ok (.aload_n 0, 1) := by decide +kernel
theorem dX1_moveAlone_29 : decode cX1_moveAlone 29 = .ok (.invokevirtual 127, 3) := by decide +kernel
theorem dX1_moveAlone_32 : decode cX1_moveAlone 32 = .ok (.pop, 1) := by decide +kernel
theorem dX1_moveAlone_33 : decode cX1_moveAlone 33 = .ok (.aload_n 0, 1) := by decide +kernel
theorem dX1_moveAlone_34 : decode cX1_moveAlone 34 = .ok (.invokevirtual 121, 3) := by decide +kernel
theorem dX1_moveAlone_37 : decode cX1_moveAlone 37 = .ok (.ireturn, 1) := by decide +kernel
theorem dX1_moveAlone_38 : decode cX1_moveAlone 38 = .ok (.aload_n 0, 1) := by decide +kernel
theorem dX1_moveAlone_39 : decode cX1_moveAlone 39 = .ok (.getfield 40, 3) := by decide +kernel
theorem dX1_moveAlone_42 : decode cX1_moveAlone 42 = .ok (.getfield 108, 3) := by decide +kernel
theorem dX1_moveAlone_45 : decode cX1_moveAlone 45 = .ok (.ifCond .ne 13, 3) := by decide +kernel
theorem dX1_moveAlone_48 : decode cX1_moveAlone 48 = .ok (.aload_n 0, 1) := by decide +kernel
theorem dX1_moveAlone_49 : decode cX1_moveAlone 49 = .ok (.getfield 40, 3) := by decide +kernel
theorem dX1_moveAlone_52 : decode cX1_moveAlone 52 = .ok (.getfield 133, 3) := by decide +kernel
theorem dX1_moveAlone_55 : decode cX1_moveAlone 55 = .ok (.goto 7, 3) := by decide +kernel
theorem dX1_moveAlone_58 : decode cX1_moveAlone 58 = .ok (.aload_n 0, 1) := by decide +kernel
theorem dX1_moveAlone_59 : decode cX1_moveAlone 59 = .ok (.invokevirtual 136, 3) := by decide +kernel
theorem dX1_moveAlone_62 : decode cX1_moveAlone 62 = .ok (.istore_n 1, 1) := by decide +kernel
theorem dX1_moveAlone_63 : decode cX1_moveAlone 63 = .ok (.aload_n 0, 1) := by decide +kernel
theorem dX1_moveAlone_64 : decode cX1_moveAlone 64 = .ok (.iload_n 1, 1) := by decide +kernel
theorem dX1_moveAlone_65 : decode cX1_moveAlone 65 = .ok (.invokevirtual 139, 3) := by decide +kernel
theorem dX1_moveAlone_68 : decode cX1_moveAlone 68 = .ok (.istore_n 2, 1) := by decide +kernel
theorem dX1_moveAlone_69 : decode cX1_moveAlone 69 = .ok (.aload_n 0, 1) := by decide +kernel
theorem dX1_moveAlone_70 : decode cX1_moveAlone 70 = .ok (.getfield 40, 3) := by decide +kernel
theorem dX1_moveAlone_73 : decode cX1_moveAlone 73 = .ok (.getfield 108, 3) := by decide +kernel
theorem dX1_moveAlone_76 : decode cX1_moveAlone 76 = .ok (.iconst 1, 1) := by decide +kernel
theorem dX1_moveAlone_77 : decode cX1_moveAlone 77 = .ok (.if_icmp .ne 28, 3) := by decide +kernel
theorem dX1_moveAlone_80 : decode cX1_moveAlone 80 = .ok (.aload_n 0, 1) := by decide +kernel
theorem dX1_moveAlone_81 : decode cX1_moveAlone 81 = .ok (.iload_n 1, 1) := by decide +kernel
theorem dX1_moveAlone_82 : decode cX1_moveAlone 82 = .ok (.iload_n 2, 1) := by decide +kernel
theorem dX1_moveAlone_83 : decode cX1_moveAlone 83 = .ok (.aload_n 0, 1) := by decide +kernel
theorem dX1_moveAlone_84 : decode cX1_moveAlone 84 = .ok (.getfield 40, 3) := by decide +kernel
theorem dX1_moveAlone_87 : decode cX1_moveAlone 87 = .ok (.getfield 142, 3) := by decide +kernel
theorem dX1_moveAlone_90 : decode cX1_moveAlone 90 = .ok (.if_icmp .lt 7, 3) := by decide +kernel
theorem dX1_moveAlone_93 : decode cX1_moveAlone 93 = .ok (.iload_n 2, 1) := by decide +kernel
theorem dX1_moveAlone_94 : decode cX1_moveAlone 94 = .ok (.goto 4, 3) := by decide +kernel
theorem dX1_moveAlone_97 : decode cX1_moveAlone 97 = .ok (.iconst 0, 1) := by decide +kernel
theorem dX1_moveAlone_98 : decode cX1_moveAlone 98 = .ok (.invokevirtual 115, 3) := by decide +kernel
theorem dX1_moveAlone_101 : decode cX1_moveAlone 101 = .ok (.pop, 1) := by decide +kernel
theorem dX1_moveAlone_102 : decode cX1_moveAlone 102 = .ok (.goto 30, 3) := by decide +kernel
theorem dX1_moveAlone_105 : decode cX1_moveAlone 105 = .ok (.aload_n 0, 1) := by decide +kernel
theorem dX1_moveAlone_106 : decode cX1_moveAlone 106 = .ok (.invokevirtual 145, 3) := by decide +kernel
theorem dX1_moveAlone_109 : decode cX1_moveAlone 109 = .ok (.iload_n 2, 1) := by decide +kernel
theorem dX1_moveAlone_110 : decode cX1_moveAlone 110 = .ok (.if_icmp .gt 16, 3) := by decide +kernel
theorem dX1_moveAlone_113 : decode cX1_moveAlone 113 = .ok (.aload_n 0, 1) := by decide +kernel
theorem dX1_moveAlone_114 : decode cX1_moveAlone 114 = .ok (.iload_n 1, 1) := by decide +kernel
theorem dX1_moveAlone_115 : decode cX1_moveAlone 115 = .ok (.aload_n 0, 1) := by decide +kernel
theorem dX1_moveAlone_116 : decode cX1_moveAlone 116 = .ok (.invokevirtual 145, 3) := by decide +kernel
theorem dX1_moveAlone_119 : decode cX1_moveAlone 119 = .ok (.invokevirtual 111, 3) := by decide +kernel
theorem dX1_moveAlone_122 : decode cX1_moveAlone 122 = .ok (.pop, 1) := by decide +kernel
theorem dX1_moveAlone_123 : decode cX1_moveAlone 123 = .ok (.goto 9, 3) := by decide +kernel
theorem dX1_moveAlone_126 : decode cX1_moveAlone 126 = .ok (.aload_n 0, 1) := by decide +kernel
theorem dX1_moveAlone_127 : decode cX1_moveAlone 127 = .ok (.iload_n 1, 1) := by decide +kernel
theorem dX1_moveAlone_128 : decode cX1_moveAlone 128 = .ok (.invokevirtual 124, 3) := by decide +kernel
theorem dX1_moveAlone_131 : decode cX1_moveAlone 131 = .ok (.pop, 1) := by decide +kernel
theorem dX1_moveAlone_132 : decode cX1_moveAlone 132 = .ok (.aload_n 0, 1) := by decide +kernel
theorem dX1_moveAlone_133 : decode cX1_moveAlone 133 = .ok (.invokevirtual 121, 3) := by decide +kernel
theorem dX1_moveAlone_136 : decode cX1_moveAlone 136 = .ok (.ireturn, 1) := by decide +kernel
theorem dX1_settle_0 : decode cX1_settle 0 = .ok (.aload_n 0, 1) := by decide +kernel
theorem dX1_settle_1 : decode cX1_settle 1 = .ok (.getfield 40, 3) := by decide +kernel
theorem dX1_settle_4 : decode cX1_settle 4 = .ok (.getfield 148, 3) := by decide +kernel
theorem dX1_settle_7 : decode cX1_settle 7 = .ok (.istore_n 1, 1) := by decide +kernel
theorem dX1_settle_8 : decode cX1_settle 8 = .ok (.iload_n 1, 1) := by decide +kernel
theorem dX1_settle_9 : decode cX1_settle 9 = .ok (.bipush (-6), 2) := by decide +kernel
theorem dX1_settle_11 : decode cX1_settle 11 = .ok (.if_icmp .ne 6, 3) := by decide +kernel
theorem dX1_settle_14 : decode cX1_settle 14 = .ok (.bipush (-6), 2) := by decide +kernel
theorem dX1_settle_16 : decode cX1_settle 16 = .ok (.ireturn, 1) := by decide +kernel
theorem dX1_settle_17 : decode cX1_settle 17 = .ok (.aload_n 0, 1) := by decide +kernel
theorem dX1_settle_18 : decode cX1_settle 18 = .ok (.iload_n 1, 1) := by decide +kernel
theorem dX1_settle_19 : decode cX1_settle 19 = .ok (.aload_n 0, 1) := by decide +kernel
theorem dX1_settle_20 : decode cX1_settle 20 = .ok (.getfield 40, 3) := by decide +kernel
theorem dX1_settle_23 : decode cX1_settle 23 = .ok (.getfield 151, 3) := by decide +kernel
theorem dX1_settle_26 : decode cX1_settle 26 = .ok (.invokevirtual 154, 3) := by decide +kernel
theorem dX1_settle_29 : decode cX1_settle 29 = .ok (.aload_n 0, 1) := by decide +kernel
theorem dX1_settle_30 : decode cX1_settle 30 = .ok (.getfield 33, 3) := by decide +kernel
theorem dX1_settle_33 : decode cX1_settle 33 = .ok (.iload_n 1, 1) := by decide +kernel
theorem dX1_settle_34 : decode cX1_settle 34 = .ok (.aload_n 0, 1) := by decide +kernel
theorem dX1_settle_35 : decode cX1_settle 35 = .ok (.getfield 40, 3) := by decide +kernel
theorem dX1_settle_38 : decode cX1_settle 38 = .ok (.getfield 151, 3) := by decide +kernel
theorem dX1_settle_41 : decode cX1_settle 41 = .ok (.invokevirtual 157, 3) := by decide +kernel
theorem dX1_settle_44 : decode cX1_settle 44 = .ok (.aload_n 0, 1) := by decide +kernel
theorem dX1_settle_45 : decode cX1_settle 45 = .ok (.getfield 40, 3) := by decide +kernel
theorem dX1_settle_48 : decode cX1_settle 48 = .ok (.invokevirtual 55, 3) := by decide +kernel
theorem dX1_settle_51 : decode cX1_settle 51 = .ok (.iload_n 1, 1) := by decide +kernel
theorem dX1_settle_52 : decode cX1_settle 52 = .ok (.ireturn, 1) := by decide +kernel
theorem dX1_collect_0 : decode cX1_collect 0 = .ok (.iload_n 1, 1) := by decide +kernel
theorem dX1_collect_1 : decode cX1_collect 1 = .ok (.invokestatic 160, 3) := by decide +kernel
theorem dX1_collect_4 : decode cX1_collect 4 = .ok (.istore_n 3, 1) := by decide +kernel
theorem dX1_collect_5 : decode cX1_collect 5 = .ok (.iload_n 3, 1) := by decide +kernel
theorem dX1_collect_6 : decode cX1_collect 6 = .ok (.ifCond .ne 4, 3) := by decide +kernel
theorem dX1_collect_9 : decode cX1_collect 9 = .ok (.return_, 1) := by decide +kernel
theorem dX1_collect_10 : decode cX1_collect 10 = .ok (.iload_n 2, 1) := by decide +kernel
theorem dX1_collect_11 : decode cX1_collect 11 = .ok (.iload_n 3, 1) := by decide +kernel
theorem dX1_collect_12 : decode cX1_collect 12 = .ok (.idiv, 1) := by decide +kernel
theorem dX1_collect_13 : decode cX1_collect 13 = .ok (.istore 4, 2) := by decide +kernel
theorem dX1_collect_15 : decode cX1_collect 15 = .ok (.iload_n 2, 1) := by decide +kernel
theorem dX1_collect_16 : decode cX1_collect 16 = .ok (.iload_n 3, 1) := by decide +kernel
theorem dX1_collect_17 : decode cX1_collect 17 = .ok (.irem, 1) := by decide +kernel
theorem dX1_collect_18 : decode cX1_collect 18 = .ok (.istore 5, 2) := by decide +kernel
theorem dX1_collect_20 : decode cX1_collect 20 = .ok (.aload_n 0, 1) := by decide +kernel
theorem dX1_collect_21 : decode cX1_collect 21 = .ok (.invokevirtual 94, 3) := by decide +kernel
theorem dX1_collect_24 : decode cX1_collect 24 = .ok (.istore 6, 2) := by decide +kernel
theorem dX1_collect_26 : decode cX1_collect 26 = .ok (.iconst 0, 1) := by decide +kernel
theorem dX1_collect_27 : decode cX1_collect 27 = .ok (.istore 7, 2) := by decide +kernel
theorem dX1_collect_29 : decode cX1_collect 29 = .ok (.iload 7, 2) := by decide +kernel
theorem dX1_collect_31 : decode cX1_collect 31 = .ok (.aload_n 0, 1) := by decide +kernel
theorem dX1_collect_32 : decode cX1_collect 32 = .ok (.getfield 26, 3) := by decide +kernel
theorem dX1_collect_35 : decode cX1_collect 35 = .ok (.getfield 82, 3) := by decide +kernel
theorem dX1_collect_38 : decode cX1_collect 38 = .ok (.if_icmp .ge 60, 3) := by decide +kernel
theorem dX1_collect_41 : decode cX1_collect 41 = .ok (.aload_n 0, 1) := by decide +kernel
theorem dX1_collect_42 : decode cX1_collect 42 = .ok (.getfield 26, 3) := by decide +kernel
theorem dX1_collect_45 : decode cX1_collect 45 = .ok (.iload 6, 2) := by decide +kernel
theorem dX1_collect_47 : decode cX1_collect 47 = .ok (.iload 7, 2) := by decide +kernel
theorem dX1_collect_49 : decode cX1_collect 49 = .ok (.invokevirtual 165, 3) := by decide +kernel
theorem dX1_collect_52 : decode cX1_collect 52 = .ok (.istore 8, 2) := by decide +kernel
theorem dX1_collect_54 : decode cX1_collect 54 = .ok (.iload_n 1, 1) := by decide +kernel
theorem dX1_collect_55 : decode cX1_collect 55 = .ok (.iload 8, 2) := by decide +kernel
theorem dX1_collect_57 : decode cX1_collect 57 = .ok (.ishr, 1) := by decide +kernel
theorem dX1_collect_58 : decode cX1_collect 58 = .ok (.iconst 1, 1) := by decide +kernel
theorem dX1_collect_59 : decode cX1_collect 59 = .ok (.iand, 1) := by decide +kernel
theorem dX1_collect_60 : decode cX1_collect 60 = .ok (.ifCond .ne 6, 3) := by decide +kernel
theorem dX1_collect_63 : decode cX1_collect 63 = .ok (.goto 29, 3) := by decide +kernel
theorem dX1_collect_66 : decode cX1_collect 66 = .ok (.aload_n 0, 1) := by decide +kernel
theorem dX1_collect_67 : decode cX1_collect 67 = .ok (.getfield 26, 3) := by decide +kernel
theorem dX1_collect_70 : decode cX1_collect 70 = .ok (.iload 8, 2) := by decide +kernel
theorem dX1_collect_72 : decode cX1_collect 72 = .ok (.iload 5, 2) := by decide +kernel
theorem dX1_collect_74 : decode cX1_collect 74 = .ok (.ifCond .le 10, 3) := by decide +kernel
theorem dX1_collect_77 : decode cX1_collect 77 = .ok (.iload 4, 2) := by decide +kernel
theorem dX1_collect_79 : decode cX1_collect 79 = .ok (.iconst 1, 1) := by decide +kernel
theorem dX1_collect_80 : decode cX1_collect 80 = .ok (.iadd, 1) := by decide +kernel
theorem dX1_collect_81 : decode cX1_collect 81 = .ok (.goto 5, 3) := by decide +kernel
theorem dX1_collect_84 : decode cX1_collect 84 = .ok (.iload 4, 2) := by decide +kernel
theorem dX1_collect_86 : decode cX1_collect 86 = .ok (.invokevirtual 168, 3) := by decide +kernel
theorem dX1_collect_89 : decode cX1_collect 89 = .ok (.iinc 5 (-1), 3) := by decide +kernel
theorem dX1_collect_92 : decode cX1_collect 92 = .ok (.iinc 7 1, 3) := by decide +kernel
theorem dX1_collect_95 : decode cX1_collect 95 = .ok (.goto (-66), 3) := by decide +kernel
theorem dX1_collect_98 : decode cX1_collect 98 = .ok (.return_, 1) := by decide +kernel
theorem dX1_giveLast_0 : decode cX1_giveLast 0 = .ok (.aload_n 0, 1) := by decide +kernel
theorem dX1_giveLast_1 : decode cX1_giveLast 1 = .ok (.getfield 33, 3) := by decide +kernel
theorem dX1_giveLast_4 : decode cX1_giveLast 4 = .ok (.invokevirtual 171, 3) := by decide +kernel
theorem dX1_giveLast_7 : decode cX1_giveLast 7 = .ok (.ifCond .ne 6, 3) := by decide +kernel
theorem dX1_giveLast_10 : decode cX1_giveLast 10 = .ok (.bipush (-5), 2) := by decide +kernel
theorem dX1_giveLast_12 : decode cX1_giveLast 12 = .ok (.ireturn, 1) := by decide +kernel
theorem dX1_giveLast_13 : decode cX1_giveLast 13 = .ok (.aload_n 0, 1) := by decide +kernel
theorem dX1_giveLast_14 : decode cX1_giveLast 14 = .ok (.getfield 26, 3) := by decide +kernel
theorem dX1_giveLast_17 : decode cX1_giveLast 17 = .ok (.aload_n 0, 1) := by decide +kernel
theorem dX1_giveLast_18 : decode cX1_giveLast 18 = .ok (.invokevirtual 94, 3) := by decide +kernel
theorem dX1_giveLast_21 : decode cX1_giveLast 21 = .ok (.invokevirtual 174, 3) := by decide +kernel
theorem dX1_giveLast_24 : decode cX1_giveLast 24 = .ok (.istore_n 1, 1) := by decide +kernel
theorem dX1_giveLast_25 : decode cX1_giveLast 25 = .ok (.aload_n 0, 1) := by decide +kernel
theorem dX1_giveLast_26 : decode cX1_giveLast 26 = .ok (.getfield 33, 3) := by decide +kernel
theorem dX1_giveLast_29 : decode cX1_giveLast 29 = .ok (.iconst 1, 1) := by decide +kernel
theorem dX1_giveLast_30 : decode cX1_giveLast 30 = .ok (.iload_n 1, 1) := by decide +kernel
theorem dX1_giveLast_31 : decode cX1_giveLast 31 = .ok (.ishl, 1) := by decide +kernel
theorem dX1_giveLast_32 : decode cX1_giveLast 32 = .ok (.iconst 0, 1) := by decide +kernel
theorem dX1_giveLast_33 : decode cX1_giveLast 33 = .ok (.invokevirtual 157, 3) := by decide +kernel
theorem dX1_giveLast_36 : decode cX1_giveLast 36 = .ok (.iload_n 1, 1) := by decide +kernel
theorem dX1_giveLast_37 : decode cX1_giveLast 37 = .ok (.ireturn, 1) := by decide +kernel
theorem dX1_leastRaise_0 : decode cX1_leastRaise 0 = .ok (.aload_n 0, 1) := by decide +kernel
theorem dX1_leastRaise_1 : decode cX1_leastRaise 1 = .ok (.getfield 40, 3) := by decide +kernel
theorem dX1_leastRaise_4 : decode cX1_leastRaise 4 = .ok (.getfield 177, 3) := by decide +kernel
theorem dX1_leastRaise_7 : decode cX1_leastRaise 7 = .ok (.bipush (-6), 2) := by decide +kernel
theorem dX1_leastRaise_9 : decode cX1_leastRaise 9 = .ok (.if_icmp .ne 13, 3) := by decide +kernel
theorem dX1_leastRaise_12 : decode cX1_leastRaise 12 = .ok (.aload_n 0, 1) := by decide +kernel
theorem dX1_leastRaise_13 : decode cX1_leastRaise 13 = .ok (.getfield 40, 3) := by decide +kernel
theorem dX1_leastRaise_16 : decode cX1_leastRaise 16 = .ok (.getfield 142, 3) := by decide +kernel
theorem dX1_leastRaise_19 : decode cX1_leastRaise 19 = .ok (.goto 16, 3) := by decide +kernel
theorem dX1_leastRaise_22 : decode cX1_leastRaise 22 = .ok (.aload_n 0, 1) := by decide +kernel
theorem dX1_leastRaise_23 : decode cX1_leastRaise 23 = .ok (.getfield 40, 3) := by decide +kernel
theorem dX1_leastRaise_26 : decode cX1_leastRaise 26 = .ok (.getfield 151, 3) := by decide +kernel
theorem dX1_leastRaise_29 : decode cX1_leastRaise 29 = .ok (.aload_n 0, 1) := by decide +kernel
theorem dX1_leastRaise_30 : decode cX1_leastRaise 30 = .ok (.iconst 1, 1) := by decide +kernel
theorem dX1_leastRaise_31 : decode cX1_leastRaise 31 = .ok (.invokevirtual 44, 3) := by decide +kernel
theorem dX1_leastRaise_34 : decode cX1_leastRaise 34 = .ok (.iadd, 1) := by decide +kernel
theorem dX1_leastRaise_35 : decode cX1_leastRaise 35 = .ok (.ireturn, 1) := by decide +kernel
theorem dX1_raise_0 : decode cX1_raise 0 = .ok (.iload_n 1, 1) := by decide +kernel
theorem dX1_raise_1 : decode cX1_raise 1 = .ok (.aload_n 0, 1) := by decide +kernel
theorem dX1_raise_2 : decode cX1_raise 2 = .ok (.getfield 40, 3) := by decide +kernel
theorem dX1_raise_5 : decode cX1_raise 5 = .ok (.getfield 133, 3) := by decide +kernel
theorem dX1_raise_8 : decode cX1_raise 8 = .ok (.if_icmp .eq 6, 3) := by decide +kernel
theorem dX1_raise_11 : decode cX1_raise 11 = .ok (.bipush (-5), 2) := by decide +kernel
theorem dX1_raise_13 : decode cX1_raise 13 = .ok (.ireturn, 1) := by decide +kernel
theorem dX1_raise_14 : decode cX1_raise 14 = .ok (.iload_n 2, 1) := by decide +kernel
theorem dX1_raise_15 : decode cX1_raise 15 = .ok (.aload_n 0, 1) := by decide +kernel
theorem dX1_raise_16 : decode cX1_raise 16 = .ok (.invokevirtual 145, 3) := by decide +kernel
theorem dX1_raise_19 : decode cX1_raise 19 = .ok (.aload_n 0, 1) := by decide +kernel
theorem dX1_raise_20 : decode cX1_raise 20 = .ok (.getfield 26, 3) := by decide +kernel
theorem dX1_raise_23 : decode cX1_raise 23 = .ok (.iload_n 1, 1) := by decide +kernel
theorem dX1_raise_24 : decode cX1_raise 24 = .ok (.invokevirtual 180, 3) := by decide +kernel
theorem dX1_raise_27 : decode cX1_raise 27 = .ok (.invokestatic 183, 3) := by decide +kernel
theorem dX1_raise_30 : decode cX1_raise 30 = .ok (.ifCond .ne 6, 3) := by decide +kernel
theorem dX1_raise_33 : decode cX1_raise 33 = .ok (.bipush (-2), 2) := by decide +kernel
theorem dX1_raise_35 : decode cX1_raise 35 = .ok (.ireturn, 1) := by decide +kernel
theorem dX1_raise_36 : decode cX1_raise 36 = .ok (.aload_n 0, 1) := by decide +kernel
theorem dX1_raise_37 : decode cX1_raise 37 = .ok (.getfield 40, 3) := by decide +kernel
theorem dX1_raise_40 : decode cX1_raise 40 = .ok (.iload_n 1, 1) := by decide +kernel
theorem dX1_raise_41 : decode cX1_raise 41 = .ok (.iload_n 2, 1) := by decide +kernel
theorem dX1_raise_42 : decode cX1_raise 42 = .ok (.invokevirtual 187, 3) := by decide +kernel
theorem dX1_raise_45 : decode cX1_raise 45 = .ok (.aload_n 0, 1) := by decide +kernel
theorem dX1_raise_46 : decode cX1_raise 46 = .ok (.getfield 40, 3) := by decide +kernel
theorem dX1_raise_49 : decode cX1_raise 49 = .ok (.iload_n 2, 1) := by decide +kernel
theorem dX1_raise_50 : decode cX1_raise 50 = .ok (.putfield 151, 3) := by decide +kernel
theorem dX1_raise_53 : decode cX1_raise 53 = .ok (.aload_n 0, 1) := by decide +kernel
theorem dX1_raise_54 : decode cX1_raise 54 = .ok (.getfield 40, 3) := by decide +kernel
theorem dX1_raise_57 : decode cX1_raise 57 = .ok (.iload_n 1, 1) := by decide +kernel
theorem dX1_raise_58 : decode cX1_raise 58 = .ok (.putfield 177, 3) := by decide +kernel
theorem dX1_raise_61 : decode cX1_raise 61 = .ok (.aload_n 0, 1) := by decide +kernel
theorem dX1_raise_62 : decode cX1_raise 62 = .ok (.getfield 26, 3) := by decide +kernel
theorem dX1_raise_65 : decode cX1_raise 65 = .ok (.iload_n 1, 1) := by decide +kernel
theorem dX1_raise_66 : decode cX1_raise 66 = .ok (.iload_n 2, 1) := by decide +kernel
theorem dX1_raise_67 : decode cX1_raise 67 = .ok (.invokevirtual 190, 3) := by decide +kernel
theorem dX1_raise_70 : decode cX1_raise 70 = .ok (.aload_n 0, 1) := by decide +kernel
theorem dX1_raise_71 : decode cX1_raise 71 = .ok (.iload_n 1, 1) := by decide +kernel
theorem dX1_raise_72 : decode cX1_raise 72 = .ok (.invokevirtual 193, 3) := by decide +kernel
theorem dX1_raise_75 : decode cX1_raise 75 = .ok (.bipush (-6), 2) := by decide +kernel
theorem dX1_raise_77 : decode cX1_raise 77 = .ok (.ireturn, 1) := by decide +kernel
theorem dX1_stepOut_0 : decode cX1_stepOut 0 = .ok (.iload_n 1, 1) := by decide +kernel
theorem dX1_stepOut_1 : decode cX1_stepOut 1 = .ok (.aload_n 0, 1) := by decide +kernel
theorem dX1_stepOut_2 : decode cX1_stepOut 2 = .ok (.getfield 40, 3) := by decide +kernel
theorem dX1_stepOut_5 : decode cX1_stepOut 5 = .ok (.getfield 133, 3) := by decide +kernel
theorem dX1_stepOut_8 : decode cX1_stepOut 8 = .ok (.if_icmp .eq 6, 3) := by decide +kernel
theorem dX1_stepOut_11 : decode cX1_stepOut 11 = .ok (.bipush (-5), 2) := by decide +kernel
theorem dX1_stepOut_13 : decode cX1_stepOut 13 = .ok (.ireturn, 1) := by decide +kernel
theorem dX1_stepOut_14 : decode cX1_stepOut 14 = .ok (.aload_n 0, 1) := by decide +kernel
theorem dX1_stepOut_15 : decode cX1_stepOut 15 = .ok (.getfield 40, 3) := by decide +kernel
theorem dX1_stepOut_18 : decode cX1_stepOut 18 = .ok (.iload_n 1, 1) := by decide +kernel
theorem dX1_stepOut_19 : decode cX1_stepOut 19 = .ok (.invokevirtual 197, 3) := by decide +kernel
theorem dX1_stepOut_22 : decode cX1_stepOut 22 = .ok (.aload_n 0, 1) := by decide +kernel
theorem dX1_stepOut_23 : decode cX1_stepOut 23 = .ok (.iload_n 1, 1) := by decide +kernel
theorem dX1_stepOut_24 : decode cX1_stepOut 24 = .ok (.invokevirtual 193, 3) := by decide +kernel
theorem dX1_stepOut_27 : decode cX1_stepOut 27 = .ok (.bipush (-6), 2) := by decide +kernel
theorem dX1_stepOut_29 : decode cX1_stepOut 29 = .ok (.ireturn, 1) := by decide +kernel
theorem dX1_turnBehind_0 : decode cX1_turnBehind 0 = .ok (.aload_n 0, 1) := by decide +kernel
theorem dX1_turnBehind_1 : decode cX1_turnBehind 1 = .ok (.getfield 40, 3) := by decide +kernel
theorem dX1_turnBehind_4 : decode cX1_turnBehind 4 = .ok (.aload_n 0, 1) := by decide +kernel
theorem dX1_turnBehind_5 : decode cX1_turnBehind 5 = .ok (.getfield 40, 3) := by decide +kernel
theorem dX1_turnBehind_8 : decode cX1_turnBehind 8 = .ok (.getfield 200, 3) := by decide +kernel
theorem dX1_turnBehind_11 : decode cX1_turnBehind 11 = .ok (.aload_n 0, 1) := by decide +kernel
theorem dX1_turnBehind_12 : decode cX1_turnBehind 12 = .ok (.iconst 2, 1) := by decide +kernel
theorem dX1_turnBehind_13 : decode cX1_turnBehind 13 = .ok (.invokevirtual 44, 3) := by decide +kernel
theorem dX1_turnBehind_16 : decode cX1_turnBehind 16 = .ok (.if_icmp .ge 11, 3) := by decide +kernel
theorem dX1_turnBehind_19 : decode cX1_turnBehind 19 = .ok (.aload_n 0, 1) := by decide +kernel
theorem dX1_turnBehind_20 : decode cX1_turnBehind 20 = .ok (.iload_n 1, 1) := by decide +kernel
theorem dX1_turnBehind_21 : decode cX1_turnBehind 21 = .ok (.invokevirtual 203, 3) := by decide +kernel
theorem dX1_turnBehind_24 : decode cX1_turnBehind 24 = .ok (.goto 5, 3) := by decide +kernel
theorem dX1_turnBehind_27 : decode cX1_turnBehind 27 = .ok (.bipush (-6), 2) := by decide +kernel
theorem dX1_turnBehind_29 : decode cX1_turnBehind 29 = .ok (.putfield 133, 3) := by decide +kernel
theorem dX1_turnBehind_32 : decode cX1_turnBehind 32 = .ok (.aload_n 0, 1) := by decide +kernel
theorem dX1_turnBehind_33 : decode cX1_turnBehind 33 = .ok (.getfield 40, 3) := by decide +kernel
theorem dX1_turnBehind_36 : decode cX1_turnBehind 36 = .ok (.getfield 133, 3) := by decide +kernel
theorem dX1_turnBehind_39 : decode cX1_turnBehind 39 = .ok (.bipush (-6), 2) := by decide +kernel
theorem dX1_turnBehind_41 : decode cX1_turnBehind 41 = .ok (.if_icmp .ne 35, 3) := by decide +kernel
theorem dX1_turnBehind_44 : decode cX1_turnBehind 44 = .ok (.aload_n 0, 1) := by decide +kernel
theorem dX1_turnBehind_45 : decode cX1_turnBehind 45 = .ok (.getfield 40, 3) := by decide +kernel
theorem dX1_turnBehind_48 : decode cX1_turnBehind 48 = .ok (.aload_n 0, 1) := by decide +kernel
theorem dX1_turnBehind_49 : decode cX1_turnBehind 49 = .ok (.getfield 40, 3) := by decide +kernel
theorem dX1_turnBehind_52 : decode cX1_turnBehind 52 = .ok (.getfield 177, 3) := by decide +kernel
theorem dX1_turnBehind_55 : decode cX1_turnBehind 55 = .ok (.bipush (-6), 2) := by decide +kernel
theorem dX1_turnBehind_57 : decode cX1_turnBehind 57 = .ok (.if_icmp .ne 7, 3) := by decide +kernel
theorem dX1_turnBehind_60 : decode cX1_turnBehind 60 = .ok (.iconst 0, 1) := by decide +kernel
theorem dX1_turnBehind_61 : decode cX1_turnBehind 61 = .ok (.goto 12, 3) := by decide +kernel
theorem dX1_turnBehind_64 : decode cX1_turnBehind 64 = .ok (.iconst 1, 1) := by decide +kernel
theorem dX1_turnBehind_65 : decode cX1_turnBehind 65 = .ok (.aload_n 0, 1) := by decide +kernel
theorem dX1_turnBehind_66 : decode cX1_turnBehind 66 = .ok (.getfield 40, 3) := by decide +kernel
theorem dX1_turnBehind_69 : decode cX1_turnBehind 69 = .ok (.getfield 177, 3) := by decide +kernel
theorem dX1_turnBehind_72 : decode cX1_turnBehind 72 = .ok (.ishl, 1) := by decide +kernel
theorem dX1_turnBehind_73 : decode cX1_turnBehind 73 = .ok (.putfield 148, 3) := by decide +kernel
theorem dX1_turnBehind_76 : decode cX1_turnBehind 76 = .ok (.return_, 1) := by decide +kernel
theorem dX1_nextToAct_0 : decode cX1_nextToAct 0 = .ok (.iconst 1, 1) := by decide +kernel
theorem dX1_nextToAct_1 : decode cX1_nextToAct 1 = .ok (.istore_n 2, 1) := by decide +kernel
theorem dX1_nextToAct_2 : decode cX1_nextToAct 2 = .ok (.iload_n 2, 1) := by decide +kernel
theorem dX1_nextToAct_3 : decode cX1_nextToAct 3 = .ok (.aload_n 0, 1) := by decide +kernel
theorem dX1_nextToAct_4 : decode cX1_nextToAct 4 = .ok (.getfield 26, 3) := by decide +kernel
theorem dX1_nextToAct_7 : decode cX1_nextToAct 7 = .ok (.getfield 82, 3) := by decide +kernel
theorem dX1_nextToAct_10 : decode cX1_nextToAct 10 = .ok (.if_icmp .ge 43, 3) := by decide +kernel
theorem dX1_nextToAct_13 : decode cX1_nextToAct 13 = .ok (.aload_n 0, 1) := by decide +kernel
theorem dX1_nextToAct_14 : decode cX1_nextToAct 14 = .ok (.getfield 26, 3) := by decide +kernel
theorem dX1_nextToAct_17 : decode cX1_nextToAct 17 = .ok (.iload_n 1, 1) := by decide +kernel
theorem dX1_nextToAct_18 : decode cX1_nextToAct 18 = .ok (.iload_n 2, 1) := by decide +kernel
theorem dX1_nextToAct_19 : decode cX1_nextToAct 19 = .ok (.invokevirtual 165, 3) := by decide +kernel
theorem dX1_nextToAct_22 : decode cX1_nextToAct 22 = .ok (.istore_n 3, 1) := by decide +kernel
theorem dX1_nextToAct_23 : decode cX1_nextToAct 23 = .ok (.iload_n 3, 1) := by decide +kernel
theorem dX1_nextToAct_24 : decode cX1_nextToAct 24 = .ok (.aload_n 0, 1) := by decide +kernel
theorem dX1_nextToAct_25 : decode cX1_nextToAct 25 = .ok (.getfield 40, 3) := by decide +kernel
theorem dX1_nextToAct_28 : decode cX1_nextToAct 28 = .ok (.getfield 177, 3) := by decide +kernel
theorem dX1_nextToAct_31 : decode cX1_nextToAct 31 = .ok (.if_icmp .eq 16, 3) := by decide +kernel
theorem dX1_nextToAct_34 : decode cX1_nextToAct 34 = .ok (.aload_n 0, 1) := by decide +kernel
theorem dX1_nextToAct_35 : decode cX1_nextToAct 35 = .ok (.getfield 40, 3) := by decide +kernel
theorem dX1_nextToAct_38 : decode cX1_nextToAct 38 = .ok (.iload_n 3, 1) := by decide +kernel
theorem dX1_nextToAct_39 : decode cX1_nextToAct 39 = .ok (.invokevirtual 206, 3) := by decide +kernel
theorem dX1_nextToAct_42 : decode cX1_nextToAct 42 = .ok (.ifCond .ne 5, 3) := by decide +kernel
theorem dX1_nextToAct_45 : decode cX1_nextToAct 45 = .ok (.iload_n 3, 1) := by decide +kernel
theorem dX1_nextToAct_46 : decode cX1_nextToAct 46 = .ok (.ireturn, 1) := by decide +kernel
theorem dX1_nextToAct_47 : decode cX1_nextToAct 47 = .ok (.iinc 2 1, 3) := by decide +kernel
theorem dX1_nextToAct_50 : decode cX1_nextToAct 50 = .ok (.goto (-48), 3) := by decide +kernel
theorem dX1_nextToAct_53 : decode cX1_nextToAct 53 = .ok (.bipush (-6), 2) := by decide +kernel
theorem dX1_nextToAct_55 : decode cX1_nextToAct 55 = .ok (.ireturn, 1) := by decide +kernel
theorem dX1_firstWithoutBid_0 : decode cX1_firstWithoutBid 0 = .ok (.aload_n 0, 1) := by decide +kernel
theorem dX1_firstWithoutBid_1 : decode cX1_firstWithoutBid 1 = .ok (.invokevirtual 94, 3) := by decide +kernel
theorem dX1_firstWithoutBid_4 : decode cX1_firstWithoutBid 4 = .ok (.istore_n 1, 1) := by decide +kernel
theorem dX1_firstWithoutBid_5 : decode cX1_firstWithoutBid 5 = .ok (.iconst 0, 1) := by decide +kernel
theorem dX1_firstWithoutBid_6 : decode cX1_firstWithoutBid 6 = .ok (.istore_n 2, 1) := by decide +kernel
theorem dX1_firstWithoutBid_7 : decode cX1_firstWithoutBid 7 = .ok (.iload_n 2, 1) := by decide +kernel
theorem dX1_firstWithoutBid_8 : decode cX1_firstWithoutBid 8 = .ok (.aload_n 0, 1) := by decide +kernel
theorem dX1_firstWithoutBid_9 : decode cX1_firstWithoutBid 9 = .ok (.getfield 26, 3) := by decide +kernel
theorem dX1_firstWithoutBid_12 : decode cX1_firstWithoutBid 12 = .ok (.getfield 82, 3) := by decide +kernel
theorem dX1_firstWithoutBid_15 : decode cX1_firstWithoutBid 15 = .ok (.if_icmp .ge 34, 3) := by decide +kernel
theorem dX1_firstWithoutBid_18 : decode cX1_firstWithoutBid 18 = .ok (.aload_n 0, 1) := by decide +kernel
theorem dX1_firstWithoutBid_19 : decode cX1_firstWithoutBid 19 = .ok (.getfield 26, 3) := by decide +kernel
theorem dX1_firstWithoutBid_22 : decode cX1_firstWithoutBid 22 = .ok (.iload_n 1, 1) := by decide +kernel
theorem dX1_firstWithoutBid_23 : decode cX1_firstWithoutBid 23 = .ok (.iload_n 2, 1) := by decide +kernel
theorem dX1_firstWithoutBid_24 : decode cX1_firstWithoutBid 24 = .ok (.invokevirtual 165, 3) := by decide +kernel
theorem dX1_firstWithoutBid_27 : decode cX1_firstWithoutBid 27 = .ok (.istore_n 3, 1) := by decide +kernel
theorem dX1_firstWithoutBid_28 : decode cX1_firstWithoutBid 28 = .ok (.aload_n 0, 1) := by decide +kernel
theorem dX1_firstWithoutBid_29 : decode cX1_firstWithoutBid 29 = .ok (.getfield 40, 3) := by decide +kernel
theorem dX1_firstWithoutBid_32 : decode cX1_firstWithoutBid 32 = .ok (.iload_n 3, 1) := by decide +kernel
theorem dX1_firstWithoutBid_33 : decode cX1_firstWithoutBid 33 = .ok (.invokevirtual 209, 3) := by decide +kernel
theorem dX1_firstWithoutBid_36 : decode cX1_firstWithoutBid 36 = .ok (.bipush (-6), 2) := by decide +kernel
theorem dX1_firstWithoutBid_38 : decode cX1_firstWithoutBid 38 = .ok (.if_icmp .ne 5, 3) := by decide +kernel
theorem dX1_firstWithoutBid_41 : decode cX1_firstWithoutBid 41 = .ok (.iload_n 3, 1) := by decide +kernel
theorem dX1_firstWithoutBid_42 : decode cX1_firstWithoutBid 42 = .ok (.ireturn, 1) := by decide +kernel
theorem dX1_firstWithoutBid_43 : decode cX1_firstWithoutBid 43 = .ok (.iinc 2 1, 3) := by decide +kernel
theorem dX1_firstWithoutBid_46 : decode cX1_firstWithoutBid 46 = .ok (.goto (-39), 3) := by decide +kernel
theorem dX1_firstWithoutBid_49 : decode cX1_firstWithoutBid 49 = .ok (.bipush (-6), 2) := by decide +kernel
theorem dX1_firstWithoutBid_51 : decode cX1_firstWithoutBid 51 = .ok (.ireturn, 1) := by decide +kernel
theorem dX1_handIn_0 : decode cX1_handIn 0 = .ok (.aload_n 0, 1) := by decide +kernel
theorem dX1_handIn_1 : decode cX1_handIn 1 = .ok (.getfield 40, 3) := by decide +kernel
theorem dX1_handIn_4 : decode cX1_handIn 4 = .ok (.iload_n 1, 1) := by decide +kernel
theorem dX1_handIn_5 : decode cX1_handIn 5 = .ok (.invokevirtual 209, 3) := by decide +kernel
theorem dX1_handIn_8 : decode cX1_handIn 8 = .ok (.bipush (-6), 2) := by decide +kernel
theorem dX1_handIn_10 : decode cX1_handIn 10 = .ok (.if_icmp .eq 6, 3) := by decide +kernel
theorem dX1_handIn_13 : decode cX1_handIn 13 = .ok (.bipush (-5), 2) := by decide +kernel
theorem dX1_handIn_15 : decode cX1_handIn 15 = .ok (.ireturn, 1) := by decide +kernel
theorem dX1_handIn_16 : decode cX1_handIn 16 = .ok (.iload_n 2, 1) := by decide +kernel
theorem dX1_handIn_17 : decode cX1_handIn 17 = .ok (.iconst 0, 1) := by decide +kernel
theorem dX1_handIn_18 : decode cX1_handIn 18 = .ok (.aload_n 0, 1) := by decide +kernel
theorem dX1_handIn_19 : decode cX1_handIn 19 = .ok (.getfield 26, 3) := by decide +kernel
theorem dX1_handIn_22 : decode cX1_handIn 22 = .ok (.iload_n 1, 1) := by decide +kernel
theorem dX1_handIn_23 : decode cX1_handIn 23 = .ok (.invokevirtual 180, 3) := by decide +kernel
theorem dX1_handIn_26 : decode cX1_handIn 26 = .ok (.invokestatic 183, 3) := by decide +kernel
theorem dX1_handIn_29 : decode cX1_handIn 29 = .ok (.ifCond .ne 6, 3) := by decide +kernel
theorem dX1_handIn_32 : decode cX1_handIn 32 = .ok (.bipush (-2), 2) := by decide +kernel
theorem dX1_handIn_34 : decode cX1_handIn 34 = .ok (.ireturn, 1) := by decide +kernel
theorem dX1_handIn_35 : decode cX1_handIn 35 = .ok (.aload_n 0, 1) := by decide +kernel
theorem dX1_handIn_36 : decode cX1_handIn 36 = .ok (.getfield 40, 3) := by decide +kernel
theorem dX1_handIn_39 : decode cX1_handIn 39 = .ok (.iload_n 1, 1) := by decide +kernel
theorem dX1_handIn_40 : decode cX1_handIn 40 = .ok (.iload_n 2, 1) := by decide +kernel
theorem dX1_handIn_41 : decode cX1_handIn 41 = .ok (.invokevirtual 187, 3) := by decide +kernel
theorem dX1_handIn_44 : decode cX1_handIn 44 = .ok (.aload_n 0, 1) := by decide +kernel
theorem dX1_handIn_45 : decode cX1_handIn 45 = .ok (.getfield 40, 3) := by decide +kernel
theorem dX1_handIn_48 : decode cX1_handIn 48 = .ok (.getfield 200, 3) := by decide +kernel
theorem dX1_handIn_51 : decode cX1_handIn 51 = .ok (.aload_n 0, 1) := by decide +kernel
theorem dX1_handIn_52 : decode cX1_handIn 52 = .ok (.getfield 26, 3) := by decide +kernel
theorem dX1_handIn_55 : decode cX1_handIn 55 = .ok (.getfield 82, 3) := by decide +kernel
theorem dX1_handIn_58 : decode cX1_handIn 58 = .ok (.if_icmp .ne 7, 3) := by decide +kernel
theorem dX1_handIn_61 : decode cX1_handIn 61 = .ok (.aload_n 0, 1) := by decide +kernel
theorem dX1_handIn_62 : decode cX1_handIn 62 = .ok (.invokevirtual 212, 3) := by decide +kernel
theorem dX1_handIn_65 : decode cX1_handIn 65 = .ok (.bipush (-6), 2) := by decide +kernel
theorem dX1_handIn_67 : decode cX1_handIn 67 = .ok (.ireturn, 1) := by decide +kernel
theorem dX1_openBids_0 : decode cX1_openBids 0 = .ok (.iconst 0, 1) := by decide +kernel
theorem dX1_openBids_1 : decode cX1_openBids 1 = .ok (.istore_n 1, 1) := by decide +kernel
theorem dX1_openBids_2 : decode cX1_openBids 2 = .ok (.iconst 0, 1) := by decide +kernel
theorem dX1_openBids_3 : decode cX1_openBids 3 = .ok (.istore_n 2, 1) := by decide +kernel
theorem dX1_openBids_4 : decode cX1_openBids 4 = .ok (.iconst 0, 1) := by decide +kernel
theorem dX1_openBids_5 : decode cX1_openBids 5 = .ok (.istore_n 3, 1) := by decide +kernel
theorem dX1_openBids_6 : decode cX1_openBids 6 = .ok (.iload_n 3, 1) := by decide +kernel
theorem dX1_openBids_7 : decode cX1_openBids 7 = .ok (.aload_n 0, 1) := by decide +kernel
theorem dX1_openBids_8 : decode cX1_openBids 8 = .ok (.getfield 26, 3) := by decide +kernel
theorem dX1_openBids_11 : decode cX1_openBids 11 = .ok (.getfield 82, 3) := by decide +kernel
theorem dX1_openBids_14 : decode cX1_openBids 14 = .ok (.if_icmp .ge 52, 3) := by decide +kernel
theorem dX1_openBids_17 : decode cX1_openBids 17 = .ok (.aload_n 0, 1) := by decide +kernel
theorem dX1_openBids_18 : decode cX1_openBids 18 = .ok (.getfield 40, 3) := by decide +kernel
theorem dX1_openBids_21 : decode cX1_openBids 21 = .ok (.iload_n 3, 1) := by decide +kernel
theorem dX1_openBids_22 : decode cX1_openBids 22 = .ok (.invokevirtual 209, 3) := by decide +kernel
theorem dX1_openBids_25 : decode cX1_openBids 25 = .ok (.istore 4, 2) := by decide +kernel
theorem dX1_openBids_27 : decode cX1_openBids 27 = .ok (.aload_n 0, 1) := by decide +kernel
theorem dX1_openBids_28 : decode cX1_openBids 28 = .ok (.getfield 26, 3) := by decide +kernel
theorem dX1_openBids_31 : decode cX1_openBids 31 = .ok (.iload_n 3, 1) := by decide +kernel
theorem dX1_openBids_32 : decode cX1_openBids 32 = .ok (.iload 4, 2) := by decide +kernel
theorem dX1_openBids_34 : decode cX1_openBids 34 = .ok (.invokevirtual 190, 3) := by decide +kernel
theorem dX1_openBids_37 : decode cX1_openBids 37 = .ok (.iload 4, 2) := by decide +kernel
theorem dX1_openBids_39 : decode cX1_openBids 39 = .ok (.iload_n 1, 1) := by decide +kernel
theorem dX1_openBids_40 : decode cX1_openBids 40 = .ok (.if_icmp .le 8, 3) := by decide +kernel
theorem dX1_openBids_43 : decode cX1_openBids 43 = .ok (.iload 4, 2) := by decide +kernel
theorem dX1_openBids_45 : decode cX1_openBids 45 = .ok (.istore_n 1, 1) := by decide +kernel
theorem dX1_openBids_46 : decode cX1_openBids 46 = .ok (.iconst 0, 1) := by decide +kernel
theorem dX1_openBids_47 : decode cX1_openBids 47 = .ok (.istore_n 2, 1) := by decide +kernel
theorem dX1_openBids_48 : decode cX1_openBids 48 = .ok (.iload 4, 2) := by decide +kernel
theorem dX1_openBids_50 : decode cX1_openBids 50 = .ok (.iload_n 1, 1) := by decide +kernel
theorem dX1_openBids_51 : decode cX1_openBids 51 = .ok (.if_icmp .ne 9, 3) := by decide +kernel
theorem dX1_openBids_54 : decode cX1_openBids 54 = .ok (.iload_n 2, 1) := by decide +kernel
theorem dX1_openBids_55 : decode cX1_openBids 55 = .ok (.iconst 1, 1) := by decide +kernel
theorem dX1_openBids_56 : decode cX1_openBids 56 = .ok (.iload_n 3, 1) := by decide +kernel
theorem dX1_openBids_57 : decode cX1_openBids 57 = .ok (.ishl, 1) := by decide +kernel
theorem dX1_openBids_58 : decode cX1_openBids 58 = .ok (.ior, 1) := by decide +kernel
theorem dX1_openBids_59 : decode cX1_openBids 59 = .ok (.istore_n 2, 1) := by decide +kernel
theorem dX1_openBids_60 : decode cX1_openBids 60 = .ok (.iinc 3 1, 3) := by decide +kernel
theorem dX1_openBids_63 : decode cX1_openBids 63 = .ok (.goto (-57), 3) := by decide +kernel
theorem dX1_openBids_66 : decode cX1_openBids 66 = .ok (.aload_n 0, 1) := by decide +kernel
theorem dX1_openBids_67 : decode cX1_openBids 67 = .ok (.getfield 40, 3) := by decide +kernel
theorem dX1_openBids_70 : decode cX1_openBids 70 = .ok (.iload_n 1, 1) := by decide +kernel
theorem dX1_openBids_71 : decode cX1_openBids 71 = .ok (.putfield 151, 3) := by decide +kernel
theorem dX1_openBids_74 : decode cX1_openBids 74 = .ok (.aload_n 0, 1) := by decide +kernel
theorem dX1_openBids_75 : decode cX1_openBids 75 = .ok (.getfield 40, 3) := by decide +kernel
theorem dX1_openBids_78 : decode cX1_openBids 78 = .ok (.iload_n 1, 1) := by decide +kernel
theorem dX1_openBids_79 : decode cX1_openBids 79 = .ok (.aload_n 0, 1) := by decide +kernel
theorem dX1_openBids_80 : decode cX1_openBids 80 = .ok (.getfield 40, 3) := by decide +kernel
theorem dX1_openBids_83 : decode cX1_openBids 83 = .ok (.getfield 142, 3) := by decide +kernel
theorem dX1_openBids_86 : decode cX1_openBids 86 = .ok (.if_icmp .lt 7, 3) := by decide +kernel
theorem dX1_openBids_89 : decode cX1_openBids 89 = .ok (.iload_n 2, 1) := by decide +kernel
theorem dX1_openBids_90 : decode cX1_openBids 90 = .ok (.goto 4, 3) := by decide +kernel
theorem dX1_openBids_93 : decode cX1_openBids 93 = .ok (.iconst 0, 1) := by decide +kernel
theorem dX1_openBids_94 : decode cX1_openBids 94 = .ok (.putfield 148, 3) := by decide +kernel
theorem dX1_openBids_97 : decode cX1_openBids 97 = .ok (.return_, 1) := by decide +kernel
theorem dX1_claim_0 : decode cX1_claim 0 = .ok (.aload_n 0, 1) := by decide +kernel
theorem dX1_claim_1 : decode cX1_claim 1 = .ok (.getfield 40, 3) := by decide +kernel
theorem dX1_claim_4 : decode cX1_claim 4 = .ok (.iload_n 1, 1) := by decide +kernel
theorem dX1_claim_5 : decode cX1_claim 5 = .ok (.invokevirtual 209, 3) := by decide +kernel
theorem dX1_claim_8 : decode cX1_claim 8 = .ok (.bipush (-6), 2) := by decide +kernel
theorem dX1_claim_10 : decode cX1_claim 10 = .ok (.if_icmp .eq 6, 3) := by decide +kernel
theorem dX1_claim_13 : decode cX1_claim 13 = .ok (.bipush (-5), 2) := by decide +kernel
theorem dX1_claim_15 : decode cX1_claim 15 = .ok (.ireturn, 1) := by decide +kernel
theorem dX1_claim_16 : decode cX1_claim 16 = .ok (.iload_n 2, 1) := by decide +kernel
theorem dX1_claim_17 : decode cX1_claim 17 = .ok (.aload_n 0, 1) := by decide +kernel
theorem dX1_claim_18 : decode cX1_claim 18 = .ok (.getfield 40, 3) := by decide +kernel
theorem dX1_claim_21 : decode cX1_claim 21 = .ok (.getfield 151, 3) := by decide +kernel
theorem dX1_claim_24 : decode cX1_claim 24 = .ok (.if_icmp .ne 15, 3) := by decide +kernel
theorem dX1_claim_27 : decode cX1_claim 27 = .ok (.iload_n 2, 1) := by decide +kernel
theorem dX1_claim_28 : decode cX1_claim 28 = .ok (.aload_n 0, 1) := by decide +kernel
theorem dX1_claim_29 : decode cX1_claim 29 = .ok (.getfield 26, 3) := by decide +kernel
theorem dX1_claim_32 : decode cX1_claim 32 = .ok (.iload_n 1, 1) := by decide +kernel
theorem dX1_claim_33 : decode cX1_claim 33 = .ok (.invokevirtual 180, 3) := by decide +kernel
theorem dX1_claim_36 : decode cX1_claim 36 = .ok (.if_icmp .le 6, 3) := by decide +kernel
theorem dX1_claim_39 : decode cX1_claim 39 = .ok (.bipush (-2), 2) := by decide +kernel
theorem dX1_claim_41 : decode cX1_claim 41 = .ok (.ireturn, 1) := by decide +kernel
theorem dX1_claim_42 : decode cX1_claim 42 = .ok (.aload_n 0, 1) := by decide +kernel
theorem dX1_claim_43 : decode cX1_claim 43 = .ok (.getfield 40, 3) := by decide +kernel
theorem dX1_claim_46 : decode cX1_claim 46 = .ok (.iload_n 1, 1) := by decide +kernel
theorem dX1_claim_47 : decode cX1_claim 47 = .ok (.iload_n 2, 1) := by decide +kernel
theorem dX1_claim_48 : decode cX1_claim 48 = .ok (.invokevirtual 187, 3) := by decide +kernel
theorem dX1_claim_51 : decode cX1_claim 51 = .ok (.aload_n 0, 1) := by decide +kernel
theorem dX1_claim_52 : decode cX1_claim 52 = .ok (.getfield 26, 3) := by decide +kernel
theorem dX1_claim_55 : decode cX1_claim 55 = .ok (.iload_n 1, 1) := by decide +kernel
theorem dX1_claim_56 : decode cX1_claim 56 = .ok (.iload_n 2, 1) := by decide +kernel
theorem dX1_claim_57 : decode cX1_claim 57 = .ok (.invokevirtual 190, 3) := by decide +kernel
theorem dX1_claim_60 : decode cX1_claim 60 = .ok (.bipush (-6), 2) := by decide +kernel
theorem dX1_claim_62 : decode cX1_claim 62 = .ok (.ireturn, 1) := by decide +kernel
theorem dX1_claimAlone_0 : decode cX1_claimAlone 0 = .ok (.iconst 0, 1) := by decide +kernel
theorem dX1_claimAlone_1 : decode cX1_claimAlone 1 = .ok (.istore_n 1, 1) := by decide +kernel
theorem dX1_claimAlone_2 : decode cX1_claimAlone 2 = .ok (.iload_n 1, 1) := by decide +kernel
theorem dX1_claimAlone_3 : decode cX1_claimAlone 3 = .ok (.aload_n 0, 1) := by decide +kernel
theorem dX1_claimAlone_4 : decode cX1_claimAlone 4 = .ok (.getfield 26, 3) := by decide +kernel
theorem dX1_claimAlone_7 : decode cX1_claimAlone 7 = .ok (.getfield 82, 3) := by decide +kernel
theorem dX1_claimAlone_10 : decode cX1_claimAlone 10 = .ok (.if_icmp .ge 50, 3) := by decide +kernel
theorem dX1_claimAlone_13 : decode cX1_claimAlone 13 = .ok (.aload_n 0, 1) := by decide +kernel
theorem dX1_claimAlone_14 : decode cX1_claimAlone 14 = .ok (.getfield 40, 3) := by decide +kernel
theorem dX1_claimAlone_17 : decode cX1_claimAlone 17 = .ok (.iload_n 1, 1) := by decide +kernel
theorem dX1_claimAlone_18 : decode cX1_claimAlone 18 = .ok (.invokevirtual 209, 3) := by decide +kernel
theorem dX1_claimAlone_21 : decode cX1_claimAlone 21 = .ok (.bipush (-6), 2) := by decide +kernel
theorem dX1_claimAlone_23 : decode cX1_claimAlone 23 = .ok (.if_icmp .ne 31, 3) := by decide +kernel
theorem dX1_claimAlone_26 : decode cX1_claimAlone 26 = .ok (.aload_n 0, 1) := by decide +kernel
theorem dX1_claimAlone_27 : decode cX1_claimAlone 27 = .ok (.getfield 40, 3) := by decide +kernel
theorem dX1_claimAlone_30 : decode cX1_claimAlone 30 = .ok (.getfield 151, 3) := by decide +kernel
theorem dX1_claimAlone_33 : decode cX1_claimAlone 33 = .ok (.aload_n 0, 1) := by decide +kernel
theorem dX1_claimAlone_34 : decode cX1_claimAlone 34 = .ok (.iload_n 1, 1) := by decide +kernel
theorem dX1_claimAlone_35 : decode cX1_claimAlone 35 = .ok (.invokevirtual 139, 3) := by decide +kernel
theorem dX1_claimAlone_38 : decode cX1_claimAlone 38 = .ok (.if_icmp .gt 16, 3) := by decide +kernel
theorem dX1_claimAlone_41 : decode cX1_claimAlone 41 = .ok (.aload_n 0, 1) := by decide +kernel
theorem dX1_claimAlone_42 : decode cX1_claimAlone 42 = .ok (.iload_n 1, 1) := by decide +kernel
theorem dX1_claimAlone_43 : decode cX1_claimAlone 43 = .ok (.aload_n 0, 1) := by decide +kernel
theorem dX1_claimAlone_44 : decode cX1_claimAlone 44 = .ok (.getfield 40, 3) := by decide +kernel
theorem dX1_claimAlone_47 : decode cX1_claimAlone 47 = .ok (.getfield 151, 3) := by decide +kernel
theorem dX1_claimAlone_50 : decode cX1_claimAlone 50 = .ok (.invokevirtual 118, 3) := by decide +kernel
theorem dX1_claimAlone_53 : decode cX1_claimAlone 53 = .ok (.pop, 1) := by decide +kernel
theorem dX1_claimAlone_54 : decode cX1_claimAlone 54 = .ok (.iinc 1 1, 3) := by decide +kernel
theorem dX1_claimAlone_57 : decode cX1_claimAlone 57 = .ok (.goto (-55), 3) := by decide +kernel
theorem dX1_claimAlone_60 : decode cX1_claimAlone 60 = .ok (.return_, 1) := by decide +kernel
theorem dX1_letFall_0 : decode cX1_letFall 0 = .ok (.aload_n 0, 1) := by decide +kernel
theorem dX1_letFall_1 : decode cX1_letFall 1 = .ok (.invokevirtual 94, 3) := by decide +kernel
theorem dX1_letFall_4 : decode cX1_letFall 4 = .ok (.istore_n 1, 1) := by decide +kernel
theorem dX1_letFall_5 : decode cX1_letFall 5 = .ok (.iconst 0, 1) := by decide +kernel
theorem dX1_letFall_6 : decode cX1_letFall 6 = .ok (.istore_n 2, 1) := by decide +kernel
theorem dX1_letFall_7 : decode cX1_letFall 7 = .ok (.iload_n 2, 1) := by decide +kernel
theorem dX1_letFall_8 : decode cX1_letFall 8 = .ok (.aload_n 0, 1) := by decide +kernel
theorem dX1_letFall_9 : decode cX1_letFall 9 = .ok (.getfield 26, 3) := by decide +kernel
theorem dX1_letFall_12 : decode cX1_letFall 12 = .ok (.getfield 82, 3) := by decide +kernel
theorem dX1_letFall_15 : decode cX1_letFall 15 = .ok (.if_icmp .ge 48, 3) := by decide +kernel
theorem dX1_letFall_18 : decode cX1_letFall 18 = .ok (.aload_n 0, 1) := by decide +kernel
theorem dX1_letFall_19 : decode cX1_letFall 19 = .ok (.getfield 26, 3) := by decide +kernel
theorem dX1_letFall_22 : decode cX1_letFall 22 = .ok (.iload_n 1, 1) := by decide +kernel
theorem dX1_letFall_23 : decode cX1_letFall 23 = .ok (.iload_n 2, 1) := by decide +kernel
theorem dX1_letFall_24 : decode cX1_letFall 24 = .ok (.invokevirtual 165, 3) := by decide +kernel
theorem dX1_letFall_27 : decode cX1_letFall 27 = .ok (.istore_n 3, 1) := by decide +kernel
theorem dX1_letFall_28 : decode cX1_letFall 28 = .ok (.aload_n 0, 1) := by decide +kernel
theorem dX1_letFall_29 : decode cX1_letFall 29 = .ok (.getfield 40, 3) := by decide +kernel
theorem dX1_letFall_32 : decode cX1_letFall 32 = .ok (.iload_n 3, 1) := by decide +kernel
theorem dX1_letFall_33 : decode cX1_letFall 33 = .ok (.invokevirtual 209, 3) := by decide +kernel
theorem dX1_letFall_36 : decode cX1_letFall 36 = .ok (.bipush (-6), 2) := by decide +kernel
theorem dX1_letFall_38 : decode cX1_letFall 38 = .ok (.if_icmp .ne 6, 3) := by decide +kernel
theorem dX1_letFall_41 : decode cX1_letFall 41 = .ok (.goto 16, 3) := by decide +kernel
theorem dX1_letFall_44 : decode cX1_letFall 44 = .ok (.aload_n 0, 1) := by decide +kernel
theorem dX1_letFall_45 : decode cX1_letFall 45 = .ok (.getfield 40, 3) := by decide +kernel
theorem dX1_letFall_48 : decode cX1_letFall 48 = .ok (.iconst 1, 1) := by decide +kernel
theorem dX1_letFall_49 : decode cX1_letFall 49 = .ok (.iload_n 3, 1) := by decide +kernel
theorem dX1_letFall_50 : decode cX1_letFall 50 = .ok (.ishl, 1) := by decide +kernel
theorem dX1_letFall_51 : decode cX1_letFall 51 = .ok (.putfield 148, 3) := by decide +kernel
theorem dX1_letFall_54 : decode cX1_letFall 54 = .ok (.bipush (-6), 2) := by decide +kernel
theorem dX1_letFall_56 : decode cX1_letFall 56 = .ok (.ireturn, 1) := by decide +kernel
theorem dX1_letFall_57 : decode cX1_letFall 57 = .ok (.iinc 2 1, 3) := by decide +kernel
theorem dX1_letFall_60 : decode cX1_letFall 60 = .ok (.goto (-53), 3) := by decide +kernel
theorem dX1_letFall_63 : decode cX1_letFall 63 = .ok (.aload_n 0, 1) := by decide +kernel
theorem dX1_letFall_64 : decode cX1_letFall 64 = .ok (.getfield 40, 3) := by decide +kernel
theorem dX1_letFall_67 : decode cX1_letFall 67 = .ok (.dup, 1) := by decide +kernel
theorem dX1_letFall_68 : decode cX1_letFall 68 = .ok (.getfield 151, 3) := by decide +kernel
theorem dX1_letFall_71 : decode cX1_letFall 71 = .ok (.aload_n 0, 1) := by decide +kernel
theorem dX1_letFall_72 : decode cX1_letFall 72 = .ok (.iconst 1, 1) := by decide +kernel
theorem dX1_letFall_73 : decode cX1_letFall 73 = .ok (.invokevirtual 44, 3) := by decide +kernel
theorem dX1_letFall_76 : decode cX1_letFall 76 = .ok (.isub, 1) := by decide +kernel
theorem dX1_letFall_77 : decode cX1_letFall 77 = .ok (.putfield 151, 3) := by decide +kernel
theorem dX1_letFall_80 : decode cX1_letFall 80 = .ok (.aload_n 0, 1) := by decide +kernel
theorem dX1_letFall_81 : decode cX1_letFall 81 = .ok (.getfield 40, 3) := by decide +kernel
theorem dX1_letFall_84 : decode cX1_letFall 84 = .ok (.getfield 151, 3) := by decide +kernel
theorem dX1_letFall_87 : decode cX1_letFall 87 = .ok (.iconst 1, 1) := by decide +kernel
theorem dX1_letFall_88 : decode cX1_letFall 88 = .ok (.if_icmp .ge 11, 3) := by decide +kernel
theorem dX1_letFall_91 : decode cX1_letFall 91 = .ok (.aload_n 0, 1) := by decide +kernel
theorem dX1_letFall_92 : decode cX1_letFall 92 = .ok (.getfield 40, 3) := by decide +kernel
theorem dX1_letFall_95 : decode cX1_letFall 95 = .ok (.iconst 0, 1) := by decide +kernel
theorem dX1_letFall_96 : decode cX1_letFall 96 = .ok (.putfield 148, 3) := by decide +kernel
theorem dX1_letFall_99 : decode cX1_letFall 99 = .ok (.bipush (-6), 2) := by decide +kernel
theorem dX1_letFall_101 : decode cX1_letFall 101 = .ok (.ireturn, 1) := by decide +kernel
theorem dX1_limitOf_0 : decode cX1_limitOf 0 = .ok (.aload_n 0, 1) := by decide +kernel
theorem dX1_limitOf_1 : decode cX1_limitOf 1 = .ok (.getfield 33, 3) := by decide +kernel
theorem dX1_limitOf_4 : decode cX1_limitOf 4 = .ok (.invokevirtual 102, 3) := by decide +kernel
theorem dX1_limitOf_7 : decode cX1_limitOf 7 = .ok (.bipush (-6), 2) := by decide +kernel
theorem dX1_limitOf_9 : decode cX1_limitOf 9 = .ok (.if_icmp .ne 6, 3) := by decide +kernel
theorem dX1_limitOf_12 : decode cX1_limitOf 12 = .ok (.bipush (-6), 2) := by decide +kernel
theorem dX1_limitOf_14 : decode cX1_limitOf 14 = .ok (.ireturn, 1) := by decide +kernel
theorem dX1_limitOf_15 : decode cX1_limitOf 15 = .ok (.aload_n 0, 1) := by decide +kernel
theorem dX1_limitOf_16 : decode cX1_limitOf 16 = .ok (.getfield 33, 3) := by decide +kernel
theorem dX1_limitOf_19 : decode cX1_limitOf 19 = .ok (.iload_n 1, 1) := by decide +kernel
theorem dX1_limitOf_20 : decode cX1_limitOf 20 = .ok (.aload_n 0, 1) := by decide +kernel
theorem dX1_limitOf_21 : decode cX1_limitOf 21 = .ok (.iconst 3, 1) := by decide +kernel
theorem dX1_limitOf_22 : decode cX1_limitOf 22 = .ok (.invokevirtual 44, 3) := by decide +kernel
theorem dX1_limitOf_25 : decode cX1_limitOf 25 = .ok (.aload_n 0, 1) := by decide +kernel
theorem dX1_limitOf_26 : decode cX1_limitOf 26 = .ok (.iconst 4, 1) := by decide +kernel
theorem dX1_limitOf_27 : decode cX1_limitOf 27 = .ok (.invokevirtual 44, 3) := by decide +kernel
theorem dX1_limitOf_30 : decode cX1_limitOf 30 = .ok (.invokevirtual 215, 3) := by decide +kernel
theorem dX1_limitOf_33 : decode cX1_limitOf 33 = .ok (.istore_n 2, 1) := by decide +kernel
theorem dX1_limitOf_34 : decode cX1_limitOf 34 = .ok (.aload_n 0, 1) := by decide +kernel
theorem dX1_limitOf_35 : decode cX1_limitOf 35 = .ok (.getfield 26, 3) := by decide +kernel
theorem dX1_limitOf_38 : decode cX1_limitOf 38 = .ok (.iload_n 1, 1) := by decide +kernel
theorem dX1_limitOf_39 : decode cX1_limitOf 39 = .ok (.invokevirtual 180, 3) := by decide +kernel
theorem dX1_limitOf_42 : decode cX1_limitOf 42 = .ok (.iload_n 2, 1) := by decide +kernel
theorem dX1_limitOf_43 : decode cX1_limitOf 43 = .ok (.aload_n 0, 1) := by decide +kernel
theorem dX1_limitOf_44 : decode cX1_limitOf 44 = .ok (.getfield 26, 3) := by decide +kernel
theorem dX1_limitOf_47 : decode cX1_limitOf 47 = .ok (.iload_n 1, 1) := by decide +kernel
theorem dX1_limitOf_48 : decode cX1_limitOf 48 = .ok (.invokevirtual 219, 3) := by decide +kernel
theorem dX1_limitOf_51 : decode cX1_limitOf 51 = .ok (.imul, 1) := by decide +kernel
theorem dX1_limitOf_52 : decode cX1_limitOf 52 = .ok (.bipush 10, 2) := by decide +kernel
theorem dX1_limitOf_54 : decode cX1_limitOf 54 = .ok (.idiv, 1) := by decide +kernel
theorem dX1_limitOf_55 : decode cX1_limitOf 55 = .ok (.invokestatic 222, 3) := by decide +kernel
theorem dX1_limitOf_58 : decode cX1_limitOf 58 = .ok (.ireturn, 1) := by decide +kernel
theorem dX1_neededAgainst_0 : decode cX1_neededAgainst 0 = .ok (.iload_n 2, 1) := by decide +kernel
theorem dX1_neededAgainst_1 : decode cX1_neededAgainst 1 = .ok (.istore_n 3, 1) := by decide +kernel
theorem dX1_neededAgainst_2 : decode cX1_neededAgainst 2 = .ok (.iconst 0, 1) := by decide +kernel
theorem dX1_neededAgainst_3 : decode cX1_neededAgainst 3 = .ok (.istore 4, 2) := by decide +kernel
theorem dX1_neededAgainst_5 : decode cX1_neededAgainst 5 = .ok (.iload 4, 2) := by decide +kernel
theorem dX1_neededAgainst_7 : decode cX1_neededAgainst 7 = .ok (.aload_n 0, 1) := by decide +kernel
theorem dX1_neededAgainst_8 : decode cX1_neededAgainst 8 = .ok (.getfield 26, 3) := by decide +kernel
theorem dX1_neededAgainst_11 : decode cX1_neededAgainst 11 = .ok (.getfield 82, 3) := by decide +kernel
theorem dX1_neededAgainst_14 : decode cX1_neededAgainst 14 = .ok (.if_icmp .ge 26, 3) := by decide +kernel
theorem dX1_neededAgainst_17 : decode cX1_neededAgainst 17 = .ok (.iload 4, 2) := by decide +kernel
theorem dX1_neededAgainst_19 : decode cX1_neededAgainst 19 = .ok (.iload_n 1, 1) := by decide +kernel
theorem dX1_neededAgainst_20 : decode cX1_neededAgainst 20 = .ok (.if_icmp .eq 14, 3) := by decide +kernel
theorem dX1_neededAgainst_23 : decode cX1_neededAgainst 23 = .ok (.iload_n 3, 1) := by decide +kernel
theorem dX1_neededAgainst_24 : decode cX1_neededAgainst 24 = .ok (.aload_n 0, 1) := by decide +kernel
theorem dX1_neededAgainst_25 : decode cX1_neededAgainst 25 = .ok (.iload 4, 2) := by decide +kernel
theorem dX1_neededAgainst_27 : decode cX1_neededAgainst 27 = .ok (.invokevirtual 139, 3) := by decide +kernel
theorem dX1_neededAgainst_30 : decode cX1_neededAgainst 30 = .ok (.invokestatic 227, 3) := by decide +kernel
theorem dX1_neededAgainst_33 : decode cX1_neededAgainst 33 = .ok (.istore_n 3, 1) := by decide +kernel
theorem dX1_neededAgainst_34 : decode cX1_neededAgainst 34 = .ok (.iinc 4 1, 3) := by decide +kernel
theorem dX1_neededAgainst_37 : decode cX1_neededAgainst 37 = .ok (.goto (-32), 3) := by decide +kernel
theorem dX1_neededAgainst_40 : decode cX1_neededAgainst 40 = .ok (.iload_n 3, 1) := by decide +kernel
theorem dX1_neededAgainst_41 : decode cX1_neededAgainst 41 = .ok (.ireturn, 1) := by decide +kernel
theorem dX1_valueOf_0 : decode cX1_valueOf 0 = .ok (.aload_n 0, 1) := by decide +kernel
theorem dX1_valueOf_1 : decode cX1_valueOf 1 = .ok (.getfield 33, 3) := by decide +kernel
theorem dX1_valueOf_4 : decode cX1_valueOf 4 = .ok (.iload_n 1, 1) := by decide +kernel
theorem dX1_valueOf_5 : decode cX1_valueOf 5 = .ok (.aload_n 0, 1) := by decide +kernel
theorem dX1_valueOf_6 : decode cX1_valueOf 6 = .ok (.iconst 3, 1) := by decide +kernel
theorem dX1_valueOf_7 : decode cX1_valueOf 7 = .ok (.invokevirtual 44, 3) := by decide +kernel
theorem dX1_valueOf_10 : decode cX1_valueOf 10 = .ok (.aload_n 0, 1) := by decide +kernel
theorem dX1_valueOf_11 : decode cX1_valueOf 11 = .ok (.iconst 4, 1) := by decide +kernel
theorem dX1_valueOf_12 : decode cX1_valueOf 12 = .ok (.invokevirtual 44, 3) := by decide +kernel
theorem dX1_valueOf_15 : decode cX1_valueOf 15 = .ok (.invokevirtual 230, 3) := by decide +kernel
theorem dX1_valueOf_18 : decode cX1_valueOf 18 = .ok (.ireturn, 1) := by decide +kernel
theorem dX1_scoreOf_0 : decode cX1_scoreOf 0 = .ok (.aload_n 0, 1) := by decide +kernel
theorem dX1_scoreOf_1 : decode cX1_scoreOf 1 = .ok (.iconst 5, 1) := by decide +kernel
theorem dX1_scoreOf_2 : decode cX1_scoreOf 2 = .ok (.invokevirtual 44, 3) := by decide +kernel
theorem dX1_scoreOf_5 : decode cX1_scoreOf 5 = .ok (.istore_n 2, 1) := by decide +kernel
theorem dX1_scoreOf_6 : decode cX1_scoreOf 6 = .ok (.aload_n 0, 1) := by decide +kernel
theorem dX1_scoreOf_7 : decode cX1_scoreOf 7 = .ok (.iload_n 1, 1) := by decide +kernel
theorem dX1_scoreOf_8 : decode cX1_scoreOf 8 = .ok (.invokevirtual 233, 3) := by decide +kernel
theorem dX1_scoreOf_11 : decode cX1_scoreOf 11 = .ok (.iload_n 2, 1) := by decide +kernel
theorem dX1_scoreOf_12 : decode cX1_scoreOf 12 = .ok (.ifCond .le 16, 3) := by decide +kernel
theorem dX1_scoreOf_15 : decode cX1_scoreOf 15 = .ok (.aload_n 0, 1) := by decide +kernel
theorem dX1_scoreOf_16 : decode cX1_scoreOf 16 = .ok (.getfield 26, 3) := by decide +kernel
theorem dX1_scoreOf_19 : decode cX1_scoreOf 19 = .ok (.iload_n 1, 1) := by decide +kernel
theorem dX1_scoreOf_20 : decode cX1_scoreOf 20 = .ok (.invokevirtual 180, 3) := by decide +kernel
theorem dX1_scoreOf_23 : decode cX1_scoreOf 23 = .ok (.iload_n 2, 1) := by decide +kernel
theorem dX1_scoreOf_24 : decode cX1_scoreOf 24 = .ok (.idiv, 1) := by decide +kernel
theorem dX1_scoreOf_25 : decode cX1_scoreOf 25 = .ok (.goto 4, 3) := by decide +kernel
theorem dX1_scoreOf_28 : decode cX1_scoreOf 28 = .ok (.iconst 0, 1) := by decide +kernel
theorem dX1_scoreOf_29 : decode cX1_scoreOf 29 = .ok (.iadd, 1) := by decide +kernel
theorem dX1_scoreOf_30 : decode cX1_scoreOf 30 = .ok (.ireturn, 1) := by decide +kernel
theorem dX1_placeOf_0 : decode cX1_placeOf 0 = .ok (.aload_n 0, 1) := by decide +kernel
theorem dX1_placeOf_1 : decode cX1_placeOf 1 = .ok (.iload_n 1, 1) := by decide +kernel
theorem dX1_placeOf_2 : decode cX1_placeOf 2 = .ok (.invokevirtual 236, 3) := by decide +kernel
theorem dX1_placeOf_5 : decode cX1_placeOf 5 = .ok (.istore_n 2, 1) := by decide +kernel
theorem dX1_placeOf_6 : decode cX1_placeOf 6 = .ok (.iconst 1, 1) := by decide +kernel
theorem dX1_placeOf_7 : decode cX1_placeOf 7 = .ok (.istore_n 3, 1) := by decide +kernel
theorem dX1_placeOf_8 : decode cX1_placeOf 8 = .ok (.iconst 0, 1) := by decide +kernel
theorem dX1_placeOf_9 : decode cX1_placeOf 9 = .ok (.istore 4, 2) := by decide +kernel
theorem dX1_placeOf_11 : decode cX1_placeOf 11 = .ok (.iload 4, 2) := by decide +kernel
theorem dX1_placeOf_13 : decode cX1_placeOf 13 = .ok (.aload_n 0, 1) := by decide +kernel
theorem dX1_placeOf_14 : decode cX1_placeOf 14 = .ok (.getfield 26, 3) := by decide +kernel
theorem dX1_placeOf_17 : decode cX1_placeOf 17 = .ok (.getfield 82, 3) := by decide +kernel
theorem dX1_placeOf_20 : decode cX1_placeOf 20 = .ok (.if_icmp .ge 38, 3) := by decide +kernel
theorem dX1_placeOf_23 : decode cX1_placeOf 23 = .ok (.aload_n 0, 1) := by decide +kernel
theorem dX1_placeOf_24 : decode cX1_placeOf 24 = .ok (.iload 4, 2) := by decide +kernel
theorem dX1_placeOf_26 : decode cX1_placeOf 26 = .ok (.invokevirtual 236, 3) := by decide +kernel
theorem dX1_placeOf_29 : decode cX1_placeOf 29 = .ok (.istore 5, 2) := by decide +kernel
theorem dX1_placeOf_31 : decode cX1_placeOf 31 = .ok (.iload 5, 2) := by decide +kernel
theorem dX1_placeOf_33 : decode cX1_placeOf 33 = .ok (.iload_n 2, 1) := by decide +kernel
theorem dX1_placeOf_34 : decode cX1_placeOf 34 = .ok (.if_icmp .gt 15, 3) := by decide +kernel
theorem dX1_placeOf_37 : decode cX1_placeOf 37 = .ok (.iload 5, 2) := by decide +kernel
theorem dX1_placeOf_39 : decode cX1_placeOf 39 = .ok (.iload_n 2, 1) := by decide +kernel
theorem dX1_placeOf_40 : decode cX1_placeOf 40 = .ok (.if_icmp .ne 12, 3) := by decide +kernel
theorem dX1_placeOf_43 : decode cX1_placeOf 43 = .ok (.iload 4, 2) := by decide +kernel
theorem dX1_placeOf_45 : decode cX1_placeOf 45 = .ok (.iload_n 1, 1) := by decide +kernel
theorem dX1_placeOf_46 : decode cX1_placeOf 46 = .ok (.if_icmp .ge 6, 3) := by decide +kernel
theorem dX1_placeOf_49 : decode cX1_placeOf 49 = .ok (.iinc 3 1, 3) := by decide +kernel
theorem dX1_placeOf_52 : decode cX1_placeOf 52 = .ok (.iinc 4 1, 3) := by decide +kernel
theorem dX1_placeOf_55 : decode cX1_placeOf 55 = .ok (.goto (-44), 3) := by decide +kernel
theorem dX1_placeOf_58 : decode cX1_placeOf 58 = .ok (.iload_n 3, 1) := by decide +kernel
theorem dX1_placeOf_59 : decode cX1_placeOf 59 = .ok (.ireturn, 1) := by decide +kernel
theorem dX2_init_0 : decode cX2_init 0 = .ok (.aload_n 0, 1) := by decide +kernel
theorem dX2_init_1 : decode cX2_init 1 = .ok (.invokespecial 3, 3) := by decide +kernel
theorem dX2_init_4 : decode cX2_init 4 = .ok (.aload_n 0, 1) := by decide +kernel
theorem dX2_init_5 : decode cX2_init 5 = .ok (.bipush 12, 2) := by decide +kernel
theorem dX2_init_7 : decode cX2_init 7 = .ok (.newarray .int, 2) := by decide +kernel
theorem dX2_init_9 : decode cX2_init 9 = .ok (.putfield 9, 3) := by decide +kernel
theorem dX2_init_12 : decode cX2_init 12 = .ok (.aload_n 0, 1) := by decide +kernel
theorem dX2_init_13 : decode cX2_init 13 = .ok (.bipush 12, 2) := by decide +kernel
theorem dX2_init_15 : decode cX2_init 15 = .ok (.newarray .int, 2) := by decide +kernel
theorem dX2_init_17 : decode cX2_init 17 = .ok (.putfield 15, 3) := by decide +kernel
theorem dX2_init_20 : decode cX2_init 20 = .ok (.aload_n 0, 1) := by decide +kernel
theorem dX2_init_21 : decode cX2_init 21 = .ok (.bipush 12, 2) := by decide +kernel
theorem dX2_init_23 : decode cX2_init 23 = .ok (.newarray .int, 2) := by decide +kernel
theorem dX2_init_25 : decode cX2_init 25 = .ok (.putfield 18, 3) := by decide +kernel
theorem dX2_init_28 : decode cX2_init 28 = .ok (.aload_n 0, 1) := by decide +kernel
theorem dX2_init_29 : decode cX2_init 29 = .ok (.bipush 12, 2) := by decide +kernel
theorem dX2_init_31 : decode cX2_init 31 = .ok (.newarray .int, 2) := by decide +kernel
theorem dX2_init_33 : decode cX2_init 33 = .ok (.putfield 21, 3) := by decide +kernel
theorem dX2_init_36 : decode cX2_init 36 = .ok (.return_, 1) := by decide +kernel
theorem dX2_clear_0 : decode cX2_clear 0 = .ok (.aload_n 0, 1) := by decide +kernel
theorem dX2_clear_1 : decode cX2_clear 1 = .ok (.iconst 0, 1) := by decide +kernel
theorem dX2_clear_2 : decode cX2_clear 2 = .ok (.putfield 24, 3) := by decide +kernel
theorem dX2_clear_5 : decode cX2_clear 5 = .ok (.aload_n 0, 1) := by decide +kernel
theorem dX2_clear_6 : decode cX2_clear 6 = .ok (.iconst 0, 1) := by decide +kernel
theorem dX2_clear_7 : decode cX2_clear 7 = .ok (.putfield 28, 3) := by decide +kernel
theorem dX2_clear_10 : decode cX2_clear 10 = .ok (.return_, 1) := by decide +kernel
theorem dX2_takeOver_0 : decode cX2_takeOver 0 = .ok (.aload_n 0, 1) := by decide +kernel
theorem dX2_takeOver_1 : decode cX2_takeOver 1 = .ok (.aload_n 1, 1) := by decide +kernel
theorem dX2_takeOver_2 : decode cX2_takeOver 2 = .ok (.getfield 24, 3) := by decide +kernel
theorem dX2_takeOver_5 : decode cX2_takeOver 5 = .ok (.putfield 24, 3) := by decide +kernel
theorem dX2_takeOver_8 : decode cX2_takeOver 8 = .ok (.aload_n 0, 1) := by decide +kernel
theorem dX2_takeOver_9 : decode cX2_takeOver 9 = .ok (.aload_n 1, 1) := by decide +kernel
theorem dX2_takeOver_10 : decode cX2_takeOver 10 = .ok (.getfield 28, 3) := by decide +kernel
theorem dX2_takeOver_13 : decode cX2_takeOver 13 = .ok (.putfield 28, 3) := by decide +kernel
theorem dX2_takeOver_16 : decode cX2_takeOver 16 = .ok (.aload_n 1, 1) := by decide +kernel
theorem dX2_takeOver_17 : decode cX2_takeOver 17 = .ok (.getfield 9, 3) := by decide +kernel
theorem dX2_takeOver_20 : decode cX2_takeOver 20 = .ok (.aload_n 0, 1) := by decide +kernel
theorem dX2_takeOver_21 : decode cX2_takeOver 21 = .ok (.getfield 9, 3) := by decide +kernel
theorem dX2_takeOver_24 : decode cX2_takeOver 24 = .ok (.invokestatic 31, 3) := by decide +kernel
theorem dX2_takeOver_27 : decode cX2_takeOver 27 = .ok (.aload_n 1, 1) := by decide +kernel
theorem dX2_takeOver_28 : decode cX2_takeOver 28 = .ok (.getfield 15, 3) := by decide +kernel
theorem dX2_takeOver_31 : decode cX2_takeOver 31 = .ok (.aload_n 0, 1) := by decide +kernel
theorem dX2_takeOver_32 : decode cX2_takeOver 32 = .ok (.getfield 15, 3) := by decide +kernel
theorem dX2_takeOver_35 : decode cX2_takeOver 35 = .ok (.invokestatic 31, 3) := by decide +kernel
theorem dX2_takeOver_38 : decode cX2_takeOver 38 = .ok (.aload_n 1, 1) := by decide +kernel
theorem dX2_takeOver_39 : decode cX2_takeOver 39 = .ok (.getfield 18, 3) := by decide +kernel
theorem dX2_takeOver_42 : decode cX2_takeOver 42 = .ok (.aload_n 0, 1) := by decide +kernel
theorem dX2_takeOver_43 : decode cX2_takeOver 43 = .ok (.getfield 18, 3) := by decide +kernel
theorem dX2_takeOver_46 : decode cX2_takeOver 46 = .ok (.invokestatic 31, 3) := by decide +kernel
theorem dX2_takeOver_49 : decode cX2_takeOver 49 = .ok (.aload_n 1, 1) := by decide +kernel
theorem dX2_takeOver_50 : decode cX2_takeOver 50 = .ok (.getfield 21, 3) := by decide +kernel
theorem dX2_takeOver_53 : decode cX2_takeOver 53 = .ok (.aload_n 0, 1) := by decide +kernel
theorem dX2_takeOver_54 : decode cX2_takeOver 54 = .ok (.getfield 21, 3) := by decide +kernel
theorem dX2_takeOver_57 : decode cX2_takeOver 57 = .ok (.invokestatic 31, 3) := by decide +kernel
theorem dX2_takeOver_60 : decode cX2_takeOver 60 = .ok (.return_, 1) := by decide +kernel
theorem dX2_areFull_0 : decode cX2_areFull 0 = .ok (.aload_n 0, 1) := by decide +kernel
theorem dX2_areFull_1 : decode cX2_areFull 1 = .ok (.getfield 24, 3) := by decide +kernel
theorem dX2_areFull_4 : decode cX2_areFull 4 = .ok (.bipush 12, 2) := by decide +kernel
theorem dX2_areFull_6 : decode cX2_areFull 6 = .ok (.if_icmp .lt 7, 3) := by decide +kernel
theorem dX2_areFull_9 : decode cX2_areFull 9 = .ok (.iconst 1, 1) := by decide +kernel
theorem dX2_areFull_10 : decode cX2_areFull 10 = .ok (.goto 4, 3) := by decide +kernel
theorem dX2_areFull_13 : decode cX2_areFull 13 = .ok (.iconst 0, 1) := by decide +kernel
theorem dX2_areFull_14 : decode cX2_areFull 14 = .ok (.ireturn, 1) := by decide +kernel
theorem dX2_hasLot_0 : decode cX2_hasLot 0 = .ok (.iload_n 1, 1) := by decide +kernel
theorem dX2_hasLot_1 : decode cX2_hasLot 1 = .ok (.ifCond .lt 15, 3) := by decide +kernel
theorem dX2_hasLot_4 : decode cX2_hasLot 4 = .ok (.iload_n 1, 1) := by decide +kernel
theorem dX2_hasLot_5 : decode cX2_hasLot 5 = .ok (.aload_n 0, 1) := by decide +kernel
theorem dX2_hasLot_6 : decode cX2_hasLot 6 = .ok (.getfield 24, 3) := by decide +kernel
theorem dX2_hasLot_9 : decode cX2_hasLot 9 = .ok (.if_icmp .ge 7, 3) := by decide +kernel
theorem dX2_hasLot_12 : decode cX2_hasLot 12 = .ok (.iconst 1, 1) := by decide +kernel
theorem dX2_hasLot_13 : decode cX2_hasLot 13 = .ok (.goto 4, 3) := by decide +kernel
theorem dX2_hasLot_16 : decode cX2_hasLot 16 = .ok (.iconst 0, 1) := by decide +kernel
theorem dX2_hasLot_17 : decode cX2_hasLot 17 = .ok (.ireturn, 1) := by decide +kernel
theorem dX2_add_0 : decode cX2_add 0 = .ok (.aload_n 0, 1) := by decide +kernel
theorem dX2_add_1 : decode cX2_add 1 = .ok (.invokevirtual 35, 3) := by decide +kernel
theorem dX2_add_4 : decode cX2_add 4 = .ok (.ifCond .eq 6, 3) := by decide +kernel
theorem dX2_add_7 : decode cX2_add 7 = .ok (.bipush (-4), 2) := by decide +kernel
theorem dX2_add_9 : decode cX2_add 9 = .ok (.ireturn, 1) := by decide +kernel
theorem dX2_add_10 : decode cX2_add 10 = .ok (.aload_n 0, 1) := by decide +kernel
theorem dX2_add_11 : decode cX2_add 11 = .ok (.getfield 9, 3) := by decide +kernel
theorem dX2_add_14 : decode cX2_add 14 = .ok (.aload_n 0, 1) := by decide +kernel
theorem dX2_add_15 : decode cX2_add 15 = .ok (.getfield 24, 3) := by decide +kernel
theorem dX2_add_18 : decode cX2_add 18 = .ok (.iload_n 1, 1) := by decide +kernel
theorem dX2_add_19 : decode cX2_add 19 = .ok (.iastore, 1) := by decide +kernel
theorem dX2_add_20 : decode cX2_add 20 = .ok (.aload_n 0, 1) := by decide +kernel
theorem dX2_add_21 : decode cX2_add 21 = .ok (.getfield 15, 3) := by decide +kernel
theorem dX2_add_24 : decode cX2_add 24 = .ok (.aload_n 0, 1) := by decide +kernel
theorem dX2_add_25 : decode cX2_add 25 = .ok (.getfield 24, 3) := by decide +kernel
theorem dX2_add_28 : decode cX2_add 28 = .ok (.iload_n 2, 1) := by decide +kernel
theorem dX2_add_29 : decode cX2_add 29 = .ok (.iastore, 1) := by decide +kernel
theorem dX2_add_30 : decode cX2_add 30 = .ok (.aload_n 0, 1) := by decide +kernel
theorem dX2_add_31 : decode cX2_add 31 = .ok (.getfield 18, 3) := by decide +kernel
theorem dX2_add_34 : decode cX2_add 34 = .ok (.aload_n 0, 1) := by decide +kernel
theorem dX2_add_35 : decode cX2_add 35 = .ok (.getfield 24, 3) := by decide +kernel
theorem dX2_add_38 : decode cX2_add 38 = .ok (.iconst 0, 1) := by decide +kernel
theorem dX2_add_39 : decode cX2_add 39 = .ok (.iastore, 1) := by decide +kernel
theorem dX2_add_40 : decode cX2_add 40 = .ok (.aload_n 0, 1) := by decide +kernel
theorem dX2_add_41 : decode cX2_add 41 = .ok (.getfield 21, 3) := by decide +kernel
theorem dX2_add_44 : decode cX2_add 44 = .ok (.aload_n 0, 1) := by decide +kernel
theorem dX2_add_45 : decode cX2_add 45 = .ok (.getfield 24, 3) := by decide +kernel
theorem dX2_add_48 : decode cX2_add 48 = .ok (.iconst 0, 1) := by decide +kernel
theorem dX2_add_49 : decode cX2_add 49 = .ok (.iastore, 1) := by decide +kernel
theorem dX2_add_50 : decode cX2_add 50 = .ok (.aload_n 0, 1) := by decide +kernel
theorem dX2_add_51 : decode cX2_add 51 = .ok (.dup, 1) := by decide +kernel
theorem dX2_add_52 : decode cX2_add 52 = .ok (.getfield 24, 3) := by decide +kernel
theorem dX2_add_55 : decode cX2_add 55 = .ok (.iconst 1, 1) := by decide +kernel
theorem dX2_add_56 : decode cX2_add 56 = .ok (.iadd, 1) := by decide +kernel
theorem dX2_add_57 : decode cX2_add 57 = .ok (.putfield 24, 3) := by decide +kernel
theorem dX2_add_60 : decode cX2_add 60 = .ok (.aload_n 0, 1) := by decide +kernel
theorem dX2_add_61 : decode cX2_add 61 = .ok (.getfield 24, 3) := by decide +kernel
theorem dX2_add_64 : decode cX2_add 64 = .ok (.iconst 1, 1) := by decide +kernel
theorem dX2_add_65 : decode cX2_add 65 = .ok (.isub, 1) := by decide +kernel
theorem dX2_add_66 : decode cX2_add 66 = .ok (.ireturn, 1) := by decide +kernel
theorem dX2_next_0 : decode cX2_next 0 = .ok (.aload_n 0, 1) := by decide +kernel
theorem dX2_next_1 : decode cX2_next 1 = .ok (.getfield 28, 3) := by decide +kernel
theorem dX2_next_4 : decode cX2_next 4 = .ok (.aload_n 0, 1) := by decide +kernel
theorem dX2_next_5 : decode cX2_next 5 = .ok (.getfield 24, 3) := by decide +kernel
theorem dX2_next_8 : decode cX2_next 8 = .ok (.if_icmp .ge 10, 3) := by decide +kernel
theorem dX2_next_11 : decode cX2_next 11 = .ok (.aload_n 0, 1) := by decide +kernel
theorem dX2_next_12 : decode cX2_next 12 = .ok (.getfield 28, 3) := by decide +kernel
theorem dX2_next_15 : decode cX2_next 15 = .ok (.goto 5, 3) := by decide +kernel
theorem dX2_next_18 : decode cX2_next 18 = .ok (.bipush (-6), 2) := by decide +kernel
theorem dX2_next_20 : decode cX2_next 20 = .ok (.ireturn, 1) := by decide +kernel
theorem dX2_nextIsLast_0 : decode cX2_nextIsLast 0 = .ok (.aload_n 0, 1) := by decide +kernel
theorem dX2_nextIsLast_1 : decode cX2_nextIsLast 1 = .ok (.getfield 24, 3) := by decide +kernel
theorem dX2_nextIsLast_4 : decode cX2_nextIsLast 4 = .ok (.ifCond .le 20, 3) := by decide +kernel
theorem dX2_nextIsLast_7 : decode cX2_nextIsLast 7 = .ok (.aload_n 0, 1) := by decide +kernel
theorem dX2_nextIsLast_8 : decode cX2_nextIsLast 8 = .ok (.getfield 28, 3) := by decide +kernel
theorem dX2_nextIsLast_11 : decode cX2_nextIsLast 11 = .ok (.aload_n 0, 1) := by decide +kernel
theorem dX2_nextIsLast_12 : decode cX2_nextIsLast 12 = .ok (.getfield 24, 3) := by decide +kernel
theorem dX2_nextIsLast_15 : decode cX2_nextIsLast 15 = .ok (.iconst 1, 1) := by decide +kernel
theorem dX2_nextIsLast_16 : decode cX2_nextIsLast 16 = .ok (.isub, 1) := by decide +kernel
theorem dX2_nextIsLast_17 : decode cX2_nextIsLast 17 = .ok (.if_icmp .ne 7, 3) := by decide +kernel
theorem dX2_nextIsLast_20 : decode cX2_nextIsLast 20 = .ok (.iconst 1, 1) := by decide +kernel
theorem dX2_nextIsLast_21 : decode cX2_nextIsLast 21 = .ok (.goto 4, 3) := by decide +kernel
theorem dX2_nextIsLast_24 : decode cX2_nextIsLast 24 = .ok (.iconst 0, 1) := by decide +kernel
theorem dX2_nextIsLast_25 : decode cX2_nextIsLast 25 = .ok (.ireturn, 1) := by decide +kernel
theorem dX2_nextIsForSale_0 : decode cX2_nextIsForSale 0 = .ok (.aload_n 0, 1) := by decide +kernel
theorem dX2_nextIsForSale_1 : decode cX2_nextIsForSale 1 = .ok (.getfield 28, 3) := by decide +kernel
theorem dX2_nextIsForSale_4 : decode cX2_nextIsForSale 4 = .ok (.aload_n 0, 1) := by decide +kernel
theorem dX2_nextIsForSale_5 : decode cX2_nextIsForSale 5 = .ok (.getfield 24, 3) := by decide +kernel
theorem dX2_nextIsForSale_8 : decode cX2_nextIsForSale 8 = .ok (.iconst 1, 1) := by decide +kernel
theorem dX2_nextIsForSale_9 : decode cX2_nextIsForSale 9 = .ok (.isub, 1) := by decide +kernel
theorem dX2_nextIsForSale_10 : decode cX2_nextIsForSale 10 = .ok (.if_icmp .ge 7, 3) := by decide +kernel
theorem dX2_nextIsForSale_13 : decode cX2_nextIsForSale 13 = .ok (.iconst 1, 1) := by decide +kernel
theorem dX2_nextIsForSale_14 : decode cX2_nextIsForSale 14 = .ok (.goto 4, 3) := by decide +kernel
theorem dX2_nextIsForSale_17 : decode cX2_nextIsForSale 17 = .ok (.iconst 0, 1) := by decide +kernel
theorem dX2_nextIsForSale_18 : decode cX2_nextIsForSale 18 = .ok (.ireturn, 1) := by decide +kernel
theorem dX2_close_0 : decode cX2_close 0 = .ok (.aload_n 0, 1) := by decide +kernel
theorem dX2_close_1 : decode cX2_close 1 = .ok (.getfield 28, 3) := by decide +kernel
theorem dX2_close_4 : decode cX2_close 4 = .ok (.ifCond .lt 14, 3) := by decide +kernel
theorem dX2_close_7 : decode cX2_close 7 = .ok (.aload_n 0, 1) := by decide +kernel
theorem dX2_close_8 : decode cX2_close 8 = .ok (.getfield 28, 3) := by decide +kernel
theorem dX2_close_11 : decode cX2_close 11 = .ok (.aload_n 0, 1) := by decide +kernel
theorem dX2_close_12 : decode cX2_close 12 = .ok (.getfield 24, 3) := by decide +kernel
theorem dX2_close_15 : decode cX2_close 15 = .ok (.if_icmp .lt 4, 3) := by decide +kernel
theorem dX2_close_18 : decode cX2_close 18 = .ok (.return_, 1) := by decide +kernel
theorem dX2_close_19 : decode cX2_close 19 = .ok (.aload_n 0, 1) := by decide +kernel
theorem dX2_close_20 : decode cX2_close 20 = .ok (.getfield 18, 3) := by decide +kernel
theorem dX2_close_23 : decode cX2_close 23 = .ok (.aload_n 0, 1) := by decide +kernel
theorem dX2_close_24 : decode cX2_close 24 = .ok (.getfield 28, 3) := by decide +kernel
theorem dX2_close_27 : decode cX2_close 27 = .ok (.iload_n 1, 1) := by decide +kernel
theorem dX2_close_28 : decode cX2_close 28 = .ok (.iastore, 1) := by decide +kernel
theorem dX2_close_29 : decode cX2_close 29 = .ok (.aload_n 0, 1) := by decide +kernel
theorem dX2_close_30 : decode cX2_close 30 = .ok (.getfield 21, 3) := by decide +kernel
theorem dX2_close_33 : decode cX2_close 33 = .ok (.aload_n 0, 1) := by decide +kernel
theorem dX2_close_34 : decode cX2_close 34 = .ok (.getfield 28, 3) := by decide +kernel
theorem dX2_close_37 : decode cX2_close 37 = .ok (.iload_n 2, 1) := by decide +kernel
theorem dX2_close_38 : decode cX2_close 38 = .ok (.iastore, 1) := by decide +kernel
theorem dX2_close_39 : decode cX2_close 39 = .ok (.aload_n 0, 1) := by decide +kernel
theorem dX2_close_40 : decode cX2_close 40 = .ok (.dup, 1) := by decide +kernel
theorem dX2_close_41 : decode cX2_close 41 = .ok (.getfield 28, 3) := by decide +kernel
theorem dX2_close_44 : decode cX2_close 44 = .ok (.iconst 1, 1) := by decide +kernel
theorem dX2_close_45 : decode cX2_close 45 = .ok (.iadd, 1) := by decide +kernel
theorem dX2_close_46 : decode cX2_close 46 = .ok (.putfield 28, 3) := by decide +kernel
theorem dX2_close_49 : decode cX2_close 49 = .ok (.return_, 1) := by decide +kernel
theorem dX2_colourOf_0 : decode cX2_colourOf 0 = .ok (.aload_n 0, 1) := by decide +kernel
theorem dX2_colourOf_1 : decode cX2_colourOf 1 = .ok (.iload_n 1, 1) := by decide +kernel
theorem dX2_colourOf_2 : decode cX2_colourOf 2 = .ok (.invokevirtual 39, 3) := by decide +kernel
theorem dX2_colourOf_5 : decode cX2_colourOf 5 = .ok (.ifCond .eq 12, 3) := by decide +kernel
theorem dX2_colourOf_8 : decode cX2_colourOf 8 = .ok (.aload_n 0, 1) := by decide +kernel
theorem dX2_colourOf_9 : decode cX2_colourOf 9 = .ok (.getfield 9, 3) := by decide +kernel
theorem dX2_colourOf_12 : decode cX2_colourOf 12 = .ok (.iload_n 1, 1) := by decide +kernel
theorem dX2_colourOf_13 : decode cX2_colourOf 13 = .ok (.iaload, 1) := by decide +kernel
theorem dX2_colourOf_14 : decode cX2_colourOf 14 = .ok (.goto 5, 3) := by decide +kernel
theorem dX2_colourOf_17 : decode cX2_colourOf 17 = .ok (.bipush (-6), 2) := by decide +kernel
theorem dX2_colourOf_19 : decode cX2_colourOf 19 = .ok (.ireturn, 1) := by decide +kernel
theorem dX2_worthOf_0 : decode cX2_worthOf 0 = .ok (.aload_n 0, 1) := by decide +kernel
theorem dX2_worthOf_1 : decode cX2_worthOf 1 = .ok (.iload_n 1, 1) := by decide +kernel
theorem dX2_worthOf_2 : decode cX2_worthOf 2 = .ok (.invokevirtual 39, 3) := by decide +kernel
theorem dX2_worthOf_5 : decode cX2_worthOf 5 = .ok (.ifCond .eq 12, 3) := by decide +kernel
theorem dX2_worthOf_8 : decode cX2_worthOf 8 = .ok (.aload_n 0, 1) := by decide +kernel
theorem dX2_worthOf_9 : decode cX2_worthOf 9 = .ok (.getfield 15, 3) := by decide +kernel
theorem dX2_worthOf_12 : decode cX2_worthOf 12 = .ok (.iload_n 1, 1) := by decide +kernel
theorem dX2_worthOf_13 : decode cX2_worthOf 13 = .ok (.iaload, 1) := by decide +kernel
theorem dX2_worthOf_14 : decode cX2_worthOf 14 = .ok (.goto 4, 3) := by decide +kernel
theorem dX2_worthOf_17 : decode cX2_worthOf 17 = .ok (.iconst 0, 1) := by decide +kernel
theorem dX2_worthOf_18 : decode cX2_worthOf 18 = .ok (.ireturn, 1) := by decide +kernel
theorem dX2_ownersOf_0 : decode cX2_ownersOf 0 = .ok (.aload_n 0, 1) := by decide +kernel
theorem dX2_ownersOf_1 : decode cX2_ownersOf 1 = .ok (.iload_n 1, 1) := by decide +kernel
theorem dX2_ownersOf_2 : decode cX2_ownersOf 2 = .ok (.invokevirtual 39, 3) := by decide +kernel
theorem dX2_ownersOf_5 : decode cX2_ownersOf 5 = .ok (.ifCond .eq 12, 3) := by decide +kernel
theorem dX2_ownersOf_8 : decode cX2_ownersOf 8 = .ok (.aload_n 0, 1) := by decide +kernel
theorem dX2_ownersOf_9 : decode cX2_ownersOf 9 = .ok (.getfield 18, 3) := by decide +kernel
theorem dX2_ownersOf_12 : decode cX2_ownersOf 12 = .ok (.iload_n 1, 1) := by decide +kernel
theorem dX2_ownersOf_13 : decode cX2_ownersOf 13 = .ok (.iaload, 1) := by decide +kernel
theorem dX2_ownersOf_14 : decode cX2_ownersOf 14 = .ok (.goto 4, 3) := by decide +kernel
theorem dX2_ownersOf_17 : decode cX2_ownersOf 17 = .ok (.iconst 0, 1) := by decide +kernel
theorem dX2_ownersOf_18 : decode cX2_ownersOf 18 = .ok (.ireturn, 1) := by decide +kernel
theorem dX2_priceOf_0 : decode cX2_priceOf 0 = .ok (.aload_n 0, 1) := by decide +kernel
theorem dX2_priceOf_1 : decode cX2_priceOf 1 = .ok (.iload_n 1, 1) := by decide +kernel
theorem dX2_priceOf_2 : decode cX2_priceOf 2 = .ok (.invokevirtual 39, 3) := by decide +kernel
theorem dX2_priceOf_5 : decode cX2_priceOf 5 = .ok (.ifCond .eq 21, 3) := by decide +kernel
theorem dX2_priceOf_8 : decode cX2_priceOf 8 = .ok (.aload_n 0, 1) := by decide +kernel
theorem dX2_priceOf_9 : decode cX2_priceOf 9 = .ok (.getfield 18, 3) := by decide +kernel
theorem dX2_priceOf_12 : decode cX2_priceOf 12 = .ok (.iload_n 1, 1) := by decide +kernel
theorem dX2_priceOf_13 : decode cX2_priceOf 13 = .ok (.iaload, 1) := by decide +kernel
theorem dX2_priceOf_14 : decode cX2_priceOf 14 = .ok (.ifCond .eq 12, 3) := by decide +kernel
theorem dX2_priceOf_17 : decode cX2_priceOf 17 = .ok (.aload_n 0, 1) := by decide +kernel
theorem dX2_priceOf_18 : decode cX2_priceOf 18 = .ok (.getfield 21, 3) := by decide +kernel
theorem dX2_priceOf_21 : decode cX2_priceOf 21 = .ok (.iload_n 1, 1) := by decide +kernel
theorem dX2_priceOf_22 : decode cX2_priceOf 22 = .ok (.iaload, 1) := by decide +kernel
theorem dX2_priceOf_23 : decode cX2_priceOf 23 = .ok (.goto 5, 3) := by decide +kernel
theorem dX2_priceOf_26 : decode cX2_priceOf 26 = .ok (.bipush (-6), 2) := by decide +kernel
theorem dX2_priceOf_28 : decode cX2_priceOf 28 = .ok (.ireturn, 1) := by decide +kernel
theorem dX2_stateOf_0 : decode cX2_stateOf 0 = .ok (.iload_n 1, 1) := by decide +kernel
theorem dX2_stateOf_1 : decode cX2_stateOf 1 = .ok (.aload_n 0, 1) := by decide +kernel
theorem dX2_stateOf_2 : decode cX2_stateOf 2 = .ok (.getfield 28, 3) := by decide +kernel
theorem dX2_stateOf_5 : decode cX2_stateOf 5 = .ok (.if_icmp .lt 5, 3) := by decide +kernel
theorem dX2_stateOf_8 : decode cX2_stateOf 8 = .ok (.iconst 0, 1) := by decide +kernel
theorem dX2_stateOf_9 : decode cX2_stateOf 9 = .ok (.ireturn, 1) := by decide +kernel
theorem dX2_stateOf_10 : decode cX2_stateOf 10 = .ok (.aload_n 0, 1) := by decide +kernel
theorem dX2_stateOf_11 : decode cX2_stateOf 11 = .ok (.iload_n 1, 1) := by decide +kernel
theorem dX2_stateOf_12 : decode cX2_stateOf 12 = .ok (.invokevirtual 43, 3) := by decide +kernel
theorem dX2_stateOf_15 : decode cX2_stateOf 15 = .ok (.ifCond .eq 7, 3) := by decide +kernel
theorem dX2_stateOf_18 : decode cX2_stateOf 18 = .ok (.iconst 1, 1) := by decide +kernel
theorem dX2_stateOf_19 : decode cX2_stateOf 19 = .ok (.goto 4, 3) := by decide +kernel
theorem dX2_stateOf_22 : decode cX2_stateOf 22 = .ok (.iconst 2, 1) := by decide +kernel
theorem dX2_stateOf_23 : decode cX2_stateOf 23 = .ok (.ireturn, 1) := by decide +kernel
theorem dX2_owns_0 : decode cX2_owns 0 = .ok (.iload_n 2, 1) := by decide +kernel
theorem dX2_owns_1 : decode cX2_owns 1 = .ok (.ifCond .lt 29, 3) := by decide +kernel
theorem dX2_owns_4 : decode cX2_owns 4 = .ok (.iload_n 2, 1) := by decide +kernel
theorem dX2_owns_5 : decode cX2_owns 5 = .ok (.aload_n 0, 1) := by decide +kernel
theorem dX2_owns_6 : decode cX2_owns 6 = .ok (.getfield 24, 3) := by decide +kernel
theorem dX2_owns_9 : decode cX2_owns 9 = .ok (.if_icmp .ge 21, 3) := by decide +kernel
theorem dX2_owns_12 : decode cX2_owns 12 = .ok (.aload_n 0, 1) := by decide +kernel
theorem dX2_owns_13 : decode cX2_owns 13 = .ok (.getfield 18, 3) := by decide +kernel
theorem dX2_owns_16 : decode cX2_owns 16 = .ok (.iload_n 2, 1) := by decide +kernel
theorem dX2_owns_17 : decode cX2_owns 17 = .ok (.iaload, 1) := by decide +kernel
theorem dX2_owns_18 : decode cX2_owns 18 = .ok (.iload_n 1, 1) := by decide +kernel
theorem dX2_owns_19 : decode cX2_owns 19 = .ok (.ishr, 1) := by decide +kernel
theorem dX2_owns_20 : decode cX2_owns 20 = .ok (.iconst 1, 1) := by decide +kernel
theorem dX2_owns_21 : decode cX2_owns 21 = .ok (.iand, 1) := by decide +kernel
theorem dX2_owns_22 : decode cX2_owns 22 = .ok (.iconst 1, 1) := by decide +kernel
theorem dX2_owns_23 : decode cX2_owns 23 = .ok (.if_icmp .ne 7, 3) := by decide +kernel
theorem dX2_owns_26 : decode cX2_owns 26 = .ok (.iconst 1, 1) := by decide +kernel
theorem dX2_owns_27 : decode cX2_owns 27 = .ok (.goto 4, 3) := by decide +kernel
theorem dX2_owns_30 : decode cX2_owns 30 = .ok (.iconst 0, 1) := by decide +kernel
theorem dX2_owns_31 : decode cX2_owns 31 = .ok (.ireturn, 1) := by decide +kernel
theorem dX2_ownedBy_0 : decode cX2_ownedBy 0 = .ok (.iconst 0, 1) := by decide +kernel
theorem dX2_ownedBy_1 : decode cX2_ownedBy 1 = .ok (.istore_n 2, 1) := by decide +kernel
theorem dX2_ownedBy_2 : decode cX2_ownedBy 2 = .ok (.iconst 0, 1) := by decide +kernel
theorem dX2_ownedBy_3 : decode cX2_ownedBy 3 = .ok (.istore_n 3, 1) := by decide +kernel
theorem dX2_ownedBy_4 : decode cX2_ownedBy 4 = .ok (.iload_n 3, 1) := by decide +kernel
theorem dX2_ownedBy_5 : decode cX2_ownedBy 5 = .ok (.aload_n 0, 1) := by decide +kernel
theorem dX2_ownedBy_6 : decode cX2_ownedBy 6 = .ok (.getfield 28, 3) := by decide +kernel
theorem dX2_ownedBy_9 : decode cX2_ownedBy 9 = .ok (.if_icmp .ge 24, 3) := by decide +kernel
theorem dX2_ownedBy_12 : decode cX2_ownedBy 12 = .ok (.aload_n 0, 1) := by decide +kernel
theorem dX2_ownedBy_13 : decode cX2_ownedBy 13 = .ok (.iload_n 1, 1) := by decide +kernel
theorem dX2_ownedBy_14 : decode cX2_ownedBy 14 = .ok (.iload_n 3, 1) := by decide +kernel
theorem dX2_ownedBy_15 : decode cX2_ownedBy 15 = .ok (.invokevirtual 47, 3) := by decide +kernel
theorem dX2_ownedBy_18 : decode cX2_ownedBy 18 = .ok (.ifCond .eq 9, 3) := by decide +kernel
theorem dX2_ownedBy_21 : decode cX2_ownedBy 21 = .ok (.iload_n 2, 1) := by decide +kernel
theorem dX2_ownedBy_22 : decode cX2_ownedBy 22 = .ok (.iconst 1, 1) := by decide +kernel
theorem dX2_ownedBy_23 : decode cX2_ownedBy 23 = .ok (.iload_n 3, 1) := by decide +kernel
theorem dX2_ownedBy_24 : decode cX2_ownedBy 24 = .ok (.ishl, 1) := by decide +kernel
theorem dX2_ownedBy_25 : decode cX2_ownedBy 25 = .ok (.ior, 1) := by decide +kernel
theorem dX2_ownedBy_26 : decode cX2_ownedBy 26 = .ok (.istore_n 2, 1) := by decide +kernel
theorem dX2_ownedBy_27 : decode cX2_ownedBy 27 = .ok (.iinc 3 1, 3) := by decide +kernel
theorem dX2_ownedBy_30 : decode cX2_ownedBy 30 = .ok (.goto (-26), 3) := by decide +kernel
theorem dX2_ownedBy_33 : decode cX2_ownedBy 33 = .ok (.iload_n 2, 1) := by decide +kernel
theorem dX2_ownedBy_34 : decode cX2_ownedBy 34 = .ok (.ireturn, 1) := by decide +kernel
theorem dX2_valueFor_0 : decode cX2_valueFor 0 = .ok (.iconst 0, 1) := by decide +kernel
theorem dX2_valueFor_1 : decode cX2_valueFor 1 = .ok (.istore 4, 2) := by decide +kernel
theorem dX2_valueFor_3 : decode cX2_valueFor 3 = .ok (.iconst 0, 1) := by decide +kernel
theorem dX2_valueFor_4 : decode cX2_valueFor 4 = .ok (.istore 5, 2) := by decide +kernel
theorem dX2_valueFor_6 : decode cX2_valueFor 6 = .ok (.iconst 0, 1) := by decide +kernel
theorem dX2_valueFor_7 : decode cX2_valueFor 7 = .ok (.istore 6, 2) := by decide +kernel
theorem dX2_valueFor_9 : decode cX2_valueFor 9 = .ok (.iload 6, 2) := by decide +kernel
theorem dX2_valueFor_11 : decode cX2_valueFor 11 = .ok (.aload_n 0, 1) := by decide +kernel
theorem dX2_valueFor_12 : decode cX2_valueFor 12 = .ok (.getfield 28, 3) := by decide +kernel
theorem dX2_valueFor_15 : decode cX2_valueFor 15 = .ok (.if_icmp .ge 30, 3) := by decide +kernel
theorem dX2_valueFor_18 : decode cX2_valueFor 18 = .ok (.aload_n 0, 1) := by decide +kernel
theorem dX2_valueFor_19 : decode cX2_valueFor 19 = .ok (.iload_n 1, 1) := by decide +kernel
theorem dX2_valueFor_20 : decode cX2_valueFor 20 = .ok (.iload 6, 2) := by decide +kernel
theorem dX2_valueFor_22 : decode cX2_valueFor 22 = .ok (.invokevirtual 47, 3) := by decide +kernel
theorem dX2_valueFor_25 : decode cX2_valueFor 25 = .ok (.ifCond .eq 14, 3) := by decide +kernel
theorem dX2_valueFor_28 : decode cX2_valueFor 28 = .ok (.iload 4, 2) := by decide +kernel
theorem dX2_valueFor_30 : decode cX2_valueFor 30 = .ok (.aload_n 0, 1) := by decide +kernel
theorem dX2_valueFor_31 : decode cX2_valueFor 31 = .ok (.iload 6, 2) := by decide +kernel
theorem dX2_valueFor_33 : decode cX2_valueFor 33 = .ok (.invokevirtual 51, 3) := by decide +kernel
theorem dX2_valueFor_36 : decode cX2_valueFor 36 = .ok (.iadd, 1) := by decide +kernel
theorem dX2_valueFor_37 : decode cX2_valueFor 37 = .ok (.istore 4, 2) := by decide +kernel
theorem dX2_valueFor_39 : decode cX2_valueFor 39 = .ok (.iinc 6 1, 3) := by decide +kernel
theorem dX2_valueFor_42 : decode cX2_valueFor 42 = .ok (.goto (-33), 3) := by decide +kernel
theorem dX2_valueFor_45 : decode cX2_valueFor 45 = .ok (.iconst 0, 1) := by decide +kernel
theorem dX2_valueFor_46 : decode cX2_valueFor 46 = .ok (.istore 6, 2) := by decide +kernel
theorem dX2_valueFor_48 : decode cX2_valueFor 48 = .ok (.iload 6, 2) := by decide +kernel
theorem dX2_valueFor_50 : decode cX2_valueFor 50 = .ok (.bipush 6, 2) := by decide +kernel
theorem dX2_valueFor_52 : decode cX2_valueFor 52 = .ok (.if_icmp .ge 42, 3) := by decide +kernel
theorem dX2_valueFor_55 : decode cX2_valueFor 55 = .ok (.aload_n 0, 1) := by decide +kernel
theorem dX2_valueFor_56 : decode cX2_valueFor 56 = .ok (.iload_n 1, 1) := by decide +kernel
theorem dX2_valueFor_57 : decode cX2_valueFor 57 = .ok (.iload 6, 2) := by decide +kernel
theorem dX2_valueFor_59 : decode cX2_valueFor 59 = .ok (.invokevirtual 54, 3) := by decide +kernel
theorem dX2_valueFor_62 : decode cX2_valueFor 62 = .ok (.istore 7, 2) := by decide +kernel
theorem dX2_valueFor_64 : decode cX2_valueFor 64 = .ok (.iload 4, 2) := by decide +kernel
theorem dX2_valueFor_66 : decode cX2_valueFor 66 = .ok (.iload_n 2, 1) := by decide +kernel
theorem dX2_valueFor_67 : decode cX2_valueFor 67 = .ok (.iload 7, 2) := by decide +kernel
theorem dX2_valueFor_69 : decode cX2_valueFor 69 = .ok (.imul, 1) := by decide +kernel
theorem dX2_valueFor_70 : decode cX2_valueFor 70 = .ok (.iload 7, 2) := by decide +kernel
theorem dX2_valueFor_72 : decode cX2_valueFor 72 = .ok (.iconst 1, 1) := by decide +kernel
theorem dX2_valueFor_73 : decode cX2_valueFor 73 = .ok (.isub, 1) := by decide +kernel
theorem dX2_valueFor_74 : decode cX2_valueFor 74 = .ok (.imul, 1) := by decide +kernel
theorem dX2_valueFor_75 : decode cX2_valueFor 75 = .ok (.iconst 2, 1) := by decide +kernel
theorem dX2_valueFor_76 : decode cX2_valueFor 76 = .ok (.idiv, 1) := by decide +kernel
theorem dX2_valueFor_77 : decode cX2_valueFor 77 = .ok (.iadd, 1) := by decide +kernel
theorem dX2_valueFor_78 : decode cX2_valueFor 78 = .ok (.istore 4, 2) := by decide +kernel
theorem dX2_valueFor_80 : decode cX2_valueFor 80 = .ok (.iload 7, 2) := by decide +kernel
theorem dX2_valueFor_82 : decode cX2_valueFor 82 = .ok (.ifCond .le 6, 3) := by decide +kernel
theorem dX2_valueFor_85 : decode cX2_valueFor 85 = .ok (.iinc 5 1, 3) := by decide +kernel
theorem dX2_valueFor_88 : decode cX2_valueFor 88 = .ok (.iinc 6 1, 3) := by decide +kernel
theorem dX2_valueFor_91 : decode cX2_valueFor 91 = .ok (.goto (-43), 3) := by decide +kernel
theorem dX2_valueFor_94 : decode cX2_valueFor 94 = .ok (.iload 5, 2) := by decide +kernel
theorem dX2_valueFor_96 : decode cX2_valueFor 96 = .ok (.iconst 4, 1) := by decide +kernel
theorem dX2_valueFor_97 : decode cX2_valueFor 97 = .ok (.if_icmp .lt 10, 3) := by decide +kernel
theorem dX2_valueFor_100 : decode cX2_valueFor 100 = .ok (.iload 4, 2) := by decide +kernel
theorem dX2_valueFor_102 : decode cX2_valueFor 102 = .ok (.iload_n 3, 1) := by decide +kernel
theorem dX2_valueFor_103 : decode cX2_valueFor 103 = .ok (.iadd, 1) := by decide +kernel
theorem dX2_valueFor_104 : decode cX2_valueFor 104 = .ok (.goto 5, 3) := by decide +kernel
theorem dX2_valueFor_107 : decode cX2_valueFor 107 = .ok (.iload 4, 2) := by decide +kernel
theorem dX2_valueFor_109 : decode cX2_valueFor 109 = .ok (.ireturn, 1) := by decide +kernel
theorem dX2_shareOf_0 : decode cX2_shareOf 0 = .ok (.aload_n 0, 1) := by decide +kernel
theorem dX2_shareOf_1 : decode cX2_shareOf 1 = .ok (.iload_n 1, 1) := by decide +kernel
theorem dX2_shareOf_2 : decode cX2_shareOf 2 = .ok (.invokevirtual 39, 3) := by decide +kernel
theorem dX2_shareOf_5 : decode cX2_shareOf 5 = .ok (.ifCond .eq 15, 3) := by decide +kernel
theorem dX2_shareOf_8 : decode cX2_shareOf 8 = .ok (.aload_n 0, 1) := by decide +kernel
theorem dX2_shareOf_9 : decode cX2_shareOf 9 = .ok (.getfield 18, 3) := by decide +kernel
theorem dX2_shareOf_12 : decode cX2_shareOf 12 = .ok (.iload_n 1, 1) := by decide +kernel
theorem dX2_shareOf_13 : decode cX2_shareOf 13 = .ok (.iaload, 1) := by decide +kernel
theorem dX2_shareOf_14 : decode cX2_shareOf 14 = .ok (.invokestatic 58, 3) := by decide +kernel
theorem dX2_shareOf_17 : decode cX2_shareOf 17 = .ok (.goto 4, 3) := by decide +kernel
theorem dX2_shareOf_20 : decode cX2_shareOf 20 = .ok (.iconst 0, 1) := by decide +kernel
theorem dX2_shareOf_21 : decode cX2_shareOf 21 = .ok (.istore_n 2, 1) := by decide +kernel
theorem dX2_shareOf_22 : decode cX2_shareOf 22 = .ok (.iload_n 2, 1) := by decide +kernel
theorem dX2_shareOf_23 : decode cX2_shareOf 23 = .ok (.ifCond .le 14, 3) := by decide +kernel
theorem dX2_shareOf_26 : decode cX2_shareOf 26 = .ok (.aload_n 0, 1) := by decide +kernel
theorem dX2_shareOf_27 : decode cX2_shareOf 27 = .ok (.getfield 15, 3) := by decide +kernel
theorem dX2_shareOf_30 : decode cX2_shareOf 30 = .ok (.iload_n 1, 1) := by decide +kernel
theorem dX2_shareOf_31 : decode cX2_shareOf 31 = .ok (.iaload, 1) := by decide +kernel
theorem dX2_shareOf_32 : decode cX2_shareOf 32 = .ok (.iload_n 2, 1) := by decide +kernel
theorem dX2_shareOf_33 : decode cX2_shareOf 33 = .ok (.idiv, 1) := by decide +kernel
theorem dX2_shareOf_34 : decode cX2_shareOf 34 = .ok (.goto 4, 3) := by decide +kernel
theorem dX2_shareOf_37 : decode cX2_shareOf 37 = .ok (.iconst 0, 1) := by decide +kernel
theorem dX2_shareOf_38 : decode cX2_shareOf 38 = .ok (.ireturn, 1) := by decide +kernel
theorem dX2_ownedOfColour_0 : decode cX2_ownedOfColour 0 = .ok (.iconst 0, 1) := by decide +kernel
theorem dX2_ownedOfColour_1 : decode cX2_ownedOfColour 1 = .ok (.istore_n 3, 1) := by decide +kernel
theorem dX2_ownedOfColour_2 : decode cX2_ownedOfColour 2 = .ok (.iconst 0, 1) := by decide +kernel
theorem dX2_ownedOfColour_3 : decode cX2_ownedOfColour 3 = .ok (.istore 4, 2) := by decide +kernel
theorem dX2_ownedOfColour_5 : decode cX2_ownedOfColour 5 = .ok (.iload 4, 2) := by decide +kernel
theorem dX2_ownedOfColour_7 : decode cX2_ownedOfColour 7 = .ok (.aload_n 0, 1) := by decide +kernel
theorem dX2_ownedOfColour_8 : decode cX2_ownedOfColour 8 = .ok (.getfield 28, 3) := by decide +kernel
theorem dX2_ownedOfColour_11 : decode cX2_ownedOfColour 11 = .ok (.if_icmp .ge 33, 3) := by decide +kernel
theorem dX2_ownedOfColour_14 : decode cX2_ownedOfColour 14 = .ok (.aload_n 0, 1) := by decide +kernel
theorem dX2_ownedOfColour_15 : decode cX2_ownedOfColour 15 = .ok (.iload_n 1, 1) := by decide +kernel
theorem dX2_ownedOfColour_16 : decode cX2_ownedOfColour 16 = .ok (.iload 4, 2) := by decide +kernel
theorem dX2_ownedOfColour_18 : decode cX2_ownedOfColour 18 = .ok (.invokevirtual 47, 3) := by decide +kernel
theorem dX2_ownedOfColour_21 : decode cX2_ownedOfColour 21 = .ok (.ifCond .eq 17, 3) := by decide +kernel
theorem dX2_ownedOfColour_24 : decode cX2_ownedOfColour 24 = .ok (.aload_n 0, 1) := by decide +kernel
theorem dX2_ownedOfColour_25 : decode cX2_ownedOfColour 25 = .ok (.getfield 9, 3) := by decide +kernel
theorem dX2_ownedOfColour_28 : decode cX2_ownedOfColour 28 = .ok (.iload 4, 2) := by decide +kernel
theorem dX2_ownedOfColour_30 : decode cX2_ownedOfColour 30 = .ok (.iaload, 1) := by decide +kernel
theorem dX2_ownedOfColour_31 : decode cX2_ownedOfColour 31 = .ok (.iload_n 2, 1) := by decide +kernel
theorem dX2_ownedOfColour_32 : decode cX2_ownedOfColour 32 = .ok (.if_icmp .ne 6, 3) := by decide +kernel
theorem dX2_ownedOfColour_35 : decode cX2_ownedOfColour 35 = .ok (.iinc 3 1, 3) := by decide +kernel
theorem dX2_ownedOfColour_38 : decode cX2_ownedOfColour 38 = .ok (.iinc 4 1, 3) := by decide +kernel
theorem dX2_ownedOfColour_41 : decode cX2_ownedOfColour 41 = .ok (.goto (-36), 3) := by decide +kernel
theorem dX2_ownedOfColour_44 : decode cX2_ownedOfColour 44 = .ok (.iload_n 3, 1) := by decide +kernel
theorem dX2_ownedOfColour_45 : decode cX2_ownedOfColour 45 = .ok (.ireturn, 1) := by decide +kernel
theorem dX2_gainFor_0 : decode cX2_gainFor 0 = .ok (.aload_n 0, 1) := by decide +kernel
theorem dX2_gainFor_1 : decode cX2_gainFor 1 = .ok (.aload_n 0, 1) := by decide +kernel
theorem dX2_gainFor_2 : decode cX2_gainFor 2 = .ok (.getfield 28, 3) := by decide +kernel
theorem dX2_gainFor_5 : decode cX2_gainFor 5 = .ok (.invokevirtual 39, 3) := by decide +kernel
theorem dX2_gainFor_8 : decode cX2_gainFor 8 = .ok (.ifCond .ne 5, 3) := by decide +kernel
theorem dX2_gainFor_11 : decode cX2_gainFor 11 = .ok (.iconst 0, 1) := by decide +kernel
theorem dX2_gainFor_12 : decode cX2_gainFor 12 = .ok (.ireturn, 1) := by decide +kernel
theorem dX2_gainFor_13 : decode cX2_gainFor 13 = .ok (.iconst 0, 1) := by decide +kernel
theorem dX2_gainFor_14 : decode cX2_gainFor 14 = .ok (.istore 4, 2) := by decide +kernel
theorem dX2_gainFor_16 : decode cX2_gainFor 16 = .ok (.iconst 0, 1) := by decide +kernel
theorem dX2_gainFor_17 : decode cX2_gainFor 17 = .ok (.istore 5, 2) := by decide +kernel
theorem dX2_gainFor_19 : decode cX2_gainFor 19 = .ok (.iconst 0, 1) := by decide +kernel
theorem dX2_gainFor_20 : decode cX2_gainFor 20 = .ok (.istore 6, 2) := by decide +kernel
theorem dX2_gainFor_22 : decode cX2_gainFor 22 = .ok (.iload 6, 2) := by decide +kernel
theorem dX2_gainFor_24 : decode cX2_gainFor 24 = .ok (.aload_n 0, 1) := by decide +kernel
theorem dX2_gainFor_25 : decode cX2_gainFor 25 = .ok (.getfield 28, 3) := by decide +kernel
theorem dX2_gainFor_28 : decode cX2_gainFor 28 = .ok (.if_icmp .ge 62, 3) := by decide +kernel
theorem dX2_gainFor_31 : decode cX2_gainFor 31 = .ok (.aload_n 0, 1) := by decide +kernel
theorem dX2_gainFor_32 : decode cX2_gainFor 32 = .ok (.getfield 18, 3) := by decide +kernel
theorem dX2_gainFor_35 : decode cX2_gainFor 35 = .ok (.iload 6, 2) := by decide +kernel
theorem dX2_gainFor_37 : decode cX2_gainFor 37 = .ok (.iaload, 1) := by decide +kernel
theorem dX2_gainFor_38 : decode cX2_gainFor 38 = .ok (.iload_n 1, 1) := by decide +kernel
theorem dX2_gainFor_39 : decode cX2_gainFor 39 = .ok (.ishr, 1) := by decide +kernel
theorem dX2_gainFor_40 : decode cX2_gainFor 40 = .ok (.iconst 1, 1) := by decide +kernel
theorem dX2_gainFor_41 : decode cX2_gainFor 41 = .ok (.iand, 1) := by decide +kernel
theorem dX2_gainFor_42 : decode cX2_gainFor 42 = .ok (.ifCond .ne 6, 3) := by decide +kernel
theorem dX2_gainFor_45 : decode cX2_gainFor 45 = .ok (.goto 39, 3) := by decide +kernel
theorem dX2_gainFor_48 : decode cX2_gainFor 48 = .ok (.aload_n 0, 1) := by decide +kernel
theorem dX2_gainFor_49 : decode cX2_gainFor 49 = .ok (.getfield 9, 3) := by decide +kernel
theorem dX2_gainFor_52 : decode cX2_gainFor 52 = .ok (.iload 6, 2) := by decide +kernel
theorem dX2_gainFor_54 : decode cX2_gainFor 54 = .ok (.iaload, 1) := by decide +kernel
theorem dX2_gainFor_55 : decode cX2_gainFor 55 = .ok (.aload_n 0, 1) := by decide +kernel
theorem dX2_gainFor_56 : decode cX2_gainFor 56 = .ok (.getfield 9, 3) := by decide +kernel
theorem dX2_gainFor_59 : decode cX2_gainFor 59 = .ok (.aload_n 0, 1) := by decide +kernel
theorem dX2_gainFor_60 : decode cX2_gainFor 60 = .ok (.getfield 28, 3) := by decide +kernel
theorem dX2_gainFor_63 : decode cX2_gainFor 63 = .ok (.iaload, 1) := by decide +kernel
theorem dX2_gainFor_64 : decode cX2_gainFor 64 = .ok (.if_icmp .ne 6, 3) := by decide +kernel
theorem dX2_gainFor_67 : decode cX2_gainFor 67 = .ok (.iinc 4 1, 3) := by decide +kernel
theorem dX2_gainFor_70 : decode cX2_gainFor 70 = .ok (.iload 5, 2) := by decide +kernel
theorem dX2_gainFor_72 : decode cX2_gainFor 72 = .ok (.iconst 1, 1) := by decide +kernel
theorem dX2_gainFor_73 : decode cX2_gainFor 73 = .ok (.aload_n 0, 1) := by decide +kernel
theorem dX2_gainFor_74 : decode cX2_gainFor 74 = .ok (.getfield 9, 3) := by decide +kernel
theorem dX2_gainFor_77 : decode cX2_gainFor 77 = .ok (.iload 6, 2) := by decide +kernel
theorem dX2_gainFor_79 : decode cX2_gainFor 79 = .ok (.iaload, 1) := by decide +kernel
theorem dX2_gainFor_80 : decode cX2_gainFor 80 = .ok (.ishl, 1) := by decide +kernel
theorem dX2_gainFor_81 : decode cX2_gainFor 81 = .ok (.ior, 1) := by decide +kernel
theorem dX2_gainFor_82 : decode cX2_gainFor 82 = .ok (.istore 5, 2) := by decide +kernel
theorem dX2_gainFor_84 : decode cX2_gainFor 84 = .ok (.iinc 6 1, 3) := by decide +kernel
theorem dX2_gainFor_87 : decode cX2_gainFor 87 = .ok (.goto (-65), 3) := by decide +kernel
theorem dX2_gainFor_90 : decode cX2_gainFor 90 = .ok (.iload 4, 2) := by decide +kernel
theorem dX2_gainFor_92 : decode cX2_gainFor 92 = .ok (.ifCond .ne 16, 3) := by decide +kernel
theorem dX2_gainFor_95 : decode cX2_gainFor 95 = .ok (.iload 5, 2) := by decide +kernel
theorem dX2_gainFor_97 : decode cX2_gainFor 97 = .ok (.invokestatic 58, 3) := by decide +kernel
theorem dX2_gainFor_100 : decode cX2_gainFor 100 = .ok (.iconst 3, 1) := by decide +kernel
theorem dX2_gainFor_101 : decode cX2_gainFor 101 = .ok (.if_icmp .ne 7, 3) := by decide +kernel
theorem dX2_gainFor_104 : decode cX2_gainFor 104 = .ok (.iconst 1, 1) := by decide +kernel
theorem dX2_gainFor_105 : decode cX2_gainFor 105 = .ok (.goto 4, 3) := by decide +kernel
theorem dX2_gainFor_108 : decode cX2_gainFor 108 = .ok (.iconst 0, 1) := by decide +kernel
theorem dX2_gainFor_109 : decode cX2_gainFor 109 = .ok (.istore 6, 2) := by decide +kernel
theorem dX2_gainFor_111 : decode cX2_gainFor 111 = .ok (.aload_n 0, 1) := by decide +kernel
theorem dX2_gainFor_112 : decode cX2_gainFor 112 = .ok (.getfield 15, 3) := by decide +kernel
theorem dX2_gainFor_115 : decode cX2_gainFor 115 = .ok (.aload_n 0, 1) := by decide +kernel
theorem dX2_gainFor_116 : decode cX2_gainFor 116 = .ok (.getfield 28, 3) := by decide +kernel
theorem dX2_gainFor_119 : decode cX2_gainFor 119 = .ok (.iaload, 1) := by decide +kernel
theorem dX2_gainFor_120 : decode cX2_gainFor 120 = .ok (.iload_n 2, 1) := by decide +kernel
theorem dX2_gainFor_121 : decode cX2_gainFor 121 = .ok (.iload 4, 2) := by decide +kernel
theorem dX2_gainFor_123 : decode cX2_gainFor 123 = .ok (.imul, 1) := by decide +kernel
theorem dX2_gainFor_124 : decode cX2_gainFor 124 = .ok (.iadd, 1) := by decide +kernel
theorem dX2_gainFor_125 : decode cX2_gainFor 125 = .ok (.iload 6, 2) := by decide +kernel
theorem dX2_gainFor_127 : decode cX2_gainFor 127 = .ok (.ifCond .eq 7, 3) := by decide +kernel
theorem dX2_gainFor_130 : decode cX2_gainFor 130 = .ok (.iload_n 3, 1) := by decide +kernel
theorem dX2_gainFor_131 : decode cX2_gainFor 131 = .ok (.goto 4, 3) := by decide +kernel
theorem dX2_gainFor_134 : decode cX2_gainFor 134 = .ok (.iconst 0, 1) := by decide +kernel
theorem dX2_gainFor_135 : decode cX2_gainFor 135 = .ok (.iadd, 1) := by decide +kernel
theorem dX2_gainFor_136 : decode cX2_gainFor 136 = .ok (.ireturn, 1) := by decide +kernel
theorem dX3_init_0 : decode cX3_init 0 = .ok (.aload_n 0, 1) := by decide +kernel
theorem dX3_init_1 : decode cX3_init 1 = .ok (.invokespecial 3, 3) := by decide +kernel
theorem dX3_init_4 : decode cX3_init 4 = .ok (.aload_n 0, 1) := by decide +kernel
theorem dX3_init_5 : decode cX3_init 5 = .ok (.bipush 60, 2) := by decide +kernel
theorem dX3_init_7 : decode cX3_init 7 = .ok (.newarray .char, 2) := by decide +kernel
theorem dX3_init_9 : decode cX3_init 9 = .ok (.putfield 9, 3) := by decide +kernel
theorem dX3_init_12 : decode cX3_init 12 = .ok (.return_, 1) := by decide +kernel
theorem dX3_append_0 : decode cX3_append 0 = .ok (.aload_n 0, 1) := by decide +kernel
theorem dX3_append_1 : decode cX3_append 1 = .ok (.getfield 15, 3) := by decide +kernel
theorem dX3_append_4 : decode cX3_append 4 = .ok (.bipush 60, 2) := by decide +kernel
theorem dX3_append_6 : decode cX3_append 6 = .ok (.if_icmp .lt 4, 3) := by decide +kernel
theorem dX3_append_9 : decode cX3_append 9 = .ok (.return_, 1) := by decide +kernel
theorem dX3_append_10 : decode cX3_append 10 = .ok (.aload_n 0, 1) := by decide +kernel
theorem dX3_append_11 : decode cX3_append 11 = .ok (.getfield 9, 3) := by decide +kernel
theorem dX3_append_14 : decode cX3_append 14 = .ok (.aload_n 0, 1) := by decide +kernel
theorem dX3_append_15 : decode cX3_append 15 = .ok (.getfield 15, 3) := by decide +kernel
theorem dX3_append_18 : decode cX3_append 18 = .ok (.iload_n 1, 1) := by decide +kernel
theorem dX3_append_19 : decode cX3_append 19 = .ok (.castore, 1) := by decide +kernel
theorem dX3_append_20 : decode cX3_append 20 = .ok (.aload_n 0, 1) := by decide +kernel
theorem dX3_append_21 : decode cX3_append 21 = .ok (.dup, 1) := by decide +kernel
theorem dX3_append_22 : decode cX3_append 22 = .ok (.getfield 15, 3) := by decide +kernel
theorem dX3_append_25 : decode cX3_append 25 = .ok (.iconst 1, 1) := by decide +kernel
theorem dX3_append_26 : decode cX3_append 26 = .ok (.iadd, 1) := by decide +kernel
theorem dX3_append_27 : decode cX3_append 27 = .ok (.putfield 15, 3) := by decide +kernel
theorem dX3_append_30 : decode cX3_append 30 = .ok (.return_, 1) := by decide +kernel
theorem dX3_empty_0 : decode cX3_empty 0 = .ok (.aload_n 0, 1) := by decide +kernel
theorem dX3_empty_1 : decode cX3_empty 1 = .ok (.iconst 0, 1) := by decide +kernel
theorem dX3_empty_2 : decode cX3_empty 2 = .ok (.putfield 15, 3) := by decide +kernel
theorem dX3_empty_5 : decode cX3_empty 5 = .ok (.return_, 1) := by decide +kernel
theorem dX3_toStart_0 : decode cX3_toStart 0 = .ok (.aload_n 0, 1) := by decide +kernel
theorem dX3_toStart_1 : decode cX3_toStart 1 = .ok (.iconst 0, 1) := by decide +kernel
theorem dX3_toStart_2 : decode cX3_toStart 2 = .ok (.putfield 19, 3) := by decide +kernel
theorem dX3_toStart_5 : decode cX3_toStart 5 = .ok (.return_, 1) := by decide +kernel
theorem dX3_firstFault_0 : decode cX3_firstFault 0 = .ok (.aload_n 0, 1) := by decide +kernel
theorem dX3_firstFault_1 : decode cX3_firstFault 1 = .ok (.invokevirtual 22, 3) := by decide +kernel
theorem dX3_firstFault_4 : decode cX3_firstFault 4 = .ok (.aload_n 0, 1) := by decide +kernel
theorem dX3_firstFault_5 : decode cX3_firstFault 5 = .ok (.invokevirtual 25, 3) := by decide +kernel
theorem dX3_firstFault_8 : decode cX3_firstFault 8 = .ok (.istore_n 1, 1) := by decide +kernel
theorem dX3_firstFault_9 : decode cX3_firstFault 9 = .ok (.iconst 1, 1) := by decide +kernel
theorem dX3_firstFault_10 : decode cX3_firstFault 10 = .ok (.istore_n 2, 1) := by decide +kernel
theorem dX3_firstFault_11 : decode cX3_firstFault 11 = .ok (.iload_n 2, 1) := by decide +kernel
theorem dX3_firstFault_12 : decode cX3_firstFault 12 = .ok (.bipush 60, 2) := by decide +kernel
theorem dX3_firstFault_14 : decode cX3_firstFault 14 = .ok (.if_icmp .ge 46, 3) := by decide +kernel
theorem dX3_firstFault_17 : decode cX3_firstFault 17 = .ok (.iload_n 1, 1) := by decide +kernel
theorem dX3_firstFault_18 : decode cX3_firstFault 18 = .ok (.ifCond .eq 42, 3) := by decide +kernel
theorem dX3_firstFault_21 : decode cX3_firstFault 21 = .ok (.aload_n 0, 1) := by decide +kernel
theorem dX3_firstFault_22 : decode cX3_firstFault 22 = .ok (.getfield 19, 3) := by decide +kernel
theorem dX3_firstFault_25 : decode cX3_firstFault 25 = .ok (.aload_n 0, 1) := by decide +kernel
theorem dX3_firstFault_26 : decode cX3_firstFault 26 = .ok (.getfield 15, 3) := by decide +kernel
theorem dX3_firstFault_29 : decode cX3_firstFault 29 = .ok (.if_icmp .ge 31, 3) := by decide +kernel
theorem dX3_firstFault_32 : decode cX3_firstFault 32 = .ok (.aload_n 0, 1) := by decide +kernel
theorem dX3_firstFault_33 : decode cX3_firstFault 33 = .ok (.bipush 44, 2) := by decide +kernel
theorem dX3_firstFault_35 : decode cX3_firstFault 35 = .ok (.invokevirtual 29, 3) := by decide +kernel
theorem dX3_firstFault_38 : decode cX3_firstFault 38 = .ok (.ifCond .eq 14, 3) := by decide +kernel
theorem dX3_firstFault_41 : decode cX3_firstFault 41 = .ok (.aload_n 0, 1) := by decide +kernel
theorem dX3_firstFault_42 : decode cX3_firstFault 42 = .ok (.invokevirtual 25, 3) := by decide +kernel
theorem dX3_firstFault_45 : decode cX3_firstFault 45 = .ok (.ifCond .eq 7, 3) := by decide +kernel
theorem dX3_firstFault_48 : decode cX3_firstFault 48 = .ok (.iconst 1, 1) := by decide +kernel
theorem dX3_firstFault_49 : decode cX3_firstFault 49 = .ok (.goto 4, 3) := by decide +kernel
theorem dX3_firstFault_52 : decode cX3_firstFault 52 = .ok (.iconst 0, 1) := by decide +kernel
theorem dX3_firstFault_53 : decode cX3_firstFault 53 = .ok (.istore_n 1, 1) := by decide +kernel
theorem dX3_firstFault_54 : decode cX3_firstFault 54 = .ok (.iinc 2 1, 3) := by decide +kernel
theorem dX3_firstFault_57 : decode cX3_firstFault 57 = .ok (.goto (-46), 3) := by decide +kernel
theorem dX3_firstFault_60 : decode cX3_firstFault 60 = .ok (.iload_n 1, 1) := by decide +kernel
theorem dX3_firstFault_61 : decode cX3_firstFault 61 = .ok (.ifCond .eq 8, 3) := by decide +kernel
theorem dX3_firstFault_64 : decode cX3_firstFault 64 = .ok (.bipush (-6), 2) := by decide +kernel
theorem dX3_firstFault_66 : decode cX3_firstFault 66 = .ok (.goto 7, 3) := by decide +kernel
theorem dX3_firstFault_69 : decode cX3_firstFault 69 = .ok (.aload_n 0, 1) := by decide +kernel
theorem dX3_firstFault_70 : decode cX3_firstFault 70 = .ok (.getfield 19, 3) := by decide +kernel
theorem dX3_firstFault_73 : decode cX3_firstFault 73 = .ok (.ireturn, 1) := by decide +kernel
theorem dX3_readAct_0 : decode cX3_readAct 0 = .ok (.aload_n 0, 1) := by decide +kernel
theorem dX3_readAct_1 : decode cX3_readAct 1 = .ok (.aload_n 0, 1) := by decide +kernel
theorem dX3_readAct_2 : decode cX3_readAct 2 = .ok (.aload_n 0, 1) := by decide +kernel
theorem dX3_readAct_3 : decode cX3_readAct 3 = .ok (.getfield 19, 3) := by decide +kernel
theorem dX3_readAct_6 : decode cX3_readAct 6 = .ok (.invokevirtual 33, 3) := by decide +kernel
theorem dX3_readAct_9 : decode cX3_readAct 9 = .ok (.putfield 37, 3) := by decide +kernel
theorem dX3_readAct_12 : decode cX3_readAct 12 = .ok (.aload_n 0, 1) := by decide +kernel
theorem dX3_readAct_13 : decode cX3_readAct 13 = .ok (.getfield 37, 3) := by decide +kernel
theorem dX3_readAct_16 : decode cX3_readAct 16 = .ok (.lookupswitch 133 #[(98, 69), (102, 121), (109, 121), (112, 86), (115, 52)], 52) := by decide +kernel
theorem dX3_readAct_68 : decode cX3_readAct 68 = .ok (.aload_n 0, 1) := by decide +kernel
theorem dX3_readAct_69 : decode cX3_readAct 69 = .ok (.dup, 1) := by decide +kernel
theorem dX3_readAct_70 : decode cX3_readAct 70 = .ok (.getfield 19, 3) := by decide +kernel
theorem dX3_readAct_73 : decode cX3_readAct 73 = .ok (.iconst 1, 1) := by decide +kernel
theorem dX3_readAct_74 : decode cX3_readAct 74 = .ok (.iadd, 1) := by decide +kernel
theorem dX3_readAct_75 : decode cX3_readAct 75 = .ok (.putfield 19, 3) := by decide +kernel
theorem dX3_readAct_78 : decode cX3_readAct 78 = .ok (.aload_n 0, 1) := by decide +kernel
theorem dX3_readAct_79 : decode cX3_readAct 79 = .ok (.iconst 2, 1) := by decide +kernel
theorem dX3_readAct_80 : decode cX3_readAct 80 = .ok (.iconst 1, 1) := by decide +kernel
theorem dX3_readAct_81 : decode cX3_readAct 81 = .ok (.invokevirtual 40, 3) := by decide +kernel
theorem dX3_readAct_84 : decode cX3_readAct 84 = .ok (.ireturn, 1) := by decide +kernel
theorem dX3_readAct_85 : decode cX3_readAct 85 = .ok (.aload_n 0, 1) := by decide +kernel
theorem dX3_readAct_86 : decode cX3_readAct 86 = .ok (.dup, 1) := by decide +kernel
theorem dX3_readAct_87 : decode cX3_readAct 87 = .ok (.getfield 19, 3) := by decide +kernel
theorem dX3_readAct_90 : decode cX3_readAct 90 = .ok (.iconst 1, 1) := by decide +kernel
theorem dX3_readAct_91 : decode cX3_readAct 91 = .ok (.iadd, 1) := by decide +kernel
theorem dX3_readAct_92 : decode cX3_readAct 92 = .ok (.putfield 19, 3) := by decide +kernel
theorem dX3_readAct_95 : decode cX3_readAct 95 = .ok (.aload_n 0, 1) := by decide +kernel
theorem dX3_readAct_96 : decode cX3_readAct 96 = .ok (.iconst 5, 1) := by decide +kernel
theorem dX3_readAct_97 : decode cX3_readAct 97 = .ok (.iconst 0, 1) := by decide +kernel
theorem dX3_readAct_98 : decode cX3_readAct 98 = .ok (.invokevirtual 40, 3) := by decide +kernel
theorem dX3_readAct_101 : decode cX3_readAct 101 = .ok (.ireturn, 1) := by decide +kernel
theorem dX3_readAct_102 : decode cX3_readAct 102 = .ok (.aload_n 0, 1) := by decide +kernel
theorem dX3_readAct_103 : decode cX3_readAct 103 = .ok (.dup, 1) := by decide +kernel
theorem dX3_readAct_104 : decode cX3_readAct 104 = .ok (.getfield 19, 3) := by decide +kernel
theorem dX3_readAct_107 : decode cX3_readAct 107 = .ok (.iconst 1, 1) := by decide +kernel
theorem dX3_readAct_108 : decode cX3_readAct 108 = .ok (.iadd, 1) := by decide +kernel
theorem dX3_readAct_109 : decode cX3_readAct 109 = .ok (.putfield 19, 3) := by decide +kernel
theorem dX3_readAct_112 : decode cX3_readAct 112 = .ok (.aload_n 0, 1) := by decide +kernel
theorem dX3_readAct_113 : decode cX3_readAct 113 = .ok (.aload_n 0, 1) := by decide +kernel
theorem dX3_readAct_114 : decode cX3_readAct 114 = .ok (.iconst 0, 1) := by decide +kernel
theorem dX3_readAct_115 : decode cX3_readAct 115 = .ok (.iconst 5, 1) := by decide +kernel
theorem dX3_readAct_116 : decode cX3_readAct 116 = .ok (.invokevirtual 44, 3) := by decide +kernel
theorem dX3_readAct_119 : decode cX3_readAct 119 = .ok (.putfield 48, 3) := by decide +kernel
theorem dX3_readAct_122 : decode cX3_readAct 122 = .ok (.aload_n 0, 1) := by decide +kernel
theorem dX3_readAct_123 : decode cX3_readAct 123 = .ok (.getfield 48, 3) := by decide +kernel
theorem dX3_readAct_126 : decode cX3_readAct 126 = .ok (.bipush (-6), 2) := by decide +kernel
theorem dX3_readAct_128 : decode cX3_readAct 128 = .ok (.if_icmp .eq 7, 3) := by decide +kernel
theorem dX3_readAct_131 : decode cX3_readAct 131 = .ok (.iconst 1, 1) := by decide +kernel
theorem dX3_readAct_132 : decode cX3_readAct 132 = .ok (.goto 4, 3) := by decide +kernel
theorem dX3_readAct_135 : decode cX3_readAct 135 = .ok (.iconst 0, 1) := by decide +kernel
theorem dX3_readAct_136 : decode cX3_readAct 136 = .ok (.ireturn, 1) := by decide +kernel
theorem dX3_readAct_137 : decode cX3_readAct 137 = .ok (.aload_n 0, 1) := by decide +kernel
theorem dX3_readAct_138 : decode cX3_readAct 138 = .ok (.dup, 1) := by decide +kernel
theorem dX3_readAct_139 : decode cX3_readAct 139 = .ok (.getfield 19, 3) := by decide +kernel
theorem dX3_readAct_142 : decode cX3_readAct 142 = .ok (.iconst 1, 1) := by decide +kernel
theorem dX3_readAct_143 : decode cX3_readAct 143 = .ok (.iadd, 1) := by decide +kernel
theorem dX3_readAct_144 : decode cX3_readAct 144 = .ok (.putfield 19, 3) := by decide +kernel
theorem dX3_readAct_147 : decode cX3_readAct 147 = .ok (.iconst 1, 1) := by decide +kernel
theorem dX3_readAct_148 : decode cX3_readAct 148 = .ok (.ireturn, 1) := by decide +kernel
theorem dX3_readAct_149 : decode cX3_readAct 149 = .ok (.iconst 0, 1) := by decide +kernel
theorem dX3_readAct_150 : decode cX3_readAct 150 = .ok (.ireturn, 1) := by decide +kernel
theorem dX3_readPair_0 : decode cX3_readPair 0 = .ok (.aload_n 0, 1) := by decide +kernel
theorem dX3_readPair_1 : decode cX3_readPair 1 = .ok (.aload_n 0, 1) := by decide +kernel
theorem dX3_readPair_2 : decode cX3_readPair 2 = .ok (.iconst 0, 1) := by decide +kernel
theorem dX3_readPair_3 : decode cX3_readPair 3 = .ok (.iload_n 1, 1) := by decide +kernel
theorem dX3_readPair_4 : decode cX3_readPair 4 = .ok (.invokevirtual 44, 3) := by decide +kernel
theorem dX3_readPair_7 : decode cX3_readPair 7 = .ok (.putfield 48, 3) := by decide +kernel
theorem dX3_readPair_10 : decode cX3_readPair 10 = .ok (.aload_n 0, 1) := by decide +kernel
theorem dX3_readPair_11 : decode cX3_readPair 11 = .ok (.getfield 48, 3) := by decide +kernel
theorem dX3_readPair_14 : decode cX3_readPair 14 = .ok (.bipush (-6), 2) := by decide +kernel
theorem dX3_readPair_16 : decode cX3_readPair 16 = .ok (.if_icmp .eq 12, 3) := by decide +kernel
theorem dX3_readPair_19 : decode cX3_readPair 19 = .ok (.aload_n 0, 1) := by decide +kernel
theorem dX3_readPair_20 : decode cX3_readPair 20 = .ok (.bipush 58, 2) := by decide +kernel
theorem dX3_readPair_22 : decode cX3_readPair 22 = .ok (.invokevirtual 29, 3) := by decide +kernel
theorem dX3_readPair_25 : decode cX3_readPair 25 = .ok (.ifCond .ne 5, 3) := by decide +kernel
theorem dX3_readPair_28 : decode cX3_readPair 28 = .ok (.iconst 0, 1) := by decide +kernel
theorem dX3_readPair_29 : decode cX3_readPair 29 = .ok (.ireturn, 1) := by decide +kernel
theorem dX3_readPair_30 : decode cX3_readPair 30 = .ok (.aload_n 0, 1) := by decide +kernel
theorem dX3_readPair_31 : decode cX3_readPair 31 = .ok (.aload_n 0, 1) := by decide +kernel
theorem dX3_readPair_32 : decode cX3_readPair 32 = .ok (.iload_n 2, 1) := by decide +kernel
theorem dX3_readPair_33 : decode cX3_readPair 33 = .ok (.sipush 300, 3) := by decide +kernel
theorem dX3_readPair_36 : decode cX3_readPair 36 = .ok (.invokevirtual 44, 3) := by decide +kernel
theorem dX3_readPair_39 : decode cX3_readPair 39 = .ok (.putfield 51, 3) := by decide +kernel
theorem dX3_readPair_42 : decode cX3_readPair 42 = .ok (.aload_n 0, 1) := by decide +kernel
theorem dX3_readPair_43 : decode cX3_readPair 43 = .ok (.getfield 51, 3) := by decide +kernel
theorem dX3_readPair_46 : decode cX3_readPair 46 = .ok (.bipush (-6), 2) := by decide +kernel
theorem dX3_readPair_48 : decode cX3_readPair 48 = .ok (.if_icmp .eq 7, 3) := by decide +kernel
theorem dX3_readPair_51 : decode cX3_readPair 51 = .ok (.iconst 1, 1) := by decide +kernel
theorem dX3_readPair_52 : decode cX3_readPair 52 = .ok (.goto 4, 3) := by decide +kernel
theorem dX3_readPair_55 : decode cX3_readPair 55 = .ok (.iconst 0, 1) := by decide +kernel
theorem dX3_readPair_56 : decode cX3_readPair 56 = .ok (.ireturn, 1) := by decide +kernel
theorem dX3_readSign_0 : decode cX3_readSign 0 = .ok (.aload_n 0, 1) := by decide +kernel
theorem dX3_readSign_1 : decode cX3_readSign 1 = .ok (.aload_n 0, 1) := by decide +kernel
theorem dX3_readSign_2 : decode cX3_readSign 2 = .ok (.getfield 19, 3) := by decide +kernel
theorem dX3_readSign_5 : decode cX3_readSign 5 = .ok (.invokevirtual 33, 3) := by decide +kernel
theorem dX3_readSign_8 : decode cX3_readSign 8 = .ok (.iload_n 1, 1) := by decide +kernel
theorem dX3_readSign_9 : decode cX3_readSign 9 = .ok (.if_icmp .eq 5, 3) := by decide +kernel
theorem dX3_readSign_12 : decode cX3_readSign 12 = .ok (.iconst 0, 1) := by decide +kernel
theorem dX3_readSign_13 : decode cX3_readSign 13 = .ok (.ireturn, 1) := by decide +kernel
theorem dX3_readSign_14 : decode cX3_readSign 14 = .ok (.aload_n 0, 1) := by decide +kernel
theorem dX3_readSign_15 : decode cX3_readSign 15 = .ok (.dup, 1) := by decide +kernel
theorem dX3_readSign_16 : decode cX3_readSign 16 = .ok (.getfield 19, 3) := by decide +kernel
theorem dX3_readSign_19 : decode cX3_readSign 19 = .ok (.iconst 1, 1) := by decide +kernel
theorem dX3_readSign_20 : decode cX3_readSign 20 = .ok (.iadd, 1) := by decide +kernel
theorem dX3_readSign_21 : decode cX3_readSign 21 = .ok (.putfield 19, 3) := by decide +kernel
theorem dX3_readSign_24 : decode cX3_readSign 24 = .ok (.iconst 1, 1) := by decide +kernel
theorem dX3_readSign_25 : decode cX3_readSign 25 = .ok (.ireturn, 1) := by decide +kernel
theorem dX3_readNumber_0 : decode cX3_readNumber 0 = .ok (.aload_n 0, 1) := by decide +kernel
theorem dX3_readNumber_1 : decode cX3_readNumber 1 = .ok (.aload_n 0, 1) := by decide +kernel
theorem dX3_readNumber_2 : decode cX3_readNumber 2 = .ok (.getfield 19, 3) := by decide +kernel
theorem dX3_readNumber_5 : decode cX3_readNumber 5 = .ok (.invokevirtual 54, 3) := by decide +kernel
theorem dX3_readNumber_8 : decode cX3_readNumber 8 = .ok (.istore_n 3, 1) := by decide +kernel
theorem dX3_readNumber_9 : decode cX3_readNumber 9 = .ok (.iload_n 3, 1) := by decide +kernel
theorem dX3_readNumber_10 : decode cX3_readNumber 10 = .ok (.iload_n 1, 1) := by decide +kernel
theorem dX3_readNumber_11 : decode cX3_readNumber 11 = .ok (.if_icmp .lt 8, 3) := by decide +kernel
theorem dX3_readNumber_14 : decode cX3_readNumber 14 = .ok (.iload_n 3, 1) := by decide +kernel
theorem dX3_readNumber_15 : decode cX3_readNumber 15 = .ok (.iload_n 2, 1) := by decide +kernel
theorem dX3_readNumber_16 : decode cX3_readNumber 16 = .ok (.if_icmp .le 6, 3) := by decide +kernel
theorem dX3_readNumber_19 : decode cX3_readNumber 19 = .ok (.bipush (-6), 2) := by decide +kernel
theorem dX3_readNumber_21 : decode cX3_readNumber 21 = .ok (.ireturn, 1) := by decide +kernel
theorem dX3_readNumber_22 : decode cX3_readNumber 22 = .ok (.aload_n 0, 1) := by decide +kernel
theorem dX3_readNumber_23 : decode cX3_readNumber 23 = .ok (.dup, 1) := by decide +kernel
theorem dX3_readNumber_24 : decode cX3_readNumber 24 = .ok (.getfield 19, 3) := by decide +kernel
theorem dX3_readNumber_27 : decode cX3_readNumber 27 = .ok (.iconst 1, 1) := by decide +kernel
theorem dX3_readNumber_28 : decode cX3_readNumber 28 = .ok (.iadd, 1) := by decide +kernel
theorem dX3_readNumber_29 : decode cX3_readNumber 29 = .ok (.putfield 19, 3) := by decide +kernel
theorem dX3_readNumber_32 : decode cX3_readNumber 32 = .ok (.iconst 1, 1) := by decide +kernel
theorem dX3_readNumber_33 : decode cX3_readNumber 33 = .ok (.istore 4, 2) := by decide +kernel
theorem dX3_readNumber_35 : decode cX3_readNumber 35 = .ok (.iload 4, 2) := by decide +kernel
theorem dX3_readNumber_37 : decode cX3_readNumber 37 = .ok (.iconst 3, 1) := by decide +kernel
theorem dX3_readNumber_38 : decode cX3_readNumber 38 = .ok (.if_icmp .ge 62, 3) := by decide +kernel
theorem dX3_readNumber_41 : decode cX3_readNumber 41 = .ok (.iload_n 3, 1) := by decide +kernel
theorem dX3_readNumber_42 : decode cX3_readNumber 42 = .ok (.ifCond .le 58, 3) := by decide +kernel
end
section
theorem dX3_readNumber_45 : decode cX3_readNumber 45 = .ok (.aload_n 0, 1) := by decide +kernel
theorem dX3_readNumber_46 : decode cX3_readNumber 46 = .ok (.aload_n 0, 1) := by decide +kernel
theorem dX3_readNumber_47 : decode cX3_readNumber 47 = .ok (.getfield 19, 3) := by decide +kernel
theorem dX3_readNumber_50 : decode cX3_readNumber 50 = .ok (.invokevirtual 54, 3) := by decide +kernel
theorem dX3_readNumber_53 : decode cX3_readNumber 53 = .ok (.istore 5, 2) := by decide +kernel
theorem dX3_readNumber_55 : decode cX3_readNumber 55 = .ok (.iload 5, 2) := by decide +kernel
theorem dX3_readNumber_57 : decode cX3_readNumber 57 = .ok (.bipush (-6), 2) := by decide +kernel
theorem dX3_readNumber_59 : decode cX3_readNumber 59 = .ok (.if_icmp .eq 41, 3) := by decide +kernel
theorem dX3_readNumber_62 : decode cX3_readNumber 62 = .ok (.iload_n 3, 1) := by decide +kernel
theorem dX3_readNumber_63 : decode cX3_readNumber 63 = .ok (.bipush 10, 2) := by decide +kernel
theorem dX3_readNumber_65 : decode cX3_readNumber 65 = .ok (.imul, 1) := by decide +kernel
theorem dX3_readNumber_66 : decode cX3_readNumber 66 = .ok (.iload 5, 2) := by decide +kernel
theorem dX3_readNumber_68 : decode cX3_readNumber 68 = .ok (.iadd, 1) := by decide +kernel
theorem dX3_readNumber_69 : decode cX3_readNumber 69 = .ok (.iload_n 2, 1) := by decide +kernel
theorem dX3_readNumber_70 : decode cX3_readNumber 70 = .ok (.if_icmp .le 6, 3) := by decide +kernel
theorem dX3_readNumber_73 : decode cX3_readNumber 73 = .ok (.goto 27, 3) := by decide +kernel
theorem dX3_readNumber_76 : decode cX3_readNumber 76 = .ok (.iload_n 3, 1) := by decide +kernel
theorem dX3_readNumber_77 : decode cX3_readNumber 77 = .ok (.bipush 10, 2) := by decide +kernel
theorem dX3_readNumber_79 : decode cX3_readNumber 79 = .ok (.imul, 1) := by decide +kernel
theorem dX3_readNumber_80 : decode cX3_readNumber 80 = .ok (.iload 5, 2) := by decide +kernel
theorem dX3_readNumber_82 : decode cX3_readNumber 82 = .ok (.iadd, 1) := by decide +kernel
theorem dX3_readNumber_83 : decode cX3_readNumber 83 = .ok (.istore_n 3, 1) := by decide +kernel
theorem dX3_readNumber_84 : decode cX3_readNumber 84 = .ok (.aload_n 0, 1) := by decide +kernel
theorem dX3_readNumber_85 : decode cX3_readNumber 85 = .ok (.dup, 1) := by decide +kernel
theorem dX3_readNumber_86 : decode cX3_readNumber 86 = .ok (.getfield 19, 3) := by decide +kernel
theorem dX3_readNumber_89 : decode cX3_readNumber 89 = .ok (.iconst 1, 1) := by decide +kernel
theorem dX3_readNumber_90 : decode cX3_readNumber 90 = .ok (.iadd, 1) := by decide +kernel
theorem dX3_readNumber_91 : decode cX3_readNumber 91 = .ok (.putfield 19, 3) := by decide +kernel
theorem dX3_readNumber_94 : decode cX3_readNumber 94 = .ok (.iinc 4 1, 3) := by decide +kernel
theorem dX3_readNumber_97 : decode cX3_readNumber 97 = .ok (.goto (-62), 3) := by decide +kernel
theorem dX3_readNumber_100 : decode cX3_readNumber 100 = .ok (.iload_n 3, 1) := by decide +kernel
theorem dX3_readNumber_101 : decode cX3_readNumber 101 = .ok (.ireturn, 1) := by decide +kernel
theorem dX3_digitAt_0 : decode cX3_digitAt 0 = .ok (.aload_n 0, 1) := by decide +kernel
theorem dX3_digitAt_1 : decode cX3_digitAt 1 = .ok (.iload_n 1, 1) := by decide +kernel
theorem dX3_digitAt_2 : decode cX3_digitAt 2 = .ok (.invokevirtual 33, 3) := by decide +kernel
theorem dX3_digitAt_5 : decode cX3_digitAt 5 = .ok (.istore_n 2, 1) := by decide +kernel
theorem dX3_digitAt_6 : decode cX3_digitAt 6 = .ok (.iload_n 2, 1) := by decide +kernel
theorem dX3_digitAt_7 : decode cX3_digitAt 7 = .ok (.bipush 48, 2) := by decide +kernel
theorem dX3_digitAt_9 : decode cX3_digitAt 9 = .ok (.bipush 57, 2) := by decide +kernel
theorem dX3_digitAt_11 : decode cX3_digitAt 11 = .ok (.invokestatic 57, 3) := by decide +kernel
theorem dX3_digitAt_14 : decode cX3_digitAt 14 = .ok (.ifCond .eq 10, 3) := by decide +kernel
theorem dX3_digitAt_17 : decode cX3_digitAt 17 = .ok (.iload_n 2, 1) := by decide +kernel
theorem dX3_digitAt_18 : decode cX3_digitAt 18 = .ok (.bipush 48, 2) := by decide +kernel
theorem dX3_digitAt_20 : decode cX3_digitAt 20 = .ok (.isub, 1) := by decide +kernel
theorem dX3_digitAt_21 : decode cX3_digitAt 21 = .ok (.goto 5, 3) := by decide +kernel
theorem dX3_digitAt_24 : decode cX3_digitAt 24 = .ok (.bipush (-6), 2) := by decide +kernel
theorem dX3_digitAt_26 : decode cX3_digitAt 26 = .ok (.ireturn, 1) := by decide +kernel
theorem dX3_signAt_0 : decode cX3_signAt 0 = .ok (.iload_n 1, 1) := by decide +kernel
theorem dX3_signAt_1 : decode cX3_signAt 1 = .ok (.ifCond .lt 20, 3) := by decide +kernel
theorem dX3_signAt_4 : decode cX3_signAt 4 = .ok (.iload_n 1, 1) := by decide +kernel
theorem dX3_signAt_5 : decode cX3_signAt 5 = .ok (.aload_n 0, 1) := by decide +kernel
theorem dX3_signAt_6 : decode cX3_signAt 6 = .ok (.getfield 15, 3) := by decide +kernel
theorem dX3_signAt_9 : decode cX3_signAt 9 = .ok (.if_icmp .ge 12, 3) := by decide +kernel
theorem dX3_signAt_12 : decode cX3_signAt 12 = .ok (.aload_n 0, 1) := by decide +kernel
theorem dX3_signAt_13 : decode cX3_signAt 13 = .ok (.getfield 9, 3) := by decide +kernel
theorem dX3_signAt_16 : decode cX3_signAt 16 = .ok (.iload_n 1, 1) := by decide +kernel
theorem dX3_signAt_17 : decode cX3_signAt 17 = .ok (.caload, 1) := by decide +kernel
theorem dX3_signAt_18 : decode cX3_signAt 18 = .ok (.goto 4, 3) := by decide +kernel
theorem dX3_signAt_21 : decode cX3_signAt 21 = .ok (.iconst 0, 1) := by decide +kernel
theorem dX3_signAt_22 : decode cX3_signAt 22 = .ok (.ireturn, 1) := by decide +kernel
theorem dX4_init_0 : decode cX4_init 0 = .ok (.aload_n 0, 1) := by decide +kernel
theorem dX4_init_1 : decode cX4_init 1 = .ok (.invokespecial 3, 3) := by decide +kernel
theorem dX4_init_4 : decode cX4_init 4 = .ok (.aload_n 0, 1) := by decide +kernel
theorem dX4_init_5 : decode cX4_init 5 = .ok (.iconst 3, 1) := by decide +kernel
theorem dX4_init_6 : decode cX4_init 6 = .ok (.putfield 9, 3) := by decide +kernel
theorem dX4_init_9 : decode cX4_init 9 = .ok (.aload_n 0, 1) := by decide +kernel
theorem dX4_init_10 : decode cX4_init 10 = .ok (.bipush 6, 2) := by decide +kernel
theorem dX4_init_12 : decode cX4_init 12 = .ok (.newarray .int, 2) := by decide +kernel
theorem dX4_init_14 : decode cX4_init 14 = .ok (.putfield 15, 3) := by decide +kernel
theorem dX4_init_17 : decode cX4_init 17 = .ok (.aload_n 0, 1) := by decide +kernel
theorem dX4_init_18 : decode cX4_init 18 = .ok (.bipush 6, 2) := by decide +kernel
theorem dX4_init_20 : decode cX4_init 20 = .ok (.newarray .int, 2) := by decide +kernel
theorem dX4_init_22 : decode cX4_init 22 = .ok (.putfield 19, 3) := by decide +kernel
theorem dX4_init_25 : decode cX4_init 25 = .ok (.aload_n 0, 1) := by decide +kernel
theorem dX4_init_26 : decode cX4_init 26 = .ok (.bipush 6, 2) := by decide +kernel
theorem dX4_init_28 : decode cX4_init 28 = .ok (.newarray .int, 2) := by decide +kernel
theorem dX4_init_30 : decode cX4_init 30 = .ok (.putfield 22, 3) := by decide +kernel
theorem dX4_init_33 : decode cX4_init 33 = .ok (.aload_n 0, 1) := by decide +kernel
theorem dX4_init_34 : decode cX4_init 34 = .ok (.bipush 6, 2) := by decide +kernel
theorem dX4_init_36 : decode cX4_init 36 = .ok (.newarray .int, 2) := by decide +kernel
theorem dX4_init_38 : decode cX4_init 38 = .ok (.putfield 25, 3) := by decide +kernel
theorem dX4_init_41 : decode cX4_init 41 = .ok (.aload_n 0, 1) := by decide +kernel
theorem dX4_init_42 : decode cX4_init 42 = .ok (.bipush 6, 2) := by decide +kernel
theorem dX4_init_44 : decode cX4_init 44 = .ok (.newarray .int, 2) := by decide +kernel
theorem dX4_init_46 : decode cX4_init 46 = .ok (.putfield 28, 3) := by decide +kernel
theorem dX4_init_49 : decode cX4_init 49 = .ok (.return_, 1) := by decide +kernel
theorem dX4_startAnew_0 : decode cX4_startAnew 0 = .ok (.aload_n 0, 1) := by decide +kernel
theorem dX4_startAnew_1 : decode cX4_startAnew 1 = .ok (.iload_n 1, 1) := by decide +kernel
theorem dX4_startAnew_2 : decode cX4_startAnew 2 = .ok (.bipush 6, 2) := by decide +kernel
theorem dX4_startAnew_4 : decode cX4_startAnew 4 = .ok (.invokestatic 31, 3) := by decide +kernel
theorem dX4_startAnew_7 : decode cX4_startAnew 7 = .ok (.putfield 9, 3) := by decide +kernel
theorem dX4_startAnew_10 : decode cX4_startAnew 10 = .ok (.iconst 0, 1) := by decide +kernel
theorem dX4_startAnew_11 : decode cX4_startAnew 11 = .ok (.istore_n 3, 1) := by decide +kernel
theorem dX4_startAnew_12 : decode cX4_startAnew 12 = .ok (.iload_n 3, 1) := by decide +kernel
theorem dX4_startAnew_13 : decode cX4_startAnew 13 = .ok (.bipush 6, 2) := by decide +kernel
theorem dX4_startAnew_15 : decode cX4_startAnew 15 = .ok (.if_icmp .ge 47, 3) := by decide +kernel
theorem dX4_startAnew_18 : decode cX4_startAnew 18 = .ok (.aload_n 0, 1) := by decide +kernel
theorem dX4_startAnew_19 : decode cX4_startAnew 19 = .ok (.getfield 15, 3) := by decide +kernel
theorem dX4_startAnew_22 : decode cX4_startAnew 22 = .ok (.iload_n 3, 1) := by decide +kernel
theorem dX4_startAnew_23 : decode cX4_startAnew 23 = .ok (.iload_n 2, 1) := by decide +kernel
theorem dX4_startAnew_24 : decode cX4_startAnew 24 = .ok (.iastore, 1) := by decide +kernel
theorem dX4_startAnew_25 : decode cX4_startAnew 25 = .ok (.aload_n 0, 1) := by decide +kernel
theorem dX4_startAnew_26 : decode cX4_startAnew 26 = .ok (.getfield 19, 3) := by decide +kernel
theorem dX4_startAnew_29 : decode cX4_startAnew 29 = .ok (.iload_n 3, 1) := by decide +kernel
theorem dX4_startAnew_30 : decode cX4_startAnew 30 = .ok (.bipush 10, 2) := by decide +kernel
theorem dX4_startAnew_32 : decode cX4_startAnew 32 = .ok (.iastore, 1) := by decide +kernel
theorem dX4_startAnew_33 : decode cX4_startAnew 33 = .ok (.aload_n 0, 1) := by decide +kernel
theorem dX4_startAnew_34 : decode cX4_startAnew 34 = .ok (.getfield 22, 3) := by decide +kernel
theorem dX4_startAnew_37 : decode cX4_startAnew 37 = .ok (.iload_n 3, 1) := by decide +kernel
theorem dX4_startAnew_38 : decode cX4_startAnew 38 = .ok (.iconst 0, 1) := by decide +kernel
theorem dX4_startAnew_39 : decode cX4_startAnew 39 = .ok (.iastore, 1) := by decide +kernel
theorem dX4_startAnew_40 : decode cX4_startAnew 40 = .ok (.aload_n 0, 1) := by decide +kernel
theorem dX4_startAnew_41 : decode cX4_startAnew 41 = .ok (.getfield 25, 3) := by decide +kernel
theorem dX4_startAnew_44 : decode cX4_startAnew 44 = .ok (.iload_n 3, 1) := by decide +kernel
theorem dX4_startAnew_45 : decode cX4_startAnew 45 = .ok (.iconst 0, 1) := by decide +kernel
theorem dX4_startAnew_46 : decode cX4_startAnew 46 = .ok (.iastore, 1) := by decide +kernel
theorem dX4_startAnew_47 : decode cX4_startAnew 47 = .ok (.aload_n 0, 1) := by decide +kernel
theorem dX4_startAnew_48 : decode cX4_startAnew 48 = .ok (.getfield 28, 3) := by decide +kernel
theorem dX4_startAnew_51 : decode cX4_startAnew 51 = .ok (.iload_n 3, 1) := by decide +kernel
theorem dX4_startAnew_52 : decode cX4_startAnew 52 = .ok (.sipush 300, 3) := by decide +kernel
theorem dX4_startAnew_55 : decode cX4_startAnew 55 = .ok (.iastore, 1) := by decide +kernel
theorem dX4_startAnew_56 : decode cX4_startAnew 56 = .ok (.iinc 3 1, 3) := by decide +kernel
theorem dX4_startAnew_59 : decode cX4_startAnew 59 = .ok (.goto (-47), 3) := by decide +kernel
theorem dX4_startAnew_62 : decode cX4_startAnew 62 = .ok (.return_, 1) := by decide +kernel
theorem dX4_takeOver_0 : decode cX4_takeOver 0 = .ok (.aload_n 0, 1) := by decide +kernel
theorem dX4_takeOver_1 : decode cX4_takeOver 1 = .ok (.aload_n 1, 1) := by decide +kernel
theorem dX4_takeOver_2 : decode cX4_takeOver 2 = .ok (.getfield 9, 3) := by decide +kernel
theorem dX4_takeOver_5 : decode cX4_takeOver 5 = .ok (.putfield 9, 3) := by decide +kernel
theorem dX4_takeOver_8 : decode cX4_takeOver 8 = .ok (.aload_n 1, 1) := by decide +kernel
theorem dX4_takeOver_9 : decode cX4_takeOver 9 = .ok (.getfield 15, 3) := by decide +kernel
theorem dX4_takeOver_12 : decode cX4_takeOver 12 = .ok (.aload_n 0, 1) := by decide +kernel
theorem dX4_takeOver_13 : decode cX4_takeOver 13 = .ok (.getfield 15, 3) := by decide +kernel
theorem dX4_takeOver_16 : decode cX4_takeOver 16 = .ok (.invokestatic 37, 3) := by decide +kernel
theorem dX4_takeOver_19 : decode cX4_takeOver 19 = .ok (.aload_n 1, 1) := by decide +kernel
theorem dX4_takeOver_20 : decode cX4_takeOver 20 = .ok (.getfield 19, 3) := by decide +kernel
theorem dX4_takeOver_23 : decode cX4_takeOver 23 = .ok (.aload_n 0, 1) := by decide +kernel
theorem dX4_takeOver_24 : decode cX4_takeOver 24 = .ok (.getfield 19, 3) := by decide +kernel
theorem dX4_takeOver_27 : decode cX4_takeOver 27 = .ok (.invokestatic 37, 3) := by decide +kernel
theorem dX4_takeOver_30 : decode cX4_takeOver 30 = .ok (.aload_n 1, 1) := by decide +kernel
theorem dX4_takeOver_31 : decode cX4_takeOver 31 = .ok (.getfield 22, 3) := by decide +kernel
theorem dX4_takeOver_34 : decode cX4_takeOver 34 = .ok (.aload_n 0, 1) := by decide +kernel
theorem dX4_takeOver_35 : decode cX4_takeOver 35 = .ok (.getfield 22, 3) := by decide +kernel
theorem dX4_takeOver_38 : decode cX4_takeOver 38 = .ok (.invokestatic 37, 3) := by decide +kernel
theorem dX4_takeOver_41 : decode cX4_takeOver 41 = .ok (.aload_n 1, 1) := by decide +kernel
theorem dX4_takeOver_42 : decode cX4_takeOver 42 = .ok (.getfield 25, 3) := by decide +kernel
theorem dX4_takeOver_45 : decode cX4_takeOver 45 = .ok (.aload_n 0, 1) := by decide +kernel
theorem dX4_takeOver_46 : decode cX4_takeOver 46 = .ok (.getfield 25, 3) := by decide +kernel
theorem dX4_takeOver_49 : decode cX4_takeOver 49 = .ok (.invokestatic 37, 3) := by decide +kernel
theorem dX4_takeOver_52 : decode cX4_takeOver 52 = .ok (.aload_n 1, 1) := by decide +kernel
theorem dX4_takeOver_53 : decode cX4_takeOver 53 = .ok (.getfield 28, 3) := by decide +kernel
theorem dX4_takeOver_56 : decode cX4_takeOver 56 = .ok (.aload_n 0, 1) := by decide +kernel
theorem dX4_takeOver_57 : decode cX4_takeOver 57 = .ok (.getfield 28, 3) := by decide +kernel
theorem dX4_takeOver_60 : decode cX4_takeOver 60 = .ok (.invokestatic 37, 3) := by decide +kernel
theorem dX4_takeOver_63 : decode cX4_takeOver 63 = .ok (.return_, 1) := by decide +kernel
theorem dX4_hasSeat_0 : decode cX4_hasSeat 0 = .ok (.iload_n 1, 1) := by decide +kernel
theorem dX4_hasSeat_1 : decode cX4_hasSeat 1 = .ok (.ifCond .lt 15, 3) := by decide +kernel
theorem dX4_hasSeat_4 : decode cX4_hasSeat 4 = .ok (.iload_n 1, 1) := by decide +kernel
theorem dX4_hasSeat_5 : decode cX4_hasSeat 5 = .ok (.aload_n 0, 1) := by decide +kernel
theorem dX4_hasSeat_6 : decode cX4_hasSeat 6 = .ok (.getfield 9, 3) := by decide +kernel
theorem dX4_hasSeat_9 : decode cX4_hasSeat 9 = .ok (.if_icmp .ge 7, 3) := by decide +kernel
theorem dX4_hasSeat_12 : decode cX4_hasSeat 12 = .ok (.iconst 1, 1) := by decide +kernel
theorem dX4_hasSeat_13 : decode cX4_hasSeat 13 = .ok (.goto 4, 3) := by decide +kernel
theorem dX4_hasSeat_16 : decode cX4_hasSeat 16 = .ok (.iconst 0, 1) := by decide +kernel
theorem dX4_hasSeat_17 : decode cX4_hasSeat 17 = .ok (.ireturn, 1) := by decide +kernel
theorem dX4_seatBehind_0 : decode cX4_seatBehind 0 = .ok (.iload_n 1, 1) := by decide +kernel
theorem dX4_seatBehind_1 : decode cX4_seatBehind 1 = .ok (.iload_n 2, 1) := by decide +kernel
theorem dX4_seatBehind_2 : decode cX4_seatBehind 2 = .ok (.iadd, 1) := by decide +kernel
theorem dX4_seatBehind_3 : decode cX4_seatBehind 3 = .ok (.istore_n 3, 1) := by decide +kernel
theorem dX4_seatBehind_4 : decode cX4_seatBehind 4 = .ok (.iload_n 3, 1) := by decide +kernel
theorem dX4_seatBehind_5 : decode cX4_seatBehind 5 = .ok (.aload_n 0, 1) := by decide +kernel
theorem dX4_seatBehind_6 : decode cX4_seatBehind 6 = .ok (.getfield 9, 3) := by decide +kernel
theorem dX4_seatBehind_9 : decode cX4_seatBehind 9 = .ok (.if_icmp .ge 7, 3) := by decide +kernel
theorem dX4_seatBehind_12 : decode cX4_seatBehind 12 = .ok (.iload_n 3, 1) := by decide +kernel
theorem dX4_seatBehind_13 : decode cX4_seatBehind 13 = .ok (.goto 9, 3) := by decide +kernel
theorem dX4_seatBehind_16 : decode cX4_seatBehind 16 = .ok (.iload_n 3, 1) := by decide +kernel
theorem dX4_seatBehind_17 : decode cX4_seatBehind 17 = .ok (.aload_n 0, 1) := by decide +kernel
theorem dX4_seatBehind_18 : decode cX4_seatBehind 18 = .ok (.getfield 9, 3) := by decide +kernel
theorem dX4_seatBehind_21 : decode cX4_seatBehind 21 = .ok (.isub, 1) := by decide +kernel
theorem dX4_seatBehind_22 : decode cX4_seatBehind 22 = .ok (.ireturn, 1) := by decide +kernel
theorem dX4_amountOf_0 : decode cX4_amountOf 0 = .ok (.aload_n 0, 1) := by decide +kernel
theorem dX4_amountOf_1 : decode cX4_amountOf 1 = .ok (.iload_n 1, 1) := by decide +kernel
theorem dX4_amountOf_2 : decode cX4_amountOf 2 = .ok (.invokevirtual 41, 3) := by decide +kernel
theorem dX4_amountOf_5 : decode cX4_amountOf 5 = .ok (.ifCond .eq 12, 3) := by decide +kernel
theorem dX4_amountOf_8 : decode cX4_amountOf 8 = .ok (.aload_n 0, 1) := by decide +kernel
theorem dX4_amountOf_9 : decode cX4_amountOf 9 = .ok (.getfield 15, 3) := by decide +kernel
theorem dX4_amountOf_12 : decode cX4_amountOf 12 = .ok (.iload_n 1, 1) := by decide +kernel
theorem dX4_amountOf_13 : decode cX4_amountOf 13 = .ok (.iaload, 1) := by decide +kernel
theorem dX4_amountOf_14 : decode cX4_amountOf 14 = .ok (.goto 4, 3) := by decide +kernel
theorem dX4_amountOf_17 : decode cX4_amountOf 17 = .ok (.iconst 0, 1) := by decide +kernel
theorem dX4_amountOf_18 : decode cX4_amountOf 18 = .ok (.ireturn, 1) := by decide +kernel
theorem dX4_boldnessOf_0 : decode cX4_boldnessOf 0 = .ok (.aload_n 0, 1) := by decide +kernel
theorem dX4_boldnessOf_1 : decode cX4_boldnessOf 1 = .ok (.iload_n 1, 1) := by decide +kernel
theorem dX4_boldnessOf_2 : decode cX4_boldnessOf 2 = .ok (.invokevirtual 41, 3) := by decide +kernel
theorem dX4_boldnessOf_5 : decode cX4_boldnessOf 5 = .ok (.ifCond .eq 12, 3) := by decide +kernel
theorem dX4_boldnessOf_8 : decode cX4_boldnessOf 8 = .ok (.aload_n 0, 1) := by decide +kernel
theorem dX4_boldnessOf_9 : decode cX4_boldnessOf 9 = .ok (.getfield 19, 3) := by decide +kernel
theorem dX4_boldnessOf_12 : decode cX4_boldnessOf 12 = .ok (.iload_n 1, 1) := by decide +kernel
theorem dX4_boldnessOf_13 : decode cX4_boldnessOf 13 = .ok (.iaload, 1) := by decide +kernel
theorem dX4_boldnessOf_14 : decode cX4_boldnessOf 14 = .ok (.goto 4, 3) := by decide +kernel
theorem dX4_boldnessOf_17 : decode cX4_boldnessOf 17 = .ok (.iconst 0, 1) := by decide +kernel
theorem dX4_boldnessOf_18 : decode cX4_boldnessOf 18 = .ok (.ireturn, 1) := by decide +kernel
theorem dX4_paidBy_0 : decode cX4_paidBy 0 = .ok (.aload_n 0, 1) := by decide +kernel
theorem dX4_paidBy_1 : decode cX4_paidBy 1 = .ok (.iload_n 1, 1) := by decide +kernel
theorem dX4_paidBy_2 : decode cX4_paidBy 2 = .ok (.invokevirtual 41, 3) := by decide +kernel
theorem dX4_paidBy_5 : decode cX4_paidBy 5 = .ok (.ifCond .eq 12, 3) := by decide +kernel
theorem dX4_paidBy_8 : decode cX4_paidBy 8 = .ok (.aload_n 0, 1) := by decide +kernel
theorem dX4_paidBy_9 : decode cX4_paidBy 9 = .ok (.getfield 22, 3) := by decide +kernel
theorem dX4_paidBy_12 : decode cX4_paidBy 12 = .ok (.iload_n 1, 1) := by decide +kernel
theorem dX4_paidBy_13 : decode cX4_paidBy 13 = .ok (.iaload, 1) := by decide +kernel
theorem dX4_paidBy_14 : decode cX4_paidBy 14 = .ok (.goto 4, 3) := by decide +kernel
theorem dX4_paidBy_17 : decode cX4_paidBy 17 = .ok (.iconst 0, 1) := by decide +kernel
theorem dX4_paidBy_18 : decode cX4_paidBy 18 = .ok (.ireturn, 1) := by decide +kernel
theorem dX4_leastOf_0 : decode cX4_leastOf 0 = .ok (.aload_n 0, 1) := by decide +kernel
theorem dX4_leastOf_1 : decode cX4_leastOf 1 = .ok (.iload_n 1, 1) := by decide +kernel
theorem dX4_leastOf_2 : decode cX4_leastOf 2 = .ok (.invokevirtual 41, 3) := by decide +kernel
theorem dX4_leastOf_5 : decode cX4_leastOf 5 = .ok (.ifCond .eq 12, 3) := by decide +kernel
theorem dX4_leastOf_8 : decode cX4_leastOf 8 = .ok (.aload_n 0, 1) := by decide +kernel
theorem dX4_leastOf_9 : decode cX4_leastOf 9 = .ok (.getfield 25, 3) := by decide +kernel
theorem dX4_leastOf_12 : decode cX4_leastOf 12 = .ok (.iload_n 1, 1) := by decide +kernel
theorem dX4_leastOf_13 : decode cX4_leastOf 13 = .ok (.iaload, 1) := by decide +kernel
theorem dX4_leastOf_14 : decode cX4_leastOf 14 = .ok (.goto 4, 3) := by decide +kernel
theorem dX4_leastOf_17 : decode cX4_leastOf 17 = .ok (.iconst 0, 1) := by decide +kernel
theorem dX4_leastOf_18 : decode cX4_leastOf 18 = .ok (.ireturn, 1) := by decide +kernel
theorem dX4_greatestOf_0 : decode cX4_greatestOf 0 = .ok (.aload_n 0, 1) := by decide +kernel
theorem dX4_greatestOf_1 : decode cX4_greatestOf 1 = .ok (.iload_n 1, 1) := by decide +kernel
theorem dX4_greatestOf_2 : decode cX4_greatestOf 2 = .ok (.invokevirtual 41, 3) := by decide +kernel
theorem dX4_greatestOf_5 : decode cX4_greatestOf 5 = .ok (.ifCond .eq 12, 3) := by decide +kernel
theorem dX4_greatestOf_8 : decode cX4_greatestOf 8 = .ok (.aload_n 0, 1) := by decide +kernel
theorem dX4_greatestOf_9 : decode cX4_greatestOf 9 = .ok (.getfield 28, 3) := by decide +kernel
theorem dX4_greatestOf_12 : decode cX4_greatestOf 12 = .ok (.iload_n 1, 1) := by decide +kernel
theorem dX4_greatestOf_13 : decode cX4_greatestOf 13 = .ok (.iaload, 1) := by decide +kernel
theorem dX4_greatestOf_14 : decode cX4_greatestOf 14 = .ok (.goto 4, 3) := by decide +kernel
theorem dX4_greatestOf_17 : decode cX4_greatestOf 17 = .ok (.iconst 0, 1) := by decide +kernel
theorem dX4_greatestOf_18 : decode cX4_greatestOf 18 = .ok (.ireturn, 1) := by decide +kernel
theorem dX4_fillAnew_0 : decode cX4_fillAnew 0 = .ok (.aload_n 0, 1) := by decide +kernel
theorem dX4_fillAnew_1 : decode cX4_fillAnew 1 = .ok (.iload_n 1, 1) := by decide +kernel
theorem dX4_fillAnew_2 : decode cX4_fillAnew 2 = .ok (.invokevirtual 41, 3) := by decide +kernel
theorem dX4_fillAnew_5 : decode cX4_fillAnew 5 = .ok (.ifCond .ne 5, 3) := by decide +kernel
theorem dX4_fillAnew_8 : decode cX4_fillAnew 8 = .ok (.iconst (-1), 1) := by decide +kernel
theorem dX4_fillAnew_9 : decode cX4_fillAnew 9 = .ok (.ireturn, 1) := by decide +kernel
theorem dX4_fillAnew_10 : decode cX4_fillAnew 10 = .ok (.aload_n 0, 1) := by decide +kernel
theorem dX4_fillAnew_11 : decode cX4_fillAnew 11 = .ok (.getfield 15, 3) := by decide +kernel
theorem dX4_fillAnew_14 : decode cX4_fillAnew 14 = .ok (.iload_n 1, 1) := by decide +kernel
theorem dX4_fillAnew_15 : decode cX4_fillAnew 15 = .ok (.iaload, 1) := by decide +kernel
theorem dX4_fillAnew_16 : decode cX4_fillAnew 16 = .ok (.istore_n 3, 1) := by decide +kernel
theorem dX4_fillAnew_17 : decode cX4_fillAnew 17 = .ok (.aload_n 0, 1) := by decide +kernel
theorem dX4_fillAnew_18 : decode cX4_fillAnew 18 = .ok (.getfield 15, 3) := by decide +kernel
theorem dX4_fillAnew_21 : decode cX4_fillAnew 21 = .ok (.iload_n 1, 1) := by decide +kernel
theorem dX4_fillAnew_22 : decode cX4_fillAnew 22 = .ok (.iload_n 2, 1) := by decide +kernel
theorem dX4_fillAnew_23 : decode cX4_fillAnew 23 = .ok (.iastore, 1) := by decide +kernel
theorem dX4_fillAnew_24 : decode cX4_fillAnew 24 = .ok (.aload_n 0, 1) := by decide +kernel
theorem dX4_fillAnew_25 : decode cX4_fillAnew 25 = .ok (.getfield 25, 3) := by decide +kernel
theorem dX4_fillAnew_28 : decode cX4_fillAnew 28 = .ok (.iload_n 1, 1) := by decide +kernel
theorem dX4_fillAnew_29 : decode cX4_fillAnew 29 = .ok (.iconst 0, 1) := by decide +kernel
theorem dX4_fillAnew_30 : decode cX4_fillAnew 30 = .ok (.iastore, 1) := by decide +kernel
theorem dX4_fillAnew_31 : decode cX4_fillAnew 31 = .ok (.aload_n 0, 1) := by decide +kernel
theorem dX4_fillAnew_32 : decode cX4_fillAnew 32 = .ok (.getfield 28, 3) := by decide +kernel
theorem dX4_fillAnew_35 : decode cX4_fillAnew 35 = .ok (.iload_n 1, 1) := by decide +kernel
theorem dX4_fillAnew_36 : decode cX4_fillAnew 36 = .ok (.sipush 300, 3) := by decide +kernel
theorem dX4_fillAnew_39 : decode cX4_fillAnew 39 = .ok (.iastore, 1) := by decide +kernel
theorem dX4_fillAnew_40 : decode cX4_fillAnew 40 = .ok (.iload_n 3, 1) := by decide +kernel
theorem dX4_fillAnew_41 : decode cX4_fillAnew 41 = .ok (.ireturn, 1) := by decide +kernel
theorem dX4_changeBoldness_0 : decode cX4_changeBoldness 0 = .ok (.aload_n 0, 1) := by decide +kernel
theorem dX4_changeBoldness_1 : decode cX4_changeBoldness 1 = .ok (.iload_n 1, 1) := by decide +kernel
theorem dX4_changeBoldness_2 : decode cX4_changeBoldness 2 = .ok (.invokevirtual 41, 3) := by decide +kernel
theorem dX4_changeBoldness_5 : decode cX4_changeBoldness 5 = .ok (.ifCond .ne 5, 3) := by decide +kernel
theorem dX4_changeBoldness_8 : decode cX4_changeBoldness 8 = .ok (.iconst (-1), 1) := by decide +kernel
theorem dX4_changeBoldness_9 : decode cX4_changeBoldness 9 = .ok (.ireturn, 1) := by decide +kernel
theorem dX4_changeBoldness_10 : decode cX4_changeBoldness 10 = .ok (.aload_n 0, 1) := by decide +kernel
theorem dX4_changeBoldness_11 : decode cX4_changeBoldness 11 = .ok (.getfield 19, 3) := by decide +kernel
theorem dX4_changeBoldness_14 : decode cX4_changeBoldness 14 = .ok (.iload_n 1, 1) := by decide +kernel
theorem dX4_changeBoldness_15 : decode cX4_changeBoldness 15 = .ok (.iaload, 1) := by decide +kernel
theorem dX4_changeBoldness_16 : decode cX4_changeBoldness 16 = .ok (.istore_n 3, 1) := by decide +kernel
theorem dX4_changeBoldness_17 : decode cX4_changeBoldness 17 = .ok (.aload_n 0, 1) := by decide +kernel
theorem dX4_changeBoldness_18 : decode cX4_changeBoldness 18 = .ok (.getfield 19, 3) := by decide +kernel
theorem dX4_changeBoldness_21 : decode cX4_changeBoldness 21 = .ok (.iload_n 1, 1) := by decide +kernel
theorem dX4_changeBoldness_22 : decode cX4_changeBoldness 22 = .ok (.iload_n 2, 1) := by decide +kernel
theorem dX4_changeBoldness_23 : decode cX4_changeBoldness 23 = .ok (.iastore, 1) := by decide +kernel
theorem dX4_changeBoldness_24 : decode cX4_changeBoldness 24 = .ok (.iload_n 3, 1) := by decide +kernel
theorem dX4_changeBoldness_25 : decode cX4_changeBoldness 25 = .ok (.ireturn, 1) := by decide +kernel
theorem dX4_learnAtLeast_0 : decode cX4_learnAtLeast 0 = .ok (.aload_n 0, 1) := by decide +kernel
theorem dX4_learnAtLeast_1 : decode cX4_learnAtLeast 1 = .ok (.iload_n 1, 1) := by decide +kernel
theorem dX4_learnAtLeast_2 : decode cX4_learnAtLeast 2 = .ok (.invokevirtual 41, 3) := by decide +kernel
theorem dX4_learnAtLeast_5 : decode cX4_learnAtLeast 5 = .ok (.ifCond .eq 20, 3) := by decide +kernel
theorem dX4_learnAtLeast_8 : decode cX4_learnAtLeast 8 = .ok (.aload_n 0, 1) := by decide +kernel
theorem dX4_learnAtLeast_9 : decode cX4_learnAtLeast 9 = .ok (.getfield 25, 3) := by decide +kernel
theorem dX4_learnAtLeast_12 : decode cX4_learnAtLeast 12 = .ok (.iload_n 1, 1) := by decide +kernel
theorem dX4_learnAtLeast_13 : decode cX4_learnAtLeast 13 = .ok (.iaload, 1) := by decide +kernel
theorem dX4_learnAtLeast_14 : decode cX4_learnAtLeast 14 = .ok (.iload_n 2, 1) := by decide +kernel
theorem dX4_learnAtLeast_15 : decode cX4_learnAtLeast 15 = .ok (.if_icmp .ge 10, 3) := by decide +kernel
theorem dX4_learnAtLeast_18 : decode cX4_learnAtLeast 18 = .ok (.aload_n 0, 1) := by decide +kernel
theorem dX4_learnAtLeast_19 : decode cX4_learnAtLeast 19 = .ok (.getfield 25, 3) := by decide +kernel
theorem dX4_learnAtLeast_22 : decode cX4_learnAtLeast 22 = .ok (.iload_n 1, 1) := by decide +kernel
theorem dX4_learnAtLeast_23 : decode cX4_learnAtLeast 23 = .ok (.iload_n 2, 1) := by decide +kernel
theorem dX4_learnAtLeast_24 : decode cX4_learnAtLeast 24 = .ok (.iastore, 1) := by decide +kernel
theorem dX4_learnAtLeast_25 : decode cX4_learnAtLeast 25 = .ok (.return_, 1) := by decide +kernel
theorem dX4_learnAtMost_0 : decode cX4_learnAtMost 0 = .ok (.aload_n 0, 1) := by decide +kernel
theorem dX4_learnAtMost_1 : decode cX4_learnAtMost 1 = .ok (.iload_n 1, 1) := by decide +kernel
theorem dX4_learnAtMost_2 : decode cX4_learnAtMost 2 = .ok (.invokevirtual 41, 3) := by decide +kernel
theorem dX4_learnAtMost_5 : decode cX4_learnAtMost 5 = .ok (.ifCond .eq 20, 3) := by decide +kernel
theorem dX4_learnAtMost_8 : decode cX4_learnAtMost 8 = .ok (.aload_n 0, 1) := by decide +kernel
theorem dX4_learnAtMost_9 : decode cX4_learnAtMost 9 = .ok (.getfield 28, 3) := by decide +kernel
theorem dX4_learnAtMost_12 : decode cX4_learnAtMost 12 = .ok (.iload_n 1, 1) := by decide +kernel
theorem dX4_learnAtMost_13 : decode cX4_learnAtMost 13 = .ok (.iaload, 1) := by decide +kernel
theorem dX4_learnAtMost_14 : decode cX4_learnAtMost 14 = .ok (.iload_n 2, 1) := by decide +kernel
theorem dX4_learnAtMost_15 : decode cX4_learnAtMost 15 = .ok (.if_icmp .le 10, 3) := by decide +kernel
theorem dX4_learnAtMost_18 : decode cX4_learnAtMost 18 = .ok (.aload_n 0, 1) := by decide +kernel
theorem dX4_learnAtMost_19 : decode cX4_learnAtMost 19 = .ok (.getfield 28, 3) := by decide +kernel
theorem dX4_learnAtMost_22 : decode cX4_learnAtMost 22 = .ok (.iload_n 1, 1) := by decide +kernel
theorem dX4_learnAtMost_23 : decode cX4_learnAtMost 23 = .ok (.iload_n 2, 1) := by decide +kernel
theorem dX4_learnAtMost_24 : decode cX4_learnAtMost 24 = .ok (.iastore, 1) := by decide +kernel
theorem dX4_learnAtMost_25 : decode cX4_learnAtMost 25 = .ok (.return_, 1) := by decide +kernel
theorem dX4_question_0 : decode cX4_question 0 = .ok (.aload_n 0, 1) := by decide +kernel
theorem dX4_question_1 : decode cX4_question 1 = .ok (.iload_n 1, 1) := by decide +kernel
theorem dX4_question_2 : decode cX4_question 2 = .ok (.invokevirtual 45, 3) := by decide +kernel
theorem dX4_question_5 : decode cX4_question 5 = .ok (.iload_n 2, 1) := by decide +kernel
theorem dX4_question_6 : decode cX4_question 6 = .ok (.if_icmp .lt 7, 3) := by decide +kernel
theorem dX4_question_9 : decode cX4_question 9 = .ok (.iconst 1, 1) := by decide +kernel
theorem dX4_question_10 : decode cX4_question 10 = .ok (.goto 4, 3) := by decide +kernel
theorem dX4_question_13 : decode cX4_question 13 = .ok (.iconst 0, 1) := by decide +kernel
theorem dX4_question_14 : decode cX4_question 14 = .ok (.istore_n 3, 1) := by decide +kernel
theorem dX4_question_15 : decode cX4_question 15 = .ok (.iload_n 3, 1) := by decide +kernel
theorem dX4_question_16 : decode cX4_question 16 = .ok (.ifCond .eq 12, 3) := by decide +kernel
theorem dX4_question_19 : decode cX4_question 19 = .ok (.aload_n 0, 1) := by decide +kernel
theorem dX4_question_20 : decode cX4_question 20 = .ok (.iload_n 1, 1) := by decide +kernel
theorem dX4_question_21 : decode cX4_question 21 = .ok (.iload_n 2, 1) := by decide +kernel
theorem dX4_question_22 : decode cX4_question 22 = .ok (.invokevirtual 49, 3) := by decide +kernel
theorem dX4_question_25 : decode cX4_question 25 = .ok (.goto 11, 3) := by decide +kernel
theorem dX4_question_28 : decode cX4_question 28 = .ok (.aload_n 0, 1) := by decide +kernel
theorem dX4_question_29 : decode cX4_question 29 = .ok (.iload_n 1, 1) := by decide +kernel
theorem dX4_question_30 : decode cX4_question 30 = .ok (.iload_n 2, 1) := by decide +kernel
theorem dX4_question_31 : decode cX4_question 31 = .ok (.iconst 1, 1) := by decide +kernel
theorem dX4_question_32 : decode cX4_question 32 = .ok (.isub, 1) := by decide +kernel
theorem dX4_question_33 : decode cX4_question 33 = .ok (.invokevirtual 53, 3) := by decide +kernel
theorem dX4_question_36 : decode cX4_question 36 = .ok (.iload_n 3, 1) := by decide +kernel
theorem dX4_question_37 : decode cX4_question 37 = .ok (.ireturn, 1) := by decide +kernel
theorem dX4_takeFrom_0 : decode cX4_takeFrom 0 = .ok (.aload_n 0, 1) := by decide +kernel
theorem dX4_takeFrom_1 : decode cX4_takeFrom 1 = .ok (.iload_n 1, 1) := by decide +kernel
theorem dX4_takeFrom_2 : decode cX4_takeFrom 2 = .ok (.invokevirtual 41, 3) := by decide +kernel
theorem dX4_takeFrom_5 : decode cX4_takeFrom 5 = .ok (.ifCond .ne 4, 3) := by decide +kernel
theorem dX4_takeFrom_8 : decode cX4_takeFrom 8 = .ok (.return_, 1) := by decide +kernel
theorem dX4_takeFrom_9 : decode cX4_takeFrom 9 = .ok (.aload_n 0, 1) := by decide +kernel
theorem dX4_takeFrom_10 : decode cX4_takeFrom 10 = .ok (.getfield 15, 3) := by decide +kernel
theorem dX4_takeFrom_13 : decode cX4_takeFrom 13 = .ok (.iload_n 1, 1) := by decide +kernel
theorem dX4_takeFrom_14 : decode cX4_takeFrom 14 = .ok (.dup2, 1) := by decide +kernel
theorem dX4_takeFrom_15 : decode cX4_takeFrom 15 = .ok (.iaload, 1) := by decide +kernel
theorem dX4_takeFrom_16 : decode cX4_takeFrom 16 = .ok (.iload_n 2, 1) := by decide +kernel
theorem dX4_takeFrom_17 : decode cX4_takeFrom 17 = .ok (.isub, 1) := by decide +kernel
theorem dX4_takeFrom_18 : decode cX4_takeFrom 18 = .ok (.iastore, 1) := by decide +kernel
theorem dX4_takeFrom_19 : decode cX4_takeFrom 19 = .ok (.aload_n 0, 1) := by decide +kernel
theorem dX4_takeFrom_20 : decode cX4_takeFrom 20 = .ok (.getfield 22, 3) := by decide +kernel
theorem dX4_takeFrom_23 : decode cX4_takeFrom 23 = .ok (.iload_n 1, 1) := by decide +kernel
theorem dX4_takeFrom_24 : decode cX4_takeFrom 24 = .ok (.dup2, 1) := by decide +kernel
theorem dX4_takeFrom_25 : decode cX4_takeFrom 25 = .ok (.iaload, 1) := by decide +kernel
theorem dX4_takeFrom_26 : decode cX4_takeFrom 26 = .ok (.iload_n 2, 1) := by decide +kernel
theorem dX4_takeFrom_27 : decode cX4_takeFrom 27 = .ok (.iadd, 1) := by decide +kernel
theorem dX4_takeFrom_28 : decode cX4_takeFrom 28 = .ok (.iastore, 1) := by decide +kernel
theorem dX4_takeFrom_29 : decode cX4_takeFrom 29 = .ok (.aload_n 0, 1) := by decide +kernel
theorem dX4_takeFrom_30 : decode cX4_takeFrom 30 = .ok (.getfield 25, 3) := by decide +kernel
theorem dX4_takeFrom_33 : decode cX4_takeFrom 33 = .ok (.iload_n 1, 1) := by decide +kernel
theorem dX4_takeFrom_34 : decode cX4_takeFrom 34 = .ok (.iconst 0, 1) := by decide +kernel
theorem dX4_takeFrom_35 : decode cX4_takeFrom 35 = .ok (.aload_n 0, 1) := by decide +kernel
theorem dX4_takeFrom_36 : decode cX4_takeFrom 36 = .ok (.getfield 25, 3) := by decide +kernel
theorem dX4_takeFrom_39 : decode cX4_takeFrom 39 = .ok (.iload_n 1, 1) := by decide +kernel
theorem dX4_takeFrom_40 : decode cX4_takeFrom 40 = .ok (.iaload, 1) := by decide +kernel
theorem dX4_takeFrom_41 : decode cX4_takeFrom 41 = .ok (.iload_n 2, 1) := by decide +kernel
theorem dX4_takeFrom_42 : decode cX4_takeFrom 42 = .ok (.isub, 1) := by decide +kernel
theorem dX4_takeFrom_43 : decode cX4_takeFrom 43 = .ok (.invokestatic 56, 3) := by decide +kernel
theorem dX4_takeFrom_46 : decode cX4_takeFrom 46 = .ok (.iastore, 1) := by decide +kernel
theorem dX4_takeFrom_47 : decode cX4_takeFrom 47 = .ok (.aload_n 0, 1) := by decide +kernel
theorem dX4_takeFrom_48 : decode cX4_takeFrom 48 = .ok (.getfield 28, 3) := by decide +kernel
theorem dX4_takeFrom_51 : decode cX4_takeFrom 51 = .ok (.iload_n 1, 1) := by decide +kernel
theorem dX4_takeFrom_52 : decode cX4_takeFrom 52 = .ok (.dup2, 1) := by decide +kernel
theorem dX4_takeFrom_53 : decode cX4_takeFrom 53 = .ok (.iaload, 1) := by decide +kernel
theorem dX4_takeFrom_54 : decode cX4_takeFrom 54 = .ok (.iload_n 2, 1) := by decide +kernel
theorem dX4_takeFrom_55 : decode cX4_takeFrom 55 = .ok (.isub, 1) := by decide +kernel
theorem dX4_takeFrom_56 : decode cX4_takeFrom 56 = .ok (.iastore, 1) := by decide +kernel
theorem dX4_takeFrom_57 : decode cX4_takeFrom 57 = .ok (.return_, 1) := by decide +kernel
theorem dX4_sum_0 : decode cX4_sum 0 = .ok (.iconst 0, 1) := by decide +kernel
theorem dX4_sum_1 : decode cX4_sum 1 = .ok (.istore_n 1, 1) := by decide +kernel
theorem dX4_sum_2 : decode cX4_sum 2 = .ok (.iconst 0, 1) := by decide +kernel
theorem dX4_sum_3 : decode cX4_sum 3 = .ok (.istore_n 2, 1) := by decide +kernel
theorem dX4_sum_4 : decode cX4_sum 4 = .ok (.iload_n 2, 1) := by decide +kernel
theorem dX4_sum_5 : decode cX4_sum 5 = .ok (.aload_n 0, 1) := by decide +kernel
theorem dX4_sum_6 : decode cX4_sum 6 = .ok (.getfield 9, 3) := by decide +kernel
theorem dX4_sum_9 : decode cX4_sum 9 = .ok (.if_icmp .ge 17, 3) := by decide +kernel
theorem dX4_sum_12 : decode cX4_sum 12 = .ok (.iload_n 1, 1) := by decide +kernel
theorem dX4_sum_13 : decode cX4_sum 13 = .ok (.aload_n 0, 1) := by decide +kernel
theorem dX4_sum_14 : decode cX4_sum 14 = .ok (.iload_n 2, 1) := by decide +kernel
theorem dX4_sum_15 : decode cX4_sum 15 = .ok (.invokevirtual 45, 3) := by decide +kernel
theorem dX4_sum_18 : decode cX4_sum 18 = .ok (.iadd, 1) := by decide +kernel
theorem dX4_sum_19 : decode cX4_sum 19 = .ok (.istore_n 1, 1) := by decide +kernel
theorem dX4_sum_20 : decode cX4_sum 20 = .ok (.iinc 2 1, 3) := by decide +kernel
theorem dX4_sum_23 : decode cX4_sum 23 = .ok (.goto (-19), 3) := by decide +kernel
theorem dX4_sum_26 : decode cX4_sum 26 = .ok (.iload_n 1, 1) := by decide +kernel
theorem dX4_sum_27 : decode cX4_sum 27 = .ok (.ireturn, 1) := by decide +kernel
theorem dX4_paidByAll_0 : decode cX4_paidByAll 0 = .ok (.iconst 0, 1) := by decide +kernel
theorem dX4_paidByAll_1 : decode cX4_paidByAll 1 = .ok (.istore_n 1, 1) := by decide +kernel
theorem dX4_paidByAll_2 : decode cX4_paidByAll 2 = .ok (.iconst 0, 1) := by decide +kernel
theorem dX4_paidByAll_3 : decode cX4_paidByAll 3 = .ok (.istore_n 2, 1) := by decide +kernel
theorem dX4_paidByAll_4 : decode cX4_paidByAll 4 = .ok (.iload_n 2, 1) := by decide +kernel
theorem dX4_paidByAll_5 : decode cX4_paidByAll 5 = .ok (.aload_n 0, 1) := by decide +kernel
theorem dX4_paidByAll_6 : decode cX4_paidByAll 6 = .ok (.getfield 9, 3) := by decide +kernel
theorem dX4_paidByAll_9 : decode cX4_paidByAll 9 = .ok (.if_icmp .ge 17, 3) := by decide +kernel
theorem dX4_paidByAll_12 : decode cX4_paidByAll 12 = .ok (.iload_n 1, 1) := by decide +kernel
theorem dX4_paidByAll_13 : decode cX4_paidByAll 13 = .ok (.aload_n 0, 1) := by decide +kernel
theorem dX4_paidByAll_14 : decode cX4_paidByAll 14 = .ok (.iload_n 2, 1) := by decide +kernel
theorem dX4_paidByAll_15 : decode cX4_paidByAll 15 = .ok (.invokevirtual 59, 3) := by decide +kernel
theorem dX4_paidByAll_18 : decode cX4_paidByAll 18 = .ok (.iadd, 1) := by decide +kernel
theorem dX4_paidByAll_19 : decode cX4_paidByAll 19 = .ok (.istore_n 1, 1) := by decide +kernel
theorem dX4_paidByAll_20 : decode cX4_paidByAll 20 = .ok (.iinc 2 1, 3) := by decide +kernel
theorem dX4_paidByAll_23 : decode cX4_paidByAll 23 = .ok (.goto (-19), 3) := by decide +kernel
theorem dX4_paidByAll_26 : decode cX4_paidByAll 26 = .ok (.iload_n 1, 1) := by decide +kernel
theorem dX4_paidByAll_27 : decode cX4_paidByAll 27 = .ok (.ireturn, 1) := by decide +kernel
theorem dX4_poorest_0 : decode cX4_poorest 0 = .ok (.iload_n 1, 1) := by decide +kernel
theorem dX4_poorest_1 : decode cX4_poorest 1 = .ok (.istore_n 2, 1) := by decide +kernel
theorem dX4_poorest_2 : decode cX4_poorest 2 = .ok (.iconst 1, 1) := by decide +kernel
theorem dX4_poorest_3 : decode cX4_poorest 3 = .ok (.istore_n 3, 1) := by decide +kernel
theorem dX4_poorest_4 : decode cX4_poorest 4 = .ok (.iload_n 3, 1) := by decide +kernel
theorem dX4_poorest_5 : decode cX4_poorest 5 = .ok (.aload_n 0, 1) := by decide +kernel
theorem dX4_poorest_6 : decode cX4_poorest 6 = .ok (.getfield 9, 3) := by decide +kernel
theorem dX4_poorest_9 : decode cX4_poorest 9 = .ok (.if_icmp .ge 34, 3) := by decide +kernel
theorem dX4_poorest_12 : decode cX4_poorest 12 = .ok (.aload_n 0, 1) := by decide +kernel
theorem dX4_poorest_13 : decode cX4_poorest 13 = .ok (.iload_n 1, 1) := by decide +kernel
theorem dX4_poorest_14 : decode cX4_poorest 14 = .ok (.iload_n 3, 1) := by decide +kernel
theorem dX4_poorest_15 : decode cX4_poorest 15 = .ok (.invokevirtual 62, 3) := by decide +kernel
theorem dX4_poorest_18 : decode cX4_poorest 18 = .ok (.istore 4, 2) := by decide +kernel
theorem dX4_poorest_20 : decode cX4_poorest 20 = .ok (.aload_n 0, 1) := by decide +kernel
theorem dX4_poorest_21 : decode cX4_poorest 21 = .ok (.iload 4, 2) := by decide +kernel
theorem dX4_poorest_23 : decode cX4_poorest 23 = .ok (.invokevirtual 45, 3) := by decide +kernel
theorem dX4_poorest_26 : decode cX4_poorest 26 = .ok (.aload_n 0, 1) := by decide +kernel
theorem dX4_poorest_27 : decode cX4_poorest 27 = .ok (.iload_n 2, 1) := by decide +kernel
theorem dX4_poorest_28 : decode cX4_poorest 28 = .ok (.invokevirtual 45, 3) := by decide +kernel
theorem dX4_poorest_31 : decode cX4_poorest 31 = .ok (.if_icmp .ge 6, 3) := by decide +kernel
theorem dX4_poorest_34 : decode cX4_poorest 34 = .ok (.iload 4, 2) := by decide +kernel
theorem dX4_poorest_36 : decode cX4_poorest 36 = .ok (.istore_n 2, 1) := by decide +kernel
theorem dX4_poorest_37 : decode cX4_poorest 37 = .ok (.iinc 3 1, 3) := by decide +kernel
theorem dX4_poorest_40 : decode cX4_poorest 40 = .ok (.goto (-36), 3) := by decide +kernel
theorem dX4_poorest_43 : decode cX4_poorest 43 = .ok (.iload_n 2, 1) := by decide +kernel
theorem dX4_poorest_44 : decode cX4_poorest 44 = .ok (.ireturn, 1) := by decide +kernel
theorem dX5_init_0 : decode cX5_init 0 = .ok (.aload_n 0, 1) := by decide +kernel
theorem dX5_init_1 : decode cX5_init 1 = .ok (.invokespecial 3, 3) := by decide +kernel
theorem dX5_init_4 : decode cX5_init 4 = .ok (.aload_n 0, 1) := by decide +kernel
theorem dX5_init_5 : decode cX5_init 5 = .ok (.sipush 1801, 3) := by decide +kernel
theorem dX5_init_8 : decode cX5_init 8 = .ok (.newarray .long, 2) := by decide +kernel
theorem dX5_init_10 : decode cX5_init 10 = .ok (.putfield 11, 3) := by decide +kernel
theorem dX5_init_13 : decode cX5_init 13 = .ok (.aload_n 0, 1) := by decide +kernel
theorem dX5_init_14 : decode cX5_init 14 = .ok (.sipush 1801, 3) := by decide +kernel
theorem dX5_init_17 : decode cX5_init 17 = .ok (.newarray .long, 2) := by decide +kernel
theorem dX5_init_19 : decode cX5_init 19 = .ok (.putfield 15, 3) := by decide +kernel
theorem dX5_init_22 : decode cX5_init 22 = .ok (.return_, 1) := by decide +kernel
theorem dX5_leastIn_0 : decode cX5_leastIn 0 = .ok (.aload_n 0, 1) := by decide +kernel
theorem dX5_leastIn_1 : decode cX5_leastIn 1 = .ok (.aload_n 1, 1) := by decide +kernel
theorem dX5_leastIn_2 : decode cX5_leastIn 2 = .ok (.iload_n 2, 1) := by decide +kernel
theorem dX5_leastIn_3 : decode cX5_leastIn 3 = .ok (.invokevirtual 18, 3) := by decide +kernel
theorem dX5_leastIn_6 : decode cX5_leastIn 6 = .ok (.aload_n 1, 1) := by decide +kernel
theorem dX5_leastIn_7 : decode cX5_leastIn 7 = .ok (.invokevirtual 22, 3) := by decide +kernel
theorem dX5_leastIn_10 : decode cX5_leastIn 10 = .ok (.istore_n 3, 1) := by decide +kernel
theorem dX5_leastIn_11 : decode cX5_leastIn 11 = .ok (.aload_n 1, 1) := by decide +kernel
theorem dX5_leastIn_12 : decode cX5_leastIn 12 = .ok (.iload_n 2, 1) := by decide +kernel
theorem dX5_leastIn_13 : decode cX5_leastIn 13 = .ok (.invokevirtual 28, 3) := by decide +kernel
theorem dX5_leastIn_16 : decode cX5_leastIn 16 = .ok (.istore 4, 2) := by decide +kernel
theorem dX5_leastIn_18 : decode cX5_leastIn 18 = .ok (.iload 4, 2) := by decide +kernel
theorem dX5_leastIn_20 : decode cX5_leastIn 20 = .ok (.istore 5, 2) := by decide +kernel
theorem dX5_leastIn_22 : decode cX5_leastIn 22 = .ok (.iload 5, 2) := by decide +kernel
theorem dX5_leastIn_24 : decode cX5_leastIn 24 = .ok (.aload_n 1, 1) := by decide +kernel
theorem dX5_leastIn_25 : decode cX5_leastIn 25 = .ok (.iload_n 2, 1) := by decide +kernel
theorem dX5_leastIn_26 : decode cX5_leastIn 26 = .ok (.invokevirtual 32, 3) := by decide +kernel
theorem dX5_leastIn_29 : decode cX5_leastIn 29 = .ok (.if_icmp .gt 25, 3) := by decide +kernel
theorem dX5_leastIn_32 : decode cX5_leastIn 32 = .ok (.aload_n 0, 1) := by decide +kernel
theorem dX5_leastIn_33 : decode cX5_leastIn 33 = .ok (.iload_n 3, 1) := by decide +kernel
theorem dX5_leastIn_34 : decode cX5_leastIn 34 = .ok (.iload 5, 2) := by decide +kernel
theorem dX5_leastIn_36 : decode cX5_leastIn 36 = .ok (.isub, 1) := by decide +kernel
theorem dX5_leastIn_37 : decode cX5_leastIn 37 = .ok (.invokevirtual 35, 3) := by decide +kernel
theorem dX5_leastIn_40 : decode cX5_leastIn 40 = .ok (.lconst 0, 1) := by decide +kernel
theorem dX5_leastIn_41 : decode cX5_leastIn 41 = .ok (.lcmp, 1) := by decide +kernel
theorem dX5_leastIn_42 : decode cX5_leastIn 42 = .ok (.ifCond .le 6, 3) := by decide +kernel
theorem dX5_leastIn_45 : decode cX5_leastIn 45 = .ok (.iload 5, 2) := by decide +kernel
theorem dX5_leastIn_47 : decode cX5_leastIn 47 = .ok (.ireturn, 1) := by decide +kernel
theorem dX5_leastIn_48 : decode cX5_leastIn 48 = .ok (.iinc 5 1, 3) := by decide +kernel
theorem dX5_leastIn_51 : decode cX5_leastIn 51 = .ok (.goto (-29), 3) := by decide +kernel
theorem dX5_leastIn_54 : decode cX5_leastIn 54 = .ok (.iload 4, 2) := by decide +kernel
theorem dX5_leastIn_56 : decode cX5_leastIn 56 = .ok (.ireturn, 1) := by decide +kernel
theorem dX5_greatestIn_0 : decode cX5_greatestIn 0 = .ok (.aload_n 0, 1) := by decide +kernel
theorem dX5_greatestIn_1 : decode cX5_greatestIn 1 = .ok (.aload_n 1, 1) := by decide +kernel
theorem dX5_greatestIn_2 : decode cX5_greatestIn 2 = .ok (.iload_n 2, 1) := by decide +kernel
theorem dX5_greatestIn_3 : decode cX5_greatestIn 3 = .ok (.invokevirtual 18, 3) := by decide +kernel
theorem dX5_greatestIn_6 : decode cX5_greatestIn 6 = .ok (.aload_n 1, 1) := by decide +kernel
theorem dX5_greatestIn_7 : decode cX5_greatestIn 7 = .ok (.invokevirtual 22, 3) := by decide +kernel
theorem dX5_greatestIn_10 : decode cX5_greatestIn 10 = .ok (.istore_n 3, 1) := by decide +kernel
theorem dX5_greatestIn_11 : decode cX5_greatestIn 11 = .ok (.aload_n 1, 1) := by decide +kernel
theorem dX5_greatestIn_12 : decode cX5_greatestIn 12 = .ok (.iload_n 2, 1) := by decide +kernel
theorem dX5_greatestIn_13 : decode cX5_greatestIn 13 = .ok (.invokevirtual 32, 3) := by decide +kernel
theorem dX5_greatestIn_16 : decode cX5_greatestIn 16 = .ok (.istore 4, 2) := by decide +kernel
theorem dX5_greatestIn_18 : decode cX5_greatestIn 18 = .ok (.iload 4, 2) := by decide +kernel
theorem dX5_greatestIn_20 : decode cX5_greatestIn 20 = .ok (.istore 5, 2) := by decide +kernel
theorem dX5_greatestIn_22 : decode cX5_greatestIn 22 = .ok (.iload 5, 2) := by decide +kernel
theorem dX5_greatestIn_24 : decode cX5_greatestIn 24 = .ok (.aload_n 1, 1) := by decide +kernel
theorem dX5_greatestIn_25 : decode cX5_greatestIn 25 = .ok (.iload_n 2, 1) := by decide +kernel
theorem dX5_greatestIn_26 : decode cX5_greatestIn 26 = .ok (.invokevirtual 28, 3) := by decide +kernel
theorem dX5_greatestIn_29 : decode cX5_greatestIn 29 = .ok (.if_icmp .lt 25, 3) := by decide +kernel
theorem dX5_greatestIn_32 : decode cX5_greatestIn 32 = .ok (.aload_n 0, 1) := by decide +kernel
theorem dX5_greatestIn_33 : decode cX5_greatestIn 33 = .ok (.iload_n 3, 1) := by decide +kernel
theorem dX5_greatestIn_34 : decode cX5_greatestIn 34 = .ok (.iload 5, 2) := by decide +kernel
theorem dX5_greatestIn_36 : decode cX5_greatestIn 36 = .ok (.isub, 1) := by decide +kernel
theorem dX5_greatestIn_37 : decode cX5_greatestIn 37 = .ok (.invokevirtual 35, 3) := by decide +kernel
theorem dX5_greatestIn_40 : decode cX5_greatestIn 40 = .ok (.lconst 0, 1) := by decide +kernel
theorem dX5_greatestIn_41 : decode cX5_greatestIn 41 = .ok (.lcmp, 1) := by decide +kernel
theorem dX5_greatestIn_42 : decode cX5_greatestIn 42 = .ok (.ifCond .le 6, 3) := by decide +kernel
theorem dX5_greatestIn_45 : decode cX5_greatestIn 45 = .ok (.iload 5, 2) := by decide +kernel
theorem dX5_greatestIn_47 : decode cX5_greatestIn 47 = .ok (.ireturn, 1) := by decide +kernel
theorem dX5_greatestIn_48 : decode cX5_greatestIn 48 = .ok (.iinc 5 (-1), 3) := by decide +kernel
theorem dX5_greatestIn_51 : decode cX5_greatestIn 51 = .ok (.goto (-29), 3) := by decide +kernel
theorem dX5_greatestIn_54 : decode cX5_greatestIn 54 = .ok (.iload 4, 2) := by decide +kernel
theorem dX5_greatestIn_56 : decode cX5_greatestIn 56 = .ok (.ireturn, 1) := by decide +kernel
theorem dX5_averageIn_0 : decode cX5_averageIn 0 = .ok (.aload_n 0, 1) := by decide +kernel
theorem dX5_averageIn_1 : decode cX5_averageIn 1 = .ok (.aload_n 1, 1) := by decide +kernel
theorem dX5_averageIn_2 : decode cX5_averageIn 2 = .ok (.iload_n 2, 1) := by decide +kernel
theorem dX5_averageIn_3 : decode cX5_averageIn 3 = .ok (.invokevirtual 18, 3) := by decide +kernel
theorem dX5_averageIn_6 : decode cX5_averageIn 6 = .ok (.aload_n 1, 1) := by decide +kernel
theorem dX5_averageIn_7 : decode cX5_averageIn 7 = .ok (.invokevirtual 22, 3) := by decide +kernel
theorem dX5_averageIn_10 : decode cX5_averageIn 10 = .ok (.istore_n 3, 1) := by decide +kernel
theorem dX5_averageIn_11 : decode cX5_averageIn 11 = .ok (.lconst 0, 1) := by decide +kernel
theorem dX5_averageIn_12 : decode cX5_averageIn 12 = .ok (.lstore 4, 2) := by decide +kernel
theorem dX5_averageIn_14 : decode cX5_averageIn 14 = .ok (.lconst 0, 1) := by decide +kernel
theorem dX5_averageIn_15 : decode cX5_averageIn 15 = .ok (.lstore 6, 2) := by decide +kernel
theorem dX5_averageIn_17 : decode cX5_averageIn 17 = .ok (.aload_n 1, 1) := by decide +kernel
theorem dX5_averageIn_18 : decode cX5_averageIn 18 = .ok (.iload_n 2, 1) := by decide +kernel
theorem dX5_averageIn_19 : decode cX5_averageIn 19 = .ok (.invokevirtual 28, 3) := by decide +kernel
theorem dX5_averageIn_22 : decode cX5_averageIn 22 = .ok (.istore 8, 2) := by decide +kernel
theorem dX5_averageIn_24 : decode cX5_averageIn 24 = .ok (.iload 8, 2) := by decide +kernel
theorem dX5_averageIn_26 : decode cX5_averageIn 26 = .ok (.aload_n 1, 1) := by decide +kernel
theorem dX5_averageIn_27 : decode cX5_averageIn 27 = .ok (.iload_n 2, 1) := by decide +kernel
theorem dX5_averageIn_28 : decode cX5_averageIn 28 = .ok (.invokevirtual 32, 3) := by decide +kernel
theorem dX5_averageIn_31 : decode cX5_averageIn 31 = .ok (.if_icmp .gt 37, 3) := by decide +kernel
theorem dX5_averageIn_34 : decode cX5_averageIn 34 = .ok (.aload_n 0, 1) := by decide +kernel
theorem dX5_averageIn_35 : decode cX5_averageIn 35 = .ok (.iload_n 3, 1) := by decide +kernel
theorem dX5_averageIn_36 : decode cX5_averageIn 36 = .ok (.iload 8, 2) := by decide +kernel
theorem dX5_averageIn_38 : decode cX5_averageIn 38 = .ok (.isub, 1) := by decide +kernel
theorem dX5_averageIn_39 : decode cX5_averageIn 39 = .ok (.invokevirtual 35, 3) := by decide +kernel
theorem dX5_averageIn_42 : decode cX5_averageIn 42 = .ok (.lstore 9, 2) := by decide +kernel
theorem dX5_averageIn_44 : decode cX5_averageIn 44 = .ok (.lload 4, 2) := by decide +kernel
theorem dX5_averageIn_46 : decode cX5_averageIn 46 = .ok (.lload 9, 2) := by decide +kernel
theorem dX5_averageIn_48 : decode cX5_averageIn 48 = .ok (.ladd, 1) := by decide +kernel
theorem dX5_averageIn_49 : decode cX5_averageIn 49 = .ok (.lstore 4, 2) := by decide +kernel
theorem dX5_averageIn_51 : decode cX5_averageIn 51 = .ok (.lload 6, 2) := by decide +kernel
theorem dX5_averageIn_53 : decode cX5_averageIn 53 = .ok (.lload 9, 2) := by decide +kernel
theorem dX5_averageIn_55 : decode cX5_averageIn 55 = .ok (.iload 8, 2) := by decide +kernel
theorem dX5_averageIn_57 : decode cX5_averageIn 57 = .ok (.i2l, 1) := by decide +kernel
theorem dX5_averageIn_58 : decode cX5_averageIn 58 = .ok (.lmul, 1) := by decide +kernel
theorem dX5_averageIn_59 : decode cX5_averageIn 59 = .ok (.ladd, 1) := by decide +kernel
theorem dX5_averageIn_60 : decode cX5_averageIn 60 = .ok (.lstore 6, 2) := by decide +kernel
theorem dX5_averageIn_62 : decode cX5_averageIn 62 = .ok (.iinc 8 1, 3) := by decide +kernel
theorem dX5_averageIn_65 : decode cX5_averageIn 65 = .ok (.goto (-41), 3) := by decide +kernel
theorem dX5_averageIn_68 : decode cX5_averageIn 68 = .ok (.lload 4, 2) := by decide +kernel
theorem dX5_averageIn_70 : decode cX5_averageIn 70 = .ok (.lconst 0, 1) := by decide +kernel
theorem dX5_averageIn_71 : decode cX5_averageIn 71 = .ok (.lcmp, 1) := by decide +kernel
theorem dX5_averageIn_72 : decode cX5_averageIn 72 = .ok (.ifCond .le 12, 3) := by decide +kernel
theorem dX5_averageIn_75 : decode cX5_averageIn 75 = .ok (.lload 6, 2) := by decide +kernel
theorem dX5_averageIn_77 : decode cX5_averageIn 77 = .ok (.lload 4, 2) := by decide +kernel
theorem dX5_averageIn_79 : decode cX5_averageIn 79 = .ok (.ldiv, 1) := by decide +kernel
theorem dX5_averageIn_80 : decode cX5_averageIn 80 = .ok (.l2i, 1) := by decide +kernel
theorem dX5_averageIn_81 : decode cX5_averageIn 81 = .ok (.goto 4, 3) := by decide +kernel
theorem dX5_averageIn_84 : decode cX5_averageIn 84 = .ok (.iconst 0, 1) := by decide +kernel
theorem dX5_averageIn_85 : decode cX5_averageIn 85 = .ok (.ireturn, 1) := by decide +kernel
theorem dX5_waysWith_0 : decode cX5_waysWith 0 = .ok (.aload_n 0, 1) := by decide +kernel
theorem dX5_waysWith_1 : decode cX5_waysWith 1 = .ok (.aload_n 1, 1) := by decide +kernel
theorem dX5_waysWith_2 : decode cX5_waysWith 2 = .ok (.iload_n 2, 1) := by decide +kernel
theorem dX5_waysWith_3 : decode cX5_waysWith 3 = .ok (.invokevirtual 18, 3) := by decide +kernel
theorem dX5_waysWith_6 : decode cX5_waysWith 6 = .ok (.aload_n 1, 1) := by decide +kernel
theorem dX5_waysWith_7 : decode cX5_waysWith 7 = .ok (.invokevirtual 22, 3) := by decide +kernel
theorem dX5_waysWith_10 : decode cX5_waysWith 10 = .ok (.istore 4, 2) := by decide +kernel
theorem dX5_waysWith_12 : decode cX5_waysWith 12 = .ok (.lconst 0, 1) := by decide +kernel
theorem dX5_waysWith_13 : decode cX5_waysWith 13 = .ok (.lstore 5, 2) := by decide +kernel
theorem dX5_waysWith_15 : decode cX5_waysWith 15 = .ok (.iload_n 3, 1) := by decide +kernel
theorem dX5_waysWith_16 : decode cX5_waysWith 16 = .ok (.aload_n 1, 1) := by decide +kernel
theorem dX5_waysWith_17 : decode cX5_waysWith 17 = .ok (.iload_n 2, 1) := by decide +kernel
theorem dX5_waysWith_18 : decode cX5_waysWith 18 = .ok (.invokevirtual 28, 3) := by decide +kernel
theorem dX5_waysWith_21 : decode cX5_waysWith 21 = .ok (.invokestatic 39, 3) := by decide +kernel
theorem dX5_waysWith_24 : decode cX5_waysWith 24 = .ok (.istore 7, 2) := by decide +kernel
theorem dX5_waysWith_26 : decode cX5_waysWith 26 = .ok (.iload 7, 2) := by decide +kernel
theorem dX5_waysWith_28 : decode cX5_waysWith 28 = .ok (.aload_n 1, 1) := by decide +kernel
theorem dX5_waysWith_29 : decode cX5_waysWith 29 = .ok (.iload_n 2, 1) := by decide +kernel
theorem dX5_waysWith_30 : decode cX5_waysWith 30 = .ok (.invokevirtual 32, 3) := by decide +kernel
theorem dX5_waysWith_33 : decode cX5_waysWith 33 = .ok (.if_icmp .gt 23, 3) := by decide +kernel
theorem dX5_waysWith_36 : decode cX5_waysWith 36 = .ok (.lload 5, 2) := by decide +kernel
theorem dX5_waysWith_38 : decode cX5_waysWith 38 = .ok (.aload_n 0, 1) := by decide +kernel
theorem dX5_waysWith_39 : decode cX5_waysWith 39 = .ok (.iload 4, 2) := by decide +kernel
theorem dX5_waysWith_41 : decode cX5_waysWith 41 = .ok (.iload 7, 2) := by decide +kernel
theorem dX5_waysWith_43 : decode cX5_waysWith 43 = .ok (.isub, 1) := by decide +kernel
theorem dX5_waysWith_44 : decode cX5_waysWith 44 = .ok (.invokevirtual 35, 3) := by decide +kernel
theorem dX5_waysWith_47 : decode cX5_waysWith 47 = .ok (.ladd, 1) := by decide +kernel
theorem dX5_waysWith_48 : decode cX5_waysWith 48 = .ok (.lstore 5, 2) := by decide +kernel
theorem dX5_waysWith_50 : decode cX5_waysWith 50 = .ok (.iinc 7 1, 3) := by decide +kernel
theorem dX5_waysWith_53 : decode cX5_waysWith 53 = .ok (.goto (-27), 3) := by decide +kernel
theorem dX5_waysWith_56 : decode cX5_waysWith 56 = .ok (.lload 5, 2) := by decide +kernel
theorem dX5_waysWith_58 : decode cX5_waysWith 58 = .ok (.lreturn, 1) := by decide +kernel
theorem dX5_takeInOthers_0 : decode cX5_takeInOthers 0 = .ok (.iconst 0, 1) := by decide +kernel
theorem dX5_takeInOthers_1 : decode cX5_takeInOthers 1 = .ok (.istore_n 3, 1) := by decide +kernel
theorem dX5_takeInOthers_2 : decode cX5_takeInOthers 2 = .ok (.iload_n 3, 1) := by decide +kernel
theorem dX5_takeInOthers_3 : decode cX5_takeInOthers 3 = .ok (.sipush 1801, 3) := by decide +kernel
theorem dX5_takeInOthers_6 : decode cX5_takeInOthers 6 = .ok (.if_icmp .ge 24, 3) := by decide +kernel
theorem dX5_takeInOthers_9 : decode cX5_takeInOthers 9 = .ok (.aload_n 0, 1) := by decide +kernel
theorem dX5_takeInOthers_10 : decode cX5_takeInOthers 10 = .ok (.getfield 11, 3) := by decide +kernel
theorem dX5_takeInOthers_13 : decode cX5_takeInOthers 13 = .ok (.iload_n 3, 1) := by decide +kernel
theorem dX5_takeInOthers_14 : decode cX5_takeInOthers 14 = .ok (.iload_n 3, 1) := by decide +kernel
theorem dX5_takeInOthers_15 : decode cX5_takeInOthers 15 = .ok (.ifCond .ne 7, 3) := by decide +kernel
theorem dX5_takeInOthers_18 : decode cX5_takeInOthers 18 = .ok (.lconst 1, 1) := by decide +kernel
theorem dX5_takeInOthers_19 : decode cX5_takeInOthers 19 = .ok (.goto 4, 3) := by decide +kernel
theorem dX5_takeInOthers_22 : decode cX5_takeInOthers 22 = .ok (.lconst 0, 1) := by decide +kernel
theorem dX5_takeInOthers_23 : decode cX5_takeInOthers 23 = .ok (.lastore, 1) := by decide +kernel
theorem dX5_takeInOthers_24 : decode cX5_takeInOthers 24 = .ok (.iinc 3 1, 3) := by decide +kernel
theorem dX5_takeInOthers_27 : decode cX5_takeInOthers 27 = .ok (.goto (-25), 3) := by decide +kernel
theorem dX5_takeInOthers_30 : decode cX5_takeInOthers 30 = .ok (.iconst 0, 1) := by decide +kernel
theorem dX5_takeInOthers_31 : decode cX5_takeInOthers 31 = .ok (.istore_n 3, 1) := by decide +kernel
theorem dX5_takeInOthers_32 : decode cX5_takeInOthers 32 = .ok (.iload_n 3, 1) := by decide +kernel
theorem dX5_takeInOthers_33 : decode cX5_takeInOthers 33 = .ok (.aload_n 1, 1) := by decide +kernel
theorem dX5_takeInOthers_34 : decode cX5_takeInOthers 34 = .ok (.getfield 45, 3) := by decide +kernel
theorem dX5_takeInOthers_37 : decode cX5_takeInOthers 37 = .ok (.if_icmp .ge 28, 3) := by decide +kernel
theorem dX5_takeInOthers_40 : decode cX5_takeInOthers 40 = .ok (.iload_n 3, 1) := by decide +kernel
theorem dX5_takeInOthers_41 : decode cX5_takeInOthers 41 = .ok (.iload_n 2, 1) := by decide +kernel
theorem dX5_takeInOthers_42 : decode cX5_takeInOthers 42 = .ok (.if_icmp .eq 17, 3) := by decide +kernel
theorem dX5_takeInOthers_45 : decode cX5_takeInOthers 45 = .ok (.aload_n 0, 1) := by decide +kernel
theorem dX5_takeInOthers_46 : decode cX5_takeInOthers 46 = .ok (.aload_n 1, 1) := by decide +kernel
theorem dX5_takeInOthers_47 : decode cX5_takeInOthers 47 = .ok (.iload_n 3, 1) := by decide +kernel
theorem dX5_takeInOthers_48 : decode cX5_takeInOthers 48 = .ok (.invokevirtual 28, 3) := by decide +kernel
theorem dX5_takeInOthers_51 : decode cX5_takeInOthers 51 = .ok (.aload_n 1, 1) := by decide +kernel
theorem dX5_takeInOthers_52 : decode cX5_takeInOthers 52 = .ok (.iload_n 3, 1) := by decide +kernel
theorem dX5_takeInOthers_53 : decode cX5_takeInOthers 53 = .ok (.invokevirtual 32, 3) := by decide +kernel
theorem dX5_takeInOthers_56 : decode cX5_takeInOthers 56 = .ok (.invokevirtual 49, 3) := by decide +kernel
theorem dX5_takeInOthers_59 : decode cX5_takeInOthers 59 = .ok (.iinc 3 1, 3) := by decide +kernel
theorem dX5_takeInOthers_62 : decode cX5_takeInOthers 62 = .ok (.goto (-30), 3) := by decide +kernel
theorem dX5_takeInOthers_65 : decode cX5_takeInOthers 65 = .ok (.return_, 1) := by decide +kernel
theorem dX5_takeIn_0 : decode cX5_takeIn 0 = .ok (.lconst 0, 1) := by decide +kernel
theorem dX5_takeIn_1 : decode cX5_takeIn 1 = .ok (.lstore_n 3, 1) := by decide +kernel
theorem dX5_takeIn_2 : decode cX5_takeIn 2 = .ok (.iconst 0, 1) := by decide +kernel
theorem dX5_takeIn_3 : decode cX5_takeIn 3 = .ok (.istore 5, 2) := by decide +kernel
theorem dX5_takeIn_5 : decode cX5_takeIn 5 = .ok (.iload 5, 2) := by decide +kernel
theorem dX5_takeIn_7 : decode cX5_takeIn 7 = .ok (.sipush 1801, 3) := by decide +kernel
theorem dX5_takeIn_10 : decode cX5_takeIn 10 = .ok (.if_icmp .ge 27, 3) := by decide +kernel
theorem dX5_takeIn_13 : decode cX5_takeIn 13 = .ok (.lload_n 3, 1) := by decide +kernel
theorem dX5_takeIn_14 : decode cX5_takeIn 14 = .ok (.aload_n 0, 1) := by decide +kernel
theorem dX5_takeIn_15 : decode cX5_takeIn 15 = .ok (.getfield 11, 3) := by decide +kernel
theorem dX5_takeIn_18 : decode cX5_takeIn 18 = .ok (.iload 5, 2) := by decide +kernel
theorem dX5_takeIn_20 : decode cX5_takeIn 20 = .ok (.laload, 1) := by decide +kernel
theorem dX5_takeIn_21 : decode cX5_takeIn 21 = .ok (.ladd, 1) := by decide +kernel
theorem dX5_takeIn_22 : decode cX5_takeIn 22 = .ok (.lstore_n 3, 1) := by decide +kernel
theorem dX5_takeIn_23 : decode cX5_takeIn 23 = .ok (.aload_n 0, 1) := by decide +kernel
theorem dX5_takeIn_24 : decode cX5_takeIn 24 = .ok (.getfield 15, 3) := by decide +kernel
theorem dX5_takeIn_27 : decode cX5_takeIn 27 = .ok (.iload 5, 2) := by decide +kernel
theorem dX5_takeIn_29 : decode cX5_takeIn 29 = .ok (.lload_n 3, 1) := by decide +kernel
theorem dX5_takeIn_30 : decode cX5_takeIn 30 = .ok (.lastore, 1) := by decide +kernel
theorem dX5_takeIn_31 : decode cX5_takeIn 31 = .ok (.iinc 5 1, 3) := by decide +kernel
theorem dX5_takeIn_34 : decode cX5_takeIn 34 = .ok (.goto (-29), 3) := by decide +kernel
theorem dX5_takeIn_37 : decode cX5_takeIn 37 = .ok (.iconst 0, 1) := by decide +kernel
theorem dX5_takeIn_38 : decode cX5_takeIn 38 = .ok (.istore 5, 2) := by decide +kernel
theorem dX5_takeIn_40 : decode cX5_takeIn 40 = .ok (.iload 5, 2) := by decide +kernel
theorem dX5_takeIn_42 : decode cX5_takeIn 42 = .ok (.sipush 1801, 3) := by decide +kernel
theorem dX5_takeIn_45 : decode cX5_takeIn 45 = .ok (.if_icmp .ge 35, 3) := by decide +kernel
theorem dX5_takeIn_48 : decode cX5_takeIn 48 = .ok (.aload_n 0, 1) := by decide +kernel
theorem dX5_takeIn_49 : decode cX5_takeIn 49 = .ok (.getfield 11, 3) := by decide +kernel
theorem dX5_takeIn_52 : decode cX5_takeIn 52 = .ok (.iload 5, 2) := by decide +kernel
theorem dX5_takeIn_54 : decode cX5_takeIn 54 = .ok (.aload_n 0, 1) := by decide +kernel
theorem dX5_takeIn_55 : decode cX5_takeIn 55 = .ok (.iload 5, 2) := by decide +kernel
theorem dX5_takeIn_57 : decode cX5_takeIn 57 = .ok (.iload_n 1, 1) := by decide +kernel
theorem dX5_takeIn_58 : decode cX5_takeIn 58 = .ok (.isub, 1) := by decide +kernel
theorem dX5_takeIn_59 : decode cX5_takeIn 59 = .ok (.invokevirtual 53, 3) := by decide +kernel
theorem dX5_takeIn_62 : decode cX5_takeIn 62 = .ok (.aload_n 0, 1) := by decide +kernel
theorem dX5_takeIn_63 : decode cX5_takeIn 63 = .ok (.iload 5, 2) := by decide +kernel
theorem dX5_takeIn_65 : decode cX5_takeIn 65 = .ok (.iload_n 2, 1) := by decide +kernel
theorem dX5_takeIn_66 : decode cX5_takeIn 66 = .ok (.isub, 1) := by decide +kernel
theorem dX5_takeIn_67 : decode cX5_takeIn 67 = .ok (.iconst 1, 1) := by decide +kernel
theorem dX5_takeIn_68 : decode cX5_takeIn 68 = .ok (.isub, 1) := by decide +kernel
theorem dX5_takeIn_69 : decode cX5_takeIn 69 = .ok (.invokevirtual 53, 3) := by decide +kernel
theorem dX5_takeIn_72 : decode cX5_takeIn 72 = .ok (.lsub, 1) := by decide +kernel
theorem dX5_takeIn_73 : decode cX5_takeIn 73 = .ok (.lastore, 1) := by decide +kernel
theorem dX5_takeIn_74 : decode cX5_takeIn 74 = .ok (.iinc 5 1, 3) := by decide +kernel
theorem dX5_takeIn_77 : decode cX5_takeIn 77 = .ok (.goto (-37), 3) := by decide +kernel
theorem dX5_takeIn_80 : decode cX5_takeIn 80 = .ok (.return_, 1) := by decide +kernel
theorem dX5_waysOf_0 : decode cX5_waysOf 0 = .ok (.iload_n 1, 1) := by decide +kernel
theorem dX5_waysOf_1 : decode cX5_waysOf 1 = .ok (.iconst 0, 1) := by decide +kernel
theorem dX5_waysOf_2 : decode cX5_waysOf 2 = .ok (.sipush 1800, 3) := by decide +kernel
theorem dX5_waysOf_5 : decode cX5_waysOf 5 = .ok (.invokestatic 56, 3) := by decide +kernel
theorem dX5_waysOf_8 : decode cX5_waysOf 8 = .ok (.ifCond .eq 12, 3) := by decide +kernel
theorem dX5_waysOf_11 : decode cX5_waysOf 11 = .ok (.aload_n 0, 1) := by decide +kernel
theorem dX5_waysOf_12 : decode cX5_waysOf 12 = .ok (.getfield 11, 3) := by decide +kernel
theorem dX5_waysOf_15 : decode cX5_waysOf 15 = .ok (.iload_n 1, 1) := by decide +kernel
theorem dX5_waysOf_16 : decode cX5_waysOf 16 = .ok (.laload, 1) := by decide +kernel
theorem dX5_waysOf_17 : decode cX5_waysOf 17 = .ok (.goto 4, 3) := by decide +kernel
theorem dX5_waysOf_20 : decode cX5_waysOf 20 = .ok (.lconst 0, 1) := by decide +kernel
theorem dX5_waysOf_21 : decode cX5_waysOf 21 = .ok (.lreturn, 1) := by decide +kernel
theorem dX5_waysUpTo_0 : decode cX5_waysUpTo 0 = .ok (.iload_n 1, 1) := by decide +kernel
theorem dX5_waysUpTo_1 : decode cX5_waysUpTo 1 = .ok (.iconst 0, 1) := by decide +kernel
theorem dX5_waysUpTo_2 : decode cX5_waysUpTo 2 = .ok (.sipush 1800, 3) := by decide +kernel
theorem dX5_waysUpTo_5 : decode cX5_waysUpTo 5 = .ok (.invokestatic 56, 3) := by decide +kernel
theorem dX5_waysUpTo_8 : decode cX5_waysUpTo 8 = .ok (.ifCond .eq 12, 3) := by decide +kernel
theorem dX5_waysUpTo_11 : decode cX5_waysUpTo 11 = .ok (.aload_n 0, 1) := by decide +kernel
theorem dX5_waysUpTo_12 : decode cX5_waysUpTo 12 = .ok (.getfield 15, 3) := by decide +kernel
theorem dX5_waysUpTo_15 : decode cX5_waysUpTo 15 = .ok (.iload_n 1, 1) := by decide +kernel
theorem dX5_waysUpTo_16 : decode cX5_waysUpTo 16 = .ok (.laload, 1) := by decide +kernel
theorem dX5_waysUpTo_17 : decode cX5_waysUpTo 17 = .ok (.goto 4, 3) := by decide +kernel
theorem dX5_waysUpTo_20 : decode cX5_waysUpTo 20 = .ok (.lconst 0, 1) := by decide +kernel
theorem dX5_waysUpTo_21 : decode cX5_waysUpTo 21 = .ok (.lreturn, 1) := by decide +kernel
theorem dX6_init_0 : decode cX6_init 0 = .ok (.aload_n 0, 1) := by decide +kernel
theorem dX6_init_1 : decode cX6_init 1 = .ok (.invokespecial 1, 3) := by decide +kernel
theorem dX6_init_4 : decode cX6_init 4 = .ok (.aload_n 0, 1) := by decide +kernel
theorem dX6_init_5 : decode cX6_init 5 = .ok (.new 7, 3) := by decide +kernel
theorem dX6_init_8 : decode cX6_init 8 = .ok (.dup, 1) := by decide +kernel
theorem dX6_init_9 : decode cX6_init 9 = .ok (.invokespecial 9, 3) := by decide +kernel
theorem dX6_init_12 : decode cX6_init 12 = .ok (.putfield 10, 3) := by decide +kernel
theorem dX6_init_15 : decode cX6_init 15 = .ok (.aload_n 0, 1) := by decide +kernel
theorem dX6_init_16 : decode cX6_init 16 = .ok (.new 7, 3) := by decide +kernel
theorem dX6_init_19 : decode cX6_init 19 = .ok (.dup, 1) := by decide +kernel
theorem dX6_init_20 : decode cX6_init 20 = .ok (.invokespecial 9, 3) := by decide +kernel
theorem dX6_init_23 : decode cX6_init 23 = .ok (.putfield 16, 3) := by decide +kernel
theorem dX6_init_26 : decode cX6_init 26 = .ok (.aload_n 0, 1) := by decide +kernel
theorem dX6_init_27 : decode cX6_init 27 = .ok (.iconst 2, 1) := by decide +kernel
theorem dX6_init_28 : decode cX6_init 28 = .ok (.anewarray 7, 3) := by decide +kernel
theorem dX6_init_31 : decode cX6_init 31 = .ok (.putfield 19, 3) := by decide +kernel
theorem dX6_init_34 : decode cX6_init 34 = .ok (.aload_n 0, 1) := by decide +kernel
theorem dX6_init_35 : decode cX6_init 35 = .ok (.new 23, 3) := by decide +kernel
theorem dX6_init_38 : decode cX6_init 38 = .ok (.dup, 1) := by decide +kernel
theorem dX6_init_39 : decode cX6_init 39 = .ok (.invokespecial 25, 3) := by decide +kernel
theorem dX6_init_42 : decode cX6_init 42 = .ok (.putfield 26, 3) := by decide +kernel
theorem dX6_init_45 : decode cX6_init 45 = .ok (.aload_n 0, 1) := by decide +kernel
theorem dX6_init_46 : decode cX6_init 46 = .ok (.new 30, 3) := by decide +kernel
theorem dX6_init_49 : decode cX6_init 49 = .ok (.dup, 1) := by decide +kernel
theorem dX6_init_50 : decode cX6_init 50 = .ok (.invokespecial 32, 3) := by decide +kernel
theorem dX6_init_53 : decode cX6_init 53 = .ok (.putfield 33, 3) := by decide +kernel
theorem dX6_init_56 : decode cX6_init 56 = .ok (.aload_n 0, 1) := by decide +kernel
theorem dX6_init_57 : decode cX6_init 57 = .ok (.getfield 10, 3) := by decide +kernel
theorem dX6_init_60 : decode cX6_init 60 = .ok (.iconst 3, 1) := by decide +kernel
theorem dX6_init_61 : decode cX6_init 61 = .ok (.invokevirtual 37, 3) := by decide +kernel
theorem dX6_init_64 : decode cX6_init 64 = .ok (.return_, 1) := by decide +kernel
theorem dX6_setUp_0 : decode cX6_setUp 0 = .ok (.iload_n 1, 1) := by decide +kernel
theorem dX6_setUp_1 : decode cX6_setUp 1 = .ok (.iconst 2, 1) := by decide +kernel
theorem dX6_setUp_2 : decode cX6_setUp 2 = .ok (.bipush 6, 2) := by decide +kernel
theorem dX6_setUp_4 : decode cX6_setUp 4 = .ok (.invokestatic 41, 3) := by decide +kernel
theorem dX6_setUp_7 : decode cX6_setUp 7 = .ok (.ifCond .ne 6, 3) := by decide +kernel
theorem dX6_setUp_10 : decode cX6_setUp 10 = .ok (.bipush (-2), 2) := by decide +kernel
theorem dX6_setUp_12 : decode cX6_setUp 12 = .ok (.ireturn, 1) := by decide +kernel
theorem dX6_setUp_13 : decode cX6_setUp 13 = .ok (.aload_n 0, 1) := by decide +kernel
theorem dX6_setUp_14 : decode cX6_setUp 14 = .ok (.getfield 10, 3) := by decide +kernel
theorem dX6_setUp_17 : decode cX6_setUp 17 = .ok (.getfield 45, 3) := by decide +kernel
theorem dX6_setUp_20 : decode cX6_setUp 20 = .ok (.getfield 49, 3) := by decide +kernel
theorem dX6_setUp_23 : decode cX6_setUp 23 = .ok (.istore_n 2, 1) := by decide +kernel
theorem dX6_setUp_24 : decode cX6_setUp 24 = .ok (.aload_n 0, 1) := by decide +kernel
theorem dX6_setUp_25 : decode cX6_setUp 25 = .ok (.getfield 10, 3) := by decide +kernel
theorem dX6_setUp_28 : decode cX6_setUp 28 = .ok (.iload_n 1, 1) := by decide +kernel
theorem dX6_setUp_29 : decode cX6_setUp 29 = .ok (.invokevirtual 37, 3) := by decide +kernel
theorem dX6_setUp_32 : decode cX6_setUp 32 = .ok (.iload_n 2, 1) := by decide +kernel
theorem dX6_setUp_33 : decode cX6_setUp 33 = .ok (.ireturn, 1) := by decide +kernel
theorem dX6_set_0 : decode cX6_set 0 = .ok (.iload_n 1, 1) := by decide +kernel
theorem dX6_set_1 : decode cX6_set 1 = .ok (.iload_n 2, 1) := by decide +kernel
theorem dX6_set_2 : decode cX6_set 2 = .ok (.invokestatic 55, 3) := by decide +kernel
theorem dX6_set_5 : decode cX6_set 5 = .ok (.ifCond .ne 6, 3) := by decide +kernel
theorem dX6_set_8 : decode cX6_set 8 = .ok (.bipush (-2), 2) := by decide +kernel
theorem dX6_set_10 : decode cX6_set 10 = .ok (.ireturn, 1) := by decide +kernel
theorem dX6_set_11 : decode cX6_set 11 = .ok (.aload_n 0, 1) := by decide +kernel
theorem dX6_set_12 : decode cX6_set 12 = .ok (.getfield 10, 3) := by decide +kernel
theorem dX6_set_15 : decode cX6_set 15 = .ok (.getfield 59, 3) := by decide +kernel
theorem dX6_set_18 : decode cX6_set 18 = .ok (.invokevirtual 63, 3) := by decide +kernel
theorem dX6_set_21 : decode cX6_set 21 = .ok (.ifCond .eq 6, 3) := by decide +kernel
theorem dX6_set_24 : decode cX6_set 24 = .ok (.bipush (-5), 2) := by decide +kernel
theorem dX6_set_26 : decode cX6_set 26 = .ok (.ireturn, 1) := by decide +kernel
theorem dX6_set_27 : decode cX6_set 27 = .ok (.aload_n 0, 1) := by decide +kernel
theorem dX6_set_28 : decode cX6_set 28 = .ok (.getfield 10, 3) := by decide +kernel
theorem dX6_set_31 : decode cX6_set 31 = .ok (.iload_n 1, 1) := by decide +kernel
theorem dX6_set_32 : decode cX6_set 32 = .ok (.iload_n 2, 1) := by decide +kernel
theorem dX6_set_33 : decode cX6_set 33 = .ok (.invokevirtual 69, 3) := by decide +kernel
theorem dX6_set_36 : decode cX6_set 36 = .ok (.ireturn, 1) := by decide +kernel
theorem dX6_fill_0 : decode cX6_fill 0 = .ok (.aload_n 0, 1) := by decide +kernel
theorem dX6_fill_1 : decode cX6_fill 1 = .ok (.getfield 10, 3) := by decide +kernel
theorem dX6_fill_4 : decode cX6_fill 4 = .ok (.getfield 45, 3) := by decide +kernel
theorem dX6_fill_7 : decode cX6_fill 7 = .ok (.iload_n 1, 1) := by decide +kernel
theorem dX6_fill_8 : decode cX6_fill 8 = .ok (.invokevirtual 73, 3) := by decide +kernel
theorem dX6_fill_11 : decode cX6_fill 11 = .ok (.ifCond .ne 5, 3) := by decide +kernel
theorem dX6_fill_14 : decode cX6_fill 14 = .ok (.iconst (-1), 1) := by decide +kernel
theorem dX6_fill_15 : decode cX6_fill 15 = .ok (.ireturn, 1) := by decide +kernel
theorem dX6_fill_16 : decode cX6_fill 16 = .ok (.iload_n 2, 1) := by decide +kernel
theorem dX6_fill_17 : decode cX6_fill 17 = .ok (.iconst 0, 1) := by decide +kernel
theorem dX6_fill_18 : decode cX6_fill 18 = .ok (.sipush 300, 3) := by decide +kernel
theorem dX6_fill_21 : decode cX6_fill 21 = .ok (.invokestatic 41, 3) := by decide +kernel
theorem dX6_fill_24 : decode cX6_fill 24 = .ok (.ifCond .ne 6, 3) := by decide +kernel
theorem dX6_fill_27 : decode cX6_fill 27 = .ok (.bipush (-2), 2) := by decide +kernel
theorem dX6_fill_29 : decode cX6_fill 29 = .ok (.ireturn, 1) := by decide +kernel
theorem dX6_fill_30 : decode cX6_fill 30 = .ok (.aload_n 0, 1) := by decide +kernel
theorem dX6_fill_31 : decode cX6_fill 31 = .ok (.getfield 10, 3) := by decide +kernel
theorem dX6_fill_34 : decode cX6_fill 34 = .ok (.invokevirtual 77, 3) := by decide +kernel
theorem dX6_fill_37 : decode cX6_fill 37 = .ok (.ifCond .ne 6, 3) := by decide +kernel
theorem dX6_fill_40 : decode cX6_fill 40 = .ok (.bipush (-5), 2) := by decide +kernel
theorem dX6_fill_42 : decode cX6_fill 42 = .ok (.ireturn, 1) := by decide +kernel
theorem dX6_fill_43 : decode cX6_fill 43 = .ok (.aload_n 0, 1) := by decide +kernel
theorem dX6_fill_44 : decode cX6_fill 44 = .ok (.getfield 10, 3) := by decide +kernel
theorem dX6_fill_47 : decode cX6_fill 47 = .ok (.getfield 45, 3) := by decide +kernel
theorem dX6_fill_50 : decode cX6_fill 50 = .ok (.iload_n 1, 1) := by decide +kernel
theorem dX6_fill_51 : decode cX6_fill 51 = .ok (.iload_n 2, 1) := by decide +kernel
theorem dX6_fill_52 : decode cX6_fill 52 = .ok (.invokevirtual 80, 3) := by decide +kernel
theorem dX6_fill_55 : decode cX6_fill 55 = .ok (.ireturn, 1) := by decide +kernel
theorem dX6_embolden_0 : decode cX6_embolden 0 = .ok (.aload_n 0, 1) := by decide +kernel
theorem dX6_embolden_1 : decode cX6_embolden 1 = .ok (.getfield 10, 3) := by decide +kernel
theorem dX6_embolden_4 : decode cX6_embolden 4 = .ok (.getfield 45, 3) := by decide +kernel
theorem dX6_embolden_7 : decode cX6_embolden 7 = .ok (.iload_n 1, 1) := by decide +kernel
theorem dX6_embolden_8 : decode cX6_embolden 8 = .ok (.invokevirtual 73, 3) := by decide +kernel
theorem dX6_embolden_11 : decode cX6_embolden 11 = .ok (.ifCond .ne 5, 3) := by decide +kernel
theorem dX6_embolden_14 : decode cX6_embolden 14 = .ok (.iconst (-1), 1) := by decide +kernel
theorem dX6_embolden_15 : decode cX6_embolden 15 = .ok (.ireturn, 1) := by decide +kernel
theorem dX6_embolden_16 : decode cX6_embolden 16 = .ok (.iload_n 2, 1) := by decide +kernel
theorem dX6_embolden_17 : decode cX6_embolden 17 = .ok (.iconst 0, 1) := by decide +kernel
theorem dX6_embolden_18 : decode cX6_embolden 18 = .ok (.bipush 30, 2) := by decide +kernel
theorem dX6_embolden_20 : decode cX6_embolden 20 = .ok (.invokestatic 41, 3) := by decide +kernel
theorem dX6_embolden_23 : decode cX6_embolden 23 = .ok (.ifCond .ne 6, 3) := by decide +kernel
theorem dX6_embolden_26 : decode cX6_embolden 26 = .ok (.bipush (-2), 2) := by decide +kernel
theorem dX6_embolden_28 : decode cX6_embolden 28 = .ok (.ireturn, 1) := by decide +kernel
theorem dX6_embolden_29 : decode cX6_embolden 29 = .ok (.aload_n 0, 1) := by decide +kernel
theorem dX6_embolden_30 : decode cX6_embolden 30 = .ok (.getfield 10, 3) := by decide +kernel
theorem dX6_embolden_33 : decode cX6_embolden 33 = .ok (.getfield 45, 3) := by decide +kernel
theorem dX6_embolden_36 : decode cX6_embolden 36 = .ok (.iload_n 1, 1) := by decide +kernel
theorem dX6_embolden_37 : decode cX6_embolden 37 = .ok (.iload_n 2, 1) := by decide +kernel
theorem dX6_embolden_38 : decode cX6_embolden 38 = .ok (.invokevirtual 83, 3) := by decide +kernel
theorem dX6_embolden_41 : decode cX6_embolden 41 = .ok (.ireturn, 1) := by decide +kernel
theorem dX6_lot_0 : decode cX6_lot 0 = .ok (.iload_n 1, 1) := by decide +kernel
theorem dX6_lot_1 : decode cX6_lot 1 = .ok (.iconst 0, 1) := by decide +kernel
theorem dX6_lot_2 : decode cX6_lot 2 = .ok (.iconst 5, 1) := by decide +kernel
theorem dX6_lot_3 : decode cX6_lot 3 = .ok (.invokestatic 41, 3) := by decide +kernel
theorem dX6_lot_6 : decode cX6_lot 6 = .ok (.ifCond .eq 13, 3) := by decide +kernel
theorem dX6_lot_9 : decode cX6_lot 9 = .ok (.iload_n 2, 1) := by decide +kernel
theorem dX6_lot_10 : decode cX6_lot 10 = .ok (.iconst 1, 1) := by decide +kernel
theorem dX6_lot_11 : decode cX6_lot 11 = .ok (.bipush 50, 2) := by decide +kernel
theorem dX6_lot_13 : decode cX6_lot 13 = .ok (.invokestatic 41, 3) := by decide +kernel
theorem dX6_lot_16 : decode cX6_lot 16 = .ok (.ifCond .ne 6, 3) := by decide +kernel
theorem dX6_lot_19 : decode cX6_lot 19 = .ok (.bipush (-2), 2) := by decide +kernel
theorem dX6_lot_21 : decode cX6_lot 21 = .ok (.ireturn, 1) := by decide +kernel
theorem dX6_lot_22 : decode cX6_lot 22 = .ok (.aload_n 0, 1) := by decide +kernel
theorem dX6_lot_23 : decode cX6_lot 23 = .ok (.getfield 10, 3) := by decide +kernel
theorem dX6_lot_26 : decode cX6_lot 26 = .ok (.getfield 86, 3) := by decide +kernel
theorem dX6_lot_29 : decode cX6_lot 29 = .ok (.invokevirtual 90, 3) := by decide +kernel
theorem dX6_lot_32 : decode cX6_lot 32 = .ok (.ifCond .eq 6, 3) := by decide +kernel
theorem dX6_lot_35 : decode cX6_lot 35 = .ok (.bipush (-4), 2) := by decide +kernel
theorem dX6_lot_37 : decode cX6_lot 37 = .ok (.ireturn, 1) := by decide +kernel
theorem dX6_lot_38 : decode cX6_lot 38 = .ok (.aload_n 0, 1) := by decide +kernel
theorem dX6_lot_39 : decode cX6_lot 39 = .ok (.getfield 10, 3) := by decide +kernel
theorem dX6_lot_42 : decode cX6_lot 42 = .ok (.invokevirtual 77, 3) := by decide +kernel
theorem dX6_lot_45 : decode cX6_lot 45 = .ok (.ifCond .ne 6, 3) := by decide +kernel
theorem dX6_lot_48 : decode cX6_lot 48 = .ok (.bipush (-5), 2) := by decide +kernel
theorem dX6_lot_50 : decode cX6_lot 50 = .ok (.ireturn, 1) := by decide +kernel
theorem dX6_lot_51 : decode cX6_lot 51 = .ok (.aload_n 0, 1) := by decide +kernel
theorem dX6_lot_52 : decode cX6_lot 52 = .ok (.getfield 10, 3) := by decide +kernel
theorem dX6_lot_55 : decode cX6_lot 55 = .ok (.getfield 86, 3) := by decide +kernel
theorem dX6_lot_58 : decode cX6_lot 58 = .ok (.iload_n 1, 1) := by decide +kernel
theorem dX6_lot_59 : decode cX6_lot 59 = .ok (.iload_n 2, 1) := by decide +kernel
theorem dX6_lot_60 : decode cX6_lot 60 = .ok (.invokevirtual 95, 3) := by decide +kernel
theorem dX6_lot_63 : decode cX6_lot 63 = .ok (.ireturn, 1) := by decide +kernel
theorem dX6_begin_0 : decode cX6_begin 0 = .ok (.aload_n 0, 1) := by decide +kernel
theorem dX6_begin_1 : decode cX6_begin 1 = .ok (.getfield 10, 3) := by decide +kernel
theorem dX6_begin_4 : decode cX6_begin 4 = .ok (.iload_n 1, 1) := by decide +kernel
theorem dX6_begin_5 : decode cX6_begin 5 = .ok (.iload_n 2, 1) := by decide +kernel
theorem dX6_begin_6 : decode cX6_begin 6 = .ok (.invokevirtual 98, 3) := by decide +kernel
theorem dX6_begin_9 : decode cX6_begin 9 = .ok (.ireturn, 1) := by decide +kernel
theorem dX6_bid_0 : decode cX6_bid 0 = .ok (.aload_n 0, 1) := by decide +kernel
theorem dX6_bid_1 : decode cX6_bid 1 = .ok (.getfield 10, 3) := by decide +kernel
theorem dX6_bid_4 : decode cX6_bid 4 = .ok (.iload_n 1, 1) := by decide +kernel
theorem dX6_bid_5 : decode cX6_bid 5 = .ok (.iload_n 2, 1) := by decide +kernel
theorem dX6_bid_6 : decode cX6_bid 6 = .ok (.invokevirtual 101, 3) := by decide +kernel
theorem dX6_bid_9 : decode cX6_bid 9 = .ok (.ireturn, 1) := by decide +kernel
theorem dX6_pass_0 : decode cX6_pass 0 = .ok (.aload_n 0, 1) := by decide +kernel
theorem dX6_pass_1 : decode cX6_pass 1 = .ok (.getfield 10, 3) := by decide +kernel
theorem dX6_pass_4 : decode cX6_pass 4 = .ok (.iload_n 1, 1) := by decide +kernel
theorem dX6_pass_5 : decode cX6_pass 5 = .ok (.invokevirtual 104, 3) := by decide +kernel
theorem dX6_pass_8 : decode cX6_pass 8 = .ok (.ireturn, 1) := by decide +kernel
theorem dX6_move_0 : decode cX6_move 0 = .ok (.aload_n 0, 1) := by decide +kernel
theorem dX6_move_1 : decode cX6_move 1 = .ok (.getfield 10, 3) := by decide +kernel
theorem dX6_move_4 : decode cX6_move 4 = .ok (.invokevirtual 108, 3) := by decide +kernel
theorem dX6_move_7 : decode cX6_move 7 = .ok (.ireturn, 1) := by decide +kernel
theorem dX6_last_0 : decode cX6_last 0 = .ok (.aload_n 0, 1) := by decide +kernel
theorem dX6_last_1 : decode cX6_last 1 = .ok (.getfield 10, 3) := by decide +kernel
theorem dX6_last_4 : decode cX6_last 4 = .ok (.invokevirtual 112, 3) := by decide +kernel
theorem dX6_last_7 : decode cX6_last 7 = .ok (.ireturn, 1) := by decide +kernel
theorem dX6_ask_0 : decode cX6_ask 0 = .ok (.aload_n 0, 1) := by decide +kernel
theorem dX6_ask_1 : decode cX6_ask 1 = .ok (.getfield 10, 3) := by decide +kernel
theorem dX6_ask_4 : decode cX6_ask 4 = .ok (.getfield 45, 3) := by decide +kernel
theorem dX6_ask_7 : decode cX6_ask 7 = .ok (.iload_n 1, 1) := by decide +kernel
theorem dX6_ask_8 : decode cX6_ask 8 = .ok (.invokevirtual 73, 3) := by decide +kernel
theorem dX6_ask_11 : decode cX6_ask 11 = .ok (.ifCond .ne 5, 3) := by decide +kernel
theorem dX6_ask_14 : decode cX6_ask 14 = .ok (.iconst (-1), 1) := by decide +kernel
theorem dX6_ask_15 : decode cX6_ask 15 = .ok (.ireturn, 1) := by decide +kernel
theorem dX6_ask_16 : decode cX6_ask 16 = .ok (.iload_n 2, 1) := by decide +kernel
theorem dX6_ask_17 : decode cX6_ask 17 = .ok (.iconst 1, 1) := by decide +kernel
theorem dX6_ask_18 : decode cX6_ask 18 = .ok (.sipush 300, 3) := by decide +kernel
theorem dX6_ask_21 : decode cX6_ask 21 = .ok (.invokestatic 41, 3) := by decide +kernel
theorem dX6_ask_24 : decode cX6_ask 24 = .ok (.ifCond .ne 6, 3) := by decide +kernel
theorem dX6_ask_27 : decode cX6_ask 27 = .ok (.bipush (-2), 2) := by decide +kernel
theorem dX6_ask_29 : decode cX6_ask 29 = .ok (.ireturn, 1) := by decide +kernel
theorem dX6_ask_30 : decode cX6_ask 30 = .ok (.aload_n 0, 1) := by decide +kernel
theorem dX6_ask_31 : decode cX6_ask 31 = .ok (.getfield 10, 3) := by decide +kernel
theorem dX6_ask_34 : decode cX6_ask 34 = .ok (.getfield 59, 3) := by decide +kernel
theorem dX6_ask_37 : decode cX6_ask 37 = .ok (.invokevirtual 63, 3) := by decide +kernel
theorem dX6_ask_40 : decode cX6_ask 40 = .ok (.ifCond .eq 6, 3) := by decide +kernel
theorem dX6_ask_43 : decode cX6_ask 43 = .ok (.bipush (-5), 2) := by decide +kernel
theorem dX6_ask_45 : decode cX6_ask 45 = .ok (.ireturn, 1) := by decide +kernel
theorem dX6_ask_46 : decode cX6_ask 46 = .ok (.aload_n 0, 1) := by decide +kernel
theorem dX6_ask_47 : decode cX6_ask 47 = .ok (.getfield 10, 3) := by decide +kernel
theorem dX6_ask_50 : decode cX6_ask 50 = .ok (.getfield 45, 3) := by decide +kernel
theorem dX6_ask_53 : decode cX6_ask 53 = .ok (.iload_n 1, 1) := by decide +kernel
theorem dX6_ask_54 : decode cX6_ask 54 = .ok (.iload_n 2, 1) := by decide +kernel
theorem dX6_ask_55 : decode cX6_ask 55 = .ok (.invokevirtual 115, 3) := by decide +kernel
theorem dX6_ask_58 : decode cX6_ask 58 = .ok (.ifCond .eq 7, 3) := by decide +kernel
theorem dX6_ask_61 : decode cX6_ask 61 = .ok (.iconst 1, 1) := by decide +kernel
theorem dX6_ask_62 : decode cX6_ask 62 = .ok (.goto 4, 3) := by decide +kernel
theorem dX6_ask_65 : decode cX6_ask 65 = .ok (.iconst 0, 1) := by decide +kernel
theorem dX6_ask_66 : decode cX6_ask 66 = .ok (.ireturn, 1) := by decide +kernel
theorem dX6_player_0 : decode cX6_player 0 = .ok (.aload_n 0, 1) := by decide +kernel
theorem dX6_player_1 : decode cX6_player 1 = .ok (.getfield 10, 3) := by decide +kernel
theorem dX6_player_4 : decode cX6_player 4 = .ok (.getfield 45, 3) := by decide +kernel
theorem dX6_player_7 : decode cX6_player 7 = .ok (.iload_n 1, 1) := by decide +kernel
theorem dX6_player_8 : decode cX6_player 8 = .ok (.invokevirtual 73, 3) := by decide +kernel
theorem dX6_player_11 : decode cX6_player 11 = .ok (.ifCond .ne 5, 3) := by decide +kernel
theorem dX6_player_14 : decode cX6_player 14 = .ok (.iconst (-1), 1) := by decide +kernel
theorem dX6_player_15 : decode cX6_player 15 = .ok (.ireturn, 1) := by decide +kernel
theorem dX6_player_16 : decode cX6_player 16 = .ok (.iload_n 2, 1) := by decide +kernel
theorem dX6_player_17 : decode cX6_player 17 = .ok (.tableswitch 171 0 9 #[55, 67, 79, 91, 100, 109, 118, 130, 139, 151], 55) := by decide +kernel
theorem dX6_player_72 : decode cX6_player 72 = .ok (.aload_n 0, 1) := by decide +kernel
theorem dX6_player_73 : decode cX6_player 73 = .ok (.getfield 10, 3) := by decide +kernel
theorem dX6_player_76 : decode cX6_player 76 = .ok (.getfield 45, 3) := by decide +kernel
theorem dX6_player_79 : decode cX6_player 79 = .ok (.iload_n 1, 1) := by decide +kernel
theorem dX6_player_80 : decode cX6_player 80 = .ok (.invokevirtual 118, 3) := by decide +kernel
theorem dX6_player_83 : decode cX6_player 83 = .ok (.ireturn, 1) := by decide +kernel
theorem dX6_player_84 : decode cX6_player 84 = .ok (.aload_n 0, 1) := by decide +kernel
theorem dX6_player_85 : decode cX6_player 85 = .ok (.getfield 10, 3) := by decide +kernel
theorem dX6_player_88 : decode cX6_player 88 = .ok (.getfield 45, 3) := by decide +kernel
theorem dX6_player_91 : decode cX6_player 91 = .ok (.iload_n 1, 1) := by decide +kernel
theorem dX6_player_92 : decode cX6_player 92 = .ok (.invokevirtual 121, 3) := by decide +kernel
theorem dX6_player_95 : decode cX6_player 95 = .ok (.ireturn, 1) := by decide +kernel
theorem dX6_player_96 : decode cX6_player 96 = .ok (.aload_n 0, 1) := by decide +kernel
theorem dX6_player_97 : decode cX6_player 97 = .ok (.getfield 10, 3) := by decide +kernel
theorem dX6_player_100 : decode cX6_player 100 = .ok (.getfield 45, 3) := by decide +kernel
theorem dX6_player_103 : decode cX6_player 103 = .ok (.iload_n 1, 1) := by decide +kernel
theorem dX6_player_104 : decode cX6_player 104 = .ok (.invokevirtual 124, 3) := by decide +kernel
theorem dX6_player_107 : decode cX6_player 107 = .ok (.ireturn, 1) := by decide +kernel
theorem dX6_player_108 : decode cX6_player 108 = .ok (.aload_n 0, 1) := by decide +kernel
theorem dX6_player_109 : decode cX6_player 109 = .ok (.getfield 10, 3) := by decide +kernel
theorem dX6_player_112 : decode cX6_player 112 = .ok (.iload_n 1, 1) := by decide +kernel
theorem dX6_player_113 : decode cX6_player 113 = .ok (.invokevirtual 127, 3) := by decide +kernel
theorem dX6_player_116 : decode cX6_player 116 = .ok (.ireturn, 1) := by decide +kernel
theorem dX6_player_117 : decode cX6_player 117 = .ok (.aload_n 0, 1) := by decide +kernel
theorem dX6_player_118 : decode cX6_player 118 = .ok (.getfield 10, 3) := by decide +kernel
theorem dX6_player_121 : decode cX6_player 121 = .ok (.iload_n 1, 1) := by decide +kernel
theorem dX6_player_122 : decode cX6_player 122 = .ok (.invokevirtual 130, 3) := by decide +kernel
theorem dX6_player_125 : decode cX6_player 125 = .ok (.ireturn, 1) := by decide +kernel
theorem dX6_player_126 : decode cX6_player 126 = .ok (.aload_n 0, 1) := by decide +kernel
theorem dX6_player_127 : decode cX6_player 127 = .ok (.getfield 10, 3) := by decide +kernel
theorem dX6_player_130 : decode cX6_player 130 = .ok (.iload_n 1, 1) := by decide +kernel
theorem dX6_player_131 : decode cX6_player 131 = .ok (.invokevirtual 133, 3) := by decide +kernel
theorem dX6_player_134 : decode cX6_player 134 = .ok (.ireturn, 1) := by decide +kernel
theorem dX6_player_135 : decode cX6_player 135 = .ok (.aload_n 0, 1) := by decide +kernel
theorem dX6_player_136 : decode cX6_player 136 = .ok (.getfield 10, 3) := by decide +kernel
theorem dX6_player_139 : decode cX6_player 139 = .ok (.getfield 86, 3) := by decide +kernel
theorem dX6_player_142 : decode cX6_player 142 = .ok (.iload_n 1, 1) := by decide +kernel
theorem dX6_player_143 : decode cX6_player 143 = .ok (.invokevirtual 136, 3) := by decide +kernel
theorem dX6_player_146 : decode cX6_player 146 = .ok (.ireturn, 1) := by decide +kernel
theorem dX6_player_147 : decode cX6_player 147 = .ok (.aload_n 0, 1) := by decide +kernel
theorem dX6_player_148 : decode cX6_player 148 = .ok (.getfield 10, 3) := by decide +kernel
theorem dX6_player_151 : decode cX6_player 151 = .ok (.iload_n 1, 1) := by decide +kernel
theorem dX6_player_152 : decode cX6_player 152 = .ok (.invokevirtual 139, 3) := by decide +kernel
theorem dX6_player_155 : decode cX6_player 155 = .ok (.ireturn, 1) := by decide +kernel
theorem dX6_player_156 : decode cX6_player 156 = .ok (.aload_n 0, 1) := by decide +kernel
theorem dX6_player_157 : decode cX6_player 157 = .ok (.getfield 10, 3) := by decide +kernel
theorem dX6_player_160 : decode cX6_player 160 = .ok (.getfield 59, 3) := by decide +kernel
theorem dX6_player_163 : decode cX6_player 163 = .ok (.iload_n 1, 1) := by decide +kernel
theorem dX6_player_164 : decode cX6_player 164 = .ok (.invokevirtual 142, 3) := by decide +kernel
theorem dX6_player_167 : decode cX6_player 167 = .ok (.ireturn, 1) := by decide +kernel
theorem dX6_player_168 : decode cX6_player 168 = .ok (.aload_n 0, 1) := by decide +kernel
theorem dX6_player_169 : decode cX6_player 169 = .ok (.getfield 10, 3) := by decide +kernel
theorem dX6_player_172 : decode cX6_player 172 = .ok (.getfield 59, 3) := by decide +kernel
theorem dX6_player_175 : decode cX6_player 175 = .ok (.iload_n 1, 1) := by decide +kernel
theorem dX6_player_176 : decode cX6_player 176 = .ok (.invokevirtual 145, 3) := by decide +kernel
theorem dX6_player_179 : decode cX6_player 179 = .ok (.ifCond .eq 7, 3) := by decide +kernel
theorem dX6_player_182 : decode cX6_player 182 = .ok (.iconst 1, 1) := by decide +kernel
theorem dX6_player_183 : decode cX6_player 183 = .ok (.goto 4, 3) := by decide +kernel
theorem dX6_player_186 : decode cX6_player 186 = .ok (.iconst 0, 1) := by decide +kernel
theorem dX6_player_187 : decode cX6_player 187 = .ok (.ireturn, 1) := by decide +kernel
theorem dX6_player_188 : decode cX6_player 188 = .ok (.bipush (-2), 2) := by decide +kernel
theorem dX6_player_190 : decode cX6_player 190 = .ok (.ireturn, 1) := by decide +kernel
theorem dX6_about_0 : decode cX6_about 0 = .ok (.aload_n 0, 1) := by decide +kernel
theorem dX6_about_1 : decode cX6_about 1 = .ok (.getfield 10, 3) := by decide +kernel
theorem dX6_about_4 : decode cX6_about 4 = .ok (.getfield 86, 3) := by decide +kernel
theorem dX6_about_7 : decode cX6_about 7 = .ok (.astore_n 3, 1) := by decide +kernel
theorem dX6_about_8 : decode cX6_about 8 = .ok (.aload_n 3, 1) := by decide +kernel
theorem dX6_about_9 : decode cX6_about 9 = .ok (.iload_n 1, 1) := by decide +kernel
theorem dX6_about_10 : decode cX6_about 10 = .ok (.invokevirtual 148, 3) := by decide +kernel
theorem dX6_about_13 : decode cX6_about 13 = .ok (.ifCond .ne 5, 3) := by decide +kernel
theorem dX6_about_16 : decode cX6_about 16 = .ok (.iconst (-1), 1) := by decide +kernel
theorem dX6_about_17 : decode cX6_about 17 = .ok (.ireturn, 1) := by decide +kernel
theorem dX6_about_18 : decode cX6_about 18 = .ok (.iload_n 2, 1) := by decide +kernel
theorem dX6_about_19 : decode cX6_about 19 = .ok (.tableswitch 63 0 4 #[33, 39, 45, 51, 57], 33) := by decide +kernel
theorem dX6_about_52 : decode cX6_about 52 = .ok (.aload_n 3, 1) := by decide +kernel
theorem dX6_about_53 : decode cX6_about 53 = .ok (.iload_n 1, 1) := by decide +kernel
theorem dX6_about_54 : decode cX6_about 54 = .ok (.invokevirtual 151, 3) := by decide +kernel
theorem dX6_about_57 : decode cX6_about 57 = .ok (.ireturn, 1) := by decide +kernel
theorem dX6_about_58 : decode cX6_about 58 = .ok (.aload_n 3, 1) := by decide +kernel
theorem dX6_about_59 : decode cX6_about 59 = .ok (.iload_n 1, 1) := by decide +kernel
theorem dX6_about_60 : decode cX6_about 60 = .ok (.invokevirtual 154, 3) := by decide +kernel
theorem dX6_about_63 : decode cX6_about 63 = .ok (.ireturn, 1) := by decide +kernel
theorem dX6_about_64 : decode cX6_about 64 = .ok (.aload_n 3, 1) := by decide +kernel
theorem dX6_about_65 : decode cX6_about 65 = .ok (.iload_n 1, 1) := by decide +kernel
theorem dX6_about_66 : decode cX6_about 66 = .ok (.invokevirtual 157, 3) := by decide +kernel
theorem dX6_about_69 : decode cX6_about 69 = .ok (.ireturn, 1) := by decide +kernel
theorem dX6_about_70 : decode cX6_about 70 = .ok (.aload_n 3, 1) := by decide +kernel
theorem dX6_about_71 : decode cX6_about 71 = .ok (.iload_n 1, 1) := by decide +kernel
theorem dX6_about_72 : decode cX6_about 72 = .ok (.invokevirtual 160, 3) := by decide +kernel
theorem dX6_about_75 : decode cX6_about 75 = .ok (.ireturn, 1) := by decide +kernel
theorem dX6_about_76 : decode cX6_about 76 = .ok (.aload_n 3, 1) := by decide +kernel
theorem dX6_about_77 : decode cX6_about 77 = .ok (.iload_n 1, 1) := by decide +kernel
theorem dX6_about_78 : decode cX6_about 78 = .ok (.invokevirtual 163, 3) := by decide +kernel
theorem dX6_about_81 : decode cX6_about 81 = .ok (.ireturn, 1) := by decide +kernel
theorem dX6_about_82 : decode cX6_about 82 = .ok (.bipush (-2), 2) := by decide +kernel
theorem dX6_about_84 : decode cX6_about 84 = .ok (.ireturn, 1) := by decide +kernel
theorem dX6_count_0 : decode cX6_count 0 = .ok (.iload_n 1, 1) := by decide +kernel
theorem dX6_count_1 : decode cX6_count 1 = .ok (.bipush 13, 2) := by decide +kernel
theorem dX6_count_3 : decode cX6_count 3 = .ok (.isub, 1) := by decide +kernel
theorem dX6_count_4 : decode cX6_count 4 = .ok (.invokestatic 166, 3) := by decide +kernel
theorem dX6_count_7 : decode cX6_count 7 = .ok (.ifCond .eq 15, 3) := by decide +kernel
theorem dX6_count_10 : decode cX6_count 10 = .ok (.aload_n 0, 1) := by decide +kernel
theorem dX6_count_11 : decode cX6_count 11 = .ok (.getfield 10, 3) := by decide +kernel
theorem dX6_count_14 : decode cX6_count 14 = .ok (.iload_n 1, 1) := by decide +kernel
theorem dX6_count_15 : decode cX6_count 15 = .ok (.bipush 13, 2) := by decide +kernel
theorem dX6_count_17 : decode cX6_count 17 = .ok (.isub, 1) := by decide +kernel
theorem dX6_count_18 : decode cX6_count 18 = .ok (.invokevirtual 169, 3) := by decide +kernel
theorem dX6_count_21 : decode cX6_count 21 = .ok (.ireturn, 1) := by decide +kernel
theorem dX6_count_22 : decode cX6_count 22 = .ok (.iload_n 1, 1) := by decide +kernel
theorem dX6_count_23 : decode cX6_count 23 = .ok (.tableswitch 210 0 12 #[65, 76, 87, 98, 106, 125, 136, 147, 158, 169, 180, 191, 202], 65) := by decide +kernel
theorem dX6_count_88 : decode cX6_count 88 = .ok (.aload_n 0, 1) := by decide +kernel
theorem dX6_count_89 : decode cX6_count 89 = .ok (.getfield 10, 3) := by decide +kernel
theorem dX6_count_92 : decode cX6_count 92 = .ok (.getfield 45, 3) := by decide +kernel
theorem dX6_count_95 : decode cX6_count 95 = .ok (.getfield 49, 3) := by decide +kernel
theorem dX6_count_98 : decode cX6_count 98 = .ok (.ireturn, 1) := by decide +kernel
theorem dX6_count_99 : decode cX6_count 99 = .ok (.aload_n 0, 1) := by decide +kernel
theorem dX6_count_100 : decode cX6_count 100 = .ok (.getfield 10, 3) := by decide +kernel
theorem dX6_count_103 : decode cX6_count 103 = .ok (.getfield 86, 3) := by decide +kernel
theorem dX6_count_106 : decode cX6_count 106 = .ok (.getfield 172, 3) := by decide +kernel
theorem dX6_count_109 : decode cX6_count 109 = .ok (.ireturn, 1) := by decide +kernel
theorem dX6_count_110 : decode cX6_count 110 = .ok (.aload_n 0, 1) := by decide +kernel
theorem dX6_count_111 : decode cX6_count 111 = .ok (.getfield 10, 3) := by decide +kernel
theorem dX6_count_114 : decode cX6_count 114 = .ok (.getfield 86, 3) := by decide +kernel
theorem dX6_count_117 : decode cX6_count 117 = .ok (.invokevirtual 175, 3) := by decide +kernel
theorem dX6_count_120 : decode cX6_count 120 = .ok (.ireturn, 1) := by decide +kernel
theorem dX6_count_121 : decode cX6_count 121 = .ok (.aload_n 0, 1) := by decide +kernel
theorem dX6_count_122 : decode cX6_count 122 = .ok (.getfield 10, 3) := by decide +kernel
theorem dX6_count_125 : decode cX6_count 125 = .ok (.invokevirtual 178, 3) := by decide +kernel
theorem dX6_count_128 : decode cX6_count 128 = .ok (.ireturn, 1) := by decide +kernel
theorem dX6_count_129 : decode cX6_count 129 = .ok (.aload_n 0, 1) := by decide +kernel
theorem dX6_count_130 : decode cX6_count 130 = .ok (.getfield 10, 3) := by decide +kernel
theorem dX6_count_133 : decode cX6_count 133 = .ok (.getfield 59, 3) := by decide +kernel
theorem dX6_count_136 : decode cX6_count 136 = .ok (.invokevirtual 63, 3) := by decide +kernel
theorem dX6_count_139 : decode cX6_count 139 = .ok (.ifCond .eq 7, 3) := by decide +kernel
theorem dX6_count_142 : decode cX6_count 142 = .ok (.iconst 1, 1) := by decide +kernel
theorem dX6_count_143 : decode cX6_count 143 = .ok (.goto 4, 3) := by decide +kernel
theorem dX6_count_146 : decode cX6_count 146 = .ok (.iconst 0, 1) := by decide +kernel
theorem dX6_count_147 : decode cX6_count 147 = .ok (.ireturn, 1) := by decide +kernel
theorem dX6_count_148 : decode cX6_count 148 = .ok (.aload_n 0, 1) := by decide +kernel
theorem dX6_count_149 : decode cX6_count 149 = .ok (.getfield 10, 3) := by decide +kernel
theorem dX6_count_152 : decode cX6_count 152 = .ok (.getfield 59, 3) := by decide +kernel
theorem dX6_count_155 : decode cX6_count 155 = .ok (.getfield 181, 3) := by decide +kernel
theorem dX6_count_158 : decode cX6_count 158 = .ok (.ireturn, 1) := by decide +kernel
theorem dX6_count_159 : decode cX6_count 159 = .ok (.aload_n 0, 1) := by decide +kernel
theorem dX6_count_160 : decode cX6_count 160 = .ok (.getfield 10, 3) := by decide +kernel
theorem dX6_count_163 : decode cX6_count 163 = .ok (.getfield 59, 3) := by decide +kernel
theorem dX6_count_166 : decode cX6_count 166 = .ok (.getfield 184, 3) := by decide +kernel
theorem dX6_count_169 : decode cX6_count 169 = .ok (.ireturn, 1) := by decide +kernel
theorem dX6_count_170 : decode cX6_count 170 = .ok (.aload_n 0, 1) := by decide +kernel
theorem dX6_count_171 : decode cX6_count 171 = .ok (.getfield 10, 3) := by decide +kernel
theorem dX6_count_174 : decode cX6_count 174 = .ok (.getfield 59, 3) := by decide +kernel
theorem dX6_count_177 : decode cX6_count 177 = .ok (.getfield 187, 3) := by decide +kernel
theorem dX6_count_180 : decode cX6_count 180 = .ok (.ireturn, 1) := by decide +kernel
theorem dX6_count_181 : decode cX6_count 181 = .ok (.aload_n 0, 1) := by decide +kernel
theorem dX6_count_182 : decode cX6_count 182 = .ok (.getfield 10, 3) := by decide +kernel
theorem dX6_count_185 : decode cX6_count 185 = .ok (.getfield 59, 3) := by decide +kernel
theorem dX6_count_188 : decode cX6_count 188 = .ok (.getfield 190, 3) := by decide +kernel
theorem dX6_count_191 : decode cX6_count 191 = .ok (.ireturn, 1) := by decide +kernel
theorem dX6_count_192 : decode cX6_count 192 = .ok (.aload_n 0, 1) := by decide +kernel
theorem dX6_count_193 : decode cX6_count 193 = .ok (.getfield 10, 3) := by decide +kernel
theorem dX6_count_196 : decode cX6_count 196 = .ok (.getfield 59, 3) := by decide +kernel
theorem dX6_count_199 : decode cX6_count 199 = .ok (.getfield 193, 3) := by decide +kernel
theorem dX6_count_202 : decode cX6_count 202 = .ok (.ireturn, 1) := by decide +kernel
theorem dX6_count_203 : decode cX6_count 203 = .ok (.aload_n 0, 1) := by decide +kernel
theorem dX6_count_204 : decode cX6_count 204 = .ok (.getfield 10, 3) := by decide +kernel
theorem dX6_count_207 : decode cX6_count 207 = .ok (.getfield 45, 3) := by decide +kernel
theorem dX6_count_210 : decode cX6_count 210 = .ok (.invokevirtual 196, 3) := by decide +kernel
theorem dX6_count_213 : decode cX6_count 213 = .ok (.ireturn, 1) := by decide +kernel
theorem dX6_count_214 : decode cX6_count 214 = .ok (.aload_n 0, 1) := by decide +kernel
theorem dX6_count_215 : decode cX6_count 215 = .ok (.getfield 10, 3) := by decide +kernel
theorem dX6_count_218 : decode cX6_count 218 = .ok (.getfield 45, 3) := by decide +kernel
theorem dX6_count_221 : decode cX6_count 221 = .ok (.invokevirtual 199, 3) := by decide +kernel
theorem dX6_count_224 : decode cX6_count 224 = .ok (.ireturn, 1) := by decide +kernel
theorem dX6_count_225 : decode cX6_count 225 = .ok (.aload_n 0, 1) := by decide +kernel
theorem dX6_count_226 : decode cX6_count 226 = .ok (.getfield 33, 3) := by decide +kernel
theorem dX6_count_229 : decode cX6_count 229 = .ok (.getfield 202, 3) := by decide +kernel
theorem dX6_count_232 : decode cX6_count 232 = .ok (.ireturn, 1) := by decide +kernel
theorem dX6_count_233 : decode cX6_count 233 = .ok (.bipush (-2), 2) := by decide +kernel
theorem dX6_count_235 : decode cX6_count 235 = .ok (.ireturn, 1) := by decide +kernel
theorem dX6_known_0 : decode cX6_known 0 = .ok (.aload_n 0, 1) := by decide +kernel
theorem dX6_known_1 : decode cX6_known 1 = .ok (.getfield 10, 3) := by decide +kernel
theorem dX6_known_4 : decode cX6_known 4 = .ok (.getfield 45, 3) := by decide +kernel
theorem dX6_known_7 : decode cX6_known 7 = .ok (.astore_n 3, 1) := by decide +kernel
theorem dX6_known_8 : decode cX6_known 8 = .ok (.aload_n 3, 1) := by decide +kernel
theorem dX6_known_9 : decode cX6_known 9 = .ok (.iload_n 1, 1) := by decide +kernel
theorem dX6_known_10 : decode cX6_known 10 = .ok (.invokevirtual 73, 3) := by decide +kernel
theorem dX6_known_13 : decode cX6_known 13 = .ok (.ifCond .ne 5, 3) := by decide +kernel
theorem dX6_known_16 : decode cX6_known 16 = .ok (.iconst (-1), 1) := by decide +kernel
theorem dX6_known_17 : decode cX6_known 17 = .ok (.ireturn, 1) := by decide +kernel
theorem dX6_known_18 : decode cX6_known 18 = .ok (.iload_n 2, 1) := by decide +kernel
theorem dX6_known_19 : decode cX6_known 19 = .ok (.tableswitch 75 0 4 #[33, 39, 45, 55, 65], 33) := by decide +kernel
theorem dX6_known_52 : decode cX6_known 52 = .ok (.aload_n 3, 1) := by decide +kernel
theorem dX6_known_53 : decode cX6_known 53 = .ok (.iload_n 1, 1) := by decide +kernel
theorem dX6_known_54 : decode cX6_known 54 = .ok (.invokevirtual 205, 3) := by decide +kernel
theorem dX6_known_57 : decode cX6_known 57 = .ok (.ireturn, 1) := by decide +kernel
theorem dX6_known_58 : decode cX6_known 58 = .ok (.aload_n 3, 1) := by decide +kernel
theorem dX6_known_59 : decode cX6_known 59 = .ok (.iload_n 1, 1) := by decide +kernel
theorem dX6_known_60 : decode cX6_known 60 = .ok (.invokevirtual 208, 3) := by decide +kernel
theorem dX6_known_63 : decode cX6_known 63 = .ok (.ireturn, 1) := by decide +kernel
theorem dX6_known_64 : decode cX6_known 64 = .ok (.aload_n 0, 1) := by decide +kernel
theorem dX6_known_65 : decode cX6_known 65 = .ok (.getfield 26, 3) := by decide +kernel
theorem dX6_known_68 : decode cX6_known 68 = .ok (.aload_n 3, 1) := by decide +kernel
theorem dX6_known_69 : decode cX6_known 69 = .ok (.iload_n 1, 1) := by decide +kernel
theorem dX6_known_70 : decode cX6_known 70 = .ok (.invokevirtual 211, 3) := by decide +kernel
theorem dX6_known_73 : decode cX6_known 73 = .ok (.ireturn, 1) := by decide +kernel
theorem dX6_known_74 : decode cX6_known 74 = .ok (.aload_n 0, 1) := by decide +kernel
theorem dX6_known_75 : decode cX6_known 75 = .ok (.getfield 26, 3) := by decide +kernel
theorem dX6_known_78 : decode cX6_known 78 = .ok (.aload_n 3, 1) := by decide +kernel
theorem dX6_known_79 : decode cX6_known 79 = .ok (.iload_n 1, 1) := by decide +kernel
theorem dX6_known_80 : decode cX6_known 80 = .ok (.invokevirtual 215, 3) := by decide +kernel
theorem dX6_known_83 : decode cX6_known 83 = .ok (.ireturn, 1) := by decide +kernel
theorem dX6_known_84 : decode cX6_known 84 = .ok (.aload_n 0, 1) := by decide +kernel
theorem dX6_known_85 : decode cX6_known 85 = .ok (.getfield 26, 3) := by decide +kernel
theorem dX6_known_88 : decode cX6_known 88 = .ok (.aload_n 3, 1) := by decide +kernel
theorem dX6_known_89 : decode cX6_known 89 = .ok (.iload_n 1, 1) := by decide +kernel
theorem dX6_known_90 : decode cX6_known 90 = .ok (.invokevirtual 218, 3) := by decide +kernel
theorem dX6_known_93 : decode cX6_known 93 = .ok (.ireturn, 1) := by decide +kernel
theorem dX6_known_94 : decode cX6_known 94 = .ok (.bipush (-2), 2) := by decide +kernel
theorem dX6_known_96 : decode cX6_known 96 = .ok (.ireturn, 1) := by decide +kernel
theorem dX6_ways_0 : decode cX6_ways 0 = .ok (.aload_n 0, 1) := by decide +kernel
theorem dX6_ways_1 : decode cX6_ways 1 = .ok (.getfield 26, 3) := by decide +kernel
theorem dX6_ways_4 : decode cX6_ways 4 = .ok (.aload_n 0, 1) := by decide +kernel
theorem dX6_ways_5 : decode cX6_ways 5 = .ok (.getfield 10, 3) := by decide +kernel
theorem dX6_ways_8 : decode cX6_ways 8 = .ok (.getfield 45, 3) := by decide +kernel
theorem dX6_ways_11 : decode cX6_ways 11 = .ok (.iconst 0, 1) := by decide +kernel
theorem dX6_ways_12 : decode cX6_ways 12 = .ok (.iconst 0, 1) := by decide +kernel
theorem dX6_ways_13 : decode cX6_ways 13 = .ok (.invokevirtual 221, 3) := by decide +kernel
theorem dX6_ways_16 : decode cX6_ways 16 = .ok (.lreturn, 1) := by decide +kernel
theorem dX6_canPay_0 : decode cX6_canPay 0 = .ok (.aload_n 0, 1) := by decide +kernel
theorem dX6_canPay_1 : decode cX6_canPay 1 = .ok (.getfield 10, 3) := by decide +kernel
theorem dX6_canPay_4 : decode cX6_canPay 4 = .ok (.getfield 45, 3) := by decide +kernel
theorem dX6_canPay_7 : decode cX6_canPay 7 = .ok (.iload_n 1, 1) := by decide +kernel
theorem dX6_canPay_8 : decode cX6_canPay 8 = .ok (.invokevirtual 73, 3) := by decide +kernel
theorem dX6_canPay_11 : decode cX6_canPay 11 = .ok (.ifCond .ne 7, 3) := by decide +kernel
theorem dX6_canPay_14 : decode cX6_canPay 14 = .ok (.ldc2_w 225, 3) := by decide +kernel
theorem dX6_canPay_17 : decode cX6_canPay 17 = .ok (.lreturn, 1) := by decide +kernel
theorem dX6_canPay_18 : decode cX6_canPay 18 = .ok (.iload_n 2, 1) := by decide +kernel
theorem dX6_canPay_19 : decode cX6_canPay 19 = .ok (.iconst 0, 1) := by decide +kernel
theorem dX6_canPay_20 : decode cX6_canPay 20 = .ok (.sipush 300, 3) := by decide +kernel
theorem dX6_canPay_23 : decode cX6_canPay 23 = .ok (.invokestatic 41, 3) := by decide +kernel
theorem dX6_canPay_26 : decode cX6_canPay 26 = .ok (.ifCond .ne 7, 3) := by decide +kernel
theorem dX6_canPay_29 : decode cX6_canPay 29 = .ok (.ldc2_w 227, 3) := by decide +kernel
theorem dX6_canPay_32 : decode cX6_canPay 32 = .ok (.lreturn, 1) := by decide +kernel
theorem dX6_canPay_33 : decode cX6_canPay 33 = .ok (.aload_n 0, 1) := by decide +kernel
theorem dX6_canPay_34 : decode cX6_canPay 34 = .ok (.getfield 26, 3) := by decide +kernel
theorem dX6_canPay_37 : decode cX6_canPay 37 = .ok (.aload_n 0, 1) := by decide +kernel
theorem dX6_canPay_38 : decode cX6_canPay 38 = .ok (.getfield 10, 3) := by decide +kernel
theorem dX6_canPay_41 : decode cX6_canPay 41 = .ok (.getfield 45, 3) := by decide +kernel
theorem dX6_canPay_44 : decode cX6_canPay 44 = .ok (.iload_n 1, 1) := by decide +kernel
theorem dX6_canPay_45 : decode cX6_canPay 45 = .ok (.iload_n 2, 1) := by decide +kernel
theorem dX6_canPay_46 : decode cX6_canPay 46 = .ok (.invokevirtual 221, 3) := by decide +kernel
theorem dX6_canPay_49 : decode cX6_canPay 49 = .ok (.lreturn, 1) := by decide +kernel
theorem dX6_forecast_0 : decode cX6_forecast 0 = .ok (.aload_n 0, 1) := by decide +kernel
theorem dX6_forecast_1 : decode cX6_forecast 1 = .ok (.getfield 10, 3) := by decide +kernel
theorem dX6_forecast_4 : decode cX6_forecast 4 = .ok (.getfield 45, 3) := by decide +kernel
theorem dX6_forecast_7 : decode cX6_forecast 7 = .ok (.iload_n 3, 1) := by decide +kernel
theorem dX6_forecast_8 : decode cX6_forecast 8 = .ok (.invokevirtual 73, 3) := by decide +kernel
theorem dX6_forecast_11 : decode cX6_forecast 11 = .ok (.ifCond .ne 5, 3) := by decide +kernel
theorem dX6_forecast_14 : decode cX6_forecast 14 = .ok (.iconst (-1), 1) := by decide +kernel
theorem dX6_forecast_15 : decode cX6_forecast 15 = .ok (.ireturn, 1) := by decide +kernel
theorem dX6_forecast_16 : decode cX6_forecast 16 = .ok (.iload_n 1, 1) := by decide +kernel
theorem dX6_forecast_17 : decode cX6_forecast 17 = .ok (.invokestatic 229, 3) := by decide +kernel
theorem dX6_forecast_20 : decode cX6_forecast 20 = .ok (.ifCond .eq 10, 3) := by decide +kernel
theorem dX6_forecast_23 : decode cX6_forecast 23 = .ok (.iload_n 2, 1) := by decide +kernel
theorem dX6_forecast_24 : decode cX6_forecast 24 = .ok (.invokestatic 232, 3) := by decide +kernel
theorem dX6_forecast_27 : decode cX6_forecast 27 = .ok (.ifCond .ne 6, 3) := by decide +kernel
theorem dX6_forecast_30 : decode cX6_forecast 30 = .ok (.bipush (-2), 2) := by decide +kernel
theorem dX6_forecast_32 : decode cX6_forecast 32 = .ok (.ireturn, 1) := by decide +kernel
theorem dX6_forecast_33 : decode cX6_forecast 33 = .ok (.aload_n 0, 1) := by decide +kernel
theorem dX6_forecast_34 : decode cX6_forecast 34 = .ok (.getfield 16, 3) := by decide +kernel
theorem dX6_forecast_37 : decode cX6_forecast 37 = .ok (.aload_n 0, 1) := by decide +kernel
theorem dX6_forecast_38 : decode cX6_forecast 38 = .ok (.getfield 10, 3) := by decide +kernel
theorem dX6_forecast_41 : decode cX6_forecast 41 = .ok (.invokevirtual 235, 3) := by decide +kernel
theorem dX6_forecast_44 : decode cX6_forecast 44 = .ok (.iconst 0, 1) := by decide +kernel
theorem dX6_forecast_45 : decode cX6_forecast 45 = .ok (.istore 4, 2) := by decide +kernel
theorem dX6_forecast_47 : decode cX6_forecast 47 = .ok (.iload 4, 2) := by decide +kernel
theorem dX6_forecast_49 : decode cX6_forecast 49 = .ok (.ldc 239, 2) := by decide +kernel
theorem dX6_forecast_51 : decode cX6_forecast 51 = .ok (.if_icmp .ge 82, 3) := by decide +kernel
theorem dX6_forecast_54 : decode cX6_forecast 54 = .ok (.aload_n 0, 1) := by decide +kernel
theorem dX6_forecast_55 : decode cX6_forecast 55 = .ok (.getfield 16, 3) := by decide +kernel
theorem dX6_forecast_58 : decode cX6_forecast 58 = .ok (.getfield 86, 3) := by decide +kernel
theorem dX6_forecast_61 : decode cX6_forecast 61 = .ok (.invokevirtual 175, 3) := by decide +kernel
theorem dX6_forecast_64 : decode cX6_forecast 64 = .ok (.bipush (-6), 2) := by decide +kernel
theorem dX6_forecast_66 : decode cX6_forecast 66 = .ok (.if_icmp .eq 67, 3) := by decide +kernel
theorem dX6_forecast_69 : decode cX6_forecast 69 = .ok (.aload_n 0, 1) := by decide +kernel
theorem dX6_forecast_70 : decode cX6_forecast 70 = .ok (.getfield 16, 3) := by decide +kernel
theorem dX6_forecast_73 : decode cX6_forecast 73 = .ok (.getfield 59, 3) := by decide +kernel
theorem dX6_forecast_76 : decode cX6_forecast 76 = .ok (.invokevirtual 63, 3) := by decide +kernel
theorem dX6_forecast_79 : decode cX6_forecast 79 = .ok (.ifCond .eq 14, 3) := by decide +kernel
theorem dX6_forecast_82 : decode cX6_forecast 82 = .ok (.aload_n 0, 1) := by decide +kernel
theorem dX6_forecast_83 : decode cX6_forecast 83 = .ok (.getfield 16, 3) := by decide +kernel
theorem dX6_forecast_86 : decode cX6_forecast 86 = .ok (.invokevirtual 108, 3) := by decide +kernel
theorem dX6_forecast_89 : decode cX6_forecast 89 = .ok (.pop, 1) := by decide +kernel
theorem dX6_forecast_90 : decode cX6_forecast 90 = .ok (.goto 37, 3) := by decide +kernel
theorem dX6_forecast_93 : decode cX6_forecast 93 = .ok (.aload_n 0, 1) := by decide +kernel
theorem dX6_forecast_94 : decode cX6_forecast 94 = .ok (.getfield 16, 3) := by decide +kernel
theorem dX6_forecast_97 : decode cX6_forecast 97 = .ok (.getfield 86, 3) := by decide +kernel
theorem dX6_forecast_100 : decode cX6_forecast 100 = .ok (.invokevirtual 240, 3) := by decide +kernel
theorem dX6_forecast_103 : decode cX6_forecast 103 = .ok (.ifCond .eq 16, 3) := by decide +kernel
theorem dX6_forecast_106 : decode cX6_forecast 106 = .ok (.aload_n 0, 1) := by decide +kernel
theorem dX6_forecast_107 : decode cX6_forecast 107 = .ok (.getfield 16, 3) := by decide +kernel
theorem dX6_forecast_110 : decode cX6_forecast 110 = .ok (.iload_n 1, 1) := by decide +kernel
theorem dX6_forecast_111 : decode cX6_forecast 111 = .ok (.iload_n 2, 1) := by decide +kernel
theorem dX6_forecast_112 : decode cX6_forecast 112 = .ok (.invokevirtual 98, 3) := by decide +kernel
theorem dX6_forecast_115 : decode cX6_forecast 115 = .ok (.pop, 1) := by decide +kernel
theorem dX6_forecast_116 : decode cX6_forecast 116 = .ok (.goto 11, 3) := by decide +kernel
theorem dX6_forecast_119 : decode cX6_forecast 119 = .ok (.aload_n 0, 1) := by decide +kernel
theorem dX6_forecast_120 : decode cX6_forecast 120 = .ok (.getfield 16, 3) := by decide +kernel
theorem dX6_forecast_123 : decode cX6_forecast 123 = .ok (.invokevirtual 112, 3) := by decide +kernel
theorem dX6_forecast_126 : decode cX6_forecast 126 = .ok (.pop, 1) := by decide +kernel
theorem dX6_forecast_127 : decode cX6_forecast 127 = .ok (.iinc 4 1, 3) := by decide +kernel
theorem dX6_forecast_130 : decode cX6_forecast 130 = .ok (.goto (-83), 3) := by decide +kernel
theorem dX6_forecast_133 : decode cX6_forecast 133 = .ok (.aload_n 0, 1) := by decide +kernel
theorem dX6_forecast_134 : decode cX6_forecast 134 = .ok (.getfield 16, 3) := by decide +kernel
theorem dX6_forecast_137 : decode cX6_forecast 137 = .ok (.iload_n 3, 1) := by decide +kernel
theorem dX6_forecast_138 : decode cX6_forecast 138 = .ok (.invokevirtual 130, 3) := by decide +kernel
theorem dX6_forecast_141 : decode cX6_forecast 141 = .ok (.ireturn, 1) := by decide +kernel
theorem dX6_bestMode_0 : decode cX6_bestMode 0 = .ok (.aload_n 0, 1) := by decide +kernel
theorem dX6_bestMode_1 : decode cX6_bestMode 1 = .ok (.getfield 10, 3) := by decide +kernel
theorem dX6_bestMode_4 : decode cX6_bestMode 4 = .ok (.getfield 45, 3) := by decide +kernel
theorem dX6_bestMode_7 : decode cX6_bestMode 7 = .ok (.iload_n 1, 1) := by decide +kernel
theorem dX6_bestMode_8 : decode cX6_bestMode 8 = .ok (.invokevirtual 73, 3) := by decide +kernel
theorem dX6_bestMode_11 : decode cX6_bestMode 11 = .ok (.ifCond .ne 5, 3) := by decide +kernel
theorem dX6_bestMode_14 : decode cX6_bestMode 14 = .ok (.iconst (-1), 1) := by decide +kernel
theorem dX6_bestMode_15 : decode cX6_bestMode 15 = .ok (.ireturn, 1) := by decide +kernel
theorem dX6_bestMode_16 : decode cX6_bestMode 16 = .ok (.iload_n 2, 1) := by decide +kernel
theorem dX6_bestMode_17 : decode cX6_bestMode 17 = .ok (.invokestatic 232, 3) := by decide +kernel
theorem dX6_bestMode_20 : decode cX6_bestMode 20 = .ok (.ifCond .ne 6, 3) := by decide +kernel
theorem dX6_bestMode_23 : decode cX6_bestMode 23 = .ok (.bipush (-2), 2) := by decide +kernel
theorem dX6_bestMode_25 : decode cX6_bestMode 25 = .ok (.ireturn, 1) := by decide +kernel
theorem dX6_bestMode_26 : decode cX6_bestMode 26 = .ok (.iconst 0, 1) := by decide +kernel
theorem dX6_bestMode_27 : decode cX6_bestMode 27 = .ok (.istore_n 3, 1) := by decide +kernel
theorem dX6_bestMode_28 : decode cX6_bestMode 28 = .ok (.aload_n 0, 1) := by decide +kernel
theorem dX6_bestMode_29 : decode cX6_bestMode 29 = .ok (.iconst 0, 1) := by decide +kernel
theorem dX6_bestMode_30 : decode cX6_bestMode 30 = .ok (.iload_n 2, 1) := by decide +kernel
theorem dX6_bestMode_31 : decode cX6_bestMode 31 = .ok (.iload_n 1, 1) := by decide +kernel
theorem dX6_bestMode_32 : decode cX6_bestMode 32 = .ok (.invokevirtual 243, 3) := by decide +kernel
theorem dX6_bestMode_35 : decode cX6_bestMode 35 = .ok (.istore 4, 2) := by decide +kernel
theorem dX6_bestMode_37 : decode cX6_bestMode 37 = .ok (.iconst 1, 1) := by decide +kernel
theorem dX6_bestMode_38 : decode cX6_bestMode 38 = .ok (.istore 5, 2) := by decide +kernel
theorem dX6_bestMode_40 : decode cX6_bestMode 40 = .ok (.iload 5, 2) := by decide +kernel
theorem dX6_bestMode_42 : decode cX6_bestMode 42 = .ok (.iconst 2, 1) := by decide +kernel
theorem dX6_bestMode_43 : decode cX6_bestMode 43 = .ok (.if_icmp .gt 33, 3) := by decide +kernel
theorem dX6_bestMode_46 : decode cX6_bestMode 46 = .ok (.aload_n 0, 1) := by decide +kernel
theorem dX6_bestMode_47 : decode cX6_bestMode 47 = .ok (.iload 5, 2) := by decide +kernel
theorem dX6_bestMode_49 : decode cX6_bestMode 49 = .ok (.iload_n 2, 1) := by decide +kernel
theorem dX6_bestMode_50 : decode cX6_bestMode 50 = .ok (.iload_n 1, 1) := by decide +kernel
theorem dX6_bestMode_51 : decode cX6_bestMode 51 = .ok (.invokevirtual 243, 3) := by decide +kernel
theorem dX6_bestMode_54 : decode cX6_bestMode 54 = .ok (.istore 6, 2) := by decide +kernel
theorem dX6_bestMode_56 : decode cX6_bestMode 56 = .ok (.iload 6, 2) := by decide +kernel
theorem dX6_bestMode_58 : decode cX6_bestMode 58 = .ok (.iload 4, 2) := by decide +kernel
theorem dX6_bestMode_60 : decode cX6_bestMode 60 = .ok (.if_icmp .le 10, 3) := by decide +kernel
theorem dX6_bestMode_63 : decode cX6_bestMode 63 = .ok (.iload 5, 2) := by decide +kernel
theorem dX6_bestMode_65 : decode cX6_bestMode 65 = .ok (.istore_n 3, 1) := by decide +kernel
theorem dX6_bestMode_66 : decode cX6_bestMode 66 = .ok (.iload 6, 2) := by decide +kernel
theorem dX6_bestMode_68 : decode cX6_bestMode 68 = .ok (.istore 4, 2) := by decide +kernel
theorem dX6_bestMode_70 : decode cX6_bestMode 70 = .ok (.iinc 5 1, 3) := by decide +kernel
theorem dX6_bestMode_73 : decode cX6_bestMode 73 = .ok (.goto (-33), 3) := by decide +kernel
theorem dX6_bestMode_76 : decode cX6_bestMode 76 = .ok (.iload_n 3, 1) := by decide +kernel
theorem dX6_bestMode_77 : decode cX6_bestMode 77 = .ok (.ireturn, 1) := by decide +kernel
theorem dX6_leastBid_0 : decode cX6_leastBid 0 = .ok (.aload_n 0, 1) := by decide +kernel
theorem dX6_leastBid_1 : decode cX6_leastBid 1 = .ok (.getfield 10, 3) := by decide +kernel
theorem dX6_leastBid_4 : decode cX6_leastBid 4 = .ok (.getfield 45, 3) := by decide +kernel
theorem dX6_leastBid_7 : decode cX6_leastBid 7 = .ok (.iload_n 1, 1) := by decide +kernel
theorem dX6_leastBid_8 : decode cX6_leastBid 8 = .ok (.invokevirtual 73, 3) := by decide +kernel
theorem dX6_leastBid_11 : decode cX6_leastBid 11 = .ok (.ifCond .ne 5, 3) := by decide +kernel
theorem dX6_leastBid_14 : decode cX6_leastBid 14 = .ok (.iconst (-1), 1) := by decide +kernel
theorem dX6_leastBid_15 : decode cX6_leastBid 15 = .ok (.ireturn, 1) := by decide +kernel
theorem dX6_leastBid_16 : decode cX6_leastBid 16 = .ok (.iload_n 2, 1) := by decide +kernel
theorem dX6_leastBid_17 : decode cX6_leastBid 17 = .ok (.invokestatic 232, 3) := by decide +kernel
theorem dX6_leastBid_20 : decode cX6_leastBid 20 = .ok (.ifCond .ne 6, 3) := by decide +kernel
theorem dX6_leastBid_23 : decode cX6_leastBid 23 = .ok (.bipush (-2), 2) := by decide +kernel
theorem dX6_leastBid_25 : decode cX6_leastBid 25 = .ok (.ireturn, 1) := by decide +kernel
theorem dX6_leastBid_26 : decode cX6_leastBid 26 = .ok (.aload_n 0, 1) := by decide +kernel
theorem dX6_leastBid_27 : decode cX6_leastBid 27 = .ok (.getfield 10, 3) := by decide +kernel
theorem dX6_leastBid_30 : decode cX6_leastBid 30 = .ok (.getfield 59, 3) := by decide +kernel
theorem dX6_leastBid_33 : decode cX6_leastBid 33 = .ok (.invokevirtual 63, 3) := by decide +kernel
theorem dX6_leastBid_36 : decode cX6_leastBid 36 = .ok (.ifCond .ne 16, 3) := by decide +kernel
theorem dX6_leastBid_39 : decode cX6_leastBid 39 = .ok (.aload_n 0, 1) := by decide +kernel
theorem dX6_leastBid_40 : decode cX6_leastBid 40 = .ok (.getfield 10, 3) := by decide +kernel
theorem dX6_leastBid_43 : decode cX6_leastBid 43 = .ok (.getfield 86, 3) := by decide +kernel
theorem dX6_leastBid_46 : decode cX6_leastBid 46 = .ok (.invokevirtual 240, 3) := by decide +kernel
theorem dX6_leastBid_49 : decode cX6_leastBid 49 = .ok (.ifCond .ne 6, 3) := by decide +kernel
theorem dX6_leastBid_52 : decode cX6_leastBid 52 = .ok (.bipush (-5), 2) := by decide +kernel
theorem dX6_leastBid_54 : decode cX6_leastBid 54 = .ok (.ireturn, 1) := by decide +kernel
theorem dX6_leastBid_55 : decode cX6_leastBid 55 = .ok (.aload_n 0, 1) := by decide +kernel
theorem dX6_leastBid_56 : decode cX6_leastBid 56 = .ok (.getfield 10, 3) := by decide +kernel
theorem dX6_leastBid_59 : decode cX6_leastBid 59 = .ok (.iload_n 1, 1) := by decide +kernel
theorem dX6_leastBid_60 : decode cX6_leastBid 60 = .ok (.iload_n 2, 1) := by decide +kernel
theorem dX6_leastBid_61 : decode cX6_leastBid 61 = .ok (.invokevirtual 247, 3) := by decide +kernel
theorem dX6_leastBid_64 : decode cX6_leastBid 64 = .ok (.istore_n 3, 1) := by decide +kernel
theorem dX6_leastBid_65 : decode cX6_leastBid 65 = .ok (.iload_n 3, 1) := by decide +kernel
theorem dX6_leastBid_66 : decode cX6_leastBid 66 = .ok (.aload_n 0, 1) := by decide +kernel
theorem dX6_leastBid_67 : decode cX6_leastBid 67 = .ok (.getfield 10, 3) := by decide +kernel
theorem dX6_leastBid_70 : decode cX6_leastBid 70 = .ok (.getfield 45, 3) := by decide +kernel
theorem dX6_leastBid_73 : decode cX6_leastBid 73 = .ok (.iload_n 1, 1) := by decide +kernel
theorem dX6_leastBid_74 : decode cX6_leastBid 74 = .ok (.invokevirtual 118, 3) := by decide +kernel
theorem dX6_leastBid_77 : decode cX6_leastBid 77 = .ok (.if_icmp .gt 7, 3) := by decide +kernel
theorem dX6_leastBid_80 : decode cX6_leastBid 80 = .ok (.iload_n 3, 1) := by decide +kernel
theorem dX6_leastBid_81 : decode cX6_leastBid 81 = .ok (.goto 5, 3) := by decide +kernel
theorem dX6_leastBid_84 : decode cX6_leastBid 84 = .ok (.bipush (-6), 2) := by decide +kernel
theorem dX6_leastBid_86 : decode cX6_leastBid 86 = .ok (.ireturn, 1) := by decide +kernel
theorem dX6_put_0 : decode cX6_put 0 = .ok (.lload_n 1, 1) := by decide +kernel
theorem dX6_put_1 : decode cX6_put 1 = .ok (.invokestatic 250, 3) := by decide +kernel
theorem dX6_put_4 : decode cX6_put 4 = .ok (.istore_n 3, 1) := by decide +kernel
theorem dX6_put_5 : decode cX6_put 5 = .ok (.iload_n 3, 1) := by decide +kernel
theorem dX6_put_6 : decode cX6_put 6 = .ok (.ifCond .ne 6, 3) := by decide +kernel
theorem dX6_put_9 : decode cX6_put 9 = .ok (.bipush (-2), 2) := by decide +kernel
theorem dX6_put_11 : decode cX6_put 11 = .ok (.ireturn, 1) := by decide +kernel
theorem dX6_put_12 : decode cX6_put 12 = .ok (.aload_n 0, 1) := by decide +kernel
theorem dX6_put_13 : decode cX6_put 13 = .ok (.getfield 33, 3) := by decide +kernel
theorem dX6_put_16 : decode cX6_put 16 = .ok (.getfield 202, 3) := by decide +kernel
theorem dX6_put_19 : decode cX6_put 19 = .ok (.iload_n 3, 1) := by decide +kernel
theorem dX6_put_20 : decode cX6_put 20 = .ok (.iadd, 1) := by decide +kernel
theorem dX6_put_21 : decode cX6_put 21 = .ok (.bipush 60, 2) := by decide +kernel
theorem dX6_put_23 : decode cX6_put 23 = .ok (.if_icmp .le 6, 3) := by decide +kernel
theorem dX6_put_26 : decode cX6_put 26 = .ok (.bipush (-4), 2) := by decide +kernel
theorem dX6_put_28 : decode cX6_put 28 = .ok (.ireturn, 1) := by decide +kernel
theorem dX6_put_29 : decode cX6_put 29 = .ok (.iload_n 3, 1) := by decide +kernel
theorem dX6_put_30 : decode cX6_put 30 = .ok (.iconst 1, 1) := by decide +kernel
theorem dX6_put_31 : decode cX6_put 31 = .ok (.isub, 1) := by decide +kernel
theorem dX6_put_32 : decode cX6_put 32 = .ok (.istore 4, 2) := by decide +kernel
theorem dX6_put_34 : decode cX6_put 34 = .ok (.iload 4, 2) := by decide +kernel
theorem dX6_put_36 : decode cX6_put 36 = .ok (.ifCond .lt 29, 3) := by decide +kernel
theorem dX6_put_39 : decode cX6_put 39 = .ok (.aload_n 0, 1) := by decide +kernel
theorem dX6_put_40 : decode cX6_put 40 = .ok (.getfield 33, 3) := by decide +kernel
theorem dX6_put_43 : decode cX6_put 43 = .ok (.lload_n 1, 1) := by decide +kernel
theorem dX6_put_44 : decode cX6_put 44 = .ok (.bipush 8, 2) := by decide +kernel
theorem dX6_put_46 : decode cX6_put 46 = .ok (.iload 4, 2) := by decide +kernel
theorem dX6_put_48 : decode cX6_put 48 = .ok (.imul, 1) := by decide +kernel
theorem dX6_put_49 : decode cX6_put 49 = .ok (.lushr, 1) := by decide +kernel
theorem dX6_put_50 : decode cX6_put 50 = .ok (.ldc2_w 254, 3) := by decide +kernel
theorem dX6_put_53 : decode cX6_put 53 = .ok (.land, 1) := by decide +kernel
theorem dX6_put_54 : decode cX6_put 54 = .ok (.l2i, 1) := by decide +kernel
theorem dX6_put_55 : decode cX6_put 55 = .ok (.i2c, 1) := by decide +kernel
theorem dX6_put_56 : decode cX6_put 56 = .ok (.invokevirtual 256, 3) := by decide +kernel
theorem dX6_put_59 : decode cX6_put 59 = .ok (.iinc 4 (-1), 3) := by decide +kernel
theorem dX6_put_62 : decode cX6_put 62 = .ok (.goto (-28), 3) := by decide +kernel
theorem dX6_put_65 : decode cX6_put 65 = .ok (.aload_n 0, 1) := by decide +kernel
theorem dX6_put_66 : decode cX6_put 66 = .ok (.getfield 33, 3) := by decide +kernel
theorem dX6_put_69 : decode cX6_put 69 = .ok (.getfield 202, 3) := by decide +kernel
theorem dX6_put_72 : decode cX6_put 72 = .ok (.ireturn, 1) := by decide +kernel
theorem dX6_wipe_0 : decode cX6_wipe 0 = .ok (.aload_n 0, 1) := by decide +kernel
theorem dX6_wipe_1 : decode cX6_wipe 1 = .ok (.getfield 33, 3) := by decide +kernel
theorem dX6_wipe_4 : decode cX6_wipe 4 = .ok (.getfield 202, 3) := by decide +kernel
theorem dX6_wipe_7 : decode cX6_wipe 7 = .ok (.istore_n 1, 1) := by decide +kernel
theorem dX6_wipe_8 : decode cX6_wipe 8 = .ok (.aload_n 0, 1) := by decide +kernel
theorem dX6_wipe_9 : decode cX6_wipe 9 = .ok (.getfield 33, 3) := by decide +kernel
theorem dX6_wipe_12 : decode cX6_wipe 12 = .ok (.invokevirtual 260, 3) := by decide +kernel
theorem dX6_wipe_15 : decode cX6_wipe 15 = .ok (.iload_n 1, 1) := by decide +kernel
theorem dX6_wipe_16 : decode cX6_wipe 16 = .ok (.ireturn, 1) := by decide +kernel
theorem dX6_fault_0 : decode cX6_fault 0 = .ok (.aload_n 0, 1) := by decide +kernel
theorem dX6_fault_1 : decode cX6_fault 1 = .ok (.getfield 33, 3) := by decide +kernel
theorem dX6_fault_4 : decode cX6_fault 4 = .ok (.invokevirtual 263, 3) := by decide +kernel
theorem dX6_fault_7 : decode cX6_fault 7 = .ok (.ireturn, 1) := by decide +kernel
theorem dX6_carryOut_0 : decode cX6_carryOut 0 = .ok (.aload_n 0, 1) := by decide +kernel
theorem dX6_carryOut_1 : decode cX6_carryOut 1 = .ok (.getfield 33, 3) := by decide +kernel
theorem dX6_carryOut_4 : decode cX6_carryOut 4 = .ok (.invokevirtual 263, 3) := by decide +kernel
theorem dX6_carryOut_7 : decode cX6_carryOut 7 = .ok (.bipush (-6), 2) := by decide +kernel
theorem dX6_carryOut_9 : decode cX6_carryOut 9 = .ok (.if_icmp .eq 6, 3) := by decide +kernel
theorem dX6_carryOut_12 : decode cX6_carryOut 12 = .ok (.bipush (-3), 2) := by decide +kernel
theorem dX6_carryOut_14 : decode cX6_carryOut 14 = .ok (.ireturn, 1) := by decide +kernel
theorem dX6_carryOut_15 : decode cX6_carryOut 15 = .ok (.iconst 0, 1) := by decide +kernel
theorem dX6_carryOut_16 : decode cX6_carryOut 16 = .ok (.istore_n 1, 1) := by decide +kernel
theorem dX6_carryOut_17 : decode cX6_carryOut 17 = .ok (.aload_n 0, 1) := by decide +kernel
theorem dX6_carryOut_18 : decode cX6_carryOut 18 = .ok (.getfield 33, 3) := by decide +kernel
theorem dX6_carryOut_21 : decode cX6_carryOut 21 = .ok (.invokevirtual 266, 3) := by decide +kernel
theorem dX6_carryOut_24 : decode cX6_carryOut 24 = .ok (.iconst 0, 1) := by decide +kernel
theorem dX6_carryOut_25 : decode cX6_carryOut 25 = .ok (.istore_n 2, 1) := by decide +kernel
theorem dX6_carryOut_26 : decode cX6_carryOut 26 = .ok (.iload_n 2, 1) := by decide +kernel
theorem dX6_carryOut_27 : decode cX6_carryOut 27 = .ok (.bipush 60, 2) := by decide +kernel
theorem dX6_carryOut_29 : decode cX6_carryOut 29 = .ok (.if_icmp .ge 50, 3) := by decide +kernel
theorem dX6_carryOut_32 : decode cX6_carryOut 32 = .ok (.aload_n 0, 1) := by decide +kernel
theorem dX6_carryOut_33 : decode cX6_carryOut 33 = .ok (.getfield 33, 3) := by decide +kernel
theorem dX6_carryOut_36 : decode cX6_carryOut 36 = .ok (.invokevirtual 269, 3) := by decide +kernel
theorem dX6_carryOut_39 : decode cX6_carryOut 39 = .ok (.ifCond .eq 40, 3) := by decide +kernel
theorem dX6_carryOut_42 : decode cX6_carryOut 42 = .ok (.aload_n 0, 1) := by decide +kernel
theorem dX6_carryOut_43 : decode cX6_carryOut 43 = .ok (.invokevirtual 272, 3) := by decide +kernel
theorem dX6_carryOut_46 : decode cX6_carryOut 46 = .ok (.invokestatic 275, 3) := by decide +kernel
theorem dX6_carryOut_49 : decode cX6_carryOut 49 = .ok (.ifCond .eq 6, 3) := by decide +kernel
theorem dX6_carryOut_52 : decode cX6_carryOut 52 = .ok (.goto 27, 3) := by decide +kernel
theorem dX6_carryOut_55 : decode cX6_carryOut 55 = .ok (.iinc 1 1, 3) := by decide +kernel
theorem dX6_carryOut_58 : decode cX6_carryOut 58 = .ok (.aload_n 0, 1) := by decide +kernel
theorem dX6_carryOut_59 : decode cX6_carryOut 59 = .ok (.getfield 33, 3) := by decide +kernel
theorem dX6_carryOut_62 : decode cX6_carryOut 62 = .ok (.bipush 44, 2) := by decide +kernel
theorem dX6_carryOut_64 : decode cX6_carryOut 64 = .ok (.invokevirtual 278, 3) := by decide +kernel
theorem dX6_carryOut_67 : decode cX6_carryOut 67 = .ok (.ifCond .ne 6, 3) := by decide +kernel
theorem dX6_carryOut_70 : decode cX6_carryOut 70 = .ok (.goto 9, 3) := by decide +kernel
theorem dX6_carryOut_73 : decode cX6_carryOut 73 = .ok (.iinc 2 1, 3) := by decide +kernel
theorem dX6_carryOut_76 : decode cX6_carryOut 76 = .ok (.goto (-50), 3) := by decide +kernel
theorem dX6_carryOut_79 : decode cX6_carryOut 79 = .ok (.aload_n 0, 1) := by decide +kernel
theorem dX6_carryOut_80 : decode cX6_carryOut 80 = .ok (.getfield 33, 3) := by decide +kernel
theorem dX6_carryOut_83 : decode cX6_carryOut 83 = .ok (.invokevirtual 260, 3) := by decide +kernel
theorem dX6_carryOut_86 : decode cX6_carryOut 86 = .ok (.iload_n 1, 1) := by decide +kernel
theorem dX6_carryOut_87 : decode cX6_carryOut 87 = .ok (.ireturn, 1) := by decide +kernel
theorem dX6_carryOutAct_0 : decode cX6_carryOutAct 0 = .ok (.aload_n 0, 1) := by decide +kernel
theorem dX6_carryOutAct_1 : decode cX6_carryOutAct 1 = .ok (.getfield 33, 3) := by decide +kernel
theorem dX6_carryOutAct_4 : decode cX6_carryOutAct 4 = .ok (.getfield 282, 3) := by decide +kernel
theorem dX6_carryOutAct_7 : decode cX6_carryOutAct 7 = .ok (.lookupswitch 108 #[(98, 63), (109, 100), (112, 85), (115, 41)], 41) := by decide +kernel
theorem dX6_carryOutAct_48 : decode cX6_carryOutAct 48 = .ok (.aload_n 0, 1) := by decide +kernel
theorem dX6_carryOutAct_49 : decode cX6_carryOutAct 49 = .ok (.getfield 10, 3) := by decide +kernel
theorem dX6_carryOutAct_52 : decode cX6_carryOutAct 52 = .ok (.aload_n 0, 1) := by decide +kernel
theorem dX6_carryOutAct_53 : decode cX6_carryOutAct 53 = .ok (.getfield 33, 3) := by decide +kernel
theorem dX6_carryOutAct_56 : decode cX6_carryOutAct 56 = .ok (.getfield 285, 3) := by decide +kernel
theorem dX6_carryOutAct_59 : decode cX6_carryOutAct 59 = .ok (.aload_n 0, 1) := by decide +kernel
theorem dX6_carryOutAct_60 : decode cX6_carryOutAct 60 = .ok (.getfield 33, 3) := by decide +kernel
theorem dX6_carryOutAct_63 : decode cX6_carryOutAct 63 = .ok (.getfield 288, 3) := by decide +kernel
theorem dX6_carryOutAct_66 : decode cX6_carryOutAct 66 = .ok (.invokevirtual 98, 3) := by decide +kernel
theorem dX6_carryOutAct_69 : decode cX6_carryOutAct 69 = .ok (.ireturn, 1) := by decide +kernel
theorem dX6_carryOutAct_70 : decode cX6_carryOutAct 70 = .ok (.aload_n 0, 1) := by decide +kernel
theorem dX6_carryOutAct_71 : decode cX6_carryOutAct 71 = .ok (.getfield 10, 3) := by decide +kernel
theorem dX6_carryOutAct_74 : decode cX6_carryOutAct 74 = .ok (.aload_n 0, 1) := by decide +kernel
theorem dX6_carryOutAct_75 : decode cX6_carryOutAct 75 = .ok (.getfield 33, 3) := by decide +kernel
theorem dX6_carryOutAct_78 : decode cX6_carryOutAct 78 = .ok (.getfield 285, 3) := by decide +kernel
theorem dX6_carryOutAct_81 : decode cX6_carryOutAct 81 = .ok (.aload_n 0, 1) := by decide +kernel
theorem dX6_carryOutAct_82 : decode cX6_carryOutAct 82 = .ok (.getfield 33, 3) := by decide +kernel
theorem dX6_carryOutAct_85 : decode cX6_carryOutAct 85 = .ok (.getfield 288, 3) := by decide +kernel
theorem dX6_carryOutAct_88 : decode cX6_carryOutAct 88 = .ok (.invokevirtual 101, 3) := by decide +kernel
theorem dX6_carryOutAct_91 : decode cX6_carryOutAct 91 = .ok (.ireturn, 1) := by decide +kernel
theorem dX6_carryOutAct_92 : decode cX6_carryOutAct 92 = .ok (.aload_n 0, 1) := by decide +kernel
theorem dX6_carryOutAct_93 : decode cX6_carryOutAct 93 = .ok (.getfield 10, 3) := by decide +kernel
theorem dX6_carryOutAct_96 : decode cX6_carryOutAct 96 = .ok (.aload_n 0, 1) := by decide +kernel
theorem dX6_carryOutAct_97 : decode cX6_carryOutAct 97 = .ok (.getfield 33, 3) := by decide +kernel
theorem dX6_carryOutAct_100 : decode cX6_carryOutAct 100 = .ok (.getfield 285, 3) := by decide +kernel
theorem dX6_carryOutAct_103 : decode cX6_carryOutAct 103 = .ok (.invokevirtual 104, 3) := by decide +kernel
theorem dX6_carryOutAct_106 : decode cX6_carryOutAct 106 = .ok (.ireturn, 1) := by decide +kernel
theorem dX6_carryOutAct_107 : decode cX6_carryOutAct 107 = .ok (.aload_n 0, 1) := by decide +kernel
theorem dX6_carryOutAct_108 : decode cX6_carryOutAct 108 = .ok (.getfield 10, 3) := by decide +kernel
theorem dX6_carryOutAct_111 : decode cX6_carryOutAct 111 = .ok (.invokevirtual 108, 3) := by decide +kernel
theorem dX6_carryOutAct_114 : decode cX6_carryOutAct 114 = .ok (.ireturn, 1) := by decide +kernel
theorem dX6_carryOutAct_115 : decode cX6_carryOutAct 115 = .ok (.aload_n 0, 1) := by decide +kernel
theorem dX6_carryOutAct_116 : decode cX6_carryOutAct 116 = .ok (.getfield 10, 3) := by decide +kernel
theorem dX6_carryOutAct_119 : decode cX6_carryOutAct 119 = .ok (.invokevirtual 112, 3) := by decide +kernel
theorem dX6_carryOutAct_122 : decode cX6_carryOutAct 122 = .ok (.ireturn, 1) := by decide +kernel
theorem dX6_save_0 : decode cX6_save 0 = .ok (.iload_n 1, 1) := by decide +kernel
theorem dX6_save_1 : decode cX6_save 1 = .ok (.invokestatic 291, 3) := by decide +kernel
theorem dX6_save_4 : decode cX6_save 4 = .ok (.ifCond .ne 6, 3) := by decide +kernel
theorem dX6_save_7 : decode cX6_save 7 = .ok (.bipush (-2), 2) := by decide +kernel
theorem dX6_save_9 : decode cX6_save 9 = .ok (.ireturn, 1) := by decide +kernel
theorem dX6_save_10 : decode cX6_save 10 = .ok (.aload_n 0, 1) := by decide +kernel
theorem dX6_save_11 : decode cX6_save 11 = .ok (.getfield 19, 3) := by decide +kernel
theorem dX6_save_14 : decode cX6_save 14 = .ok (.iload_n 1, 1) := by decide +kernel
theorem dX6_save_15 : decode cX6_save 15 = .ok (.aaload, 1) := by decide +kernel
theorem dX6_save_16 : decode cX6_save 16 = .ok (.astore_n 2, 1) := by decide +kernel
theorem dX6_save_17 : decode cX6_save 17 = .ok (.aload_n 2, 1) := by decide +kernel
theorem dX6_save_18 : decode cX6_save 18 = .ok (.ifnonnull 18, 3) := by decide +kernel
theorem dX6_save_21 : decode cX6_save 21 = .ok (.new 7, 3) := by decide +kernel
theorem dX6_save_24 : decode cX6_save 24 = .ok (.dup, 1) := by decide +kernel
theorem dX6_save_25 : decode cX6_save 25 = .ok (.invokespecial 9, 3) := by decide +kernel
theorem dX6_save_28 : decode cX6_save 28 = .ok (.astore_n 2, 1) := by decide +kernel
theorem dX6_save_29 : decode cX6_save 29 = .ok (.aload_n 0, 1) := by decide +kernel
theorem dX6_save_30 : decode cX6_save 30 = .ok (.getfield 19, 3) := by decide +kernel
theorem dX6_save_33 : decode cX6_save 33 = .ok (.iload_n 1, 1) := by decide +kernel
theorem dX6_save_34 : decode cX6_save 34 = .ok (.aload_n 2, 1) := by decide +kernel
theorem dX6_save_35 : decode cX6_save 35 = .ok (.aastore, 1) := by decide +kernel
theorem dX6_save_36 : decode cX6_save 36 = .ok (.aload_n 2, 1) := by decide +kernel
theorem dX6_save_37 : decode cX6_save 37 = .ok (.aload_n 0, 1) := by decide +kernel
theorem dX6_save_38 : decode cX6_save 38 = .ok (.getfield 10, 3) := by decide +kernel
theorem dX6_save_41 : decode cX6_save 41 = .ok (.invokevirtual 235, 3) := by decide +kernel
theorem dX6_save_44 : decode cX6_save 44 = .ok (.aload_n 0, 1) := by decide +kernel
theorem dX6_save_45 : decode cX6_save 45 = .ok (.getfield 10, 3) := by decide +kernel
theorem dX6_save_48 : decode cX6_save 48 = .ok (.getfield 86, 3) := by decide +kernel
theorem dX6_save_51 : decode cX6_save 51 = .ok (.getfield 294, 3) := by decide +kernel
theorem dX6_save_54 : decode cX6_save 54 = .ok (.ireturn, 1) := by decide +kernel
theorem dX6_restore_0 : decode cX6_restore 0 = .ok (.iload_n 1, 1) := by decide +kernel
theorem dX6_restore_1 : decode cX6_restore 1 = .ok (.invokestatic 291, 3) := by decide +kernel
theorem dX6_restore_4 : decode cX6_restore 4 = .ok (.ifCond .ne 6, 3) := by decide +kernel
theorem dX6_restore_7 : decode cX6_restore 7 = .ok (.bipush (-2), 2) := by decide +kernel
theorem dX6_restore_9 : decode cX6_restore 9 = .ok (.ireturn, 1) := by decide +kernel
theorem dX6_restore_10 : decode cX6_restore 10 = .ok (.aload_n 0, 1) := by decide +kernel
theorem dX6_restore_11 : decode cX6_restore 11 = .ok (.getfield 19, 3) := by decide +kernel
theorem dX6_restore_14 : decode cX6_restore 14 = .ok (.iload_n 1, 1) := by decide +kernel
theorem dX6_restore_15 : decode cX6_restore 15 = .ok (.aaload, 1) := by decide +kernel
theorem dX6_restore_16 : decode cX6_restore 16 = .ok (.astore_n 2, 1) := by decide +kernel
theorem dX6_restore_17 : decode cX6_restore 17 = .ok (.aload_n 2, 1) := by decide +kernel
theorem dX6_restore_18 : decode cX6_restore 18 = .ok (.ifnonnull 6, 3) := by decide +kernel
theorem dX6_restore_21 : decode cX6_restore 21 = .ok (.bipush (-5), 2) := by decide +kernel
theorem dX6_restore_23 : decode cX6_restore 23 = .ok (.ireturn, 1) := by decide +kernel
theorem dX6_restore_24 : decode cX6_restore 24 = .ok (.aload_n 0, 1) := by decide +kernel
theorem dX6_restore_25 : decode cX6_restore 25 = .ok (.getfield 10, 3) := by decide +kernel
theorem dX6_restore_28 : decode cX6_restore 28 = .ok (.aload_n 2, 1) := by decide +kernel
theorem dX6_restore_29 : decode cX6_restore 29 = .ok (.invokevirtual 235, 3) := by decide +kernel
theorem dX6_restore_32 : decode cX6_restore 32 = .ok (.aload_n 0, 1) := by decide +kernel
theorem dX6_restore_33 : decode cX6_restore 33 = .ok (.getfield 10, 3) := by decide +kernel
theorem dX6_restore_36 : decode cX6_restore 36 = .ok (.getfield 86, 3) := by decide +kernel
theorem dX6_restore_39 : decode cX6_restore 39 = .ok (.getfield 294, 3) := by decide +kernel
theorem dX6_restore_42 : decode cX6_restore 42 = .ok (.ireturn, 1) := by decide +kernel
theorem dX6_within_0 : decode cX6_within 0 = .ok (.iload_n 0, 1) := by decide +kernel
theorem dX6_within_1 : decode cX6_within 1 = .ok (.iload_n 1, 1) := by decide +kernel
theorem dX6_within_2 : decode cX6_within 2 = .ok (.if_icmp .lt 12, 3) := by decide +kernel
theorem dX6_within_5 : decode cX6_within 5 = .ok (.iload_n 0, 1) := by decide +kernel
theorem dX6_within_6 : decode cX6_within 6 = .ok (.iload_n 2, 1) := by decide +kernel
theorem dX6_within_7 : decode cX6_within 7 = .ok (.if_icmp .gt 7, 3) := by decide +kernel
theorem dX6_within_10 : decode cX6_within 10 = .ok (.iconst 1, 1) := by decide +kernel
theorem dX6_within_11 : decode cX6_within 11 = .ok (.goto 4, 3) := by decide +kernel
theorem dX6_within_14 : decode cX6_within 14 = .ok (.iconst 0, 1) := by decide +kernel
theorem dX6_within_15 : decode cX6_within 15 = .ok (.ireturn, 1) := by decide +kernel
theorem dX6_isMode_0 : decode cX6_isMode 0 = .ok (.iload_n 0, 1) := by decide +kernel
theorem dX6_isMode_1 : decode cX6_isMode 1 = .ok (.iconst 0, 1) := by decide +kernel
theorem dX6_isMode_2 : decode cX6_isMode 2 = .ok (.iconst 2, 1) := by decide +kernel
theorem dX6_isMode_3 : decode cX6_isMode 3 = .ok (.invokestatic 41, 3) := by decide +kernel
theorem dX6_isMode_6 : decode cX6_isMode 6 = .ok (.ireturn, 1) := by decide +kernel
theorem dX6_isReserve_0 : decode cX6_isReserve 0 = .ok (.iload_n 0, 1) := by decide +kernel
theorem dX6_isReserve_1 : decode cX6_isReserve 1 = .ok (.iconst 1, 1) := by decide +kernel
theorem dX6_isReserve_2 : decode cX6_isReserve 2 = .ok (.sipush 300, 3) := by decide +kernel
theorem dX6_isReserve_5 : decode cX6_isReserve 5 = .ok (.invokestatic 41, 3) := by decide +kernel
theorem dX6_isReserve_8 : decode cX6_isReserve 8 = .ok (.ireturn, 1) := by decide +kernel
theorem dX6_isSetting_0 : decode cX6_isSetting 0 = .ok (.iload_n 0, 1) := by decide +kernel
theorem dX6_isSetting_1 : decode cX6_isSetting 1 = .ok (.iconst 0, 1) := by decide +kernel
theorem dX6_isSetting_2 : decode cX6_isSetting 2 = .ok (.iconst 5, 1) := by decide +kernel
theorem dX6_isSetting_3 : decode cX6_isSetting 3 = .ok (.invokestatic 41, 3) := by decide +kernel
theorem dX6_isSetting_6 : decode cX6_isSetting 6 = .ok (.ireturn, 1) := by decide +kernel
theorem dX6_isSettingValue_0 : decode cX6_isSettingValue 0 = .ok (.iload_n 0, 1) := by decide +kernel
theorem dX6_isSettingValue_1 : decode cX6_isSettingValue 1 = .ok (.invokestatic 166, 3) := by decide +kernel
theorem dX6_isSettingValue_4 : decode cX6_isSettingValue 4 = .ok (.ifCond .eq 24, 3) := by decide +kernel
theorem dX6_isSettingValue_7 : decode cX6_isSettingValue 7 = .ok (.iload_n 1, 1) := by decide +kernel
theorem dX6_isSettingValue_8 : decode cX6_isSettingValue 8 = .ok (.getstatic 297, 3) := by decide +kernel
theorem dX6_isSettingValue_11 : decode cX6_isSettingValue 11 = .ok (.iload_n 0, 1) := by decide +kernel
theorem dX6_isSettingValue_12 : decode cX6_isSettingValue 12 = .ok (.iaload, 1) := by decide +kernel
theorem dX6_isSettingValue_13 : decode cX6_isSettingValue 13 = .ok (.getstatic 301, 3) := by decide +kernel
theorem dX6_isSettingValue_16 : decode cX6_isSettingValue 16 = .ok (.iload_n 0, 1) := by decide +kernel
theorem dX6_isSettingValue_17 : decode cX6_isSettingValue 17 = .ok (.iaload, 1) := by decide +kernel
theorem dX6_isSettingValue_18 : decode cX6_isSettingValue 18 = .ok (.invokestatic 41, 3) := by decide +kernel
theorem dX6_isSettingValue_21 : decode cX6_isSettingValue 21 = .ok (.ifCond .eq 7, 3) := by decide +kernel
theorem dX6_isSettingValue_24 : decode cX6_isSettingValue 24 = .ok (.iconst 1, 1) := by decide +kernel
theorem dX6_isSettingValue_25 : decode cX6_isSettingValue 25 = .ok (.goto 4, 3) := by decide +kernel
theorem dX6_isSettingValue_28 : decode cX6_isSettingValue 28 = .ok (.iconst 0, 1) := by decide +kernel
theorem dX6_isSettingValue_29 : decode cX6_isSettingValue 29 = .ok (.ireturn, 1) := by decide +kernel
theorem dX6_isSlot_0 : decode cX6_isSlot 0 = .ok (.iload_n 0, 1) := by decide +kernel
theorem dX6_isSlot_1 : decode cX6_isSlot 1 = .ok (.iconst 0, 1) := by decide +kernel
theorem dX6_isSlot_2 : decode cX6_isSlot 2 = .ok (.iconst 1, 1) := by decide +kernel
theorem dX6_isSlot_3 : decode cX6_isSlot 3 = .ok (.invokestatic 41, 3) := by decide +kernel
theorem dX6_isSlot_6 : decode cX6_isSlot 6 = .ok (.ireturn, 1) := by decide +kernel
theorem dX6_isError_0 : decode cX6_isError 0 = .ok (.iload_n 0, 1) := by decide +kernel
theorem dX6_isError_1 : decode cX6_isError 1 = .ok (.ifCond .ge 13, 3) := by decide +kernel
theorem dX6_isError_4 : decode cX6_isError 4 = .ok (.iload_n 0, 1) := by decide +kernel
theorem dX6_isError_5 : decode cX6_isError 5 = .ok (.bipush (-6), 2) := by decide +kernel
theorem dX6_isError_7 : decode cX6_isError 7 = .ok (.if_icmp .eq 7, 3) := by decide +kernel
theorem dX6_isError_10 : decode cX6_isError 10 = .ok (.iconst 1, 1) := by decide +kernel
theorem dX6_isError_11 : decode cX6_isError 11 = .ok (.goto 4, 3) := by decide +kernel
theorem dX6_isError_14 : decode cX6_isError 14 = .ok (.iconst 0, 1) := by decide +kernel
theorem dX6_isError_15 : decode cX6_isError 15 = .ok (.ireturn, 1) := by decide +kernel
theorem dX6_signsIn_0 : decode cX6_signsIn 0 = .ok (.lload_n 0, 1) := by decide +kernel
theorem dX6_signsIn_1 : decode cX6_signsIn 1 = .ok (.lstore_n 2, 1) := by decide +kernel
theorem dX6_signsIn_2 : decode cX6_signsIn 2 = .ok (.iconst 0, 1) := by decide +kernel
theorem dX6_signsIn_3 : decode cX6_signsIn 3 = .ok (.istore 4, 2) := by decide +kernel
theorem dX6_signsIn_5 : decode cX6_signsIn 5 = .ok (.iconst 0, 1) := by decide +kernel
theorem dX6_signsIn_6 : decode cX6_signsIn 6 = .ok (.istore 5, 2) := by decide +kernel
theorem dX6_signsIn_8 : decode cX6_signsIn 8 = .ok (.iload 5, 2) := by decide +kernel
theorem dX6_signsIn_10 : decode cX6_signsIn 10 = .ok (.bipush 8, 2) := by decide +kernel
theorem dX6_signsIn_12 : decode cX6_signsIn 12 = .ok (.if_icmp .ge 45, 3) := by decide +kernel
theorem dX6_signsIn_15 : decode cX6_signsIn 15 = .ok (.lload_n 2, 1) := by decide +kernel
theorem dX6_signsIn_16 : decode cX6_signsIn 16 = .ok (.ldc2_w 254, 3) := by decide +kernel
theorem dX6_signsIn_19 : decode cX6_signsIn 19 = .ok (.land, 1) := by decide +kernel
theorem dX6_signsIn_20 : decode cX6_signsIn 20 = .ok (.lconst 0, 1) := by decide +kernel
theorem dX6_signsIn_21 : decode cX6_signsIn 21 = .ok (.lcmp, 1) := by decide +kernel
theorem dX6_signsIn_22 : decode cX6_signsIn 22 = .ok (.ifCond .eq 35, 3) := by decide +kernel
theorem dX6_signsIn_25 : decode cX6_signsIn 25 = .ok (.lload_n 2, 1) := by decide +kernel
theorem dX6_signsIn_26 : decode cX6_signsIn 26 = .ok (.ldc2_w 254, 3) := by decide +kernel
theorem dX6_signsIn_29 : decode cX6_signsIn 29 = .ok (.land, 1) := by decide +kernel
theorem dX6_signsIn_30 : decode cX6_signsIn 30 = .ok (.l2i, 1) := by decide +kernel
theorem dX6_signsIn_31 : decode cX6_signsIn 31 = .ok (.bipush 33, 2) := by decide +kernel
theorem dX6_signsIn_33 : decode cX6_signsIn 33 = .ok (.bipush 126, 2) := by decide +kernel
theorem dX6_signsIn_35 : decode cX6_signsIn 35 = .ok (.invokestatic 41, 3) := by decide +kernel
theorem dX6_signsIn_38 : decode cX6_signsIn 38 = .ok (.ifCond .ne 5, 3) := by decide +kernel
theorem dX6_signsIn_41 : decode cX6_signsIn 41 = .ok (.iconst 0, 1) := by decide +kernel
theorem dX6_signsIn_42 : decode cX6_signsIn 42 = .ok (.ireturn, 1) := by decide +kernel
theorem dX6_signsIn_43 : decode cX6_signsIn 43 = .ok (.lload_n 2, 1) := by decide +kernel
theorem dX6_signsIn_44 : decode cX6_signsIn 44 = .ok (.bipush 8, 2) := by decide +kernel
theorem dX6_signsIn_46 : decode cX6_signsIn 46 = .ok (.lushr, 1) := by decide +kernel
theorem dX6_signsIn_47 : decode cX6_signsIn 47 = .ok (.lstore_n 2, 1) := by decide +kernel
theorem dX6_signsIn_48 : decode cX6_signsIn 48 = .ok (.iinc 4 1, 3) := by decide +kernel
theorem dX6_signsIn_51 : decode cX6_signsIn 51 = .ok (.iinc 5 1, 3) := by decide +kernel
theorem dX6_signsIn_54 : decode cX6_signsIn 54 = .ok (.goto (-46), 3) := by decide +kernel
theorem dX6_signsIn_57 : decode cX6_signsIn 57 = .ok (.lload_n 2, 1) := by decide +kernel
theorem dX6_signsIn_58 : decode cX6_signsIn 58 = .ok (.lconst 0, 1) := by decide +kernel
theorem dX6_signsIn_59 : decode cX6_signsIn 59 = .ok (.lcmp, 1) := by decide +kernel
theorem dX6_signsIn_60 : decode cX6_signsIn 60 = .ok (.ifCond .ne 8, 3) := by decide +kernel
theorem dX6_signsIn_63 : decode cX6_signsIn 63 = .ok (.iload 4, 2) := by decide +kernel
theorem dX6_signsIn_65 : decode cX6_signsIn 65 = .ok (.goto 4, 3) := by decide +kernel
theorem dX6_signsIn_68 : decode cX6_signsIn 68 = .ok (.iconst 0, 1) := by decide +kernel
theorem dX6_signsIn_69 : decode cX6_signsIn 69 = .ok (.ireturn, 1) := by decide +kernel
theorem dX6_copyRow_0 : decode cX6_copyRow 0 = .ok (.aload_n 0, 1) := by decide +kernel
theorem dX6_copyRow_1 : decode cX6_copyRow 1 = .ok (.iconst 0, 1) := by decide +kernel
theorem dX6_copyRow_2 : decode cX6_copyRow 2 = .ok (.aload_n 1, 1) := by decide +kernel
theorem dX6_copyRow_3 : decode cX6_copyRow 3 = .ok (.iconst 0, 1) := by decide +kernel
theorem dX6_copyRow_4 : decode cX6_copyRow 4 = .ok (.aload_n 0, 1) := by decide +kernel
theorem dX6_copyRow_5 : decode cX6_copyRow 5 = .ok (.arraylength, 1) := by decide +kernel
theorem dX6_copyRow_6 : decode cX6_copyRow 6 = .ok (.aload_n 1, 1) := by decide +kernel
theorem dX6_copyRow_7 : decode cX6_copyRow 7 = .ok (.arraylength, 1) := by decide +kernel
theorem dX6_copyRow_8 : decode cX6_copyRow 8 = .ok (.invokestatic 304, 3) := by decide +kernel
theorem dX6_copyRow_11 : decode cX6_copyRow 11 = .ok (.invokestatic 309, 3) := by decide +kernel
theorem dX6_copyRow_14 : decode cX6_copyRow 14 = .ok (.return_, 1) := by decide +kernel
theorem dX7_init_0 : decode cX7_init 0 = .ok (.aload_n 0, 1) := by decide +kernel
theorem dX7_init_1 : decode cX7_init 1 = .ok (.invokespecial 1, 3) := by decide +kernel
theorem dX7_init_4 : decode cX7_init 4 = .ok (.aload_n 0, 1) := by decide +kernel
theorem dX7_init_5 : decode cX7_init 5 = .ok (.bipush 118, 2) := by decide +kernel
theorem dX7_init_7 : decode cX7_init 7 = .ok (.newarray .int, 2) := by decide +kernel
theorem dX7_init_9 : decode cX7_init 9 = .ok (.putfield 7, 3) := by decide +kernel
theorem dX7_init_12 : decode cX7_init 12 = .ok (.aload_n 0, 1) := by decide +kernel
theorem dX7_init_13 : decode cX7_init 13 = .ok (.bipush 118, 2) := by decide +kernel
theorem dX7_init_15 : decode cX7_init 15 = .ok (.newarray .int, 2) := by decide +kernel
theorem dX7_init_17 : decode cX7_init 17 = .ok (.putfield 13, 3) := by decide +kernel
theorem dX7_init_20 : decode cX7_init 20 = .ok (.aload_n 0, 1) := by decide +kernel
theorem dX7_init_21 : decode cX7_init 21 = .ok (.sipush 236, 3) := by decide +kernel
theorem dX7_init_24 : decode cX7_init 24 = .ok (.newarray .int, 2) := by decide +kernel
theorem dX7_init_26 : decode cX7_init 26 = .ok (.putfield 16, 3) := by decide +kernel
theorem dX7_init_29 : decode cX7_init 29 = .ok (.aload_n 0, 1) := by decide +kernel
theorem dX7_init_30 : decode cX7_init 30 = .ok (.iconst 2, 1) := by decide +kernel
theorem dX7_init_31 : decode cX7_init 31 = .ok (.newarray .boolean, 2) := by decide +kernel
theorem dX7_init_33 : decode cX7_init 33 = .ok (.putfield 19, 3) := by decide +kernel
theorem dX7_init_36 : decode cX7_init 36 = .ok (.aload_n 0, 1) := by decide +kernel
theorem dX7_init_37 : decode cX7_init 37 = .ok (.bipush 60, 2) := by decide +kernel
theorem dX7_init_39 : decode cX7_init 39 = .ok (.newarray .int, 2) := by decide +kernel
theorem dX7_init_41 : decode cX7_init 41 = .ok (.putfield 23, 3) := by decide +kernel
theorem dX7_init_44 : decode cX7_init 44 = .ok (.aload_n 0, 1) := by decide +kernel
theorem dX7_init_45 : decode cX7_init 45 = .ok (.bipush 6, 2) := by decide +kernel
theorem dX7_init_47 : decode cX7_init 47 = .ok (.newarray .int, 2) := by decide +kernel
theorem dX7_init_49 : decode cX7_init 49 = .ok (.putfield 26, 3) := by decide +kernel
theorem dX7_init_52 : decode cX7_init 52 = .ok (.aload_n 0, 1) := by decide +kernel
theorem dX7_init_53 : decode cX7_init 53 = .ok (.sipush 1801, 3) := by decide +kernel
theorem dX7_init_56 : decode cX7_init 56 = .ok (.newarray .long, 2) := by decide +kernel
theorem dX7_init_58 : decode cX7_init 58 = .ok (.putfield 29, 3) := by decide +kernel
theorem dX7_init_61 : decode cX7_init 61 = .ok (.aload_n 0, 1) := by decide +kernel
theorem dX7_init_62 : decode cX7_init 62 = .ok (.sipush 1801, 3) := by decide +kernel
theorem dX7_init_65 : decode cX7_init 65 = .ok (.newarray .long, 2) := by decide +kernel
theorem dX7_init_67 : decode cX7_init 67 = .ok (.putfield 33, 3) := by decide +kernel
theorem dX7_init_70 : decode cX7_init 70 = .ok (.aload_n 0, 1) := by decide +kernel
theorem dX7_init_71 : decode cX7_init 71 = .ok (.bipush 93, 2) := by decide +kernel
theorem dX7_init_73 : decode cX7_init 73 = .ok (.newarray .int, 2) := by decide +kernel
theorem dX7_init_75 : decode cX7_init 75 = .ok (.putfield 36, 3) := by decide +kernel
theorem dX7_init_78 : decode cX7_init 78 = .ok (.aload_n 0, 1) := by decide +kernel
theorem dX7_init_79 : decode cX7_init 79 = .ok (.getfield 7, 3) := by decide +kernel
theorem dX7_init_82 : decode cX7_init 82 = .ok (.bipush 10, 2) := by decide +kernel
theorem dX7_init_84 : decode cX7_init 84 = .ok (.bipush 100, 2) := by decide +kernel
theorem dX7_init_86 : decode cX7_init 86 = .ok (.iastore, 1) := by decide +kernel
theorem dX7_init_87 : decode cX7_init 87 = .ok (.aload_n 0, 1) := by decide +kernel
theorem dX7_init_88 : decode cX7_init 88 = .ok (.getfield 7, 3) := by decide +kernel
theorem dX7_init_91 : decode cX7_init 91 = .ok (.bipush 11, 2) := by decide +kernel
theorem dX7_init_93 : decode cX7_init 93 = .ok (.iconst 5, 1) := by decide +kernel
theorem dX7_init_94 : decode cX7_init 94 = .ok (.iastore, 1) := by decide +kernel
theorem dX7_init_95 : decode cX7_init 95 = .ok (.aload_n 0, 1) := by decide +kernel
theorem dX7_init_96 : decode cX7_init 96 = .ok (.getfield 7, 3) := by decide +kernel
theorem dX7_init_99 : decode cX7_init 99 = .ok (.bipush 12, 2) := by decide +kernel
theorem dX7_init_101 : decode cX7_init 101 = .ok (.bipush 12, 2) := by decide +kernel
theorem dX7_init_103 : decode cX7_init 103 = .ok (.iastore, 1) := by decide +kernel
theorem dX7_init_104 : decode cX7_init 104 = .ok (.aload_n 0, 1) := by decide +kernel
theorem dX7_init_105 : decode cX7_init 105 = .ok (.getfield 7, 3) := by decide +kernel
theorem dX7_init_108 : decode cX7_init 108 = .ok (.bipush 13, 2) := by decide +kernel
theorem dX7_init_110 : decode cX7_init 110 = .ok (.iconst 4, 1) := by decide +kernel
theorem dX7_init_111 : decode cX7_init 111 = .ok (.iastore, 1) := by decide +kernel
theorem dX7_init_112 : decode cX7_init 112 = .ok (.aload_n 0, 1) := by decide +kernel
theorem dX7_init_113 : decode cX7_init 113 = .ok (.getfield 7, 3) := by decide +kernel
theorem dX7_init_116 : decode cX7_init 116 = .ok (.bipush 14, 2) := by decide +kernel
theorem dX7_init_118 : decode cX7_init 118 = .ok (.bipush 15, 2) := by decide +kernel
theorem dX7_init_120 : decode cX7_init 120 = .ok (.iastore, 1) := by decide +kernel
theorem dX7_init_121 : decode cX7_init 121 = .ok (.aload_n 0, 1) := by decide +kernel
theorem dX7_init_122 : decode cX7_init 122 = .ok (.getfield 7, 3) := by decide +kernel
theorem dX7_init_125 : decode cX7_init 125 = .ok (.bipush 15, 2) := by decide +kernel
theorem dX7_init_127 : decode cX7_init 127 = .ok (.iconst 5, 1) := by decide +kernel
theorem dX7_init_128 : decode cX7_init 128 = .ok (.iastore, 1) := by decide +kernel
theorem dX7_init_129 : decode cX7_init 129 = .ok (.aload_n 0, 1) := by decide +kernel
theorem dX7_init_130 : decode cX7_init 130 = .ok (.iconst 3, 1) := by decide +kernel
theorem dX7_init_131 : decode cX7_init 131 = .ok (.invokevirtual 39, 3) := by decide +kernel
theorem dX7_init_134 : decode cX7_init 134 = .ok (.return_, 1) := by decide +kernel
theorem dX7_in_0 : decode cX7_in 0 = .ok (.iload_n 0, 1) := by decide +kernel
theorem dX7_in_1 : decode cX7_in 1 = .ok (.iload_n 1, 1) := by decide +kernel
theorem dX7_in_2 : decode cX7_in 2 = .ok (.if_icmp .lt 12, 3) := by decide +kernel
theorem dX7_in_5 : decode cX7_in 5 = .ok (.iload_n 0, 1) := by decide +kernel
theorem dX7_in_6 : decode cX7_in 6 = .ok (.iload_n 2, 1) := by decide +kernel
theorem dX7_in_7 : decode cX7_in 7 = .ok (.if_icmp .gt 7, 3) := by decide +kernel
theorem dX7_in_10 : decode cX7_in 10 = .ok (.iconst 1, 1) := by decide +kernel
theorem dX7_in_11 : decode cX7_in 11 = .ok (.goto 4, 3) := by decide +kernel
theorem dX7_in_14 : decode cX7_in 14 = .ok (.iconst 0, 1) := by decide +kernel
theorem dX7_in_15 : decode cX7_in 15 = .ok (.ireturn, 1) := by decide +kernel
theorem dX7_setting_0 : decode cX7_setting 0 = .ok (.aload_n 0, 1) := by decide +kernel
theorem dX7_setting_1 : decode cX7_setting 1 = .ok (.getfield 7, 3) := by decide +kernel
theorem dX7_setting_4 : decode cX7_setting 4 = .ok (.bipush 10, 2) := by decide +kernel
theorem dX7_setting_6 : decode cX7_setting 6 = .ok (.iload_n 1, 1) := by decide +kernel
theorem dX7_setting_7 : decode cX7_setting 7 = .ok (.iadd, 1) := by decide +kernel
theorem dX7_setting_8 : decode cX7_setting 8 = .ok (.iaload, 1) := by decide +kernel
theorem dX7_setting_9 : decode cX7_setting 9 = .ok (.ireturn, 1) := by decide +kernel
theorem dX7_of_0 : decode cX7_of 0 = .ok (.aload_n 0, 1) := by decide +kernel
theorem dX7_of_1 : decode cX7_of 1 = .ok (.getfield 7, 3) := by decide +kernel
theorem dX7_of_4 : decode cX7_of 4 = .ok (.bipush 16, 2) := by decide +kernel
theorem dX7_of_6 : decode cX7_of 6 = .ok (.bipush 7, 2) := by decide +kernel
theorem dX7_of_8 : decode cX7_of 8 = .ok (.iload_n 1, 1) := by decide +kernel
theorem dX7_of_9 : decode cX7_of 9 = .ok (.imul, 1) := by decide +kernel
theorem dX7_of_10 : decode cX7_of 10 = .ok (.iadd, 1) := by decide +kernel
theorem dX7_of_11 : decode cX7_of 11 = .ok (.iload_n 2, 1) := by decide +kernel
theorem dX7_of_12 : decode cX7_of 12 = .ok (.iadd, 1) := by decide +kernel
theorem dX7_of_13 : decode cX7_of 13 = .ok (.iaload, 1) := by decide +kernel
theorem dX7_of_14 : decode cX7_of 14 = .ok (.ireturn, 1) := by decide +kernel
theorem dX7_lay_0 : decode cX7_lay 0 = .ok (.aload_n 0, 1) := by decide +kernel
theorem dX7_lay_1 : decode cX7_lay 1 = .ok (.getfield 7, 3) := by decide +kernel
end
section
theorem dX7_lay_4 : decode cX7_lay 4 = .ok (.bipush 16, 2) := by decide +kernel
theorem dX7_lay_6 : decode cX7_lay 6 = .ok (.bipush 7, 2) := by decide +kernel
theorem dX7_lay_8 : decode cX7_lay 8 = .ok (.iload_n 1, 1) := by decide +kernel
theorem dX7_lay_9 : decode cX7_lay 9 = .ok (.imul, 1) := by decide +kernel
theorem dX7_lay_10 : decode cX7_lay 10 = .ok (.iadd, 1) := by decide +kernel
theorem dX7_lay_11 : decode cX7_lay 11 = .ok (.iload_n 2, 1) := by decide +kernel
theorem dX7_lay_12 : decode cX7_lay 12 = .ok (.iadd, 1) := by decide +kernel
theorem dX7_lay_13 : decode cX7_lay 13 = .ok (.iload_n 3, 1) := by decide +kernel
theorem dX7_lay_14 : decode cX7_lay 14 = .ok (.iastore, 1) := by decide +kernel
theorem dX7_lay_15 : decode cX7_lay 15 = .ok (.return_, 1) := by decide +kernel
theorem dX7_ofLot_0 : decode cX7_ofLot 0 = .ok (.aload_n 0, 1) := by decide +kernel
theorem dX7_ofLot_1 : decode cX7_ofLot 1 = .ok (.getfield 7, 3) := by decide +kernel
theorem dX7_ofLot_4 : decode cX7_ofLot 4 = .ok (.bipush 58, 2) := by decide +kernel
theorem dX7_ofLot_6 : decode cX7_ofLot 6 = .ok (.iconst 5, 1) := by decide +kernel
theorem dX7_ofLot_7 : decode cX7_ofLot 7 = .ok (.iload_n 1, 1) := by decide +kernel
theorem dX7_ofLot_8 : decode cX7_ofLot 8 = .ok (.imul, 1) := by decide +kernel
theorem dX7_ofLot_9 : decode cX7_ofLot 9 = .ok (.iadd, 1) := by decide +kernel
theorem dX7_ofLot_10 : decode cX7_ofLot 10 = .ok (.iload_n 2, 1) := by decide +kernel
theorem dX7_ofLot_11 : decode cX7_ofLot 11 = .ok (.iadd, 1) := by decide +kernel
theorem dX7_ofLot_12 : decode cX7_ofLot 12 = .ok (.iaload, 1) := by decide +kernel
theorem dX7_ofLot_13 : decode cX7_ofLot 13 = .ok (.ireturn, 1) := by decide +kernel
theorem dX7_layLot_0 : decode cX7_layLot 0 = .ok (.aload_n 0, 1) := by decide +kernel
theorem dX7_layLot_1 : decode cX7_layLot 1 = .ok (.getfield 7, 3) := by decide +kernel
theorem dX7_layLot_4 : decode cX7_layLot 4 = .ok (.bipush 58, 2) := by decide +kernel
theorem dX7_layLot_6 : decode cX7_layLot 6 = .ok (.iconst 5, 1) := by decide +kernel
theorem dX7_layLot_7 : decode cX7_layLot 7 = .ok (.iload_n 1, 1) := by decide +kernel
theorem dX7_layLot_8 : decode cX7_layLot 8 = .ok (.imul, 1) := by decide +kernel
theorem dX7_layLot_9 : decode cX7_layLot 9 = .ok (.iadd, 1) := by decide +kernel
theorem dX7_layLot_10 : decode cX7_layLot 10 = .ok (.iload_n 2, 1) := by decide +kernel
theorem dX7_layLot_11 : decode cX7_layLot 11 = .ok (.iadd, 1) := by decide +kernel
theorem dX7_layLot_12 : decode cX7_layLot 12 = .ok (.iload_n 3, 1) := by decide +kernel
theorem dX7_layLot_13 : decode cX7_layLot 13 = .ok (.iastore, 1) := by decide +kernel
theorem dX7_layLot_14 : decode cX7_layLot 14 = .ok (.return_, 1) := by decide +kernel
theorem dX7_isPlayer_0 : decode cX7_isPlayer 0 = .ok (.iload_n 1, 1) := by decide +kernel
theorem dX7_isPlayer_1 : decode cX7_isPlayer 1 = .ok (.iconst 0, 1) := by decide +kernel
theorem dX7_isPlayer_2 : decode cX7_isPlayer 2 = .ok (.aload_n 0, 1) := by decide +kernel
theorem dX7_isPlayer_3 : decode cX7_isPlayer 3 = .ok (.getfield 7, 3) := by decide +kernel
theorem dX7_isPlayer_6 : decode cX7_isPlayer 6 = .ok (.iconst 0, 1) := by decide +kernel
theorem dX7_isPlayer_7 : decode cX7_isPlayer 7 = .ok (.iaload, 1) := by decide +kernel
theorem dX7_isPlayer_8 : decode cX7_isPlayer 8 = .ok (.iconst 1, 1) := by decide +kernel
theorem dX7_isPlayer_9 : decode cX7_isPlayer 9 = .ok (.isub, 1) := by decide +kernel
theorem dX7_isPlayer_10 : decode cX7_isPlayer 10 = .ok (.invokestatic 43, 3) := by decide +kernel
theorem dX7_isPlayer_13 : decode cX7_isPlayer 13 = .ok (.ireturn, 1) := by decide +kernel
theorem dX7_goes_0 : decode cX7_goes 0 = .ok (.aload_n 0, 1) := by decide +kernel
theorem dX7_goes_1 : decode cX7_goes 1 = .ok (.getfield 7, 3) := by decide +kernel
theorem dX7_goes_4 : decode cX7_goes 4 = .ok (.iconst 3, 1) := by decide +kernel
theorem dX7_goes_5 : decode cX7_goes 5 = .ok (.iaload, 1) := by decide +kernel
theorem dX7_goes_6 : decode cX7_goes 6 = .ok (.iconst 1, 1) := by decide +kernel
theorem dX7_goes_7 : decode cX7_goes 7 = .ok (.if_icmp .ne 7, 3) := by decide +kernel
theorem dX7_goes_10 : decode cX7_goes 10 = .ok (.iconst 1, 1) := by decide +kernel
theorem dX7_goes_11 : decode cX7_goes 11 = .ok (.goto 4, 3) := by decide +kernel
theorem dX7_goes_14 : decode cX7_goes 14 = .ok (.iconst 0, 1) := by decide +kernel
theorem dX7_goes_15 : decode cX7_goes 15 = .ok (.ireturn, 1) := by decide +kernel
theorem dX7_clearAuction_0 : decode cX7_clearAuction 0 = .ok (.aload_n 0, 1) := by decide +kernel
theorem dX7_clearAuction_1 : decode cX7_clearAuction 1 = .ok (.getfield 7, 3) := by decide +kernel
theorem dX7_clearAuction_4 : decode cX7_clearAuction 4 = .ok (.iconst 3, 1) := by decide +kernel
theorem dX7_clearAuction_5 : decode cX7_clearAuction 5 = .ok (.iconst 0, 1) := by decide +kernel
theorem dX7_clearAuction_6 : decode cX7_clearAuction 6 = .ok (.iastore, 1) := by decide +kernel
theorem dX7_clearAuction_7 : decode cX7_clearAuction 7 = .ok (.aload_n 0, 1) := by decide +kernel
theorem dX7_clearAuction_8 : decode cX7_clearAuction 8 = .ok (.getfield 7, 3) := by decide +kernel
theorem dX7_clearAuction_11 : decode cX7_clearAuction 11 = .ok (.iconst 4, 1) := by decide +kernel
theorem dX7_clearAuction_12 : decode cX7_clearAuction 12 = .ok (.bipush (-6), 2) := by decide +kernel
theorem dX7_clearAuction_14 : decode cX7_clearAuction 14 = .ok (.iastore, 1) := by decide +kernel
theorem dX7_clearAuction_15 : decode cX7_clearAuction 15 = .ok (.aload_n 0, 1) := by decide +kernel
theorem dX7_clearAuction_16 : decode cX7_clearAuction 16 = .ok (.getfield 7, 3) := by decide +kernel
theorem dX7_clearAuction_19 : decode cX7_clearAuction 19 = .ok (.iconst 5, 1) := by decide +kernel
theorem dX7_clearAuction_20 : decode cX7_clearAuction 20 = .ok (.bipush (-6), 2) := by decide +kernel
theorem dX7_clearAuction_22 : decode cX7_clearAuction 22 = .ok (.iastore, 1) := by decide +kernel
theorem dX7_clearAuction_23 : decode cX7_clearAuction 23 = .ok (.aload_n 0, 1) := by decide +kernel
theorem dX7_clearAuction_24 : decode cX7_clearAuction 24 = .ok (.getfield 7, 3) := by decide +kernel
theorem dX7_clearAuction_27 : decode cX7_clearAuction 27 = .ok (.bipush 6, 2) := by decide +kernel
theorem dX7_clearAuction_29 : decode cX7_clearAuction 29 = .ok (.bipush (-6), 2) := by decide +kernel
theorem dX7_clearAuction_31 : decode cX7_clearAuction 31 = .ok (.iastore, 1) := by decide +kernel
theorem dX7_clearAuction_32 : decode cX7_clearAuction 32 = .ok (.aload_n 0, 1) := by decide +kernel
theorem dX7_clearAuction_33 : decode cX7_clearAuction 33 = .ok (.getfield 7, 3) := by decide +kernel
theorem dX7_clearAuction_36 : decode cX7_clearAuction 36 = .ok (.bipush 7, 2) := by decide +kernel
theorem dX7_clearAuction_38 : decode cX7_clearAuction 38 = .ok (.bipush (-6), 2) := by decide +kernel
theorem dX7_clearAuction_40 : decode cX7_clearAuction 40 = .ok (.iastore, 1) := by decide +kernel
theorem dX7_clearAuction_41 : decode cX7_clearAuction 41 = .ok (.aload_n 0, 1) := by decide +kernel
theorem dX7_clearAuction_42 : decode cX7_clearAuction 42 = .ok (.getfield 7, 3) := by decide +kernel
theorem dX7_clearAuction_45 : decode cX7_clearAuction 45 = .ok (.bipush 8, 2) := by decide +kernel
theorem dX7_clearAuction_47 : decode cX7_clearAuction 47 = .ok (.bipush (-6), 2) := by decide +kernel
theorem dX7_clearAuction_49 : decode cX7_clearAuction 49 = .ok (.iastore, 1) := by decide +kernel
theorem dX7_clearAuction_50 : decode cX7_clearAuction 50 = .ok (.aload_n 0, 1) := by decide +kernel
theorem dX7_clearAuction_51 : decode cX7_clearAuction 51 = .ok (.getfield 7, 3) := by decide +kernel
theorem dX7_clearAuction_54 : decode cX7_clearAuction 54 = .ok (.bipush 9, 2) := by decide +kernel
theorem dX7_clearAuction_56 : decode cX7_clearAuction 56 = .ok (.iconst 0, 1) := by decide +kernel
theorem dX7_clearAuction_57 : decode cX7_clearAuction 57 = .ok (.iastore, 1) := by decide +kernel
theorem dX7_clearAuction_58 : decode cX7_clearAuction 58 = .ok (.iconst 0, 1) := by decide +kernel
theorem dX7_clearAuction_59 : decode cX7_clearAuction 59 = .ok (.istore_n 1, 1) := by decide +kernel
theorem dX7_clearAuction_60 : decode cX7_clearAuction 60 = .ok (.iload_n 1, 1) := by decide +kernel
theorem dX7_clearAuction_61 : decode cX7_clearAuction 61 = .ok (.bipush 6, 2) := by decide +kernel
theorem dX7_clearAuction_63 : decode cX7_clearAuction 63 = .ok (.if_icmp .ge 25, 3) := by decide +kernel
theorem dX7_clearAuction_66 : decode cX7_clearAuction 66 = .ok (.aload_n 0, 1) := by decide +kernel
theorem dX7_clearAuction_67 : decode cX7_clearAuction 67 = .ok (.iload_n 1, 1) := by decide +kernel
theorem dX7_clearAuction_68 : decode cX7_clearAuction 68 = .ok (.iconst 5, 1) := by decide +kernel
theorem dX7_clearAuction_69 : decode cX7_clearAuction 69 = .ok (.bipush (-6), 2) := by decide +kernel
theorem dX7_clearAuction_71 : decode cX7_clearAuction 71 = .ok (.invokevirtual 47, 3) := by decide +kernel
theorem dX7_clearAuction_74 : decode cX7_clearAuction 74 = .ok (.aload_n 0, 1) := by decide +kernel
theorem dX7_clearAuction_75 : decode cX7_clearAuction 75 = .ok (.iload_n 1, 1) := by decide +kernel
theorem dX7_clearAuction_76 : decode cX7_clearAuction 76 = .ok (.bipush 6, 2) := by decide +kernel
theorem dX7_clearAuction_78 : decode cX7_clearAuction 78 = .ok (.iconst 0, 1) := by decide +kernel
theorem dX7_clearAuction_79 : decode cX7_clearAuction 79 = .ok (.invokevirtual 47, 3) := by decide +kernel
theorem dX7_clearAuction_82 : decode cX7_clearAuction 82 = .ok (.iinc 1 1, 3) := by decide +kernel
theorem dX7_clearAuction_85 : decode cX7_clearAuction 85 = .ok (.goto (-25), 3) := by decide +kernel
theorem dX7_clearAuction_88 : decode cX7_clearAuction 88 = .ok (.return_, 1) := by decide +kernel
theorem dX7_beginGame_0 : decode cX7_beginGame 0 = .ok (.aload_n 0, 1) := by decide +kernel
theorem dX7_beginGame_1 : decode cX7_beginGame 1 = .ok (.getfield 7, 3) := by decide +kernel
theorem dX7_beginGame_4 : decode cX7_beginGame 4 = .ok (.iconst 0, 1) := by decide +kernel
theorem dX7_beginGame_5 : decode cX7_beginGame 5 = .ok (.iload_n 1, 1) := by decide +kernel
theorem dX7_beginGame_6 : decode cX7_beginGame 6 = .ok (.iastore, 1) := by decide +kernel
theorem dX7_beginGame_7 : decode cX7_beginGame 7 = .ok (.aload_n 0, 1) := by decide +kernel
theorem dX7_beginGame_8 : decode cX7_beginGame 8 = .ok (.getfield 7, 3) := by decide +kernel
theorem dX7_beginGame_11 : decode cX7_beginGame 11 = .ok (.iconst 1, 1) := by decide +kernel
theorem dX7_beginGame_12 : decode cX7_beginGame 12 = .ok (.iconst 0, 1) := by decide +kernel
theorem dX7_beginGame_13 : decode cX7_beginGame 13 = .ok (.iastore, 1) := by decide +kernel
theorem dX7_beginGame_14 : decode cX7_beginGame 14 = .ok (.aload_n 0, 1) := by decide +kernel
theorem dX7_beginGame_15 : decode cX7_beginGame 15 = .ok (.getfield 7, 3) := by decide +kernel
theorem dX7_beginGame_18 : decode cX7_beginGame 18 = .ok (.iconst 2, 1) := by decide +kernel
theorem dX7_beginGame_19 : decode cX7_beginGame 19 = .ok (.iconst 0, 1) := by decide +kernel
theorem dX7_beginGame_20 : decode cX7_beginGame 20 = .ok (.iastore, 1) := by decide +kernel
theorem dX7_beginGame_21 : decode cX7_beginGame 21 = .ok (.iconst 0, 1) := by decide +kernel
theorem dX7_beginGame_22 : decode cX7_beginGame 22 = .ok (.istore_n 2, 1) := by decide +kernel
theorem dX7_beginGame_23 : decode cX7_beginGame 23 = .ok (.iload_n 2, 1) := by decide +kernel
theorem dX7_beginGame_24 : decode cX7_beginGame 24 = .ok (.bipush 6, 2) := by decide +kernel
theorem dX7_beginGame_26 : decode cX7_beginGame 26 = .ok (.if_icmp .ge 51, 3) := by decide +kernel
theorem dX7_beginGame_29 : decode cX7_beginGame 29 = .ok (.aload_n 0, 1) := by decide +kernel
theorem dX7_beginGame_30 : decode cX7_beginGame 30 = .ok (.iload_n 2, 1) := by decide +kernel
theorem dX7_beginGame_31 : decode cX7_beginGame 31 = .ok (.iconst 0, 1) := by decide +kernel
theorem dX7_beginGame_32 : decode cX7_beginGame 32 = .ok (.aload_n 0, 1) := by decide +kernel
theorem dX7_beginGame_33 : decode cX7_beginGame 33 = .ok (.iconst 0, 1) := by decide +kernel
theorem dX7_beginGame_34 : decode cX7_beginGame 34 = .ok (.invokevirtual 51, 3) := by decide +kernel
theorem dX7_beginGame_37 : decode cX7_beginGame 37 = .ok (.invokevirtual 47, 3) := by decide +kernel
theorem dX7_beginGame_40 : decode cX7_beginGame 40 = .ok (.aload_n 0, 1) := by decide +kernel
theorem dX7_beginGame_41 : decode cX7_beginGame 41 = .ok (.iload_n 2, 1) := by decide +kernel
theorem dX7_beginGame_42 : decode cX7_beginGame 42 = .ok (.iconst 1, 1) := by decide +kernel
theorem dX7_beginGame_43 : decode cX7_beginGame 43 = .ok (.bipush 10, 2) := by decide +kernel
theorem dX7_beginGame_45 : decode cX7_beginGame 45 = .ok (.invokevirtual 47, 3) := by decide +kernel
theorem dX7_beginGame_48 : decode cX7_beginGame 48 = .ok (.aload_n 0, 1) := by decide +kernel
theorem dX7_beginGame_49 : decode cX7_beginGame 49 = .ok (.iload_n 2, 1) := by decide +kernel
theorem dX7_beginGame_50 : decode cX7_beginGame 50 = .ok (.iconst 2, 1) := by decide +kernel
theorem dX7_beginGame_51 : decode cX7_beginGame 51 = .ok (.iconst 0, 1) := by decide +kernel
theorem dX7_beginGame_52 : decode cX7_beginGame 52 = .ok (.invokevirtual 47, 3) := by decide +kernel
theorem dX7_beginGame_55 : decode cX7_beginGame 55 = .ok (.aload_n 0, 1) := by decide +kernel
theorem dX7_beginGame_56 : decode cX7_beginGame 56 = .ok (.iload_n 2, 1) := by decide +kernel
theorem dX7_beginGame_57 : decode cX7_beginGame 57 = .ok (.iconst 3, 1) := by decide +kernel
theorem dX7_beginGame_58 : decode cX7_beginGame 58 = .ok (.iconst 0, 1) := by decide +kernel
theorem dX7_beginGame_59 : decode cX7_beginGame 59 = .ok (.invokevirtual 47, 3) := by decide +kernel
theorem dX7_beginGame_62 : decode cX7_beginGame 62 = .ok (.aload_n 0, 1) := by decide +kernel
theorem dX7_beginGame_63 : decode cX7_beginGame 63 = .ok (.iload_n 2, 1) := by decide +kernel
theorem dX7_beginGame_64 : decode cX7_beginGame 64 = .ok (.iconst 4, 1) := by decide +kernel
theorem dX7_beginGame_65 : decode cX7_beginGame 65 = .ok (.sipush 300, 3) := by decide +kernel
theorem dX7_beginGame_68 : decode cX7_beginGame 68 = .ok (.invokevirtual 47, 3) := by decide +kernel
theorem dX7_beginGame_71 : decode cX7_beginGame 71 = .ok (.iinc 2 1, 3) := by decide +kernel
theorem dX7_beginGame_74 : decode cX7_beginGame 74 = .ok (.goto (-51), 3) := by decide +kernel
theorem dX7_beginGame_77 : decode cX7_beginGame 77 = .ok (.aload_n 0, 1) := by decide +kernel
theorem dX7_beginGame_78 : decode cX7_beginGame 78 = .ok (.invokevirtual 55, 3) := by decide +kernel
theorem dX7_beginGame_81 : decode cX7_beginGame 81 = .ok (.return_, 1) := by decide +kernel
theorem dX7_setUp_0 : decode cX7_setUp 0 = .ok (.iload_n 1, 1) := by decide +kernel
theorem dX7_setUp_1 : decode cX7_setUp 1 = .ok (.iconst 2, 1) := by decide +kernel
theorem dX7_setUp_2 : decode cX7_setUp 2 = .ok (.bipush 6, 2) := by decide +kernel
theorem dX7_setUp_4 : decode cX7_setUp 4 = .ok (.invokestatic 43, 3) := by decide +kernel
theorem dX7_setUp_7 : decode cX7_setUp 7 = .ok (.ifCond .ne 6, 3) := by decide +kernel
theorem dX7_setUp_10 : decode cX7_setUp 10 = .ok (.bipush (-2), 2) := by decide +kernel
theorem dX7_setUp_12 : decode cX7_setUp 12 = .ok (.ireturn, 1) := by decide +kernel
theorem dX7_setUp_13 : decode cX7_setUp 13 = .ok (.aload_n 0, 1) := by decide +kernel
theorem dX7_setUp_14 : decode cX7_setUp 14 = .ok (.getfield 7, 3) := by decide +kernel
theorem dX7_setUp_17 : decode cX7_setUp 17 = .ok (.iconst 0, 1) := by decide +kernel
theorem dX7_setUp_18 : decode cX7_setUp 18 = .ok (.iaload, 1) := by decide +kernel
theorem dX7_setUp_19 : decode cX7_setUp 19 = .ok (.istore_n 2, 1) := by decide +kernel
theorem dX7_setUp_20 : decode cX7_setUp 20 = .ok (.aload_n 0, 1) := by decide +kernel
theorem dX7_setUp_21 : decode cX7_setUp 21 = .ok (.iload_n 1, 1) := by decide +kernel
theorem dX7_setUp_22 : decode cX7_setUp 22 = .ok (.invokevirtual 39, 3) := by decide +kernel
theorem dX7_setUp_25 : decode cX7_setUp 25 = .ok (.iload_n 2, 1) := by decide +kernel
theorem dX7_setUp_26 : decode cX7_setUp 26 = .ok (.ireturn, 1) := by decide +kernel
theorem dX7_takes_0 : decode cX7_takes 0 = .ok (.iload_n 0, 1) := by decide +kernel
theorem dX7_takes_1 : decode cX7_takes 1 = .ok (.tableswitch 72 0 5 #[39, 48, 56, 64, 72, 48], 39) := by decide +kernel
theorem dX7_takes_40 : decode cX7_takes 40 = .ok (.iload_n 1, 1) := by decide +kernel
theorem dX7_takes_41 : decode cX7_takes 41 = .ok (.iconst 1, 1) := by decide +kernel
theorem dX7_takes_42 : decode cX7_takes 42 = .ok (.sipush 300, 3) := by decide +kernel
theorem dX7_takes_45 : decode cX7_takes 45 = .ok (.invokestatic 43, 3) := by decide +kernel
theorem dX7_takes_48 : decode cX7_takes 48 = .ok (.ireturn, 1) := by decide +kernel
theorem dX7_takes_49 : decode cX7_takes 49 = .ok (.iload_n 1, 1) := by decide +kernel
theorem dX7_takes_50 : decode cX7_takes 50 = .ok (.iconst 1, 1) := by decide +kernel
theorem dX7_takes_51 : decode cX7_takes 51 = .ok (.bipush 20, 2) := by decide +kernel
theorem dX7_takes_53 : decode cX7_takes 53 = .ok (.invokestatic 43, 3) := by decide +kernel
theorem dX7_takes_56 : decode cX7_takes 56 = .ok (.ireturn, 1) := by decide +kernel
theorem dX7_takes_57 : decode cX7_takes 57 = .ok (.iload_n 1, 1) := by decide +kernel
theorem dX7_takes_58 : decode cX7_takes 58 = .ok (.iconst 1, 1) := by decide +kernel
theorem dX7_takes_59 : decode cX7_takes 59 = .ok (.bipush 40, 2) := by decide +kernel
theorem dX7_takes_61 : decode cX7_takes 61 = .ok (.invokestatic 43, 3) := by decide +kernel
theorem dX7_takes_64 : decode cX7_takes 64 = .ok (.ireturn, 1) := by decide +kernel
theorem dX7_takes_65 : decode cX7_takes 65 = .ok (.iload_n 1, 1) := by decide +kernel
theorem dX7_takes_66 : decode cX7_takes 66 = .ok (.iconst 0, 1) := by decide +kernel
theorem dX7_takes_67 : decode cX7_takes 67 = .ok (.bipush 20, 2) := by decide +kernel
theorem dX7_takes_69 : decode cX7_takes 69 = .ok (.invokestatic 43, 3) := by decide +kernel
theorem dX7_takes_72 : decode cX7_takes 72 = .ok (.ireturn, 1) := by decide +kernel
theorem dX7_takes_73 : decode cX7_takes 73 = .ok (.iload_n 0, 1) := by decide +kernel
theorem dX7_takes_74 : decode cX7_takes 74 = .ok (.iconst 4, 1) := by decide +kernel
theorem dX7_takes_75 : decode cX7_takes 75 = .ok (.if_icmp .ne 17, 3) := by decide +kernel
theorem dX7_takes_78 : decode cX7_takes 78 = .ok (.iload_n 1, 1) := by decide +kernel
theorem dX7_takes_79 : decode cX7_takes 79 = .ok (.iconst 0, 1) := by decide +kernel
theorem dX7_takes_80 : decode cX7_takes 80 = .ok (.bipush 100, 2) := by decide +kernel
theorem dX7_takes_82 : decode cX7_takes 82 = .ok (.invokestatic 43, 3) := by decide +kernel
theorem dX7_takes_85 : decode cX7_takes 85 = .ok (.ifCond .eq 7, 3) := by decide +kernel
theorem dX7_takes_88 : decode cX7_takes 88 = .ok (.iconst 1, 1) := by decide +kernel
theorem dX7_takes_89 : decode cX7_takes 89 = .ok (.goto 4, 3) := by decide +kernel
theorem dX7_takes_92 : decode cX7_takes 92 = .ok (.iconst 0, 1) := by decide +kernel
theorem dX7_takes_93 : decode cX7_takes 93 = .ok (.ireturn, 1) := by decide +kernel
theorem dX7_set_0 : decode cX7_set 0 = .ok (.iload_n 1, 1) := by decide +kernel
theorem dX7_set_1 : decode cX7_set 1 = .ok (.iload_n 2, 1) := by decide +kernel
theorem dX7_set_2 : decode cX7_set 2 = .ok (.invokestatic 58, 3) := by decide +kernel
theorem dX7_set_5 : decode cX7_set 5 = .ok (.ifCond .ne 6, 3) := by decide +kernel
theorem dX7_set_8 : decode cX7_set 8 = .ok (.bipush (-2), 2) := by decide +kernel
theorem dX7_set_10 : decode cX7_set 10 = .ok (.ireturn, 1) := by decide +kernel
theorem dX7_set_11 : decode cX7_set 11 = .ok (.aload_n 0, 1) := by decide +kernel
theorem dX7_set_12 : decode cX7_set 12 = .ok (.invokevirtual 62, 3) := by decide +kernel
theorem dX7_set_15 : decode cX7_set 15 = .ok (.ifCond .eq 6, 3) := by decide +kernel
theorem dX7_set_18 : decode cX7_set 18 = .ok (.bipush (-5), 2) := by decide +kernel
theorem dX7_set_20 : decode cX7_set 20 = .ok (.ireturn, 1) := by decide +kernel
theorem dX7_set_21 : decode cX7_set 21 = .ok (.aload_n 0, 1) := by decide +kernel
theorem dX7_set_22 : decode cX7_set 22 = .ok (.iload_n 1, 1) := by decide +kernel
theorem dX7_set_23 : decode cX7_set 23 = .ok (.invokevirtual 51, 3) := by decide +kernel
theorem dX7_set_26 : decode cX7_set 26 = .ok (.istore_n 3, 1) := by decide +kernel
theorem dX7_set_27 : decode cX7_set 27 = .ok (.aload_n 0, 1) := by decide +kernel
theorem dX7_set_28 : decode cX7_set 28 = .ok (.getfield 7, 3) := by decide +kernel
theorem dX7_set_31 : decode cX7_set 31 = .ok (.bipush 10, 2) := by decide +kernel
theorem dX7_set_33 : decode cX7_set 33 = .ok (.iload_n 1, 1) := by decide +kernel
theorem dX7_set_34 : decode cX7_set 34 = .ok (.iadd, 1) := by decide +kernel
theorem dX7_set_35 : decode cX7_set 35 = .ok (.iload_n 2, 1) := by decide +kernel
theorem dX7_set_36 : decode cX7_set 36 = .ok (.iastore, 1) := by decide +kernel
theorem dX7_set_37 : decode cX7_set 37 = .ok (.iload_n 3, 1) := by decide +kernel
theorem dX7_set_38 : decode cX7_set 38 = .ok (.ireturn, 1) := by decide +kernel
theorem dX7_fill_0 : decode cX7_fill 0 = .ok (.aload_n 0, 1) := by decide +kernel
theorem dX7_fill_1 : decode cX7_fill 1 = .ok (.iload_n 1, 1) := by decide +kernel
theorem dX7_fill_2 : decode cX7_fill 2 = .ok (.invokevirtual 66, 3) := by decide +kernel
theorem dX7_fill_5 : decode cX7_fill 5 = .ok (.ifCond .ne 5, 3) := by decide +kernel
theorem dX7_fill_8 : decode cX7_fill 8 = .ok (.iconst (-1), 1) := by decide +kernel
theorem dX7_fill_9 : decode cX7_fill 9 = .ok (.ireturn, 1) := by decide +kernel
theorem dX7_fill_10 : decode cX7_fill 10 = .ok (.iload_n 2, 1) := by decide +kernel
theorem dX7_fill_11 : decode cX7_fill 11 = .ok (.iconst 0, 1) := by decide +kernel
theorem dX7_fill_12 : decode cX7_fill 12 = .ok (.sipush 300, 3) := by decide +kernel
theorem dX7_fill_15 : decode cX7_fill 15 = .ok (.invokestatic 43, 3) := by decide +kernel
theorem dX7_fill_18 : decode cX7_fill 18 = .ok (.ifCond .ne 6, 3) := by decide +kernel
theorem dX7_fill_21 : decode cX7_fill 21 = .ok (.bipush (-2), 2) := by decide +kernel
theorem dX7_fill_23 : decode cX7_fill 23 = .ok (.ireturn, 1) := by decide +kernel
theorem dX7_fill_24 : decode cX7_fill 24 = .ok (.aload_n 0, 1) := by decide +kernel
theorem dX7_fill_25 : decode cX7_fill 25 = .ok (.invokevirtual 62, 3) := by decide +kernel
theorem dX7_fill_28 : decode cX7_fill 28 = .ok (.ifCond .ne 12, 3) := by decide +kernel
theorem dX7_fill_31 : decode cX7_fill 31 = .ok (.aload_n 0, 1) := by decide +kernel
theorem dX7_fill_32 : decode cX7_fill 32 = .ok (.getfield 7, 3) := by decide +kernel
theorem dX7_fill_35 : decode cX7_fill 35 = .ok (.iconst 2, 1) := by decide +kernel
theorem dX7_fill_36 : decode cX7_fill 36 = .ok (.iaload, 1) := by decide +kernel
theorem dX7_fill_37 : decode cX7_fill 37 = .ok (.ifCond .le 6, 3) := by decide +kernel
theorem dX7_fill_40 : decode cX7_fill 40 = .ok (.bipush (-5), 2) := by decide +kernel
theorem dX7_fill_42 : decode cX7_fill 42 = .ok (.ireturn, 1) := by decide +kernel
theorem dX7_fill_43 : decode cX7_fill 43 = .ok (.aload_n 0, 1) := by decide +kernel
theorem dX7_fill_44 : decode cX7_fill 44 = .ok (.iload_n 1, 1) := by decide +kernel
theorem dX7_fill_45 : decode cX7_fill 45 = .ok (.iconst 0, 1) := by decide +kernel
theorem dX7_fill_46 : decode cX7_fill 46 = .ok (.invokevirtual 70, 3) := by decide +kernel
theorem dX7_fill_49 : decode cX7_fill 49 = .ok (.istore_n 3, 1) := by decide +kernel
theorem dX7_fill_50 : decode cX7_fill 50 = .ok (.aload_n 0, 1) := by decide +kernel
theorem dX7_fill_51 : decode cX7_fill 51 = .ok (.iload_n 1, 1) := by decide +kernel
theorem dX7_fill_52 : decode cX7_fill 52 = .ok (.iconst 0, 1) := by decide +kernel
theorem dX7_fill_53 : decode cX7_fill 53 = .ok (.iload_n 2, 1) := by decide +kernel
theorem dX7_fill_54 : decode cX7_fill 54 = .ok (.invokevirtual 47, 3) := by decide +kernel
theorem dX7_fill_57 : decode cX7_fill 57 = .ok (.aload_n 0, 1) := by decide +kernel
theorem dX7_fill_58 : decode cX7_fill 58 = .ok (.iload_n 1, 1) := by decide +kernel
theorem dX7_fill_59 : decode cX7_fill 59 = .ok (.iconst 3, 1) := by decide +kernel
theorem dX7_fill_60 : decode cX7_fill 60 = .ok (.iconst 0, 1) := by decide +kernel
theorem dX7_fill_61 : decode cX7_fill 61 = .ok (.invokevirtual 47, 3) := by decide +kernel
theorem dX7_fill_64 : decode cX7_fill 64 = .ok (.aload_n 0, 1) := by decide +kernel
theorem dX7_fill_65 : decode cX7_fill 65 = .ok (.iload_n 1, 1) := by decide +kernel
theorem dX7_fill_66 : decode cX7_fill 66 = .ok (.iconst 4, 1) := by decide +kernel
theorem dX7_fill_67 : decode cX7_fill 67 = .ok (.sipush 300, 3) := by decide +kernel
theorem dX7_fill_70 : decode cX7_fill 70 = .ok (.invokevirtual 47, 3) := by decide +kernel
theorem dX7_fill_73 : decode cX7_fill 73 = .ok (.iload_n 3, 1) := by decide +kernel
theorem dX7_fill_74 : decode cX7_fill 74 = .ok (.ireturn, 1) := by decide +kernel
theorem dX7_embolden_0 : decode cX7_embolden 0 = .ok (.aload_n 0, 1) := by decide +kernel
theorem dX7_embolden_1 : decode cX7_embolden 1 = .ok (.iload_n 1, 1) := by decide +kernel
theorem dX7_embolden_2 : decode cX7_embolden 2 = .ok (.invokevirtual 66, 3) := by decide +kernel
theorem dX7_embolden_5 : decode cX7_embolden 5 = .ok (.ifCond .ne 5, 3) := by decide +kernel
theorem dX7_embolden_8 : decode cX7_embolden 8 = .ok (.iconst (-1), 1) := by decide +kernel
theorem dX7_embolden_9 : decode cX7_embolden 9 = .ok (.ireturn, 1) := by decide +kernel
theorem dX7_embolden_10 : decode cX7_embolden 10 = .ok (.iload_n 2, 1) := by decide +kernel
theorem dX7_embolden_11 : decode cX7_embolden 11 = .ok (.iconst 0, 1) := by decide +kernel
theorem dX7_embolden_12 : decode cX7_embolden 12 = .ok (.bipush 30, 2) := by decide +kernel
theorem dX7_embolden_14 : decode cX7_embolden 14 = .ok (.invokestatic 43, 3) := by decide +kernel
theorem dX7_embolden_17 : decode cX7_embolden 17 = .ok (.ifCond .ne 6, 3) := by decide +kernel
theorem dX7_embolden_20 : decode cX7_embolden 20 = .ok (.bipush (-2), 2) := by decide +kernel
theorem dX7_embolden_22 : decode cX7_embolden 22 = .ok (.ireturn, 1) := by decide +kernel
theorem dX7_embolden_23 : decode cX7_embolden 23 = .ok (.aload_n 0, 1) := by decide +kernel
theorem dX7_embolden_24 : decode cX7_embolden 24 = .ok (.iload_n 1, 1) := by decide +kernel
theorem dX7_embolden_25 : decode cX7_embolden 25 = .ok (.iconst 1, 1) := by decide +kernel
theorem dX7_embolden_26 : decode cX7_embolden 26 = .ok (.invokevirtual 70, 3) := by decide +kernel
theorem dX7_embolden_29 : decode cX7_embolden 29 = .ok (.istore_n 3, 1) := by decide +kernel
theorem dX7_embolden_30 : decode cX7_embolden 30 = .ok (.aload_n 0, 1) := by decide +kernel
theorem dX7_embolden_31 : decode cX7_embolden 31 = .ok (.iload_n 1, 1) := by decide +kernel
theorem dX7_embolden_32 : decode cX7_embolden 32 = .ok (.iconst 1, 1) := by decide +kernel
theorem dX7_embolden_33 : decode cX7_embolden 33 = .ok (.iload_n 2, 1) := by decide +kernel
theorem dX7_embolden_34 : decode cX7_embolden 34 = .ok (.invokevirtual 47, 3) := by decide +kernel
theorem dX7_embolden_37 : decode cX7_embolden 37 = .ok (.iload_n 3, 1) := by decide +kernel
theorem dX7_embolden_38 : decode cX7_embolden 38 = .ok (.ireturn, 1) := by decide +kernel
theorem dX7_lot_0 : decode cX7_lot 0 = .ok (.iload_n 1, 1) := by decide +kernel
theorem dX7_lot_1 : decode cX7_lot 1 = .ok (.iconst 0, 1) := by decide +kernel
theorem dX7_lot_2 : decode cX7_lot 2 = .ok (.iconst 5, 1) := by decide +kernel
theorem dX7_lot_3 : decode cX7_lot 3 = .ok (.invokestatic 43, 3) := by decide +kernel
theorem dX7_lot_6 : decode cX7_lot 6 = .ok (.ifCond .eq 13, 3) := by decide +kernel
theorem dX7_lot_9 : decode cX7_lot 9 = .ok (.iload_n 2, 1) := by decide +kernel
theorem dX7_lot_10 : decode cX7_lot 10 = .ok (.iconst 1, 1) := by decide +kernel
theorem dX7_lot_11 : decode cX7_lot 11 = .ok (.bipush 50, 2) := by decide +kernel
theorem dX7_lot_13 : decode cX7_lot 13 = .ok (.invokestatic 43, 3) := by decide +kernel
theorem dX7_lot_16 : decode cX7_lot 16 = .ok (.ifCond .ne 6, 3) := by decide +kernel
theorem dX7_lot_19 : decode cX7_lot 19 = .ok (.bipush (-2), 2) := by decide +kernel
theorem dX7_lot_21 : decode cX7_lot 21 = .ok (.ireturn, 1) := by decide +kernel
theorem dX7_lot_22 : decode cX7_lot 22 = .ok (.aload_n 0, 1) := by decide +kernel
theorem dX7_lot_23 : decode cX7_lot 23 = .ok (.getfield 7, 3) := by decide +kernel
theorem dX7_lot_26 : decode cX7_lot 26 = .ok (.iconst 1, 1) := by decide +kernel
theorem dX7_lot_27 : decode cX7_lot 27 = .ok (.iaload, 1) := by decide +kernel
theorem dX7_lot_28 : decode cX7_lot 28 = .ok (.bipush 12, 2) := by decide +kernel
theorem dX7_lot_30 : decode cX7_lot 30 = .ok (.if_icmp .ne 6, 3) := by decide +kernel
theorem dX7_lot_33 : decode cX7_lot 33 = .ok (.bipush (-4), 2) := by decide +kernel
theorem dX7_lot_35 : decode cX7_lot 35 = .ok (.ireturn, 1) := by decide +kernel
theorem dX7_lot_36 : decode cX7_lot 36 = .ok (.aload_n 0, 1) := by decide +kernel
theorem dX7_lot_37 : decode cX7_lot 37 = .ok (.invokevirtual 62, 3) := by decide +kernel
theorem dX7_lot_40 : decode cX7_lot 40 = .ok (.ifCond .ne 12, 3) := by decide +kernel
theorem dX7_lot_43 : decode cX7_lot 43 = .ok (.aload_n 0, 1) := by decide +kernel
theorem dX7_lot_44 : decode cX7_lot 44 = .ok (.getfield 7, 3) := by decide +kernel
theorem dX7_lot_47 : decode cX7_lot 47 = .ok (.iconst 2, 1) := by decide +kernel
theorem dX7_lot_48 : decode cX7_lot 48 = .ok (.iaload, 1) := by decide +kernel
theorem dX7_lot_49 : decode cX7_lot 49 = .ok (.ifCond .le 6, 3) := by decide +kernel
theorem dX7_lot_52 : decode cX7_lot 52 = .ok (.bipush (-5), 2) := by decide +kernel
theorem dX7_lot_54 : decode cX7_lot 54 = .ok (.ireturn, 1) := by decide +kernel
theorem dX7_lot_55 : decode cX7_lot 55 = .ok (.aload_n 0, 1) := by decide +kernel
theorem dX7_lot_56 : decode cX7_lot 56 = .ok (.getfield 7, 3) := by decide +kernel
theorem dX7_lot_59 : decode cX7_lot 59 = .ok (.iconst 1, 1) := by decide +kernel
theorem dX7_lot_60 : decode cX7_lot 60 = .ok (.iaload, 1) := by decide +kernel
theorem dX7_lot_61 : decode cX7_lot 61 = .ok (.istore_n 3, 1) := by decide +kernel
theorem dX7_lot_62 : decode cX7_lot 62 = .ok (.aload_n 0, 1) := by decide +kernel
theorem dX7_lot_63 : decode cX7_lot 63 = .ok (.getfield 7, 3) := by decide +kernel
theorem dX7_lot_66 : decode cX7_lot 66 = .ok (.iconst 1, 1) := by decide +kernel
theorem dX7_lot_67 : decode cX7_lot 67 = .ok (.dup2, 1) := by decide +kernel
theorem dX7_lot_68 : decode cX7_lot 68 = .ok (.iaload, 1) := by decide +kernel
theorem dX7_lot_69 : decode cX7_lot 69 = .ok (.iconst 1, 1) := by decide +kernel
theorem dX7_lot_70 : decode cX7_lot 70 = .ok (.iadd, 1) := by decide +kernel
theorem dX7_lot_71 : decode cX7_lot 71 = .ok (.iastore, 1) := by decide +kernel
theorem dX7_lot_72 : decode cX7_lot 72 = .ok (.aload_n 0, 1) := by decide +kernel
theorem dX7_lot_73 : decode cX7_lot 73 = .ok (.iload_n 3, 1) := by decide +kernel
theorem dX7_lot_74 : decode cX7_lot 74 = .ok (.iconst 0, 1) := by decide +kernel
theorem dX7_lot_75 : decode cX7_lot 75 = .ok (.iload_n 1, 1) := by decide +kernel
theorem dX7_lot_76 : decode cX7_lot 76 = .ok (.invokevirtual 74, 3) := by decide +kernel
theorem dX7_lot_79 : decode cX7_lot 79 = .ok (.aload_n 0, 1) := by decide +kernel
theorem dX7_lot_80 : decode cX7_lot 80 = .ok (.iload_n 3, 1) := by decide +kernel
theorem dX7_lot_81 : decode cX7_lot 81 = .ok (.iconst 1, 1) := by decide +kernel
theorem dX7_lot_82 : decode cX7_lot 82 = .ok (.iload_n 2, 1) := by decide +kernel
theorem dX7_lot_83 : decode cX7_lot 83 = .ok (.invokevirtual 74, 3) := by decide +kernel
theorem dX7_lot_86 : decode cX7_lot 86 = .ok (.aload_n 0, 1) := by decide +kernel
theorem dX7_lot_87 : decode cX7_lot 87 = .ok (.iload_n 3, 1) := by decide +kernel
theorem dX7_lot_88 : decode cX7_lot 88 = .ok (.iconst 2, 1) := by decide +kernel
theorem dX7_lot_89 : decode cX7_lot 89 = .ok (.iconst 0, 1) := by decide +kernel
theorem dX7_lot_90 : decode cX7_lot 90 = .ok (.invokevirtual 74, 3) := by decide +kernel
theorem dX7_lot_93 : decode cX7_lot 93 = .ok (.aload_n 0, 1) := by decide +kernel
theorem dX7_lot_94 : decode cX7_lot 94 = .ok (.iload_n 3, 1) := by decide +kernel
theorem dX7_lot_95 : decode cX7_lot 95 = .ok (.iconst 3, 1) := by decide +kernel
theorem dX7_lot_96 : decode cX7_lot 96 = .ok (.bipush (-6), 2) := by decide +kernel
theorem dX7_lot_98 : decode cX7_lot 98 = .ok (.invokevirtual 74, 3) := by decide +kernel
theorem dX7_lot_101 : decode cX7_lot 101 = .ok (.aload_n 0, 1) := by decide +kernel
theorem dX7_lot_102 : decode cX7_lot 102 = .ok (.iload_n 3, 1) := by decide +kernel
theorem dX7_lot_103 : decode cX7_lot 103 = .ok (.iconst 4, 1) := by decide +kernel
theorem dX7_lot_104 : decode cX7_lot 104 = .ok (.iconst 0, 1) := by decide +kernel
theorem dX7_lot_105 : decode cX7_lot 105 = .ok (.invokevirtual 74, 3) := by decide +kernel
theorem dX7_lot_108 : decode cX7_lot 108 = .ok (.iload_n 3, 1) := by decide +kernel
theorem dX7_lot_109 : decode cX7_lot 109 = .ok (.ireturn, 1) := by decide +kernel
theorem dX7_sizeOf_0 : decode cX7_sizeOf 0 = .ok (.iconst 0, 1) := by decide +kernel
theorem dX7_sizeOf_1 : decode cX7_sizeOf 1 = .ok (.istore_n 1, 1) := by decide +kernel
theorem dX7_sizeOf_2 : decode cX7_sizeOf 2 = .ok (.iload_n 0, 1) := by decide +kernel
theorem dX7_sizeOf_3 : decode cX7_sizeOf 3 = .ok (.istore_n 2, 1) := by decide +kernel
theorem dX7_sizeOf_4 : decode cX7_sizeOf 4 = .ok (.iload_n 2, 1) := by decide +kernel
theorem dX7_sizeOf_5 : decode cX7_sizeOf 5 = .ok (.ifCond .le 16, 3) := by decide +kernel
theorem dX7_sizeOf_8 : decode cX7_sizeOf 8 = .ok (.iload_n 1, 1) := by decide +kernel
theorem dX7_sizeOf_9 : decode cX7_sizeOf 9 = .ok (.iload_n 2, 1) := by decide +kernel
theorem dX7_sizeOf_10 : decode cX7_sizeOf 10 = .ok (.iconst 1, 1) := by decide +kernel
theorem dX7_sizeOf_11 : decode cX7_sizeOf 11 = .ok (.iand, 1) := by decide +kernel
theorem dX7_sizeOf_12 : decode cX7_sizeOf 12 = .ok (.iadd, 1) := by decide +kernel
theorem dX7_sizeOf_13 : decode cX7_sizeOf 13 = .ok (.istore_n 1, 1) := by decide +kernel
theorem dX7_sizeOf_14 : decode cX7_sizeOf 14 = .ok (.iload_n 2, 1) := by decide +kernel
theorem dX7_sizeOf_15 : decode cX7_sizeOf 15 = .ok (.iconst 1, 1) := by decide +kernel
theorem dX7_sizeOf_16 : decode cX7_sizeOf 16 = .ok (.ishr, 1) := by decide +kernel
theorem dX7_sizeOf_17 : decode cX7_sizeOf 17 = .ok (.istore_n 2, 1) := by decide +kernel
theorem dX7_sizeOf_18 : decode cX7_sizeOf 18 = .ok (.goto (-14), 3) := by decide +kernel
theorem dX7_sizeOf_21 : decode cX7_sizeOf 21 = .ok (.iload_n 1, 1) := by decide +kernel
theorem dX7_sizeOf_22 : decode cX7_sizeOf 22 = .ok (.ireturn, 1) := by decide +kernel
theorem dX7_valueWith_0 : decode cX7_valueWith 0 = .ok (.iconst 0, 1) := by decide +kernel
theorem dX7_valueWith_1 : decode cX7_valueWith 1 = .ok (.istore_n 3, 1) := by decide +kernel
theorem dX7_valueWith_2 : decode cX7_valueWith 2 = .ok (.iconst 0, 1) := by decide +kernel
theorem dX7_valueWith_3 : decode cX7_valueWith 3 = .ok (.istore 4, 2) := by decide +kernel
theorem dX7_valueWith_5 : decode cX7_valueWith 5 = .ok (.iload 4, 2) := by decide +kernel
theorem dX7_valueWith_7 : decode cX7_valueWith 7 = .ok (.bipush 6, 2) := by decide +kernel
theorem dX7_valueWith_9 : decode cX7_valueWith 9 = .ok (.if_icmp .ge 17, 3) := by decide +kernel
theorem dX7_valueWith_12 : decode cX7_valueWith 12 = .ok (.aload_n 0, 1) := by decide +kernel
theorem dX7_valueWith_13 : decode cX7_valueWith 13 = .ok (.getfield 26, 3) := by decide +kernel
theorem dX7_valueWith_16 : decode cX7_valueWith 16 = .ok (.iload 4, 2) := by decide +kernel
theorem dX7_valueWith_18 : decode cX7_valueWith 18 = .ok (.iconst 0, 1) := by decide +kernel
theorem dX7_valueWith_19 : decode cX7_valueWith 19 = .ok (.iastore, 1) := by decide +kernel
theorem dX7_valueWith_20 : decode cX7_valueWith 20 = .ok (.iinc 4 1, 3) := by decide +kernel
theorem dX7_valueWith_23 : decode cX7_valueWith 23 = .ok (.goto (-18), 3) := by decide +kernel
theorem dX7_valueWith_26 : decode cX7_valueWith 26 = .ok (.iconst 0, 1) := by decide +kernel
theorem dX7_valueWith_27 : decode cX7_valueWith 27 = .ok (.istore 4, 2) := by decide +kernel
theorem dX7_valueWith_29 : decode cX7_valueWith 29 = .ok (.iload 4, 2) := by decide +kernel
theorem dX7_valueWith_31 : decode cX7_valueWith 31 = .ok (.aload_n 0, 1) := by decide +kernel
theorem dX7_valueWith_32 : decode cX7_valueWith 32 = .ok (.getfield 7, 3) := by decide +kernel
theorem dX7_valueWith_35 : decode cX7_valueWith 35 = .ok (.iconst 1, 1) := by decide +kernel
theorem dX7_valueWith_36 : decode cX7_valueWith 36 = .ok (.iaload, 1) := by decide +kernel
theorem dX7_valueWith_37 : decode cX7_valueWith 37 = .ok (.if_icmp .ge 89, 3) := by decide +kernel
theorem dX7_valueWith_40 : decode cX7_valueWith 40 = .ok (.aload_n 0, 1) := by decide +kernel
theorem dX7_valueWith_41 : decode cX7_valueWith 41 = .ok (.iload 4, 2) := by decide +kernel
theorem dX7_valueWith_43 : decode cX7_valueWith 43 = .ok (.iconst 2, 1) := by decide +kernel
theorem dX7_valueWith_44 : decode cX7_valueWith 44 = .ok (.invokevirtual 77, 3) := by decide +kernel
theorem dX7_valueWith_47 : decode cX7_valueWith 47 = .ok (.iload_n 1, 1) := by decide +kernel
theorem dX7_valueWith_48 : decode cX7_valueWith 48 = .ok (.ishr, 1) := by decide +kernel
theorem dX7_valueWith_49 : decode cX7_valueWith 49 = .ok (.iconst 1, 1) := by decide +kernel
theorem dX7_valueWith_50 : decode cX7_valueWith 50 = .ok (.iand, 1) := by decide +kernel
theorem dX7_valueWith_51 : decode cX7_valueWith 51 = .ok (.iconst 1, 1) := by decide +kernel
theorem dX7_valueWith_52 : decode cX7_valueWith 52 = .ok (.if_icmp .ne 7, 3) := by decide +kernel
theorem dX7_valueWith_55 : decode cX7_valueWith 55 = .ok (.iconst 1, 1) := by decide +kernel
theorem dX7_valueWith_56 : decode cX7_valueWith 56 = .ok (.goto 4, 3) := by decide +kernel
theorem dX7_valueWith_59 : decode cX7_valueWith 59 = .ok (.iconst 0, 1) := by decide +kernel
theorem dX7_valueWith_60 : decode cX7_valueWith 60 = .ok (.istore 5, 2) := by decide +kernel
theorem dX7_valueWith_62 : decode cX7_valueWith 62 = .ok (.iload 5, 2) := by decide +kernel
theorem dX7_valueWith_64 : decode cX7_valueWith 64 = .ok (.ifCond .ne 9, 3) := by decide +kernel
theorem dX7_valueWith_67 : decode cX7_valueWith 67 = .ok (.iload 4, 2) := by decide +kernel
theorem dX7_valueWith_69 : decode cX7_valueWith 69 = .ok (.iload_n 2, 1) := by decide +kernel
theorem dX7_valueWith_70 : decode cX7_valueWith 70 = .ok (.if_icmp .ne 50, 3) := by decide +kernel
theorem dX7_valueWith_73 : decode cX7_valueWith 73 = .ok (.iload_n 3, 1) := by decide +kernel
theorem dX7_valueWith_74 : decode cX7_valueWith 74 = .ok (.aload_n 0, 1) := by decide +kernel
theorem dX7_valueWith_75 : decode cX7_valueWith 75 = .ok (.iload 4, 2) := by decide +kernel
theorem dX7_valueWith_77 : decode cX7_valueWith 77 = .ok (.iconst 1, 1) := by decide +kernel
theorem dX7_valueWith_78 : decode cX7_valueWith 78 = .ok (.invokevirtual 77, 3) := by decide +kernel
theorem dX7_valueWith_81 : decode cX7_valueWith 81 = .ok (.iload 4, 2) := by decide +kernel
theorem dX7_valueWith_83 : decode cX7_valueWith 83 = .ok (.iload_n 2, 1) := by decide +kernel
theorem dX7_valueWith_84 : decode cX7_valueWith 84 = .ok (.if_icmp .ne 7, 3) := by decide +kernel
theorem dX7_valueWith_87 : decode cX7_valueWith 87 = .ok (.iconst 1, 1) := by decide +kernel
theorem dX7_valueWith_88 : decode cX7_valueWith 88 = .ok (.goto 13, 3) := by decide +kernel
theorem dX7_valueWith_91 : decode cX7_valueWith 91 = .ok (.aload_n 0, 1) := by decide +kernel
theorem dX7_valueWith_92 : decode cX7_valueWith 92 = .ok (.iload 4, 2) := by decide +kernel
theorem dX7_valueWith_94 : decode cX7_valueWith 94 = .ok (.iconst 2, 1) := by decide +kernel
theorem dX7_valueWith_95 : decode cX7_valueWith 95 = .ok (.invokevirtual 77, 3) := by decide +kernel
theorem dX7_valueWith_98 : decode cX7_valueWith 98 = .ok (.invokestatic 80, 3) := by decide +kernel
theorem dX7_valueWith_101 : decode cX7_valueWith 101 = .ok (.idiv, 1) := by decide +kernel
theorem dX7_valueWith_102 : decode cX7_valueWith 102 = .ok (.iadd, 1) := by decide +kernel
theorem dX7_valueWith_103 : decode cX7_valueWith 103 = .ok (.istore_n 3, 1) := by decide +kernel
theorem dX7_valueWith_104 : decode cX7_valueWith 104 = .ok (.aload_n 0, 1) := by decide +kernel
theorem dX7_valueWith_105 : decode cX7_valueWith 105 = .ok (.getfield 26, 3) := by decide +kernel
theorem dX7_valueWith_108 : decode cX7_valueWith 108 = .ok (.aload_n 0, 1) := by decide +kernel
theorem dX7_valueWith_109 : decode cX7_valueWith 109 = .ok (.iload 4, 2) := by decide +kernel
theorem dX7_valueWith_111 : decode cX7_valueWith 111 = .ok (.iconst 0, 1) := by decide +kernel
theorem dX7_valueWith_112 : decode cX7_valueWith 112 = .ok (.invokevirtual 77, 3) := by decide +kernel
theorem dX7_valueWith_115 : decode cX7_valueWith 115 = .ok (.dup2, 1) := by decide +kernel
theorem dX7_valueWith_116 : decode cX7_valueWith 116 = .ok (.iaload, 1) := by decide +kernel
theorem dX7_valueWith_117 : decode cX7_valueWith 117 = .ok (.iconst 1, 1) := by decide +kernel
theorem dX7_valueWith_118 : decode cX7_valueWith 118 = .ok (.iadd, 1) := by decide +kernel
theorem dX7_valueWith_119 : decode cX7_valueWith 119 = .ok (.iastore, 1) := by decide +kernel
theorem dX7_valueWith_120 : decode cX7_valueWith 120 = .ok (.iinc 4 1, 3) := by decide +kernel
theorem dX7_valueWith_123 : decode cX7_valueWith 123 = .ok (.goto (-94), 3) := by decide +kernel
theorem dX7_valueWith_126 : decode cX7_valueWith 126 = .ok (.iconst 0, 1) := by decide +kernel
theorem dX7_valueWith_127 : decode cX7_valueWith 127 = .ok (.istore 4, 2) := by decide +kernel
theorem dX7_valueWith_129 : decode cX7_valueWith 129 = .ok (.iconst 0, 1) := by decide +kernel
theorem dX7_valueWith_130 : decode cX7_valueWith 130 = .ok (.istore 5, 2) := by decide +kernel
theorem dX7_valueWith_132 : decode cX7_valueWith 132 = .ok (.iload 5, 2) := by decide +kernel
theorem dX7_valueWith_134 : decode cX7_valueWith 134 = .ok (.bipush 6, 2) := by decide +kernel
theorem dX7_valueWith_136 : decode cX7_valueWith 136 = .ok (.if_icmp .ge 57, 3) := by decide +kernel
theorem dX7_valueWith_139 : decode cX7_valueWith 139 = .ok (.iload_n 3, 1) := by decide +kernel
theorem dX7_valueWith_140 : decode cX7_valueWith 140 = .ok (.aload_n 0, 1) := by decide +kernel
theorem dX7_valueWith_141 : decode cX7_valueWith 141 = .ok (.iconst 3, 1) := by decide +kernel
theorem dX7_valueWith_142 : decode cX7_valueWith 142 = .ok (.invokevirtual 51, 3) := by decide +kernel
theorem dX7_valueWith_145 : decode cX7_valueWith 145 = .ok (.aload_n 0, 1) := by decide +kernel
theorem dX7_valueWith_146 : decode cX7_valueWith 146 = .ok (.getfield 26, 3) := by decide +kernel
theorem dX7_valueWith_149 : decode cX7_valueWith 149 = .ok (.iload 5, 2) := by decide +kernel
theorem dX7_valueWith_151 : decode cX7_valueWith 151 = .ok (.iaload, 1) := by decide +kernel
theorem dX7_valueWith_152 : decode cX7_valueWith 152 = .ok (.imul, 1) := by decide +kernel
theorem dX7_valueWith_153 : decode cX7_valueWith 153 = .ok (.aload_n 0, 1) := by decide +kernel
theorem dX7_valueWith_154 : decode cX7_valueWith 154 = .ok (.getfield 26, 3) := by decide +kernel
theorem dX7_valueWith_157 : decode cX7_valueWith 157 = .ok (.iload 5, 2) := by decide +kernel
theorem dX7_valueWith_159 : decode cX7_valueWith 159 = .ok (.iaload, 1) := by decide +kernel
theorem dX7_valueWith_160 : decode cX7_valueWith 160 = .ok (.iconst 1, 1) := by decide +kernel
theorem dX7_valueWith_161 : decode cX7_valueWith 161 = .ok (.isub, 1) := by decide +kernel
theorem dX7_valueWith_162 : decode cX7_valueWith 162 = .ok (.imul, 1) := by decide +kernel
theorem dX7_valueWith_163 : decode cX7_valueWith 163 = .ok (.iconst 2, 1) := by decide +kernel
theorem dX7_valueWith_164 : decode cX7_valueWith 164 = .ok (.idiv, 1) := by decide +kernel
theorem dX7_valueWith_165 : decode cX7_valueWith 165 = .ok (.iadd, 1) := by decide +kernel
theorem dX7_valueWith_166 : decode cX7_valueWith 166 = .ok (.istore_n 3, 1) := by decide +kernel
theorem dX7_valueWith_167 : decode cX7_valueWith 167 = .ok (.iload 4, 2) := by decide +kernel
theorem dX7_valueWith_169 : decode cX7_valueWith 169 = .ok (.aload_n 0, 1) := by decide +kernel
theorem dX7_valueWith_170 : decode cX7_valueWith 170 = .ok (.getfield 26, 3) := by decide +kernel
theorem dX7_valueWith_173 : decode cX7_valueWith 173 = .ok (.iload 5, 2) := by decide +kernel
theorem dX7_valueWith_175 : decode cX7_valueWith 175 = .ok (.iaload, 1) := by decide +kernel
theorem dX7_valueWith_176 : decode cX7_valueWith 176 = .ok (.ifCond .le 7, 3) := by decide +kernel
theorem dX7_valueWith_179 : decode cX7_valueWith 179 = .ok (.iconst 1, 1) := by decide +kernel
theorem dX7_valueWith_180 : decode cX7_valueWith 180 = .ok (.goto 4, 3) := by decide +kernel
theorem dX7_valueWith_183 : decode cX7_valueWith 183 = .ok (.iconst 0, 1) := by decide +kernel
theorem dX7_valueWith_184 : decode cX7_valueWith 184 = .ok (.iadd, 1) := by decide +kernel
theorem dX7_valueWith_185 : decode cX7_valueWith 185 = .ok (.istore 4, 2) := by decide +kernel
theorem dX7_valueWith_187 : decode cX7_valueWith 187 = .ok (.iinc 5 1, 3) := by decide +kernel
theorem dX7_valueWith_190 : decode cX7_valueWith 190 = .ok (.goto (-58), 3) := by decide +kernel
theorem dX7_valueWith_193 : decode cX7_valueWith 193 = .ok (.iload 4, 2) := by decide +kernel
theorem dX7_valueWith_195 : decode cX7_valueWith 195 = .ok (.iconst 4, 1) := by decide +kernel
theorem dX7_valueWith_196 : decode cX7_valueWith 196 = .ok (.if_icmp .lt 13, 3) := by decide +kernel
theorem dX7_valueWith_199 : decode cX7_valueWith 199 = .ok (.iload_n 3, 1) := by decide +kernel
theorem dX7_valueWith_200 : decode cX7_valueWith 200 = .ok (.aload_n 0, 1) := by decide +kernel
theorem dX7_valueWith_201 : decode cX7_valueWith 201 = .ok (.iconst 4, 1) := by decide +kernel
theorem dX7_valueWith_202 : decode cX7_valueWith 202 = .ok (.invokevirtual 51, 3) := by decide +kernel
theorem dX7_valueWith_205 : decode cX7_valueWith 205 = .ok (.iadd, 1) := by decide +kernel
theorem dX7_valueWith_206 : decode cX7_valueWith 206 = .ok (.goto 4, 3) := by decide +kernel
theorem dX7_valueWith_209 : decode cX7_valueWith 209 = .ok (.iload_n 3, 1) := by decide +kernel
theorem dX7_valueWith_210 : decode cX7_valueWith 210 = .ok (.ireturn, 1) := by decide +kernel
theorem dX7_scoreOf_0 : decode cX7_scoreOf 0 = .ok (.aload_n 0, 1) := by decide +kernel
theorem dX7_scoreOf_1 : decode cX7_scoreOf 1 = .ok (.iload_n 1, 1) := by decide +kernel
theorem dX7_scoreOf_2 : decode cX7_scoreOf 2 = .ok (.bipush (-6), 2) := by decide +kernel
theorem dX7_scoreOf_4 : decode cX7_scoreOf 4 = .ok (.invokevirtual 83, 3) := by decide +kernel
theorem dX7_scoreOf_7 : decode cX7_scoreOf 7 = .ok (.aload_n 0, 1) := by decide +kernel
theorem dX7_scoreOf_8 : decode cX7_scoreOf 8 = .ok (.iload_n 1, 1) := by decide +kernel
theorem dX7_scoreOf_9 : decode cX7_scoreOf 9 = .ok (.iconst 0, 1) := by decide +kernel
theorem dX7_scoreOf_10 : decode cX7_scoreOf 10 = .ok (.invokevirtual 70, 3) := by decide +kernel
theorem dX7_scoreOf_13 : decode cX7_scoreOf 13 = .ok (.aload_n 0, 1) := by decide +kernel
theorem dX7_scoreOf_14 : decode cX7_scoreOf 14 = .ok (.iconst 5, 1) := by decide +kernel
theorem dX7_scoreOf_15 : decode cX7_scoreOf 15 = .ok (.invokevirtual 51, 3) := by decide +kernel
theorem dX7_scoreOf_18 : decode cX7_scoreOf 18 = .ok (.idiv, 1) := by decide +kernel
theorem dX7_scoreOf_19 : decode cX7_scoreOf 19 = .ok (.iadd, 1) := by decide +kernel
theorem dX7_scoreOf_20 : decode cX7_scoreOf 20 = .ok (.ireturn, 1) := by decide +kernel
theorem dX7_placeOf_0 : decode cX7_placeOf 0 = .ok (.iconst 1, 1) := by decide +kernel
theorem dX7_placeOf_1 : decode cX7_placeOf 1 = .ok (.istore_n 2, 1) := by decide +kernel
theorem dX7_placeOf_2 : decode cX7_placeOf 2 = .ok (.aload_n 0, 1) := by decide +kernel
theorem dX7_placeOf_3 : decode cX7_placeOf 3 = .ok (.iload_n 1, 1) := by decide +kernel
theorem dX7_placeOf_4 : decode cX7_placeOf 4 = .ok (.invokevirtual 86, 3) := by decide +kernel
theorem dX7_placeOf_7 : decode cX7_placeOf 7 = .ok (.istore_n 3, 1) := by decide +kernel
theorem dX7_placeOf_8 : decode cX7_placeOf 8 = .ok (.iconst 0, 1) := by decide +kernel
theorem dX7_placeOf_9 : decode cX7_placeOf 9 = .ok (.istore 4, 2) := by decide +kernel
theorem dX7_placeOf_11 : decode cX7_placeOf 11 = .ok (.iload 4, 2) := by decide +kernel
theorem dX7_placeOf_13 : decode cX7_placeOf 13 = .ok (.aload_n 0, 1) := by decide +kernel
theorem dX7_placeOf_14 : decode cX7_placeOf 14 = .ok (.getfield 7, 3) := by decide +kernel
theorem dX7_placeOf_17 : decode cX7_placeOf 17 = .ok (.iconst 0, 1) := by decide +kernel
theorem dX7_placeOf_18 : decode cX7_placeOf 18 = .ok (.iaload, 1) := by decide +kernel
theorem dX7_placeOf_19 : decode cX7_placeOf 19 = .ok (.if_icmp .ge 43, 3) := by decide +kernel
theorem dX7_placeOf_22 : decode cX7_placeOf 22 = .ok (.aload_n 0, 1) := by decide +kernel
theorem dX7_placeOf_23 : decode cX7_placeOf 23 = .ok (.iload 4, 2) := by decide +kernel
theorem dX7_placeOf_25 : decode cX7_placeOf 25 = .ok (.invokevirtual 86, 3) := by decide +kernel
theorem dX7_placeOf_28 : decode cX7_placeOf 28 = .ok (.istore 5, 2) := by decide +kernel
theorem dX7_placeOf_30 : decode cX7_placeOf 30 = .ok (.iload_n 2, 1) := by decide +kernel
theorem dX7_placeOf_31 : decode cX7_placeOf 31 = .ok (.iload 5, 2) := by decide +kernel
theorem dX7_placeOf_33 : decode cX7_placeOf 33 = .ok (.iload_n 3, 1) := by decide +kernel
theorem dX7_placeOf_34 : decode cX7_placeOf 34 = .ok (.if_icmp .gt 15, 3) := by decide +kernel
theorem dX7_placeOf_37 : decode cX7_placeOf 37 = .ok (.iload 5, 2) := by decide +kernel
theorem dX7_placeOf_39 : decode cX7_placeOf 39 = .ok (.iload_n 3, 1) := by decide +kernel
theorem dX7_placeOf_40 : decode cX7_placeOf 40 = .ok (.if_icmp .ne 13, 3) := by decide +kernel
theorem dX7_placeOf_43 : decode cX7_placeOf 43 = .ok (.iload 4, 2) := by decide +kernel
theorem dX7_placeOf_45 : decode cX7_placeOf 45 = .ok (.iload_n 1, 1) := by decide +kernel
theorem dX7_placeOf_46 : decode cX7_placeOf 46 = .ok (.if_icmp .ge 7, 3) := by decide +kernel
theorem dX7_placeOf_49 : decode cX7_placeOf 49 = .ok (.iconst 1, 1) := by decide +kernel
theorem dX7_placeOf_50 : decode cX7_placeOf 50 = .ok (.goto 4, 3) := by decide +kernel
theorem dX7_placeOf_53 : decode cX7_placeOf 53 = .ok (.iconst 0, 1) := by decide +kernel
theorem dX7_placeOf_54 : decode cX7_placeOf 54 = .ok (.iadd, 1) := by decide +kernel
theorem dX7_placeOf_55 : decode cX7_placeOf 55 = .ok (.istore_n 2, 1) := by decide +kernel
theorem dX7_placeOf_56 : decode cX7_placeOf 56 = .ok (.iinc 4 1, 3) := by decide +kernel
theorem dX7_placeOf_59 : decode cX7_placeOf 59 = .ok (.goto (-48), 3) := by decide +kernel
theorem dX7_placeOf_62 : decode cX7_placeOf 62 = .ok (.iload_n 2, 1) := by decide +kernel
theorem dX7_placeOf_63 : decode cX7_placeOf 63 = .ok (.ireturn, 1) := by decide +kernel
theorem dX7_lotsOf_0 : decode cX7_lotsOf 0 = .ok (.iconst 0, 1) := by decide +kernel
theorem dX7_lotsOf_1 : decode cX7_lotsOf 1 = .ok (.istore_n 2, 1) := by decide +kernel
theorem dX7_lotsOf_2 : decode cX7_lotsOf 2 = .ok (.iconst 0, 1) := by decide +kernel
theorem dX7_lotsOf_3 : decode cX7_lotsOf 3 = .ok (.istore_n 3, 1) := by decide +kernel
theorem dX7_lotsOf_4 : decode cX7_lotsOf 4 = .ok (.iload_n 3, 1) := by decide +kernel
theorem dX7_lotsOf_5 : decode cX7_lotsOf 5 = .ok (.aload_n 0, 1) := by decide +kernel
theorem dX7_lotsOf_6 : decode cX7_lotsOf 6 = .ok (.getfield 7, 3) := by decide +kernel
theorem dX7_lotsOf_9 : decode cX7_lotsOf 9 = .ok (.iconst 1, 1) := by decide +kernel
theorem dX7_lotsOf_10 : decode cX7_lotsOf 10 = .ok (.iaload, 1) := by decide +kernel
theorem dX7_lotsOf_11 : decode cX7_lotsOf 11 = .ok (.if_icmp .ge 33, 3) := by decide +kernel
theorem dX7_lotsOf_14 : decode cX7_lotsOf 14 = .ok (.iload_n 2, 1) := by decide +kernel
theorem dX7_lotsOf_15 : decode cX7_lotsOf 15 = .ok (.aload_n 0, 1) := by decide +kernel
theorem dX7_lotsOf_16 : decode cX7_lotsOf 16 = .ok (.iload_n 3, 1) := by decide +kernel
theorem dX7_lotsOf_17 : decode cX7_lotsOf 17 = .ok (.iconst 2, 1) := by decide +kernel
theorem dX7_lotsOf_18 : decode cX7_lotsOf 18 = .ok (.invokevirtual 77, 3) := by decide +kernel
theorem dX7_lotsOf_21 : decode cX7_lotsOf 21 = .ok (.iload_n 1, 1) := by decide +kernel
theorem dX7_lotsOf_22 : decode cX7_lotsOf 22 = .ok (.ishr, 1) := by decide +kernel
theorem dX7_lotsOf_23 : decode cX7_lotsOf 23 = .ok (.iconst 1, 1) := by decide +kernel
theorem dX7_lotsOf_24 : decode cX7_lotsOf 24 = .ok (.iand, 1) := by decide +kernel
theorem dX7_lotsOf_25 : decode cX7_lotsOf 25 = .ok (.iconst 1, 1) := by decide +kernel
theorem dX7_lotsOf_26 : decode cX7_lotsOf 26 = .ok (.if_icmp .ne 9, 3) := by decide +kernel
theorem dX7_lotsOf_29 : decode cX7_lotsOf 29 = .ok (.iconst 1, 1) := by decide +kernel
theorem dX7_lotsOf_30 : decode cX7_lotsOf 30 = .ok (.iload_n 3, 1) := by decide +kernel
theorem dX7_lotsOf_31 : decode cX7_lotsOf 31 = .ok (.ishl, 1) := by decide +kernel
theorem dX7_lotsOf_32 : decode cX7_lotsOf 32 = .ok (.goto 4, 3) := by decide +kernel
theorem dX7_lotsOf_35 : decode cX7_lotsOf 35 = .ok (.iconst 0, 1) := by decide +kernel
theorem dX7_lotsOf_36 : decode cX7_lotsOf 36 = .ok (.ior, 1) := by decide +kernel
theorem dX7_lotsOf_37 : decode cX7_lotsOf 37 = .ok (.istore_n 2, 1) := by decide +kernel
theorem dX7_lotsOf_38 : decode cX7_lotsOf 38 = .ok (.iinc 3 1, 3) := by decide +kernel
theorem dX7_lotsOf_41 : decode cX7_lotsOf 41 = .ok (.goto (-37), 3) := by decide +kernel
theorem dX7_lotsOf_44 : decode cX7_lotsOf 44 = .ok (.iload_n 2, 1) := by decide +kernel
theorem dX7_lotsOf_45 : decode cX7_lotsOf 45 = .ok (.ireturn, 1) := by decide +kernel
theorem dX7_nextLot_0 : decode cX7_nextLot 0 = .ok (.aload_n 0, 1) := by decide +kernel
theorem dX7_nextLot_1 : decode cX7_nextLot 1 = .ok (.getfield 7, 3) := by decide +kernel
theorem dX7_nextLot_4 : decode cX7_nextLot 4 = .ok (.iconst 2, 1) := by decide +kernel
theorem dX7_nextLot_5 : decode cX7_nextLot 5 = .ok (.iaload, 1) := by decide +kernel
theorem dX7_nextLot_6 : decode cX7_nextLot 6 = .ok (.aload_n 0, 1) := by decide +kernel
theorem dX7_nextLot_7 : decode cX7_nextLot 7 = .ok (.getfield 7, 3) := by decide +kernel
theorem dX7_nextLot_10 : decode cX7_nextLot 10 = .ok (.iconst 1, 1) := by decide +kernel
theorem dX7_nextLot_11 : decode cX7_nextLot 11 = .ok (.iaload, 1) := by decide +kernel
theorem dX7_nextLot_12 : decode cX7_nextLot 12 = .ok (.if_icmp .ge 12, 3) := by decide +kernel
theorem dX7_nextLot_15 : decode cX7_nextLot 15 = .ok (.aload_n 0, 1) := by decide +kernel
theorem dX7_nextLot_16 : decode cX7_nextLot 16 = .ok (.getfield 7, 3) := by decide +kernel
theorem dX7_nextLot_19 : decode cX7_nextLot 19 = .ok (.iconst 2, 1) := by decide +kernel
theorem dX7_nextLot_20 : decode cX7_nextLot 20 = .ok (.iaload, 1) := by decide +kernel
theorem dX7_nextLot_21 : decode cX7_nextLot 21 = .ok (.goto 5, 3) := by decide +kernel
theorem dX7_nextLot_24 : decode cX7_nextLot 24 = .ok (.bipush (-6), 2) := by decide +kernel
theorem dX7_nextLot_26 : decode cX7_nextLot 26 = .ok (.ireturn, 1) := by decide +kernel
theorem dX7_limitOf_0 : decode cX7_limitOf 0 = .ok (.aload_n 0, 1) := by decide +kernel
theorem dX7_limitOf_1 : decode cX7_limitOf 1 = .ok (.invokevirtual 89, 3) := by decide +kernel
theorem dX7_limitOf_4 : decode cX7_limitOf 4 = .ok (.istore_n 2, 1) := by decide +kernel
theorem dX7_limitOf_5 : decode cX7_limitOf 5 = .ok (.iload_n 2, 1) := by decide +kernel
theorem dX7_limitOf_6 : decode cX7_limitOf 6 = .ok (.ifCond .ge 6, 3) := by decide +kernel
theorem dX7_limitOf_9 : decode cX7_limitOf 9 = .ok (.bipush (-6), 2) := by decide +kernel
theorem dX7_limitOf_11 : decode cX7_limitOf 11 = .ok (.ireturn, 1) := by decide +kernel
theorem dX7_limitOf_12 : decode cX7_limitOf 12 = .ok (.aload_n 0, 1) := by decide +kernel
theorem dX7_limitOf_13 : decode cX7_limitOf 13 = .ok (.iload_n 1, 1) := by decide +kernel
theorem dX7_limitOf_14 : decode cX7_limitOf 14 = .ok (.iload_n 2, 1) := by decide +kernel
theorem dX7_limitOf_15 : decode cX7_limitOf 15 = .ok (.invokevirtual 83, 3) := by decide +kernel
theorem dX7_limitOf_18 : decode cX7_limitOf 18 = .ok (.aload_n 0, 1) := by decide +kernel
theorem dX7_limitOf_19 : decode cX7_limitOf 19 = .ok (.iload_n 1, 1) := by decide +kernel
theorem dX7_limitOf_20 : decode cX7_limitOf 20 = .ok (.bipush (-6), 2) := by decide +kernel
theorem dX7_limitOf_22 : decode cX7_limitOf 22 = .ok (.invokevirtual 83, 3) := by decide +kernel
theorem dX7_limitOf_25 : decode cX7_limitOf 25 = .ok (.isub, 1) := by decide +kernel
theorem dX7_limitOf_26 : decode cX7_limitOf 26 = .ok (.aload_n 0, 1) := by decide +kernel
theorem dX7_limitOf_27 : decode cX7_limitOf 27 = .ok (.iload_n 1, 1) := by decide +kernel
theorem dX7_limitOf_28 : decode cX7_limitOf 28 = .ok (.iconst 1, 1) := by decide +kernel
theorem dX7_limitOf_29 : decode cX7_limitOf 29 = .ok (.invokevirtual 70, 3) := by decide +kernel
theorem dX7_limitOf_32 : decode cX7_limitOf 32 = .ok (.imul, 1) := by decide +kernel
theorem dX7_limitOf_33 : decode cX7_limitOf 33 = .ok (.bipush 10, 2) := by decide +kernel
theorem dX7_limitOf_35 : decode cX7_limitOf 35 = .ok (.idiv, 1) := by decide +kernel
theorem dX7_limitOf_36 : decode cX7_limitOf 36 = .ok (.istore_n 3, 1) := by decide +kernel
theorem dX7_limitOf_37 : decode cX7_limitOf 37 = .ok (.iload_n 3, 1) := by decide +kernel
theorem dX7_limitOf_38 : decode cX7_limitOf 38 = .ok (.aload_n 0, 1) := by decide +kernel
theorem dX7_limitOf_39 : decode cX7_limitOf 39 = .ok (.iload_n 1, 1) := by decide +kernel
theorem dX7_limitOf_40 : decode cX7_limitOf 40 = .ok (.iconst 0, 1) := by decide +kernel
theorem dX7_limitOf_41 : decode cX7_limitOf 41 = .ok (.invokevirtual 70, 3) := by decide +kernel
theorem dX7_limitOf_44 : decode cX7_limitOf 44 = .ok (.if_icmp .ge 7, 3) := by decide +kernel
theorem dX7_limitOf_47 : decode cX7_limitOf 47 = .ok (.iload_n 3, 1) := by decide +kernel
theorem dX7_limitOf_48 : decode cX7_limitOf 48 = .ok (.goto 9, 3) := by decide +kernel
theorem dX7_limitOf_51 : decode cX7_limitOf 51 = .ok (.aload_n 0, 1) := by decide +kernel
theorem dX7_limitOf_52 : decode cX7_limitOf 52 = .ok (.iload_n 1, 1) := by decide +kernel
theorem dX7_limitOf_53 : decode cX7_limitOf 53 = .ok (.iconst 0, 1) := by decide +kernel
theorem dX7_limitOf_54 : decode cX7_limitOf 54 = .ok (.invokevirtual 70, 3) := by decide +kernel
theorem dX7_limitOf_57 : decode cX7_limitOf 57 = .ok (.ireturn, 1) := by decide +kernel
theorem dX7_starter_0 : decode cX7_starter 0 = .ok (.aload_n 0, 1) := by decide +kernel
theorem dX7_starter_1 : decode cX7_starter 1 = .ok (.getfield 7, 3) := by decide +kernel
theorem dX7_starter_4 : decode cX7_starter 4 = .ok (.iconst 2, 1) := by decide +kernel
theorem dX7_starter_5 : decode cX7_starter 5 = .ok (.iaload, 1) := by decide +kernel
theorem dX7_starter_6 : decode cX7_starter 6 = .ok (.aload_n 0, 1) := by decide +kernel
theorem dX7_starter_7 : decode cX7_starter 7 = .ok (.getfield 7, 3) := by decide +kernel
theorem dX7_starter_10 : decode cX7_starter 10 = .ok (.iconst 0, 1) := by decide +kernel
theorem dX7_starter_11 : decode cX7_starter 11 = .ok (.iaload, 1) := by decide +kernel
theorem dX7_starter_12 : decode cX7_starter 12 = .ok (.irem, 1) := by decide +kernel
theorem dX7_starter_13 : decode cX7_starter 13 = .ok (.ireturn, 1) := by decide +kernel
theorem dX7_seat_0 : decode cX7_seat 0 = .ok (.aload_n 0, 1) := by decide +kernel
theorem dX7_seat_1 : decode cX7_seat 1 = .ok (.invokevirtual 93, 3) := by decide +kernel
theorem dX7_seat_4 : decode cX7_seat 4 = .ok (.iload_n 1, 1) := by decide +kernel
theorem dX7_seat_5 : decode cX7_seat 5 = .ok (.iadd, 1) := by decide +kernel
theorem dX7_seat_6 : decode cX7_seat 6 = .ok (.aload_n 0, 1) := by decide +kernel
theorem dX7_seat_7 : decode cX7_seat 7 = .ok (.getfield 7, 3) := by decide +kernel
theorem dX7_seat_10 : decode cX7_seat 10 = .ok (.iconst 0, 1) := by decide +kernel
theorem dX7_seat_11 : decode cX7_seat 11 = .ok (.iaload, 1) := by decide +kernel
theorem dX7_seat_12 : decode cX7_seat 12 = .ok (.irem, 1) := by decide +kernel
theorem dX7_seat_13 : decode cX7_seat 13 = .ok (.ireturn, 1) := by decide +kernel
theorem dX7_isLastNext_0 : decode cX7_isLastNext 0 = .ok (.aload_n 0, 1) := by decide +kernel
theorem dX7_isLastNext_1 : decode cX7_isLastNext 1 = .ok (.getfield 7, 3) := by decide +kernel
theorem dX7_isLastNext_4 : decode cX7_isLastNext 4 = .ok (.iconst 1, 1) := by decide +kernel
theorem dX7_isLastNext_5 : decode cX7_isLastNext 5 = .ok (.iaload, 1) := by decide +kernel
theorem dX7_isLastNext_6 : decode cX7_isLastNext 6 = .ok (.ifCond .le 24, 3) := by decide +kernel
theorem dX7_isLastNext_9 : decode cX7_isLastNext 9 = .ok (.aload_n 0, 1) := by decide +kernel
theorem dX7_isLastNext_10 : decode cX7_isLastNext 10 = .ok (.getfield 7, 3) := by decide +kernel
theorem dX7_isLastNext_13 : decode cX7_isLastNext 13 = .ok (.iconst 2, 1) := by decide +kernel
theorem dX7_isLastNext_14 : decode cX7_isLastNext 14 = .ok (.iaload, 1) := by decide +kernel
theorem dX7_isLastNext_15 : decode cX7_isLastNext 15 = .ok (.aload_n 0, 1) := by decide +kernel
theorem dX7_isLastNext_16 : decode cX7_isLastNext 16 = .ok (.getfield 7, 3) := by decide +kernel
theorem dX7_isLastNext_19 : decode cX7_isLastNext 19 = .ok (.iconst 1, 1) := by decide +kernel
theorem dX7_isLastNext_20 : decode cX7_isLastNext 20 = .ok (.iaload, 1) := by decide +kernel
theorem dX7_isLastNext_21 : decode cX7_isLastNext 21 = .ok (.iconst 1, 1) := by decide +kernel
theorem dX7_isLastNext_22 : decode cX7_isLastNext 22 = .ok (.isub, 1) := by decide +kernel
theorem dX7_isLastNext_23 : decode cX7_isLastNext 23 = .ok (.if_icmp .ne 7, 3) := by decide +kernel
theorem dX7_isLastNext_26 : decode cX7_isLastNext 26 = .ok (.iconst 1, 1) := by decide +kernel
theorem dX7_isLastNext_27 : decode cX7_isLastNext 27 = .ok (.goto 4, 3) := by decide +kernel
theorem dX7_isLastNext_30 : decode cX7_isLastNext 30 = .ok (.iconst 0, 1) := by decide +kernel
theorem dX7_isLastNext_31 : decode cX7_isLastNext 31 = .ok (.ireturn, 1) := by decide +kernel
theorem dX7_begin_0 : decode cX7_begin 0 = .ok (.iload_n 1, 1) := by decide +kernel
theorem dX7_begin_1 : decode cX7_begin 1 = .ok (.iconst 0, 1) := by decide +kernel
theorem dX7_begin_2 : decode cX7_begin 2 = .ok (.iconst 2, 1) := by decide +kernel
theorem dX7_begin_3 : decode cX7_begin 3 = .ok (.invokestatic 43, 3) := by decide +kernel
theorem dX7_begin_6 : decode cX7_begin 6 = .ok (.ifCond .eq 14, 3) := by decide +kernel
theorem dX7_begin_9 : decode cX7_begin 9 = .ok (.iload_n 2, 1) := by decide +kernel
theorem dX7_begin_10 : decode cX7_begin 10 = .ok (.iconst 1, 1) := by decide +kernel
theorem dX7_begin_11 : decode cX7_begin 11 = .ok (.sipush 300, 3) := by decide +kernel
theorem dX7_begin_14 : decode cX7_begin 14 = .ok (.invokestatic 43, 3) := by decide +kernel
theorem dX7_begin_17 : decode cX7_begin 17 = .ok (.ifCond .ne 6, 3) := by decide +kernel
theorem dX7_begin_20 : decode cX7_begin 20 = .ok (.bipush (-2), 2) := by decide +kernel
theorem dX7_begin_22 : decode cX7_begin 22 = .ok (.ireturn, 1) := by decide +kernel
theorem dX7_begin_23 : decode cX7_begin 23 = .ok (.aload_n 0, 1) := by decide +kernel
theorem dX7_begin_24 : decode cX7_begin 24 = .ok (.invokevirtual 62, 3) := by decide +kernel
theorem dX7_begin_27 : decode cX7_begin 27 = .ok (.ifCond .ne 17, 3) := by decide +kernel
theorem dX7_begin_30 : decode cX7_begin 30 = .ok (.aload_n 0, 1) := by decide +kernel
theorem dX7_begin_31 : decode cX7_begin 31 = .ok (.invokevirtual 89, 3) := by decide +kernel
theorem dX7_begin_34 : decode cX7_begin 34 = .ok (.ifCond .lt 10, 3) := by decide +kernel
theorem dX7_begin_37 : decode cX7_begin 37 = .ok (.aload_n 0, 1) := by decide +kernel
theorem dX7_begin_38 : decode cX7_begin 38 = .ok (.invokevirtual 96, 3) := by decide +kernel
theorem dX7_begin_41 : decode cX7_begin 41 = .ok (.ifCond .eq 6, 3) := by decide +kernel
theorem dX7_begin_44 : decode cX7_begin 44 = .ok (.bipush (-5), 2) := by decide +kernel
theorem dX7_begin_46 : decode cX7_begin 46 = .ok (.ireturn, 1) := by decide +kernel
theorem dX7_begin_47 : decode cX7_begin 47 = .ok (.aload_n 0, 1) := by decide +kernel
theorem dX7_begin_48 : decode cX7_begin 48 = .ok (.iload_n 1, 1) := by decide +kernel
theorem dX7_begin_49 : decode cX7_begin 49 = .ok (.iload_n 2, 1) := by decide +kernel
theorem dX7_begin_50 : decode cX7_begin 50 = .ok (.invokevirtual 99, 3) := by decide +kernel
theorem dX7_begin_53 : decode cX7_begin 53 = .ok (.ireturn, 1) := by decide +kernel
theorem dX7_start_0 : decode cX7_start 0 = .ok (.aload_n 0, 1) := by decide +kernel
theorem dX7_start_1 : decode cX7_start 1 = .ok (.invokevirtual 55, 3) := by decide +kernel
theorem dX7_start_4 : decode cX7_start 4 = .ok (.aload_n 0, 1) := by decide +kernel
theorem dX7_start_5 : decode cX7_start 5 = .ok (.getfield 7, 3) := by decide +kernel
theorem dX7_start_8 : decode cX7_start 8 = .ok (.iconst 3, 1) := by decide +kernel
theorem dX7_start_9 : decode cX7_start 9 = .ok (.iconst 1, 1) := by decide +kernel
theorem dX7_start_10 : decode cX7_start 10 = .ok (.iastore, 1) := by decide +kernel
theorem dX7_start_11 : decode cX7_start 11 = .ok (.aload_n 0, 1) := by decide +kernel
theorem dX7_start_12 : decode cX7_start 12 = .ok (.getfield 7, 3) := by decide +kernel
theorem dX7_start_15 : decode cX7_start 15 = .ok (.iconst 4, 1) := by decide +kernel
theorem dX7_start_16 : decode cX7_start 16 = .ok (.iload_n 1, 1) := by decide +kernel
theorem dX7_start_17 : decode cX7_start 17 = .ok (.iastore, 1) := by decide +kernel
theorem dX7_start_18 : decode cX7_start 18 = .ok (.aload_n 0, 1) := by decide +kernel
theorem dX7_start_19 : decode cX7_start 19 = .ok (.getfield 7, 3) := by decide +kernel
theorem dX7_start_22 : decode cX7_start 22 = .ok (.iconst 5, 1) := by decide +kernel
theorem dX7_start_23 : decode cX7_start 23 = .ok (.iload_n 2, 1) := by decide +kernel
theorem dX7_start_24 : decode cX7_start 24 = .ok (.iastore, 1) := by decide +kernel
theorem dX7_start_25 : decode cX7_start 25 = .ok (.aload_n 0, 1) := by decide +kernel
theorem dX7_start_26 : decode cX7_start 26 = .ok (.getfield 7, 3) := by decide +kernel
theorem dX7_start_29 : decode cX7_start 29 = .ok (.bipush 8, 2) := by decide +kernel
theorem dX7_start_31 : decode cX7_start 31 = .ok (.iload_n 1, 1) := by decide +kernel
theorem dX7_start_32 : decode cX7_start 32 = .ok (.ifCond .ne 10, 3) := by decide +kernel
theorem dX7_start_35 : decode cX7_start 35 = .ok (.aload_n 0, 1) := by decide +kernel
theorem dX7_start_36 : decode cX7_start 36 = .ok (.invokevirtual 93, 3) := by decide +kernel
theorem dX7_start_39 : decode cX7_start 39 = .ok (.goto 5, 3) := by decide +kernel
theorem dX7_start_42 : decode cX7_start 42 = .ok (.bipush (-6), 2) := by decide +kernel
theorem dX7_start_44 : decode cX7_start 44 = .ok (.iastore, 1) := by decide +kernel
theorem dX7_start_45 : decode cX7_start 45 = .ok (.aload_n 0, 1) := by decide +kernel
theorem dX7_start_46 : decode cX7_start 46 = .ok (.invokevirtual 89, 3) := by decide +kernel
theorem dX7_start_49 : decode cX7_start 49 = .ok (.ireturn, 1) := by decide +kernel
theorem dX7_know_0 : decode cX7_know 0 = .ok (.aload_n 0, 1) := by decide +kernel
theorem dX7_know_1 : decode cX7_know 1 = .ok (.iload_n 1, 1) := by decide +kernel
theorem dX7_know_2 : decode cX7_know 2 = .ok (.iconst 3, 1) := by decide +kernel
theorem dX7_know_3 : decode cX7_know 3 = .ok (.iload_n 2, 1) := by decide +kernel
theorem dX7_know_4 : decode cX7_know 4 = .ok (.aload_n 0, 1) := by decide +kernel
theorem dX7_know_5 : decode cX7_know 5 = .ok (.iload_n 1, 1) := by decide +kernel
theorem dX7_know_6 : decode cX7_know 6 = .ok (.iconst 3, 1) := by decide +kernel
theorem dX7_know_7 : decode cX7_know 7 = .ok (.invokevirtual 70, 3) := by decide +kernel
theorem dX7_know_10 : decode cX7_know 10 = .ok (.if_icmp .le 7, 3) := by decide +kernel
theorem dX7_know_13 : decode cX7_know 13 = .ok (.iload_n 2, 1) := by decide +kernel
theorem dX7_know_14 : decode cX7_know 14 = .ok (.goto 9, 3) := by decide +kernel
theorem dX7_know_17 : decode cX7_know 17 = .ok (.aload_n 0, 1) := by decide +kernel
theorem dX7_know_18 : decode cX7_know 18 = .ok (.iload_n 1, 1) := by decide +kernel
theorem dX7_know_19 : decode cX7_know 19 = .ok (.iconst 3, 1) := by decide +kernel
theorem dX7_know_20 : decode cX7_know 20 = .ok (.invokevirtual 70, 3) := by decide +kernel
theorem dX7_know_23 : decode cX7_know 23 = .ok (.invokevirtual 47, 3) := by decide +kernel
theorem dX7_know_26 : decode cX7_know 26 = .ok (.return_, 1) := by decide +kernel
theorem dX7_pay_0 : decode cX7_pay 0 = .ok (.aload_n 0, 1) := by decide +kernel
theorem dX7_pay_1 : decode cX7_pay 1 = .ok (.iload_n 1, 1) := by decide +kernel
theorem dX7_pay_2 : decode cX7_pay 2 = .ok (.iconst 0, 1) := by decide +kernel
theorem dX7_pay_3 : decode cX7_pay 3 = .ok (.aload_n 0, 1) := by decide +kernel
theorem dX7_pay_4 : decode cX7_pay 4 = .ok (.iload_n 1, 1) := by decide +kernel
theorem dX7_pay_5 : decode cX7_pay 5 = .ok (.iconst 0, 1) := by decide +kernel
theorem dX7_pay_6 : decode cX7_pay 6 = .ok (.invokevirtual 70, 3) := by decide +kernel
theorem dX7_pay_9 : decode cX7_pay 9 = .ok (.iload_n 2, 1) := by decide +kernel
theorem dX7_pay_10 : decode cX7_pay 10 = .ok (.isub, 1) := by decide +kernel
theorem dX7_pay_11 : decode cX7_pay 11 = .ok (.invokevirtual 47, 3) := by decide +kernel
theorem dX7_pay_14 : decode cX7_pay 14 = .ok (.aload_n 0, 1) := by decide +kernel
theorem dX7_pay_15 : decode cX7_pay 15 = .ok (.iload_n 1, 1) := by decide +kernel
theorem dX7_pay_16 : decode cX7_pay 16 = .ok (.iconst 2, 1) := by decide +kernel
theorem dX7_pay_17 : decode cX7_pay 17 = .ok (.aload_n 0, 1) := by decide +kernel
theorem dX7_pay_18 : decode cX7_pay 18 = .ok (.iload_n 1, 1) := by decide +kernel
theorem dX7_pay_19 : decode cX7_pay 19 = .ok (.iconst 2, 1) := by decide +kernel
theorem dX7_pay_20 : decode cX7_pay 20 = .ok (.invokevirtual 70, 3) := by decide +kernel
theorem dX7_pay_23 : decode cX7_pay 23 = .ok (.iload_n 2, 1) := by decide +kernel
theorem dX7_pay_24 : decode cX7_pay 24 = .ok (.iadd, 1) := by decide +kernel
theorem dX7_pay_25 : decode cX7_pay 25 = .ok (.invokevirtual 47, 3) := by decide +kernel
theorem dX7_pay_28 : decode cX7_pay 28 = .ok (.aload_n 0, 1) := by decide +kernel
theorem dX7_pay_29 : decode cX7_pay 29 = .ok (.iload_n 1, 1) := by decide +kernel
theorem dX7_pay_30 : decode cX7_pay 30 = .ok (.iconst 3, 1) := by decide +kernel
theorem dX7_pay_31 : decode cX7_pay 31 = .ok (.aload_n 0, 1) := by decide +kernel
theorem dX7_pay_32 : decode cX7_pay 32 = .ok (.iload_n 1, 1) := by decide +kernel
theorem dX7_pay_33 : decode cX7_pay 33 = .ok (.iconst 3, 1) := by decide +kernel
theorem dX7_pay_34 : decode cX7_pay 34 = .ok (.invokevirtual 70, 3) := by decide +kernel
theorem dX7_pay_37 : decode cX7_pay 37 = .ok (.iload_n 2, 1) := by decide +kernel
theorem dX7_pay_38 : decode cX7_pay 38 = .ok (.if_icmp .le 14, 3) := by decide +kernel
theorem dX7_pay_41 : decode cX7_pay 41 = .ok (.aload_n 0, 1) := by decide +kernel
theorem dX7_pay_42 : decode cX7_pay 42 = .ok (.iload_n 1, 1) := by decide +kernel
theorem dX7_pay_43 : decode cX7_pay 43 = .ok (.iconst 3, 1) := by decide +kernel
theorem dX7_pay_44 : decode cX7_pay 44 = .ok (.invokevirtual 70, 3) := by decide +kernel
theorem dX7_pay_47 : decode cX7_pay 47 = .ok (.iload_n 2, 1) := by decide +kernel
theorem dX7_pay_48 : decode cX7_pay 48 = .ok (.isub, 1) := by decide +kernel
theorem dX7_pay_49 : decode cX7_pay 49 = .ok (.goto 4, 3) := by decide +kernel
theorem dX7_pay_52 : decode cX7_pay 52 = .ok (.iconst 0, 1) := by decide +kernel
theorem dX7_pay_53 : decode cX7_pay 53 = .ok (.invokevirtual 47, 3) := by decide +kernel
theorem dX7_pay_56 : decode cX7_pay 56 = .ok (.aload_n 0, 1) := by decide +kernel
theorem dX7_pay_57 : decode cX7_pay 57 = .ok (.iload_n 1, 1) := by decide +kernel
theorem dX7_pay_58 : decode cX7_pay 58 = .ok (.iconst 4, 1) := by decide +kernel
theorem dX7_pay_59 : decode cX7_pay 59 = .ok (.aload_n 0, 1) := by decide +kernel
theorem dX7_pay_60 : decode cX7_pay 60 = .ok (.iload_n 1, 1) := by decide +kernel
theorem dX7_pay_61 : decode cX7_pay 61 = .ok (.iconst 4, 1) := by decide +kernel
theorem dX7_pay_62 : decode cX7_pay 62 = .ok (.invokevirtual 70, 3) := by decide +kernel
theorem dX7_pay_65 : decode cX7_pay 65 = .ok (.iload_n 2, 1) := by decide +kernel
theorem dX7_pay_66 : decode cX7_pay 66 = .ok (.isub, 1) := by decide +kernel
theorem dX7_pay_67 : decode cX7_pay 67 = .ok (.invokevirtual 47, 3) := by decide +kernel
theorem dX7_pay_70 : decode cX7_pay 70 = .ok (.return_, 1) := by decide +kernel
theorem dX7_finish_0 : decode cX7_finish 0 = .ok (.aload_n 0, 1) := by decide +kernel
theorem dX7_finish_1 : decode cX7_finish 1 = .ok (.invokevirtual 89, 3) := by decide +kernel
theorem dX7_finish_4 : decode cX7_finish 4 = .ok (.istore_n 3, 1) := by decide +kernel
theorem dX7_finish_5 : decode cX7_finish 5 = .ok (.aload_n 0, 1) := by decide +kernel
theorem dX7_finish_6 : decode cX7_finish 6 = .ok (.iload_n 3, 1) := by decide +kernel
theorem dX7_finish_7 : decode cX7_finish 7 = .ok (.iconst 2, 1) := by decide +kernel
theorem dX7_finish_8 : decode cX7_finish 8 = .ok (.iload_n 1, 1) := by decide +kernel
theorem dX7_finish_9 : decode cX7_finish 9 = .ok (.invokevirtual 74, 3) := by decide +kernel
theorem dX7_finish_12 : decode cX7_finish 12 = .ok (.aload_n 0, 1) := by decide +kernel
theorem dX7_finish_13 : decode cX7_finish 13 = .ok (.iload_n 3, 1) := by decide +kernel
theorem dX7_finish_14 : decode cX7_finish 14 = .ok (.iconst 3, 1) := by decide +kernel
theorem dX7_finish_15 : decode cX7_finish 15 = .ok (.iload_n 1, 1) := by decide +kernel
theorem dX7_finish_16 : decode cX7_finish 16 = .ok (.ifCond .ne 8, 3) := by decide +kernel
theorem dX7_finish_19 : decode cX7_finish 19 = .ok (.bipush (-6), 2) := by decide +kernel
theorem dX7_finish_21 : decode cX7_finish 21 = .ok (.goto 4, 3) := by decide +kernel
theorem dX7_finish_24 : decode cX7_finish 24 = .ok (.iload_n 2, 1) := by decide +kernel
theorem dX7_finish_25 : decode cX7_finish 25 = .ok (.invokevirtual 74, 3) := by decide +kernel
theorem dX7_finish_28 : decode cX7_finish 28 = .ok (.aload_n 0, 1) := by decide +kernel
theorem dX7_finish_29 : decode cX7_finish 29 = .ok (.iload_n 3, 1) := by decide +kernel
theorem dX7_finish_30 : decode cX7_finish 30 = .ok (.iconst 4, 1) := by decide +kernel
theorem dX7_finish_31 : decode cX7_finish 31 = .ok (.iload_n 1, 1) := by decide +kernel
theorem dX7_finish_32 : decode cX7_finish 32 = .ok (.ifCond .ne 7, 3) := by decide +kernel
theorem dX7_finish_35 : decode cX7_finish 35 = .ok (.iconst 2, 1) := by decide +kernel
theorem dX7_finish_36 : decode cX7_finish 36 = .ok (.goto 4, 3) := by decide +kernel
theorem dX7_finish_39 : decode cX7_finish 39 = .ok (.iconst 1, 1) := by decide +kernel
theorem dX7_finish_40 : decode cX7_finish 40 = .ok (.invokevirtual 74, 3) := by decide +kernel
theorem dX7_finish_43 : decode cX7_finish 43 = .ok (.aload_n 0, 1) := by decide +kernel
theorem dX7_finish_44 : decode cX7_finish 44 = .ok (.invokevirtual 55, 3) := by decide +kernel
theorem dX7_finish_47 : decode cX7_finish 47 = .ok (.aload_n 0, 1) := by decide +kernel
theorem dX7_finish_48 : decode cX7_finish 48 = .ok (.getfield 7, 3) := by decide +kernel
theorem dX7_finish_51 : decode cX7_finish 51 = .ok (.iconst 2, 1) := by decide +kernel
theorem dX7_finish_52 : decode cX7_finish 52 = .ok (.dup2, 1) := by decide +kernel
theorem dX7_finish_53 : decode cX7_finish 53 = .ok (.iaload, 1) := by decide +kernel
theorem dX7_finish_54 : decode cX7_finish 54 = .ok (.iconst 1, 1) := by decide +kernel
theorem dX7_finish_55 : decode cX7_finish 55 = .ok (.iadd, 1) := by decide +kernel
theorem dX7_finish_56 : decode cX7_finish 56 = .ok (.iastore, 1) := by decide +kernel
theorem dX7_finish_57 : decode cX7_finish 57 = .ok (.iload_n 1, 1) := by decide +kernel
theorem dX7_finish_58 : decode cX7_finish 58 = .ok (.ireturn, 1) := by decide +kernel
theorem dX7_sellTo_0 : decode cX7_sellTo 0 = .ok (.iload_n 1, 1) := by decide +kernel
theorem dX7_sellTo_1 : decode cX7_sellTo 1 = .ok (.ifCond .ge 11, 3) := by decide +kernel
theorem dX7_sellTo_4 : decode cX7_sellTo 4 = .ok (.aload_n 0, 1) := by decide +kernel
theorem dX7_sellTo_5 : decode cX7_sellTo 5 = .ok (.iconst 0, 1) := by decide +kernel
theorem dX7_sellTo_6 : decode cX7_sellTo 6 = .ok (.bipush (-6), 2) := by decide +kernel
theorem dX7_sellTo_8 : decode cX7_sellTo 8 = .ok (.invokevirtual 102, 3) := by decide +kernel
theorem dX7_sellTo_11 : decode cX7_sellTo 11 = .ok (.ireturn, 1) := by decide +kernel
theorem dX7_sellTo_12 : decode cX7_sellTo 12 = .ok (.aload_n 0, 1) := by decide +kernel
theorem dX7_sellTo_13 : decode cX7_sellTo 13 = .ok (.iload_n 1, 1) := by decide +kernel
theorem dX7_sellTo_14 : decode cX7_sellTo 14 = .ok (.iload_n 2, 1) := by decide +kernel
theorem dX7_sellTo_15 : decode cX7_sellTo 15 = .ok (.invokevirtual 105, 3) := by decide +kernel
theorem dX7_sellTo_18 : decode cX7_sellTo 18 = .ok (.aload_n 0, 1) := by decide +kernel
theorem dX7_sellTo_19 : decode cX7_sellTo 19 = .ok (.iconst 1, 1) := by decide +kernel
theorem dX7_sellTo_20 : decode cX7_sellTo 20 = .ok (.iload_n 1, 1) := by decide +kernel
theorem dX7_sellTo_21 : decode cX7_sellTo 21 = .ok (.ishl, 1) := by decide +kernel
theorem dX7_sellTo_22 : decode cX7_sellTo 22 = .ok (.iload_n 2, 1) := by decide +kernel
theorem dX7_sellTo_23 : decode cX7_sellTo 23 = .ok (.invokevirtual 102, 3) := by decide +kernel
theorem dX7_sellTo_26 : decode cX7_sellTo 26 = .ok (.ireturn, 1) := by decide +kernel
theorem dX7_goOn_0 : decode cX7_goOn 0 = .ok (.bipush (-6), 2) := by decide +kernel
theorem dX7_goOn_2 : decode cX7_goOn 2 = .ok (.istore_n 2, 1) := by decide +kernel
theorem dX7_goOn_3 : decode cX7_goOn 3 = .ok (.aload_n 0, 1) := by decide +kernel
theorem dX7_goOn_4 : decode cX7_goOn 4 = .ok (.getfield 7, 3) := by decide +kernel
theorem dX7_goOn_7 : decode cX7_goOn 7 = .ok (.iconst 0, 1) := by decide +kernel
theorem dX7_goOn_8 : decode cX7_goOn 8 = .ok (.iaload, 1) := by decide +kernel
theorem dX7_goOn_9 : decode cX7_goOn 9 = .ok (.iconst 1, 1) := by decide +kernel
theorem dX7_goOn_10 : decode cX7_goOn 10 = .ok (.isub, 1) := by decide +kernel
theorem dX7_goOn_11 : decode cX7_goOn 11 = .ok (.istore_n 3, 1) := by decide +kernel
theorem dX7_goOn_12 : decode cX7_goOn 12 = .ok (.iload_n 3, 1) := by decide +kernel
theorem dX7_goOn_13 : decode cX7_goOn 13 = .ok (.iconst 1, 1) := by decide +kernel
theorem dX7_goOn_14 : decode cX7_goOn 14 = .ok (.if_icmp .lt 51, 3) := by decide +kernel
theorem dX7_goOn_17 : decode cX7_goOn 17 = .ok (.iload_n 1, 1) := by decide +kernel
theorem dX7_goOn_18 : decode cX7_goOn 18 = .ok (.iload_n 3, 1) := by decide +kernel
theorem dX7_goOn_19 : decode cX7_goOn 19 = .ok (.iadd, 1) := by decide +kernel
theorem dX7_goOn_20 : decode cX7_goOn 20 = .ok (.aload_n 0, 1) := by decide +kernel
theorem dX7_goOn_21 : decode cX7_goOn 21 = .ok (.getfield 7, 3) := by decide +kernel
theorem dX7_goOn_24 : decode cX7_goOn 24 = .ok (.iconst 0, 1) := by decide +kernel
theorem dX7_goOn_25 : decode cX7_goOn 25 = .ok (.iaload, 1) := by decide +kernel
theorem dX7_goOn_26 : decode cX7_goOn 26 = .ok (.irem, 1) := by decide +kernel
theorem dX7_goOn_27 : decode cX7_goOn 27 = .ok (.istore 4, 2) := by decide +kernel
theorem dX7_goOn_29 : decode cX7_goOn 29 = .ok (.aload_n 0, 1) := by decide +kernel
theorem dX7_goOn_30 : decode cX7_goOn 30 = .ok (.iload 4, 2) := by decide +kernel
theorem dX7_goOn_32 : decode cX7_goOn 32 = .ok (.bipush 6, 2) := by decide +kernel
theorem dX7_goOn_34 : decode cX7_goOn 34 = .ok (.invokevirtual 70, 3) := by decide +kernel
theorem dX7_goOn_37 : decode cX7_goOn 37 = .ok (.ifCond .ne 20, 3) := by decide +kernel
theorem dX7_goOn_40 : decode cX7_goOn 40 = .ok (.iload 4, 2) := by decide +kernel
theorem dX7_goOn_42 : decode cX7_goOn 42 = .ok (.aload_n 0, 1) := by decide +kernel
theorem dX7_goOn_43 : decode cX7_goOn 43 = .ok (.getfield 7, 3) := by decide +kernel
theorem dX7_goOn_46 : decode cX7_goOn 46 = .ok (.bipush 7, 2) := by decide +kernel
theorem dX7_goOn_48 : decode cX7_goOn 48 = .ok (.iaload, 1) := by decide +kernel
theorem dX7_goOn_49 : decode cX7_goOn 49 = .ok (.if_icmp .eq 8, 3) := by decide +kernel
theorem dX7_goOn_52 : decode cX7_goOn 52 = .ok (.iload 4, 2) := by decide +kernel
theorem dX7_goOn_54 : decode cX7_goOn 54 = .ok (.goto 4, 3) := by decide +kernel
theorem dX7_goOn_57 : decode cX7_goOn 57 = .ok (.iload_n 2, 1) := by decide +kernel
theorem dX7_goOn_58 : decode cX7_goOn 58 = .ok (.istore_n 2, 1) := by decide +kernel
theorem dX7_goOn_59 : decode cX7_goOn 59 = .ok (.iinc 3 (-1), 3) := by decide +kernel
theorem dX7_goOn_62 : decode cX7_goOn 62 = .ok (.goto (-50), 3) := by decide +kernel
theorem dX7_goOn_65 : decode cX7_goOn 65 = .ok (.iload_n 2, 1) := by decide +kernel
theorem dX7_goOn_66 : decode cX7_goOn 66 = .ok (.ifCond .lt 18, 3) := by decide +kernel
theorem dX7_goOn_69 : decode cX7_goOn 69 = .ok (.aload_n 0, 1) := by decide +kernel
theorem dX7_goOn_70 : decode cX7_goOn 70 = .ok (.getfield 7, 3) := by decide +kernel
theorem dX7_goOn_73 : decode cX7_goOn 73 = .ok (.bipush 9, 2) := by decide +kernel
theorem dX7_goOn_75 : decode cX7_goOn 75 = .ok (.iaload, 1) := by decide +kernel
theorem dX7_goOn_76 : decode cX7_goOn 76 = .ok (.aload_n 0, 1) := by decide +kernel
theorem dX7_goOn_77 : decode cX7_goOn 77 = .ok (.iconst 2, 1) := by decide +kernel
theorem dX7_goOn_78 : decode cX7_goOn 78 = .ok (.invokevirtual 51, 3) := by decide +kernel
theorem dX7_goOn_81 : decode cX7_goOn 81 = .ok (.if_icmp .lt 22, 3) := by decide +kernel
theorem dX7_goOn_84 : decode cX7_goOn 84 = .ok (.aload_n 0, 1) := by decide +kernel
theorem dX7_goOn_85 : decode cX7_goOn 85 = .ok (.aload_n 0, 1) := by decide +kernel
theorem dX7_goOn_86 : decode cX7_goOn 86 = .ok (.getfield 7, 3) := by decide +kernel
theorem dX7_goOn_89 : decode cX7_goOn 89 = .ok (.bipush 7, 2) := by decide +kernel
theorem dX7_goOn_91 : decode cX7_goOn 91 = .ok (.iaload, 1) := by decide +kernel
theorem dX7_goOn_92 : decode cX7_goOn 92 = .ok (.aload_n 0, 1) := by decide +kernel
theorem dX7_goOn_93 : decode cX7_goOn 93 = .ok (.getfield 7, 3) := by decide +kernel
theorem dX7_goOn_96 : decode cX7_goOn 96 = .ok (.bipush 6, 2) := by decide +kernel
theorem dX7_goOn_98 : decode cX7_goOn 98 = .ok (.iaload, 1) := by decide +kernel
theorem dX7_goOn_99 : decode cX7_goOn 99 = .ok (.invokevirtual 109, 3) := by decide +kernel
theorem dX7_goOn_102 : decode cX7_goOn 102 = .ok (.ireturn, 1) := by decide +kernel
theorem dX7_goOn_103 : decode cX7_goOn 103 = .ok (.aload_n 0, 1) := by decide +kernel
theorem dX7_goOn_104 : decode cX7_goOn 104 = .ok (.getfield 7, 3) := by decide +kernel
theorem dX7_goOn_107 : decode cX7_goOn 107 = .ok (.bipush 8, 2) := by decide +kernel
theorem dX7_goOn_109 : decode cX7_goOn 109 = .ok (.iload_n 2, 1) := by decide +kernel
theorem dX7_goOn_110 : decode cX7_goOn 110 = .ok (.iastore, 1) := by decide +kernel
theorem dX7_goOn_111 : decode cX7_goOn 111 = .ok (.bipush (-6), 2) := by decide +kernel
theorem dX7_goOn_113 : decode cX7_goOn 113 = .ok (.ireturn, 1) := by decide +kernel
theorem dX7_leastOpen_0 : decode cX7_leastOpen 0 = .ok (.aload_n 0, 1) := by decide +kernel
theorem dX7_leastOpen_1 : decode cX7_leastOpen 1 = .ok (.getfield 7, 3) := by decide +kernel
theorem dX7_leastOpen_4 : decode cX7_leastOpen 4 = .ok (.bipush 6, 2) := by decide +kernel
theorem dX7_leastOpen_6 : decode cX7_leastOpen 6 = .ok (.iaload, 1) := by decide +kernel
theorem dX7_leastOpen_7 : decode cX7_leastOpen 7 = .ok (.ifCond .ge 12, 3) := by decide +kernel
theorem dX7_leastOpen_10 : decode cX7_leastOpen 10 = .ok (.aload_n 0, 1) := by decide +kernel
theorem dX7_leastOpen_11 : decode cX7_leastOpen 11 = .ok (.getfield 7, 3) := by decide +kernel
theorem dX7_leastOpen_14 : decode cX7_leastOpen 14 = .ok (.iconst 5, 1) := by decide +kernel
theorem dX7_leastOpen_15 : decode cX7_leastOpen 15 = .ok (.iaload, 1) := by decide +kernel
theorem dX7_leastOpen_16 : decode cX7_leastOpen 16 = .ok (.goto 16, 3) := by decide +kernel
theorem dX7_leastOpen_19 : decode cX7_leastOpen 19 = .ok (.aload_n 0, 1) := by decide +kernel
theorem dX7_leastOpen_20 : decode cX7_leastOpen 20 = .ok (.getfield 7, 3) := by decide +kernel
theorem dX7_leastOpen_23 : decode cX7_leastOpen 23 = .ok (.bipush 6, 2) := by decide +kernel
theorem dX7_leastOpen_25 : decode cX7_leastOpen 25 = .ok (.iaload, 1) := by decide +kernel
theorem dX7_leastOpen_26 : decode cX7_leastOpen 26 = .ok (.aload_n 0, 1) := by decide +kernel
theorem dX7_leastOpen_27 : decode cX7_leastOpen 27 = .ok (.iconst 1, 1) := by decide +kernel
theorem dX7_leastOpen_28 : decode cX7_leastOpen 28 = .ok (.invokevirtual 51, 3) := by decide +kernel
theorem dX7_leastOpen_31 : decode cX7_leastOpen 31 = .ok (.iadd, 1) := by decide +kernel
theorem dX7_leastOpen_32 : decode cX7_leastOpen 32 = .ok (.ireturn, 1) := by decide +kernel
theorem dX7_bidOpen_0 : decode cX7_bidOpen 0 = .ok (.aload_n 0, 1) := by decide +kernel
theorem dX7_bidOpen_1 : decode cX7_bidOpen 1 = .ok (.iload_n 1, 1) := by decide +kernel
theorem dX7_bidOpen_2 : decode cX7_bidOpen 2 = .ok (.iload_n 2, 1) := by decide +kernel
theorem dX7_bidOpen_3 : decode cX7_bidOpen 3 = .ok (.invokevirtual 112, 3) := by decide +kernel
theorem dX7_bidOpen_6 : decode cX7_bidOpen 6 = .ok (.aload_n 0, 1) := by decide +kernel
theorem dX7_bidOpen_7 : decode cX7_bidOpen 7 = .ok (.iload_n 1, 1) := by decide +kernel
theorem dX7_bidOpen_8 : decode cX7_bidOpen 8 = .ok (.iconst 5, 1) := by decide +kernel
theorem dX7_bidOpen_9 : decode cX7_bidOpen 9 = .ok (.iload_n 2, 1) := by decide +kernel
theorem dX7_bidOpen_10 : decode cX7_bidOpen 10 = .ok (.invokevirtual 47, 3) := by decide +kernel
theorem dX7_bidOpen_13 : decode cX7_bidOpen 13 = .ok (.aload_n 0, 1) := by decide +kernel
theorem dX7_bidOpen_14 : decode cX7_bidOpen 14 = .ok (.getfield 7, 3) := by decide +kernel
theorem dX7_bidOpen_17 : decode cX7_bidOpen 17 = .ok (.bipush 6, 2) := by decide +kernel
theorem dX7_bidOpen_19 : decode cX7_bidOpen 19 = .ok (.iload_n 2, 1) := by decide +kernel
theorem dX7_bidOpen_20 : decode cX7_bidOpen 20 = .ok (.iastore, 1) := by decide +kernel
theorem dX7_bidOpen_21 : decode cX7_bidOpen 21 = .ok (.aload_n 0, 1) := by decide +kernel
theorem dX7_bidOpen_22 : decode cX7_bidOpen 22 = .ok (.getfield 7, 3) := by decide +kernel
theorem dX7_bidOpen_25 : decode cX7_bidOpen 25 = .ok (.bipush 7, 2) := by decide +kernel
theorem dX7_bidOpen_27 : decode cX7_bidOpen 27 = .ok (.iload_n 1, 1) := by decide +kernel
theorem dX7_bidOpen_28 : decode cX7_bidOpen 28 = .ok (.iastore, 1) := by decide +kernel
theorem dX7_bidOpen_29 : decode cX7_bidOpen 29 = .ok (.aload_n 0, 1) := by decide +kernel
theorem dX7_bidOpen_30 : decode cX7_bidOpen 30 = .ok (.getfield 7, 3) := by decide +kernel
theorem dX7_bidOpen_33 : decode cX7_bidOpen 33 = .ok (.bipush 9, 2) := by decide +kernel
theorem dX7_bidOpen_35 : decode cX7_bidOpen 35 = .ok (.dup2, 1) := by decide +kernel
theorem dX7_bidOpen_36 : decode cX7_bidOpen 36 = .ok (.iaload, 1) := by decide +kernel
theorem dX7_bidOpen_37 : decode cX7_bidOpen 37 = .ok (.iconst 1, 1) := by decide +kernel
theorem dX7_bidOpen_38 : decode cX7_bidOpen 38 = .ok (.iadd, 1) := by decide +kernel
theorem dX7_bidOpen_39 : decode cX7_bidOpen 39 = .ok (.iastore, 1) := by decide +kernel
theorem dX7_bidOpen_40 : decode cX7_bidOpen 40 = .ok (.aload_n 0, 1) := by decide +kernel
theorem dX7_bidOpen_41 : decode cX7_bidOpen 41 = .ok (.iload_n 1, 1) := by decide +kernel
theorem dX7_bidOpen_42 : decode cX7_bidOpen 42 = .ok (.invokevirtual 115, 3) := by decide +kernel
theorem dX7_bidOpen_45 : decode cX7_bidOpen 45 = .ok (.ireturn, 1) := by decide +kernel
theorem dX7_passOpen_0 : decode cX7_passOpen 0 = .ok (.aload_n 0, 1) := by decide +kernel
theorem dX7_passOpen_1 : decode cX7_passOpen 1 = .ok (.iload_n 1, 1) := by decide +kernel
theorem dX7_passOpen_2 : decode cX7_passOpen 2 = .ok (.bipush 6, 2) := by decide +kernel
theorem dX7_passOpen_4 : decode cX7_passOpen 4 = .ok (.iconst 1, 1) := by decide +kernel
theorem dX7_passOpen_5 : decode cX7_passOpen 5 = .ok (.invokevirtual 47, 3) := by decide +kernel
theorem dX7_passOpen_8 : decode cX7_passOpen 8 = .ok (.aload_n 0, 1) := by decide +kernel
theorem dX7_passOpen_9 : decode cX7_passOpen 9 = .ok (.iload_n 1, 1) := by decide +kernel
theorem dX7_passOpen_10 : decode cX7_passOpen 10 = .ok (.invokevirtual 115, 3) := by decide +kernel
theorem dX7_passOpen_13 : decode cX7_passOpen 13 = .ok (.ireturn, 1) := by decide +kernel
theorem dX7_bidSealed_0 : decode cX7_bidSealed 0 = .ok (.aload_n 0, 1) := by decide +kernel
theorem dX7_bidSealed_1 : decode cX7_bidSealed 1 = .ok (.iload_n 1, 1) := by decide +kernel
theorem dX7_bidSealed_2 : decode cX7_bidSealed 2 = .ok (.iconst 5, 1) := by decide +kernel
theorem dX7_bidSealed_3 : decode cX7_bidSealed 3 = .ok (.iload_n 2, 1) := by decide +kernel
theorem dX7_bidSealed_4 : decode cX7_bidSealed 4 = .ok (.invokevirtual 47, 3) := by decide +kernel
theorem dX7_bidSealed_7 : decode cX7_bidSealed 7 = .ok (.aload_n 0, 1) := by decide +kernel
theorem dX7_bidSealed_8 : decode cX7_bidSealed 8 = .ok (.getfield 7, 3) := by decide +kernel
theorem dX7_bidSealed_11 : decode cX7_bidSealed 11 = .ok (.bipush 9, 2) := by decide +kernel
theorem dX7_bidSealed_13 : decode cX7_bidSealed 13 = .ok (.dup2, 1) := by decide +kernel
theorem dX7_bidSealed_14 : decode cX7_bidSealed 14 = .ok (.iaload, 1) := by decide +kernel
theorem dX7_bidSealed_15 : decode cX7_bidSealed 15 = .ok (.iconst 1, 1) := by decide +kernel
theorem dX7_bidSealed_16 : decode cX7_bidSealed 16 = .ok (.iadd, 1) := by decide +kernel
theorem dX7_bidSealed_17 : decode cX7_bidSealed 17 = .ok (.iastore, 1) := by decide +kernel
theorem dX7_bidSealed_18 : decode cX7_bidSealed 18 = .ok (.aload_n 0, 1) := by decide +kernel
theorem dX7_bidSealed_19 : decode cX7_bidSealed 19 = .ok (.getfield 7, 3) := by decide +kernel
theorem dX7_bidSealed_22 : decode cX7_bidSealed 22 = .ok (.bipush 9, 2) := by decide +kernel
theorem dX7_bidSealed_24 : decode cX7_bidSealed 24 = .ok (.iaload, 1) := by decide +kernel
theorem dX7_bidSealed_25 : decode cX7_bidSealed 25 = .ok (.aload_n 0, 1) := by decide +kernel
theorem dX7_bidSealed_26 : decode cX7_bidSealed 26 = .ok (.getfield 7, 3) := by decide +kernel
theorem dX7_bidSealed_29 : decode cX7_bidSealed 29 = .ok (.iconst 0, 1) := by decide +kernel
theorem dX7_bidSealed_30 : decode cX7_bidSealed 30 = .ok (.iaload, 1) := by decide +kernel
theorem dX7_bidSealed_31 : decode cX7_bidSealed 31 = .ok (.if_icmp .ne 10, 3) := by decide +kernel
theorem dX7_bidSealed_34 : decode cX7_bidSealed 34 = .ok (.aload_n 0, 1) := by decide +kernel
theorem dX7_bidSealed_35 : decode cX7_bidSealed 35 = .ok (.invokevirtual 118, 3) := by decide +kernel
theorem dX7_bidSealed_38 : decode cX7_bidSealed 38 = .ok (.goto 5, 3) := by decide +kernel
theorem dX7_bidSealed_41 : decode cX7_bidSealed 41 = .ok (.bipush (-6), 2) := by decide +kernel
theorem dX7_bidSealed_43 : decode cX7_bidSealed 43 = .ok (.ireturn, 1) := by decide +kernel
theorem dX7_openSealed_0 : decode cX7_openSealed 0 = .ok (.iconst 0, 1) := by decide +kernel
theorem dX7_openSealed_1 : decode cX7_openSealed 1 = .ok (.istore_n 1, 1) := by decide +kernel
theorem dX7_openSealed_2 : decode cX7_openSealed 2 = .ok (.iconst 0, 1) := by decide +kernel
theorem dX7_openSealed_3 : decode cX7_openSealed 3 = .ok (.istore_n 2, 1) := by decide +kernel
theorem dX7_openSealed_4 : decode cX7_openSealed 4 = .ok (.iload_n 2, 1) := by decide +kernel
theorem dX7_openSealed_5 : decode cX7_openSealed 5 = .ok (.aload_n 0, 1) := by decide +kernel
theorem dX7_openSealed_6 : decode cX7_openSealed 6 = .ok (.getfield 7, 3) := by decide +kernel
theorem dX7_openSealed_9 : decode cX7_openSealed 9 = .ok (.iconst 0, 1) := by decide +kernel
theorem dX7_openSealed_10 : decode cX7_openSealed 10 = .ok (.iaload, 1) := by decide +kernel
theorem dX7_openSealed_11 : decode cX7_openSealed 11 = .ok (.if_icmp .ge 41, 3) := by decide +kernel
theorem dX7_openSealed_14 : decode cX7_openSealed 14 = .ok (.aload_n 0, 1) := by decide +kernel
theorem dX7_openSealed_15 : decode cX7_openSealed 15 = .ok (.iload_n 2, 1) := by decide +kernel
theorem dX7_openSealed_16 : decode cX7_openSealed 16 = .ok (.aload_n 0, 1) := by decide +kernel
theorem dX7_openSealed_17 : decode cX7_openSealed 17 = .ok (.iload_n 2, 1) := by decide +kernel
theorem dX7_openSealed_18 : decode cX7_openSealed 18 = .ok (.iconst 5, 1) := by decide +kernel
theorem dX7_openSealed_19 : decode cX7_openSealed 19 = .ok (.invokevirtual 70, 3) := by decide +kernel
theorem dX7_openSealed_22 : decode cX7_openSealed 22 = .ok (.invokevirtual 112, 3) := by decide +kernel
theorem dX7_openSealed_25 : decode cX7_openSealed 25 = .ok (.aload_n 0, 1) := by decide +kernel
theorem dX7_openSealed_26 : decode cX7_openSealed 26 = .ok (.iload_n 2, 1) := by decide +kernel
theorem dX7_openSealed_27 : decode cX7_openSealed 27 = .ok (.iconst 5, 1) := by decide +kernel
theorem dX7_openSealed_28 : decode cX7_openSealed 28 = .ok (.invokevirtual 70, 3) := by decide +kernel
theorem dX7_openSealed_31 : decode cX7_openSealed 31 = .ok (.iload_n 1, 1) := by decide +kernel
theorem dX7_openSealed_32 : decode cX7_openSealed 32 = .ok (.if_icmp .le 12, 3) := by decide +kernel
theorem dX7_openSealed_35 : decode cX7_openSealed 35 = .ok (.aload_n 0, 1) := by decide +kernel
theorem dX7_openSealed_36 : decode cX7_openSealed 36 = .ok (.iload_n 2, 1) := by decide +kernel
theorem dX7_openSealed_37 : decode cX7_openSealed 37 = .ok (.iconst 5, 1) := by decide +kernel
theorem dX7_openSealed_38 : decode cX7_openSealed 38 = .ok (.invokevirtual 70, 3) := by decide +kernel
theorem dX7_openSealed_41 : decode cX7_openSealed 41 = .ok (.goto 4, 3) := by decide +kernel
theorem dX7_openSealed_44 : decode cX7_openSealed 44 = .ok (.iload_n 1, 1) := by decide +kernel
theorem dX7_openSealed_45 : decode cX7_openSealed 45 = .ok (.istore_n 1, 1) := by decide +kernel
theorem dX7_openSealed_46 : decode cX7_openSealed 46 = .ok (.iinc 2 1, 3) := by decide +kernel
theorem dX7_openSealed_49 : decode cX7_openSealed 49 = .ok (.goto (-45), 3) := by decide +kernel
theorem dX7_openSealed_52 : decode cX7_openSealed 52 = .ok (.iload_n 1, 1) := by decide +kernel
theorem dX7_openSealed_53 : decode cX7_openSealed 53 = .ok (.aload_n 0, 1) := by decide +kernel
theorem dX7_openSealed_54 : decode cX7_openSealed 54 = .ok (.getfield 7, 3) := by decide +kernel
theorem dX7_openSealed_57 : decode cX7_openSealed 57 = .ok (.iconst 5, 1) := by decide +kernel
theorem dX7_openSealed_58 : decode cX7_openSealed 58 = .ok (.iaload, 1) := by decide +kernel
theorem dX7_openSealed_59 : decode cX7_openSealed 59 = .ok (.if_icmp .ge 11, 3) := by decide +kernel
theorem dX7_openSealed_62 : decode cX7_openSealed 62 = .ok (.aload_n 0, 1) := by decide +kernel
theorem dX7_openSealed_63 : decode cX7_openSealed 63 = .ok (.iconst 0, 1) := by decide +kernel
theorem dX7_openSealed_64 : decode cX7_openSealed 64 = .ok (.bipush (-6), 2) := by decide +kernel
theorem dX7_openSealed_66 : decode cX7_openSealed 66 = .ok (.invokevirtual 102, 3) := by decide +kernel
theorem dX7_openSealed_69 : decode cX7_openSealed 69 = .ok (.ireturn, 1) := by decide +kernel
theorem dX7_openSealed_70 : decode cX7_openSealed 70 = .ok (.iconst 0, 1) := by decide +kernel
theorem dX7_openSealed_71 : decode cX7_openSealed 71 = .ok (.istore_n 2, 1) := by decide +kernel
theorem dX7_openSealed_72 : decode cX7_openSealed 72 = .ok (.iconst 0, 1) := by decide +kernel
theorem dX7_openSealed_73 : decode cX7_openSealed 73 = .ok (.istore_n 3, 1) := by decide +kernel
theorem dX7_openSealed_74 : decode cX7_openSealed 74 = .ok (.iload_n 3, 1) := by decide +kernel
theorem dX7_openSealed_75 : decode cX7_openSealed 75 = .ok (.aload_n 0, 1) := by decide +kernel
theorem dX7_openSealed_76 : decode cX7_openSealed 76 = .ok (.getfield 7, 3) := by decide +kernel
theorem dX7_openSealed_79 : decode cX7_openSealed 79 = .ok (.iconst 0, 1) := by decide +kernel
theorem dX7_openSealed_80 : decode cX7_openSealed 80 = .ok (.iaload, 1) := by decide +kernel
theorem dX7_openSealed_81 : decode cX7_openSealed 81 = .ok (.if_icmp .ge 29, 3) := by decide +kernel
theorem dX7_openSealed_84 : decode cX7_openSealed 84 = .ok (.iload_n 2, 1) := by decide +kernel
theorem dX7_openSealed_85 : decode cX7_openSealed 85 = .ok (.aload_n 0, 1) := by decide +kernel
theorem dX7_openSealed_86 : decode cX7_openSealed 86 = .ok (.iload_n 3, 1) := by decide +kernel
theorem dX7_openSealed_87 : decode cX7_openSealed 87 = .ok (.iconst 5, 1) := by decide +kernel
theorem dX7_openSealed_88 : decode cX7_openSealed 88 = .ok (.invokevirtual 70, 3) := by decide +kernel
theorem dX7_openSealed_91 : decode cX7_openSealed 91 = .ok (.iload_n 1, 1) := by decide +kernel
theorem dX7_openSealed_92 : decode cX7_openSealed 92 = .ok (.if_icmp .ne 9, 3) := by decide +kernel
theorem dX7_openSealed_95 : decode cX7_openSealed 95 = .ok (.iconst 1, 1) := by decide +kernel
theorem dX7_openSealed_96 : decode cX7_openSealed 96 = .ok (.iload_n 3, 1) := by decide +kernel
theorem dX7_openSealed_97 : decode cX7_openSealed 97 = .ok (.ishl, 1) := by decide +kernel
theorem dX7_openSealed_98 : decode cX7_openSealed 98 = .ok (.goto 4, 3) := by decide +kernel
theorem dX7_openSealed_101 : decode cX7_openSealed 101 = .ok (.iconst 0, 1) := by decide +kernel
theorem dX7_openSealed_102 : decode cX7_openSealed 102 = .ok (.ior, 1) := by decide +kernel
theorem dX7_openSealed_103 : decode cX7_openSealed 103 = .ok (.istore_n 2, 1) := by decide +kernel
theorem dX7_openSealed_104 : decode cX7_openSealed 104 = .ok (.iinc 3 1, 3) := by decide +kernel
theorem dX7_openSealed_107 : decode cX7_openSealed 107 = .ok (.goto (-33), 3) := by decide +kernel
theorem dX7_openSealed_110 : decode cX7_openSealed 110 = .ok (.iload_n 1, 1) := by decide +kernel
theorem dX7_openSealed_111 : decode cX7_openSealed 111 = .ok (.iload_n 2, 1) := by decide +kernel
theorem dX7_openSealed_112 : decode cX7_openSealed 112 = .ok (.invokestatic 80, 3) := by decide +kernel
theorem dX7_openSealed_115 : decode cX7_openSealed 115 = .ok (.idiv, 1) := by decide +kernel
theorem dX7_openSealed_116 : decode cX7_openSealed 116 = .ok (.istore_n 3, 1) := by decide +kernel
theorem dX7_openSealed_117 : decode cX7_openSealed 117 = .ok (.iload_n 1, 1) := by decide +kernel
theorem dX7_openSealed_118 : decode cX7_openSealed 118 = .ok (.iload_n 2, 1) := by decide +kernel
theorem dX7_openSealed_119 : decode cX7_openSealed 119 = .ok (.invokestatic 80, 3) := by decide +kernel
theorem dX7_openSealed_122 : decode cX7_openSealed 122 = .ok (.irem, 1) := by decide +kernel
theorem dX7_openSealed_123 : decode cX7_openSealed 123 = .ok (.istore 4, 2) := by decide +kernel
theorem dX7_openSealed_125 : decode cX7_openSealed 125 = .ok (.iconst 0, 1) := by decide +kernel
theorem dX7_openSealed_126 : decode cX7_openSealed 126 = .ok (.istore 5, 2) := by decide +kernel
theorem dX7_openSealed_128 : decode cX7_openSealed 128 = .ok (.iload 5, 2) := by decide +kernel
theorem dX7_openSealed_130 : decode cX7_openSealed 130 = .ok (.aload_n 0, 1) := by decide +kernel
theorem dX7_openSealed_131 : decode cX7_openSealed 131 = .ok (.getfield 7, 3) := by decide +kernel
theorem dX7_openSealed_134 : decode cX7_openSealed 134 = .ok (.iconst 0, 1) := by decide +kernel
theorem dX7_openSealed_135 : decode cX7_openSealed 135 = .ok (.iaload, 1) := by decide +kernel
theorem dX7_openSealed_136 : decode cX7_openSealed 136 = .ok (.if_icmp .ge 60, 3) := by decide +kernel
theorem dX7_openSealed_139 : decode cX7_openSealed 139 = .ok (.aload_n 0, 1) := by decide +kernel
theorem dX7_openSealed_140 : decode cX7_openSealed 140 = .ok (.iload 5, 2) := by decide +kernel
theorem dX7_openSealed_142 : decode cX7_openSealed 142 = .ok (.invokevirtual 121, 3) := by decide +kernel
theorem dX7_openSealed_145 : decode cX7_openSealed 145 = .ok (.istore 6, 2) := by decide +kernel
theorem dX7_openSealed_147 : decode cX7_openSealed 147 = .ok (.iload_n 2, 1) := by decide +kernel
theorem dX7_openSealed_148 : decode cX7_openSealed 148 = .ok (.iload 6, 2) := by decide +kernel
theorem dX7_openSealed_150 : decode cX7_openSealed 150 = .ok (.ishr, 1) := by decide +kernel
theorem dX7_openSealed_151 : decode cX7_openSealed 151 = .ok (.iconst 1, 1) := by decide +kernel
theorem dX7_openSealed_152 : decode cX7_openSealed 152 = .ok (.iand, 1) := by decide +kernel
theorem dX7_openSealed_153 : decode cX7_openSealed 153 = .ok (.iconst 1, 1) := by decide +kernel
theorem dX7_openSealed_154 : decode cX7_openSealed 154 = .ok (.if_icmp .ne 36, 3) := by decide +kernel
theorem dX7_openSealed_157 : decode cX7_openSealed 157 = .ok (.aload_n 0, 1) := by decide +kernel
theorem dX7_openSealed_158 : decode cX7_openSealed 158 = .ok (.iload 6, 2) := by decide +kernel
theorem dX7_openSealed_160 : decode cX7_openSealed 160 = .ok (.iload_n 3, 1) := by decide +kernel
theorem dX7_openSealed_161 : decode cX7_openSealed 161 = .ok (.iload 4, 2) := by decide +kernel
theorem dX7_openSealed_163 : decode cX7_openSealed 163 = .ok (.ifCond .le 7, 3) := by decide +kernel
theorem dX7_openSealed_166 : decode cX7_openSealed 166 = .ok (.iconst 1, 1) := by decide +kernel
theorem dX7_openSealed_167 : decode cX7_openSealed 167 = .ok (.goto 4, 3) := by decide +kernel
theorem dX7_openSealed_170 : decode cX7_openSealed 170 = .ok (.iconst 0, 1) := by decide +kernel
theorem dX7_openSealed_171 : decode cX7_openSealed 171 = .ok (.iadd, 1) := by decide +kernel
theorem dX7_openSealed_172 : decode cX7_openSealed 172 = .ok (.invokevirtual 105, 3) := by decide +kernel
theorem dX7_openSealed_175 : decode cX7_openSealed 175 = .ok (.iload 4, 2) := by decide +kernel
theorem dX7_openSealed_177 : decode cX7_openSealed 177 = .ok (.iload 4, 2) := by decide +kernel
theorem dX7_openSealed_179 : decode cX7_openSealed 179 = .ok (.ifCond .le 7, 3) := by decide +kernel
theorem dX7_openSealed_182 : decode cX7_openSealed 182 = .ok (.iconst 1, 1) := by decide +kernel
theorem dX7_openSealed_183 : decode cX7_openSealed 183 = .ok (.goto 4, 3) := by decide +kernel
theorem dX7_openSealed_186 : decode cX7_openSealed 186 = .ok (.iconst 0, 1) := by decide +kernel
theorem dX7_openSealed_187 : decode cX7_openSealed 187 = .ok (.isub, 1) := by decide +kernel
theorem dX7_openSealed_188 : decode cX7_openSealed 188 = .ok (.istore 4, 2) := by decide +kernel
theorem dX7_openSealed_190 : decode cX7_openSealed 190 = .ok (.iinc 5 1, 3) := by decide +kernel
theorem dX7_openSealed_193 : decode cX7_openSealed 193 = .ok (.goto (-65), 3) := by decide +kernel
theorem dX7_openSealed_196 : decode cX7_openSealed 196 = .ok (.aload_n 0, 1) := by decide +kernel
theorem dX7_openSealed_197 : decode cX7_openSealed 197 = .ok (.iload_n 2, 1) := by decide +kernel
theorem dX7_openSealed_198 : decode cX7_openSealed 198 = .ok (.iload_n 1, 1) := by decide +kernel
theorem dX7_openSealed_199 : decode cX7_openSealed 199 = .ok (.invokevirtual 102, 3) := by decide +kernel
theorem dX7_openSealed_202 : decode cX7_openSealed 202 = .ok (.ireturn, 1) := by decide +kernel
theorem dX7_claim_0 : decode cX7_claim 0 = .ok (.aload_n 0, 1) := by decide +kernel
theorem dX7_claim_1 : decode cX7_claim 1 = .ok (.iload_n 1, 1) := by decide +kernel
theorem dX7_claim_2 : decode cX7_claim 2 = .ok (.aload_n 0, 1) := by decide +kernel
theorem dX7_claim_3 : decode cX7_claim 3 = .ok (.getfield 7, 3) := by decide +kernel
theorem dX7_claim_6 : decode cX7_claim 6 = .ok (.iconst 5, 1) := by decide +kernel
theorem dX7_claim_7 : decode cX7_claim 7 = .ok (.iaload, 1) := by decide +kernel
theorem dX7_claim_8 : decode cX7_claim 8 = .ok (.invokevirtual 112, 3) := by decide +kernel
theorem dX7_claim_11 : decode cX7_claim 11 = .ok (.aload_n 0, 1) := by decide +kernel
theorem dX7_claim_12 : decode cX7_claim 12 = .ok (.iload_n 1, 1) := by decide +kernel
theorem dX7_claim_13 : decode cX7_claim 13 = .ok (.iconst 5, 1) := by decide +kernel
theorem dX7_claim_14 : decode cX7_claim 14 = .ok (.aload_n 0, 1) := by decide +kernel
theorem dX7_claim_15 : decode cX7_claim 15 = .ok (.getfield 7, 3) := by decide +kernel
theorem dX7_claim_18 : decode cX7_claim 18 = .ok (.iconst 5, 1) := by decide +kernel
theorem dX7_claim_19 : decode cX7_claim 19 = .ok (.iaload, 1) := by decide +kernel
theorem dX7_claim_20 : decode cX7_claim 20 = .ok (.invokevirtual 47, 3) := by decide +kernel
theorem dX7_claim_23 : decode cX7_claim 23 = .ok (.aload_n 0, 1) := by decide +kernel
theorem dX7_claim_24 : decode cX7_claim 24 = .ok (.getfield 7, 3) := by decide +kernel
theorem dX7_claim_27 : decode cX7_claim 27 = .ok (.bipush 9, 2) := by decide +kernel
theorem dX7_claim_29 : decode cX7_claim 29 = .ok (.dup2, 1) := by decide +kernel
theorem dX7_claim_30 : decode cX7_claim 30 = .ok (.iaload, 1) := by decide +kernel
theorem dX7_claim_31 : decode cX7_claim 31 = .ok (.iconst 1, 1) := by decide +kernel
theorem dX7_claim_32 : decode cX7_claim 32 = .ok (.iadd, 1) := by decide +kernel
theorem dX7_claim_33 : decode cX7_claim 33 = .ok (.iastore, 1) := by decide +kernel
theorem dX7_claim_34 : decode cX7_claim 34 = .ok (.bipush (-6), 2) := by decide +kernel
theorem dX7_claim_36 : decode cX7_claim 36 = .ok (.ireturn, 1) := by decide +kernel
theorem dX7_fall_0 : decode cX7_fall 0 = .ok (.iconst 0, 1) := by decide +kernel
theorem dX7_fall_1 : decode cX7_fall 1 = .ok (.istore_n 1, 1) := by decide +kernel
theorem dX7_fall_2 : decode cX7_fall 2 = .ok (.iload_n 1, 1) := by decide +kernel
theorem dX7_fall_3 : decode cX7_fall 3 = .ok (.aload_n 0, 1) := by decide +kernel
theorem dX7_fall_4 : decode cX7_fall 4 = .ok (.getfield 7, 3) := by decide +kernel
theorem dX7_fall_7 : decode cX7_fall 7 = .ok (.iconst 0, 1) := by decide +kernel
theorem dX7_fall_8 : decode cX7_fall 8 = .ok (.iaload, 1) := by decide +kernel
theorem dX7_fall_9 : decode cX7_fall 9 = .ok (.if_icmp .ge 38, 3) := by decide +kernel
theorem dX7_fall_12 : decode cX7_fall 12 = .ok (.aload_n 0, 1) := by decide +kernel
theorem dX7_fall_13 : decode cX7_fall 13 = .ok (.aload_n 0, 1) := by decide +kernel
theorem dX7_fall_14 : decode cX7_fall 14 = .ok (.iload_n 1, 1) := by decide +kernel
theorem dX7_fall_15 : decode cX7_fall 15 = .ok (.invokevirtual 121, 3) := by decide +kernel
theorem dX7_fall_18 : decode cX7_fall 18 = .ok (.iconst 5, 1) := by decide +kernel
theorem dX7_fall_19 : decode cX7_fall 19 = .ok (.invokevirtual 70, 3) := by decide +kernel
theorem dX7_fall_22 : decode cX7_fall 22 = .ok (.ifCond .lt 19, 3) := by decide +kernel
theorem dX7_fall_25 : decode cX7_fall 25 = .ok (.aload_n 0, 1) := by decide +kernel
theorem dX7_fall_26 : decode cX7_fall 26 = .ok (.aload_n 0, 1) := by decide +kernel
theorem dX7_fall_27 : decode cX7_fall 27 = .ok (.iload_n 1, 1) := by decide +kernel
theorem dX7_fall_28 : decode cX7_fall 28 = .ok (.invokevirtual 121, 3) := by decide +kernel
theorem dX7_fall_31 : decode cX7_fall 31 = .ok (.aload_n 0, 1) := by decide +kernel
theorem dX7_fall_32 : decode cX7_fall 32 = .ok (.getfield 7, 3) := by decide +kernel
theorem dX7_fall_35 : decode cX7_fall 35 = .ok (.iconst 5, 1) := by decide +kernel
theorem dX7_fall_36 : decode cX7_fall 36 = .ok (.iaload, 1) := by decide +kernel
theorem dX7_fall_37 : decode cX7_fall 37 = .ok (.invokevirtual 109, 3) := by decide +kernel
theorem dX7_fall_40 : decode cX7_fall 40 = .ok (.ireturn, 1) := by decide +kernel
theorem dX7_fall_41 : decode cX7_fall 41 = .ok (.iinc 1 1, 3) := by decide +kernel
theorem dX7_fall_44 : decode cX7_fall 44 = .ok (.goto (-42), 3) := by decide +kernel
theorem dX7_fall_47 : decode cX7_fall 47 = .ok (.aload_n 0, 1) := by decide +kernel
theorem dX7_fall_48 : decode cX7_fall 48 = .ok (.getfield 7, 3) := by decide +kernel
theorem dX7_fall_51 : decode cX7_fall 51 = .ok (.iconst 5, 1) := by decide +kernel
theorem dX7_fall_52 : decode cX7_fall 52 = .ok (.dup2, 1) := by decide +kernel
theorem dX7_fall_53 : decode cX7_fall 53 = .ok (.iaload, 1) := by decide +kernel
theorem dX7_fall_54 : decode cX7_fall 54 = .ok (.aload_n 0, 1) := by decide +kernel
theorem dX7_fall_55 : decode cX7_fall 55 = .ok (.iconst 1, 1) := by decide +kernel
theorem dX7_fall_56 : decode cX7_fall 56 = .ok (.invokevirtual 51, 3) := by decide +kernel
theorem dX7_fall_59 : decode cX7_fall 59 = .ok (.isub, 1) := by decide +kernel
theorem dX7_fall_60 : decode cX7_fall 60 = .ok (.iastore, 1) := by decide +kernel
theorem dX7_fall_61 : decode cX7_fall 61 = .ok (.aload_n 0, 1) := by decide +kernel
theorem dX7_fall_62 : decode cX7_fall 62 = .ok (.getfield 7, 3) := by decide +kernel
theorem dX7_fall_65 : decode cX7_fall 65 = .ok (.iconst 5, 1) := by decide +kernel
theorem dX7_fall_66 : decode cX7_fall 66 = .ok (.iaload, 1) := by decide +kernel
theorem dX7_fall_67 : decode cX7_fall 67 = .ok (.iconst 1, 1) := by decide +kernel
theorem dX7_fall_68 : decode cX7_fall 68 = .ok (.if_icmp .ge 13, 3) := by decide +kernel
theorem dX7_fall_71 : decode cX7_fall 71 = .ok (.aload_n 0, 1) := by decide +kernel
theorem dX7_fall_72 : decode cX7_fall 72 = .ok (.iconst 0, 1) := by decide +kernel
theorem dX7_fall_73 : decode cX7_fall 73 = .ok (.bipush (-6), 2) := by decide +kernel
theorem dX7_fall_75 : decode cX7_fall 75 = .ok (.invokevirtual 102, 3) := by decide +kernel
theorem dX7_fall_78 : decode cX7_fall 78 = .ok (.goto 5, 3) := by decide +kernel
theorem dX7_fall_81 : decode cX7_fall 81 = .ok (.bipush (-6), 2) := by decide +kernel
theorem dX7_fall_83 : decode cX7_fall 83 = .ok (.ireturn, 1) := by decide +kernel
theorem dX7_isBid_0 : decode cX7_isBid 0 = .ok (.aload_n 0, 1) := by decide +kernel
theorem dX7_isBid_1 : decode cX7_isBid 1 = .ok (.iload_n 1, 1) := by decide +kernel
theorem dX7_isBid_2 : decode cX7_isBid 2 = .ok (.iconst 0, 1) := by decide +kernel
theorem dX7_isBid_3 : decode cX7_isBid 3 = .ok (.invokevirtual 70, 3) := by decide +kernel
theorem dX7_isBid_6 : decode cX7_isBid 6 = .ok (.istore_n 3, 1) := by decide +kernel
theorem dX7_isBid_7 : decode cX7_isBid 7 = .ok (.aload_n 0, 1) := by decide +kernel
theorem dX7_isBid_8 : decode cX7_isBid 8 = .ok (.getfield 7, 3) := by decide +kernel
theorem dX7_isBid_11 : decode cX7_isBid 11 = .ok (.iconst 4, 1) := by decide +kernel
theorem dX7_isBid_12 : decode cX7_isBid 12 = .ok (.iaload, 1) := by decide +kernel
theorem dX7_isBid_13 : decode cX7_isBid 13 = .ok (.lookupswitch 44 #[(0, 27), (1, 37)], 27) := by decide +kernel
theorem dX7_isBid_40 : decode cX7_isBid 40 = .ok (.iload_n 2, 1) := by decide +kernel
theorem dX7_isBid_41 : decode cX7_isBid 41 = .ok (.aload_n 0, 1) := by decide +kernel
theorem dX7_isBid_42 : decode cX7_isBid 42 = .ok (.invokevirtual 124, 3) := by decide +kernel
theorem dX7_isBid_45 : decode cX7_isBid 45 = .ok (.iload_n 3, 1) := by decide +kernel
theorem dX7_isBid_46 : decode cX7_isBid 46 = .ok (.invokestatic 43, 3) := by decide +kernel
theorem dX7_isBid_49 : decode cX7_isBid 49 = .ok (.ireturn, 1) := by decide +kernel
theorem dX7_isBid_50 : decode cX7_isBid 50 = .ok (.iload_n 2, 1) := by decide +kernel
theorem dX7_isBid_51 : decode cX7_isBid 51 = .ok (.iconst 0, 1) := by decide +kernel
theorem dX7_isBid_52 : decode cX7_isBid 52 = .ok (.iload_n 3, 1) := by decide +kernel
theorem dX7_isBid_53 : decode cX7_isBid 53 = .ok (.invokestatic 43, 3) := by decide +kernel
theorem dX7_isBid_56 : decode cX7_isBid 56 = .ok (.ireturn, 1) := by decide +kernel
theorem dX7_isBid_57 : decode cX7_isBid 57 = .ok (.iload_n 2, 1) := by decide +kernel
theorem dX7_isBid_58 : decode cX7_isBid 58 = .ok (.aload_n 0, 1) := by decide +kernel
theorem dX7_isBid_59 : decode cX7_isBid 59 = .ok (.getfield 7, 3) := by decide +kernel
theorem dX7_isBid_62 : decode cX7_isBid 62 = .ok (.iconst 5, 1) := by decide +kernel
theorem dX7_isBid_63 : decode cX7_isBid 63 = .ok (.iaload, 1) := by decide +kernel
theorem dX7_isBid_64 : decode cX7_isBid 64 = .ok (.if_icmp .ne 12, 3) := by decide +kernel
theorem dX7_isBid_67 : decode cX7_isBid 67 = .ok (.iload_n 2, 1) := by decide +kernel
theorem dX7_isBid_68 : decode cX7_isBid 68 = .ok (.iload_n 3, 1) := by decide +kernel
theorem dX7_isBid_69 : decode cX7_isBid 69 = .ok (.if_icmp .gt 7, 3) := by decide +kernel
theorem dX7_isBid_72 : decode cX7_isBid 72 = .ok (.iconst 1, 1) := by decide +kernel
theorem dX7_isBid_73 : decode cX7_isBid 73 = .ok (.goto 4, 3) := by decide +kernel
theorem dX7_isBid_76 : decode cX7_isBid 76 = .ok (.iconst 0, 1) := by decide +kernel
theorem dX7_isBid_77 : decode cX7_isBid 77 = .ok (.ireturn, 1) := by decide +kernel
theorem dX7_bid_0 : decode cX7_bid 0 = .ok (.aload_n 0, 1) := by decide +kernel
theorem dX7_bid_1 : decode cX7_bid 1 = .ok (.iload_n 1, 1) := by decide +kernel
theorem dX7_bid_2 : decode cX7_bid 2 = .ok (.invokevirtual 66, 3) := by decide +kernel
theorem dX7_bid_5 : decode cX7_bid 5 = .ok (.ifCond .ne 5, 3) := by decide +kernel
theorem dX7_bid_8 : decode cX7_bid 8 = .ok (.iconst (-1), 1) := by decide +kernel
theorem dX7_bid_9 : decode cX7_bid 9 = .ok (.ireturn, 1) := by decide +kernel
theorem dX7_bid_10 : decode cX7_bid 10 = .ok (.aload_n 0, 1) := by decide +kernel
theorem dX7_bid_11 : decode cX7_bid 11 = .ok (.invokevirtual 62, 3) := by decide +kernel
theorem dX7_bid_14 : decode cX7_bid 14 = .ok (.ifCond .eq 35, 3) := by decide +kernel
theorem dX7_bid_17 : decode cX7_bid 17 = .ok (.aload_n 0, 1) := by decide +kernel
theorem dX7_bid_18 : decode cX7_bid 18 = .ok (.getfield 7, 3) := by decide +kernel
theorem dX7_bid_21 : decode cX7_bid 21 = .ok (.iconst 4, 1) := by decide +kernel
theorem dX7_bid_22 : decode cX7_bid 22 = .ok (.iaload, 1) := by decide +kernel
theorem dX7_bid_23 : decode cX7_bid 23 = .ok (.ifCond .ne 17, 3) := by decide +kernel
theorem dX7_bid_26 : decode cX7_bid 26 = .ok (.aload_n 0, 1) := by decide +kernel
theorem dX7_bid_27 : decode cX7_bid 27 = .ok (.getfield 7, 3) := by decide +kernel
theorem dX7_bid_30 : decode cX7_bid 30 = .ok (.bipush 8, 2) := by decide +kernel
theorem dX7_bid_32 : decode cX7_bid 32 = .ok (.iaload, 1) := by decide +kernel
theorem dX7_bid_33 : decode cX7_bid 33 = .ok (.iload_n 1, 1) := by decide +kernel
theorem dX7_bid_34 : decode cX7_bid 34 = .ok (.if_icmp .eq 18, 3) := by decide +kernel
theorem dX7_bid_37 : decode cX7_bid 37 = .ok (.goto 12, 3) := by decide +kernel
theorem dX7_bid_40 : decode cX7_bid 40 = .ok (.aload_n 0, 1) := by decide +kernel
theorem dX7_bid_41 : decode cX7_bid 41 = .ok (.iload_n 1, 1) := by decide +kernel
theorem dX7_bid_42 : decode cX7_bid 42 = .ok (.iconst 5, 1) := by decide +kernel
theorem dX7_bid_43 : decode cX7_bid 43 = .ok (.invokevirtual 70, 3) := by decide +kernel
theorem dX7_bid_46 : decode cX7_bid 46 = .ok (.ifCond .lt 6, 3) := by decide +kernel
theorem dX7_bid_49 : decode cX7_bid 49 = .ok (.bipush (-5), 2) := by decide +kernel
theorem dX7_bid_51 : decode cX7_bid 51 = .ok (.ireturn, 1) := by decide +kernel
theorem dX7_bid_52 : decode cX7_bid 52 = .ok (.aload_n 0, 1) := by decide +kernel
theorem dX7_bid_53 : decode cX7_bid 53 = .ok (.iload_n 1, 1) := by decide +kernel
theorem dX7_bid_54 : decode cX7_bid 54 = .ok (.iload_n 2, 1) := by decide +kernel
theorem dX7_bid_55 : decode cX7_bid 55 = .ok (.invokevirtual 127, 3) := by decide +kernel
theorem dX7_bid_58 : decode cX7_bid 58 = .ok (.ifCond .ne 6, 3) := by decide +kernel
theorem dX7_bid_61 : decode cX7_bid 61 = .ok (.bipush (-2), 2) := by decide +kernel
theorem dX7_bid_63 : decode cX7_bid 63 = .ok (.ireturn, 1) := by decide +kernel
theorem dX7_bid_64 : decode cX7_bid 64 = .ok (.aload_n 0, 1) := by decide +kernel
theorem dX7_bid_65 : decode cX7_bid 65 = .ok (.getfield 7, 3) := by decide +kernel
theorem dX7_bid_68 : decode cX7_bid 68 = .ok (.iconst 4, 1) := by decide +kernel
theorem dX7_bid_69 : decode cX7_bid 69 = .ok (.iaload, 1) := by decide +kernel
theorem dX7_bid_70 : decode cX7_bid 70 = .ok (.ifCond .ne 12, 3) := by decide +kernel
theorem dX7_bid_73 : decode cX7_bid 73 = .ok (.aload_n 0, 1) := by decide +kernel
theorem dX7_bid_74 : decode cX7_bid 74 = .ok (.iload_n 1, 1) := by decide +kernel
theorem dX7_bid_75 : decode cX7_bid 75 = .ok (.iload_n 2, 1) := by decide +kernel
theorem dX7_bid_76 : decode cX7_bid 76 = .ok (.invokevirtual 130, 3) := by decide +kernel
theorem dX7_bid_79 : decode cX7_bid 79 = .ok (.goto 27, 3) := by decide +kernel
theorem dX7_bid_82 : decode cX7_bid 82 = .ok (.aload_n 0, 1) := by decide +kernel
theorem dX7_bid_83 : decode cX7_bid 83 = .ok (.getfield 7, 3) := by decide +kernel
theorem dX7_bid_86 : decode cX7_bid 86 = .ok (.iconst 4, 1) := by decide +kernel
theorem dX7_bid_87 : decode cX7_bid 87 = .ok (.iaload, 1) := by decide +kernel
theorem dX7_bid_88 : decode cX7_bid 88 = .ok (.iconst 1, 1) := by decide +kernel
theorem dX7_bid_89 : decode cX7_bid 89 = .ok (.if_icmp .ne 12, 3) := by decide +kernel
theorem dX7_bid_92 : decode cX7_bid 92 = .ok (.aload_n 0, 1) := by decide +kernel
theorem dX7_bid_93 : decode cX7_bid 93 = .ok (.iload_n 1, 1) := by decide +kernel
theorem dX7_bid_94 : decode cX7_bid 94 = .ok (.iload_n 2, 1) := by decide +kernel
theorem dX7_bid_95 : decode cX7_bid 95 = .ok (.invokevirtual 133, 3) := by decide +kernel
theorem dX7_bid_98 : decode cX7_bid 98 = .ok (.goto 8, 3) := by decide +kernel
theorem dX7_bid_101 : decode cX7_bid 101 = .ok (.aload_n 0, 1) := by decide +kernel
theorem dX7_bid_102 : decode cX7_bid 102 = .ok (.iload_n 1, 1) := by decide +kernel
theorem dX7_bid_103 : decode cX7_bid 103 = .ok (.invokevirtual 136, 3) := by decide +kernel
theorem dX7_bid_106 : decode cX7_bid 106 = .ok (.ireturn, 1) := by decide +kernel
theorem dX7_pass_0 : decode cX7_pass 0 = .ok (.aload_n 0, 1) := by decide +kernel
theorem dX7_pass_1 : decode cX7_pass 1 = .ok (.iload_n 1, 1) := by decide +kernel
theorem dX7_pass_2 : decode cX7_pass 2 = .ok (.invokevirtual 66, 3) := by decide +kernel
theorem dX7_pass_5 : decode cX7_pass 5 = .ok (.ifCond .ne 5, 3) := by decide +kernel
theorem dX7_pass_8 : decode cX7_pass 8 = .ok (.iconst (-1), 1) := by decide +kernel
theorem dX7_pass_9 : decode cX7_pass 9 = .ok (.ireturn, 1) := by decide +kernel
theorem dX7_pass_10 : decode cX7_pass 10 = .ok (.aload_n 0, 1) := by decide +kernel
theorem dX7_pass_11 : decode cX7_pass 11 = .ok (.invokevirtual 62, 3) := by decide +kernel
theorem dX7_pass_14 : decode cX7_pass 14 = .ok (.ifCond .eq 33, 3) := by decide +kernel
theorem dX7_pass_17 : decode cX7_pass 17 = .ok (.aload_n 0, 1) := by decide +kernel
theorem dX7_pass_18 : decode cX7_pass 18 = .ok (.getfield 7, 3) := by decide +kernel
theorem dX7_pass_21 : decode cX7_pass 21 = .ok (.iconst 4, 1) := by decide +kernel
theorem dX7_pass_22 : decode cX7_pass 22 = .ok (.iaload, 1) := by decide +kernel
theorem dX7_pass_23 : decode cX7_pass 23 = .ok (.iconst 1, 1) := by decide +kernel
theorem dX7_pass_24 : decode cX7_pass 24 = .ok (.if_icmp .eq 23, 3) := by decide +kernel
theorem dX7_pass_27 : decode cX7_pass 27 = .ok (.aload_n 0, 1) := by decide +kernel
theorem dX7_pass_28 : decode cX7_pass 28 = .ok (.getfield 7, 3) := by decide +kernel
theorem dX7_pass_31 : decode cX7_pass 31 = .ok (.iconst 4, 1) := by decide +kernel
theorem dX7_pass_32 : decode cX7_pass 32 = .ok (.iaload, 1) := by decide +kernel
theorem dX7_pass_33 : decode cX7_pass 33 = .ok (.ifCond .ne 17, 3) := by decide +kernel
theorem dX7_pass_36 : decode cX7_pass 36 = .ok (.aload_n 0, 1) := by decide +kernel
theorem dX7_pass_37 : decode cX7_pass 37 = .ok (.getfield 7, 3) := by decide +kernel
theorem dX7_pass_40 : decode cX7_pass 40 = .ok (.bipush 8, 2) := by decide +kernel
theorem dX7_pass_42 : decode cX7_pass 42 = .ok (.iaload, 1) := by decide +kernel
theorem dX7_pass_43 : decode cX7_pass 43 = .ok (.iload_n 1, 1) := by decide +kernel
theorem dX7_pass_44 : decode cX7_pass 44 = .ok (.if_icmp .eq 6, 3) := by decide +kernel
theorem dX7_pass_47 : decode cX7_pass 47 = .ok (.bipush (-5), 2) := by decide +kernel
theorem dX7_pass_49 : decode cX7_pass 49 = .ok (.ireturn, 1) := by decide +kernel
theorem dX7_pass_50 : decode cX7_pass 50 = .ok (.aload_n 0, 1) := by decide +kernel
theorem dX7_pass_51 : decode cX7_pass 51 = .ok (.getfield 7, 3) := by decide +kernel
theorem dX7_pass_54 : decode cX7_pass 54 = .ok (.iconst 4, 1) := by decide +kernel
theorem dX7_pass_55 : decode cX7_pass 55 = .ok (.iaload, 1) := by decide +kernel
theorem dX7_pass_56 : decode cX7_pass 56 = .ok (.ifCond .ne 11, 3) := by decide +kernel
theorem dX7_pass_59 : decode cX7_pass 59 = .ok (.aload_n 0, 1) := by decide +kernel
theorem dX7_pass_60 : decode cX7_pass 60 = .ok (.iload_n 1, 1) := by decide +kernel
theorem dX7_pass_61 : decode cX7_pass 61 = .ok (.invokevirtual 139, 3) := by decide +kernel
theorem dX7_pass_64 : decode cX7_pass 64 = .ok (.goto 7, 3) := by decide +kernel
theorem dX7_pass_67 : decode cX7_pass 67 = .ok (.aload_n 0, 1) := by decide +kernel
theorem dX7_pass_68 : decode cX7_pass 68 = .ok (.invokevirtual 142, 3) := by decide +kernel
theorem dX7_pass_71 : decode cX7_pass 71 = .ok (.ireturn, 1) := by decide +kernel
theorem dX7_sealedOf_0 : decode cX7_sealedOf 0 = .ok (.aload_n 0, 1) := by decide +kernel
theorem dX7_sealedOf_1 : decode cX7_sealedOf 1 = .ok (.iload_n 1, 1) := by decide +kernel
theorem dX7_sealedOf_2 : decode cX7_sealedOf 2 = .ok (.invokevirtual 145, 3) := by decide +kernel
theorem dX7_sealedOf_5 : decode cX7_sealedOf 5 = .ok (.iload_n 2, 1) := by decide +kernel
theorem dX7_sealedOf_6 : decode cX7_sealedOf 6 = .ok (.if_icmp .lt 11, 3) := by decide +kernel
theorem dX7_sealedOf_9 : decode cX7_sealedOf 9 = .ok (.aload_n 0, 1) := by decide +kernel
theorem dX7_sealedOf_10 : decode cX7_sealedOf 10 = .ok (.iload_n 1, 1) := by decide +kernel
theorem dX7_sealedOf_11 : decode cX7_sealedOf 11 = .ok (.invokevirtual 145, 3) := by decide +kernel
theorem dX7_sealedOf_14 : decode cX7_sealedOf 14 = .ok (.goto 4, 3) := by decide +kernel
theorem dX7_sealedOf_17 : decode cX7_sealedOf 17 = .ok (.iconst 0, 1) := by decide +kernel
theorem dX7_sealedOf_18 : decode cX7_sealedOf 18 = .ok (.ireturn, 1) := by decide +kernel
theorem dX7_moveSealed_0 : decode cX7_moveSealed 0 = .ok (.bipush (-6), 2) := by decide +kernel
theorem dX7_moveSealed_2 : decode cX7_moveSealed 2 = .ok (.istore_n 1, 1) := by decide +kernel
theorem dX7_moveSealed_3 : decode cX7_moveSealed 3 = .ok (.aload_n 0, 1) := by decide +kernel
theorem dX7_moveSealed_4 : decode cX7_moveSealed 4 = .ok (.getfield 7, 3) := by decide +kernel
theorem dX7_moveSealed_7 : decode cX7_moveSealed 7 = .ok (.iconst 0, 1) := by decide +kernel
theorem dX7_moveSealed_8 : decode cX7_moveSealed 8 = .ok (.iaload, 1) := by decide +kernel
theorem dX7_moveSealed_9 : decode cX7_moveSealed 9 = .ok (.iconst 1, 1) := by decide +kernel
theorem dX7_moveSealed_10 : decode cX7_moveSealed 10 = .ok (.isub, 1) := by decide +kernel
theorem dX7_moveSealed_11 : decode cX7_moveSealed 11 = .ok (.istore_n 2, 1) := by decide +kernel
theorem dX7_moveSealed_12 : decode cX7_moveSealed 12 = .ok (.iload_n 2, 1) := by decide +kernel
theorem dX7_moveSealed_13 : decode cX7_moveSealed 13 = .ok (.ifCond .lt 32, 3) := by decide +kernel
theorem dX7_moveSealed_16 : decode cX7_moveSealed 16 = .ok (.aload_n 0, 1) := by decide +kernel
theorem dX7_moveSealed_17 : decode cX7_moveSealed 17 = .ok (.aload_n 0, 1) := by decide +kernel
theorem dX7_moveSealed_18 : decode cX7_moveSealed 18 = .ok (.iload_n 2, 1) := by decide +kernel
theorem dX7_moveSealed_19 : decode cX7_moveSealed 19 = .ok (.invokevirtual 121, 3) := by decide +kernel
theorem dX7_moveSealed_22 : decode cX7_moveSealed 22 = .ok (.iconst 5, 1) := by decide +kernel
theorem dX7_moveSealed_23 : decode cX7_moveSealed 23 = .ok (.invokevirtual 70, 3) := by decide +kernel
theorem dX7_moveSealed_26 : decode cX7_moveSealed 26 = .ok (.ifCond .ge 11, 3) := by decide +kernel
theorem dX7_moveSealed_29 : decode cX7_moveSealed 29 = .ok (.aload_n 0, 1) := by decide +kernel
theorem dX7_moveSealed_30 : decode cX7_moveSealed 30 = .ok (.iload_n 2, 1) := by decide +kernel
theorem dX7_moveSealed_31 : decode cX7_moveSealed 31 = .ok (.invokevirtual 121, 3) := by decide +kernel
theorem dX7_moveSealed_34 : decode cX7_moveSealed 34 = .ok (.goto 4, 3) := by decide +kernel
theorem dX7_moveSealed_37 : decode cX7_moveSealed 37 = .ok (.iload_n 1, 1) := by decide +kernel
theorem dX7_moveSealed_38 : decode cX7_moveSealed 38 = .ok (.istore_n 1, 1) := by decide +kernel
theorem dX7_moveSealed_39 : decode cX7_moveSealed 39 = .ok (.iinc 2 (-1), 3) := by decide +kernel
theorem dX7_moveSealed_42 : decode cX7_moveSealed 42 = .ok (.goto (-30), 3) := by decide +kernel
theorem dX7_moveSealed_45 : decode cX7_moveSealed 45 = .ok (.aload_n 0, 1) := by decide +kernel
theorem dX7_moveSealed_46 : decode cX7_moveSealed 46 = .ok (.iload_n 1, 1) := by decide +kernel
theorem dX7_moveSealed_47 : decode cX7_moveSealed 47 = .ok (.aload_n 0, 1) := by decide +kernel
theorem dX7_moveSealed_48 : decode cX7_moveSealed 48 = .ok (.iload_n 1, 1) := by decide +kernel
theorem dX7_moveSealed_49 : decode cX7_moveSealed 49 = .ok (.aload_n 0, 1) := by decide +kernel
theorem dX7_moveSealed_50 : decode cX7_moveSealed 50 = .ok (.getfield 7, 3) := by decide +kernel
theorem dX7_moveSealed_53 : decode cX7_moveSealed 53 = .ok (.iconst 5, 1) := by decide +kernel
theorem dX7_moveSealed_54 : decode cX7_moveSealed 54 = .ok (.iaload, 1) := by decide +kernel
theorem dX7_moveSealed_55 : decode cX7_moveSealed 55 = .ok (.invokevirtual 148, 3) := by decide +kernel
theorem dX7_moveSealed_58 : decode cX7_moveSealed 58 = .ok (.invokevirtual 133, 3) := by decide +kernel
theorem dX7_moveSealed_61 : decode cX7_moveSealed 61 = .ok (.ireturn, 1) := by decide +kernel
theorem dX7_moveFalling_0 : decode cX7_moveFalling 0 = .ok (.iconst 0, 1) := by decide +kernel
theorem dX7_moveFalling_1 : decode cX7_moveFalling 1 = .ok (.istore_n 1, 1) := by decide +kernel
theorem dX7_moveFalling_2 : decode cX7_moveFalling 2 = .ok (.iload_n 1, 1) := by decide +kernel
theorem dX7_moveFalling_3 : decode cX7_moveFalling 3 = .ok (.aload_n 0, 1) := by decide +kernel
theorem dX7_moveFalling_4 : decode cX7_moveFalling 4 = .ok (.getfield 7, 3) := by decide +kernel
theorem dX7_moveFalling_7 : decode cX7_moveFalling 7 = .ok (.iconst 0, 1) := by decide +kernel
theorem dX7_moveFalling_8 : decode cX7_moveFalling 8 = .ok (.iaload, 1) := by decide +kernel
theorem dX7_moveFalling_9 : decode cX7_moveFalling 9 = .ok (.if_icmp .ge 46, 3) := by decide +kernel
theorem dX7_moveFalling_12 : decode cX7_moveFalling 12 = .ok (.aload_n 0, 1) := by decide +kernel
theorem dX7_moveFalling_13 : decode cX7_moveFalling 13 = .ok (.iload_n 1, 1) := by decide +kernel
theorem dX7_moveFalling_14 : decode cX7_moveFalling 14 = .ok (.iconst 5, 1) := by decide +kernel
theorem dX7_moveFalling_15 : decode cX7_moveFalling 15 = .ok (.invokevirtual 70, 3) := by decide +kernel
theorem dX7_moveFalling_18 : decode cX7_moveFalling 18 = .ok (.ifCond .ge 31, 3) := by decide +kernel
theorem dX7_moveFalling_21 : decode cX7_moveFalling 21 = .ok (.aload_n 0, 1) := by decide +kernel
theorem dX7_moveFalling_22 : decode cX7_moveFalling 22 = .ok (.getfield 7, 3) := by decide +kernel
theorem dX7_moveFalling_25 : decode cX7_moveFalling 25 = .ok (.iconst 5, 1) := by decide +kernel
theorem dX7_moveFalling_26 : decode cX7_moveFalling 26 = .ok (.iaload, 1) := by decide +kernel
theorem dX7_moveFalling_27 : decode cX7_moveFalling 27 = .ok (.aload_n 0, 1) := by decide +kernel
theorem dX7_moveFalling_28 : decode cX7_moveFalling 28 = .ok (.iload_n 1, 1) := by decide +kernel
theorem dX7_moveFalling_29 : decode cX7_moveFalling 29 = .ok (.invokevirtual 145, 3) := by decide +kernel
theorem dX7_moveFalling_32 : decode cX7_moveFalling 32 = .ok (.if_icmp .gt 17, 3) := by decide +kernel
theorem dX7_moveFalling_35 : decode cX7_moveFalling 35 = .ok (.aload_n 0, 1) := by decide +kernel
theorem dX7_moveFalling_36 : decode cX7_moveFalling 36 = .ok (.iload_n 1, 1) := by decide +kernel
theorem dX7_moveFalling_37 : decode cX7_moveFalling 37 = .ok (.invokevirtual 136, 3) := by decide +kernel
theorem dX7_moveFalling_40 : decode cX7_moveFalling 40 = .ok (.istore_n 2, 1) := by decide +kernel
theorem dX7_moveFalling_41 : decode cX7_moveFalling 41 = .ok (.aload_n 0, 1) := by decide +kernel
theorem dX7_moveFalling_42 : decode cX7_moveFalling 42 = .ok (.getfield 7, 3) := by decide +kernel
theorem dX7_moveFalling_45 : decode cX7_moveFalling 45 = .ok (.bipush 7, 2) := by decide +kernel
theorem dX7_moveFalling_47 : decode cX7_moveFalling 47 = .ok (.iload_n 2, 1) := by decide +kernel
theorem dX7_moveFalling_48 : decode cX7_moveFalling 48 = .ok (.iastore, 1) := by decide +kernel
theorem dX7_moveFalling_49 : decode cX7_moveFalling 49 = .ok (.iinc 1 1, 3) := by decide +kernel
theorem dX7_moveFalling_52 : decode cX7_moveFalling 52 = .ok (.goto (-50), 3) := by decide +kernel
theorem dX7_moveFalling_55 : decode cX7_moveFalling 55 = .ok (.aload_n 0, 1) := by decide +kernel
theorem dX7_moveFalling_56 : decode cX7_moveFalling 56 = .ok (.invokevirtual 142, 3) := by decide +kernel
theorem dX7_moveFalling_59 : decode cX7_moveFalling 59 = .ok (.ireturn, 1) := by decide +kernel
theorem dX7_makeMove_0 : decode cX7_makeMove 0 = .ok (.aload_n 0, 1) := by decide +kernel
theorem dX7_makeMove_1 : decode cX7_makeMove 1 = .ok (.getfield 7, 3) := by decide +kernel
theorem dX7_makeMove_4 : decode cX7_makeMove 4 = .ok (.iconst 4, 1) := by decide +kernel
theorem dX7_makeMove_5 : decode cX7_makeMove 5 = .ok (.iaload, 1) := by decide +kernel
theorem dX7_makeMove_6 : decode cX7_makeMove 6 = .ok (.lookupswitch 69 #[(0, 26), (1, 64)], 26) := by decide +kernel
theorem dX7_makeMove_32 : decode cX7_makeMove 32 = .ok (.aload_n 0, 1) := by decide +kernel
theorem dX7_makeMove_33 : decode cX7_makeMove 33 = .ok (.getfield 7, 3) := by decide +kernel
theorem dX7_makeMove_36 : decode cX7_makeMove 36 = .ok (.bipush 8, 2) := by decide +kernel
theorem dX7_makeMove_38 : decode cX7_makeMove 38 = .ok (.iaload, 1) := by decide +kernel
theorem dX7_makeMove_39 : decode cX7_makeMove 39 = .ok (.istore_n 1, 1) := by decide +kernel
theorem dX7_makeMove_40 : decode cX7_makeMove 40 = .ok (.aload_n 0, 1) := by decide +kernel
theorem dX7_makeMove_41 : decode cX7_makeMove 41 = .ok (.invokevirtual 124, 3) := by decide +kernel
theorem dX7_makeMove_44 : decode cX7_makeMove 44 = .ok (.aload_n 0, 1) := by decide +kernel
theorem dX7_makeMove_45 : decode cX7_makeMove 45 = .ok (.iload_n 1, 1) := by decide +kernel
theorem dX7_makeMove_46 : decode cX7_makeMove 46 = .ok (.invokevirtual 145, 3) := by decide +kernel
theorem dX7_makeMove_49 : decode cX7_makeMove 49 = .ok (.if_icmp .gt 15, 3) := by decide +kernel
theorem dX7_makeMove_52 : decode cX7_makeMove 52 = .ok (.aload_n 0, 1) := by decide +kernel
theorem dX7_makeMove_53 : decode cX7_makeMove 53 = .ok (.iload_n 1, 1) := by decide +kernel
theorem dX7_makeMove_54 : decode cX7_makeMove 54 = .ok (.aload_n 0, 1) := by decide +kernel
theorem dX7_makeMove_55 : decode cX7_makeMove 55 = .ok (.invokevirtual 124, 3) := by decide +kernel
theorem dX7_makeMove_58 : decode cX7_makeMove 58 = .ok (.invokevirtual 130, 3) := by decide +kernel
theorem dX7_makeMove_61 : decode cX7_makeMove 61 = .ok (.goto 8, 3) := by decide +kernel
theorem dX7_makeMove_64 : decode cX7_makeMove 64 = .ok (.aload_n 0, 1) := by decide +kernel
theorem dX7_makeMove_65 : decode cX7_makeMove 65 = .ok (.iload_n 1, 1) := by decide +kernel
theorem dX7_makeMove_66 : decode cX7_makeMove 66 = .ok (.invokevirtual 139, 3) := by decide +kernel
theorem dX7_makeMove_69 : decode cX7_makeMove 69 = .ok (.ireturn, 1) := by decide +kernel
theorem dX7_makeMove_70 : decode cX7_makeMove 70 = .ok (.aload_n 0, 1) := by decide +kernel
theorem dX7_makeMove_71 : decode cX7_makeMove 71 = .ok (.invokevirtual 151, 3) := by decide +kernel
theorem dX7_makeMove_74 : decode cX7_makeMove 74 = .ok (.ireturn, 1) := by decide +kernel
theorem dX7_makeMove_75 : decode cX7_makeMove 75 = .ok (.aload_n 0, 1) := by decide +kernel
theorem dX7_makeMove_76 : decode cX7_makeMove 76 = .ok (.invokevirtual 154, 3) := by decide +kernel
theorem dX7_makeMove_79 : decode cX7_makeMove 79 = .ok (.ireturn, 1) := by decide +kernel
theorem dX7_move_0 : decode cX7_move 0 = .ok (.aload_n 0, 1) := by decide +kernel
theorem dX7_move_1 : decode cX7_move 1 = .ok (.invokevirtual 62, 3) := by decide +kernel
theorem dX7_move_4 : decode cX7_move 4 = .ok (.ifCond .eq 10, 3) := by decide +kernel
theorem dX7_move_7 : decode cX7_move 7 = .ok (.aload_n 0, 1) := by decide +kernel
theorem dX7_move_8 : decode cX7_move 8 = .ok (.invokevirtual 157, 3) := by decide +kernel
theorem dX7_move_11 : decode cX7_move 11 = .ok (.goto 5, 3) := by decide +kernel
theorem dX7_move_14 : decode cX7_move 14 = .ok (.bipush (-5), 2) := by decide +kernel
theorem dX7_move_16 : decode cX7_move 16 = .ok (.ireturn, 1) := by decide +kernel
theorem dX7_giveLast_0 : decode cX7_giveLast 0 = .ok (.aload_n 0, 1) := by decide +kernel
theorem dX7_giveLast_1 : decode cX7_giveLast 1 = .ok (.invokevirtual 93, 3) := by decide +kernel
theorem dX7_giveLast_4 : decode cX7_giveLast 4 = .ok (.istore_n 1, 1) := by decide +kernel
theorem dX7_giveLast_5 : decode cX7_giveLast 5 = .ok (.iconst 1, 1) := by decide +kernel
theorem dX7_giveLast_6 : decode cX7_giveLast 6 = .ok (.istore_n 2, 1) := by decide +kernel
theorem dX7_giveLast_7 : decode cX7_giveLast 7 = .ok (.iload_n 2, 1) := by decide +kernel
theorem dX7_giveLast_8 : decode cX7_giveLast 8 = .ok (.aload_n 0, 1) := by decide +kernel
theorem dX7_giveLast_9 : decode cX7_giveLast 9 = .ok (.getfield 7, 3) := by decide +kernel
theorem dX7_giveLast_12 : decode cX7_giveLast 12 = .ok (.iconst 0, 1) := by decide +kernel
theorem dX7_giveLast_13 : decode cX7_giveLast 13 = .ok (.iaload, 1) := by decide +kernel
theorem dX7_giveLast_14 : decode cX7_giveLast 14 = .ok (.if_icmp .ge 38, 3) := by decide +kernel
theorem dX7_giveLast_17 : decode cX7_giveLast 17 = .ok (.aload_n 0, 1) := by decide +kernel
theorem dX7_giveLast_18 : decode cX7_giveLast 18 = .ok (.aload_n 0, 1) := by decide +kernel
theorem dX7_giveLast_19 : decode cX7_giveLast 19 = .ok (.iload_n 2, 1) := by decide +kernel
theorem dX7_giveLast_20 : decode cX7_giveLast 20 = .ok (.invokevirtual 121, 3) := by decide +kernel
theorem dX7_giveLast_23 : decode cX7_giveLast 23 = .ok (.iconst 0, 1) := by decide +kernel
theorem dX7_giveLast_24 : decode cX7_giveLast 24 = .ok (.invokevirtual 70, 3) := by decide +kernel
theorem dX7_giveLast_27 : decode cX7_giveLast 27 = .ok (.aload_n 0, 1) := by decide +kernel
theorem dX7_giveLast_28 : decode cX7_giveLast 28 = .ok (.iload_n 1, 1) := by decide +kernel
theorem dX7_giveLast_29 : decode cX7_giveLast 29 = .ok (.iconst 0, 1) := by decide +kernel
theorem dX7_giveLast_30 : decode cX7_giveLast 30 = .ok (.invokevirtual 70, 3) := by decide +kernel
theorem dX7_giveLast_33 : decode cX7_giveLast 33 = .ok (.if_icmp .ge 11, 3) := by decide +kernel
theorem dX7_giveLast_36 : decode cX7_giveLast 36 = .ok (.aload_n 0, 1) := by decide +kernel
theorem dX7_giveLast_37 : decode cX7_giveLast 37 = .ok (.iload_n 2, 1) := by decide +kernel
theorem dX7_giveLast_38 : decode cX7_giveLast 38 = .ok (.invokevirtual 121, 3) := by decide +kernel
theorem dX7_giveLast_41 : decode cX7_giveLast 41 = .ok (.goto 4, 3) := by decide +kernel
theorem dX7_giveLast_44 : decode cX7_giveLast 44 = .ok (.iload_n 1, 1) := by decide +kernel
theorem dX7_giveLast_45 : decode cX7_giveLast 45 = .ok (.istore_n 1, 1) := by decide +kernel
theorem dX7_giveLast_46 : decode cX7_giveLast 46 = .ok (.iinc 2 1, 3) := by decide +kernel
theorem dX7_giveLast_49 : decode cX7_giveLast 49 = .ok (.goto (-42), 3) := by decide +kernel
theorem dX7_giveLast_52 : decode cX7_giveLast 52 = .ok (.aload_n 0, 1) := by decide +kernel
theorem dX7_giveLast_53 : decode cX7_giveLast 53 = .ok (.iconst 1, 1) := by decide +kernel
theorem dX7_giveLast_54 : decode cX7_giveLast 54 = .ok (.iload_n 1, 1) := by decide +kernel
theorem dX7_giveLast_55 : decode cX7_giveLast 55 = .ok (.ishl, 1) := by decide +kernel
theorem dX7_giveLast_56 : decode cX7_giveLast 56 = .ok (.iconst 0, 1) := by decide +kernel
theorem dX7_giveLast_57 : decode cX7_giveLast 57 = .ok (.invokevirtual 102, 3) := by decide +kernel
theorem dX7_giveLast_60 : decode cX7_giveLast 60 = .ok (.istore_n 2, 1) := by decide +kernel
theorem dX7_giveLast_61 : decode cX7_giveLast 61 = .ok (.iload_n 2, 1) := by decide +kernel
theorem dX7_giveLast_62 : decode cX7_giveLast 62 = .ok (.ifCond .le 7, 3) := by decide +kernel
theorem dX7_giveLast_65 : decode cX7_giveLast 65 = .ok (.iload_n 1, 1) := by decide +kernel
theorem dX7_giveLast_66 : decode cX7_giveLast 66 = .ok (.goto 5, 3) := by decide +kernel
theorem dX7_giveLast_69 : decode cX7_giveLast 69 = .ok (.bipush (-6), 2) := by decide +kernel
theorem dX7_giveLast_71 : decode cX7_giveLast 71 = .ok (.ireturn, 1) := by decide +kernel
theorem dX7_last_0 : decode cX7_last 0 = .ok (.aload_n 0, 1) := by decide +kernel
theorem dX7_last_1 : decode cX7_last 1 = .ok (.invokevirtual 96, 3) := by decide +kernel
theorem dX7_last_4 : decode cX7_last 4 = .ok (.ifCond .eq 17, 3) := by decide +kernel
theorem dX7_last_7 : decode cX7_last 7 = .ok (.aload_n 0, 1) := by decide +kernel
theorem dX7_last_8 : decode cX7_last 8 = .ok (.invokevirtual 62, 3) := by decide +kernel
theorem dX7_last_11 : decode cX7_last 11 = .ok (.ifCond .ne 10, 3) := by decide +kernel
theorem dX7_last_14 : decode cX7_last 14 = .ok (.aload_n 0, 1) := by decide +kernel
theorem dX7_last_15 : decode cX7_last 15 = .ok (.invokevirtual 160, 3) := by decide +kernel
theorem dX7_last_18 : decode cX7_last 18 = .ok (.goto 5, 3) := by decide +kernel
theorem dX7_last_21 : decode cX7_last 21 = .ok (.bipush (-5), 2) := by decide +kernel
theorem dX7_last_23 : decode cX7_last 23 = .ok (.ireturn, 1) := by decide +kernel
theorem dX7_ask_0 : decode cX7_ask 0 = .ok (.aload_n 0, 1) := by decide +kernel
theorem dX7_ask_1 : decode cX7_ask 1 = .ok (.iload_n 1, 1) := by decide +kernel
theorem dX7_ask_2 : decode cX7_ask 2 = .ok (.invokevirtual 66, 3) := by decide +kernel
theorem dX7_ask_5 : decode cX7_ask 5 = .ok (.ifCond .ne 5, 3) := by decide +kernel
theorem dX7_ask_8 : decode cX7_ask 8 = .ok (.iconst (-1), 1) := by decide +kernel
theorem dX7_ask_9 : decode cX7_ask 9 = .ok (.ireturn, 1) := by decide +kernel
theorem dX7_ask_10 : decode cX7_ask 10 = .ok (.iload_n 2, 1) := by decide +kernel
theorem dX7_ask_11 : decode cX7_ask 11 = .ok (.iconst 1, 1) := by decide +kernel
theorem dX7_ask_12 : decode cX7_ask 12 = .ok (.sipush 300, 3) := by decide +kernel
theorem dX7_ask_15 : decode cX7_ask 15 = .ok (.invokestatic 43, 3) := by decide +kernel
theorem dX7_ask_18 : decode cX7_ask 18 = .ok (.ifCond .ne 6, 3) := by decide +kernel
theorem dX7_ask_21 : decode cX7_ask 21 = .ok (.bipush (-2), 2) := by decide +kernel
theorem dX7_ask_23 : decode cX7_ask 23 = .ok (.ireturn, 1) := by decide +kernel
theorem dX7_ask_24 : decode cX7_ask 24 = .ok (.aload_n 0, 1) := by decide +kernel
theorem dX7_ask_25 : decode cX7_ask 25 = .ok (.invokevirtual 62, 3) := by decide +kernel
theorem dX7_ask_28 : decode cX7_ask 28 = .ok (.ifCond .eq 6, 3) := by decide +kernel
theorem dX7_ask_31 : decode cX7_ask 31 = .ok (.bipush (-5), 2) := by decide +kernel
theorem dX7_ask_33 : decode cX7_ask 33 = .ok (.ireturn, 1) := by decide +kernel
theorem dX7_ask_34 : decode cX7_ask 34 = .ok (.aload_n 0, 1) := by decide +kernel
theorem dX7_ask_35 : decode cX7_ask 35 = .ok (.iload_n 1, 1) := by decide +kernel
theorem dX7_ask_36 : decode cX7_ask 36 = .ok (.iconst 0, 1) := by decide +kernel
theorem dX7_ask_37 : decode cX7_ask 37 = .ok (.invokevirtual 70, 3) := by decide +kernel
theorem dX7_ask_40 : decode cX7_ask 40 = .ok (.iload_n 2, 1) := by decide +kernel
theorem dX7_ask_41 : decode cX7_ask 41 = .ok (.if_icmp .lt 11, 3) := by decide +kernel
theorem dX7_ask_44 : decode cX7_ask 44 = .ok (.aload_n 0, 1) := by decide +kernel
theorem dX7_ask_45 : decode cX7_ask 45 = .ok (.iload_n 1, 1) := by decide +kernel
theorem dX7_ask_46 : decode cX7_ask 46 = .ok (.iload_n 2, 1) := by decide +kernel
theorem dX7_ask_47 : decode cX7_ask 47 = .ok (.invokevirtual 112, 3) := by decide +kernel
theorem dX7_ask_50 : decode cX7_ask 50 = .ok (.iconst 1, 1) := by decide +kernel
theorem dX7_ask_51 : decode cX7_ask 51 = .ok (.ireturn, 1) := by decide +kernel
theorem dX7_ask_52 : decode cX7_ask 52 = .ok (.aload_n 0, 1) := by decide +kernel
theorem dX7_ask_53 : decode cX7_ask 53 = .ok (.iload_n 1, 1) := by decide +kernel
theorem dX7_ask_54 : decode cX7_ask 54 = .ok (.iconst 4, 1) := by decide +kernel
theorem dX7_ask_55 : decode cX7_ask 55 = .ok (.aload_n 0, 1) := by decide +kernel
theorem dX7_ask_56 : decode cX7_ask 56 = .ok (.iload_n 1, 1) := by decide +kernel
theorem dX7_ask_57 : decode cX7_ask 57 = .ok (.iconst 4, 1) := by decide +kernel
theorem dX7_ask_58 : decode cX7_ask 58 = .ok (.invokevirtual 70, 3) := by decide +kernel
theorem dX7_ask_61 : decode cX7_ask 61 = .ok (.iload_n 2, 1) := by decide +kernel
theorem dX7_ask_62 : decode cX7_ask 62 = .ok (.iconst 1, 1) := by decide +kernel
theorem dX7_ask_63 : decode cX7_ask 63 = .ok (.isub, 1) := by decide +kernel
theorem dX7_ask_64 : decode cX7_ask 64 = .ok (.if_icmp .ge 12, 3) := by decide +kernel
theorem dX7_ask_67 : decode cX7_ask 67 = .ok (.aload_n 0, 1) := by decide +kernel
theorem dX7_ask_68 : decode cX7_ask 68 = .ok (.iload_n 1, 1) := by decide +kernel
theorem dX7_ask_69 : decode cX7_ask 69 = .ok (.iconst 4, 1) := by decide +kernel
theorem dX7_ask_70 : decode cX7_ask 70 = .ok (.invokevirtual 70, 3) := by decide +kernel
theorem dX7_ask_73 : decode cX7_ask 73 = .ok (.goto 6, 3) := by decide +kernel
theorem dX7_ask_76 : decode cX7_ask 76 = .ok (.iload_n 2, 1) := by decide +kernel
theorem dX7_ask_77 : decode cX7_ask 77 = .ok (.iconst 1, 1) := by decide +kernel
theorem dX7_ask_78 : decode cX7_ask 78 = .ok (.isub, 1) := by decide +kernel
theorem dX7_ask_79 : decode cX7_ask 79 = .ok (.invokevirtual 47, 3) := by decide +kernel
theorem dX7_ask_82 : decode cX7_ask 82 = .ok (.iconst 0, 1) := by decide +kernel
theorem dX7_ask_83 : decode cX7_ask 83 = .ok (.ireturn, 1) := by decide +kernel
theorem dX7_player_0 : decode cX7_player 0 = .ok (.aload_n 0, 1) := by decide +kernel
theorem dX7_player_1 : decode cX7_player 1 = .ok (.iload_n 1, 1) := by decide +kernel
theorem dX7_player_2 : decode cX7_player 2 = .ok (.invokevirtual 66, 3) := by decide +kernel
theorem dX7_player_5 : decode cX7_player 5 = .ok (.ifCond .ne 5, 3) := by decide +kernel
theorem dX7_player_8 : decode cX7_player 8 = .ok (.iconst (-1), 1) := by decide +kernel
theorem dX7_player_9 : decode cX7_player 9 = .ok (.ireturn, 1) := by decide +kernel
theorem dX7_player_10 : decode cX7_player 10 = .ok (.iload_n 2, 1) := by decide +kernel
theorem dX7_player_11 : decode cX7_player 11 = .ok (.tableswitch 107 0 9 #[53, 53, 53, 60, 68, 74, 80, 86, 92, 99], 53) := by decide +kernel
theorem dX7_player_64 : decode cX7_player 64 = .ok (.aload_n 0, 1) := by decide +kernel
theorem dX7_player_65 : decode cX7_player 65 = .ok (.iload_n 1, 1) := by decide +kernel
theorem dX7_player_66 : decode cX7_player 66 = .ok (.iload_n 2, 1) := by decide +kernel
theorem dX7_player_67 : decode cX7_player 67 = .ok (.invokevirtual 70, 3) := by decide +kernel
theorem dX7_player_70 : decode cX7_player 70 = .ok (.ireturn, 1) := by decide +kernel
theorem dX7_player_71 : decode cX7_player 71 = .ok (.aload_n 0, 1) := by decide +kernel
theorem dX7_player_72 : decode cX7_player 72 = .ok (.iload_n 1, 1) := by decide +kernel
theorem dX7_player_73 : decode cX7_player 73 = .ok (.bipush (-6), 2) := by decide +kernel
theorem dX7_player_75 : decode cX7_player 75 = .ok (.invokevirtual 83, 3) := by decide +kernel
theorem dX7_player_78 : decode cX7_player 78 = .ok (.ireturn, 1) := by decide +kernel
theorem dX7_player_79 : decode cX7_player 79 = .ok (.aload_n 0, 1) := by decide +kernel
theorem dX7_player_80 : decode cX7_player 80 = .ok (.iload_n 1, 1) := by decide +kernel
theorem dX7_player_81 : decode cX7_player 81 = .ok (.invokevirtual 86, 3) := by decide +kernel
theorem dX7_player_84 : decode cX7_player 84 = .ok (.ireturn, 1) := by decide +kernel
theorem dX7_player_85 : decode cX7_player 85 = .ok (.aload_n 0, 1) := by decide +kernel
theorem dX7_player_86 : decode cX7_player 86 = .ok (.iload_n 1, 1) := by decide +kernel
theorem dX7_player_87 : decode cX7_player 87 = .ok (.invokevirtual 163, 3) := by decide +kernel
theorem dX7_player_90 : decode cX7_player 90 = .ok (.ireturn, 1) := by decide +kernel
theorem dX7_player_91 : decode cX7_player 91 = .ok (.aload_n 0, 1) := by decide +kernel
theorem dX7_player_92 : decode cX7_player 92 = .ok (.iload_n 1, 1) := by decide +kernel
theorem dX7_player_93 : decode cX7_player 93 = .ok (.invokevirtual 166, 3) := by decide +kernel
theorem dX7_player_96 : decode cX7_player 96 = .ok (.ireturn, 1) := by decide +kernel
theorem dX7_player_97 : decode cX7_player 97 = .ok (.aload_n 0, 1) := by decide +kernel
theorem dX7_player_98 : decode cX7_player 98 = .ok (.iload_n 1, 1) := by decide +kernel
theorem dX7_player_99 : decode cX7_player 99 = .ok (.invokevirtual 145, 3) := by decide +kernel
theorem dX7_player_102 : decode cX7_player 102 = .ok (.ireturn, 1) := by decide +kernel
theorem dX7_player_103 : decode cX7_player 103 = .ok (.aload_n 0, 1) := by decide +kernel
theorem dX7_player_104 : decode cX7_player 104 = .ok (.iload_n 1, 1) := by decide +kernel
theorem dX7_player_105 : decode cX7_player 105 = .ok (.iconst 5, 1) := by decide +kernel
theorem dX7_player_106 : decode cX7_player 106 = .ok (.invokevirtual 70, 3) := by decide +kernel
theorem dX7_player_109 : decode cX7_player 109 = .ok (.ireturn, 1) := by decide +kernel
theorem dX7_player_110 : decode cX7_player 110 = .ok (.aload_n 0, 1) := by decide +kernel
theorem dX7_player_111 : decode cX7_player 111 = .ok (.iload_n 1, 1) := by decide +kernel
theorem dX7_player_112 : decode cX7_player 112 = .ok (.bipush 6, 2) := by decide +kernel
theorem dX7_player_114 : decode cX7_player 114 = .ok (.invokevirtual 70, 3) := by decide +kernel
theorem dX7_player_117 : decode cX7_player 117 = .ok (.ireturn, 1) := by decide +kernel
theorem dX7_player_118 : decode cX7_player 118 = .ok (.bipush (-2), 2) := by decide +kernel
theorem dX7_player_120 : decode cX7_player 120 = .ok (.ireturn, 1) := by decide +kernel
theorem dX7_about_0 : decode cX7_about 0 = .ok (.iload_n 1, 1) := by decide +kernel
theorem dX7_about_1 : decode cX7_about 1 = .ok (.iconst 0, 1) := by decide +kernel
theorem dX7_about_2 : decode cX7_about 2 = .ok (.aload_n 0, 1) := by decide +kernel
theorem dX7_about_3 : decode cX7_about 3 = .ok (.getfield 7, 3) := by decide +kernel
theorem dX7_about_6 : decode cX7_about 6 = .ok (.iconst 1, 1) := by decide +kernel
theorem dX7_about_7 : decode cX7_about 7 = .ok (.iaload, 1) := by decide +kernel
theorem dX7_about_8 : decode cX7_about 8 = .ok (.iconst 1, 1) := by decide +kernel
theorem dX7_about_9 : decode cX7_about 9 = .ok (.isub, 1) := by decide +kernel
theorem dX7_about_10 : decode cX7_about 10 = .ok (.invokestatic 43, 3) := by decide +kernel
theorem dX7_about_13 : decode cX7_about 13 = .ok (.ifCond .ne 5, 3) := by decide +kernel
theorem dX7_about_16 : decode cX7_about 16 = .ok (.iconst (-1), 1) := by decide +kernel
theorem dX7_about_17 : decode cX7_about 17 = .ok (.ireturn, 1) := by decide +kernel
theorem dX7_about_18 : decode cX7_about 18 = .ok (.iload_n 2, 1) := by decide +kernel
theorem dX7_about_19 : decode cX7_about 19 = .ok (.iconst 0, 1) := by decide +kernel
theorem dX7_about_20 : decode cX7_about 20 = .ok (.iconst 4, 1) := by decide +kernel
theorem dX7_about_21 : decode cX7_about 21 = .ok (.invokestatic 43, 3) := by decide +kernel
theorem dX7_about_24 : decode cX7_about 24 = .ok (.ifCond .eq 12, 3) := by decide +kernel
theorem dX7_about_27 : decode cX7_about 27 = .ok (.aload_n 0, 1) := by decide +kernel
theorem dX7_about_28 : decode cX7_about 28 = .ok (.iload_n 1, 1) := by decide +kernel
theorem dX7_about_29 : decode cX7_about 29 = .ok (.iload_n 2, 1) := by decide +kernel
theorem dX7_about_30 : decode cX7_about 30 = .ok (.invokevirtual 77, 3) := by decide +kernel
theorem dX7_about_33 : decode cX7_about 33 = .ok (.goto 5, 3) := by decide +kernel
theorem dX7_about_36 : decode cX7_about 36 = .ok (.bipush (-2), 2) := by decide +kernel
theorem dX7_about_38 : decode cX7_about 38 = .ok (.ireturn, 1) := by decide +kernel
theorem dX7_sumOf_0 : decode cX7_sumOf 0 = .ok (.iconst 0, 1) := by decide +kernel
theorem dX7_sumOf_1 : decode cX7_sumOf 1 = .ok (.istore_n 2, 1) := by decide +kernel
theorem dX7_sumOf_2 : decode cX7_sumOf 2 = .ok (.iconst 0, 1) := by decide +kernel
theorem dX7_sumOf_3 : decode cX7_sumOf 3 = .ok (.istore_n 3, 1) := by decide +kernel
theorem dX7_sumOf_4 : decode cX7_sumOf 4 = .ok (.iload_n 3, 1) := by decide +kernel
theorem dX7_sumOf_5 : decode cX7_sumOf 5 = .ok (.aload_n 0, 1) := by decide +kernel
theorem dX7_sumOf_6 : decode cX7_sumOf 6 = .ok (.getfield 7, 3) := by decide +kernel
theorem dX7_sumOf_9 : decode cX7_sumOf 9 = .ok (.iconst 0, 1) := by decide +kernel
theorem dX7_sumOf_10 : decode cX7_sumOf 10 = .ok (.iaload, 1) := by decide +kernel
theorem dX7_sumOf_11 : decode cX7_sumOf 11 = .ok (.if_icmp .ge 18, 3) := by decide +kernel
theorem dX7_sumOf_14 : decode cX7_sumOf 14 = .ok (.iload_n 2, 1) := by decide +kernel
theorem dX7_sumOf_15 : decode cX7_sumOf 15 = .ok (.aload_n 0, 1) := by decide +kernel
theorem dX7_sumOf_16 : decode cX7_sumOf 16 = .ok (.iload_n 3, 1) := by decide +kernel
theorem dX7_sumOf_17 : decode cX7_sumOf 17 = .ok (.iload_n 1, 1) := by decide +kernel
theorem dX7_sumOf_18 : decode cX7_sumOf 18 = .ok (.invokevirtual 70, 3) := by decide +kernel
theorem dX7_sumOf_21 : decode cX7_sumOf 21 = .ok (.iadd, 1) := by decide +kernel
theorem dX7_sumOf_22 : decode cX7_sumOf 22 = .ok (.istore_n 2, 1) := by decide +kernel
theorem dX7_sumOf_23 : decode cX7_sumOf 23 = .ok (.iinc 3 1, 3) := by decide +kernel
theorem dX7_sumOf_26 : decode cX7_sumOf 26 = .ok (.goto (-22), 3) := by decide +kernel
theorem dX7_sumOf_29 : decode cX7_sumOf 29 = .ok (.iload_n 2, 1) := by decide +kernel
theorem dX7_sumOf_30 : decode cX7_sumOf 30 = .ok (.ireturn, 1) := by decide +kernel
theorem dX7_shownPrice_0 : decode cX7_shownPrice 0 = .ok (.aload_n 0, 1) := by decide +kernel
theorem dX7_shownPrice_1 : decode cX7_shownPrice 1 = .ok (.getfield 7, 3) := by decide +kernel
theorem dX7_shownPrice_4 : decode cX7_shownPrice 4 = .ok (.iconst 4, 1) := by decide +kernel
theorem dX7_shownPrice_5 : decode cX7_shownPrice 5 = .ok (.iaload, 1) := by decide +kernel
theorem dX7_shownPrice_6 : decode cX7_shownPrice 6 = .ok (.ifCond .ne 13, 3) := by decide +kernel
theorem dX7_shownPrice_9 : decode cX7_shownPrice 9 = .ok (.aload_n 0, 1) := by decide +kernel
theorem dX7_shownPrice_10 : decode cX7_shownPrice 10 = .ok (.getfield 7, 3) := by decide +kernel
theorem dX7_shownPrice_13 : decode cX7_shownPrice 13 = .ok (.bipush 6, 2) := by decide +kernel
theorem dX7_shownPrice_15 : decode cX7_shownPrice 15 = .ok (.iaload, 1) := by decide +kernel
theorem dX7_shownPrice_16 : decode cX7_shownPrice 16 = .ok (.goto 24, 3) := by decide +kernel
theorem dX7_shownPrice_19 : decode cX7_shownPrice 19 = .ok (.aload_n 0, 1) := by decide +kernel
theorem dX7_shownPrice_20 : decode cX7_shownPrice 20 = .ok (.getfield 7, 3) := by decide +kernel
theorem dX7_shownPrice_23 : decode cX7_shownPrice 23 = .ok (.iconst 4, 1) := by decide +kernel
theorem dX7_shownPrice_24 : decode cX7_shownPrice 24 = .ok (.iaload, 1) := by decide +kernel
theorem dX7_shownPrice_25 : decode cX7_shownPrice 25 = .ok (.iconst 2, 1) := by decide +kernel
theorem dX7_shownPrice_26 : decode cX7_shownPrice 26 = .ok (.if_icmp .ne 12, 3) := by decide +kernel
theorem dX7_shownPrice_29 : decode cX7_shownPrice 29 = .ok (.aload_n 0, 1) := by decide +kernel
theorem dX7_shownPrice_30 : decode cX7_shownPrice 30 = .ok (.getfield 7, 3) := by decide +kernel
theorem dX7_shownPrice_33 : decode cX7_shownPrice 33 = .ok (.iconst 5, 1) := by decide +kernel
theorem dX7_shownPrice_34 : decode cX7_shownPrice 34 = .ok (.iaload, 1) := by decide +kernel
theorem dX7_shownPrice_35 : decode cX7_shownPrice 35 = .ok (.goto 5, 3) := by decide +kernel
theorem dX7_shownPrice_38 : decode cX7_shownPrice 38 = .ok (.bipush (-6), 2) := by decide +kernel
theorem dX7_shownPrice_40 : decode cX7_shownPrice 40 = .ok (.ireturn, 1) := by decide +kernel
theorem dX7_ofAuction_0 : decode cX7_ofAuction 0 = .ok (.iload_n 1, 1) := by decide +kernel
theorem dX7_ofAuction_1 : decode cX7_ofAuction 1 = .ok (.tableswitch 73 5 8 #[31, 38, 43, 65], 31) := by decide +kernel
theorem dX7_ofAuction_32 : decode cX7_ofAuction 32 = .ok (.aload_n 0, 1) := by decide +kernel
theorem dX7_ofAuction_33 : decode cX7_ofAuction 33 = .ok (.getfield 7, 3) := by decide +kernel
theorem dX7_ofAuction_36 : decode cX7_ofAuction 36 = .ok (.iconst 4, 1) := by decide +kernel
theorem dX7_ofAuction_37 : decode cX7_ofAuction 37 = .ok (.iaload, 1) := by decide +kernel
theorem dX7_ofAuction_38 : decode cX7_ofAuction 38 = .ok (.ireturn, 1) := by decide +kernel
theorem dX7_ofAuction_39 : decode cX7_ofAuction 39 = .ok (.aload_n 0, 1) := by decide +kernel
theorem dX7_ofAuction_40 : decode cX7_ofAuction 40 = .ok (.invokevirtual 169, 3) := by decide +kernel
theorem dX7_ofAuction_43 : decode cX7_ofAuction 43 = .ok (.ireturn, 1) := by decide +kernel
theorem dX7_ofAuction_44 : decode cX7_ofAuction 44 = .ok (.aload_n 0, 1) := by decide +kernel
theorem dX7_ofAuction_45 : decode cX7_ofAuction 45 = .ok (.getfield 7, 3) := by decide +kernel
theorem dX7_ofAuction_48 : decode cX7_ofAuction 48 = .ok (.iconst 4, 1) := by decide +kernel
theorem dX7_ofAuction_49 : decode cX7_ofAuction 49 = .ok (.iaload, 1) := by decide +kernel
theorem dX7_ofAuction_50 : decode cX7_ofAuction 50 = .ok (.ifCond .ne 13, 3) := by decide +kernel
theorem dX7_ofAuction_53 : decode cX7_ofAuction 53 = .ok (.aload_n 0, 1) := by decide +kernel
theorem dX7_ofAuction_54 : decode cX7_ofAuction 54 = .ok (.getfield 7, 3) := by decide +kernel
theorem dX7_ofAuction_57 : decode cX7_ofAuction 57 = .ok (.bipush 7, 2) := by decide +kernel
end
section
theorem dX7_ofAuction_59 : decode cX7_ofAuction 59 = .ok (.iaload, 1) := by decide +kernel
theorem dX7_ofAuction_60 : decode cX7_ofAuction 60 = .ok (.goto 5, 3) := by decide +kernel
theorem dX7_ofAuction_63 : decode cX7_ofAuction 63 = .ok (.bipush (-6), 2) := by decide +kernel
theorem dX7_ofAuction_65 : decode cX7_ofAuction 65 = .ok (.ireturn, 1) := by decide +kernel
theorem dX7_ofAuction_66 : decode cX7_ofAuction 66 = .ok (.aload_n 0, 1) := by decide +kernel
theorem dX7_ofAuction_67 : decode cX7_ofAuction 67 = .ok (.getfield 7, 3) := by decide +kernel
theorem dX7_ofAuction_70 : decode cX7_ofAuction 70 = .ok (.bipush 8, 2) := by decide +kernel
theorem dX7_ofAuction_72 : decode cX7_ofAuction 72 = .ok (.iaload, 1) := by decide +kernel
theorem dX7_ofAuction_73 : decode cX7_ofAuction 73 = .ok (.ireturn, 1) := by decide +kernel
theorem dX7_ofAuction_74 : decode cX7_ofAuction 74 = .ok (.aload_n 0, 1) := by decide +kernel
theorem dX7_ofAuction_75 : decode cX7_ofAuction 75 = .ok (.getfield 7, 3) := by decide +kernel
theorem dX7_ofAuction_78 : decode cX7_ofAuction 78 = .ok (.bipush 9, 2) := by decide +kernel
theorem dX7_ofAuction_80 : decode cX7_ofAuction 80 = .ok (.iaload, 1) := by decide +kernel
theorem dX7_ofAuction_81 : decode cX7_ofAuction 81 = .ok (.ireturn, 1) := by decide +kernel
theorem dX7_count_0 : decode cX7_count 0 = .ok (.iload_n 1, 1) := by decide +kernel
theorem dX7_count_1 : decode cX7_count 1 = .ok (.iconst 5, 1) := by decide +kernel
theorem dX7_count_2 : decode cX7_count 2 = .ok (.bipush 9, 2) := by decide +kernel
theorem dX7_count_4 : decode cX7_count 4 = .ok (.invokestatic 43, 3) := by decide +kernel
theorem dX7_count_7 : decode cX7_count 7 = .ok (.ifCond .eq 21, 3) := by decide +kernel
theorem dX7_count_10 : decode cX7_count 10 = .ok (.aload_n 0, 1) := by decide +kernel
theorem dX7_count_11 : decode cX7_count 11 = .ok (.invokevirtual 62, 3) := by decide +kernel
theorem dX7_count_14 : decode cX7_count 14 = .ok (.ifCond .eq 11, 3) := by decide +kernel
theorem dX7_count_17 : decode cX7_count 17 = .ok (.aload_n 0, 1) := by decide +kernel
theorem dX7_count_18 : decode cX7_count 18 = .ok (.iload_n 1, 1) := by decide +kernel
theorem dX7_count_19 : decode cX7_count 19 = .ok (.invokevirtual 172, 3) := by decide +kernel
theorem dX7_count_22 : decode cX7_count 22 = .ok (.goto 5, 3) := by decide +kernel
theorem dX7_count_25 : decode cX7_count 25 = .ok (.bipush (-6), 2) := by decide +kernel
theorem dX7_count_27 : decode cX7_count 27 = .ok (.ireturn, 1) := by decide +kernel
theorem dX7_count_28 : decode cX7_count 28 = .ok (.iload_n 1, 1) := by decide +kernel
theorem dX7_count_29 : decode cX7_count 29 = .ok (.bipush 13, 2) := by decide +kernel
theorem dX7_count_31 : decode cX7_count 31 = .ok (.bipush 18, 2) := by decide +kernel
theorem dX7_count_33 : decode cX7_count 33 = .ok (.invokestatic 43, 3) := by decide +kernel
theorem dX7_count_36 : decode cX7_count 36 = .ok (.ifCond .eq 12, 3) := by decide +kernel
theorem dX7_count_39 : decode cX7_count 39 = .ok (.aload_n 0, 1) := by decide +kernel
theorem dX7_count_40 : decode cX7_count 40 = .ok (.iload_n 1, 1) := by decide +kernel
theorem dX7_count_41 : decode cX7_count 41 = .ok (.bipush 13, 2) := by decide +kernel
theorem dX7_count_43 : decode cX7_count 43 = .ok (.isub, 1) := by decide +kernel
theorem dX7_count_44 : decode cX7_count 44 = .ok (.invokevirtual 51, 3) := by decide +kernel
theorem dX7_count_47 : decode cX7_count 47 = .ok (.ireturn, 1) := by decide +kernel
theorem dX7_count_48 : decode cX7_count 48 = .ok (.iload_n 1, 1) := by decide +kernel
theorem dX7_count_49 : decode cX7_count 49 = .ok (.tableswitch 115 0 12 #[67, 74, 81, 86, 91, 115, 115, 115, 115, 115, 98, 104, 110], 67) := by decide +kernel
theorem dX7_count_116 : decode cX7_count 116 = .ok (.aload_n 0, 1) := by decide +kernel
theorem dX7_count_117 : decode cX7_count 117 = .ok (.getfield 7, 3) := by decide +kernel
theorem dX7_count_120 : decode cX7_count 120 = .ok (.iconst 0, 1) := by decide +kernel
theorem dX7_count_121 : decode cX7_count 121 = .ok (.iaload, 1) := by decide +kernel
theorem dX7_count_122 : decode cX7_count 122 = .ok (.ireturn, 1) := by decide +kernel
theorem dX7_count_123 : decode cX7_count 123 = .ok (.aload_n 0, 1) := by decide +kernel
theorem dX7_count_124 : decode cX7_count 124 = .ok (.getfield 7, 3) := by decide +kernel
theorem dX7_count_127 : decode cX7_count 127 = .ok (.iconst 1, 1) := by decide +kernel
theorem dX7_count_128 : decode cX7_count 128 = .ok (.iaload, 1) := by decide +kernel
theorem dX7_count_129 : decode cX7_count 129 = .ok (.ireturn, 1) := by decide +kernel
theorem dX7_count_130 : decode cX7_count 130 = .ok (.aload_n 0, 1) := by decide +kernel
theorem dX7_count_131 : decode cX7_count 131 = .ok (.invokevirtual 89, 3) := by decide +kernel
theorem dX7_count_134 : decode cX7_count 134 = .ok (.ireturn, 1) := by decide +kernel
theorem dX7_count_135 : decode cX7_count 135 = .ok (.aload_n 0, 1) := by decide +kernel
theorem dX7_count_136 : decode cX7_count 136 = .ok (.invokevirtual 93, 3) := by decide +kernel
theorem dX7_count_139 : decode cX7_count 139 = .ok (.ireturn, 1) := by decide +kernel
theorem dX7_count_140 : decode cX7_count 140 = .ok (.aload_n 0, 1) := by decide +kernel
theorem dX7_count_141 : decode cX7_count 141 = .ok (.getfield 7, 3) := by decide +kernel
theorem dX7_count_144 : decode cX7_count 144 = .ok (.iconst 3, 1) := by decide +kernel
theorem dX7_count_145 : decode cX7_count 145 = .ok (.iaload, 1) := by decide +kernel
theorem dX7_count_146 : decode cX7_count 146 = .ok (.ireturn, 1) := by decide +kernel
theorem dX7_count_147 : decode cX7_count 147 = .ok (.aload_n 0, 1) := by decide +kernel
theorem dX7_count_148 : decode cX7_count 148 = .ok (.iconst 0, 1) := by decide +kernel
theorem dX7_count_149 : decode cX7_count 149 = .ok (.invokevirtual 175, 3) := by decide +kernel
theorem dX7_count_152 : decode cX7_count 152 = .ok (.ireturn, 1) := by decide +kernel
theorem dX7_count_153 : decode cX7_count 153 = .ok (.aload_n 0, 1) := by decide +kernel
theorem dX7_count_154 : decode cX7_count 154 = .ok (.iconst 2, 1) := by decide +kernel
theorem dX7_count_155 : decode cX7_count 155 = .ok (.invokevirtual 175, 3) := by decide +kernel
theorem dX7_count_158 : decode cX7_count 158 = .ok (.ireturn, 1) := by decide +kernel
theorem dX7_count_159 : decode cX7_count 159 = .ok (.aload_n 0, 1) := by decide +kernel
theorem dX7_count_160 : decode cX7_count 160 = .ok (.getfield 178, 3) := by decide +kernel
theorem dX7_count_163 : decode cX7_count 163 = .ok (.ireturn, 1) := by decide +kernel
theorem dX7_count_164 : decode cX7_count 164 = .ok (.bipush (-2), 2) := by decide +kernel
theorem dX7_count_166 : decode cX7_count 166 = .ok (.ireturn, 1) := by decide +kernel
theorem dX7_layWays_0 : decode cX7_layWays 0 = .ok (.iconst 0, 1) := by decide +kernel
theorem dX7_layWays_1 : decode cX7_layWays 1 = .ok (.istore_n 2, 1) := by decide +kernel
theorem dX7_layWays_2 : decode cX7_layWays 2 = .ok (.iload_n 2, 1) := by decide +kernel
theorem dX7_layWays_3 : decode cX7_layWays 3 = .ok (.sipush 1801, 3) := by decide +kernel
theorem dX7_layWays_6 : decode cX7_layWays 6 = .ok (.if_icmp .ge 24, 3) := by decide +kernel
theorem dX7_layWays_9 : decode cX7_layWays 9 = .ok (.aload_n 0, 1) := by decide +kernel
theorem dX7_layWays_10 : decode cX7_layWays 10 = .ok (.getfield 29, 3) := by decide +kernel
theorem dX7_layWays_13 : decode cX7_layWays 13 = .ok (.iload_n 2, 1) := by decide +kernel
theorem dX7_layWays_14 : decode cX7_layWays 14 = .ok (.iload_n 2, 1) := by decide +kernel
theorem dX7_layWays_15 : decode cX7_layWays 15 = .ok (.ifCond .ne 7, 3) := by decide +kernel
theorem dX7_layWays_18 : decode cX7_layWays 18 = .ok (.lconst 1, 1) := by decide +kernel
theorem dX7_layWays_19 : decode cX7_layWays 19 = .ok (.goto 4, 3) := by decide +kernel
theorem dX7_layWays_22 : decode cX7_layWays 22 = .ok (.lconst 0, 1) := by decide +kernel
theorem dX7_layWays_23 : decode cX7_layWays 23 = .ok (.lastore, 1) := by decide +kernel
theorem dX7_layWays_24 : decode cX7_layWays 24 = .ok (.iinc 2 1, 3) := by decide +kernel
theorem dX7_layWays_27 : decode cX7_layWays 27 = .ok (.goto (-25), 3) := by decide +kernel
theorem dX7_layWays_30 : decode cX7_layWays 30 = .ok (.iconst 0, 1) := by decide +kernel
theorem dX7_layWays_31 : decode cX7_layWays 31 = .ok (.istore_n 2, 1) := by decide +kernel
theorem dX7_layWays_32 : decode cX7_layWays 32 = .ok (.iload_n 2, 1) := by decide +kernel
theorem dX7_layWays_33 : decode cX7_layWays 33 = .ok (.aload_n 0, 1) := by decide +kernel
theorem dX7_layWays_34 : decode cX7_layWays 34 = .ok (.getfield 7, 3) := by decide +kernel
theorem dX7_layWays_37 : decode cX7_layWays 37 = .ok (.iconst 0, 1) := by decide +kernel
theorem dX7_layWays_38 : decode cX7_layWays 38 = .ok (.iaload, 1) := by decide +kernel
theorem dX7_layWays_39 : decode cX7_layWays 39 = .ok (.if_icmp .ge 30, 3) := by decide +kernel
theorem dX7_layWays_42 : decode cX7_layWays 42 = .ok (.iload_n 2, 1) := by decide +kernel
theorem dX7_layWays_43 : decode cX7_layWays 43 = .ok (.iload_n 1, 1) := by decide +kernel
theorem dX7_layWays_44 : decode cX7_layWays 44 = .ok (.if_icmp .eq 19, 3) := by decide +kernel
theorem dX7_layWays_47 : decode cX7_layWays 47 = .ok (.aload_n 0, 1) := by decide +kernel
theorem dX7_layWays_48 : decode cX7_layWays 48 = .ok (.aload_n 0, 1) := by decide +kernel
theorem dX7_layWays_49 : decode cX7_layWays 49 = .ok (.iload_n 2, 1) := by decide +kernel
theorem dX7_layWays_50 : decode cX7_layWays 50 = .ok (.iconst 3, 1) := by decide +kernel
theorem dX7_layWays_51 : decode cX7_layWays 51 = .ok (.invokevirtual 70, 3) := by decide +kernel
theorem dX7_layWays_54 : decode cX7_layWays 54 = .ok (.aload_n 0, 1) := by decide +kernel
theorem dX7_layWays_55 : decode cX7_layWays 55 = .ok (.iload_n 2, 1) := by decide +kernel
theorem dX7_layWays_56 : decode cX7_layWays 56 = .ok (.iconst 4, 1) := by decide +kernel
theorem dX7_layWays_57 : decode cX7_layWays 57 = .ok (.invokevirtual 70, 3) := by decide +kernel
theorem dX7_layWays_60 : decode cX7_layWays 60 = .ok (.invokevirtual 182, 3) := by decide +kernel
theorem dX7_layWays_63 : decode cX7_layWays 63 = .ok (.iinc 2 1, 3) := by decide +kernel
theorem dX7_layWays_66 : decode cX7_layWays 66 = .ok (.goto (-34), 3) := by decide +kernel
theorem dX7_layWays_69 : decode cX7_layWays 69 = .ok (.return_, 1) := by decide +kernel
theorem dX7_addPurse_0 : decode cX7_addPurse 0 = .ok (.iconst 0, 1) := by decide +kernel
theorem dX7_addPurse_1 : decode cX7_addPurse 1 = .ok (.istore_n 3, 1) := by decide +kernel
theorem dX7_addPurse_2 : decode cX7_addPurse 2 = .ok (.iload_n 3, 1) := by decide +kernel
theorem dX7_addPurse_3 : decode cX7_addPurse 3 = .ok (.sipush 1801, 3) := by decide +kernel
theorem dX7_addPurse_6 : decode cX7_addPurse 6 = .ok (.if_icmp .ge 21, 3) := by decide +kernel
theorem dX7_addPurse_9 : decode cX7_addPurse 9 = .ok (.aload_n 0, 1) := by decide +kernel
theorem dX7_addPurse_10 : decode cX7_addPurse 10 = .ok (.getfield 33, 3) := by decide +kernel
theorem dX7_addPurse_13 : decode cX7_addPurse 13 = .ok (.iload_n 3, 1) := by decide +kernel
theorem dX7_addPurse_14 : decode cX7_addPurse 14 = .ok (.aload_n 0, 1) := by decide +kernel
theorem dX7_addPurse_15 : decode cX7_addPurse 15 = .ok (.getfield 29, 3) := by decide +kernel
theorem dX7_addPurse_18 : decode cX7_addPurse 18 = .ok (.iload_n 3, 1) := by decide +kernel
theorem dX7_addPurse_19 : decode cX7_addPurse 19 = .ok (.laload, 1) := by decide +kernel
theorem dX7_addPurse_20 : decode cX7_addPurse 20 = .ok (.lastore, 1) := by decide +kernel
theorem dX7_addPurse_21 : decode cX7_addPurse 21 = .ok (.iinc 3 1, 3) := by decide +kernel
theorem dX7_addPurse_24 : decode cX7_addPurse 24 = .ok (.goto (-22), 3) := by decide +kernel
theorem dX7_addPurse_27 : decode cX7_addPurse 27 = .ok (.lconst 0, 1) := by decide +kernel
theorem dX7_addPurse_28 : decode cX7_addPurse 28 = .ok (.lstore_n 3, 1) := by decide +kernel
theorem dX7_addPurse_29 : decode cX7_addPurse 29 = .ok (.iconst 0, 1) := by decide +kernel
theorem dX7_addPurse_30 : decode cX7_addPurse 30 = .ok (.istore 5, 2) := by decide +kernel
theorem dX7_addPurse_32 : decode cX7_addPurse 32 = .ok (.iload 5, 2) := by decide +kernel
theorem dX7_addPurse_34 : decode cX7_addPurse 34 = .ok (.sipush 1801, 3) := by decide +kernel
theorem dX7_addPurse_37 : decode cX7_addPurse 37 = .ok (.if_icmp .ge 63, 3) := by decide +kernel
theorem dX7_addPurse_40 : decode cX7_addPurse 40 = .ok (.lload_n 3, 1) := by decide +kernel
theorem dX7_addPurse_41 : decode cX7_addPurse 41 = .ok (.iload 5, 2) := by decide +kernel
theorem dX7_addPurse_43 : decode cX7_addPurse 43 = .ok (.iload_n 1, 1) := by decide +kernel
theorem dX7_addPurse_44 : decode cX7_addPurse 44 = .ok (.if_icmp .lt 15, 3) := by decide +kernel
theorem dX7_addPurse_47 : decode cX7_addPurse 47 = .ok (.aload_n 0, 1) := by decide +kernel
theorem dX7_addPurse_48 : decode cX7_addPurse 48 = .ok (.getfield 33, 3) := by decide +kernel
theorem dX7_addPurse_51 : decode cX7_addPurse 51 = .ok (.iload 5, 2) := by decide +kernel
theorem dX7_addPurse_53 : decode cX7_addPurse 53 = .ok (.iload_n 1, 1) := by decide +kernel
theorem dX7_addPurse_54 : decode cX7_addPurse 54 = .ok (.isub, 1) := by decide +kernel
theorem dX7_addPurse_55 : decode cX7_addPurse 55 = .ok (.laload, 1) := by decide +kernel
theorem dX7_addPurse_56 : decode cX7_addPurse 56 = .ok (.goto 4, 3) := by decide +kernel
theorem dX7_addPurse_59 : decode cX7_addPurse 59 = .ok (.lconst 0, 1) := by decide +kernel
theorem dX7_addPurse_60 : decode cX7_addPurse 60 = .ok (.ladd, 1) := by decide +kernel
theorem dX7_addPurse_61 : decode cX7_addPurse 61 = .ok (.lstore_n 3, 1) := by decide +kernel
theorem dX7_addPurse_62 : decode cX7_addPurse 62 = .ok (.lload_n 3, 1) := by decide +kernel
theorem dX7_addPurse_63 : decode cX7_addPurse 63 = .ok (.iload 5, 2) := by decide +kernel
theorem dX7_addPurse_65 : decode cX7_addPurse 65 = .ok (.iload_n 2, 1) := by decide +kernel
theorem dX7_addPurse_66 : decode cX7_addPurse 66 = .ok (.if_icmp .le 17, 3) := by decide +kernel
theorem dX7_addPurse_69 : decode cX7_addPurse 69 = .ok (.aload_n 0, 1) := by decide +kernel
theorem dX7_addPurse_70 : decode cX7_addPurse 70 = .ok (.getfield 33, 3) := by decide +kernel
theorem dX7_addPurse_73 : decode cX7_addPurse 73 = .ok (.iload 5, 2) := by decide +kernel
theorem dX7_addPurse_75 : decode cX7_addPurse 75 = .ok (.iload_n 2, 1) := by decide +kernel
theorem dX7_addPurse_76 : decode cX7_addPurse 76 = .ok (.isub, 1) := by decide +kernel
theorem dX7_addPurse_77 : decode cX7_addPurse 77 = .ok (.iconst 1, 1) := by decide +kernel
theorem dX7_addPurse_78 : decode cX7_addPurse 78 = .ok (.isub, 1) := by decide +kernel
theorem dX7_addPurse_79 : decode cX7_addPurse 79 = .ok (.laload, 1) := by decide +kernel
theorem dX7_addPurse_80 : decode cX7_addPurse 80 = .ok (.goto 4, 3) := by decide +kernel
theorem dX7_addPurse_83 : decode cX7_addPurse 83 = .ok (.lconst 0, 1) := by decide +kernel
theorem dX7_addPurse_84 : decode cX7_addPurse 84 = .ok (.lsub, 1) := by decide +kernel
theorem dX7_addPurse_85 : decode cX7_addPurse 85 = .ok (.lstore_n 3, 1) := by decide +kernel
theorem dX7_addPurse_86 : decode cX7_addPurse 86 = .ok (.aload_n 0, 1) := by decide +kernel
theorem dX7_addPurse_87 : decode cX7_addPurse 87 = .ok (.getfield 29, 3) := by decide +kernel
theorem dX7_addPurse_90 : decode cX7_addPurse 90 = .ok (.iload 5, 2) := by decide +kernel
theorem dX7_addPurse_92 : decode cX7_addPurse 92 = .ok (.lload_n 3, 1) := by decide +kernel
theorem dX7_addPurse_93 : decode cX7_addPurse 93 = .ok (.lastore, 1) := by decide +kernel
theorem dX7_addPurse_94 : decode cX7_addPurse 94 = .ok (.iinc 5 1, 3) := by decide +kernel
theorem dX7_addPurse_97 : decode cX7_addPurse 97 = .ok (.goto (-65), 3) := by decide +kernel
theorem dX7_addPurse_100 : decode cX7_addPurse 100 = .ok (.return_, 1) := by decide +kernel
theorem dX7_ways_0 : decode cX7_ways 0 = .ok (.aload_n 0, 1) := by decide +kernel
theorem dX7_ways_1 : decode cX7_ways 1 = .ok (.bipush (-6), 2) := by decide +kernel
theorem dX7_ways_3 : decode cX7_ways 3 = .ok (.invokevirtual 185, 3) := by decide +kernel
theorem dX7_ways_6 : decode cX7_ways 6 = .ok (.aload_n 0, 1) := by decide +kernel
theorem dX7_ways_7 : decode cX7_ways 7 = .ok (.getfield 29, 3) := by decide +kernel
theorem dX7_ways_10 : decode cX7_ways 10 = .ok (.aload_n 0, 1) := by decide +kernel
theorem dX7_ways_11 : decode cX7_ways 11 = .ok (.iconst 0, 1) := by decide +kernel
theorem dX7_ways_12 : decode cX7_ways 12 = .ok (.invokevirtual 175, 3) := by decide +kernel
theorem dX7_ways_15 : decode cX7_ways 15 = .ok (.laload, 1) := by decide +kernel
theorem dX7_ways_16 : decode cX7_ways 16 = .ok (.lreturn, 1) := by decide +kernel
theorem dX7_extreme_0 : decode cX7_extreme 0 = .ok (.aload_n 0, 1) := by decide +kernel
theorem dX7_extreme_1 : decode cX7_extreme 1 = .ok (.iconst 0, 1) := by decide +kernel
theorem dX7_extreme_2 : decode cX7_extreme 2 = .ok (.invokevirtual 175, 3) := by decide +kernel
theorem dX7_extreme_5 : decode cX7_extreme 5 = .ok (.istore_n 3, 1) := by decide +kernel
theorem dX7_extreme_6 : decode cX7_extreme 6 = .ok (.iconst 0, 1) := by decide +kernel
theorem dX7_extreme_7 : decode cX7_extreme 7 = .ok (.istore 4, 2) := by decide +kernel
theorem dX7_extreme_9 : decode cX7_extreme 9 = .ok (.iload 4, 2) := by decide +kernel
theorem dX7_extreme_11 : decode cX7_extreme 11 = .ok (.aload_n 0, 1) := by decide +kernel
theorem dX7_extreme_12 : decode cX7_extreme 12 = .ok (.getfield 7, 3) := by decide +kernel
theorem dX7_extreme_15 : decode cX7_extreme 15 = .ok (.iconst 0, 1) := by decide +kernel
theorem dX7_extreme_16 : decode cX7_extreme 16 = .ok (.iaload, 1) := by decide +kernel
theorem dX7_extreme_17 : decode cX7_extreme 17 = .ok (.if_icmp .ge 37, 3) := by decide +kernel
theorem dX7_extreme_20 : decode cX7_extreme 20 = .ok (.iload_n 3, 1) := by decide +kernel
theorem dX7_extreme_21 : decode cX7_extreme 21 = .ok (.iload 4, 2) := by decide +kernel
theorem dX7_extreme_23 : decode cX7_extreme 23 = .ok (.iload_n 1, 1) := by decide +kernel
theorem dX7_extreme_24 : decode cX7_extreme 24 = .ok (.if_icmp .ne 7, 3) := by decide +kernel
theorem dX7_extreme_27 : decode cX7_extreme 27 = .ok (.iconst 0, 1) := by decide +kernel
theorem dX7_extreme_28 : decode cX7_extreme 28 = .ok (.goto 18, 3) := by decide +kernel
theorem dX7_extreme_31 : decode cX7_extreme 31 = .ok (.aload_n 0, 1) := by decide +kernel
theorem dX7_extreme_32 : decode cX7_extreme 32 = .ok (.iload 4, 2) := by decide +kernel
theorem dX7_extreme_34 : decode cX7_extreme 34 = .ok (.iload_n 2, 1) := by decide +kernel
theorem dX7_extreme_35 : decode cX7_extreme 35 = .ok (.ifCond .eq 7, 3) := by decide +kernel
theorem dX7_extreme_38 : decode cX7_extreme 38 = .ok (.iconst 4, 1) := by decide +kernel
theorem dX7_extreme_39 : decode cX7_extreme 39 = .ok (.goto 4, 3) := by decide +kernel
theorem dX7_extreme_42 : decode cX7_extreme 42 = .ok (.iconst 3, 1) := by decide +kernel
theorem dX7_extreme_43 : decode cX7_extreme 43 = .ok (.invokevirtual 70, 3) := by decide +kernel
theorem dX7_extreme_46 : decode cX7_extreme 46 = .ok (.isub, 1) := by decide +kernel
theorem dX7_extreme_47 : decode cX7_extreme 47 = .ok (.istore_n 3, 1) := by decide +kernel
theorem dX7_extreme_48 : decode cX7_extreme 48 = .ok (.iinc 4 1, 3) := by decide +kernel
theorem dX7_extreme_51 : decode cX7_extreme 51 = .ok (.goto (-42), 3) := by decide +kernel
theorem dX7_extreme_54 : decode cX7_extreme 54 = .ok (.aload_n 0, 1) := by decide +kernel
theorem dX7_extreme_55 : decode cX7_extreme 55 = .ok (.iload_n 1, 1) := by decide +kernel
theorem dX7_extreme_56 : decode cX7_extreme 56 = .ok (.iload_n 2, 1) := by decide +kernel
theorem dX7_extreme_57 : decode cX7_extreme 57 = .ok (.ifCond .eq 7, 3) := by decide +kernel
theorem dX7_extreme_60 : decode cX7_extreme 60 = .ok (.iconst 3, 1) := by decide +kernel
theorem dX7_extreme_61 : decode cX7_extreme 61 = .ok (.goto 4, 3) := by decide +kernel
theorem dX7_extreme_64 : decode cX7_extreme 64 = .ok (.iconst 4, 1) := by decide +kernel
theorem dX7_extreme_65 : decode cX7_extreme 65 = .ok (.invokevirtual 70, 3) := by decide +kernel
theorem dX7_extreme_68 : decode cX7_extreme 68 = .ok (.istore 4, 2) := by decide +kernel
theorem dX7_extreme_70 : decode cX7_extreme 70 = .ok (.iload_n 2, 1) := by decide +kernel
theorem dX7_extreme_71 : decode cX7_extreme 71 = .ok (.ifCond .eq 18, 3) := by decide +kernel
theorem dX7_extreme_74 : decode cX7_extreme 74 = .ok (.iload_n 3, 1) := by decide +kernel
theorem dX7_extreme_75 : decode cX7_extreme 75 = .ok (.iload 4, 2) := by decide +kernel
theorem dX7_extreme_77 : decode cX7_extreme 77 = .ok (.if_icmp .le 7, 3) := by decide +kernel
theorem dX7_extreme_80 : decode cX7_extreme 80 = .ok (.iload_n 3, 1) := by decide +kernel
theorem dX7_extreme_81 : decode cX7_extreme 81 = .ok (.goto 20, 3) := by decide +kernel
theorem dX7_extreme_84 : decode cX7_extreme 84 = .ok (.iload 4, 2) := by decide +kernel
theorem dX7_extreme_86 : decode cX7_extreme 86 = .ok (.goto 15, 3) := by decide +kernel
theorem dX7_extreme_89 : decode cX7_extreme 89 = .ok (.iload_n 3, 1) := by decide +kernel
theorem dX7_extreme_90 : decode cX7_extreme 90 = .ok (.iload 4, 2) := by decide +kernel
theorem dX7_extreme_92 : decode cX7_extreme 92 = .ok (.if_icmp .ge 7, 3) := by decide +kernel
theorem dX7_extreme_95 : decode cX7_extreme 95 = .ok (.iload_n 3, 1) := by decide +kernel
theorem dX7_extreme_96 : decode cX7_extreme 96 = .ok (.goto 5, 3) := by decide +kernel
theorem dX7_extreme_99 : decode cX7_extreme 99 = .ok (.iload 4, 2) := by decide +kernel
theorem dX7_extreme_101 : decode cX7_extreme 101 = .ok (.ireturn, 1) := by decide +kernel
theorem dX7_average_0 : decode cX7_average 0 = .ok (.aload_n 0, 1) := by decide +kernel
theorem dX7_average_1 : decode cX7_average 1 = .ok (.iload_n 1, 1) := by decide +kernel
theorem dX7_average_2 : decode cX7_average 2 = .ok (.invokevirtual 185, 3) := by decide +kernel
theorem dX7_average_5 : decode cX7_average 5 = .ok (.aload_n 0, 1) := by decide +kernel
theorem dX7_average_6 : decode cX7_average 6 = .ok (.iconst 0, 1) := by decide +kernel
theorem dX7_average_7 : decode cX7_average 7 = .ok (.invokevirtual 175, 3) := by decide +kernel
theorem dX7_average_10 : decode cX7_average 10 = .ok (.istore_n 2, 1) := by decide +kernel
theorem dX7_average_11 : decode cX7_average 11 = .ok (.lconst 0, 1) := by decide +kernel
theorem dX7_average_12 : decode cX7_average 12 = .ok (.lstore_n 3, 1) := by decide +kernel
theorem dX7_average_13 : decode cX7_average 13 = .ok (.lconst 0, 1) := by decide +kernel
theorem dX7_average_14 : decode cX7_average 14 = .ok (.lstore 5, 2) := by decide +kernel
theorem dX7_average_16 : decode cX7_average 16 = .ok (.aload_n 0, 1) := by decide +kernel
theorem dX7_average_17 : decode cX7_average 17 = .ok (.iload_n 1, 1) := by decide +kernel
theorem dX7_average_18 : decode cX7_average 18 = .ok (.iconst 3, 1) := by decide +kernel
theorem dX7_average_19 : decode cX7_average 19 = .ok (.invokevirtual 70, 3) := by decide +kernel
theorem dX7_average_22 : decode cX7_average 22 = .ok (.istore 7, 2) := by decide +kernel
theorem dX7_average_24 : decode cX7_average 24 = .ok (.iload 7, 2) := by decide +kernel
theorem dX7_average_26 : decode cX7_average 26 = .ok (.aload_n 0, 1) := by decide +kernel
theorem dX7_average_27 : decode cX7_average 27 = .ok (.iload_n 1, 1) := by decide +kernel
theorem dX7_average_28 : decode cX7_average 28 = .ok (.iconst 4, 1) := by decide +kernel
theorem dX7_average_29 : decode cX7_average 29 = .ok (.invokevirtual 70, 3) := by decide +kernel
theorem dX7_average_32 : decode cX7_average 32 = .ok (.if_icmp .gt 45, 3) := by decide +kernel
theorem dX7_average_35 : decode cX7_average 35 = .ok (.iload 7, 2) := by decide +kernel
theorem dX7_average_37 : decode cX7_average 37 = .ok (.iload_n 2, 1) := by decide +kernel
theorem dX7_average_38 : decode cX7_average 38 = .ok (.if_icmp .gt 39, 3) := by decide +kernel
theorem dX7_average_41 : decode cX7_average 41 = .ok (.lload_n 3, 1) := by decide +kernel
theorem dX7_average_42 : decode cX7_average 42 = .ok (.aload_n 0, 1) := by decide +kernel
theorem dX7_average_43 : decode cX7_average 43 = .ok (.getfield 29, 3) := by decide +kernel
theorem dX7_average_46 : decode cX7_average 46 = .ok (.iload_n 2, 1) := by decide +kernel
theorem dX7_average_47 : decode cX7_average 47 = .ok (.iload 7, 2) := by decide +kernel
theorem dX7_average_49 : decode cX7_average 49 = .ok (.isub, 1) := by decide +kernel
theorem dX7_average_50 : decode cX7_average 50 = .ok (.laload, 1) := by decide +kernel
theorem dX7_average_51 : decode cX7_average 51 = .ok (.ladd, 1) := by decide +kernel
theorem dX7_average_52 : decode cX7_average 52 = .ok (.lstore_n 3, 1) := by decide +kernel
theorem dX7_average_53 : decode cX7_average 53 = .ok (.lload 5, 2) := by decide +kernel
theorem dX7_average_55 : decode cX7_average 55 = .ok (.iload 7, 2) := by decide +kernel
theorem dX7_average_57 : decode cX7_average 57 = .ok (.i2l, 1) := by decide +kernel
theorem dX7_average_58 : decode cX7_average 58 = .ok (.aload_n 0, 1) := by decide +kernel
theorem dX7_average_59 : decode cX7_average 59 = .ok (.getfield 29, 3) := by decide +kernel
theorem dX7_average_62 : decode cX7_average 62 = .ok (.iload_n 2, 1) := by decide +kernel
theorem dX7_average_63 : decode cX7_average 63 = .ok (.iload 7, 2) := by decide +kernel
theorem dX7_average_65 : decode cX7_average 65 = .ok (.isub, 1) := by decide +kernel
theorem dX7_average_66 : decode cX7_average 66 = .ok (.laload, 1) := by decide +kernel
theorem dX7_average_67 : decode cX7_average 67 = .ok (.lmul, 1) := by decide +kernel
theorem dX7_average_68 : decode cX7_average 68 = .ok (.ladd, 1) := by decide +kernel
theorem dX7_average_69 : decode cX7_average 69 = .ok (.lstore 5, 2) := by decide +kernel
theorem dX7_average_71 : decode cX7_average 71 = .ok (.iinc 7 1, 3) := by decide +kernel
theorem dX7_average_74 : decode cX7_average 74 = .ok (.goto (-50), 3) := by decide +kernel
theorem dX7_average_77 : decode cX7_average 77 = .ok (.lload 5, 2) := by decide +kernel
theorem dX7_average_79 : decode cX7_average 79 = .ok (.lload_n 3, 1) := by decide +kernel
theorem dX7_average_80 : decode cX7_average 80 = .ok (.ldiv, 1) := by decide +kernel
theorem dX7_average_81 : decode cX7_average 81 = .ok (.l2i, 1) := by decide +kernel
theorem dX7_average_82 : decode cX7_average 82 = .ok (.ireturn, 1) := by decide +kernel
theorem dX7_known_0 : decode cX7_known 0 = .ok (.aload_n 0, 1) := by decide +kernel
theorem dX7_known_1 : decode cX7_known 1 = .ok (.iload_n 1, 1) := by decide +kernel
theorem dX7_known_2 : decode cX7_known 2 = .ok (.invokevirtual 66, 3) := by decide +kernel
theorem dX7_known_5 : decode cX7_known 5 = .ok (.ifCond .ne 5, 3) := by decide +kernel
theorem dX7_known_8 : decode cX7_known 8 = .ok (.iconst (-1), 1) := by decide +kernel
theorem dX7_known_9 : decode cX7_known 9 = .ok (.ireturn, 1) := by decide +kernel
theorem dX7_known_10 : decode cX7_known 10 = .ok (.iload_n 2, 1) := by decide +kernel
theorem dX7_known_11 : decode cX7_known 11 = .ok (.tableswitch 67 0 4 #[33, 40, 47, 54, 61], 33) := by decide +kernel
theorem dX7_known_44 : decode cX7_known 44 = .ok (.aload_n 0, 1) := by decide +kernel
theorem dX7_known_45 : decode cX7_known 45 = .ok (.iload_n 1, 1) := by decide +kernel
theorem dX7_known_46 : decode cX7_known 46 = .ok (.iconst 3, 1) := by decide +kernel
theorem dX7_known_47 : decode cX7_known 47 = .ok (.invokevirtual 70, 3) := by decide +kernel
theorem dX7_known_50 : decode cX7_known 50 = .ok (.ireturn, 1) := by decide +kernel
theorem dX7_known_51 : decode cX7_known 51 = .ok (.aload_n 0, 1) := by decide +kernel
theorem dX7_known_52 : decode cX7_known 52 = .ok (.iload_n 1, 1) := by decide +kernel
theorem dX7_known_53 : decode cX7_known 53 = .ok (.iconst 4, 1) := by decide +kernel
theorem dX7_known_54 : decode cX7_known 54 = .ok (.invokevirtual 70, 3) := by decide +kernel
theorem dX7_known_57 : decode cX7_known 57 = .ok (.ireturn, 1) := by decide +kernel
theorem dX7_known_58 : decode cX7_known 58 = .ok (.aload_n 0, 1) := by decide +kernel
theorem dX7_known_59 : decode cX7_known 59 = .ok (.iload_n 1, 1) := by decide +kernel
theorem dX7_known_60 : decode cX7_known 60 = .ok (.iconst 1, 1) := by decide +kernel
theorem dX7_known_61 : decode cX7_known 61 = .ok (.invokevirtual 188, 3) := by decide +kernel
theorem dX7_known_64 : decode cX7_known 64 = .ok (.ireturn, 1) := by decide +kernel
theorem dX7_known_65 : decode cX7_known 65 = .ok (.aload_n 0, 1) := by decide +kernel
theorem dX7_known_66 : decode cX7_known 66 = .ok (.iload_n 1, 1) := by decide +kernel
theorem dX7_known_67 : decode cX7_known 67 = .ok (.iconst 0, 1) := by decide +kernel
theorem dX7_known_68 : decode cX7_known 68 = .ok (.invokevirtual 188, 3) := by decide +kernel
theorem dX7_known_71 : decode cX7_known 71 = .ok (.ireturn, 1) := by decide +kernel
theorem dX7_known_72 : decode cX7_known 72 = .ok (.aload_n 0, 1) := by decide +kernel
theorem dX7_known_73 : decode cX7_known 73 = .ok (.iload_n 1, 1) := by decide +kernel
theorem dX7_known_74 : decode cX7_known 74 = .ok (.invokevirtual 192, 3) := by decide +kernel
theorem dX7_known_77 : decode cX7_known 77 = .ok (.ireturn, 1) := by decide +kernel
theorem dX7_known_78 : decode cX7_known 78 = .ok (.bipush (-2), 2) := by decide +kernel
theorem dX7_known_80 : decode cX7_known 80 = .ok (.ireturn, 1) := by decide +kernel
theorem dX7_canPay_0 : decode cX7_canPay 0 = .ok (.aload_n 0, 1) := by decide +kernel
theorem dX7_canPay_1 : decode cX7_canPay 1 = .ok (.iload_n 1, 1) := by decide +kernel
theorem dX7_canPay_2 : decode cX7_canPay 2 = .ok (.invokevirtual 66, 3) := by decide +kernel
theorem dX7_canPay_5 : decode cX7_canPay 5 = .ok (.ifCond .ne 7, 3) := by decide +kernel
theorem dX7_canPay_8 : decode cX7_canPay 8 = .ok (.ldc2_w 195, 3) := by decide +kernel
theorem dX7_canPay_11 : decode cX7_canPay 11 = .ok (.lreturn, 1) := by decide +kernel
theorem dX7_canPay_12 : decode cX7_canPay 12 = .ok (.iload_n 2, 1) := by decide +kernel
theorem dX7_canPay_13 : decode cX7_canPay 13 = .ok (.iconst 0, 1) := by decide +kernel
theorem dX7_canPay_14 : decode cX7_canPay 14 = .ok (.sipush 300, 3) := by decide +kernel
theorem dX7_canPay_17 : decode cX7_canPay 17 = .ok (.invokestatic 43, 3) := by decide +kernel
theorem dX7_canPay_20 : decode cX7_canPay 20 = .ok (.ifCond .ne 7, 3) := by decide +kernel
theorem dX7_canPay_23 : decode cX7_canPay 23 = .ok (.ldc2_w 197, 3) := by decide +kernel
theorem dX7_canPay_26 : decode cX7_canPay 26 = .ok (.lreturn, 1) := by decide +kernel
theorem dX7_canPay_27 : decode cX7_canPay 27 = .ok (.aload_n 0, 1) := by decide +kernel
theorem dX7_canPay_28 : decode cX7_canPay 28 = .ok (.iload_n 1, 1) := by decide +kernel
theorem dX7_canPay_29 : decode cX7_canPay 29 = .ok (.invokevirtual 185, 3) := by decide +kernel
theorem dX7_canPay_32 : decode cX7_canPay 32 = .ok (.aload_n 0, 1) := by decide +kernel
theorem dX7_canPay_33 : decode cX7_canPay 33 = .ok (.iconst 0, 1) := by decide +kernel
theorem dX7_canPay_34 : decode cX7_canPay 34 = .ok (.invokevirtual 175, 3) := by decide +kernel
theorem dX7_canPay_37 : decode cX7_canPay 37 = .ok (.istore_n 3, 1) := by decide +kernel
theorem dX7_canPay_38 : decode cX7_canPay 38 = .ok (.lconst 0, 1) := by decide +kernel
theorem dX7_canPay_39 : decode cX7_canPay 39 = .ok (.lstore 4, 2) := by decide +kernel
theorem dX7_canPay_41 : decode cX7_canPay 41 = .ok (.aload_n 0, 1) := by decide +kernel
theorem dX7_canPay_42 : decode cX7_canPay 42 = .ok (.iload_n 1, 1) := by decide +kernel
theorem dX7_canPay_43 : decode cX7_canPay 43 = .ok (.iconst 3, 1) := by decide +kernel
theorem dX7_canPay_44 : decode cX7_canPay 44 = .ok (.invokevirtual 70, 3) := by decide +kernel
theorem dX7_canPay_47 : decode cX7_canPay 47 = .ok (.istore 6, 2) := by decide +kernel
theorem dX7_canPay_49 : decode cX7_canPay 49 = .ok (.iload 6, 2) := by decide +kernel
theorem dX7_canPay_51 : decode cX7_canPay 51 = .ok (.aload_n 0, 1) := by decide +kernel
theorem dX7_canPay_52 : decode cX7_canPay 52 = .ok (.iload_n 1, 1) := by decide +kernel
theorem dX7_canPay_53 : decode cX7_canPay 53 = .ok (.iconst 4, 1) := by decide +kernel
theorem dX7_canPay_54 : decode cX7_canPay 54 = .ok (.invokevirtual 70, 3) := by decide +kernel
theorem dX7_canPay_57 : decode cX7_canPay 57 = .ok (.if_icmp .gt 39, 3) := by decide +kernel
theorem dX7_canPay_60 : decode cX7_canPay 60 = .ok (.iload 6, 2) := by decide +kernel
theorem dX7_canPay_62 : decode cX7_canPay 62 = .ok (.iload_n 3, 1) := by decide +kernel
theorem dX7_canPay_63 : decode cX7_canPay 63 = .ok (.if_icmp .gt 33, 3) := by decide +kernel
theorem dX7_canPay_66 : decode cX7_canPay 66 = .ok (.lload 4, 2) := by decide +kernel
theorem dX7_canPay_68 : decode cX7_canPay 68 = .ok (.iload 6, 2) := by decide +kernel
theorem dX7_canPay_70 : decode cX7_canPay 70 = .ok (.iload_n 2, 1) := by decide +kernel
theorem dX7_canPay_71 : decode cX7_canPay 71 = .ok (.if_icmp .lt 15, 3) := by decide +kernel
theorem dX7_canPay_74 : decode cX7_canPay 74 = .ok (.aload_n 0, 1) := by decide +kernel
theorem dX7_canPay_75 : decode cX7_canPay 75 = .ok (.getfield 29, 3) := by decide +kernel
theorem dX7_canPay_78 : decode cX7_canPay 78 = .ok (.iload_n 3, 1) := by decide +kernel
theorem dX7_canPay_79 : decode cX7_canPay 79 = .ok (.iload 6, 2) := by decide +kernel
theorem dX7_canPay_81 : decode cX7_canPay 81 = .ok (.isub, 1) := by decide +kernel
theorem dX7_canPay_82 : decode cX7_canPay 82 = .ok (.laload, 1) := by decide +kernel
theorem dX7_canPay_83 : decode cX7_canPay 83 = .ok (.goto 4, 3) := by decide +kernel
theorem dX7_canPay_86 : decode cX7_canPay 86 = .ok (.lconst 0, 1) := by decide +kernel
theorem dX7_canPay_87 : decode cX7_canPay 87 = .ok (.ladd, 1) := by decide +kernel
theorem dX7_canPay_88 : decode cX7_canPay 88 = .ok (.lstore 4, 2) := by decide +kernel
theorem dX7_canPay_90 : decode cX7_canPay 90 = .ok (.iinc 6 1, 3) := by decide +kernel
theorem dX7_canPay_93 : decode cX7_canPay 93 = .ok (.goto (-44), 3) := by decide +kernel
theorem dX7_canPay_96 : decode cX7_canPay 96 = .ok (.lload 4, 2) := by decide +kernel
theorem dX7_canPay_98 : decode cX7_canPay 98 = .ok (.lreturn, 1) := by decide +kernel
theorem dX7_putAside_0 : decode cX7_putAside 0 = .ok (.iconst 0, 1) := by decide +kernel
theorem dX7_putAside_1 : decode cX7_putAside 1 = .ok (.istore_n 1, 1) := by decide +kernel
theorem dX7_putAside_2 : decode cX7_putAside 2 = .ok (.iload_n 1, 1) := by decide +kernel
theorem dX7_putAside_3 : decode cX7_putAside 3 = .ok (.bipush 118, 2) := by decide +kernel
theorem dX7_putAside_5 : decode cX7_putAside 5 = .ok (.if_icmp .ge 21, 3) := by decide +kernel
theorem dX7_putAside_8 : decode cX7_putAside 8 = .ok (.aload_n 0, 1) := by decide +kernel
theorem dX7_putAside_9 : decode cX7_putAside 9 = .ok (.getfield 13, 3) := by decide +kernel
theorem dX7_putAside_12 : decode cX7_putAside 12 = .ok (.iload_n 1, 1) := by decide +kernel
theorem dX7_putAside_13 : decode cX7_putAside 13 = .ok (.aload_n 0, 1) := by decide +kernel
theorem dX7_putAside_14 : decode cX7_putAside 14 = .ok (.getfield 7, 3) := by decide +kernel
theorem dX7_putAside_17 : decode cX7_putAside 17 = .ok (.iload_n 1, 1) := by decide +kernel
theorem dX7_putAside_18 : decode cX7_putAside 18 = .ok (.iaload, 1) := by decide +kernel
theorem dX7_putAside_19 : decode cX7_putAside 19 = .ok (.iastore, 1) := by decide +kernel
theorem dX7_putAside_20 : decode cX7_putAside 20 = .ok (.iinc 1 1, 3) := by decide +kernel
theorem dX7_putAside_23 : decode cX7_putAside 23 = .ok (.goto (-21), 3) := by decide +kernel
theorem dX7_putAside_26 : decode cX7_putAside 26 = .ok (.return_, 1) := by decide +kernel
theorem dX7_putBack_0 : decode cX7_putBack 0 = .ok (.iconst 0, 1) := by decide +kernel
theorem dX7_putBack_1 : decode cX7_putBack 1 = .ok (.istore_n 1, 1) := by decide +kernel
theorem dX7_putBack_2 : decode cX7_putBack 2 = .ok (.iload_n 1, 1) := by decide +kernel
theorem dX7_putBack_3 : decode cX7_putBack 3 = .ok (.bipush 118, 2) := by decide +kernel
theorem dX7_putBack_5 : decode cX7_putBack 5 = .ok (.if_icmp .ge 21, 3) := by decide +kernel
theorem dX7_putBack_8 : decode cX7_putBack 8 = .ok (.aload_n 0, 1) := by decide +kernel
theorem dX7_putBack_9 : decode cX7_putBack 9 = .ok (.getfield 7, 3) := by decide +kernel
theorem dX7_putBack_12 : decode cX7_putBack 12 = .ok (.iload_n 1, 1) := by decide +kernel
theorem dX7_putBack_13 : decode cX7_putBack 13 = .ok (.aload_n 0, 1) := by decide +kernel
theorem dX7_putBack_14 : decode cX7_putBack 14 = .ok (.getfield 13, 3) := by decide +kernel
theorem dX7_putBack_17 : decode cX7_putBack 17 = .ok (.iload_n 1, 1) := by decide +kernel
theorem dX7_putBack_18 : decode cX7_putBack 18 = .ok (.iaload, 1) := by decide +kernel
theorem dX7_putBack_19 : decode cX7_putBack 19 = .ok (.iastore, 1) := by decide +kernel
theorem dX7_putBack_20 : decode cX7_putBack 20 = .ok (.iinc 1 1, 3) := by decide +kernel
theorem dX7_putBack_23 : decode cX7_putBack 23 = .ok (.goto (-21), 3) := by decide +kernel
theorem dX7_putBack_26 : decode cX7_putBack 26 = .ok (.return_, 1) := by decide +kernel
theorem dX7_scoreAtEnd_0 : decode cX7_scoreAtEnd 0 = .ok (.aload_n 0, 1) := by decide +kernel
theorem dX7_scoreAtEnd_1 : decode cX7_scoreAtEnd 1 = .ok (.invokevirtual 199, 3) := by decide +kernel
theorem dX7_scoreAtEnd_4 : decode cX7_scoreAtEnd 4 = .ok (.iconst 0, 1) := by decide +kernel
theorem dX7_scoreAtEnd_5 : decode cX7_scoreAtEnd 5 = .ok (.istore 4, 2) := by decide +kernel
theorem dX7_scoreAtEnd_7 : decode cX7_scoreAtEnd 7 = .ok (.aload_n 0, 1) := by decide +kernel
theorem dX7_scoreAtEnd_8 : decode cX7_scoreAtEnd 8 = .ok (.invokevirtual 89, 3) := by decide +kernel
theorem dX7_scoreAtEnd_11 : decode cX7_scoreAtEnd 11 = .ok (.ifCond .lt 45, 3) := by decide +kernel
theorem dX7_scoreAtEnd_14 : decode cX7_scoreAtEnd 14 = .ok (.iload 4, 2) := by decide +kernel
theorem dX7_scoreAtEnd_16 : decode cX7_scoreAtEnd 16 = .ok (.aload_n 0, 1) := by decide +kernel
theorem dX7_scoreAtEnd_17 : decode cX7_scoreAtEnd 17 = .ok (.invokevirtual 62, 3) := by decide +kernel
theorem dX7_scoreAtEnd_20 : decode cX7_scoreAtEnd 20 = .ok (.ifCond .eq 10, 3) := by decide +kernel
theorem dX7_scoreAtEnd_23 : decode cX7_scoreAtEnd 23 = .ok (.aload_n 0, 1) := by decide +kernel
theorem dX7_scoreAtEnd_24 : decode cX7_scoreAtEnd 24 = .ok (.invokevirtual 157, 3) := by decide +kernel
theorem dX7_scoreAtEnd_27 : decode cX7_scoreAtEnd 27 = .ok (.goto 23, 3) := by decide +kernel
theorem dX7_scoreAtEnd_30 : decode cX7_scoreAtEnd 30 = .ok (.aload_n 0, 1) := by decide +kernel
theorem dX7_scoreAtEnd_31 : decode cX7_scoreAtEnd 31 = .ok (.invokevirtual 96, 3) := by decide +kernel
theorem dX7_scoreAtEnd_34 : decode cX7_scoreAtEnd 34 = .ok (.ifCond .eq 10, 3) := by decide +kernel
theorem dX7_scoreAtEnd_37 : decode cX7_scoreAtEnd 37 = .ok (.aload_n 0, 1) := by decide +kernel
theorem dX7_scoreAtEnd_38 : decode cX7_scoreAtEnd 38 = .ok (.invokevirtual 160, 3) := by decide +kernel
theorem dX7_scoreAtEnd_41 : decode cX7_scoreAtEnd 41 = .ok (.goto 9, 3) := by decide +kernel
theorem dX7_scoreAtEnd_44 : decode cX7_scoreAtEnd 44 = .ok (.aload_n 0, 1) := by decide +kernel
theorem dX7_scoreAtEnd_45 : decode cX7_scoreAtEnd 45 = .ok (.iload_n 1, 1) := by decide +kernel
theorem dX7_scoreAtEnd_46 : decode cX7_scoreAtEnd 46 = .ok (.iload_n 2, 1) := by decide +kernel
theorem dX7_scoreAtEnd_47 : decode cX7_scoreAtEnd 47 = .ok (.invokevirtual 99, 3) := by decide +kernel
theorem dX7_scoreAtEnd_50 : decode cX7_scoreAtEnd 50 = .ok (.iadd, 1) := by decide +kernel
theorem dX7_scoreAtEnd_51 : decode cX7_scoreAtEnd 51 = .ok (.istore 4, 2) := by decide +kernel
theorem dX7_scoreAtEnd_53 : decode cX7_scoreAtEnd 53 = .ok (.goto (-46), 3) := by decide +kernel
theorem dX7_scoreAtEnd_56 : decode cX7_scoreAtEnd 56 = .ok (.aload_n 0, 1) := by decide +kernel
theorem dX7_scoreAtEnd_57 : decode cX7_scoreAtEnd 57 = .ok (.iload_n 3, 1) := by decide +kernel
theorem dX7_scoreAtEnd_58 : decode cX7_scoreAtEnd 58 = .ok (.invokevirtual 86, 3) := by decide +kernel
theorem dX7_scoreAtEnd_61 : decode cX7_scoreAtEnd 61 = .ok (.istore 4, 2) := by decide +kernel
theorem dX7_scoreAtEnd_63 : decode cX7_scoreAtEnd 63 = .ok (.aload_n 0, 1) := by decide +kernel
theorem dX7_scoreAtEnd_64 : decode cX7_scoreAtEnd 64 = .ok (.invokevirtual 202, 3) := by decide +kernel
theorem dX7_scoreAtEnd_67 : decode cX7_scoreAtEnd 67 = .ok (.iload 4, 2) := by decide +kernel
theorem dX7_scoreAtEnd_69 : decode cX7_scoreAtEnd 69 = .ok (.ireturn, 1) := by decide +kernel
theorem dX7_forecast_0 : decode cX7_forecast 0 = .ok (.aload_n 0, 1) := by decide +kernel
theorem dX7_forecast_1 : decode cX7_forecast 1 = .ok (.iload_n 3, 1) := by decide +kernel
theorem dX7_forecast_2 : decode cX7_forecast 2 = .ok (.invokevirtual 66, 3) := by decide +kernel
theorem dX7_forecast_5 : decode cX7_forecast 5 = .ok (.ifCond .ne 5, 3) := by decide +kernel
theorem dX7_forecast_8 : decode cX7_forecast 8 = .ok (.iconst (-1), 1) := by decide +kernel
theorem dX7_forecast_9 : decode cX7_forecast 9 = .ok (.ireturn, 1) := by decide +kernel
theorem dX7_forecast_10 : decode cX7_forecast 10 = .ok (.iload_n 1, 1) := by decide +kernel
theorem dX7_forecast_11 : decode cX7_forecast 11 = .ok (.iconst 0, 1) := by decide +kernel
theorem dX7_forecast_12 : decode cX7_forecast 12 = .ok (.iconst 2, 1) := by decide +kernel
theorem dX7_forecast_13 : decode cX7_forecast 13 = .ok (.invokestatic 43, 3) := by decide +kernel
theorem dX7_forecast_16 : decode cX7_forecast 16 = .ok (.ifCond .eq 24, 3) := by decide +kernel
theorem dX7_forecast_19 : decode cX7_forecast 19 = .ok (.iload_n 2, 1) := by decide +kernel
theorem dX7_forecast_20 : decode cX7_forecast 20 = .ok (.iconst 1, 1) := by decide +kernel
theorem dX7_forecast_21 : decode cX7_forecast 21 = .ok (.sipush 300, 3) := by decide +kernel
theorem dX7_forecast_24 : decode cX7_forecast 24 = .ok (.invokestatic 43, 3) := by decide +kernel
theorem dX7_forecast_27 : decode cX7_forecast 27 = .ok (.ifCond .eq 13, 3) := by decide +kernel
theorem dX7_forecast_30 : decode cX7_forecast 30 = .ok (.aload_n 0, 1) := by decide +kernel
theorem dX7_forecast_31 : decode cX7_forecast 31 = .ok (.iload_n 1, 1) := by decide +kernel
theorem dX7_forecast_32 : decode cX7_forecast 32 = .ok (.iload_n 2, 1) := by decide +kernel
theorem dX7_forecast_33 : decode cX7_forecast 33 = .ok (.iload_n 3, 1) := by decide +kernel
theorem dX7_forecast_34 : decode cX7_forecast 34 = .ok (.invokevirtual 205, 3) := by decide +kernel
theorem dX7_forecast_37 : decode cX7_forecast 37 = .ok (.goto 5, 3) := by decide +kernel
theorem dX7_forecast_40 : decode cX7_forecast 40 = .ok (.bipush (-2), 2) := by decide +kernel
theorem dX7_forecast_42 : decode cX7_forecast 42 = .ok (.ireturn, 1) := by decide +kernel
theorem dX7_bestMode_0 : decode cX7_bestMode 0 = .ok (.aload_n 0, 1) := by decide +kernel
theorem dX7_bestMode_1 : decode cX7_bestMode 1 = .ok (.iload_n 1, 1) := by decide +kernel
theorem dX7_bestMode_2 : decode cX7_bestMode 2 = .ok (.invokevirtual 66, 3) := by decide +kernel
theorem dX7_bestMode_5 : decode cX7_bestMode 5 = .ok (.ifCond .ne 5, 3) := by decide +kernel
theorem dX7_bestMode_8 : decode cX7_bestMode 8 = .ok (.iconst (-1), 1) := by decide +kernel
theorem dX7_bestMode_9 : decode cX7_bestMode 9 = .ok (.ireturn, 1) := by decide +kernel
theorem dX7_bestMode_10 : decode cX7_bestMode 10 = .ok (.iload_n 2, 1) := by decide +kernel
theorem dX7_bestMode_11 : decode cX7_bestMode 11 = .ok (.iconst 1, 1) := by decide +kernel
theorem dX7_bestMode_12 : decode cX7_bestMode 12 = .ok (.sipush 300, 3) := by decide +kernel
theorem dX7_bestMode_15 : decode cX7_bestMode 15 = .ok (.invokestatic 43, 3) := by decide +kernel
theorem dX7_bestMode_18 : decode cX7_bestMode 18 = .ok (.ifCond .ne 6, 3) := by decide +kernel
theorem dX7_bestMode_21 : decode cX7_bestMode 21 = .ok (.bipush (-2), 2) := by decide +kernel
theorem dX7_bestMode_23 : decode cX7_bestMode 23 = .ok (.ireturn, 1) := by decide +kernel
theorem dX7_bestMode_24 : decode cX7_bestMode 24 = .ok (.iconst 0, 1) := by decide +kernel
theorem dX7_bestMode_25 : decode cX7_bestMode 25 = .ok (.istore_n 3, 1) := by decide +kernel
theorem dX7_bestMode_26 : decode cX7_bestMode 26 = .ok (.aload_n 0, 1) := by decide +kernel
theorem dX7_bestMode_27 : decode cX7_bestMode 27 = .ok (.iconst 0, 1) := by decide +kernel
theorem dX7_bestMode_28 : decode cX7_bestMode 28 = .ok (.iload_n 2, 1) := by decide +kernel
theorem dX7_bestMode_29 : decode cX7_bestMode 29 = .ok (.iload_n 1, 1) := by decide +kernel
theorem dX7_bestMode_30 : decode cX7_bestMode 30 = .ok (.invokevirtual 205, 3) := by decide +kernel
theorem dX7_bestMode_33 : decode cX7_bestMode 33 = .ok (.istore 4, 2) := by decide +kernel
theorem dX7_bestMode_35 : decode cX7_bestMode 35 = .ok (.iconst 1, 1) := by decide +kernel
theorem dX7_bestMode_36 : decode cX7_bestMode 36 = .ok (.istore 5, 2) := by decide +kernel
theorem dX7_bestMode_38 : decode cX7_bestMode 38 = .ok (.iload 5, 2) := by decide +kernel
theorem dX7_bestMode_40 : decode cX7_bestMode 40 = .ok (.iconst 2, 1) := by decide +kernel
theorem dX7_bestMode_41 : decode cX7_bestMode 41 = .ok (.if_icmp .gt 49, 3) := by decide +kernel
theorem dX7_bestMode_44 : decode cX7_bestMode 44 = .ok (.aload_n 0, 1) := by decide +kernel
theorem dX7_bestMode_45 : decode cX7_bestMode 45 = .ok (.iload 5, 2) := by decide +kernel
theorem dX7_bestMode_47 : decode cX7_bestMode 47 = .ok (.iload_n 2, 1) := by decide +kernel
theorem dX7_bestMode_48 : decode cX7_bestMode 48 = .ok (.iload_n 1, 1) := by decide +kernel
theorem dX7_bestMode_49 : decode cX7_bestMode 49 = .ok (.invokevirtual 205, 3) := by decide +kernel
theorem dX7_bestMode_52 : decode cX7_bestMode 52 = .ok (.istore 6, 2) := by decide +kernel
theorem dX7_bestMode_54 : decode cX7_bestMode 54 = .ok (.iload 6, 2) := by decide +kernel
theorem dX7_bestMode_56 : decode cX7_bestMode 56 = .ok (.iload 4, 2) := by decide +kernel
theorem dX7_bestMode_58 : decode cX7_bestMode 58 = .ok (.if_icmp .le 8, 3) := by decide +kernel
theorem dX7_bestMode_61 : decode cX7_bestMode 61 = .ok (.iload 5, 2) := by decide +kernel
theorem dX7_bestMode_63 : decode cX7_bestMode 63 = .ok (.goto 4, 3) := by decide +kernel
theorem dX7_bestMode_66 : decode cX7_bestMode 66 = .ok (.iload_n 3, 1) := by decide +kernel
theorem dX7_bestMode_67 : decode cX7_bestMode 67 = .ok (.istore_n 3, 1) := by decide +kernel
theorem dX7_bestMode_68 : decode cX7_bestMode 68 = .ok (.iload 6, 2) := by decide +kernel
theorem dX7_bestMode_70 : decode cX7_bestMode 70 = .ok (.iload 4, 2) := by decide +kernel
theorem dX7_bestMode_72 : decode cX7_bestMode 72 = .ok (.if_icmp .le 8, 3) := by decide +kernel
theorem dX7_bestMode_75 : decode cX7_bestMode 75 = .ok (.iload 6, 2) := by decide +kernel
theorem dX7_bestMode_77 : decode cX7_bestMode 77 = .ok (.goto 5, 3) := by decide +kernel
theorem dX7_bestMode_80 : decode cX7_bestMode 80 = .ok (.iload 4, 2) := by decide +kernel
theorem dX7_bestMode_82 : decode cX7_bestMode 82 = .ok (.istore 4, 2) := by decide +kernel
theorem dX7_bestMode_84 : decode cX7_bestMode 84 = .ok (.iinc 5 1, 3) := by decide +kernel
theorem dX7_bestMode_87 : decode cX7_bestMode 87 = .ok (.goto (-49), 3) := by decide +kernel
theorem dX7_bestMode_90 : decode cX7_bestMode 90 = .ok (.iload_n 3, 1) := by decide +kernel
theorem dX7_bestMode_91 : decode cX7_bestMode 91 = .ok (.ireturn, 1) := by decide +kernel
theorem dX7_leastBid_0 : decode cX7_leastBid 0 = .ok (.aload_n 0, 1) := by decide +kernel
theorem dX7_leastBid_1 : decode cX7_leastBid 1 = .ok (.iload_n 1, 1) := by decide +kernel
theorem dX7_leastBid_2 : decode cX7_leastBid 2 = .ok (.invokevirtual 66, 3) := by decide +kernel
theorem dX7_leastBid_5 : decode cX7_leastBid 5 = .ok (.ifCond .ne 5, 3) := by decide +kernel
theorem dX7_leastBid_8 : decode cX7_leastBid 8 = .ok (.iconst (-1), 1) := by decide +kernel
theorem dX7_leastBid_9 : decode cX7_leastBid 9 = .ok (.ireturn, 1) := by decide +kernel
theorem dX7_leastBid_10 : decode cX7_leastBid 10 = .ok (.iload_n 2, 1) := by decide +kernel
theorem dX7_leastBid_11 : decode cX7_leastBid 11 = .ok (.iconst 1, 1) := by decide +kernel
theorem dX7_leastBid_12 : decode cX7_leastBid 12 = .ok (.sipush 300, 3) := by decide +kernel
theorem dX7_leastBid_15 : decode cX7_leastBid 15 = .ok (.invokestatic 43, 3) := by decide +kernel
theorem dX7_leastBid_18 : decode cX7_leastBid 18 = .ok (.ifCond .ne 6, 3) := by decide +kernel
theorem dX7_leastBid_21 : decode cX7_leastBid 21 = .ok (.bipush (-2), 2) := by decide +kernel
theorem dX7_leastBid_23 : decode cX7_leastBid 23 = .ok (.ireturn, 1) := by decide +kernel
theorem dX7_leastBid_24 : decode cX7_leastBid 24 = .ok (.aload_n 0, 1) := by decide +kernel
theorem dX7_leastBid_25 : decode cX7_leastBid 25 = .ok (.invokevirtual 62, 3) := by decide +kernel
theorem dX7_leastBid_28 : decode cX7_leastBid 28 = .ok (.ifCond .ne 17, 3) := by decide +kernel
theorem dX7_leastBid_31 : decode cX7_leastBid 31 = .ok (.aload_n 0, 1) := by decide +kernel
theorem dX7_leastBid_32 : decode cX7_leastBid 32 = .ok (.invokevirtual 89, 3) := by decide +kernel
theorem dX7_leastBid_35 : decode cX7_leastBid 35 = .ok (.ifCond .lt 10, 3) := by decide +kernel
theorem dX7_leastBid_38 : decode cX7_leastBid 38 = .ok (.aload_n 0, 1) := by decide +kernel
theorem dX7_leastBid_39 : decode cX7_leastBid 39 = .ok (.invokevirtual 96, 3) := by decide +kernel
theorem dX7_leastBid_42 : decode cX7_leastBid 42 = .ok (.ifCond .eq 6, 3) := by decide +kernel
theorem dX7_leastBid_45 : decode cX7_leastBid 45 = .ok (.bipush (-5), 2) := by decide +kernel
theorem dX7_leastBid_47 : decode cX7_leastBid 47 = .ok (.ireturn, 1) := by decide +kernel
theorem dX7_leastBid_48 : decode cX7_leastBid 48 = .ok (.iload_n 2, 1) := by decide +kernel
theorem dX7_leastBid_49 : decode cX7_leastBid 49 = .ok (.istore_n 3, 1) := by decide +kernel
theorem dX7_leastBid_50 : decode cX7_leastBid 50 = .ok (.iconst 0, 1) := by decide +kernel
theorem dX7_leastBid_51 : decode cX7_leastBid 51 = .ok (.istore 4, 2) := by decide +kernel
theorem dX7_leastBid_53 : decode cX7_leastBid 53 = .ok (.iload 4, 2) := by decide +kernel
theorem dX7_leastBid_55 : decode cX7_leastBid 55 = .ok (.aload_n 0, 1) := by decide +kernel
theorem dX7_leastBid_56 : decode cX7_leastBid 56 = .ok (.getfield 7, 3) := by decide +kernel
theorem dX7_leastBid_59 : decode cX7_leastBid 59 = .ok (.iconst 0, 1) := by decide +kernel
theorem dX7_leastBid_60 : decode cX7_leastBid 60 = .ok (.iaload, 1) := by decide +kernel
theorem dX7_leastBid_61 : decode cX7_leastBid 61 = .ok (.if_icmp .ge 41, 3) := by decide +kernel
theorem dX7_leastBid_64 : decode cX7_leastBid 64 = .ok (.iload 4, 2) := by decide +kernel
theorem dX7_leastBid_66 : decode cX7_leastBid 66 = .ok (.iload_n 1, 1) := by decide +kernel
theorem dX7_leastBid_67 : decode cX7_leastBid 67 = .ok (.if_icmp .ne 7, 3) := by decide +kernel
theorem dX7_leastBid_70 : decode cX7_leastBid 70 = .ok (.iconst 0, 1) := by decide +kernel
theorem dX7_leastBid_71 : decode cX7_leastBid 71 = .ok (.goto 10, 3) := by decide +kernel
theorem dX7_leastBid_74 : decode cX7_leastBid 74 = .ok (.aload_n 0, 1) := by decide +kernel
theorem dX7_leastBid_75 : decode cX7_leastBid 75 = .ok (.iload 4, 2) := by decide +kernel
theorem dX7_leastBid_77 : decode cX7_leastBid 77 = .ok (.iload_n 2, 1) := by decide +kernel
theorem dX7_leastBid_78 : decode cX7_leastBid 78 = .ok (.invokevirtual 148, 3) := by decide +kernel
theorem dX7_leastBid_81 : decode cX7_leastBid 81 = .ok (.istore 5, 2) := by decide +kernel
theorem dX7_leastBid_83 : decode cX7_leastBid 83 = .ok (.iload 5, 2) := by decide +kernel
theorem dX7_leastBid_85 : decode cX7_leastBid 85 = .ok (.iload_n 3, 1) := by decide +kernel
theorem dX7_leastBid_86 : decode cX7_leastBid 86 = .ok (.if_icmp .le 8, 3) := by decide +kernel
theorem dX7_leastBid_89 : decode cX7_leastBid 89 = .ok (.iload 5, 2) := by decide +kernel
theorem dX7_leastBid_91 : decode cX7_leastBid 91 = .ok (.goto 4, 3) := by decide +kernel
theorem dX7_leastBid_94 : decode cX7_leastBid 94 = .ok (.iload_n 3, 1) := by decide +kernel
theorem dX7_leastBid_95 : decode cX7_leastBid 95 = .ok (.istore_n 3, 1) := by decide +kernel
theorem dX7_leastBid_96 : decode cX7_leastBid 96 = .ok (.iinc 4 1, 3) := by decide +kernel
theorem dX7_leastBid_99 : decode cX7_leastBid 99 = .ok (.goto (-46), 3) := by decide +kernel
theorem dX7_leastBid_102 : decode cX7_leastBid 102 = .ok (.iload_n 3, 1) := by decide +kernel
theorem dX7_leastBid_103 : decode cX7_leastBid 103 = .ok (.aload_n 0, 1) := by decide +kernel
theorem dX7_leastBid_104 : decode cX7_leastBid 104 = .ok (.iload_n 1, 1) := by decide +kernel
theorem dX7_leastBid_105 : decode cX7_leastBid 105 = .ok (.iconst 0, 1) := by decide +kernel
theorem dX7_leastBid_106 : decode cX7_leastBid 106 = .ok (.invokevirtual 70, 3) := by decide +kernel
theorem dX7_leastBid_109 : decode cX7_leastBid 109 = .ok (.if_icmp .gt 7, 3) := by decide +kernel
theorem dX7_leastBid_112 : decode cX7_leastBid 112 = .ok (.iload_n 3, 1) := by decide +kernel
theorem dX7_leastBid_113 : decode cX7_leastBid 113 = .ok (.goto 5, 3) := by decide +kernel
theorem dX7_leastBid_116 : decode cX7_leastBid 116 = .ok (.bipush (-6), 2) := by decide +kernel
theorem dX7_leastBid_118 : decode cX7_leastBid 118 = .ok (.ireturn, 1) := by decide +kernel
theorem dX7_put_0 : decode cX7_put 0 = .ok (.iconst 0, 1) := by decide +kernel
theorem dX7_put_1 : decode cX7_put 1 = .ok (.istore_n 3, 1) := by decide +kernel
theorem dX7_put_2 : decode cX7_put 2 = .ok (.lload_n 1, 1) := by decide +kernel
theorem dX7_put_3 : decode cX7_put 3 = .ok (.lstore 4, 2) := by decide +kernel
theorem dX7_put_5 : decode cX7_put 5 = .ok (.iload_n 3, 1) := by decide +kernel
theorem dX7_put_6 : decode cX7_put 6 = .ok (.bipush 8, 2) := by decide +kernel
theorem dX7_put_8 : decode cX7_put 8 = .ok (.if_icmp .ge 47, 3) := by decide +kernel
theorem dX7_put_11 : decode cX7_put 11 = .ok (.lload 4, 2) := by decide +kernel
theorem dX7_put_13 : decode cX7_put 13 = .ok (.ldc2_w 209, 3) := by decide +kernel
theorem dX7_put_16 : decode cX7_put 16 = .ok (.land, 1) := by decide +kernel
theorem dX7_put_17 : decode cX7_put 17 = .ok (.lconst 0, 1) := by decide +kernel
theorem dX7_put_18 : decode cX7_put 18 = .ok (.lcmp, 1) := by decide +kernel
theorem dX7_put_19 : decode cX7_put 19 = .ok (.ifCond .eq 36, 3) := by decide +kernel
theorem dX7_put_22 : decode cX7_put 22 = .ok (.lload 4, 2) := by decide +kernel
theorem dX7_put_24 : decode cX7_put 24 = .ok (.ldc2_w 209, 3) := by decide +kernel
theorem dX7_put_27 : decode cX7_put 27 = .ok (.land, 1) := by decide +kernel
theorem dX7_put_28 : decode cX7_put 28 = .ok (.l2i, 1) := by decide +kernel
theorem dX7_put_29 : decode cX7_put 29 = .ok (.bipush 33, 2) := by decide +kernel
theorem dX7_put_31 : decode cX7_put 31 = .ok (.bipush 126, 2) := by decide +kernel
theorem dX7_put_33 : decode cX7_put 33 = .ok (.invokestatic 43, 3) := by decide +kernel
theorem dX7_put_36 : decode cX7_put 36 = .ok (.ifCond .ne 6, 3) := by decide +kernel
theorem dX7_put_39 : decode cX7_put 39 = .ok (.bipush (-2), 2) := by decide +kernel
theorem dX7_put_41 : decode cX7_put 41 = .ok (.ireturn, 1) := by decide +kernel
theorem dX7_put_42 : decode cX7_put 42 = .ok (.iinc 3 1, 3) := by decide +kernel
theorem dX7_put_45 : decode cX7_put 45 = .ok (.lload 4, 2) := by decide +kernel
theorem dX7_put_47 : decode cX7_put 47 = .ok (.bipush 8, 2) := by decide +kernel
theorem dX7_put_49 : decode cX7_put 49 = .ok (.lushr, 1) := by decide +kernel
theorem dX7_put_50 : decode cX7_put 50 = .ok (.lstore 4, 2) := by decide +kernel
theorem dX7_put_52 : decode cX7_put 52 = .ok (.goto (-47), 3) := by decide +kernel
theorem dX7_put_55 : decode cX7_put 55 = .ok (.iload_n 3, 1) := by decide +kernel
theorem dX7_put_56 : decode cX7_put 56 = .ok (.ifCond .eq 10, 3) := by decide +kernel
theorem dX7_put_59 : decode cX7_put 59 = .ok (.lload 4, 2) := by decide +kernel
theorem dX7_put_61 : decode cX7_put 61 = .ok (.lconst 0, 1) := by decide +kernel
theorem dX7_put_62 : decode cX7_put 62 = .ok (.lcmp, 1) := by decide +kernel
theorem dX7_put_63 : decode cX7_put 63 = .ok (.ifCond .eq 6, 3) := by decide +kernel
theorem dX7_put_66 : decode cX7_put 66 = .ok (.bipush (-2), 2) := by decide +kernel
theorem dX7_put_68 : decode cX7_put 68 = .ok (.ireturn, 1) := by decide +kernel
theorem dX7_put_69 : decode cX7_put 69 = .ok (.aload_n 0, 1) := by decide +kernel
theorem dX7_put_70 : decode cX7_put 70 = .ok (.getfield 178, 3) := by decide +kernel
theorem dX7_put_73 : decode cX7_put 73 = .ok (.iload_n 3, 1) := by decide +kernel
theorem dX7_put_74 : decode cX7_put 74 = .ok (.iadd, 1) := by decide +kernel
theorem dX7_put_75 : decode cX7_put 75 = .ok (.bipush 60, 2) := by decide +kernel
theorem dX7_put_77 : decode cX7_put 77 = .ok (.if_icmp .le 6, 3) := by decide +kernel
theorem dX7_put_80 : decode cX7_put 80 = .ok (.bipush (-4), 2) := by decide +kernel
theorem dX7_put_82 : decode cX7_put 82 = .ok (.ireturn, 1) := by decide +kernel
theorem dX7_put_83 : decode cX7_put 83 = .ok (.iconst 0, 1) := by decide +kernel
theorem dX7_put_84 : decode cX7_put 84 = .ok (.istore 6, 2) := by decide +kernel
theorem dX7_put_86 : decode cX7_put 86 = .ok (.iload 6, 2) := by decide +kernel
theorem dX7_put_88 : decode cX7_put 88 = .ok (.iload_n 3, 1) := by decide +kernel
theorem dX7_put_89 : decode cX7_put 89 = .ok (.if_icmp .ge 37, 3) := by decide +kernel
theorem dX7_put_92 : decode cX7_put 92 = .ok (.aload_n 0, 1) := by decide +kernel
theorem dX7_put_93 : decode cX7_put 93 = .ok (.getfield 23, 3) := by decide +kernel
theorem dX7_put_96 : decode cX7_put 96 = .ok (.aload_n 0, 1) := by decide +kernel
theorem dX7_put_97 : decode cX7_put 97 = .ok (.getfield 178, 3) := by decide +kernel
theorem dX7_put_100 : decode cX7_put 100 = .ok (.iload 6, 2) := by decide +kernel
theorem dX7_put_102 : decode cX7_put 102 = .ok (.iadd, 1) := by decide +kernel
theorem dX7_put_103 : decode cX7_put 103 = .ok (.lload_n 1, 1) := by decide +kernel
theorem dX7_put_104 : decode cX7_put 104 = .ok (.bipush 8, 2) := by decide +kernel
theorem dX7_put_106 : decode cX7_put 106 = .ok (.iload_n 3, 1) := by decide +kernel
theorem dX7_put_107 : decode cX7_put 107 = .ok (.iconst 1, 1) := by decide +kernel
theorem dX7_put_108 : decode cX7_put 108 = .ok (.isub, 1) := by decide +kernel
theorem dX7_put_109 : decode cX7_put 109 = .ok (.iload 6, 2) := by decide +kernel
theorem dX7_put_111 : decode cX7_put 111 = .ok (.isub, 1) := by decide +kernel
theorem dX7_put_112 : decode cX7_put 112 = .ok (.imul, 1) := by decide +kernel
theorem dX7_put_113 : decode cX7_put 113 = .ok (.lshr, 1) := by decide +kernel
theorem dX7_put_114 : decode cX7_put 114 = .ok (.ldc2_w 209, 3) := by decide +kernel
theorem dX7_put_117 : decode cX7_put 117 = .ok (.land, 1) := by decide +kernel
theorem dX7_put_118 : decode cX7_put 118 = .ok (.l2i, 1) := by decide +kernel
theorem dX7_put_119 : decode cX7_put 119 = .ok (.iastore, 1) := by decide +kernel
theorem dX7_put_120 : decode cX7_put 120 = .ok (.iinc 6 1, 3) := by decide +kernel
theorem dX7_put_123 : decode cX7_put 123 = .ok (.goto (-37), 3) := by decide +kernel
theorem dX7_put_126 : decode cX7_put 126 = .ok (.aload_n 0, 1) := by decide +kernel
theorem dX7_put_127 : decode cX7_put 127 = .ok (.dup, 1) := by decide +kernel
theorem dX7_put_128 : decode cX7_put 128 = .ok (.getfield 178, 3) := by decide +kernel
theorem dX7_put_131 : decode cX7_put 131 = .ok (.iload_n 3, 1) := by decide +kernel
theorem dX7_put_132 : decode cX7_put 132 = .ok (.iadd, 1) := by decide +kernel
theorem dX7_put_133 : decode cX7_put 133 = .ok (.putfield 178, 3) := by decide +kernel
theorem dX7_put_136 : decode cX7_put 136 = .ok (.aload_n 0, 1) := by decide +kernel
theorem dX7_put_137 : decode cX7_put 137 = .ok (.getfield 178, 3) := by decide +kernel
theorem dX7_put_140 : decode cX7_put 140 = .ok (.ireturn, 1) := by decide +kernel
theorem dX7_wipe_0 : decode cX7_wipe 0 = .ok (.aload_n 0, 1) := by decide +kernel
theorem dX7_wipe_1 : decode cX7_wipe 1 = .ok (.getfield 178, 3) := by decide +kernel
theorem dX7_wipe_4 : decode cX7_wipe 4 = .ok (.istore_n 1, 1) := by decide +kernel
theorem dX7_wipe_5 : decode cX7_wipe 5 = .ok (.aload_n 0, 1) := by decide +kernel
theorem dX7_wipe_6 : decode cX7_wipe 6 = .ok (.iconst 0, 1) := by decide +kernel
theorem dX7_wipe_7 : decode cX7_wipe 7 = .ok (.putfield 178, 3) := by decide +kernel
theorem dX7_wipe_10 : decode cX7_wipe 10 = .ok (.iload_n 1, 1) := by decide +kernel
theorem dX7_wipe_11 : decode cX7_wipe 11 = .ok (.ireturn, 1) := by decide +kernel
theorem dX7_next_0 : decode cX7_next 0 = .ok (.aload_n 0, 1) := by decide +kernel
theorem dX7_next_1 : decode cX7_next 1 = .ok (.getfield 211, 3) := by decide +kernel
theorem dX7_next_4 : decode cX7_next 4 = .ok (.aload_n 0, 1) := by decide +kernel
theorem dX7_next_5 : decode cX7_next 5 = .ok (.getfield 178, 3) := by decide +kernel
theorem dX7_next_8 : decode cX7_next 8 = .ok (.if_icmp .ge 15, 3) := by decide +kernel
theorem dX7_next_11 : decode cX7_next 11 = .ok (.aload_n 0, 1) := by decide +kernel
theorem dX7_next_12 : decode cX7_next 12 = .ok (.getfield 23, 3) := by decide +kernel
theorem dX7_next_15 : decode cX7_next 15 = .ok (.aload_n 0, 1) := by decide +kernel
theorem dX7_next_16 : decode cX7_next 16 = .ok (.getfield 211, 3) := by decide +kernel
theorem dX7_next_19 : decode cX7_next 19 = .ok (.iaload, 1) := by decide +kernel
theorem dX7_next_20 : decode cX7_next 20 = .ok (.goto 4, 3) := by decide +kernel
theorem dX7_next_23 : decode cX7_next 23 = .ok (.iconst 0, 1) := by decide +kernel
theorem dX7_next_24 : decode cX7_next 24 = .ok (.ireturn, 1) := by decide +kernel
theorem dX7_takeNumber_0 : decode cX7_takeNumber 0 = .ok (.aload_n 0, 1) := by decide +kernel
theorem dX7_takeNumber_1 : decode cX7_takeNumber 1 = .ok (.aload_n 0, 1) := by decide +kernel
theorem dX7_takeNumber_2 : decode cX7_takeNumber 2 = .ok (.getfield 214, 3) := by decide +kernel
theorem dX7_takeNumber_5 : decode cX7_takeNumber 5 = .ok (.ifCond .ne 32, 3) := by decide +kernel
theorem dX7_takeNumber_8 : decode cX7_takeNumber 8 = .ok (.aload_n 0, 1) := by decide +kernel
theorem dX7_takeNumber_9 : decode cX7_takeNumber 9 = .ok (.invokevirtual 218, 3) := by decide +kernel
theorem dX7_takeNumber_12 : decode cX7_takeNumber 12 = .ok (.bipush 48, 2) := by decide +kernel
theorem dX7_takeNumber_14 : decode cX7_takeNumber 14 = .ok (.iload_n 1, 1) := by decide +kernel
theorem dX7_takeNumber_15 : decode cX7_takeNumber 15 = .ok (.iadd, 1) := by decide +kernel
theorem dX7_takeNumber_16 : decode cX7_takeNumber 16 = .ok (.iload_n 2, 1) := by decide +kernel
theorem dX7_takeNumber_17 : decode cX7_takeNumber 17 = .ok (.bipush 9, 2) := by decide +kernel
theorem dX7_takeNumber_19 : decode cX7_takeNumber 19 = .ok (.if_icmp .ge 10, 3) := by decide +kernel
theorem dX7_takeNumber_22 : decode cX7_takeNumber 22 = .ok (.bipush 48, 2) := by decide +kernel
theorem dX7_takeNumber_24 : decode cX7_takeNumber 24 = .ok (.iload_n 2, 1) := by decide +kernel
theorem dX7_takeNumber_25 : decode cX7_takeNumber 25 = .ok (.iadd, 1) := by decide +kernel
theorem dX7_takeNumber_26 : decode cX7_takeNumber 26 = .ok (.goto 5, 3) := by decide +kernel
theorem dX7_takeNumber_29 : decode cX7_takeNumber 29 = .ok (.bipush 57, 2) := by decide +kernel
theorem dX7_takeNumber_31 : decode cX7_takeNumber 31 = .ok (.invokestatic 43, 3) := by decide +kernel
theorem dX7_takeNumber_34 : decode cX7_takeNumber 34 = .ok (.ifCond .ne 7, 3) := by decide +kernel
theorem dX7_takeNumber_37 : decode cX7_takeNumber 37 = .ok (.iconst 1, 1) := by decide +kernel
theorem dX7_takeNumber_38 : decode cX7_takeNumber 38 = .ok (.goto 4, 3) := by decide +kernel
theorem dX7_takeNumber_41 : decode cX7_takeNumber 41 = .ok (.iconst 0, 1) := by decide +kernel
theorem dX7_takeNumber_42 : decode cX7_takeNumber 42 = .ok (.putfield 214, 3) := by decide +kernel
theorem dX7_takeNumber_45 : decode cX7_takeNumber 45 = .ok (.aload_n 0, 1) := by decide +kernel
theorem dX7_takeNumber_46 : decode cX7_takeNumber 46 = .ok (.getfield 214, 3) := by decide +kernel
theorem dX7_takeNumber_49 : decode cX7_takeNumber 49 = .ok (.ifCond .eq 5, 3) := by decide +kernel
theorem dX7_takeNumber_52 : decode cX7_takeNumber 52 = .ok (.iconst 0, 1) := by decide +kernel
theorem dX7_takeNumber_53 : decode cX7_takeNumber 53 = .ok (.ireturn, 1) := by decide +kernel
theorem dX7_takeNumber_54 : decode cX7_takeNumber 54 = .ok (.aload_n 0, 1) := by decide +kernel
theorem dX7_takeNumber_55 : decode cX7_takeNumber 55 = .ok (.invokevirtual 218, 3) := by decide +kernel
theorem dX7_takeNumber_58 : decode cX7_takeNumber 58 = .ok (.bipush 48, 2) := by decide +kernel
theorem dX7_takeNumber_60 : decode cX7_takeNumber 60 = .ok (.isub, 1) := by decide +kernel
theorem dX7_takeNumber_61 : decode cX7_takeNumber 61 = .ok (.istore_n 3, 1) := by decide +kernel
theorem dX7_takeNumber_62 : decode cX7_takeNumber 62 = .ok (.aload_n 0, 1) := by decide +kernel
theorem dX7_takeNumber_63 : decode cX7_takeNumber 63 = .ok (.dup, 1) := by decide +kernel
theorem dX7_takeNumber_64 : decode cX7_takeNumber 64 = .ok (.getfield 211, 3) := by decide +kernel
theorem dX7_takeNumber_67 : decode cX7_takeNumber 67 = .ok (.iconst 1, 1) := by decide +kernel
theorem dX7_takeNumber_68 : decode cX7_takeNumber 68 = .ok (.iadd, 1) := by decide +kernel
theorem dX7_takeNumber_69 : decode cX7_takeNumber 69 = .ok (.putfield 211, 3) := by decide +kernel
theorem dX7_takeNumber_72 : decode cX7_takeNumber 72 = .ok (.iload_n 3, 1) := by decide +kernel
theorem dX7_takeNumber_73 : decode cX7_takeNumber 73 = .ok (.ifCond .le 59, 3) := by decide +kernel
theorem dX7_takeNumber_76 : decode cX7_takeNumber 76 = .ok (.aload_n 0, 1) := by decide +kernel
theorem dX7_takeNumber_77 : decode cX7_takeNumber 77 = .ok (.invokevirtual 218, 3) := by decide +kernel
theorem dX7_takeNumber_80 : decode cX7_takeNumber 80 = .ok (.bipush 48, 2) := by decide +kernel
theorem dX7_takeNumber_82 : decode cX7_takeNumber 82 = .ok (.bipush 57, 2) := by decide +kernel
theorem dX7_takeNumber_84 : decode cX7_takeNumber 84 = .ok (.invokestatic 43, 3) := by decide +kernel
theorem dX7_takeNumber_87 : decode cX7_takeNumber 87 = .ok (.ifCond .eq 45, 3) := by decide +kernel
theorem dX7_takeNumber_90 : decode cX7_takeNumber 90 = .ok (.bipush 10, 2) := by decide +kernel
theorem dX7_takeNumber_92 : decode cX7_takeNumber 92 = .ok (.iload_n 3, 1) := by decide +kernel
theorem dX7_takeNumber_93 : decode cX7_takeNumber 93 = .ok (.imul, 1) := by decide +kernel
theorem dX7_takeNumber_94 : decode cX7_takeNumber 94 = .ok (.aload_n 0, 1) := by decide +kernel
theorem dX7_takeNumber_95 : decode cX7_takeNumber 95 = .ok (.invokevirtual 218, 3) := by decide +kernel
theorem dX7_takeNumber_98 : decode cX7_takeNumber 98 = .ok (.iadd, 1) := by decide +kernel
theorem dX7_takeNumber_99 : decode cX7_takeNumber 99 = .ok (.bipush 48, 2) := by decide +kernel
theorem dX7_takeNumber_101 : decode cX7_takeNumber 101 = .ok (.isub, 1) := by decide +kernel
theorem dX7_takeNumber_102 : decode cX7_takeNumber 102 = .ok (.iload_n 2, 1) := by decide +kernel
theorem dX7_takeNumber_103 : decode cX7_takeNumber 103 = .ok (.if_icmp .gt 29, 3) := by decide +kernel
theorem dX7_takeNumber_106 : decode cX7_takeNumber 106 = .ok (.bipush 10, 2) := by decide +kernel
theorem dX7_takeNumber_108 : decode cX7_takeNumber 108 = .ok (.iload_n 3, 1) := by decide +kernel
theorem dX7_takeNumber_109 : decode cX7_takeNumber 109 = .ok (.imul, 1) := by decide +kernel
theorem dX7_takeNumber_110 : decode cX7_takeNumber 110 = .ok (.aload_n 0, 1) := by decide +kernel
theorem dX7_takeNumber_111 : decode cX7_takeNumber 111 = .ok (.invokevirtual 218, 3) := by decide +kernel
theorem dX7_takeNumber_114 : decode cX7_takeNumber 114 = .ok (.iadd, 1) := by decide +kernel
theorem dX7_takeNumber_115 : decode cX7_takeNumber 115 = .ok (.bipush 48, 2) := by decide +kernel
theorem dX7_takeNumber_117 : decode cX7_takeNumber 117 = .ok (.isub, 1) := by decide +kernel
theorem dX7_takeNumber_118 : decode cX7_takeNumber 118 = .ok (.istore_n 3, 1) := by decide +kernel
theorem dX7_takeNumber_119 : decode cX7_takeNumber 119 = .ok (.aload_n 0, 1) := by decide +kernel
theorem dX7_takeNumber_120 : decode cX7_takeNumber 120 = .ok (.dup, 1) := by decide +kernel
theorem dX7_takeNumber_121 : decode cX7_takeNumber 121 = .ok (.getfield 211, 3) := by decide +kernel
theorem dX7_takeNumber_124 : decode cX7_takeNumber 124 = .ok (.iconst 1, 1) := by decide +kernel
theorem dX7_takeNumber_125 : decode cX7_takeNumber 125 = .ok (.iadd, 1) := by decide +kernel
theorem dX7_takeNumber_126 : decode cX7_takeNumber 126 = .ok (.putfield 211, 3) := by decide +kernel
theorem dX7_takeNumber_129 : decode cX7_takeNumber 129 = .ok (.goto (-57), 3) := by decide +kernel
theorem dX7_takeNumber_132 : decode cX7_takeNumber 132 = .ok (.iload_n 3, 1) := by decide +kernel
theorem dX7_takeNumber_133 : decode cX7_takeNumber 133 = .ok (.ireturn, 1) := by decide +kernel
theorem dX7_need_0 : decode cX7_need 0 = .ok (.aload_n 0, 1) := by decide +kernel
theorem dX7_need_1 : decode cX7_need 1 = .ok (.aload_n 0, 1) := by decide +kernel
theorem dX7_need_2 : decode cX7_need 2 = .ok (.getfield 214, 3) := by decide +kernel
theorem dX7_need_5 : decode cX7_need 5 = .ok (.ifCond .ne 11, 3) := by decide +kernel
theorem dX7_need_8 : decode cX7_need 8 = .ok (.aload_n 0, 1) := by decide +kernel
theorem dX7_need_9 : decode cX7_need 9 = .ok (.invokevirtual 218, 3) := by decide +kernel
theorem dX7_need_12 : decode cX7_need 12 = .ok (.iload_n 1, 1) := by decide +kernel
theorem dX7_need_13 : decode cX7_need 13 = .ok (.if_icmp .eq 7, 3) := by decide +kernel
theorem dX7_need_16 : decode cX7_need 16 = .ok (.iconst 1, 1) := by decide +kernel
theorem dX7_need_17 : decode cX7_need 17 = .ok (.goto 4, 3) := by decide +kernel
theorem dX7_need_20 : decode cX7_need 20 = .ok (.iconst 0, 1) := by decide +kernel
theorem dX7_need_21 : decode cX7_need 21 = .ok (.putfield 214, 3) := by decide +kernel
theorem dX7_need_24 : decode cX7_need 24 = .ok (.aload_n 0, 1) := by decide +kernel
theorem dX7_need_25 : decode cX7_need 25 = .ok (.dup, 1) := by decide +kernel
theorem dX7_need_26 : decode cX7_need 26 = .ok (.getfield 211, 3) := by decide +kernel
theorem dX7_need_29 : decode cX7_need 29 = .ok (.aload_n 0, 1) := by decide +kernel
theorem dX7_need_30 : decode cX7_need 30 = .ok (.getfield 214, 3) := by decide +kernel
theorem dX7_need_33 : decode cX7_need 33 = .ok (.ifCond .eq 7, 3) := by decide +kernel
theorem dX7_need_36 : decode cX7_need 36 = .ok (.iconst 0, 1) := by decide +kernel
theorem dX7_need_37 : decode cX7_need 37 = .ok (.goto 4, 3) := by decide +kernel
theorem dX7_need_40 : decode cX7_need 40 = .ok (.iconst 1, 1) := by decide +kernel
theorem dX7_need_41 : decode cX7_need 41 = .ok (.iadd, 1) := by decide +kernel
theorem dX7_need_42 : decode cX7_need 42 = .ok (.putfield 211, 3) := by decide +kernel
theorem dX7_need_45 : decode cX7_need 45 = .ok (.return_, 1) := by decide +kernel
theorem dX7_takeAct_0 : decode cX7_takeAct 0 = .ok (.aload_n 0, 1) := by decide +kernel
theorem dX7_takeAct_1 : decode cX7_takeAct 1 = .ok (.invokevirtual 218, 3) := by decide +kernel
theorem dX7_takeAct_4 : decode cX7_takeAct 4 = .ok (.istore_n 1, 1) := by decide +kernel
theorem dX7_takeAct_5 : decode cX7_takeAct 5 = .ok (.iconst 3, 1) := by decide +kernel
theorem dX7_takeAct_6 : decode cX7_takeAct 6 = .ok (.aload_n 0, 1) := by decide +kernel
theorem dX7_takeAct_7 : decode cX7_takeAct 7 = .ok (.getfield 221, 3) := by decide +kernel
theorem dX7_takeAct_10 : decode cX7_takeAct 10 = .ok (.imul, 1) := by decide +kernel
theorem dX7_takeAct_11 : decode cX7_takeAct 11 = .ok (.istore_n 2, 1) := by decide +kernel
theorem dX7_takeAct_12 : decode cX7_takeAct 12 = .ok (.iload_n 1, 1) := by decide +kernel
theorem dX7_takeAct_13 : decode cX7_takeAct 13 = .ok (.bipush 115, 2) := by decide +kernel
theorem dX7_takeAct_15 : decode cX7_takeAct 15 = .ok (.if_icmp .eq 33, 3) := by decide +kernel
theorem dX7_takeAct_18 : decode cX7_takeAct 18 = .ok (.iload_n 1, 1) := by decide +kernel
theorem dX7_takeAct_19 : decode cX7_takeAct 19 = .ok (.bipush 98, 2) := by decide +kernel
theorem dX7_takeAct_21 : decode cX7_takeAct 21 = .ok (.if_icmp .eq 27, 3) := by decide +kernel
theorem dX7_takeAct_24 : decode cX7_takeAct 24 = .ok (.iload_n 1, 1) := by decide +kernel
theorem dX7_takeAct_25 : decode cX7_takeAct 25 = .ok (.bipush 112, 2) := by decide +kernel
theorem dX7_takeAct_27 : decode cX7_takeAct 27 = .ok (.if_icmp .eq 21, 3) := by decide +kernel
theorem dX7_takeAct_30 : decode cX7_takeAct 30 = .ok (.iload_n 1, 1) := by decide +kernel
theorem dX7_takeAct_31 : decode cX7_takeAct 31 = .ok (.bipush 109, 2) := by decide +kernel
theorem dX7_takeAct_33 : decode cX7_takeAct 33 = .ok (.if_icmp .eq 15, 3) := by decide +kernel
theorem dX7_takeAct_36 : decode cX7_takeAct 36 = .ok (.iload_n 1, 1) := by decide +kernel
theorem dX7_takeAct_37 : decode cX7_takeAct 37 = .ok (.bipush 102, 2) := by decide +kernel
theorem dX7_takeAct_39 : decode cX7_takeAct 39 = .ok (.if_icmp .eq 9, 3) := by decide +kernel
theorem dX7_takeAct_42 : decode cX7_takeAct 42 = .ok (.aload_n 0, 1) := by decide +kernel
theorem dX7_takeAct_43 : decode cX7_takeAct 43 = .ok (.iconst 1, 1) := by decide +kernel
theorem dX7_takeAct_44 : decode cX7_takeAct 44 = .ok (.putfield 214, 3) := by decide +kernel
theorem dX7_takeAct_47 : decode cX7_takeAct 47 = .ok (.return_, 1) := by decide +kernel
theorem dX7_takeAct_48 : decode cX7_takeAct 48 = .ok (.aload_n 0, 1) := by decide +kernel
theorem dX7_takeAct_49 : decode cX7_takeAct 49 = .ok (.dup, 1) := by decide +kernel
theorem dX7_takeAct_50 : decode cX7_takeAct 50 = .ok (.getfield 211, 3) := by decide +kernel
theorem dX7_takeAct_53 : decode cX7_takeAct 53 = .ok (.iconst 1, 1) := by decide +kernel
theorem dX7_takeAct_54 : decode cX7_takeAct 54 = .ok (.iadd, 1) := by decide +kernel
theorem dX7_takeAct_55 : decode cX7_takeAct 55 = .ok (.putfield 211, 3) := by decide +kernel
theorem dX7_takeAct_58 : decode cX7_takeAct 58 = .ok (.aload_n 0, 1) := by decide +kernel
theorem dX7_takeAct_59 : decode cX7_takeAct 59 = .ok (.getfield 36, 3) := by decide +kernel
theorem dX7_takeAct_62 : decode cX7_takeAct 62 = .ok (.iload_n 2, 1) := by decide +kernel
theorem dX7_takeAct_63 : decode cX7_takeAct 63 = .ok (.iload_n 1, 1) := by decide +kernel
theorem dX7_takeAct_64 : decode cX7_takeAct 64 = .ok (.iastore, 1) := by decide +kernel
theorem dX7_takeAct_65 : decode cX7_takeAct 65 = .ok (.aload_n 0, 1) := by decide +kernel
theorem dX7_takeAct_66 : decode cX7_takeAct 66 = .ok (.getfield 36, 3) := by decide +kernel
theorem dX7_takeAct_69 : decode cX7_takeAct 69 = .ok (.iload_n 2, 1) := by decide +kernel
theorem dX7_takeAct_70 : decode cX7_takeAct 70 = .ok (.iconst 1, 1) := by decide +kernel
theorem dX7_takeAct_71 : decode cX7_takeAct 71 = .ok (.iadd, 1) := by decide +kernel
theorem dX7_takeAct_72 : decode cX7_takeAct 72 = .ok (.iload_n 1, 1) := by decide +kernel
theorem dX7_takeAct_73 : decode cX7_takeAct 73 = .ok (.bipush 115, 2) := by decide +kernel
theorem dX7_takeAct_75 : decode cX7_takeAct 75 = .ok (.if_icmp .ne 12, 3) := by decide +kernel
theorem dX7_takeAct_78 : decode cX7_takeAct 78 = .ok (.aload_n 0, 1) := by decide +kernel
theorem dX7_takeAct_79 : decode cX7_takeAct 79 = .ok (.iconst 0, 1) := by decide +kernel
theorem dX7_takeAct_80 : decode cX7_takeAct 80 = .ok (.iconst 2, 1) := by decide +kernel
theorem dX7_takeAct_81 : decode cX7_takeAct 81 = .ok (.invokevirtual 224, 3) := by decide +kernel
theorem dX7_takeAct_84 : decode cX7_takeAct 84 = .ok (.goto 25, 3) := by decide +kernel
theorem dX7_takeAct_87 : decode cX7_takeAct 87 = .ok (.iload_n 1, 1) := by decide +kernel
theorem dX7_takeAct_88 : decode cX7_takeAct 88 = .ok (.bipush 98, 2) := by decide +kernel
theorem dX7_takeAct_90 : decode cX7_takeAct 90 = .ok (.if_icmp .eq 9, 3) := by decide +kernel
theorem dX7_takeAct_93 : decode cX7_takeAct 93 = .ok (.iload_n 1, 1) := by decide +kernel
theorem dX7_takeAct_94 : decode cX7_takeAct 94 = .ok (.bipush 112, 2) := by decide +kernel
theorem dX7_takeAct_96 : decode cX7_takeAct 96 = .ok (.if_icmp .ne 12, 3) := by decide +kernel
theorem dX7_takeAct_99 : decode cX7_takeAct 99 = .ok (.aload_n 0, 1) := by decide +kernel
theorem dX7_takeAct_100 : decode cX7_takeAct 100 = .ok (.iconst 0, 1) := by decide +kernel
theorem dX7_takeAct_101 : decode cX7_takeAct 101 = .ok (.iconst 5, 1) := by decide +kernel
theorem dX7_takeAct_102 : decode cX7_takeAct 102 = .ok (.invokevirtual 224, 3) := by decide +kernel
theorem dX7_takeAct_105 : decode cX7_takeAct 105 = .ok (.goto 4, 3) := by decide +kernel
theorem dX7_takeAct_108 : decode cX7_takeAct 108 = .ok (.iconst 0, 1) := by decide +kernel
theorem dX7_takeAct_109 : decode cX7_takeAct 109 = .ok (.iastore, 1) := by decide +kernel
theorem dX7_takeAct_110 : decode cX7_takeAct 110 = .ok (.iload_n 1, 1) := by decide +kernel
theorem dX7_takeAct_111 : decode cX7_takeAct 111 = .ok (.bipush 115, 2) := by decide +kernel
theorem dX7_takeAct_113 : decode cX7_takeAct 113 = .ok (.if_icmp .eq 9, 3) := by decide +kernel
theorem dX7_takeAct_116 : decode cX7_takeAct 116 = .ok (.iload_n 1, 1) := by decide +kernel
theorem dX7_takeAct_117 : decode cX7_takeAct 117 = .ok (.bipush 98, 2) := by decide +kernel
theorem dX7_takeAct_119 : decode cX7_takeAct 119 = .ok (.if_icmp .ne 35, 3) := by decide +kernel
theorem dX7_takeAct_122 : decode cX7_takeAct 122 = .ok (.aload_n 0, 1) := by decide +kernel
theorem dX7_takeAct_123 : decode cX7_takeAct 123 = .ok (.bipush 58, 2) := by decide +kernel
theorem dX7_takeAct_125 : decode cX7_takeAct 125 = .ok (.invokevirtual 227, 3) := by decide +kernel
theorem dX7_takeAct_128 : decode cX7_takeAct 128 = .ok (.aload_n 0, 1) := by decide +kernel
theorem dX7_takeAct_129 : decode cX7_takeAct 129 = .ok (.getfield 36, 3) := by decide +kernel
theorem dX7_takeAct_132 : decode cX7_takeAct 132 = .ok (.iload_n 2, 1) := by decide +kernel
theorem dX7_takeAct_133 : decode cX7_takeAct 133 = .ok (.iconst 2, 1) := by decide +kernel
theorem dX7_takeAct_134 : decode cX7_takeAct 134 = .ok (.iadd, 1) := by decide +kernel
theorem dX7_takeAct_135 : decode cX7_takeAct 135 = .ok (.aload_n 0, 1) := by decide +kernel
theorem dX7_takeAct_136 : decode cX7_takeAct 136 = .ok (.iload_n 1, 1) := by decide +kernel
theorem dX7_takeAct_137 : decode cX7_takeAct 137 = .ok (.bipush 115, 2) := by decide +kernel
theorem dX7_takeAct_139 : decode cX7_takeAct 139 = .ok (.if_icmp .ne 7, 3) := by decide +kernel
theorem dX7_takeAct_142 : decode cX7_takeAct 142 = .ok (.iconst 1, 1) := by decide +kernel
theorem dX7_takeAct_143 : decode cX7_takeAct 143 = .ok (.goto 4, 3) := by decide +kernel
theorem dX7_takeAct_146 : decode cX7_takeAct 146 = .ok (.iconst 0, 1) := by decide +kernel
theorem dX7_takeAct_147 : decode cX7_takeAct 147 = .ok (.sipush 300, 3) := by decide +kernel
theorem dX7_takeAct_150 : decode cX7_takeAct 150 = .ok (.invokevirtual 224, 3) := by decide +kernel
theorem dX7_takeAct_153 : decode cX7_takeAct 153 = .ok (.iastore, 1) := by decide +kernel
theorem dX7_takeAct_154 : decode cX7_takeAct 154 = .ok (.aload_n 0, 1) := by decide +kernel
theorem dX7_takeAct_155 : decode cX7_takeAct 155 = .ok (.dup, 1) := by decide +kernel
theorem dX7_takeAct_156 : decode cX7_takeAct 156 = .ok (.getfield 221, 3) := by decide +kernel
theorem dX7_takeAct_159 : decode cX7_takeAct 159 = .ok (.iconst 1, 1) := by decide +kernel
theorem dX7_takeAct_160 : decode cX7_takeAct 160 = .ok (.iadd, 1) := by decide +kernel
theorem dX7_takeAct_161 : decode cX7_takeAct 161 = .ok (.putfield 221, 3) := by decide +kernel
theorem dX7_takeAct_164 : decode cX7_takeAct 164 = .ok (.return_, 1) := by decide +kernel
theorem dX7_fault_0 : decode cX7_fault 0 = .ok (.aload_n 0, 1) := by decide +kernel
theorem dX7_fault_1 : decode cX7_fault 1 = .ok (.iconst 0, 1) := by decide +kernel
theorem dX7_fault_2 : decode cX7_fault 2 = .ok (.putfield 211, 3) := by decide +kernel
theorem dX7_fault_5 : decode cX7_fault 5 = .ok (.aload_n 0, 1) := by decide +kernel
theorem dX7_fault_6 : decode cX7_fault 6 = .ok (.iconst 0, 1) := by decide +kernel
theorem dX7_fault_7 : decode cX7_fault 7 = .ok (.putfield 214, 3) := by decide +kernel
theorem dX7_fault_10 : decode cX7_fault 10 = .ok (.aload_n 0, 1) := by decide +kernel
theorem dX7_fault_11 : decode cX7_fault 11 = .ok (.iconst 0, 1) := by decide +kernel
theorem dX7_fault_12 : decode cX7_fault 12 = .ok (.putfield 221, 3) := by decide +kernel
theorem dX7_fault_15 : decode cX7_fault 15 = .ok (.aload_n 0, 1) := by decide +kernel
theorem dX7_fault_16 : decode cX7_fault 16 = .ok (.invokevirtual 230, 3) := by decide +kernel
theorem dX7_fault_19 : decode cX7_fault 19 = .ok (.aload_n 0, 1) := by decide +kernel
theorem dX7_fault_20 : decode cX7_fault 20 = .ok (.getfield 214, 3) := by decide +kernel
theorem dX7_fault_23 : decode cX7_fault 23 = .ok (.ifCond .ne 29, 3) := by decide +kernel
theorem dX7_fault_26 : decode cX7_fault 26 = .ok (.aload_n 0, 1) := by decide +kernel
theorem dX7_fault_27 : decode cX7_fault 27 = .ok (.invokevirtual 218, 3) := by decide +kernel
theorem dX7_fault_30 : decode cX7_fault 30 = .ok (.bipush 44, 2) := by decide +kernel
theorem dX7_fault_32 : decode cX7_fault 32 = .ok (.if_icmp .ne 20, 3) := by decide +kernel
theorem dX7_fault_35 : decode cX7_fault 35 = .ok (.aload_n 0, 1) := by decide +kernel
theorem dX7_fault_36 : decode cX7_fault 36 = .ok (.dup, 1) := by decide +kernel
theorem dX7_fault_37 : decode cX7_fault 37 = .ok (.getfield 211, 3) := by decide +kernel
theorem dX7_fault_40 : decode cX7_fault 40 = .ok (.iconst 1, 1) := by decide +kernel
theorem dX7_fault_41 : decode cX7_fault 41 = .ok (.iadd, 1) := by decide +kernel
theorem dX7_fault_42 : decode cX7_fault 42 = .ok (.putfield 211, 3) := by decide +kernel
theorem dX7_fault_45 : decode cX7_fault 45 = .ok (.aload_n 0, 1) := by decide +kernel
theorem dX7_fault_46 : decode cX7_fault 46 = .ok (.invokevirtual 230, 3) := by decide +kernel
theorem dX7_fault_49 : decode cX7_fault 49 = .ok (.goto (-30), 3) := by decide +kernel
theorem dX7_fault_52 : decode cX7_fault 52 = .ok (.aload_n 0, 1) := by decide +kernel
theorem dX7_fault_53 : decode cX7_fault 53 = .ok (.getfield 214, 3) := by decide +kernel
theorem dX7_fault_56 : decode cX7_fault 56 = .ok (.ifCond .ne 14, 3) := by decide +kernel
theorem dX7_fault_59 : decode cX7_fault 59 = .ok (.aload_n 0, 1) := by decide +kernel
theorem dX7_fault_60 : decode cX7_fault 60 = .ok (.getfield 211, 3) := by decide +kernel
theorem dX7_fault_63 : decode cX7_fault 63 = .ok (.aload_n 0, 1) := by decide +kernel
theorem dX7_fault_64 : decode cX7_fault 64 = .ok (.getfield 178, 3) := by decide +kernel
theorem dX7_fault_67 : decode cX7_fault 67 = .ok (.if_icmp .ge 10, 3) := by decide +kernel
theorem dX7_fault_70 : decode cX7_fault 70 = .ok (.aload_n 0, 1) := by decide +kernel
theorem dX7_fault_71 : decode cX7_fault 71 = .ok (.getfield 211, 3) := by decide +kernel
theorem dX7_fault_74 : decode cX7_fault 74 = .ok (.goto 5, 3) := by decide +kernel
theorem dX7_fault_77 : decode cX7_fault 77 = .ok (.bipush (-6), 2) := by decide +kernel
theorem dX7_fault_79 : decode cX7_fault 79 = .ok (.ireturn, 1) := by decide +kernel
theorem dX7_does_0 : decode cX7_does 0 = .ok (.aload_n 0, 1) := by decide +kernel
theorem dX7_does_1 : decode cX7_does 1 = .ok (.getfield 36, 3) := by decide +kernel
theorem dX7_does_4 : decode cX7_does 4 = .ok (.iload_n 1, 1) := by decide +kernel
theorem dX7_does_5 : decode cX7_does 5 = .ok (.iaload, 1) := by decide +kernel
theorem dX7_does_6 : decode cX7_does 6 = .ok (.lookupswitch 102 #[(98, 63), (109, 97), (112, 84), (115, 42)], 42) := by decide +kernel
theorem dX7_does_48 : decode cX7_does 48 = .ok (.aload_n 0, 1) := by decide +kernel
theorem dX7_does_49 : decode cX7_does 49 = .ok (.aload_n 0, 1) := by decide +kernel
theorem dX7_does_50 : decode cX7_does 50 = .ok (.getfield 36, 3) := by decide +kernel
theorem dX7_does_53 : decode cX7_does 53 = .ok (.iload_n 1, 1) := by decide +kernel
theorem dX7_does_54 : decode cX7_does 54 = .ok (.iconst 1, 1) := by decide +kernel
theorem dX7_does_55 : decode cX7_does 55 = .ok (.iadd, 1) := by decide +kernel
theorem dX7_does_56 : decode cX7_does 56 = .ok (.iaload, 1) := by decide +kernel
theorem dX7_does_57 : decode cX7_does 57 = .ok (.aload_n 0, 1) := by decide +kernel
theorem dX7_does_58 : decode cX7_does 58 = .ok (.getfield 36, 3) := by decide +kernel
theorem dX7_does_61 : decode cX7_does 61 = .ok (.iload_n 1, 1) := by decide +kernel
theorem dX7_does_62 : decode cX7_does 62 = .ok (.iconst 2, 1) := by decide +kernel
theorem dX7_does_63 : decode cX7_does 63 = .ok (.iadd, 1) := by decide +kernel
theorem dX7_does_64 : decode cX7_does 64 = .ok (.iaload, 1) := by decide +kernel
theorem dX7_does_65 : decode cX7_does 65 = .ok (.invokevirtual 233, 3) := by decide +kernel
theorem dX7_does_68 : decode cX7_does 68 = .ok (.ireturn, 1) := by decide +kernel
theorem dX7_does_69 : decode cX7_does 69 = .ok (.aload_n 0, 1) := by decide +kernel
theorem dX7_does_70 : decode cX7_does 70 = .ok (.aload_n 0, 1) := by decide +kernel
theorem dX7_does_71 : decode cX7_does 71 = .ok (.getfield 36, 3) := by decide +kernel
theorem dX7_does_74 : decode cX7_does 74 = .ok (.iload_n 1, 1) := by decide +kernel
theorem dX7_does_75 : decode cX7_does 75 = .ok (.iconst 1, 1) := by decide +kernel
theorem dX7_does_76 : decode cX7_does 76 = .ok (.iadd, 1) := by decide +kernel
theorem dX7_does_77 : decode cX7_does 77 = .ok (.iaload, 1) := by decide +kernel
theorem dX7_does_78 : decode cX7_does 78 = .ok (.aload_n 0, 1) := by decide +kernel
theorem dX7_does_79 : decode cX7_does 79 = .ok (.getfield 36, 3) := by decide +kernel
theorem dX7_does_82 : decode cX7_does 82 = .ok (.iload_n 1, 1) := by decide +kernel
theorem dX7_does_83 : decode cX7_does 83 = .ok (.iconst 2, 1) := by decide +kernel
theorem dX7_does_84 : decode cX7_does 84 = .ok (.iadd, 1) := by decide +kernel
theorem dX7_does_85 : decode cX7_does 85 = .ok (.iaload, 1) := by decide +kernel
theorem dX7_does_86 : decode cX7_does 86 = .ok (.invokevirtual 236, 3) := by decide +kernel
theorem dX7_does_89 : decode cX7_does 89 = .ok (.ireturn, 1) := by decide +kernel
theorem dX7_does_90 : decode cX7_does 90 = .ok (.aload_n 0, 1) := by decide +kernel
theorem dX7_does_91 : decode cX7_does 91 = .ok (.aload_n 0, 1) := by decide +kernel
theorem dX7_does_92 : decode cX7_does 92 = .ok (.getfield 36, 3) := by decide +kernel
theorem dX7_does_95 : decode cX7_does 95 = .ok (.iload_n 1, 1) := by decide +kernel
theorem dX7_does_96 : decode cX7_does 96 = .ok (.iconst 1, 1) := by decide +kernel
theorem dX7_does_97 : decode cX7_does 97 = .ok (.iadd, 1) := by decide +kernel
theorem dX7_does_98 : decode cX7_does 98 = .ok (.iaload, 1) := by decide +kernel
theorem dX7_does_99 : decode cX7_does 99 = .ok (.invokevirtual 239, 3) := by decide +kernel
theorem dX7_does_102 : decode cX7_does 102 = .ok (.ireturn, 1) := by decide +kernel
theorem dX7_does_103 : decode cX7_does 103 = .ok (.aload_n 0, 1) := by decide +kernel
theorem dX7_does_104 : decode cX7_does 104 = .ok (.invokevirtual 242, 3) := by decide +kernel
theorem dX7_does_107 : decode cX7_does 107 = .ok (.ireturn, 1) := by decide +kernel
theorem dX7_does_108 : decode cX7_does 108 = .ok (.aload_n 0, 1) := by decide +kernel
theorem dX7_does_109 : decode cX7_does 109 = .ok (.invokevirtual 245, 3) := by decide +kernel
theorem dX7_does_112 : decode cX7_does 112 = .ok (.ireturn, 1) := by decide +kernel
theorem dX7_carryOut_0 : decode cX7_carryOut 0 = .ok (.aload_n 0, 1) := by decide +kernel
theorem dX7_carryOut_1 : decode cX7_carryOut 1 = .ok (.invokevirtual 248, 3) := by decide +kernel
theorem dX7_carryOut_4 : decode cX7_carryOut 4 = .ok (.bipush (-6), 2) := by decide +kernel
theorem dX7_carryOut_6 : decode cX7_carryOut 6 = .ok (.if_icmp .eq 6, 3) := by decide +kernel
theorem dX7_carryOut_9 : decode cX7_carryOut 9 = .ok (.bipush (-3), 2) := by decide +kernel
theorem dX7_carryOut_11 : decode cX7_carryOut 11 = .ok (.ireturn, 1) := by decide +kernel
theorem dX7_carryOut_12 : decode cX7_carryOut 12 = .ok (.iconst 0, 1) := by decide +kernel
theorem dX7_carryOut_13 : decode cX7_carryOut 13 = .ok (.istore_n 1, 1) := by decide +kernel
theorem dX7_carryOut_14 : decode cX7_carryOut 14 = .ok (.iconst 1, 1) := by decide +kernel
theorem dX7_carryOut_15 : decode cX7_carryOut 15 = .ok (.istore_n 2, 1) := by decide +kernel
theorem dX7_carryOut_16 : decode cX7_carryOut 16 = .ok (.iload_n 2, 1) := by decide +kernel
theorem dX7_carryOut_17 : decode cX7_carryOut 17 = .ok (.ifCond .eq 50, 3) := by decide +kernel
theorem dX7_carryOut_20 : decode cX7_carryOut 20 = .ok (.iload_n 1, 1) := by decide +kernel
theorem dX7_carryOut_21 : decode cX7_carryOut 21 = .ok (.aload_n 0, 1) := by decide +kernel
theorem dX7_carryOut_22 : decode cX7_carryOut 22 = .ok (.getfield 221, 3) := by decide +kernel
theorem dX7_carryOut_25 : decode cX7_carryOut 25 = .ok (.if_icmp .ge 42, 3) := by decide +kernel
theorem dX7_carryOut_28 : decode cX7_carryOut 28 = .ok (.aload_n 0, 1) := by decide +kernel
theorem dX7_carryOut_29 : decode cX7_carryOut 29 = .ok (.iconst 3, 1) := by decide +kernel
theorem dX7_carryOut_30 : decode cX7_carryOut 30 = .ok (.iload_n 1, 1) := by decide +kernel
theorem dX7_carryOut_31 : decode cX7_carryOut 31 = .ok (.imul, 1) := by decide +kernel
theorem dX7_carryOut_32 : decode cX7_carryOut 32 = .ok (.invokevirtual 251, 3) := by decide +kernel
theorem dX7_carryOut_35 : decode cX7_carryOut 35 = .ok (.istore_n 3, 1) := by decide +kernel
theorem dX7_carryOut_36 : decode cX7_carryOut 36 = .ok (.iload_n 3, 1) := by decide +kernel
theorem dX7_carryOut_37 : decode cX7_carryOut 37 = .ok (.ifCond .ge 9, 3) := by decide +kernel
theorem dX7_carryOut_40 : decode cX7_carryOut 40 = .ok (.iload_n 3, 1) := by decide +kernel
theorem dX7_carryOut_41 : decode cX7_carryOut 41 = .ok (.bipush (-6), 2) := by decide +kernel
theorem dX7_carryOut_43 : decode cX7_carryOut 43 = .ok (.if_icmp .ne 7, 3) := by decide +kernel
theorem dX7_carryOut_46 : decode cX7_carryOut 46 = .ok (.iconst 1, 1) := by decide +kernel
theorem dX7_carryOut_47 : decode cX7_carryOut 47 = .ok (.goto 4, 3) := by decide +kernel
theorem dX7_carryOut_50 : decode cX7_carryOut 50 = .ok (.iconst 0, 1) := by decide +kernel
theorem dX7_carryOut_51 : decode cX7_carryOut 51 = .ok (.istore_n 2, 1) := by decide +kernel
theorem dX7_carryOut_52 : decode cX7_carryOut 52 = .ok (.iload_n 1, 1) := by decide +kernel
theorem dX7_carryOut_53 : decode cX7_carryOut 53 = .ok (.iload_n 2, 1) := by decide +kernel
theorem dX7_carryOut_54 : decode cX7_carryOut 54 = .ok (.ifCond .eq 7, 3) := by decide +kernel
theorem dX7_carryOut_57 : decode cX7_carryOut 57 = .ok (.iconst 1, 1) := by decide +kernel
theorem dX7_carryOut_58 : decode cX7_carryOut 58 = .ok (.goto 4, 3) := by decide +kernel
theorem dX7_carryOut_61 : decode cX7_carryOut 61 = .ok (.iconst 0, 1) := by decide +kernel
theorem dX7_carryOut_62 : decode cX7_carryOut 62 = .ok (.iadd, 1) := by decide +kernel
theorem dX7_carryOut_63 : decode cX7_carryOut 63 = .ok (.istore_n 1, 1) := by decide +kernel
theorem dX7_carryOut_64 : decode cX7_carryOut 64 = .ok (.goto (-48), 3) := by decide +kernel
theorem dX7_carryOut_67 : decode cX7_carryOut 67 = .ok (.aload_n 0, 1) := by decide +kernel
theorem dX7_carryOut_68 : decode cX7_carryOut 68 = .ok (.iconst 0, 1) := by decide +kernel
theorem dX7_carryOut_69 : decode cX7_carryOut 69 = .ok (.putfield 178, 3) := by decide +kernel
theorem dX7_carryOut_72 : decode cX7_carryOut 72 = .ok (.iload_n 1, 1) := by decide +kernel
theorem dX7_carryOut_73 : decode cX7_carryOut 73 = .ok (.ireturn, 1) := by decide +kernel
theorem dX7_save_0 : decode cX7_save 0 = .ok (.iload_n 1, 1) := by decide +kernel
theorem dX7_save_1 : decode cX7_save 1 = .ok (.iconst 0, 1) := by decide +kernel
theorem dX7_save_2 : decode cX7_save 2 = .ok (.iconst 1, 1) := by decide +kernel
theorem dX7_save_3 : decode cX7_save 3 = .ok (.invokestatic 43, 3) := by decide +kernel
theorem dX7_save_6 : decode cX7_save 6 = .ok (.ifCond .ne 6, 3) := by decide +kernel
theorem dX7_save_9 : decode cX7_save 9 = .ok (.bipush (-2), 2) := by decide +kernel
theorem dX7_save_11 : decode cX7_save 11 = .ok (.ireturn, 1) := by decide +kernel
theorem dX7_save_12 : decode cX7_save 12 = .ok (.iconst 0, 1) := by decide +kernel
theorem dX7_save_13 : decode cX7_save 13 = .ok (.istore_n 2, 1) := by decide +kernel
theorem dX7_save_14 : decode cX7_save 14 = .ok (.iload_n 2, 1) := by decide +kernel
theorem dX7_save_15 : decode cX7_save 15 = .ok (.bipush 118, 2) := by decide +kernel
theorem dX7_save_17 : decode cX7_save 17 = .ok (.if_icmp .ge 26, 3) := by decide +kernel
theorem dX7_save_20 : decode cX7_save 20 = .ok (.aload_n 0, 1) := by decide +kernel
theorem dX7_save_21 : decode cX7_save 21 = .ok (.getfield 16, 3) := by decide +kernel
theorem dX7_save_24 : decode cX7_save 24 = .ok (.bipush 118, 2) := by decide +kernel
theorem dX7_save_26 : decode cX7_save 26 = .ok (.iload_n 1, 1) := by decide +kernel
theorem dX7_save_27 : decode cX7_save 27 = .ok (.imul, 1) := by decide +kernel
theorem dX7_save_28 : decode cX7_save 28 = .ok (.iload_n 2, 1) := by decide +kernel
theorem dX7_save_29 : decode cX7_save 29 = .ok (.iadd, 1) := by decide +kernel
theorem dX7_save_30 : decode cX7_save 30 = .ok (.aload_n 0, 1) := by decide +kernel
theorem dX7_save_31 : decode cX7_save 31 = .ok (.getfield 7, 3) := by decide +kernel
theorem dX7_save_34 : decode cX7_save 34 = .ok (.iload_n 2, 1) := by decide +kernel
theorem dX7_save_35 : decode cX7_save 35 = .ok (.iaload, 1) := by decide +kernel
theorem dX7_save_36 : decode cX7_save 36 = .ok (.iastore, 1) := by decide +kernel
theorem dX7_save_37 : decode cX7_save 37 = .ok (.iinc 2 1, 3) := by decide +kernel
theorem dX7_save_40 : decode cX7_save 40 = .ok (.goto (-26), 3) := by decide +kernel
theorem dX7_save_43 : decode cX7_save 43 = .ok (.aload_n 0, 1) := by decide +kernel
theorem dX7_save_44 : decode cX7_save 44 = .ok (.getfield 19, 3) := by decide +kernel
theorem dX7_save_47 : decode cX7_save 47 = .ok (.iload_n 1, 1) := by decide +kernel
theorem dX7_save_48 : decode cX7_save 48 = .ok (.iconst 1, 1) := by decide +kernel
theorem dX7_save_49 : decode cX7_save 49 = .ok (.bastore, 1) := by decide +kernel
theorem dX7_save_50 : decode cX7_save 50 = .ok (.aload_n 0, 1) := by decide +kernel
theorem dX7_save_51 : decode cX7_save 51 = .ok (.getfield 7, 3) := by decide +kernel
theorem dX7_save_54 : decode cX7_save 54 = .ok (.iconst 2, 1) := by decide +kernel
theorem dX7_save_55 : decode cX7_save 55 = .ok (.iaload, 1) := by decide +kernel
theorem dX7_save_56 : decode cX7_save 56 = .ok (.ireturn, 1) := by decide +kernel
theorem dX7_restore_0 : decode cX7_restore 0 = .ok (.iload_n 1, 1) := by decide +kernel
theorem dX7_restore_1 : decode cX7_restore 1 = .ok (.iconst 0, 1) := by decide +kernel
theorem dX7_restore_2 : decode cX7_restore 2 = .ok (.iconst 1, 1) := by decide +kernel
theorem dX7_restore_3 : decode cX7_restore 3 = .ok (.invokestatic 43, 3) := by decide +kernel
theorem dX7_restore_6 : decode cX7_restore 6 = .ok (.ifCond .ne 6, 3) := by decide +kernel
theorem dX7_restore_9 : decode cX7_restore 9 = .ok (.bipush (-2), 2) := by decide +kernel
theorem dX7_restore_11 : decode cX7_restore 11 = .ok (.ireturn, 1) := by decide +kernel
theorem dX7_restore_12 : decode cX7_restore 12 = .ok (.aload_n 0, 1) := by decide +kernel
theorem dX7_restore_13 : decode cX7_restore 13 = .ok (.getfield 19, 3) := by decide +kernel
theorem dX7_restore_16 : decode cX7_restore 16 = .ok (.iload_n 1, 1) := by decide +kernel
theorem dX7_restore_17 : decode cX7_restore 17 = .ok (.baload, 1) := by decide +kernel
theorem dX7_restore_18 : decode cX7_restore 18 = .ok (.ifCond .ne 6, 3) := by decide +kernel
theorem dX7_restore_21 : decode cX7_restore 21 = .ok (.bipush (-5), 2) := by decide +kernel
theorem dX7_restore_23 : decode cX7_restore 23 = .ok (.ireturn, 1) := by decide +kernel
theorem dX7_restore_24 : decode cX7_restore 24 = .ok (.iconst 0, 1) := by decide +kernel
theorem dX7_restore_25 : decode cX7_restore 25 = .ok (.istore_n 2, 1) := by decide +kernel
theorem dX7_restore_26 : decode cX7_restore 26 = .ok (.iload_n 2, 1) := by decide +kernel
theorem dX7_restore_27 : decode cX7_restore 27 = .ok (.bipush 118, 2) := by decide +kernel
theorem dX7_restore_29 : decode cX7_restore 29 = .ok (.if_icmp .ge 26, 3) := by decide +kernel
theorem dX7_restore_32 : decode cX7_restore 32 = .ok (.aload_n 0, 1) := by decide +kernel
theorem dX7_restore_33 : decode cX7_restore 33 = .ok (.getfield 7, 3) := by decide +kernel
theorem dX7_restore_36 : decode cX7_restore 36 = .ok (.iload_n 2, 1) := by decide +kernel
theorem dX7_restore_37 : decode cX7_restore 37 = .ok (.aload_n 0, 1) := by decide +kernel
theorem dX7_restore_38 : decode cX7_restore 38 = .ok (.getfield 16, 3) := by decide +kernel
theorem dX7_restore_41 : decode cX7_restore 41 = .ok (.bipush 118, 2) := by decide +kernel
theorem dX7_restore_43 : decode cX7_restore 43 = .ok (.iload_n 1, 1) := by decide +kernel
theorem dX7_restore_44 : decode cX7_restore 44 = .ok (.imul, 1) := by decide +kernel
theorem dX7_restore_45 : decode cX7_restore 45 = .ok (.iload_n 2, 1) := by decide +kernel
theorem dX7_restore_46 : decode cX7_restore 46 = .ok (.iadd, 1) := by decide +kernel
theorem dX7_restore_47 : decode cX7_restore 47 = .ok (.iaload, 1) := by decide +kernel
theorem dX7_restore_48 : decode cX7_restore 48 = .ok (.iastore, 1) := by decide +kernel
theorem dX7_restore_49 : decode cX7_restore 49 = .ok (.iinc 2 1, 3) := by decide +kernel
theorem dX7_restore_52 : decode cX7_restore 52 = .ok (.goto (-26), 3) := by decide +kernel
theorem dX7_restore_55 : decode cX7_restore 55 = .ok (.aload_n 0, 1) := by decide +kernel
theorem dX7_restore_56 : decode cX7_restore 56 = .ok (.getfield 7, 3) := by decide +kernel
theorem dX7_restore_59 : decode cX7_restore 59 = .ok (.iconst 2, 1) := by decide +kernel
theorem dX7_restore_60 : decode cX7_restore 60 = .ok (.iaload, 1) := by decide +kernel
theorem dX7_restore_61 : decode cX7_restore 61 = .ok (.ireturn, 1) := by decide +kernel
theorem dJ6_bitCount_0f7a4_0 : decode cJ6_bitCount_0f7a4 0 = .ok (.iload_n 0, 1) := by decide +kernel
theorem dJ6_bitCount_0f7a4_1 : decode cJ6_bitCount_0f7a4 1 = .ok (.iload_n 0, 1) := by decide +kernel
theorem dJ6_bitCount_0f7a4_2 : decode cJ6_bitCount_0f7a4 2 = .ok (.iconst 1, 1) := by decide +kernel
theorem dJ6_bitCount_0f7a4_3 : decode cJ6_bitCount_0f7a4 3 = .ok (.iushr, 1) := by decide +kernel
theorem dJ6_bitCount_0f7a4_4 : decode cJ6_bitCount_0f7a4 4 = .ok (.ldc_w 265, 3) := by decide +kernel
theorem dJ6_bitCount_0f7a4_7 : decode cJ6_bitCount_0f7a4 7 = .ok (.iand, 1) := by decide +kernel
theorem dJ6_bitCount_0f7a4_8 : decode cJ6_bitCount_0f7a4 8 = .ok (.isub, 1) := by decide +kernel
theorem dJ6_bitCount_0f7a4_9 : decode cJ6_bitCount_0f7a4 9 = .ok (.istore_n 0, 1) := by decide +kernel
theorem dJ6_bitCount_0f7a4_10 : decode cJ6_bitCount_0f7a4 10 = .ok (.iload_n 0, 1) := by decide +kernel
theorem dJ6_bitCount_0f7a4_11 : decode cJ6_bitCount_0f7a4 11 = .ok (.ldc_w 266, 3) := by decide +kernel
theorem dJ6_bitCount_0f7a4_14 : decode cJ6_bitCount_0f7a4 14 = .ok (.iand, 1) := by decide +kernel
theorem dJ6_bitCount_0f7a4_15 : decode cJ6_bitCount_0f7a4 15 = .ok (.iload_n 0, 1) := by decide +kernel
theorem dJ6_bitCount_0f7a4_16 : decode cJ6_bitCount_0f7a4 16 = .ok (.iconst 2, 1) := by decide +kernel
theorem dJ6_bitCount_0f7a4_17 : decode cJ6_bitCount_0f7a4 17 = .ok (.iushr, 1) := by decide +kernel
theorem dJ6_bitCount_0f7a4_18 : decode cJ6_bitCount_0f7a4 18 = .ok (.ldc_w 266, 3) := by decide +kernel
theorem dJ6_bitCount_0f7a4_21 : decode cJ6_bitCount_0f7a4 21 = .ok (.iand, 1) := by decide +kernel
theorem dJ6_bitCount_0f7a4_22 : decode cJ6_bitCount_0f7a4 22 = .ok (.iadd, 1) := by decide +kernel
theorem dJ6_bitCount_0f7a4_23 : decode cJ6_bitCount_0f7a4 23 = .ok (.istore_n 0, 1) := by decide +kernel
theorem dJ6_bitCount_0f7a4_24 : decode cJ6_bitCount_0f7a4 24 = .ok (.iload_n 0, 1) := by decide +kernel
theorem dJ6_bitCount_0f7a4_25 : decode cJ6_bitCount_0f7a4 25 = .ok (.iload_n 0, 1) := by decide +kernel
theorem dJ6_bitCount_0f7a4_26 : decode cJ6_bitCount_0f7a4 26 = .ok (.iconst 4, 1) := by decide +kernel
theorem dJ6_bitCount_0f7a4_27 : decode cJ6_bitCount_0f7a4 27 = .ok (.iushr, 1) := by decide +kernel
theorem dJ6_bitCount_0f7a4_28 : decode cJ6_bitCount_0f7a4 28 = .ok (.iadd, 1) := by decide +kernel
theorem dJ6_bitCount_0f7a4_29 : decode cJ6_bitCount_0f7a4 29 = .ok (.ldc_w 267, 3) := by decide +kernel
theorem dJ6_bitCount_0f7a4_32 : decode cJ6_bitCount_0f7a4 32 = .ok (.iand, 1) := by decide +kernel
theorem dJ6_bitCount_0f7a4_33 : decode cJ6_bitCount_0f7a4 33 = .ok (.istore_n 0, 1) := by decide +kernel
theorem dJ6_bitCount_0f7a4_34 : decode cJ6_bitCount_0f7a4 34 = .ok (.iload_n 0, 1) := by decide +kernel
theorem dJ6_bitCount_0f7a4_35 : decode cJ6_bitCount_0f7a4 35 = .ok (.iload_n 0, 1) := by decide +kernel
theorem dJ6_bitCount_0f7a4_36 : decode cJ6_bitCount_0f7a4 36 = .ok (.bipush 8, 2) := by decide +kernel
theorem dJ6_bitCount_0f7a4_38 : decode cJ6_bitCount_0f7a4 38 = .ok (.iushr, 1) := by decide +kernel
theorem dJ6_bitCount_0f7a4_39 : decode cJ6_bitCount_0f7a4 39 = .ok (.iadd, 1) := by decide +kernel
theorem dJ6_bitCount_0f7a4_40 : decode cJ6_bitCount_0f7a4 40 = .ok (.istore_n 0, 1) := by decide +kernel
theorem dJ6_bitCount_0f7a4_41 : decode cJ6_bitCount_0f7a4 41 = .ok (.iload_n 0, 1) := by decide +kernel
theorem dJ6_bitCount_0f7a4_42 : decode cJ6_bitCount_0f7a4 42 = .ok (.iload_n 0, 1) := by decide +kernel
theorem dJ6_bitCount_0f7a4_43 : decode cJ6_bitCount_0f7a4 43 = .ok (.bipush 16, 2) := by decide +kernel
theorem dJ6_bitCount_0f7a4_45 : decode cJ6_bitCount_0f7a4 45 = .ok (.iushr, 1) := by decide +kernel
theorem dJ6_bitCount_0f7a4_46 : decode cJ6_bitCount_0f7a4 46 = .ok (.iadd, 1) := by decide +kernel
theorem dJ6_bitCount_0f7a4_47 : decode cJ6_bitCount_0f7a4 47 = .ok (.istore_n 0, 1) := by decide +kernel
theorem dJ6_bitCount_0f7a4_48 : decode cJ6_bitCount_0f7a4 48 = .ok (.iload_n 0, 1) := by decide +kernel
theorem dJ6_bitCount_0f7a4_49 : decode cJ6_bitCount_0f7a4 49 = .ok (.bipush 63, 2) := by decide +kernel
theorem dJ6_bitCount_0f7a4_51 : decode cJ6_bitCount_0f7a4 51 = .ok (.iand, 1) := by decide +kernel
theorem dJ6_bitCount_0f7a4_52 : decode cJ6_bitCount_0f7a4 52 = .ok (.ireturn, 1) := by decide +kernel
theorem dL_law_0 : decode cL_law 0 = .ok (.new 7, 3) := by decide +kernel
theorem dL_law_3 : decode cL_law 3 = .ok (.dup, 1) := by decide +kernel
theorem dL_law_4 : decode cL_law 4 = .ok (.invokespecial 9, 3) := by decide +kernel
theorem dL_law_7 : decode cL_law 7 = .ok (.astore_n 1, 1) := by decide +kernel
theorem dL_law_8 : decode cL_law 8 = .ok (.new 10, 3) := by decide +kernel
theorem dL_law_11 : decode cL_law 11 = .ok (.dup, 1) := by decide +kernel
theorem dL_law_12 : decode cL_law 12 = .ok (.invokespecial 12, 3) := by decide +kernel
theorem dL_law_15 : decode cL_law 15 = .ok (.astore_n 2, 1) := by decide +kernel
theorem dL_law_16 : decode cL_law 16 = .ok (.iconst 0, 1) := by decide +kernel
theorem dL_law_17 : decode cL_law 17 = .ok (.istore_n 3, 1) := by decide +kernel
theorem dL_law_18 : decode cL_law 18 = .ok (.iload_n 3, 1) := by decide +kernel
theorem dL_law_19 : decode cL_law 19 = .ok (.aload_n 0, 1) := by decide +kernel
theorem dL_law_20 : decode cL_law 20 = .ok (.arraylength, 1) := by decide +kernel
theorem dL_law_21 : decode cL_law 21 = .ok (.iconst 4, 1) := by decide +kernel
theorem dL_law_22 : decode cL_law 22 = .ok (.isub, 1) := by decide +kernel
theorem dL_law_23 : decode cL_law 23 = .ok (.if_icmp .gt 855, 3) := by decide +kernel
theorem dL_law_26 : decode cL_law 26 = .ok (.aload_n 0, 1) := by decide +kernel
theorem dL_law_27 : decode cL_law 27 = .ok (.iload_n 3, 1) := by decide +kernel
theorem dL_law_28 : decode cL_law 28 = .ok (.iaload, 1) := by decide +kernel
theorem dL_law_29 : decode cL_law 29 = .ok (.bipush 31, 2) := by decide +kernel
theorem dL_law_31 : decode cL_law 31 = .ok (.iand, 1) := by decide +kernel
theorem dL_law_32 : decode cL_law 32 = .ok (.tableswitch 840 0 25 #[120, 143, 176, 209, 242, 275, 308, 341, 364, 377, 390, 423, 456, 489, 512, 545, 559, 593, 636, 669, 702, 755, 768, 781, 794, 817], 120) := by decide +kernel
theorem dL_law_152 : decode cL_law 152 = .ok (.aload_n 1, 1) := by decide +kernel
theorem dL_law_153 : decode cL_law 153 = .ok (.aload_n 0, 1) := by decide +kernel
theorem dL_law_154 : decode cL_law 154 = .ok (.iload_n 3, 1) := by decide +kernel
theorem dL_law_155 : decode cL_law 155 = .ok (.iconst 1, 1) := by decide +kernel
theorem dL_law_156 : decode cL_law 156 = .ok (.iadd, 1) := by decide +kernel
theorem dL_law_157 : decode cL_law 157 = .ok (.iaload, 1) := by decide +kernel
theorem dL_law_158 : decode cL_law 158 = .ok (.invokevirtual 13, 3) := by decide +kernel
theorem dL_law_161 : decode cL_law 161 = .ok (.aload_n 2, 1) := by decide +kernel
theorem dL_law_162 : decode cL_law 162 = .ok (.aload_n 0, 1) := by decide +kernel
theorem dL_law_163 : decode cL_law 163 = .ok (.iload_n 3, 1) := by decide +kernel
theorem dL_law_164 : decode cL_law 164 = .ok (.iconst 1, 1) := by decide +kernel
theorem dL_law_165 : decode cL_law 165 = .ok (.iadd, 1) := by decide +kernel
theorem dL_law_166 : decode cL_law 166 = .ok (.iaload, 1) := by decide +kernel
theorem dL_law_167 : decode cL_law 167 = .ok (.invokevirtual 17, 3) := by decide +kernel
theorem dL_law_170 : decode cL_law 170 = .ok (.if_icmp .eq 702, 3) := by decide +kernel
theorem dL_law_173 : decode cL_law 173 = .ok (.iconst 0, 1) := by decide +kernel
theorem dL_law_174 : decode cL_law 174 = .ok (.ireturn, 1) := by decide +kernel
theorem dL_law_175 : decode cL_law 175 = .ok (.aload_n 1, 1) := by decide +kernel
theorem dL_law_176 : decode cL_law 176 = .ok (.aload_n 0, 1) := by decide +kernel
theorem dL_law_177 : decode cL_law 177 = .ok (.iload_n 3, 1) := by decide +kernel
theorem dL_law_178 : decode cL_law 178 = .ok (.iconst 1, 1) := by decide +kernel
theorem dL_law_179 : decode cL_law 179 = .ok (.iadd, 1) := by decide +kernel
theorem dL_law_180 : decode cL_law 180 = .ok (.iaload, 1) := by decide +kernel
theorem dL_law_181 : decode cL_law 181 = .ok (.aload_n 0, 1) := by decide +kernel
theorem dL_law_182 : decode cL_law 182 = .ok (.iload_n 3, 1) := by decide +kernel
theorem dL_law_183 : decode cL_law 183 = .ok (.iconst 2, 1) := by decide +kernel
theorem dL_law_184 : decode cL_law 184 = .ok (.iadd, 1) := by decide +kernel
theorem dL_law_185 : decode cL_law 185 = .ok (.iaload, 1) := by decide +kernel
theorem dL_law_186 : decode cL_law 186 = .ok (.invokevirtual 18, 3) := by decide +kernel
theorem dL_law_189 : decode cL_law 189 = .ok (.aload_n 2, 1) := by decide +kernel
theorem dL_law_190 : decode cL_law 190 = .ok (.aload_n 0, 1) := by decide +kernel
theorem dL_law_191 : decode cL_law 191 = .ok (.iload_n 3, 1) := by decide +kernel
theorem dL_law_192 : decode cL_law 192 = .ok (.iconst 1, 1) := by decide +kernel
theorem dL_law_193 : decode cL_law 193 = .ok (.iadd, 1) := by decide +kernel
theorem dL_law_194 : decode cL_law 194 = .ok (.iaload, 1) := by decide +kernel
theorem dL_law_195 : decode cL_law 195 = .ok (.aload_n 0, 1) := by decide +kernel
theorem dL_law_196 : decode cL_law 196 = .ok (.iload_n 3, 1) := by decide +kernel
theorem dL_law_197 : decode cL_law 197 = .ok (.iconst 2, 1) := by decide +kernel
theorem dL_law_198 : decode cL_law 198 = .ok (.iadd, 1) := by decide +kernel
theorem dL_law_199 : decode cL_law 199 = .ok (.iaload, 1) := by decide +kernel
theorem dL_law_200 : decode cL_law 200 = .ok (.invokevirtual 22, 3) := by decide +kernel
theorem dL_law_203 : decode cL_law 203 = .ok (.if_icmp .eq 669, 3) := by decide +kernel
theorem dL_law_206 : decode cL_law 206 = .ok (.iconst 0, 1) := by decide +kernel
theorem dL_law_207 : decode cL_law 207 = .ok (.ireturn, 1) := by decide +kernel
theorem dL_law_208 : decode cL_law 208 = .ok (.aload_n 1, 1) := by decide +kernel
theorem dL_law_209 : decode cL_law 209 = .ok (.aload_n 0, 1) := by decide +kernel
theorem dL_law_210 : decode cL_law 210 = .ok (.iload_n 3, 1) := by decide +kernel
theorem dL_law_211 : decode cL_law 211 = .ok (.iconst 1, 1) := by decide +kernel
theorem dL_law_212 : decode cL_law 212 = .ok (.iadd, 1) := by decide +kernel
theorem dL_law_213 : decode cL_law 213 = .ok (.iaload, 1) := by decide +kernel
theorem dL_law_214 : decode cL_law 214 = .ok (.aload_n 0, 1) := by decide +kernel
theorem dL_law_215 : decode cL_law 215 = .ok (.iload_n 3, 1) := by decide +kernel
theorem dL_law_216 : decode cL_law 216 = .ok (.iconst 2, 1) := by decide +kernel
theorem dL_law_217 : decode cL_law 217 = .ok (.iadd, 1) := by decide +kernel
theorem dL_law_218 : decode cL_law 218 = .ok (.iaload, 1) := by decide +kernel
theorem dL_law_219 : decode cL_law 219 = .ok (.invokevirtual 23, 3) := by decide +kernel
theorem dL_law_222 : decode cL_law 222 = .ok (.aload_n 2, 1) := by decide +kernel
theorem dL_law_223 : decode cL_law 223 = .ok (.aload_n 0, 1) := by decide +kernel
theorem dL_law_224 : decode cL_law 224 = .ok (.iload_n 3, 1) := by decide +kernel
theorem dL_law_225 : decode cL_law 225 = .ok (.iconst 1, 1) := by decide +kernel
theorem dL_law_226 : decode cL_law 226 = .ok (.iadd, 1) := by decide +kernel
theorem dL_law_227 : decode cL_law 227 = .ok (.iaload, 1) := by decide +kernel
theorem dL_law_228 : decode cL_law 228 = .ok (.aload_n 0, 1) := by decide +kernel
theorem dL_law_229 : decode cL_law 229 = .ok (.iload_n 3, 1) := by decide +kernel
theorem dL_law_230 : decode cL_law 230 = .ok (.iconst 2, 1) := by decide +kernel
theorem dL_law_231 : decode cL_law 231 = .ok (.iadd, 1) := by decide +kernel
theorem dL_law_232 : decode cL_law 232 = .ok (.iaload, 1) := by decide +kernel
theorem dL_law_233 : decode cL_law 233 = .ok (.invokevirtual 26, 3) := by decide +kernel
theorem dL_law_236 : decode cL_law 236 = .ok (.if_icmp .eq 636, 3) := by decide +kernel
theorem dL_law_239 : decode cL_law 239 = .ok (.iconst 0, 1) := by decide +kernel
theorem dL_law_240 : decode cL_law 240 = .ok (.ireturn, 1) := by decide +kernel
theorem dL_law_241 : decode cL_law 241 = .ok (.aload_n 1, 1) := by decide +kernel
theorem dL_law_242 : decode cL_law 242 = .ok (.aload_n 0, 1) := by decide +kernel
theorem dL_law_243 : decode cL_law 243 = .ok (.iload_n 3, 1) := by decide +kernel
theorem dL_law_244 : decode cL_law 244 = .ok (.iconst 1, 1) := by decide +kernel
theorem dL_law_245 : decode cL_law 245 = .ok (.iadd, 1) := by decide +kernel
theorem dL_law_246 : decode cL_law 246 = .ok (.iaload, 1) := by decide +kernel
theorem dL_law_247 : decode cL_law 247 = .ok (.aload_n 0, 1) := by decide +kernel
theorem dL_law_248 : decode cL_law 248 = .ok (.iload_n 3, 1) := by decide +kernel
theorem dL_law_249 : decode cL_law 249 = .ok (.iconst 2, 1) := by decide +kernel
theorem dL_law_250 : decode cL_law 250 = .ok (.iadd, 1) := by decide +kernel
theorem dL_law_251 : decode cL_law 251 = .ok (.iaload, 1) := by decide +kernel
theorem dL_law_252 : decode cL_law 252 = .ok (.invokevirtual 27, 3) := by decide +kernel
theorem dL_law_255 : decode cL_law 255 = .ok (.aload_n 2, 1) := by decide +kernel
theorem dL_law_256 : decode cL_law 256 = .ok (.aload_n 0, 1) := by decide +kernel
theorem dL_law_257 : decode cL_law 257 = .ok (.iload_n 3, 1) := by decide +kernel
theorem dL_law_258 : decode cL_law 258 = .ok (.iconst 1, 1) := by decide +kernel
theorem dL_law_259 : decode cL_law 259 = .ok (.iadd, 1) := by decide +kernel
theorem dL_law_260 : decode cL_law 260 = .ok (.iaload, 1) := by decide +kernel
theorem dL_law_261 : decode cL_law 261 = .ok (.aload_n 0, 1) := by decide +kernel
theorem dL_law_262 : decode cL_law 262 = .ok (.iload_n 3, 1) := by decide +kernel
theorem dL_law_263 : decode cL_law 263 = .ok (.iconst 2, 1) := by decide +kernel
theorem dL_law_264 : decode cL_law 264 = .ok (.iadd, 1) := by decide +kernel
theorem dL_law_265 : decode cL_law 265 = .ok (.iaload, 1) := by decide +kernel
theorem dL_law_266 : decode cL_law 266 = .ok (.invokevirtual 30, 3) := by decide +kernel
theorem dL_law_269 : decode cL_law 269 = .ok (.if_icmp .eq 603, 3) := by decide +kernel
theorem dL_law_272 : decode cL_law 272 = .ok (.iconst 0, 1) := by decide +kernel
theorem dL_law_273 : decode cL_law 273 = .ok (.ireturn, 1) := by decide +kernel
theorem dL_law_274 : decode cL_law 274 = .ok (.aload_n 1, 1) := by decide +kernel
theorem dL_law_275 : decode cL_law 275 = .ok (.aload_n 0, 1) := by decide +kernel
theorem dL_law_276 : decode cL_law 276 = .ok (.iload_n 3, 1) := by decide +kernel
theorem dL_law_277 : decode cL_law 277 = .ok (.iconst 1, 1) := by decide +kernel
theorem dL_law_278 : decode cL_law 278 = .ok (.iadd, 1) := by decide +kernel
theorem dL_law_279 : decode cL_law 279 = .ok (.iaload, 1) := by decide +kernel
theorem dL_law_280 : decode cL_law 280 = .ok (.aload_n 0, 1) := by decide +kernel
theorem dL_law_281 : decode cL_law 281 = .ok (.iload_n 3, 1) := by decide +kernel
theorem dL_law_282 : decode cL_law 282 = .ok (.iconst 2, 1) := by decide +kernel
theorem dL_law_283 : decode cL_law 283 = .ok (.iadd, 1) := by decide +kernel
theorem dL_law_284 : decode cL_law 284 = .ok (.iaload, 1) := by decide +kernel
theorem dL_law_285 : decode cL_law 285 = .ok (.invokevirtual 31, 3) := by decide +kernel
theorem dL_law_288 : decode cL_law 288 = .ok (.aload_n 2, 1) := by decide +kernel
theorem dL_law_289 : decode cL_law 289 = .ok (.aload_n 0, 1) := by decide +kernel
theorem dL_law_290 : decode cL_law 290 = .ok (.iload_n 3, 1) := by decide +kernel
theorem dL_law_291 : decode cL_law 291 = .ok (.iconst 1, 1) := by decide +kernel
theorem dL_law_292 : decode cL_law 292 = .ok (.iadd, 1) := by decide +kernel
theorem dL_law_293 : decode cL_law 293 = .ok (.iaload, 1) := by decide +kernel
theorem dL_law_294 : decode cL_law 294 = .ok (.aload_n 0, 1) := by decide +kernel
theorem dL_law_295 : decode cL_law 295 = .ok (.iload_n 3, 1) := by decide +kernel
theorem dL_law_296 : decode cL_law 296 = .ok (.iconst 2, 1) := by decide +kernel
theorem dL_law_297 : decode cL_law 297 = .ok (.iadd, 1) := by decide +kernel
theorem dL_law_298 : decode cL_law 298 = .ok (.iaload, 1) := by decide +kernel
theorem dL_law_299 : decode cL_law 299 = .ok (.invokevirtual 34, 3) := by decide +kernel
theorem dL_law_302 : decode cL_law 302 = .ok (.if_icmp .eq 570, 3) := by decide +kernel
theorem dL_law_305 : decode cL_law 305 = .ok (.iconst 0, 1) := by decide +kernel
theorem dL_law_306 : decode cL_law 306 = .ok (.ireturn, 1) := by decide +kernel
theorem dL_law_307 : decode cL_law 307 = .ok (.aload_n 1, 1) := by decide +kernel
theorem dL_law_308 : decode cL_law 308 = .ok (.aload_n 0, 1) := by decide +kernel
theorem dL_law_309 : decode cL_law 309 = .ok (.iload_n 3, 1) := by decide +kernel
theorem dL_law_310 : decode cL_law 310 = .ok (.iconst 1, 1) := by decide +kernel
theorem dL_law_311 : decode cL_law 311 = .ok (.iadd, 1) := by decide +kernel
theorem dL_law_312 : decode cL_law 312 = .ok (.iaload, 1) := by decide +kernel
theorem dL_law_313 : decode cL_law 313 = .ok (.aload_n 0, 1) := by decide +kernel
theorem dL_law_314 : decode cL_law 314 = .ok (.iload_n 3, 1) := by decide +kernel
theorem dL_law_315 : decode cL_law 315 = .ok (.iconst 2, 1) := by decide +kernel
theorem dL_law_316 : decode cL_law 316 = .ok (.iadd, 1) := by decide +kernel
theorem dL_law_317 : decode cL_law 317 = .ok (.iaload, 1) := by decide +kernel
theorem dL_law_318 : decode cL_law 318 = .ok (.invokevirtual 35, 3) := by decide +kernel
theorem dL_law_321 : decode cL_law 321 = .ok (.aload_n 2, 1) := by decide +kernel
theorem dL_law_322 : decode cL_law 322 = .ok (.aload_n 0, 1) := by decide +kernel
theorem dL_law_323 : decode cL_law 323 = .ok (.iload_n 3, 1) := by decide +kernel
theorem dL_law_324 : decode cL_law 324 = .ok (.iconst 1, 1) := by decide +kernel
theorem dL_law_325 : decode cL_law 325 = .ok (.iadd, 1) := by decide +kernel
theorem dL_law_326 : decode cL_law 326 = .ok (.iaload, 1) := by decide +kernel
theorem dL_law_327 : decode cL_law 327 = .ok (.aload_n 0, 1) := by decide +kernel
theorem dL_law_328 : decode cL_law 328 = .ok (.iload_n 3, 1) := by decide +kernel
theorem dL_law_329 : decode cL_law 329 = .ok (.iconst 2, 1) := by decide +kernel
theorem dL_law_330 : decode cL_law 330 = .ok (.iadd, 1) := by decide +kernel
theorem dL_law_331 : decode cL_law 331 = .ok (.iaload, 1) := by decide +kernel
theorem dL_law_332 : decode cL_law 332 = .ok (.invokevirtual 38, 3) := by decide +kernel
theorem dL_law_335 : decode cL_law 335 = .ok (.if_icmp .eq 537, 3) := by decide +kernel
theorem dL_law_338 : decode cL_law 338 = .ok (.iconst 0, 1) := by decide +kernel
theorem dL_law_339 : decode cL_law 339 = .ok (.ireturn, 1) := by decide +kernel
theorem dL_law_340 : decode cL_law 340 = .ok (.aload_n 1, 1) := by decide +kernel
theorem dL_law_341 : decode cL_law 341 = .ok (.aload_n 0, 1) := by decide +kernel
theorem dL_law_342 : decode cL_law 342 = .ok (.iload_n 3, 1) := by decide +kernel
theorem dL_law_343 : decode cL_law 343 = .ok (.iconst 1, 1) := by decide +kernel
theorem dL_law_344 : decode cL_law 344 = .ok (.iadd, 1) := by decide +kernel
theorem dL_law_345 : decode cL_law 345 = .ok (.iaload, 1) := by decide +kernel
theorem dL_law_346 : decode cL_law 346 = .ok (.aload_n 0, 1) := by decide +kernel
theorem dL_law_347 : decode cL_law 347 = .ok (.iload_n 3, 1) := by decide +kernel
theorem dL_law_348 : decode cL_law 348 = .ok (.iconst 2, 1) := by decide +kernel
theorem dL_law_349 : decode cL_law 349 = .ok (.iadd, 1) := by decide +kernel
theorem dL_law_350 : decode cL_law 350 = .ok (.iaload, 1) := by decide +kernel
theorem dL_law_351 : decode cL_law 351 = .ok (.invokevirtual 39, 3) := by decide +kernel
theorem dL_law_354 : decode cL_law 354 = .ok (.aload_n 2, 1) := by decide +kernel
theorem dL_law_355 : decode cL_law 355 = .ok (.aload_n 0, 1) := by decide +kernel
theorem dL_law_356 : decode cL_law 356 = .ok (.iload_n 3, 1) := by decide +kernel
theorem dL_law_357 : decode cL_law 357 = .ok (.iconst 1, 1) := by decide +kernel
theorem dL_law_358 : decode cL_law 358 = .ok (.iadd, 1) := by decide +kernel
theorem dL_law_359 : decode cL_law 359 = .ok (.iaload, 1) := by decide +kernel
theorem dL_law_360 : decode cL_law 360 = .ok (.aload_n 0, 1) := by decide +kernel
theorem dL_law_361 : decode cL_law 361 = .ok (.iload_n 3, 1) := by decide +kernel
theorem dL_law_362 : decode cL_law 362 = .ok (.iconst 2, 1) := by decide +kernel
theorem dL_law_363 : decode cL_law 363 = .ok (.iadd, 1) := by decide +kernel
theorem dL_law_364 : decode cL_law 364 = .ok (.iaload, 1) := by decide +kernel
theorem dL_law_365 : decode cL_law 365 = .ok (.invokevirtual 42, 3) := by decide +kernel
theorem dL_law_368 : decode cL_law 368 = .ok (.if_icmp .eq 504, 3) := by decide +kernel
theorem dL_law_371 : decode cL_law 371 = .ok (.iconst 0, 1) := by decide +kernel
theorem dL_law_372 : decode cL_law 372 = .ok (.ireturn, 1) := by decide +kernel
theorem dL_law_373 : decode cL_law 373 = .ok (.aload_n 1, 1) := by decide +kernel
theorem dL_law_374 : decode cL_law 374 = .ok (.aload_n 0, 1) := by decide +kernel
theorem dL_law_375 : decode cL_law 375 = .ok (.iload_n 3, 1) := by decide +kernel
theorem dL_law_376 : decode cL_law 376 = .ok (.iconst 1, 1) := by decide +kernel
theorem dL_law_377 : decode cL_law 377 = .ok (.iadd, 1) := by decide +kernel
theorem dL_law_378 : decode cL_law 378 = .ok (.iaload, 1) := by decide +kernel
theorem dL_law_379 : decode cL_law 379 = .ok (.invokevirtual 43, 3) := by decide +kernel
theorem dL_law_382 : decode cL_law 382 = .ok (.aload_n 2, 1) := by decide +kernel
theorem dL_law_383 : decode cL_law 383 = .ok (.aload_n 0, 1) := by decide +kernel
theorem dL_law_384 : decode cL_law 384 = .ok (.iload_n 3, 1) := by decide +kernel
theorem dL_law_385 : decode cL_law 385 = .ok (.iconst 1, 1) := by decide +kernel
theorem dL_law_386 : decode cL_law 386 = .ok (.iadd, 1) := by decide +kernel
theorem dL_law_387 : decode cL_law 387 = .ok (.iaload, 1) := by decide +kernel
theorem dL_law_388 : decode cL_law 388 = .ok (.invokevirtual 46, 3) := by decide +kernel
theorem dL_law_391 : decode cL_law 391 = .ok (.if_icmp .eq 481, 3) := by decide +kernel
theorem dL_law_394 : decode cL_law 394 = .ok (.iconst 0, 1) := by decide +kernel
theorem dL_law_395 : decode cL_law 395 = .ok (.ireturn, 1) := by decide +kernel
theorem dL_law_396 : decode cL_law 396 = .ok (.aload_n 1, 1) := by decide +kernel
theorem dL_law_397 : decode cL_law 397 = .ok (.invokevirtual 47, 3) := by decide +kernel
theorem dL_law_400 : decode cL_law 400 = .ok (.aload_n 2, 1) := by decide +kernel
theorem dL_law_401 : decode cL_law 401 = .ok (.invokevirtual 51, 3) := by decide +kernel
theorem dL_law_404 : decode cL_law 404 = .ok (.if_icmp .eq 468, 3) := by decide +kernel
theorem dL_law_407 : decode cL_law 407 = .ok (.iconst 0, 1) := by decide +kernel
theorem dL_law_408 : decode cL_law 408 = .ok (.ireturn, 1) := by decide +kernel
theorem dL_law_409 : decode cL_law 409 = .ok (.aload_n 1, 1) := by decide +kernel
theorem dL_law_410 : decode cL_law 410 = .ok (.invokevirtual 52, 3) := by decide +kernel
theorem dL_law_413 : decode cL_law 413 = .ok (.aload_n 2, 1) := by decide +kernel
theorem dL_law_414 : decode cL_law 414 = .ok (.invokevirtual 55, 3) := by decide +kernel
theorem dL_law_417 : decode cL_law 417 = .ok (.if_icmp .eq 455, 3) := by decide +kernel
theorem dL_law_420 : decode cL_law 420 = .ok (.iconst 0, 1) := by decide +kernel
theorem dL_law_421 : decode cL_law 421 = .ok (.ireturn, 1) := by decide +kernel
theorem dL_law_422 : decode cL_law 422 = .ok (.aload_n 1, 1) := by decide +kernel
theorem dL_law_423 : decode cL_law 423 = .ok (.aload_n 0, 1) := by decide +kernel
theorem dL_law_424 : decode cL_law 424 = .ok (.iload_n 3, 1) := by decide +kernel
theorem dL_law_425 : decode cL_law 425 = .ok (.iconst 1, 1) := by decide +kernel
theorem dL_law_426 : decode cL_law 426 = .ok (.iadd, 1) := by decide +kernel
theorem dL_law_427 : decode cL_law 427 = .ok (.iaload, 1) := by decide +kernel
theorem dL_law_428 : decode cL_law 428 = .ok (.aload_n 0, 1) := by decide +kernel
theorem dL_law_429 : decode cL_law 429 = .ok (.iload_n 3, 1) := by decide +kernel
theorem dL_law_430 : decode cL_law 430 = .ok (.iconst 2, 1) := by decide +kernel
theorem dL_law_431 : decode cL_law 431 = .ok (.iadd, 1) := by decide +kernel
theorem dL_law_432 : decode cL_law 432 = .ok (.iaload, 1) := by decide +kernel
theorem dL_law_433 : decode cL_law 433 = .ok (.invokevirtual 56, 3) := by decide +kernel
theorem dL_law_436 : decode cL_law 436 = .ok (.aload_n 2, 1) := by decide +kernel
theorem dL_law_437 : decode cL_law 437 = .ok (.aload_n 0, 1) := by decide +kernel
theorem dL_law_438 : decode cL_law 438 = .ok (.iload_n 3, 1) := by decide +kernel
theorem dL_law_439 : decode cL_law 439 = .ok (.iconst 1, 1) := by decide +kernel
theorem dL_law_440 : decode cL_law 440 = .ok (.iadd, 1) := by decide +kernel
theorem dL_law_441 : decode cL_law 441 = .ok (.iaload, 1) := by decide +kernel
theorem dL_law_442 : decode cL_law 442 = .ok (.aload_n 0, 1) := by decide +kernel
theorem dL_law_443 : decode cL_law 443 = .ok (.iload_n 3, 1) := by decide +kernel
theorem dL_law_444 : decode cL_law 444 = .ok (.iconst 2, 1) := by decide +kernel
theorem dL_law_445 : decode cL_law 445 = .ok (.iadd, 1) := by decide +kernel
theorem dL_law_446 : decode cL_law 446 = .ok (.iaload, 1) := by decide +kernel
theorem dL_law_447 : decode cL_law 447 = .ok (.invokevirtual 59, 3) := by decide +kernel
theorem dL_law_450 : decode cL_law 450 = .ok (.if_icmp .eq 422, 3) := by decide +kernel
theorem dL_law_453 : decode cL_law 453 = .ok (.iconst 0, 1) := by decide +kernel
theorem dL_law_454 : decode cL_law 454 = .ok (.ireturn, 1) := by decide +kernel
theorem dL_law_455 : decode cL_law 455 = .ok (.aload_n 1, 1) := by decide +kernel
theorem dL_law_456 : decode cL_law 456 = .ok (.aload_n 0, 1) := by decide +kernel
theorem dL_law_457 : decode cL_law 457 = .ok (.iload_n 3, 1) := by decide +kernel
theorem dL_law_458 : decode cL_law 458 = .ok (.iconst 1, 1) := by decide +kernel
theorem dL_law_459 : decode cL_law 459 = .ok (.iadd, 1) := by decide +kernel
theorem dL_law_460 : decode cL_law 460 = .ok (.iaload, 1) := by decide +kernel
theorem dL_law_461 : decode cL_law 461 = .ok (.aload_n 0, 1) := by decide +kernel
theorem dL_law_462 : decode cL_law 462 = .ok (.iload_n 3, 1) := by decide +kernel
theorem dL_law_463 : decode cL_law 463 = .ok (.iconst 2, 1) := by decide +kernel
theorem dL_law_464 : decode cL_law 464 = .ok (.iadd, 1) := by decide +kernel
theorem dL_law_465 : decode cL_law 465 = .ok (.iaload, 1) := by decide +kernel
theorem dL_law_466 : decode cL_law 466 = .ok (.invokevirtual 60, 3) := by decide +kernel
theorem dL_law_469 : decode cL_law 469 = .ok (.aload_n 2, 1) := by decide +kernel
theorem dL_law_470 : decode cL_law 470 = .ok (.aload_n 0, 1) := by decide +kernel
theorem dL_law_471 : decode cL_law 471 = .ok (.iload_n 3, 1) := by decide +kernel
theorem dL_law_472 : decode cL_law 472 = .ok (.iconst 1, 1) := by decide +kernel
theorem dL_law_473 : decode cL_law 473 = .ok (.iadd, 1) := by decide +kernel
theorem dL_law_474 : decode cL_law 474 = .ok (.iaload, 1) := by decide +kernel
theorem dL_law_475 : decode cL_law 475 = .ok (.aload_n 0, 1) := by decide +kernel
theorem dL_law_476 : decode cL_law 476 = .ok (.iload_n 3, 1) := by decide +kernel
theorem dL_law_477 : decode cL_law 477 = .ok (.iconst 2, 1) := by decide +kernel
theorem dL_law_478 : decode cL_law 478 = .ok (.iadd, 1) := by decide +kernel
theorem dL_law_479 : decode cL_law 479 = .ok (.iaload, 1) := by decide +kernel
theorem dL_law_480 : decode cL_law 480 = .ok (.invokevirtual 63, 3) := by decide +kernel
theorem dL_law_483 : decode cL_law 483 = .ok (.if_icmp .eq 389, 3) := by decide +kernel
theorem dL_law_486 : decode cL_law 486 = .ok (.iconst 0, 1) := by decide +kernel
theorem dL_law_487 : decode cL_law 487 = .ok (.ireturn, 1) := by decide +kernel
theorem dL_law_488 : decode cL_law 488 = .ok (.aload_n 1, 1) := by decide +kernel
theorem dL_law_489 : decode cL_law 489 = .ok (.aload_n 0, 1) := by decide +kernel
theorem dL_law_490 : decode cL_law 490 = .ok (.iload_n 3, 1) := by decide +kernel
theorem dL_law_491 : decode cL_law 491 = .ok (.iconst 1, 1) := by decide +kernel
theorem dL_law_492 : decode cL_law 492 = .ok (.iadd, 1) := by decide +kernel
theorem dL_law_493 : decode cL_law 493 = .ok (.iaload, 1) := by decide +kernel
theorem dL_law_494 : decode cL_law 494 = .ok (.aload_n 0, 1) := by decide +kernel
theorem dL_law_495 : decode cL_law 495 = .ok (.iload_n 3, 1) := by decide +kernel
theorem dL_law_496 : decode cL_law 496 = .ok (.iconst 2, 1) := by decide +kernel
theorem dL_law_497 : decode cL_law 497 = .ok (.iadd, 1) := by decide +kernel
theorem dL_law_498 : decode cL_law 498 = .ok (.iaload, 1) := by decide +kernel
theorem dL_law_499 : decode cL_law 499 = .ok (.invokevirtual 64, 3) := by decide +kernel
theorem dL_law_502 : decode cL_law 502 = .ok (.aload_n 2, 1) := by decide +kernel
theorem dL_law_503 : decode cL_law 503 = .ok (.aload_n 0, 1) := by decide +kernel
theorem dL_law_504 : decode cL_law 504 = .ok (.iload_n 3, 1) := by decide +kernel
theorem dL_law_505 : decode cL_law 505 = .ok (.iconst 1, 1) := by decide +kernel
theorem dL_law_506 : decode cL_law 506 = .ok (.iadd, 1) := by decide +kernel
theorem dL_law_507 : decode cL_law 507 = .ok (.iaload, 1) := by decide +kernel
theorem dL_law_508 : decode cL_law 508 = .ok (.aload_n 0, 1) := by decide +kernel
theorem dL_law_509 : decode cL_law 509 = .ok (.iload_n 3, 1) := by decide +kernel
theorem dL_law_510 : decode cL_law 510 = .ok (.iconst 2, 1) := by decide +kernel
theorem dL_law_511 : decode cL_law 511 = .ok (.iadd, 1) := by decide +kernel
theorem dL_law_512 : decode cL_law 512 = .ok (.iaload, 1) := by decide +kernel
theorem dL_law_513 : decode cL_law 513 = .ok (.invokevirtual 67, 3) := by decide +kernel
theorem dL_law_516 : decode cL_law 516 = .ok (.if_icmp .eq 356, 3) := by decide +kernel
theorem dL_law_519 : decode cL_law 519 = .ok (.iconst 0, 1) := by decide +kernel
theorem dL_law_520 : decode cL_law 520 = .ok (.ireturn, 1) := by decide +kernel
theorem dL_law_521 : decode cL_law 521 = .ok (.aload_n 1, 1) := by decide +kernel
theorem dL_law_522 : decode cL_law 522 = .ok (.aload_n 0, 1) := by decide +kernel
theorem dL_law_523 : decode cL_law 523 = .ok (.iload_n 3, 1) := by decide +kernel
theorem dL_law_524 : decode cL_law 524 = .ok (.iconst 1, 1) := by decide +kernel
theorem dL_law_525 : decode cL_law 525 = .ok (.iadd, 1) := by decide +kernel
theorem dL_law_526 : decode cL_law 526 = .ok (.iaload, 1) := by decide +kernel
theorem dL_law_527 : decode cL_law 527 = .ok (.invokevirtual 68, 3) := by decide +kernel
theorem dL_law_530 : decode cL_law 530 = .ok (.aload_n 2, 1) := by decide +kernel
theorem dL_law_531 : decode cL_law 531 = .ok (.aload_n 0, 1) := by decide +kernel
theorem dL_law_532 : decode cL_law 532 = .ok (.iload_n 3, 1) := by decide +kernel
theorem dL_law_533 : decode cL_law 533 = .ok (.iconst 1, 1) := by decide +kernel
theorem dL_law_534 : decode cL_law 534 = .ok (.iadd, 1) := by decide +kernel
theorem dL_law_535 : decode cL_law 535 = .ok (.iaload, 1) := by decide +kernel
theorem dL_law_536 : decode cL_law 536 = .ok (.invokevirtual 71, 3) := by decide +kernel
theorem dL_law_539 : decode cL_law 539 = .ok (.if_icmp .eq 333, 3) := by decide +kernel
theorem dL_law_542 : decode cL_law 542 = .ok (.iconst 0, 1) := by decide +kernel
theorem dL_law_543 : decode cL_law 543 = .ok (.ireturn, 1) := by decide +kernel
theorem dL_law_544 : decode cL_law 544 = .ok (.aload_n 1, 1) := by decide +kernel
theorem dL_law_545 : decode cL_law 545 = .ok (.aload_n 0, 1) := by decide +kernel
theorem dL_law_546 : decode cL_law 546 = .ok (.iload_n 3, 1) := by decide +kernel
theorem dL_law_547 : decode cL_law 547 = .ok (.iconst 1, 1) := by decide +kernel
theorem dL_law_548 : decode cL_law 548 = .ok (.iadd, 1) := by decide +kernel
theorem dL_law_549 : decode cL_law 549 = .ok (.iaload, 1) := by decide +kernel
theorem dL_law_550 : decode cL_law 550 = .ok (.aload_n 0, 1) := by decide +kernel
theorem dL_law_551 : decode cL_law 551 = .ok (.iload_n 3, 1) := by decide +kernel
theorem dL_law_552 : decode cL_law 552 = .ok (.iconst 2, 1) := by decide +kernel
theorem dL_law_553 : decode cL_law 553 = .ok (.iadd, 1) := by decide +kernel
theorem dL_law_554 : decode cL_law 554 = .ok (.iaload, 1) := by decide +kernel
theorem dL_law_555 : decode cL_law 555 = .ok (.invokevirtual 72, 3) := by decide +kernel
theorem dL_law_558 : decode cL_law 558 = .ok (.aload_n 2, 1) := by decide +kernel
theorem dL_law_559 : decode cL_law 559 = .ok (.aload_n 0, 1) := by decide +kernel
theorem dL_law_560 : decode cL_law 560 = .ok (.iload_n 3, 1) := by decide +kernel
theorem dL_law_561 : decode cL_law 561 = .ok (.iconst 1, 1) := by decide +kernel
theorem dL_law_562 : decode cL_law 562 = .ok (.iadd, 1) := by decide +kernel
theorem dL_law_563 : decode cL_law 563 = .ok (.iaload, 1) := by decide +kernel
theorem dL_law_564 : decode cL_law 564 = .ok (.aload_n 0, 1) := by decide +kernel
theorem dL_law_565 : decode cL_law 565 = .ok (.iload_n 3, 1) := by decide +kernel
theorem dL_law_566 : decode cL_law 566 = .ok (.iconst 2, 1) := by decide +kernel
theorem dL_law_567 : decode cL_law 567 = .ok (.iadd, 1) := by decide +kernel
theorem dL_law_568 : decode cL_law 568 = .ok (.iaload, 1) := by decide +kernel
theorem dL_law_569 : decode cL_law 569 = .ok (.invokevirtual 75, 3) := by decide +kernel
theorem dL_law_572 : decode cL_law 572 = .ok (.if_icmp .eq 300, 3) := by decide +kernel
theorem dL_law_575 : decode cL_law 575 = .ok (.iconst 0, 1) := by decide +kernel
theorem dL_law_576 : decode cL_law 576 = .ok (.ireturn, 1) := by decide +kernel
theorem dL_law_577 : decode cL_law 577 = .ok (.aload_n 1, 1) := by decide +kernel
theorem dL_law_578 : decode cL_law 578 = .ok (.invokevirtual 76, 3) := by decide +kernel
theorem dL_law_581 : decode cL_law 581 = .ok (.aload_n 2, 1) := by decide +kernel
theorem dL_law_582 : decode cL_law 582 = .ok (.invokevirtual 80, 3) := by decide +kernel
theorem dL_law_585 : decode cL_law 585 = .ok (.lcmp, 1) := by decide +kernel
theorem dL_law_586 : decode cL_law 586 = .ok (.ifCond .eq 286, 3) := by decide +kernel
theorem dL_law_589 : decode cL_law 589 = .ok (.iconst 0, 1) := by decide +kernel
theorem dL_law_590 : decode cL_law 590 = .ok (.ireturn, 1) := by decide +kernel
theorem dL_law_591 : decode cL_law 591 = .ok (.aload_n 1, 1) := by decide +kernel
theorem dL_law_592 : decode cL_law 592 = .ok (.aload_n 0, 1) := by decide +kernel
theorem dL_law_593 : decode cL_law 593 = .ok (.iload_n 3, 1) := by decide +kernel
theorem dL_law_594 : decode cL_law 594 = .ok (.iconst 1, 1) := by decide +kernel
theorem dL_law_595 : decode cL_law 595 = .ok (.iadd, 1) := by decide +kernel
theorem dL_law_596 : decode cL_law 596 = .ok (.iaload, 1) := by decide +kernel
theorem dL_law_597 : decode cL_law 597 = .ok (.aload_n 0, 1) := by decide +kernel
theorem dL_law_598 : decode cL_law 598 = .ok (.iload_n 3, 1) := by decide +kernel
theorem dL_law_599 : decode cL_law 599 = .ok (.iconst 2, 1) := by decide +kernel
theorem dL_law_600 : decode cL_law 600 = .ok (.iadd, 1) := by decide +kernel
theorem dL_law_601 : decode cL_law 601 = .ok (.iaload, 1) := by decide +kernel
theorem dL_law_602 : decode cL_law 602 = .ok (.invokevirtual 81, 3) := by decide +kernel
theorem dL_law_605 : decode cL_law 605 = .ok (.aload_n 2, 1) := by decide +kernel
theorem dL_law_606 : decode cL_law 606 = .ok (.aload_n 0, 1) := by decide +kernel
theorem dL_law_607 : decode cL_law 607 = .ok (.iload_n 3, 1) := by decide +kernel
theorem dL_law_608 : decode cL_law 608 = .ok (.iconst 1, 1) := by decide +kernel
theorem dL_law_609 : decode cL_law 609 = .ok (.iadd, 1) := by decide +kernel
theorem dL_law_610 : decode cL_law 610 = .ok (.iaload, 1) := by decide +kernel
theorem dL_law_611 : decode cL_law 611 = .ok (.aload_n 0, 1) := by decide +kernel
theorem dL_law_612 : decode cL_law 612 = .ok (.iload_n 3, 1) := by decide +kernel
theorem dL_law_613 : decode cL_law 613 = .ok (.iconst 2, 1) := by decide +kernel
theorem dL_law_614 : decode cL_law 614 = .ok (.iadd, 1) := by decide +kernel
theorem dL_law_615 : decode cL_law 615 = .ok (.iaload, 1) := by decide +kernel
theorem dL_law_616 : decode cL_law 616 = .ok (.invokevirtual 85, 3) := by decide +kernel
theorem dL_law_619 : decode cL_law 619 = .ok (.lcmp, 1) := by decide +kernel
theorem dL_law_620 : decode cL_law 620 = .ok (.ifCond .eq 252, 3) := by decide +kernel
theorem dL_law_623 : decode cL_law 623 = .ok (.iconst 0, 1) := by decide +kernel
theorem dL_law_624 : decode cL_law 624 = .ok (.ireturn, 1) := by decide +kernel
theorem dL_law_625 : decode cL_law 625 = .ok (.aload_n 1, 1) := by decide +kernel
theorem dL_law_626 : decode cL_law 626 = .ok (.aload_n 0, 1) := by decide +kernel
theorem dL_law_627 : decode cL_law 627 = .ok (.iload_n 3, 1) := by decide +kernel
theorem dL_law_628 : decode cL_law 628 = .ok (.iconst 1, 1) := by decide +kernel
theorem dL_law_629 : decode cL_law 629 = .ok (.iadd, 1) := by decide +kernel
theorem dL_law_630 : decode cL_law 630 = .ok (.iaload, 1) := by decide +kernel
theorem dL_law_631 : decode cL_law 631 = .ok (.aload_n 0, 1) := by decide +kernel
theorem dL_law_632 : decode cL_law 632 = .ok (.iload_n 3, 1) := by decide +kernel
theorem dL_law_633 : decode cL_law 633 = .ok (.iconst 2, 1) := by decide +kernel
theorem dL_law_634 : decode cL_law 634 = .ok (.iadd, 1) := by decide +kernel
theorem dL_law_635 : decode cL_law 635 = .ok (.iaload, 1) := by decide +kernel
theorem dL_law_636 : decode cL_law 636 = .ok (.aload_n 0, 1) := by decide +kernel
theorem dL_law_637 : decode cL_law 637 = .ok (.iload_n 3, 1) := by decide +kernel
theorem dL_law_638 : decode cL_law 638 = .ok (.iconst 3, 1) := by decide +kernel
theorem dL_law_639 : decode cL_law 639 = .ok (.iadd, 1) := by decide +kernel
theorem dL_law_640 : decode cL_law 640 = .ok (.iaload, 1) := by decide +kernel
theorem dL_law_641 : decode cL_law 641 = .ok (.invokevirtual 86, 3) := by decide +kernel
theorem dL_law_644 : decode cL_law 644 = .ok (.aload_n 2, 1) := by decide +kernel
theorem dL_law_645 : decode cL_law 645 = .ok (.aload_n 0, 1) := by decide +kernel
theorem dL_law_646 : decode cL_law 646 = .ok (.iload_n 3, 1) := by decide +kernel
theorem dL_law_647 : decode cL_law 647 = .ok (.iconst 1, 1) := by decide +kernel
theorem dL_law_648 : decode cL_law 648 = .ok (.iadd, 1) := by decide +kernel
theorem dL_law_649 : decode cL_law 649 = .ok (.iaload, 1) := by decide +kernel
theorem dL_law_650 : decode cL_law 650 = .ok (.aload_n 0, 1) := by decide +kernel
theorem dL_law_651 : decode cL_law 651 = .ok (.iload_n 3, 1) := by decide +kernel
theorem dL_law_652 : decode cL_law 652 = .ok (.iconst 2, 1) := by decide +kernel
theorem dL_law_653 : decode cL_law 653 = .ok (.iadd, 1) := by decide +kernel
theorem dL_law_654 : decode cL_law 654 = .ok (.iaload, 1) := by decide +kernel
theorem dL_law_655 : decode cL_law 655 = .ok (.aload_n 0, 1) := by decide +kernel
theorem dL_law_656 : decode cL_law 656 = .ok (.iload_n 3, 1) := by decide +kernel
theorem dL_law_657 : decode cL_law 657 = .ok (.iconst 3, 1) := by decide +kernel
theorem dL_law_658 : decode cL_law 658 = .ok (.iadd, 1) := by decide +kernel
theorem dL_law_659 : decode cL_law 659 = .ok (.iaload, 1) := by decide +kernel
theorem dL_law_660 : decode cL_law 660 = .ok (.invokevirtual 90, 3) := by decide +kernel
theorem dL_law_663 : decode cL_law 663 = .ok (.if_icmp .eq 209, 3) := by decide +kernel
theorem dL_law_666 : decode cL_law 666 = .ok (.iconst 0, 1) := by decide +kernel
theorem dL_law_667 : decode cL_law 667 = .ok (.ireturn, 1) := by decide +kernel
theorem dL_law_668 : decode cL_law 668 = .ok (.aload_n 1, 1) := by decide +kernel
theorem dL_law_669 : decode cL_law 669 = .ok (.aload_n 0, 1) := by decide +kernel
theorem dL_law_670 : decode cL_law 670 = .ok (.iload_n 3, 1) := by decide +kernel
theorem dL_law_671 : decode cL_law 671 = .ok (.iconst 1, 1) := by decide +kernel
theorem dL_law_672 : decode cL_law 672 = .ok (.iadd, 1) := by decide +kernel
theorem dL_law_673 : decode cL_law 673 = .ok (.iaload, 1) := by decide +kernel
theorem dL_law_674 : decode cL_law 674 = .ok (.aload_n 0, 1) := by decide +kernel
theorem dL_law_675 : decode cL_law 675 = .ok (.iload_n 3, 1) := by decide +kernel
theorem dL_law_676 : decode cL_law 676 = .ok (.iconst 2, 1) := by decide +kernel
theorem dL_law_677 : decode cL_law 677 = .ok (.iadd, 1) := by decide +kernel
theorem dL_law_678 : decode cL_law 678 = .ok (.iaload, 1) := by decide +kernel
theorem dL_law_679 : decode cL_law 679 = .ok (.invokevirtual 91, 3) := by decide +kernel
theorem dL_law_682 : decode cL_law 682 = .ok (.aload_n 2, 1) := by decide +kernel
theorem dL_law_683 : decode cL_law 683 = .ok (.aload_n 0, 1) := by decide +kernel
theorem dL_law_684 : decode cL_law 684 = .ok (.iload_n 3, 1) := by decide +kernel
theorem dL_law_685 : decode cL_law 685 = .ok (.iconst 1, 1) := by decide +kernel
theorem dL_law_686 : decode cL_law 686 = .ok (.iadd, 1) := by decide +kernel
theorem dL_law_687 : decode cL_law 687 = .ok (.iaload, 1) := by decide +kernel
theorem dL_law_688 : decode cL_law 688 = .ok (.aload_n 0, 1) := by decide +kernel
theorem dL_law_689 : decode cL_law 689 = .ok (.iload_n 3, 1) := by decide +kernel
theorem dL_law_690 : decode cL_law 690 = .ok (.iconst 2, 1) := by decide +kernel
theorem dL_law_691 : decode cL_law 691 = .ok (.iadd, 1) := by decide +kernel
theorem dL_law_692 : decode cL_law 692 = .ok (.iaload, 1) := by decide +kernel
theorem dL_law_693 : decode cL_law 693 = .ok (.invokevirtual 94, 3) := by decide +kernel
theorem dL_law_696 : decode cL_law 696 = .ok (.if_icmp .eq 176, 3) := by decide +kernel
theorem dL_law_699 : decode cL_law 699 = .ok (.iconst 0, 1) := by decide +kernel
theorem dL_law_700 : decode cL_law 700 = .ok (.ireturn, 1) := by decide +kernel
theorem dL_law_701 : decode cL_law 701 = .ok (.aload_n 1, 1) := by decide +kernel
theorem dL_law_702 : decode cL_law 702 = .ok (.aload_n 0, 1) := by decide +kernel
theorem dL_law_703 : decode cL_law 703 = .ok (.iload_n 3, 1) := by decide +kernel
theorem dL_law_704 : decode cL_law 704 = .ok (.iconst 1, 1) := by decide +kernel
theorem dL_law_705 : decode cL_law 705 = .ok (.iadd, 1) := by decide +kernel
theorem dL_law_706 : decode cL_law 706 = .ok (.iaload, 1) := by decide +kernel
theorem dL_law_707 : decode cL_law 707 = .ok (.aload_n 0, 1) := by decide +kernel
theorem dL_law_708 : decode cL_law 708 = .ok (.iload_n 3, 1) := by decide +kernel
theorem dL_law_709 : decode cL_law 709 = .ok (.iconst 2, 1) := by decide +kernel
theorem dL_law_710 : decode cL_law 710 = .ok (.iadd, 1) := by decide +kernel
theorem dL_law_711 : decode cL_law 711 = .ok (.iaload, 1) := by decide +kernel
theorem dL_law_712 : decode cL_law 712 = .ok (.invokevirtual 95, 3) := by decide +kernel
theorem dL_law_715 : decode cL_law 715 = .ok (.aload_n 2, 1) := by decide +kernel
theorem dL_law_716 : decode cL_law 716 = .ok (.aload_n 0, 1) := by decide +kernel
theorem dL_law_717 : decode cL_law 717 = .ok (.iload_n 3, 1) := by decide +kernel
theorem dL_law_718 : decode cL_law 718 = .ok (.iconst 1, 1) := by decide +kernel
theorem dL_law_719 : decode cL_law 719 = .ok (.iadd, 1) := by decide +kernel
theorem dL_law_720 : decode cL_law 720 = .ok (.iaload, 1) := by decide +kernel
theorem dL_law_721 : decode cL_law 721 = .ok (.aload_n 0, 1) := by decide +kernel
theorem dL_law_722 : decode cL_law 722 = .ok (.iload_n 3, 1) := by decide +kernel
theorem dL_law_723 : decode cL_law 723 = .ok (.iconst 2, 1) := by decide +kernel
theorem dL_law_724 : decode cL_law 724 = .ok (.iadd, 1) := by decide +kernel
theorem dL_law_725 : decode cL_law 725 = .ok (.iaload, 1) := by decide +kernel
theorem dL_law_726 : decode cL_law 726 = .ok (.invokevirtual 98, 3) := by decide +kernel
theorem dL_law_729 : decode cL_law 729 = .ok (.if_icmp .eq 143, 3) := by decide +kernel
theorem dL_law_732 : decode cL_law 732 = .ok (.iconst 0, 1) := by decide +kernel
theorem dL_law_733 : decode cL_law 733 = .ok (.ireturn, 1) := by decide +kernel
theorem dL_law_734 : decode cL_law 734 = .ok (.aload_n 1, 1) := by decide +kernel
theorem dL_law_735 : decode cL_law 735 = .ok (.aload_n 0, 1) := by decide +kernel
theorem dL_law_736 : decode cL_law 736 = .ok (.iload_n 3, 1) := by decide +kernel
theorem dL_law_737 : decode cL_law 737 = .ok (.iconst 1, 1) := by decide +kernel
theorem dL_law_738 : decode cL_law 738 = .ok (.iadd, 1) := by decide +kernel
theorem dL_law_739 : decode cL_law 739 = .ok (.iaload, 1) := by decide +kernel
theorem dL_law_740 : decode cL_law 740 = .ok (.i2l, 1) := by decide +kernel
theorem dL_law_741 : decode cL_law 741 = .ok (.bipush 32, 2) := by decide +kernel
theorem dL_law_743 : decode cL_law 743 = .ok (.lshl, 1) := by decide +kernel
theorem dL_law_744 : decode cL_law 744 = .ok (.aload_n 0, 1) := by decide +kernel
theorem dL_law_745 : decode cL_law 745 = .ok (.iload_n 3, 1) := by decide +kernel
theorem dL_law_746 : decode cL_law 746 = .ok (.iconst 2, 1) := by decide +kernel
theorem dL_law_747 : decode cL_law 747 = .ok (.iadd, 1) := by decide +kernel
theorem dL_law_748 : decode cL_law 748 = .ok (.iaload, 1) := by decide +kernel
theorem dL_law_749 : decode cL_law 749 = .ok (.i2l, 1) := by decide +kernel
theorem dL_law_750 : decode cL_law 750 = .ok (.ldc2_w 99, 3) := by decide +kernel
theorem dL_law_753 : decode cL_law 753 = .ok (.land, 1) := by decide +kernel
theorem dL_law_754 : decode cL_law 754 = .ok (.lor, 1) := by decide +kernel
theorem dL_law_755 : decode cL_law 755 = .ok (.invokevirtual 101, 3) := by decide +kernel
theorem dL_law_758 : decode cL_law 758 = .ok (.aload_n 2, 1) := by decide +kernel
theorem dL_law_759 : decode cL_law 759 = .ok (.aload_n 0, 1) := by decide +kernel
theorem dL_law_760 : decode cL_law 760 = .ok (.iload_n 3, 1) := by decide +kernel
theorem dL_law_761 : decode cL_law 761 = .ok (.iconst 1, 1) := by decide +kernel
theorem dL_law_762 : decode cL_law 762 = .ok (.iadd, 1) := by decide +kernel
theorem dL_law_763 : decode cL_law 763 = .ok (.iaload, 1) := by decide +kernel
theorem dL_law_764 : decode cL_law 764 = .ok (.i2l, 1) := by decide +kernel
theorem dL_law_765 : decode cL_law 765 = .ok (.bipush 32, 2) := by decide +kernel
theorem dL_law_767 : decode cL_law 767 = .ok (.lshl, 1) := by decide +kernel
theorem dL_law_768 : decode cL_law 768 = .ok (.aload_n 0, 1) := by decide +kernel
theorem dL_law_769 : decode cL_law 769 = .ok (.iload_n 3, 1) := by decide +kernel
theorem dL_law_770 : decode cL_law 770 = .ok (.iconst 2, 1) := by decide +kernel
theorem dL_law_771 : decode cL_law 771 = .ok (.iadd, 1) := by decide +kernel
theorem dL_law_772 : decode cL_law 772 = .ok (.iaload, 1) := by decide +kernel
theorem dL_law_773 : decode cL_law 773 = .ok (.i2l, 1) := by decide +kernel
theorem dL_law_774 : decode cL_law 774 = .ok (.ldc2_w 99, 3) := by decide +kernel
theorem dL_law_777 : decode cL_law 777 = .ok (.land, 1) := by decide +kernel
theorem dL_law_778 : decode cL_law 778 = .ok (.lor, 1) := by decide +kernel
theorem dL_law_779 : decode cL_law 779 = .ok (.invokevirtual 105, 3) := by decide +kernel
theorem dL_law_782 : decode cL_law 782 = .ok (.if_icmp .eq 90, 3) := by decide +kernel
theorem dL_law_785 : decode cL_law 785 = .ok (.iconst 0, 1) := by decide +kernel
theorem dL_law_786 : decode cL_law 786 = .ok (.ireturn, 1) := by decide +kernel
theorem dL_law_787 : decode cL_law 787 = .ok (.aload_n 1, 1) := by decide +kernel
theorem dL_law_788 : decode cL_law 788 = .ok (.invokevirtual 106, 3) := by decide +kernel
theorem dL_law_791 : decode cL_law 791 = .ok (.aload_n 2, 1) := by decide +kernel
theorem dL_law_792 : decode cL_law 792 = .ok (.invokevirtual 109, 3) := by decide +kernel
theorem dL_law_795 : decode cL_law 795 = .ok (.if_icmp .eq 77, 3) := by decide +kernel
theorem dL_law_798 : decode cL_law 798 = .ok (.iconst 0, 1) := by decide +kernel
theorem dL_law_799 : decode cL_law 799 = .ok (.ireturn, 1) := by decide +kernel
theorem dL_law_800 : decode cL_law 800 = .ok (.aload_n 1, 1) := by decide +kernel
theorem dL_law_801 : decode cL_law 801 = .ok (.invokevirtual 110, 3) := by decide +kernel
theorem dL_law_804 : decode cL_law 804 = .ok (.aload_n 2, 1) := by decide +kernel
theorem dL_law_805 : decode cL_law 805 = .ok (.invokevirtual 113, 3) := by decide +kernel
theorem dL_law_808 : decode cL_law 808 = .ok (.if_icmp .eq 64, 3) := by decide +kernel
theorem dL_law_811 : decode cL_law 811 = .ok (.iconst 0, 1) := by decide +kernel
theorem dL_law_812 : decode cL_law 812 = .ok (.ireturn, 1) := by decide +kernel
theorem dL_law_813 : decode cL_law 813 = .ok (.aload_n 1, 1) := by decide +kernel
theorem dL_law_814 : decode cL_law 814 = .ok (.invokevirtual 114, 3) := by decide +kernel
theorem dL_law_817 : decode cL_law 817 = .ok (.aload_n 2, 1) := by decide +kernel
theorem dL_law_818 : decode cL_law 818 = .ok (.invokevirtual 117, 3) := by decide +kernel
theorem dL_law_821 : decode cL_law 821 = .ok (.if_icmp .eq 51, 3) := by decide +kernel
theorem dL_law_824 : decode cL_law 824 = .ok (.iconst 0, 1) := by decide +kernel
theorem dL_law_825 : decode cL_law 825 = .ok (.ireturn, 1) := by decide +kernel
theorem dL_law_826 : decode cL_law 826 = .ok (.aload_n 1, 1) := by decide +kernel
theorem dL_law_827 : decode cL_law 827 = .ok (.aload_n 0, 1) := by decide +kernel
theorem dL_law_828 : decode cL_law 828 = .ok (.iload_n 3, 1) := by decide +kernel
theorem dL_law_829 : decode cL_law 829 = .ok (.iconst 1, 1) := by decide +kernel
theorem dL_law_830 : decode cL_law 830 = .ok (.iadd, 1) := by decide +kernel
theorem dL_law_831 : decode cL_law 831 = .ok (.iaload, 1) := by decide +kernel
theorem dL_law_832 : decode cL_law 832 = .ok (.invokevirtual 118, 3) := by decide +kernel
theorem dL_law_835 : decode cL_law 835 = .ok (.aload_n 2, 1) := by decide +kernel
theorem dL_law_836 : decode cL_law 836 = .ok (.aload_n 0, 1) := by decide +kernel
theorem dL_law_837 : decode cL_law 837 = .ok (.iload_n 3, 1) := by decide +kernel
theorem dL_law_838 : decode cL_law 838 = .ok (.iconst 1, 1) := by decide +kernel
theorem dL_law_839 : decode cL_law 839 = .ok (.iadd, 1) := by decide +kernel
theorem dL_law_840 : decode cL_law 840 = .ok (.iaload, 1) := by decide +kernel
theorem dL_law_841 : decode cL_law 841 = .ok (.invokevirtual 121, 3) := by decide +kernel
theorem dL_law_844 : decode cL_law 844 = .ok (.if_icmp .eq 28, 3) := by decide +kernel
theorem dL_law_847 : decode cL_law 847 = .ok (.iconst 0, 1) := by decide +kernel
theorem dL_law_848 : decode cL_law 848 = .ok (.ireturn, 1) := by decide +kernel
theorem dL_law_849 : decode cL_law 849 = .ok (.aload_n 1, 1) := by decide +kernel
theorem dL_law_850 : decode cL_law 850 = .ok (.aload_n 0, 1) := by decide +kernel
theorem dL_law_851 : decode cL_law 851 = .ok (.iload_n 3, 1) := by decide +kernel
theorem dL_law_852 : decode cL_law 852 = .ok (.iconst 1, 1) := by decide +kernel
theorem dL_law_853 : decode cL_law 853 = .ok (.iadd, 1) := by decide +kernel
theorem dL_law_854 : decode cL_law 854 = .ok (.iaload, 1) := by decide +kernel
theorem dL_law_855 : decode cL_law 855 = .ok (.invokevirtual 122, 3) := by decide +kernel
theorem dL_law_858 : decode cL_law 858 = .ok (.aload_n 2, 1) := by decide +kernel
theorem dL_law_859 : decode cL_law 859 = .ok (.aload_n 0, 1) := by decide +kernel
theorem dL_law_860 : decode cL_law 860 = .ok (.iload_n 3, 1) := by decide +kernel
theorem dL_law_861 : decode cL_law 861 = .ok (.iconst 1, 1) := by decide +kernel
theorem dL_law_862 : decode cL_law 862 = .ok (.iadd, 1) := by decide +kernel
theorem dL_law_863 : decode cL_law 863 = .ok (.iaload, 1) := by decide +kernel
theorem dL_law_864 : decode cL_law 864 = .ok (.invokevirtual 125, 3) := by decide +kernel
theorem dL_law_867 : decode cL_law 867 = .ok (.if_icmp .eq 5, 3) := by decide +kernel
theorem dL_law_870 : decode cL_law 870 = .ok (.iconst 0, 1) := by decide +kernel
theorem dL_law_871 : decode cL_law 871 = .ok (.ireturn, 1) := by decide +kernel
theorem dL_law_872 : decode cL_law 872 = .ok (.iinc 3 4, 3) := by decide +kernel
theorem dL_law_875 : decode cL_law 875 = .ok (.goto (-857), 3) := by decide +kernel
theorem dL_law_878 : decode cL_law 878 = .ok (.iconst 1, 1) := by decide +kernel
theorem dL_law_879 : decode cL_law 879 = .ok (.ireturn, 1) := by decide +kernel
end
section
/-! THE ABSTRACT MACHINE: places for addresses, memory as total functions -/
abbrev aI : Type := Nat → Nat → Int32
abbrev aJ : Type := Nat → Nat → Int64
abbrev aP : Type := Nat → Nat → Option Nat
/-- the shapes of the cells: an object of a class of vwCl, or an array (0 int, 1 boolean, 2 char, 3 long, 4 Game) with its length -/
abbrev aS : Type := List (Nat ⊕ (Nat × Nat))
def am_ty (ci : Nat) : Nat → FieldType := match ci with
  | 0 => tyX0
  | 1 => tyX1
  | 2 => tyX2
  | 3 => tyX3
  | 4 => tyX4
  | 5 => tyX5
  | 6 => tyX6
  | _ => tyX7
def am_n (ci : Nat) : Nat := match ci with
  | 0 => 9
  | 1 => 4
  | 2 => 6
  | 3 => 6
  | 4 => 6
  | 5 => 2
  | 6 => 5
  | _ => 13
def am_ref (t : FieldType) : Bool := match t with
  | .object _ => true
  | .array _ => true
  | _ => false
def am_v (α : Nat → Nat) (v : Value) : Value := match v with
  | .ref k => .ref (α k)
  | w => w
def am_fv (α : Nat → Nat) (I : Nat → Int32) (P : Nat → Option Nat) (ty : Nat → FieldType) (k : Nat) : Value := if am_ref (ty k) = true then va_rf ((P k).map α) else .int (I k)
def am_row (t : Nat) (α : Nat → Nat) (I : Nat → Int32) (J : Nat → Int64) (P : Nat → Option Nat) : ((Nat → Int32) ⊕ (Nat → Int64) ⊕ (Nat → UInt32) ⊕ (Nat → UInt64) ⊕ (Nat → Option Nat)) := match t with
  | 3 => .inr (.inl J)
  | 4 => .inr (.inr (.inr (.inr (fun j => (P j).map α))))
  | _ => .inl I
def am_E (α : Nat → Nat) (cA : Nat → ClassId) (I : aI) (J : aJ) (P : aP) (q : Nat) (z : Nat ⊕ (Nat × Nat)) : va_E := match z with
  | .inl ci => .inr (ci, (List.range (am_n ci)).map (am_fv α (I q) (P q) (am_ty ci)))
  | .inr (t, n) => .inl (cA t, n, am_row t α (I q) (J q) (P q))
def am_ws (α : Nat → Nat) (cA : Nat → ClassId) (sh : aS) (I : aI) (J : aJ) (P : aP) : va_W := sh.mapIdx (fun q z => (α q, am_E α cA I J P q z))
theorem am_ws_get {α : Nat → Nat} {cA : Nat → ClassId} {sh : aS} {I : aI} {J : aJ} {P : aP} {q : Nat} {z : Nat ⊕ (Nat × Nat)} (h : sh[q]? = some z) : (am_ws α cA sh I J P)[q]? = some (α q, am_E α cA I J P q z) := by
  simp [am_ws, h]
theorem am_E_congr {α : Nat → Nat} {cA : Nat → ClassId} {I I' : aI} {J J' : aJ} {P P' : aP} {q : Nat} (z : Nat ⊕ (Nat × Nat)) (hI : I' q = I q) (hJ : J' q = J q) (hP : P' q = P q) : am_E α cA I' J' P' q z = am_E α cA I J P q z := by
  cases z with
  | inl ci => simp only [am_E, hI, hP]
  | inr x => simp only [am_E, hI, hJ, hP]
theorem am_ws_set {α : Nat → Nat} {cA : Nat → ClassId} {sh : aS} {I I' : aI} {J J' : aJ} {P P' : aP} {q : Nat} {z : Nat ⊕ (Nat × Nat)} (h : sh[q]? = some z) (hI : ∀ j, j ≠ q → I' j = I j) (hJ : ∀ j, j ≠ q → J' j = J j) (hP : ∀ j, j ≠ q → P' j = P j) :
    (am_ws α cA sh I J P).set q (α q, am_E α cA I' J' P' q z) = am_ws α cA sh I' J' P' := by
  apply List.ext_getElem?
  intro j
  have hq : q < sh.length := (List.getElem?_eq_some_iff.mp h).1
  by_cases hj : j = q
  · subst hj
    rw [am_ws_get h, List.getElem?_set_self (by simpa [am_ws] using hq)]
  · rw [List.getElem?_set_ne (fun e => hj e.symm)]
    simp only [am_ws, List.getElem?_mapIdx]
    cases hz : sh[j]? with
    | none => rfl
    | some y => simp [am_E_congr y (hI j hj) (hJ j hj) (hP j hj)]
/-- α at the old places -/
def am_al (α0 : Nat → Nat) (N0 : Nat) (α : Nat → Nat) : Prop := ∀ q, q < N0 ∨ 1000000 ≤ q → α q = α0 q
theorem am_al.rf {α : Nat → Nat} {N : Nat} : am_al α N α := fun _ _ => rfl
theorem am_al.tr {α0 α1 α2 : Nat → Nat} {N0 N1 : Nat} (h1 : am_al α0 N0 α1) (h2 : am_al α1 N1 α2) (h : N0 ≤ N1) : am_al α0 N0 α2 := fun q hq => (h2 q (by omega)).trans (h1 q hq)
def am_w (I : aI) (q k : Nat) (v : Int32) : aI := fun q' k' => if q' = q ∧ k' = k then v else I q' k'
def am_wJ (J : aJ) (q k : Nat) (v : Int64) : aJ := fun q' k' => if q' = q ∧ k' = k then v else J q' k'
def am_wP (P : aP) (q k : Nat) (v : Option Nat) : aP := fun q' k' => if q' = q ∧ k' = k then v else P q' k'
theorem am_w_self (I : aI) (q k : Nat) (v : Int32) : am_w I q k v q = upd (I q) k v := by funext j; simp [am_w, upd]
theorem am_w_ne (I : aI) {q k : Nat} (v : Int32) {j : Nat} (h : j ≠ q) : am_w I q k v j = I j := by funext i; simp [am_w, h]
theorem am_wJ_ne (J : aJ) {q k : Nat} (v : Int64) {j : Nat} (h : j ≠ q) : am_wJ J q k v j = J j := by funext i; simp [am_wJ, h]
theorem am_wP_ne (P : aP) {q k : Nat} (v : Option Nat) {j : Nat} (h : j ≠ q) : am_wP P q k v j = P j := by funext i; simp [am_wP, h]
def am_tys (cA : Nat → ClassId) : List (ClassId × FieldType) := [(cA 0, .int), (cA 1, .boolean), (cA 2, .char), (cA 3, .long), (cA 4, .object "PurseAuction$Game")]
/-! the words of the tables, for any arguments -/
def am_good (w : Cond) : Bool := match w with
  | .fieldLinkNest .. => true
  | .methodLinkNest .. => true
  | .arrayClass _ => true
  | w => w.onTables && w.keeps
def am_T (U : State) : Prop := ∀ w ∈ lw_tbl, am_good w = true → ∀ a : Array Value, w.before a U = true
theorem am_word {w : Cond} {args a : Array Value} {s U : State} (hW : s.WarmedH U.vm) (hg : am_good w = true) (h0 : w.before args s = true) : w.before a U = true := by
  by_cases hn : (w.onTables && w.keeps) = true
  · exact word_at hW (Or.inl hn) h0
  · cases w with
    | fieldLinkNest => exact va_Nw.use rfl (va_Nw.warmF hW (va_Nw.of rfl h0))
    | methodLinkNest => exact va_Nw.use rfl (va_Nw.warmM hW (va_Nw.of rfl h0))
    | arrayClass ty => exact word_at hW (Or.inr ⟨_, rfl⟩) h0
    | _ => exact absurd hg hn
theorem am_T.moved {s U : State} (hW : s.WarmedH U.vm) (h : am_T s) : am_T U := fun w hw hg _ => am_word hW hg (h w hw hg #[])
theorem am_T.calling {U : State} {g : JFrame} {mk : MethodId} {a : Array Value} (h : am_T U) : am_T (U.calling g mk a) := h.moved (State.WarmedH.refl U)
/-! the three static rows, which nobody writes -/
def am_least (j : Nat) : Int32 := ([1, 1, 1, 0, 0, 1] : List Int32).getD j 0
def am_first (j : Nat) : Int32 := ([100, 5, 12, 4, 15, 5] : List Int32).getD j 0
def am_most (j : Nat) : Int32 := ([300, 20, 40, 20, 100, 20] : List Int32).getD j 0
def am_sX (f : Nat → Int32) (t : Nat) (U : State) (H : Heap) : Prop := ∃ scr : Cell, H[t]? = some scr ∧ U.isArrayOf scr .int ∧ scr.vm ≠ .unknown ∧ scr.slots.size = 6 ∧ (∀ j : Nat, j < 6 → scr.slots[j]? = some (.int (f j))) ∧ U.vm.findClass "[I" = some scr.cls
def am_st (n : String) (f : Nat → Int32) (t : Nat) (A : Nat → Prop) (U : State) (H : Heap) : Prop := va_Z "PurseAuction" n "[I" (.ref t) A U H ∧ am_sX f t U H ∧ ¬ A t
theorem am_st.kept {n : String} {f : Nat → Int32} {t : Nat} {A : Nat → Prop} {U : State} {H H1 : Heap} (h : am_st n f t A U H) (hq : ∀ a : Nat, a < H.size → ¬ A a → H1[a]? = H[a]?) : am_st n f t A U H1 := by
  obtain ⟨h1, ⟨scr, e, h2⟩, h3⟩ := h
  exact ⟨h1.kept hq, ⟨scr, by rw [hq t (Array.getElem?_eq_some_iff.mp e).1 h3]; exact e, h2⟩, h3⟩
theorem am_st.moved {n : String} {f : Nat → Int32} {t : Nat} {A : Nat → Prop} {u U : State} {H : Heap} (hvm : u.vm.Alike U.vm) (h : am_st n f t A u H) : am_st n f t A U H := by
  obtain ⟨h1, ⟨scr, e, h2, h3, h4, h5, h6⟩, h7⟩ := h
  exact ⟨h1.moved hvm, ⟨scr, e, State.isArrayOf_alike hvm h2, h3, h4, h5, by rw [hvm.findClass]; exact h6⟩, h7⟩
theorem am_st.narrow {n : String} {f : Nat → Int32} {t : Nat} {A B : Nat → Prop} {U : State} {H : Heap} (h : am_st n f t A U H) (hAB : ∀ q, B q → A q) : am_st n f t B U H := ⟨h.1.narrow hAB, h.2.1, fun z => h.2.2 (hAB t z)⟩
def am_Z (α : Nat → Nat) (A : Nat → Prop) (U : State) (H : Heap) : Prop := (am_st "SETTING_LEAST" am_least (α 1000001) A U H ∧ am_st "SETTING_FIRST" am_first (α 1000002) A U H ∧ am_st "SETTING_MOST" am_most (α 1000003) A U H) ∧ va_AO "PurseAuction$Game" U ∧ va_Nw (.castable "[I" "java/lang/Cloneable") U
theorem am_cast_moved {a b : String} {u U : State} (hvm : u.vm.Alike U.vm) (h : va_Nw (.castable a b) u) : va_Nw (.castable a b) U := by
  obtain ⟨c, t, h1, h2, h3⟩ := Cond.castable_spec h
  have f1 : U.vm.findClass a = some c := by rw [hvm.findClass]; exact h1
  have f2 : U.vm.findClass b = some t := by rw [hvm.findClass]; exact h2
  have f3 : U.vm.assignable c t = true := by rw [hvm.assignable]; exact h3
  unfold va_Nw Cond.before Cond.holds
  simp [Cond.value, f1, f2, f3]
theorem am_Z.kept {α : Nat → Nat} {A : Nat → Prop} {U : State} {H H1 : Heap} (h : am_Z α A U H) (hq : ∀ a : Nat, a < H.size → ¬ A a → H1[a]? = H[a]?) : am_Z α A U H1 := ⟨⟨h.1.1.kept hq, h.1.2.1.kept hq, h.1.2.2.kept hq⟩, h.2⟩
theorem am_Z.moved {α : Nat → Nat} {A : Nat → Prop} {u U : State} {H : Heap} (hvm : u.vm.Alike U.vm) (h : am_Z α A u H) : am_Z α A U H := ⟨⟨h.1.1.moved hvm, h.1.2.1.moved hvm, h.1.2.2.moved hvm⟩, h.2.1.moved hvm, am_cast_moved hvm h.2.2⟩
theorem am_Z.narrow {α : Nat → Nat} {A B : Nat → Prop} {U : State} {H : Heap} (h : am_Z α A U H) (hAB : ∀ q, B q → A q) : am_Z α B U H := ⟨⟨h.1.1.narrow hAB, h.1.2.1.narrow hAB, h.1.2.2.narrow hAB⟩, h.2⟩
theorem am_Z.al {α α' : Nat → Nat} {A : Nat → Prop} {U : State} {H : Heap} {N : Nat} (ha : am_al α N α') (h : am_Z α A U H) : am_Z α' A U H := by
  refine ⟨⟨?_, ?_, ?_⟩, h.2⟩
  · rw [ha 1000001 (Or.inr (by omega))]; exact h.1.1
  · rw [ha 1000002 (Or.inr (by omega))]; exact h.1.2.1
  · rw [ha 1000003 (Or.inr (by omega))]; exact h.1.2.2
/-! the judgement at a pc -/
abbrev aK : Type := Program × Launch × Env × Room × State × MethodId × Array Value × List Frame × Method × Code × (State → Prop) × (Nat → ClassId) × (Nat → Nat → Nat) × (Nat → ClassId) × (Nat → Prop) × (Nat → Nat) × Nat
def AW (K : aK) (nL pc : Nat) (lo : List (Nat × Value)) (st : List Value) (sh : aS) (P : aP) (I : aI) (J : aJ) (cells slots : Nat) : Prop := match K with
  | (p, l, e, R, s, m, args, below, meth, c, Q, dC, dI, cA, A, α0, N0) => ∀ (α : Nat → Nat) (H : Heap) (locs : List Loc) (ls : Array Slot), am_al α0 N0 α ∧ N0 ≤ sh.length ∧ (sh.length = N0 → α = α0) → va_P (dC, dI) vwCl (am_ws α cA sh I J P) H → va_D A (am_ws α cA sh I J P) → va_S A s.heap H locs → lv_has ls nL (lo.map (fun q => (q.1, am_v α q.2))) →
    W p l e R s m args below meth c H locs cells slots Q (F0 m pc ls (st.map (am_v α)))
def am_C (K : aK) (cc : ByteArray) (nL : Nat) (own nm : String) (R0 : Room) : Prop := match K with
  | (p, l, e, R, s, m, args, below, meth, c, Q, dC, dI, cA, A, α0, N0) => p.tables.exec = Jvm.exec ∧ c.code = cc ∧ c.maxLocals = nL ∧ s.vm.findClass own = some m.cls ∧ meth.locks = false ∧ meth.name = nm ∧ R = R0 ∧ am_T s ∧ va_K (dC, dI) vwCl (am_tys cA) s ∧ (∀ q, s.heap.size ≤ q → A q) ∧ am_Z α0 A s s.heap
def am_Q (dC : Nat → ClassId) (dI : Nat → Nat → Nat) (cA : Nat → ClassId) (A : Nat → Prop) (α0 : Nat → Nat) (N0 : Nat) (sh : aS) (P : aP) (I : aI) (J : aJ) (r : Option Value) : Array Value → State → Outcome → State → Prop := fun _ st oc t =>
  (oc = .returned r ∧ ∃ α, am_al α0 N0 α ∧ (sh.length = N0 → α = α0) ∧ va_P (dC, dI) vwCl (am_ws α cA sh I J P) t.heap ∧ va_D A (am_ws α cA sh I J P)) ∧ va_F A st t
def am_R (K : aK) (ret : Option FieldType) (r : Option Value) (sh : aS) (P : aP) (I : aI) (J : aJ) (mc ms : Nat) : Prop := match K with
  | (p, l, e, R, s, m, args, below, meth, c, Q, dC, dI, cA, A, α0, N0) => meth.sig.returnType = ret ∧ Q = MQ below (am_Q dC dI cA A α0 N0 sh P I J r) args s mc ms A
def am_B (dC : Nat → ClassId) (dI : Nat → Nat → Nat) (cA : Nat → ClassId) (α : Nat → Nat) (sh : aS) (P : aP) (I : aI) (J : aJ) (sz : Nat) (U : State) : Prop :=
  U.heap.size = sz ∧ va_P (dC, dI) vwCl (am_ws α cA sh I J P) U.heap ∧ va_D (fun _ => True) (am_ws α cA sh I J P) ∧ va_K (dC, dI) vwCl (am_tys cA) U ∧ am_T U ∧ am_Z α (va_A (am_ws α cA sh I J P) sz) U U.heap
/-- a method's contract: from the world (sh, P, I, J), with these arguments, it returns r, and the world is (sh1, P1, I1, J1) -/
def AM (y : MethodName) (b : ByteArray) (n : Nat) (ret : Option FieldType) (fr lo : Nat) (as : List Value) (sh : aS) (P : aP) (I : aI) (J : aJ) (r : Option Value) (sh1 : aS) (P1 : aP) (I1 : aI) (J1 : aJ) (mc ms : Nat) : Prop :=
  ∀ (l : Launch) (dC : Nat → ClassId) (dI : Nat → Nat → Nat) (cA : Nat → ClassId) (α : Nat → Nat) (sz : Nat), Met l y [.code y b n ret] ({ frames := fr, cells := mc, slots := ms, locals := lo }) (va_Pc (as.map (am_v α)) (am_B dC dI cA α sh P I J sz))
    (am_Q dC dI cA (va_A (am_ws α cA sh I J P) sz) α sh.length sh1 P1 I1 J1 r) mc ms (va_A (am_ws α cA sh I J P) sz)
theorem am_cat (α : Nat → Nat) (v : Value) : (am_v α v).category = v.category := by cases v <;> rfl
theorem am_catsum (α : Nat → Nat) (st : List Value) : ((st.map (am_v α)).map fun v => v.category) = st.map fun v => v.category := by
  simp [am_cat]
theorem am_sl (α : Nat → Nat) (as : List Value) : (lg_sl (as.map (am_v α))).length = (lg_sl as).length := by
  induction as with
  | nil => rfl
  | cons v t ih =>
    simp only [lg_sl, List.map_cons, List.flatMap_cons, List.length_append, am_cat] at ih ⊢
    rw [ih]
    split <;> rfl
theorem am_args (α : Nat → Nat) (as : List Value) : ∀ i, lv_args i (as.map (am_v α)) = (lv_args i as).map (fun q => (q.1, am_v α q.2)) := by
  induction as with
  | nil => intro i; rfl
  | cons v t ih => intro i; simp only [List.map_cons, lv_args, am_cat, ih]
theorem am_met {y : MethodName} {b : ByteArray} {n : Nat} {ret : Option FieldType} {fr lo : Nat} {as : List Value} {sh : aS} {P : aP} {I : aI} {J : aJ} {r : Option Value} {sh1 : aS} {P1 : aP} {I1 : aI} {J1 : aJ} {mc ms : Nat} (hy : plainName y.cls = true) (hn : (lg_sl as).length ≤ n)
    (h : ∀ K : aK, am_C K b n y.cls y.name ({ frames := fr, cells := mc, slots := ms, locals := lo }) → am_R K ret r sh1 P1 I1 J1 mc ms → AW K n 0 (lv_args 0 as) [] sh P I J 0 0) : AM y b n ret fr lo as sh P I J r sh1 P1 I1 J1 mc ms := by
  intro l dC dI cA α sz
  refine Met.ofW (cc := b) (maxL := n) (ret := ret) hy rfl ?_
  intro p e s m args below meth c s₁ B hml hv
  obtain ⟨rfl, hsz, hP, hD0, hK, hT, hZ⟩ := hv
  subst hsz
  have hD := hD0.self (sz := s.heap.size)
  have hl := lv_entry (as.map (am_v α)) (n := n) (by rw [am_sl]; exact hn)
  rw [lg_entry_eq]
  rw [am_args] at hl
  exact h (p, l, e, _, s, m, _, below, meth, c, _, dC, dI, cA, _, α, sh.length)
    ⟨B.exec, B.bytes, hml, findClass_of_methodNamed B.named, B.notSynchronized, (name_of_methodNamed B.named B.method).1, rfl, hT, hK, fun q hq => Or.inr hq, hZ⟩ ⟨B.returns, rfl⟩ α s.heap [] _ ⟨am_al.rf, Nat.le_refl _, fun _ => rfl⟩ hP hD va_S.rf hl
end
section
/-! ROWS of the abstract machine -/
def am_ok (i : Int32) (n : Nat) : Bool := decide (¬ (i < 0)) && decide (i.toNatClampNeg < n)
def am_g {β : Type} (b : Bool) (x : Option β) : Option β := match b with
  | true => x
  | false => none
def am_let {γ β : Type} (a : γ) (f : γ → Option β) : Option β := f a
theorem am_g_elim {β : Type} {b : Bool} {x : Option β} {R : β} (h : am_g b x = some R) : b = true ∧ x = some R := by
  cases b with
  | true => exact ⟨rfl, h⟩
  | false => cases h
theorem am_ok_in {i : Int32} {n : Nat} (h : am_ok i n = true) : vp_in i n := by
  simp only [am_ok, Bool.and_eq_true, decide_eq_true_eq] at h
  intro q
  rcases q with q | q
  · exact h.1 q
  · omega
theorem am_bind {γ β : Type} {x : Option γ} {f : γ → Option β} {R : β} (h : x.bind f = some R) : ∃ a, x = some a ∧ f a = some R := by
  cases x with
  | none => cases h
  | some a => exact ⟨a, rfl, h⟩
theorem am_filter (α : Nat → Nat) (f : Nat → Nat → Bool) (lo : List (Nat × Value)) : (lo.map (fun q => (q.1, am_v α q.2))).filter (fun q => f q.1 q.2.category) = (lo.filter (fun q => f q.1 q.2.category)).map (fun q => (q.1, am_v α q.2)) := by
  induction lo with
  | nil => rfl
  | cons a t ih =>
    simp only [List.map_cons, List.filter_cons, am_cat, ih]
    split <;> rfl
def am_f1 (i : Nat) (q : Nat × Value) : Bool := !(q.1 == i) && !(q.1 + 1 == i && q.2.category == 2)
def am_f2 (i : Nat) (q : Nat × Value) : Bool := !(q.1 == i) && (!(q.1 == i + 1) && !(q.1 + 1 == i && q.2.category == 2))
theorem am_fm1 (α : Nat → Nat) (i : Nat) {v : Value} {lo lo' : List (Nat × Value)} (h : (i, v) :: lo.filter (am_f1 i) = lo') : (i, am_v α v) :: (lo.map (fun q => (q.1, am_v α q.2))).filter (fun q => !(q.1 == i) && !(q.1 + 1 == i && q.2.category == 2)) = lo'.map (fun q => (q.1, am_v α q.2)) := by
  subst h
  rw [am_filter α (fun a b => !(a == i) && !(a + 1 == i && b == 2))]
  rfl
theorem am_fm2 (α : Nat → Nat) (i : Nat) {v : Value} {lo lo' : List (Nat × Value)} (h : (i, v) :: lo.filter (am_f2 i) = lo') : (i, am_v α v) :: (lo.map (fun q => (q.1, am_v α q.2))).filter (fun q => !(q.1 == i) && (!(q.1 == i + 1) && !(q.1 + 1 == i && q.2.category == 2))) = lo'.map (fun q => (q.1, am_v α q.2)) := by
  subst h
  rw [am_filter α (fun a b => !(a == i) && (!(a == i + 1) && !(a + 1 == i && b == 2)))]
  rfl
theorem am_at {α : Nat → Nat} {ls : Array Slot} {nL : Nat} {lo : List (Nat × Value)} (h : lv_has ls nL (lo.map (fun q => (q.1, am_v α q.2)))) (k : Nat) {i : Nat} {v : Value} (hk : lo[k]? = some (i, v)) : ls[i]? = some (.val (am_v α v)) :=
  lv_at h k (by rw [List.getElem?_map, hk]; rfl)
section AR
variable {K : aK} {cc : ByteArray} {nL : Nat} {own nm : String} {R0 : Room} {pc : Nat} {lo lo' : List (Nat × Value)} {st : List Value} {sh : aS} {P : aP} {I : aI} {J : aJ} {cells slots : Nat} {β : Type} {Rs : β}

theorem ar_iload_n (X : am_C K cc nL own nm R0) {k : Fin 4} {i : Nat} {x : Int32} (hd : decode cc pc = .ok (.iload_n k, 1)) (hi : (k : Nat) = i) (j : Nat) (hj : lo[j]? = some (i, .int x)) (kk : AW K nL (pc + 1) lo (.int x :: st) sh P I J cells slots) : AW K nL pc lo st sh P I J cells slots := by
  obtain ⟨p, l, e, R, s, m, args, below, meth, c, Q, dC, dI, cA, A, α0, N0⟩ := K
  obtain ⟨hx, hb, hml, hown, hlk, hnm, hR0, hT, hK, hA, hZ⟩ := X
  intro α H locs ls ha hP hD hS hl
  exact lv_iload_n hx hb hd hi (am_at hl j hj) (kk α H locs ls ha hP hD hS hl)
theorem ar_iload (X : am_C K cc nL own nm R0) {i : Nat} {x : Int32} (hd : decode cc pc = .ok (.iload i, 2)) (j : Nat) (hj : lo[j]? = some (i, .int x)) (kk : AW K nL (pc + 2) lo (.int x :: st) sh P I J cells slots) : AW K nL pc lo st sh P I J cells slots := by
  obtain ⟨p, l, e, R, s, m, args, below, meth, c, Q, dC, dI, cA, A, α0, N0⟩ := K
  obtain ⟨hx, hb, hml, hown, hlk, hnm, hR0, hT, hK, hA, hZ⟩ := X
  intro α H locs ls ha hP hD hS hl
  exact lv_iload hx hb hd (am_at hl j hj) (kk α H locs ls ha hP hD hS hl)
theorem ar_istore_n (X : am_C K cc nL own nm R0) {k : Fin 4} {i : Nat} {x : Int32} (hd : decode cc pc = .ok (.istore_n k, 1)) (hi : (k : Nat) = i) (hn : i < nL) (hl' : (i, Value.int x) :: lo.filter (am_f1 i) = lo') (kk : AW K nL (pc + 1) lo' st sh P I J cells slots) : AW K nL pc lo (.int x :: st) sh P I J cells slots := by
  obtain ⟨p, l, e, R, s, m, args, below, meth, c, Q, dC, dI, cA, A, α0, N0⟩ := K
  obtain ⟨hx, hb, hml, hown, hlk, hnm, hR0, hT, hK, hA, hZ⟩ := X
  intro α H locs ls ha hP hD hS hl
  exact lv_istore_n hx hb hd hi hl hn (am_fm1 α i hl') (fun ls' hl2 => kk α H locs ls' ha hP hD hS hl2)
theorem ar_istore (X : am_C K cc nL own nm R0) {i : Nat} {x : Int32} (hd : decode cc pc = .ok (.istore i, 2)) (hn : i < nL) (hl' : (i, Value.int x) :: lo.filter (am_f1 i) = lo') (kk : AW K nL (pc + 2) lo' st sh P I J cells slots) : AW K nL pc lo (.int x :: st) sh P I J cells slots := by
  obtain ⟨p, l, e, R, s, m, args, below, meth, c, Q, dC, dI, cA, A, α0, N0⟩ := K
  obtain ⟨hx, hb, hml, hown, hlk, hnm, hR0, hT, hK, hA, hZ⟩ := X
  intro α H locs ls ha hP hD hS hl
  exact lv_istore hx hb hd hl hn (am_fm1 α i hl') (fun ls' hl2 => kk α H locs ls' ha hP hD hS hl2)
theorem ar_lload_n (X : am_C K cc nL own nm R0) {k : Fin 4} {i : Nat} {x : Int64} (hd : decode cc pc = .ok (.lload_n k, 1)) (hi : (k : Nat) = i) (j : Nat) (hj : lo[j]? = some (i, .long x)) (kk : AW K nL (pc + 1) lo (.long x :: st) sh P I J cells slots) : AW K nL pc lo st sh P I J cells slots := by
  obtain ⟨p, l, e, R, s, m, args, below, meth, c, Q, dC, dI, cA, A, α0, N0⟩ := K
  obtain ⟨hx, hb, hml, hown, hlk, hnm, hR0, hT, hK, hA, hZ⟩ := X
  intro α H locs ls ha hP hD hS hl
  exact lv_lload_n hx hb hd hi (am_at hl j hj) (kk α H locs ls ha hP hD hS hl)
theorem ar_lload (X : am_C K cc nL own nm R0) {i : Nat} {x : Int64} (hd : decode cc pc = .ok (.lload i, 2)) (j : Nat) (hj : lo[j]? = some (i, .long x)) (kk : AW K nL (pc + 2) lo (.long x :: st) sh P I J cells slots) : AW K nL pc lo st sh P I J cells slots := by
  obtain ⟨p, l, e, R, s, m, args, below, meth, c, Q, dC, dI, cA, A, α0, N0⟩ := K
  obtain ⟨hx, hb, hml, hown, hlk, hnm, hR0, hT, hK, hA, hZ⟩ := X
  intro α H locs ls ha hP hD hS hl
  exact lv_lload hx hb hd (am_at hl j hj) (kk α H locs ls ha hP hD hS hl)
theorem ar_lstore_n (X : am_C K cc nL own nm R0) {k : Fin 4} {i : Nat} {x : Int64} (hd : decode cc pc = .ok (.lstore_n k, 1)) (hi : (k : Nat) = i) (hn : i + 1 < nL) (hl' : (i, Value.long x) :: lo.filter (am_f2 i) = lo') (kk : AW K nL (pc + 1) lo' st sh P I J cells slots) : AW K nL pc lo (.long x :: st) sh P I J cells slots := by
  obtain ⟨p, l, e, R, s, m, args, below, meth, c, Q, dC, dI, cA, A, α0, N0⟩ := K
  obtain ⟨hx, hb, hml, hown, hlk, hnm, hR0, hT, hK, hA, hZ⟩ := X
  intro α H locs ls ha hP hD hS hl
  exact lv_lstore_n hx hb hd hi hl hn (am_fm2 α i hl') (fun ls' hl2 => kk α H locs ls' ha hP hD hS hl2)
theorem ar_lstore (X : am_C K cc nL own nm R0) {i : Nat} {x : Int64} (hd : decode cc pc = .ok (.lstore i, 2)) (hn : i + 1 < nL) (hl' : (i, Value.long x) :: lo.filter (am_f2 i) = lo') (kk : AW K nL (pc + 2) lo' st sh P I J cells slots) : AW K nL pc lo (.long x :: st) sh P I J cells slots := by
  obtain ⟨p, l, e, R, s, m, args, below, meth, c, Q, dC, dI, cA, A, α0, N0⟩ := K
  obtain ⟨hx, hb, hml, hown, hlk, hnm, hR0, hT, hK, hA, hZ⟩ := X
  intro α H locs ls ha hP hD hS hl
  exact lv_lstore hx hb hd hl hn (am_fm2 α i hl') (fun ls' hl2 => kk α H locs ls' ha hP hD hS hl2)
theorem ar_aload_n (X : am_C K cc nL own nm R0) {k : Fin 4} {i : Nat} {x : Nat} (hd : decode cc pc = .ok (.aload_n k, 1)) (hi : (k : Nat) = i) (j : Nat) (hj : lo[j]? = some (i, .ref x)) (kk : AW K nL (pc + 1) lo (.ref x :: st) sh P I J cells slots) : AW K nL pc lo st sh P I J cells slots := by
  obtain ⟨p, l, e, R, s, m, args, below, meth, c, Q, dC, dI, cA, A, α0, N0⟩ := K
  obtain ⟨hx, hb, hml, hown, hlk, hnm, hR0, hT, hK, hA, hZ⟩ := X
  intro α H locs ls ha hP hD hS hl
  exact lv_aload_n hx hb hd hi (am_at hl j hj) (kk α H locs ls ha hP hD hS hl)
theorem ar_aload (X : am_C K cc nL own nm R0) {i : Nat} {x : Nat} (hd : decode cc pc = .ok (.aload i, 2)) (j : Nat) (hj : lo[j]? = some (i, .ref x)) (kk : AW K nL (pc + 2) lo (.ref x :: st) sh P I J cells slots) : AW K nL pc lo st sh P I J cells slots := by
  obtain ⟨p, l, e, R, s, m, args, below, meth, c, Q, dC, dI, cA, A, α0, N0⟩ := K
  obtain ⟨hx, hb, hml, hown, hlk, hnm, hR0, hT, hK, hA, hZ⟩ := X
  intro α H locs ls ha hP hD hS hl
  exact lv_aload hx hb hd (am_at hl j hj) (kk α H locs ls ha hP hD hS hl)
theorem ar_astore_n (X : am_C K cc nL own nm R0) {k : Fin 4} {i : Nat} {x : Nat} (hd : decode cc pc = .ok (.astore_n k, 1)) (hi : (k : Nat) = i) (hn : i < nL) (hl' : (i, Value.ref x) :: lo.filter (am_f1 i) = lo') (kk : AW K nL (pc + 1) lo' st sh P I J cells slots) : AW K nL pc lo (.ref x :: st) sh P I J cells slots := by
  obtain ⟨p, l, e, R, s, m, args, below, meth, c, Q, dC, dI, cA, A, α0, N0⟩ := K
  obtain ⟨hx, hb, hml, hown, hlk, hnm, hR0, hT, hK, hA, hZ⟩ := X
  intro α H locs ls ha hP hD hS hl
  exact lv_astore_n hx hb hd hi hl hn (am_fm1 α i hl') (fun ls' hl2 => kk α H locs ls' ha hP hD hS hl2)
theorem ar_astore (X : am_C K cc nL own nm R0) {i : Nat} {x : Nat} (hd : decode cc pc = .ok (.astore i, 2)) (hn : i < nL) (hl' : (i, Value.ref x) :: lo.filter (am_f1 i) = lo') (kk : AW K nL (pc + 2) lo' st sh P I J cells slots) : AW K nL pc lo (.ref x :: st) sh P I J cells slots := by
  obtain ⟨p, l, e, R, s, m, args, below, meth, c, Q, dC, dI, cA, A, α0, N0⟩ := K
  obtain ⟨hx, hb, hml, hown, hlk, hnm, hR0, hT, hK, hA, hZ⟩ := X
  intro α H locs ls ha hP hD hS hl
  exact lv_astore hx hb hd hl hn (am_fm1 α i hl') (fun ls' hl2 => kk α H locs ls' ha hP hD hS hl2)
theorem ar_iinc (X : am_C K cc nL own nm R0) {i j : Nat} {n : Int} {x v : Int32} (hd : decode cc pc = .ok (.iinc i n, 3)) (hj : lo[j]? = some (i, .int x)) (hv : x + Int32.ofInt n = v) (hn : i < nL) (hl' : (i, Value.int v) :: lo.filter (am_f1 i) = lo') (kk : AW K nL (pc + 3) lo' st sh P I J cells slots) : AW K nL pc lo st sh P I J cells slots := by
  obtain ⟨p, l, e, R, s, m, args, below, meth, c, Q, dC, dI, cA, A, α0, N0⟩ := K
  obtain ⟨hx, hb, hml, hown, hlk, hnm, hR0, hT, hK, hA, hZ⟩ := X
  intro α H locs ls ha hP hD hS hl
  exact lv_iinc (k := j) hx hb hd hl (by rw [List.getElem?_map, hj]; rfl) hv hn (am_fm1 α i hl') (fun ls' hl2 => kk α H locs ls' ha hP hD hS hl2)
theorem am_pick (α : Nat → Nat) (lo : List (Nat × Value)) (ks : List Nat) : lv_pick (lo.map (fun q => (q.1, am_v α q.2))) ks = (lv_pick lo ks).map (fun q => (q.1, am_v α q.2)) := by
  induction ks with
  | nil => rfl
  | cons a t ih =>
    simp only [lv_pick, List.filterMap_cons, List.getElem?_map] at ih ⊢
    cases lo[a]? with
    | none => simpa using ih
    | some q => simpa using ih
theorem ar_lo (ks : List Nat) (hk : lv_pick lo ks = lo') (kk : AW K nL pc lo' st sh P I J cells slots) : AW K nL pc lo st sh P I J cells slots := by
  obtain ⟨p, l, e, R, s, m, args, below, meth, c, Q, dC, dI, cA, A, α0, N0⟩ := K
  intro α H locs ls ha hP hD hS hl
  exact kk α H locs ls ha hP hD hS (lv_sub hl ks (by rw [am_pick, hk]))
theorem ar_iconst (X : am_C K cc nL own nm R0) {n : Int} {v : Int32} (hd : decode cc pc = .ok (.iconst n, 1)) (hv : Int32.ofInt n = v) (kk : AW K nL (pc + 1) lo (.int v :: st) sh P I J cells slots) : AW K nL pc lo st sh P I J cells slots := by
  obtain ⟨p, l, e, R, s, m, args, below, meth, c, Q, dC, dI, cA, A, α0, N0⟩ := K
  obtain ⟨hx, hb, hml, hown, hlk, hnm, hR0, hT, hK, hA, hZ⟩ := X
  intro α H locs ls ha hP hD hS hl
  exact lv_iconst hx hb hd hv (kk α H locs ls ha hP hD hS hl)
theorem ar_bipush (X : am_C K cc nL own nm R0) {n : Int} {v : Int32} (hd : decode cc pc = .ok (.bipush n, 2)) (hv : (Int8.ofInt n).toInt32 = v) (kk : AW K nL (pc + 2) lo (.int v :: st) sh P I J cells slots) : AW K nL pc lo st sh P I J cells slots := by
  obtain ⟨p, l, e, R, s, m, args, below, meth, c, Q, dC, dI, cA, A, α0, N0⟩ := K
  obtain ⟨hx, hb, hml, hown, hlk, hnm, hR0, hT, hK, hA, hZ⟩ := X
  intro α H locs ls ha hP hD hS hl
  exact lv_bipush hx hb hd hv (kk α H locs ls ha hP hD hS hl)
theorem ar_sipush (X : am_C K cc nL own nm R0) {n : Int} {v : Int32} (hd : decode cc pc = .ok (.sipush n, 3)) (hv : (Int16.ofInt n).toInt32 = v) (kk : AW K nL (pc + 3) lo (.int v :: st) sh P I J cells slots) : AW K nL pc lo st sh P I J cells slots := by
  obtain ⟨p, l, e, R, s, m, args, below, meth, c, Q, dC, dI, cA, A, α0, N0⟩ := K
  obtain ⟨hx, hb, hml, hown, hlk, hnm, hR0, hT, hK, hA, hZ⟩ := X
  intro α H locs ls ha hP hD hS hl
  exact lv_sipush hx hb hd hv (kk α H locs ls ha hP hD hS hl)
theorem ar_lconst (X : am_C K cc nL own nm R0) {n : Fin 2} {v : Int64} (hd : decode cc pc = .ok (.lconst n, 1)) (hv : Int64.ofNat (n : Nat) = v) (kk : AW K nL (pc + 1) lo (.long v :: st) sh P I J cells slots) : AW K nL pc lo st sh P I J cells slots := by
  obtain ⟨p, l, e, R, s, m, args, below, meth, c, Q, dC, dI, cA, A, α0, N0⟩ := K
  obtain ⟨hx, hb, hml, hown, hlk, hnm, hR0, hT, hK, hA, hZ⟩ := X
  intro α H locs ls ha hP hD hS hl
  exact lv_lconst hx hb hd hv (kk α H locs ls ha hP hD hS hl)
theorem ar_ldc (X : am_C K cc nL own nm R0) {i : Nat} {v : Int32} (hd : decode cc pc = .ok (.ldc i, 2)) (hw : Cond.constant own i v ∈ lw_tbl) (kk : AW K nL (pc + 2) lo (.int v :: st) sh P I J cells slots) : AW K nL pc lo st sh P I J cells slots := by
  obtain ⟨p, l, e, R, s, m, args, below, meth, c, Q, dC, dI, cA, A, α0, N0⟩ := K
  obtain ⟨hx, hb, hml, hown, hlk, hnm, hR0, hT, hK, hA, hZ⟩ := X
  intro α H locs ls ha hP hD hS hl
  exact lv_ldc hx hb hown (hT _ hw rfl args) hd (kk α H locs ls ha hP hD hS hl)
theorem ar_ldcw (X : am_C K cc nL own nm R0) {i : Nat} {v : Int32} (hd : decode cc pc = .ok (.ldc_w i, 3)) (hw : Cond.constant own i v ∈ lw_tbl) (kk : AW K nL (pc + 3) lo (.int v :: st) sh P I J cells slots) : AW K nL pc lo st sh P I J cells slots := by
  obtain ⟨p, l, e, R, s, m, args, below, meth, c, Q, dC, dI, cA, A, α0, N0⟩ := K
  obtain ⟨hx, hb, hml, hown, hlk, hnm, hR0, hT, hK, hA, hZ⟩ := X
  intro α H locs ls ha hP hD hS hl
  exact lv_ldcw hx hb hown (hT _ hw rfl args) hd (kk α H locs ls ha hP hD hS hl)
theorem ar_ldc2 (X : am_C K cc nL own nm R0) {i : Nat} {v : Int64} (hd : decode cc pc = .ok (.ldc2_w i, 3)) (hw : Cond.constantLong own i v ∈ lw_tbl) (kk : AW K nL (pc + 3) lo (.long v :: st) sh P I J cells slots) : AW K nL pc lo st sh P I J cells slots := by
  obtain ⟨p, l, e, R, s, m, args, below, meth, c, Q, dC, dI, cA, A, α0, N0⟩ := K
  obtain ⟨hx, hb, hml, hown, hlk, hnm, hR0, hT, hK, hA, hZ⟩ := X
  intro α H locs ls ha hP hD hS hl
  exact lv_ldc2 hx hb hown (hT _ hw rfl args) hd (kk α H locs ls ha hP hD hS hl)
def am_rem (x y : Int32) : Int32 := x - x / y * y
def am_shl (x y : Int32) : Int32 := x <<< (y &&& 31)
def am_shr (x y : Int32) : Int32 := x >>> (y &&& 31)
def am_ushr (x y : Int32) : Int32 := (x.toUInt32 >>> (y.toUInt32 &&& Int32.toUInt32 31)).toInt32
def am_lshl (x : Int64) (y : Int32) : Int64 := x <<< (y.toInt64 &&& 63)
def am_lshr (x : Int64) (y : Int32) : Int64 := x >>> (y.toInt64 &&& 63)
def am_lushr (x : Int64) (y : Int32) : Int64 := (x.toUInt64 >>> (y.toInt64.toUInt64 &&& Int64.toUInt64 63)).toInt64
def am_i2c (x : Int32) : Int32 := (x.toUInt32 % 65536).toInt32
theorem ar_iadd (X : am_C K cc nL own nm R0) {x y : Int32} (hd : decode cc pc = .ok (.iadd, 1)) (kk : AW K nL (pc + 1) lo (.int (x + y) :: st) sh P I J cells slots) : AW K nL pc lo (.int y :: .int x :: st) sh P I J cells slots := by
  obtain ⟨p, l, e, R, s, m, args, below, meth, c, Q, dC, dI, cA, A, α0, N0⟩ := K
  obtain ⟨hx, hb, hml, hown, hlk, hnm, hR0, hT, hK, hA, hZ⟩ := X
  intro α H locs ls ha hP hD hS hl
  exact lv_iadd hx hb hd (kk α H locs ls ha hP hD hS hl)
theorem ar_isub (X : am_C K cc nL own nm R0) {x y : Int32} (hd : decode cc pc = .ok (.isub, 1)) (kk : AW K nL (pc + 1) lo (.int (x - y) :: st) sh P I J cells slots) : AW K nL pc lo (.int y :: .int x :: st) sh P I J cells slots := by
  obtain ⟨p, l, e, R, s, m, args, below, meth, c, Q, dC, dI, cA, A, α0, N0⟩ := K
  obtain ⟨hx, hb, hml, hown, hlk, hnm, hR0, hT, hK, hA, hZ⟩ := X
  intro α H locs ls ha hP hD hS hl
  exact lv_isub hx hb hd (kk α H locs ls ha hP hD hS hl)
theorem ar_imul (X : am_C K cc nL own nm R0) {x y : Int32} (hd : decode cc pc = .ok (.imul, 1)) (kk : AW K nL (pc + 1) lo (.int (x * y) :: st) sh P I J cells slots) : AW K nL pc lo (.int y :: .int x :: st) sh P I J cells slots := by
  obtain ⟨p, l, e, R, s, m, args, below, meth, c, Q, dC, dI, cA, A, α0, N0⟩ := K
  obtain ⟨hx, hb, hml, hown, hlk, hnm, hR0, hT, hK, hA, hZ⟩ := X
  intro α H locs ls ha hP hD hS hl
  exact lv_imul hx hb hd (kk α H locs ls ha hP hD hS hl)
theorem ar_iand (X : am_C K cc nL own nm R0) {x y : Int32} (hd : decode cc pc = .ok (.iand, 1)) (kk : AW K nL (pc + 1) lo (.int (x &&& y) :: st) sh P I J cells slots) : AW K nL pc lo (.int y :: .int x :: st) sh P I J cells slots := by
  obtain ⟨p, l, e, R, s, m, args, below, meth, c, Q, dC, dI, cA, A, α0, N0⟩ := K
  obtain ⟨hx, hb, hml, hown, hlk, hnm, hR0, hT, hK, hA, hZ⟩ := X
  intro α H locs ls ha hP hD hS hl
  exact lv_iand hx hb hd (kk α H locs ls ha hP hD hS hl)
theorem ar_ior (X : am_C K cc nL own nm R0) {x y : Int32} (hd : decode cc pc = .ok (.ior, 1)) (kk : AW K nL (pc + 1) lo (.int (x ||| y) :: st) sh P I J cells slots) : AW K nL pc lo (.int y :: .int x :: st) sh P I J cells slots := by
  obtain ⟨p, l, e, R, s, m, args, below, meth, c, Q, dC, dI, cA, A, α0, N0⟩ := K
  obtain ⟨hx, hb, hml, hown, hlk, hnm, hR0, hT, hK, hA, hZ⟩ := X
  intro α H locs ls ha hP hD hS hl
  exact lv_ior hx hb hd (kk α H locs ls ha hP hD hS hl)
theorem ar_ishl (X : am_C K cc nL own nm R0) {x y : Int32} (hd : decode cc pc = .ok (.ishl, 1)) (kk : AW K nL (pc + 1) lo (.int (am_shl x y) :: st) sh P I J cells slots) : AW K nL pc lo (.int y :: .int x :: st) sh P I J cells slots := by
  obtain ⟨p, l, e, R, s, m, args, below, meth, c, Q, dC, dI, cA, A, α0, N0⟩ := K
  obtain ⟨hx, hb, hml, hown, hlk, hnm, hR0, hT, hK, hA, hZ⟩ := X
  intro α H locs ls ha hP hD hS hl
  exact lv_ishl hx hb hd (kk α H locs ls ha hP hD hS hl)
theorem ar_ishr (X : am_C K cc nL own nm R0) {x y : Int32} (hd : decode cc pc = .ok (.ishr, 1)) (kk : AW K nL (pc + 1) lo (.int (am_shr x y) :: st) sh P I J cells slots) : AW K nL pc lo (.int y :: .int x :: st) sh P I J cells slots := by
  obtain ⟨p, l, e, R, s, m, args, below, meth, c, Q, dC, dI, cA, A, α0, N0⟩ := K
  obtain ⟨hx, hb, hml, hown, hlk, hnm, hR0, hT, hK, hA, hZ⟩ := X
  intro α H locs ls ha hP hD hS hl
  exact lv_ishr hx hb hd (kk α H locs ls ha hP hD hS hl)
theorem ar_iushr (X : am_C K cc nL own nm R0) {x y : Int32} (hd : decode cc pc = .ok (.iushr, 1)) (kk : AW K nL (pc + 1) lo (.int (am_ushr x y) :: st) sh P I J cells slots) : AW K nL pc lo (.int y :: .int x :: st) sh P I J cells slots := by
  obtain ⟨p, l, e, R, s, m, args, below, meth, c, Q, dC, dI, cA, A, α0, N0⟩ := K
  obtain ⟨hx, hb, hml, hown, hlk, hnm, hR0, hT, hK, hA, hZ⟩ := X
  intro α H locs ls ha hP hD hS hl
  exact lv_iushr hx hb hd rfl (kk α H locs ls ha hP hD hS hl)
theorem ar_idiv (X : am_C K cc nL own nm R0) {x y : Int32} (hd : decode cc pc = .ok (.idiv, 1)) (hne : decide (¬ y = 0) = true) (kk : AW K nL (pc + 1) lo (.int (x / y) :: st) sh P I J cells slots) : AW K nL pc lo (.int y :: .int x :: st) sh P I J cells slots := by
  obtain ⟨p, l, e, R, s, m, args, below, meth, c, Q, dC, dI, cA, A, α0, N0⟩ := K
  obtain ⟨hx, hb, hml, hown, hlk, hnm, hR0, hT, hK, hA, hZ⟩ := X
  intro α H locs ls ha hP hD hS hl
  exact lv_idiv hx hb hd (of_decide_eq_true hne) (kk α H locs ls ha hP hD hS hl)
theorem ar_irem (X : am_C K cc nL own nm R0) {x y : Int32} (hd : decode cc pc = .ok (.irem, 1)) (hne : decide (¬ y = 0) = true) (kk : AW K nL (pc + 1) lo (.int (am_rem x y) :: st) sh P I J cells slots) : AW K nL pc lo (.int y :: .int x :: st) sh P I J cells slots := by
  obtain ⟨p, l, e, R, s, m, args, below, meth, c, Q, dC, dI, cA, A, α0, N0⟩ := K
  obtain ⟨hx, hb, hml, hown, hlk, hnm, hR0, hT, hK, hA, hZ⟩ := X
  intro α H locs ls ha hP hD hS hl
  exact lv_irem hx hb hd (of_decide_eq_true hne) (kk α H locs ls ha hP hD hS hl)
theorem ar_ldiv (X : am_C K cc nL own nm R0) {x y : Int64} (hd : decode cc pc = .ok (.ldiv, 1)) (hne : decide (¬ y = 0) = true) (kk : AW K nL (pc + 1) lo (.long (x / y) :: st) sh P I J cells slots) : AW K nL pc lo (.long y :: .long x :: st) sh P I J cells slots := by
  obtain ⟨p, l, e, R, s, m, args, below, meth, c, Q, dC, dI, cA, A, α0, N0⟩ := K
  obtain ⟨hx, hb, hml, hown, hlk, hnm, hR0, hT, hK, hA, hZ⟩ := X
  intro α H locs ls ha hP hD hS hl
  exact lv_ldiv hx hb hd (of_decide_eq_true hne) (kk α H locs ls ha hP hD hS hl)
theorem ar_ladd (X : am_C K cc nL own nm R0) {x y : Int64} (hd : decode cc pc = .ok (.ladd, 1)) (kk : AW K nL (pc + 1) lo (.long (x + y) :: st) sh P I J cells slots) : AW K nL pc lo (.long y :: .long x :: st) sh P I J cells slots := by
  obtain ⟨p, l, e, R, s, m, args, below, meth, c, Q, dC, dI, cA, A, α0, N0⟩ := K
  obtain ⟨hx, hb, hml, hown, hlk, hnm, hR0, hT, hK, hA, hZ⟩ := X
  intro α H locs ls ha hP hD hS hl
  exact lv_ladd hx hb hd (kk α H locs ls ha hP hD hS hl)
theorem ar_lsub (X : am_C K cc nL own nm R0) {x y : Int64} (hd : decode cc pc = .ok (.lsub, 1)) (kk : AW K nL (pc + 1) lo (.long (x - y) :: st) sh P I J cells slots) : AW K nL pc lo (.long y :: .long x :: st) sh P I J cells slots := by
  obtain ⟨p, l, e, R, s, m, args, below, meth, c, Q, dC, dI, cA, A, α0, N0⟩ := K
  obtain ⟨hx, hb, hml, hown, hlk, hnm, hR0, hT, hK, hA, hZ⟩ := X
  intro α H locs ls ha hP hD hS hl
  exact lv_lsub hx hb hd (kk α H locs ls ha hP hD hS hl)
theorem ar_lmul (X : am_C K cc nL own nm R0) {x y : Int64} (hd : decode cc pc = .ok (.lmul, 1)) (kk : AW K nL (pc + 1) lo (.long (x * y) :: st) sh P I J cells slots) : AW K nL pc lo (.long y :: .long x :: st) sh P I J cells slots := by
  obtain ⟨p, l, e, R, s, m, args, below, meth, c, Q, dC, dI, cA, A, α0, N0⟩ := K
  obtain ⟨hx, hb, hml, hown, hlk, hnm, hR0, hT, hK, hA, hZ⟩ := X
  intro α H locs ls ha hP hD hS hl
  exact lv_lmul hx hb hd (kk α H locs ls ha hP hD hS hl)
theorem ar_land (X : am_C K cc nL own nm R0) {x y : Int64} (hd : decode cc pc = .ok (.land, 1)) (kk : AW K nL (pc + 1) lo (.long (x &&& y) :: st) sh P I J cells slots) : AW K nL pc lo (.long y :: .long x :: st) sh P I J cells slots := by
  obtain ⟨p, l, e, R, s, m, args, below, meth, c, Q, dC, dI, cA, A, α0, N0⟩ := K
  obtain ⟨hx, hb, hml, hown, hlk, hnm, hR0, hT, hK, hA, hZ⟩ := X
  intro α H locs ls ha hP hD hS hl
  exact lv_land hx hb hd (kk α H locs ls ha hP hD hS hl)
theorem ar_lor (X : am_C K cc nL own nm R0) {x y : Int64} (hd : decode cc pc = .ok (.lor, 1)) (kk : AW K nL (pc + 1) lo (.long (x ||| y) :: st) sh P I J cells slots) : AW K nL pc lo (.long y :: .long x :: st) sh P I J cells slots := by
  obtain ⟨p, l, e, R, s, m, args, below, meth, c, Q, dC, dI, cA, A, α0, N0⟩ := K
  obtain ⟨hx, hb, hml, hown, hlk, hnm, hR0, hT, hK, hA, hZ⟩ := X
  intro α H locs ls ha hP hD hS hl
  exact lv_lor hx hb hd (kk α H locs ls ha hP hD hS hl)
theorem ar_lshl (X : am_C K cc nL own nm R0) {x : Int64} {y : Int32} (hd : decode cc pc = .ok (.lshl, 1)) (kk : AW K nL (pc + 1) lo (.long (am_lshl x y) :: st) sh P I J cells slots) : AW K nL pc lo (.int y :: .long x :: st) sh P I J cells slots := by
  obtain ⟨p, l, e, R, s, m, args, below, meth, c, Q, dC, dI, cA, A, α0, N0⟩ := K
  obtain ⟨hx, hb, hml, hown, hlk, hnm, hR0, hT, hK, hA, hZ⟩ := X
  intro α H locs ls ha hP hD hS hl
  exact lv_lshl hx hb hd rfl (kk α H locs ls ha hP hD hS hl)
theorem ar_lshr (X : am_C K cc nL own nm R0) {x : Int64} {y : Int32} (hd : decode cc pc = .ok (.lshr, 1)) (kk : AW K nL (pc + 1) lo (.long (am_lshr x y) :: st) sh P I J cells slots) : AW K nL pc lo (.int y :: .long x :: st) sh P I J cells slots := by
  obtain ⟨p, l, e, R, s, m, args, below, meth, c, Q, dC, dI, cA, A, α0, N0⟩ := K
  obtain ⟨hx, hb, hml, hown, hlk, hnm, hR0, hT, hK, hA, hZ⟩ := X
  intro α H locs ls ha hP hD hS hl
  exact lv_lshr hx hb hd rfl (kk α H locs ls ha hP hD hS hl)
theorem ar_lushr (X : am_C K cc nL own nm R0) {x : Int64} {y : Int32} (hd : decode cc pc = .ok (.lushr, 1)) (kk : AW K nL (pc + 1) lo (.long (am_lushr x y) :: st) sh P I J cells slots) : AW K nL pc lo (.int y :: .long x :: st) sh P I J cells slots := by
  obtain ⟨p, l, e, R, s, m, args, below, meth, c, Q, dC, dI, cA, A, α0, N0⟩ := K
  obtain ⟨hx, hb, hml, hown, hlk, hnm, hR0, hT, hK, hA, hZ⟩ := X
  intro α H locs ls ha hP hD hS hl
  exact lv_lushr hx hb hd rfl (kk α H locs ls ha hP hD hS hl)
theorem ar_lcmp (X : am_C K cc nL own nm R0) {x y : Int64} (hd : decode cc pc = .ok (.lcmp, 1)) (kk : AW K nL (pc + 1) lo (.int (lg_cmp x y) :: st) sh P I J cells slots) : AW K nL pc lo (.long y :: .long x :: st) sh P I J cells slots := by
  obtain ⟨p, l, e, R, s, m, args, below, meth, c, Q, dC, dI, cA, A, α0, N0⟩ := K
  obtain ⟨hx, hb, hml, hown, hlk, hnm, hR0, hT, hK, hA, hZ⟩ := X
  intro α H locs ls ha hP hD hS hl
  exact W.lcmp hx hb hd (kk α H locs ls ha hP hD hS hl)
theorem ar_i2l (X : am_C K cc nL own nm R0) {x : Int32} (hd : decode cc pc = .ok (.i2l, 1)) (kk : AW K nL (pc + 1) lo (.long x.toInt64 :: st) sh P I J cells slots) : AW K nL pc lo (.int x :: st) sh P I J cells slots := by
  obtain ⟨p, l, e, R, s, m, args, below, meth, c, Q, dC, dI, cA, A, α0, N0⟩ := K
  obtain ⟨hx, hb, hml, hown, hlk, hnm, hR0, hT, hK, hA, hZ⟩ := X
  intro α H locs ls ha hP hD hS hl
  exact lv_i2l hx hb hd rfl (kk α H locs ls ha hP hD hS hl)
theorem ar_l2i (X : am_C K cc nL own nm R0) {x : Int64} (hd : decode cc pc = .ok (.l2i, 1)) (kk : AW K nL (pc + 1) lo (.int x.toInt32 :: st) sh P I J cells slots) : AW K nL pc lo (.long x :: st) sh P I J cells slots := by
  obtain ⟨p, l, e, R, s, m, args, below, meth, c, Q, dC, dI, cA, A, α0, N0⟩ := K
  obtain ⟨hx, hb, hml, hown, hlk, hnm, hR0, hT, hK, hA, hZ⟩ := X
  intro α H locs ls ha hP hD hS hl
  exact lv_l2i hx hb hd rfl (kk α H locs ls ha hP hD hS hl)
theorem ar_i2c (X : am_C K cc nL own nm R0) {x : Int32} (hd : decode cc pc = .ok (.i2c, 1)) (kk : AW K nL (pc + 1) lo (.int (am_i2c x) :: st) sh P I J cells slots) : AW K nL pc lo (.int x :: st) sh P I J cells slots := by
  obtain ⟨p, l, e, R, s, m, args, below, meth, c, Q, dC, dI, cA, A, α0, N0⟩ := K
  obtain ⟨hx, hb, hml, hown, hlk, hnm, hR0, hT, hK, hA, hZ⟩ := X
  intro α H locs ls ha hP hD hS hl
  exact lv_i2c hx hb hd rfl (kk α H locs ls ha hP hD hS hl)
theorem ar_dup (X : am_C K cc nL own nm R0) {v : Value} (hd : decode cc pc = .ok (.dup, 1)) (hc : v.category = 1) (kk : AW K nL (pc + 1) lo (v :: v :: st) sh P I J cells slots) : AW K nL pc lo (v :: st) sh P I J cells slots := by
  obtain ⟨p, l, e, R, s, m, args, below, meth, c, Q, dC, dI, cA, A, α0, N0⟩ := K
  obtain ⟨hx, hb, hml, hown, hlk, hnm, hR0, hT, hK, hA, hZ⟩ := X
  intro α H locs ls ha hP hD hS hl
  exact lv_dup hx hb hd ((am_cat α v).trans hc) (kk α H locs ls ha hP hD hS hl)
theorem ar_pop (X : am_C K cc nL own nm R0) {v : Value} (hd : decode cc pc = .ok (.pop, 1)) (hc : v.category = 1) (kk : AW K nL (pc + 1) lo st sh P I J cells slots) : AW K nL pc lo (v :: st) sh P I J cells slots := by
  obtain ⟨p, l, e, R, s, m, args, below, meth, c, Q, dC, dI, cA, A, α0, N0⟩ := K
  obtain ⟨hx, hb, hml, hown, hlk, hnm, hR0, hT, hK, hA, hZ⟩ := X
  intro α H locs ls ha hP hD hS hl
  exact lv_pop hx hb hd ((am_cat α v).trans hc) (kk α H locs ls ha hP hD hS hl)
theorem ar_dup2 (X : am_C K cc nL own nm R0) {v w : Value} (hd : decode cc pc = .ok (.dup2, 1)) (hv : v.category = 1) (hw : w.category = 1) (kk : AW K nL (pc + 1) lo (v :: w :: v :: w :: st) sh P I J cells slots) : AW K nL pc lo (v :: w :: st) sh P I J cells slots := by
  obtain ⟨p, l, e, R, s, m, args, below, meth, c, Q, dC, dI, cA, A, α0, N0⟩ := K
  obtain ⟨hx, hb, hml, hown, hlk, hnm, hR0, hT, hK, hA, hZ⟩ := X
  intro α H locs ls ha hP hD hS hl
  exact lv_dup2_11 hx hb hd ((am_cat α v).trans hv) ((am_cat α w).trans hw) (kk α H locs ls ha hP hD hS hl)
theorem ar_goto (X : am_C K cc nL own nm R0) {off : Int} {tgt : Nat} (hd : decode cc pc = .ok (.goto off, 3)) (ht : (pc : Int) + off = (tgt : Int)) (kk : AW K nL tgt lo st sh P I J cells slots) : AW K nL pc lo st sh P I J cells slots := by
  obtain ⟨p, l, e, R, s, m, args, below, meth, c, Q, dC, dI, cA, A, α0, N0⟩ := K
  obtain ⟨hx, hb, hml, hown, hlk, hnm, hR0, hT, hK, hA, hZ⟩ := X
  intro α H locs ls ha hP hD hS hl
  exact lv_goto hx hb hd ht (kk α H locs ls ha hP hD hS hl)
theorem ar_icmp_eq (X : am_C K cc nL own nm R0) {x y : Int32} {off : Int} {tgt : Nat} {T F : Option β} (hd : decode cc pc = .ok (.if_icmp .eq off, 3)) (ht : (pc : Int) + off = (tgt : Int)) (hf : (if x = y then T else F) = some Rs) (kt : x = y → T = some Rs → AW K nL tgt lo st sh P I J cells slots) (kf : ¬ x = y → F = some Rs → AW K nL (pc + 3) lo st sh P I J cells slots) : AW K nL pc lo (.int y :: .int x :: st) sh P I J cells slots := by
  obtain ⟨p, l, e, R, s, m, args, below, meth, c, Q, dC, dI, cA, A, α0, N0⟩ := K
  obtain ⟨hx, hb, hml, hown, hlk, hnm, hR0, hT, hK, hA, hZ⟩ := X
  intro α H locs ls ha hP hD hS hl
  exact lv_icmp_eq hx hb hd ht (fun h => kt h (by rw [if_pos h] at hf; exact hf) α H locs ls ha hP hD hS hl) (fun h => kf h (by rw [if_neg h] at hf; exact hf) α H locs ls ha hP hD hS hl)
theorem ar_icmp_ne (X : am_C K cc nL own nm R0) {x y : Int32} {off : Int} {tgt : Nat} {T F : Option β} (hd : decode cc pc = .ok (.if_icmp .ne off, 3)) (ht : (pc : Int) + off = (tgt : Int)) (hf : (if x = y then T else F) = some Rs) (kt : x = y → T = some Rs → AW K nL (pc + 3) lo st sh P I J cells slots) (kf : ¬ x = y → F = some Rs → AW K nL tgt lo st sh P I J cells slots) : AW K nL pc lo (.int y :: .int x :: st) sh P I J cells slots := by
  obtain ⟨p, l, e, R, s, m, args, below, meth, c, Q, dC, dI, cA, A, α0, N0⟩ := K
  obtain ⟨hx, hb, hml, hown, hlk, hnm, hR0, hT, hK, hA, hZ⟩ := X
  intro α H locs ls ha hP hD hS hl
  exact lv_icmp_ne hx hb hd ht (fun h => kf h (by rw [if_neg h] at hf; exact hf) α H locs ls ha hP hD hS hl) (fun h => kt h (by rw [if_pos h] at hf; exact hf) α H locs ls ha hP hD hS hl)
theorem ar_icmp_lt (X : am_C K cc nL own nm R0) {x y : Int32} {off : Int} {tgt : Nat} {T F : Option β} (hd : decode cc pc = .ok (.if_icmp .lt off, 3)) (ht : (pc : Int) + off = (tgt : Int)) (hf : (if x < y then T else F) = some Rs) (kt : x < y → T = some Rs → AW K nL tgt lo st sh P I J cells slots) (kf : ¬ x < y → F = some Rs → AW K nL (pc + 3) lo st sh P I J cells slots) : AW K nL pc lo (.int y :: .int x :: st) sh P I J cells slots := by
  obtain ⟨p, l, e, R, s, m, args, below, meth, c, Q, dC, dI, cA, A, α0, N0⟩ := K
  obtain ⟨hx, hb, hml, hown, hlk, hnm, hR0, hT, hK, hA, hZ⟩ := X
  intro α H locs ls ha hP hD hS hl
  exact lv_icmp_lt hx hb hd ht (fun h => kt h (by rw [if_pos h] at hf; exact hf) α H locs ls ha hP hD hS hl) (fun h => kf h (by rw [if_neg h] at hf; exact hf) α H locs ls ha hP hD hS hl)
theorem ar_icmp_ge (X : am_C K cc nL own nm R0) {x y : Int32} {off : Int} {tgt : Nat} {T F : Option β} (hd : decode cc pc = .ok (.if_icmp .ge off, 3)) (ht : (pc : Int) + off = (tgt : Int)) (hf : (if y ≤ x then T else F) = some Rs) (kt : y ≤ x → T = some Rs → AW K nL tgt lo st sh P I J cells slots) (kf : ¬ y ≤ x → F = some Rs → AW K nL (pc + 3) lo st sh P I J cells slots) : AW K nL pc lo (.int y :: .int x :: st) sh P I J cells slots := by
  obtain ⟨p, l, e, R, s, m, args, below, meth, c, Q, dC, dI, cA, A, α0, N0⟩ := K
  obtain ⟨hx, hb, hml, hown, hlk, hnm, hR0, hT, hK, hA, hZ⟩ := X
  intro α H locs ls ha hP hD hS hl
  exact lv_icmp_ge hx hb hd ht (fun h => kt h (by rw [if_pos h] at hf; exact hf) α H locs ls ha hP hD hS hl) (fun h => kf h (by rw [if_neg h] at hf; exact hf) α H locs ls ha hP hD hS hl)
theorem ar_icmp_gt (X : am_C K cc nL own nm R0) {x y : Int32} {off : Int} {tgt : Nat} {T F : Option β} (hd : decode cc pc = .ok (.if_icmp .gt off, 3)) (ht : (pc : Int) + off = (tgt : Int)) (hf : (if y < x then T else F) = some Rs) (kt : y < x → T = some Rs → AW K nL tgt lo st sh P I J cells slots) (kf : ¬ y < x → F = some Rs → AW K nL (pc + 3) lo st sh P I J cells slots) : AW K nL pc lo (.int y :: .int x :: st) sh P I J cells slots := by
  obtain ⟨p, l, e, R, s, m, args, below, meth, c, Q, dC, dI, cA, A, α0, N0⟩ := K
  obtain ⟨hx, hb, hml, hown, hlk, hnm, hR0, hT, hK, hA, hZ⟩ := X
  intro α H locs ls ha hP hD hS hl
  exact lv_icmp_gt hx hb hd ht (fun h => kt h (by rw [if_pos h] at hf; exact hf) α H locs ls ha hP hD hS hl) (fun h => kf h (by rw [if_neg h] at hf; exact hf) α H locs ls ha hP hD hS hl)
theorem ar_icmp_le (X : am_C K cc nL own nm R0) {x y : Int32} {off : Int} {tgt : Nat} {T F : Option β} (hd : decode cc pc = .ok (.if_icmp .le off, 3)) (ht : (pc : Int) + off = (tgt : Int)) (hf : (if x ≤ y then T else F) = some Rs) (kt : x ≤ y → T = some Rs → AW K nL tgt lo st sh P I J cells slots) (kf : ¬ x ≤ y → F = some Rs → AW K nL (pc + 3) lo st sh P I J cells slots) : AW K nL pc lo (.int y :: .int x :: st) sh P I J cells slots := by
  obtain ⟨p, l, e, R, s, m, args, below, meth, c, Q, dC, dI, cA, A, α0, N0⟩ := K
  obtain ⟨hx, hb, hml, hown, hlk, hnm, hR0, hT, hK, hA, hZ⟩ := X
  intro α H locs ls ha hP hD hS hl
  exact lv_icmp_le hx hb hd ht (fun h => kt h (by rw [if_pos h] at hf; exact hf) α H locs ls ha hP hD hS hl) (fun h => kf h (by rw [if_neg h] at hf; exact hf) α H locs ls ha hP hD hS hl)
theorem ar_if_eq (X : am_C K cc nL own nm R0) {x : Int32} {off : Int} {tgt : Nat} {T F : Option β} (hd : decode cc pc = .ok (.ifCond .eq off, 3)) (ht : (pc : Int) + off = (tgt : Int)) (hf : (if x = 0 then T else F) = some Rs) (kt : x = 0 → T = some Rs → AW K nL tgt lo st sh P I J cells slots) (kf : ¬ x = 0 → F = some Rs → AW K nL (pc + 3) lo st sh P I J cells slots) : AW K nL pc lo (.int x :: st) sh P I J cells slots := by
  obtain ⟨p, l, e, R, s, m, args, below, meth, c, Q, dC, dI, cA, A, α0, N0⟩ := K
  obtain ⟨hx, hb, hml, hown, hlk, hnm, hR0, hT, hK, hA, hZ⟩ := X
  intro α H locs ls ha hP hD hS hl
  exact lv_if_eq hx hb hd ht (fun h => kt h (by rw [if_pos h] at hf; exact hf) α H locs ls ha hP hD hS hl) (fun h => kf h (by rw [if_neg h] at hf; exact hf) α H locs ls ha hP hD hS hl)
theorem ar_if_ne (X : am_C K cc nL own nm R0) {x : Int32} {off : Int} {tgt : Nat} {T F : Option β} (hd : decode cc pc = .ok (.ifCond .ne off, 3)) (ht : (pc : Int) + off = (tgt : Int)) (hf : (if x = 0 then T else F) = some Rs) (kt : x = 0 → T = some Rs → AW K nL (pc + 3) lo st sh P I J cells slots) (kf : ¬ x = 0 → F = some Rs → AW K nL tgt lo st sh P I J cells slots) : AW K nL pc lo (.int x :: st) sh P I J cells slots := by
  obtain ⟨p, l, e, R, s, m, args, below, meth, c, Q, dC, dI, cA, A, α0, N0⟩ := K
  obtain ⟨hx, hb, hml, hown, hlk, hnm, hR0, hT, hK, hA, hZ⟩ := X
  intro α H locs ls ha hP hD hS hl
  exact lv_if_ne hx hb hd ht (fun h => kf h (by rw [if_neg h] at hf; exact hf) α H locs ls ha hP hD hS hl) (fun h => kt h (by rw [if_pos h] at hf; exact hf) α H locs ls ha hP hD hS hl)
theorem ar_if_lt (X : am_C K cc nL own nm R0) {x : Int32} {off : Int} {tgt : Nat} {T F : Option β} (hd : decode cc pc = .ok (.ifCond .lt off, 3)) (ht : (pc : Int) + off = (tgt : Int)) (hf : (if x < 0 then T else F) = some Rs) (kt : x < 0 → T = some Rs → AW K nL tgt lo st sh P I J cells slots) (kf : ¬ x < 0 → F = some Rs → AW K nL (pc + 3) lo st sh P I J cells slots) : AW K nL pc lo (.int x :: st) sh P I J cells slots := by
  obtain ⟨p, l, e, R, s, m, args, below, meth, c, Q, dC, dI, cA, A, α0, N0⟩ := K
  obtain ⟨hx, hb, hml, hown, hlk, hnm, hR0, hT, hK, hA, hZ⟩ := X
  intro α H locs ls ha hP hD hS hl
  exact lv_if_lt hx hb hd ht (fun h => kt h (by rw [if_pos h] at hf; exact hf) α H locs ls ha hP hD hS hl) (fun h => kf h (by rw [if_neg h] at hf; exact hf) α H locs ls ha hP hD hS hl)
theorem ar_if_ge (X : am_C K cc nL own nm R0) {x : Int32} {off : Int} {tgt : Nat} {T F : Option β} (hd : decode cc pc = .ok (.ifCond .ge off, 3)) (ht : (pc : Int) + off = (tgt : Int)) (hf : (if 0 ≤ x then T else F) = some Rs) (kt : 0 ≤ x → T = some Rs → AW K nL tgt lo st sh P I J cells slots) (kf : ¬ 0 ≤ x → F = some Rs → AW K nL (pc + 3) lo st sh P I J cells slots) : AW K nL pc lo (.int x :: st) sh P I J cells slots := by
  obtain ⟨p, l, e, R, s, m, args, below, meth, c, Q, dC, dI, cA, A, α0, N0⟩ := K
  obtain ⟨hx, hb, hml, hown, hlk, hnm, hR0, hT, hK, hA, hZ⟩ := X
  intro α H locs ls ha hP hD hS hl
  exact lv_if_ge hx hb hd ht (fun h => kt h (by rw [if_pos h] at hf; exact hf) α H locs ls ha hP hD hS hl) (fun h => kf h (by rw [if_neg h] at hf; exact hf) α H locs ls ha hP hD hS hl)
theorem ar_if_gt (X : am_C K cc nL own nm R0) {x : Int32} {off : Int} {tgt : Nat} {T F : Option β} (hd : decode cc pc = .ok (.ifCond .gt off, 3)) (ht : (pc : Int) + off = (tgt : Int)) (hf : (if 0 < x then T else F) = some Rs) (kt : 0 < x → T = some Rs → AW K nL tgt lo st sh P I J cells slots) (kf : ¬ 0 < x → F = some Rs → AW K nL (pc + 3) lo st sh P I J cells slots) : AW K nL pc lo (.int x :: st) sh P I J cells slots := by
  obtain ⟨p, l, e, R, s, m, args, below, meth, c, Q, dC, dI, cA, A, α0, N0⟩ := K
  obtain ⟨hx, hb, hml, hown, hlk, hnm, hR0, hT, hK, hA, hZ⟩ := X
  intro α H locs ls ha hP hD hS hl
  exact lv_if_gt hx hb hd ht (fun h => kt h (by rw [if_pos h] at hf; exact hf) α H locs ls ha hP hD hS hl) (fun h => kf h (by rw [if_neg h] at hf; exact hf) α H locs ls ha hP hD hS hl)
theorem ar_if_le (X : am_C K cc nL own nm R0) {x : Int32} {off : Int} {tgt : Nat} {T F : Option β} (hd : decode cc pc = .ok (.ifCond .le off, 3)) (ht : (pc : Int) + off = (tgt : Int)) (hf : (if x ≤ 0 then T else F) = some Rs) (kt : x ≤ 0 → T = some Rs → AW K nL tgt lo st sh P I J cells slots) (kf : ¬ x ≤ 0 → F = some Rs → AW K nL (pc + 3) lo st sh P I J cells slots) : AW K nL pc lo (.int x :: st) sh P I J cells slots := by
  obtain ⟨p, l, e, R, s, m, args, below, meth, c, Q, dC, dI, cA, A, α0, N0⟩ := K
  obtain ⟨hx, hb, hml, hown, hlk, hnm, hR0, hT, hK, hA, hZ⟩ := X
  intro α H locs ls ha hP hD hS hl
  exact lv_if_le hx hb hd ht (fun h => kt h (by rw [if_pos h] at hf; exact hf) α H locs ls ha hP hD hS hl) (fun h => kf h (by rw [if_neg h] at hf; exact hf) α H locs ls ha hP hD hS hl)
theorem ar_lookup (X : am_C K cc nL own nm R0) {dflt : Int} {ps : Array (Int × Int)} {len : Nat} {x : Int32} {off : Int} {tgt : Nat} (hd : decode cc pc = .ok (.lookupswitch dflt ps, len)) (hp : (ps.toList.zip (ps.toList.drop 1)).all (fun (a, next) => a.1 < next.1) = true) (ho : Op.lookupswitch.offset ps.toList dflt x.toInt = off) (ht : (pc : Int) + off = (tgt : Int)) (kk : AW K nL tgt lo st sh P I J cells slots) : AW K nL pc lo (.int x :: st) sh P I J cells slots := by
  obtain ⟨p, l, e, R, s, m, args, below, meth, c, Q, dC, dI, cA, A, α0, N0⟩ := K
  obtain ⟨hx, hb, hml, hown, hlk, hnm, hR0, hT, hK, hA, hZ⟩ := X
  intro α H locs ls ha hP hD hS hl
  exact lv_lookup hx hb hd hp ho ht (kk α H locs ls ha hP hD hS hl)
theorem ar_tableOut (X : am_C K cc nL own nm R0) {dflt lo1 hi1 : Int} {offs : Array Int} {len : Nat} {x : Int32} {tgt : Nat} (hd : decode cc pc = .ok (.tableswitch dflt lo1 hi1 offs, len)) (h : x.toInt < lo1 ∨ hi1 < x.toInt) (ht : (pc : Int) + dflt = (tgt : Int)) (kk : AW K nL tgt lo st sh P I J cells slots) : AW K nL pc lo (.int x :: st) sh P I J cells slots := by
  obtain ⟨p, l, e, R, s, m, args, below, meth, c, Q, dC, dI, cA, A, α0, N0⟩ := K
  obtain ⟨hx, hb, hml, hown, hlk, hnm, hR0, hT, hK, hA, hZ⟩ := X
  intro α H locs ls ha hP hD hS hl
  exact lv_tableOut hx hb hd h ht (kk α H locs ls ha hP hD hS hl)
theorem ar_tableIn (X : am_C K cc nL own nm R0) {dflt lo1 hi1 : Int} {offs : Array Int} {len : Nat} {x : Int32} {off : Int} {tgt : Nat} (hd : decode cc pc = .ok (.tableswitch dflt lo1 hi1 offs, len)) (h1 : ¬ x.toInt < lo1) (h2 : ¬ hi1 < x.toInt) (ho : offs[(x.toInt - lo1).toNat]? = some off) (ht : (pc : Int) + off = (tgt : Int)) (kk : AW K nL tgt lo st sh P I J cells slots) : AW K nL pc lo (.int x :: st) sh P I J cells slots := by
  obtain ⟨p, l, e, R, s, m, args, below, meth, c, Q, dC, dI, cA, A, α0, N0⟩ := K
  obtain ⟨hx, hb, hml, hown, hlk, hnm, hR0, hT, hK, hA, hZ⟩ := X
  intro α H locs ls ha hP hD hS hl
  exact lv_tableIn hx hb hd h1 h2 ho ht (kk α H locs ls ha hP hD hS hl)
theorem am_fs_get {α : Nat → Nat} {I : Nat → Int32} {P : Nat → Option Nat} {ty : Nat → FieldType} {n k : Nat} (hk : k < n) : ((List.range n).map (am_fv α I P ty))[k]? = some (am_fv α I P ty k) := by
  simp [hk]
theorem am_fs_set {α : Nat → Nat} {I I' : Nat → Int32} {P P' : Nat → Option Nat} {ty : Nat → FieldType} {n k : Nat} {v : Value} (hv : am_fv α I' P' ty k = v) (ho : ∀ j, j ≠ k → am_fv α I' P' ty j = am_fv α I P ty j) : ((List.range n).map (am_fv α I P ty)).set k v = (List.range n).map (am_fv α I' P' ty) := by
  apply List.ext_getElem?
  intro j
  by_cases hl : j < n
  · by_cases hj : j = k
    · subst hj
      rw [List.getElem?_set_self (by simpa using hl), am_fs_get hl, hv]
    · rw [List.getElem?_set_ne (fun e => hj e.symm), am_fs_get hl, am_fs_get hl, ho j hj]
  · rw [List.getElem?_eq_none (by simpa using hl), List.getElem?_eq_none (by simpa using hl)]
def am_cl (ci : Nat) (C : String) (T : u_T) (n : Nat) : Prop := vwCl[ci]? = some (C, T, n) ∧ am_n ci = n ∧ (∀ w ∈ u_ws C T n, w ∈ lw_tbl ∧ am_good w = true) ∧ (∀ k, k < n → parseFieldDescriptor (T k).2.2.1 = some (am_ty ci k)) ∧ (∀ a, a < n → ∀ b, b < n → a ≠ b → (T a).2.1 ≠ (T b).2.1)
def am_fl (own : String) (idx : Nat) (ref name desc : String) : Prop := Cond.fieldLink own idx ref name desc ∈ lw_tbl ∨ ∃ host, Cond.fieldLinkNest own idx ref name desc host ∈ lw_tbl
/-- entry idx of own's pool is field k of class ci -/
def am_fld (own : String) (idx ci k : Nat) : Prop := ∃ (C : String) (T : u_T) (n : Nat), am_cl ci C T n ∧ k < n ∧ am_fl own idx (T k).1 (T k).2.1 (T k).2.2.1 ∧ (T k).2.2.2 = false
def am_fldF (own : String) (idx ci k : Nat) : Prop := ∃ (C : String) (T : u_T) (n : Nat), am_cl ci C T n ∧ k < n ∧ Cond.fieldLink own idx (T k).1 (T k).2.1 (T k).2.2.1 ∈ lw_tbl ∧ (T k).2.2.2 = true ∧ (T k).1 = own
def am_fldG (own : String) (idx ci k : Nat) : Prop := ∃ (C : String) (T : u_T) (n : Nat), am_cl ci C T n ∧ k < n ∧ am_fl own idx (T k).1 (T k).2.1 (T k).2.2.1
theorem am_fld.G {own : String} {idx ci k : Nat} (h : am_fld own idx ci k) : am_fldG own idx ci k := by
  obtain ⟨C, T, n, h1, h2, h3, -⟩ := h
  exact ⟨C, T, n, h1, h2, h3⟩
theorem am_fldF.G {own : String} {idx ci k : Nat} (h : am_fldF own idx ci k) : am_fldG own idx ci k := by
  obtain ⟨C, T, n, h1, h2, h3, -⟩ := h
  exact ⟨C, T, n, h1, h2, Or.inl h3⟩
theorem am_cl.hts {ci : Nat} {C : String} {T : u_T} {n : Nat} (h : am_cl ci C T n) {s : State} (hT : am_T s) (a : Array Value) : ∀ w ∈ u_ws C T n, w.before a s = true := fun w hw => hT w (h.2.2.1 w hw).1 (h.2.2.1 w hw).2 a
theorem ar_get (X : am_C K cc nL own nm R0) {idx q ci k : Nat} {v : Value} (hd : decode cc pc = .ok (.getfield idx, 3)) (hF : am_fldG own idx ci k) (hs : sh[q]? = some (.inl ci)) (hv : ∀ α, am_fv α (I q) (P q) (am_ty ci) k = am_v α v) (kk : AW K nL (pc + 3) lo (v :: st) sh P I J cells slots) : AW K nL pc lo (.ref q :: st) sh P I J cells slots := by
  obtain ⟨p, l, e, R, s, m, args, below, meth, c, Q, dC, dI, cA, A, α0, N0⟩ := K
  obtain ⟨hx, hb, hml, hown, hlk, hnm, hR0, hT, hK, hA, hZ⟩ := X
  intro α H locs ls ha hP hD hS hl
  obtain ⟨C, T, n, hC, hk, hw⟩ := hF
  have he := am_ws_get (α := α) (cA := cA) (I := I) (J := J) (P := P) hs
  have hg := am_fs_get (α := α) (I := I q) (P := P q) (ty := am_ty ci) (n := am_n ci) (k := k) (by rw [hC.2.1]; exact hk)
  rcases hw with hw | ⟨host, hw⟩
  · exact va_get hx hb (hC.hts hT args) (fun _ h => h) hown hK hP q he hC.1 k hk (hT _ hw rfl args) (fun _ h => h) (hg.trans (congrArg some (hv α))) hd (kk α H locs ls ha hP hD hS hl)
  · exact va_getN hx hb (hC.hts hT args) (fun _ h => h) hown hK hP q he hC.1 k hk (hT _ hw rfl args) (fun _ h => h) (hg.trans (congrArg some (hv α))) hd (kk α H locs ls ha hP hD hS hl)
theorem ar_geti (X : am_C K cc nL own nm R0) {idx q ci k : Nat} (hd : decode cc pc = .ok (.getfield idx, 3)) (hF : am_fldG own idx ci k) (hty : am_ref (am_ty ci k) = false) (hs : sh[q]? = some (.inl ci)) (kk : AW K nL (pc + 3) lo (.int (I q k) :: st) sh P I J cells slots) : AW K nL pc lo (.ref q :: st) sh P I J cells slots :=
  ar_get X hd hF hs (v := .int (I q k)) (fun α => by simp [am_fv, hty, am_v]) kk
theorem ar_getr (X : am_C K cc nL own nm R0) {idx q ci k q' : Nat} (hd : decode cc pc = .ok (.getfield idx, 3)) (hF : am_fldG own idx ci k) (hty : am_ref (am_ty ci k) = true) (hs : sh[q]? = some (.inl ci)) (hp : P q k = some q') (kk : AW K nL (pc + 3) lo (.ref q' :: st) sh P I J cells slots) : AW K nL pc lo (.ref q :: st) sh P I J cells slots :=
  ar_get X hd hF hs (v := .ref q') (fun α => by simp [am_fv, hty, am_v, hp, va_rf]) kk
theorem ar_puti (X : am_C K cc nL own nm R0) {idx q ci k : Nat} {v : Int32} {F : aI → Option β} (hd : decode cc pc = .ok (.putfield idx, 3)) (hF : am_fld own idx ci k) (hty : am_ref (am_ty ci k) = false) (hn : narrow (am_ty ci k) (.int v) = .int v ∧ fits (am_ty ci k) (.int v) = true) (hs : sh[q]? = some (.inl ci)) (hf : am_let (am_w I q k v) F = some Rs) (kk : ∀ I1, F I1 = some Rs → AW K nL (pc + 3) lo st sh P I1 J cells slots) : AW K nL pc lo (.int v :: .ref q :: st) sh P I J cells slots := by
  obtain ⟨p, l, e, R, s, m, args, below, meth, c, Q, dC, dI, cA, A, α0, N0⟩ := K
  obtain ⟨hx, hb, hml, hown, hlk, hnm, hR0, hT, hK, hA, hZ⟩ := X
  intro α H locs ls ha hP hD hS hl
  obtain ⟨C, T, n, hC, hk, hw, hfin⟩ := hF
  have he := am_ws_get (α := α) (cA := cA) (I := I) (J := J) (P := P) hs
  have hset : (am_ws α cA sh I J P).set q (α q, .inr (ci, ((List.range (am_n ci)).map (am_fv α (I q) (P q) (am_ty ci))).set k (.int v))) = am_ws α cA sh (am_w I q k v) J P := by
    rw [am_fs_set (I' := (am_w I q k v) q) (P' := P q) (by simp [am_fv, hty, am_w]) (fun j hj => by simp [am_fv, am_w, hj])]
    exact am_ws_set hs (fun j hj => am_w_ne I v hj) (fun _ _ => rfl) (fun _ _ => rfl)
  have hlen : k < ((List.range (am_n ci)).map (am_fv α (I q) (P q) (am_ty ci))).length := by rw [List.length_map, List.length_range, hC.2.1]; exact hk
  rcases hw with hw | ⟨host, hw⟩
  · exact va_put hx hb (hC.hts hT args) (fun _ h => h) (am_ty ci) hC.2.2.2.1 hC.2.2.2.2 hown hK hP hD hS q he hC.1 k hk (hT _ hw rfl args) (fun _ h => h) hfin (hC.2.2.2.1 k hk) hn.1 hn.2 hlen hd (fun H1 locs1 hP1 hD1 hS1 => kk _ hf α H1 locs1 ls ha (hset ▸ hP1) (hset ▸ hD1) hS1 hl)
  · exact va_putN hx hb (hC.hts hT args) (fun _ h => h) (am_ty ci) hC.2.2.2.1 hC.2.2.2.2 hown hK hP hD hS q he hC.1 k hk (hT _ hw rfl args) (fun _ h => h) hfin (hC.2.2.2.1 k hk) hn.1 hn.2 hlen hd (fun H1 locs1 hP1 hD1 hS1 => kk _ hf α H1 locs1 ls ha (hset ▸ hP1) (hset ▸ hD1) hS1 hl)
theorem ar_putF (X : am_C K cc nL own nm R0) {idx q ci k q1 : Nat} (hd : decode cc pc = .ok (.putfield idx, 3)) (hF : am_fldF own idx ci k) (hty : am_ref (am_ty ci k) = true) (hn : ∀ x : Nat, narrow (am_ty ci k) (.ref x) = .ref x ∧ fits (am_ty ci k) (.ref x) = true) (hnm1 : nm = "<init>") (hs : sh[q]? = some (.inl ci)) (kk : AW K nL (pc + 3) lo st sh (am_wP P q k (some q1)) I J cells slots) : AW K nL pc lo (.ref q1 :: .ref q :: st) sh P I J cells slots := by
  obtain ⟨p, l, e, R, s, m, args, below, meth, c, Q, dC, dI, cA, A, α0, N0⟩ := K
  obtain ⟨hx, hb, hml, hown, hlk, hnm, hR0, hT, hK, hA, hZ⟩ := X
  intro α H locs ls ha hP hD hS hl
  obtain ⟨C, T, n, hC, hk, hw, hfin, hdecl⟩ := hF
  have he := am_ws_get (α := α) (cA := cA) (I := I) (J := J) (P := P) hs
  have hset : (am_ws α cA sh I J P).set q (α q, .inr (ci, ((List.range (am_n ci)).map (am_fv α (I q) (P q) (am_ty ci))).set k (.ref (α q1)))) = am_ws α cA sh I J (am_wP P q k (some q1)) := by
    rw [am_fs_set (I' := I q) (P' := (am_wP P q k (some q1)) q) (by simp [am_fv, hty, am_wP, va_rf]) (fun j hj => by simp [am_fv, am_wP, hj])]
    exact am_ws_set hs (fun _ _ => rfl) (fun _ _ => rfl) (fun j hj => am_wP_ne P _ hj)
  have hlen : k < ((List.range (am_n ci)).map (am_fv α (I q) (P q) (am_ty ci))).length := by rw [List.length_map, List.length_range, hC.2.1]; exact hk
  exact va_putF hx hb (hC.hts hT args) (fun _ h => h) (am_ty ci) hC.2.2.2.1 hC.2.2.2.2 hown hK hP hD hS q he hC.1 k hk (hT _ hw rfl args) (fun _ h => h) hfin (hnm.trans hnm1) hdecl (hC.2.2.2.1 k hk) (hn _).1 (hn _).2 hlen hd (fun H1 locs1 hP1 hD1 hS1 => kk α H1 locs1 ls ha (hset ▸ hP1) (hset ▸ hD1) hS1 hl)
theorem ar_iald (X : am_C K cc nL own nm R0) {q n : Nat} {i : Int32} {F : Option β} (hd : decode cc pc = .ok (.iaload, 1)) (hs : sh[q]? = some (.inr (0, n))) (hf : am_g (am_ok i n) F = some Rs) (kk : F = some Rs → AW K nL (pc + 1) lo (.int (I q i.toNatClampNeg) :: st) sh P I J cells slots) : AW K nL pc lo (.int i :: .ref q :: st) sh P I J cells slots := by
  obtain ⟨p, l, e, R, s, m, args, below, meth, c, Q, dC, dI, cA, A, α0, N0⟩ := K
  obtain ⟨hx, hb, hml, hown, hlk, hnm, hR0, hT, hK, hA, hZ⟩ := X
  intro α H locs ls ha hP hD hS hl
  obtain ⟨h1, h2⟩ := am_g_elim hf
  exact va_iald hx hb hK hP q 0 (am_ws_get hs) rfl (am_ok_in h1) hd (kk h2 α H locs ls ha hP hD hS hl)
theorem ar_iast (X : am_C K cc nL own nm R0) {q n : Nat} {i v : Int32} {F : aI → Option β} (hd : decode cc pc = .ok (.iastore, 1)) (hs : sh[q]? = some (.inr (0, n))) (hf : am_g (am_ok i n) (am_let (am_w I q i.toNatClampNeg v) F) = some Rs) (kk : ∀ I1, F I1 = some Rs → AW K nL (pc + 1) lo st sh P I1 J cells slots) : AW K nL pc lo (.int v :: .int i :: .ref q :: st) sh P I J cells slots := by
  obtain ⟨p, l, e, R, s, m, args, below, meth, c, Q, dC, dI, cA, A, α0, N0⟩ := K
  obtain ⟨hx, hb, hml, hown, hlk, hnm, hR0, hT, hK, hA, hZ⟩ := X
  intro α H locs ls ha hP hD hS hl
  obtain ⟨h1, h2⟩ := am_g_elim hf
  have hset : (am_ws α cA sh I J P).set q (α q, .inl (cA 0, n, .inl (upd (I q) i.toNatClampNeg v))) = am_ws α cA sh (am_w I q i.toNatClampNeg v) J P := by
    rw [← am_w_self]
    exact am_ws_set (z := .inr (0, n)) hs (fun j hj => am_w_ne I _ hj) (fun _ _ => rfl) (fun _ _ => rfl)
  exact va_iast hx hb hK hP hD hS q 0 (am_ws_get hs) rfl (am_ok_in h1) hd (fun H1 locs1 hP1 hD1 hS1 => kk _ h2 α H1 locs1 ls ha (hset ▸ hP1) (hset ▸ hD1) hS1 hl)
theorem ar_zald (X : am_C K cc nL own nm R0) {q n : Nat} {i : Int32} {F : Option β} (hd : decode cc pc = .ok (.baload, 1)) (hs : sh[q]? = some (.inr (1, n))) (hf : am_g (am_ok i n) F = some Rs) (kk : F = some Rs → AW K nL (pc + 1) lo (.int (I q i.toNatClampNeg) :: st) sh P I J cells slots) : AW K nL pc lo (.int i :: .ref q :: st) sh P I J cells slots := by
  obtain ⟨p, l, e, R, s, m, args, below, meth, c, Q, dC, dI, cA, A, α0, N0⟩ := K
  obtain ⟨hx, hb, hml, hown, hlk, hnm, hR0, hT, hK, hA, hZ⟩ := X
  intro α H locs ls ha hP hD hS hl
  obtain ⟨h1, h2⟩ := am_g_elim hf
  exact va_zald hx hb hK hP q 1 (am_ws_get hs) rfl (am_ok_in h1) hd (kk h2 α H locs ls ha hP hD hS hl)
theorem ar_zast (X : am_C K cc nL own nm R0) {q n : Nat} {i v : Int32} {F : aI → Option β} (hd : decode cc pc = .ok (.bastore, 1)) (hs : sh[q]? = some (.inr (1, n))) (hf : am_g (am_ok i n) (am_let (am_w I q i.toNatClampNeg (vp_nar .boolean v)) F) = some Rs) (kk : ∀ I1, F I1 = some Rs → AW K nL (pc + 1) lo st sh P I1 J cells slots) : AW K nL pc lo (.int v :: .int i :: .ref q :: st) sh P I J cells slots := by
  obtain ⟨p, l, e, R, s, m, args, below, meth, c, Q, dC, dI, cA, A, α0, N0⟩ := K
  obtain ⟨hx, hb, hml, hown, hlk, hnm, hR0, hT, hK, hA, hZ⟩ := X
  intro α H locs ls ha hP hD hS hl
  obtain ⟨h1, h2⟩ := am_g_elim hf
  have hset : (am_ws α cA sh I J P).set q (α q, .inl (cA 1, n, .inl (upd (I q) i.toNatClampNeg (vp_nar .boolean v)))) = am_ws α cA sh (am_w I q i.toNatClampNeg (vp_nar .boolean v)) J P := by
    rw [← am_w_self]
    exact am_ws_set (z := .inr (1, n)) hs (fun j hj => am_w_ne I _ hj) (fun _ _ => rfl) (fun _ _ => rfl)
  exact va_zast hx hb hK hP hD hS q 1 (am_ws_get hs) rfl (am_ok_in h1) hd (fun H1 locs1 hP1 hD1 hS1 => kk _ h2 α H1 locs1 ls ha (hset ▸ hP1) (hset ▸ hD1) hS1 hl)
theorem ar_cald (X : am_C K cc nL own nm R0) {q n : Nat} {i : Int32} {F : Option β} (hd : decode cc pc = .ok (.caload, 1)) (hs : sh[q]? = some (.inr (2, n))) (hf : am_g (am_ok i n) F = some Rs) (kk : F = some Rs → AW K nL (pc + 1) lo (.int (I q i.toNatClampNeg) :: st) sh P I J cells slots) : AW K nL pc lo (.int i :: .ref q :: st) sh P I J cells slots := by
  obtain ⟨p, l, e, R, s, m, args, below, meth, c, Q, dC, dI, cA, A, α0, N0⟩ := K
  obtain ⟨hx, hb, hml, hown, hlk, hnm, hR0, hT, hK, hA, hZ⟩ := X
  intro α H locs ls ha hP hD hS hl
  obtain ⟨h1, h2⟩ := am_g_elim hf
  exact va_cald hx hb hK hP q 2 (am_ws_get hs) rfl (am_ok_in h1) hd (kk h2 α H locs ls ha hP hD hS hl)
theorem ar_cast (X : am_C K cc nL own nm R0) {q n : Nat} {i v : Int32} {F : aI → Option β} (hd : decode cc pc = .ok (.castore, 1)) (hs : sh[q]? = some (.inr (2, n))) (hf : am_g (am_ok i n) (am_let (am_w I q i.toNatClampNeg (vp_nar .char v)) F) = some Rs) (kk : ∀ I1, F I1 = some Rs → AW K nL (pc + 1) lo st sh P I1 J cells slots) : AW K nL pc lo (.int v :: .int i :: .ref q :: st) sh P I J cells slots := by
  obtain ⟨p, l, e, R, s, m, args, below, meth, c, Q, dC, dI, cA, A, α0, N0⟩ := K
  obtain ⟨hx, hb, hml, hown, hlk, hnm, hR0, hT, hK, hA, hZ⟩ := X
  intro α H locs ls ha hP hD hS hl
  obtain ⟨h1, h2⟩ := am_g_elim hf
  have hset : (am_ws α cA sh I J P).set q (α q, .inl (cA 2, n, .inl (upd (I q) i.toNatClampNeg (vp_nar .char v)))) = am_ws α cA sh (am_w I q i.toNatClampNeg (vp_nar .char v)) J P := by
    rw [← am_w_self]
    exact am_ws_set (z := .inr (2, n)) hs (fun j hj => am_w_ne I _ hj) (fun _ _ => rfl) (fun _ _ => rfl)
  exact va_cast hx hb hK hP hD hS q 2 (am_ws_get hs) rfl (am_ok_in h1) hd (fun H1 locs1 hP1 hD1 hS1 => kk _ h2 α H1 locs1 ls ha (hset ▸ hP1) (hset ▸ hD1) hS1 hl)
theorem ar_lald (X : am_C K cc nL own nm R0) {q n : Nat} {i : Int32} {F : Option β} (hd : decode cc pc = .ok (.laload, 1)) (hs : sh[q]? = some (.inr (3, n))) (hf : am_g (am_ok i n) F = some Rs) (kk : F = some Rs → AW K nL (pc + 1) lo (.long (J q i.toNatClampNeg) :: st) sh P I J cells slots) : AW K nL pc lo (.int i :: .ref q :: st) sh P I J cells slots := by
  obtain ⟨p, l, e, R, s, m, args, below, meth, c, Q, dC, dI, cA, A, α0, N0⟩ := K
  obtain ⟨hx, hb, hml, hown, hlk, hnm, hR0, hT, hK, hA, hZ⟩ := X
  intro α H locs ls ha hP hD hS hl
  obtain ⟨h1, h2⟩ := am_g_elim hf
  exact va_lald hx hb hK hP q 3 (am_ws_get hs) rfl (am_ok_in h1) hd (kk h2 α H locs ls ha hP hD hS hl)
theorem ar_last (X : am_C K cc nL own nm R0) {q n : Nat} {i : Int32} {v : Int64} {F : aJ → Option β} (hd : decode cc pc = .ok (.lastore, 1)) (hs : sh[q]? = some (.inr (3, n))) (hf : am_g (am_ok i n) (am_let (am_wJ J q i.toNatClampNeg v) F) = some Rs) (kk : ∀ J1, F J1 = some Rs → AW K nL (pc + 1) lo st sh P I J1 cells slots) : AW K nL pc lo (.long v :: .int i :: .ref q :: st) sh P I J cells slots := by
  obtain ⟨p, l, e, R, s, m, args, below, meth, c, Q, dC, dI, cA, A, α0, N0⟩ := K
  obtain ⟨hx, hb, hml, hown, hlk, hnm, hR0, hT, hK, hA, hZ⟩ := X
  intro α H locs ls ha hP hD hS hl
  obtain ⟨h1, h2⟩ := am_g_elim hf
  have hset : (am_ws α cA sh I J P).set q (α q, .inl (cA 3, n, .inr (.inl (vp_updL (J q) i.toNatClampNeg v)))) = am_ws α cA sh I (am_wJ J q i.toNatClampNeg v) P := by
    have e : vp_updL (J q) i.toNatClampNeg v = (am_wJ J q i.toNatClampNeg v) q := by funext j; simp [am_wJ, vp_updL]
    rw [e]
    exact am_ws_set (z := .inr (3, n)) hs (fun _ _ => rfl) (fun j hj => am_wJ_ne J _ hj) (fun _ _ => rfl)
  exact va_last hx hb hK hP hD hS q 3 (am_ws_get hs) rfl (am_ok_in h1) hd (fun H1 locs1 hP1 hD1 hS1 => kk _ h2 α H1 locs1 ls ha (hset ▸ hP1) (hset ▸ hD1) hS1 hl)
theorem ar_alen (X : am_C K cc nL own nm R0) {q n : Nat} {t : Nat} {v : Int32} (hd : decode cc pc = .ok (.arraylength, 1)) (hs : sh[q]? = some (.inr (t, n))) (ht : t < 4) (hv : Int32.ofNat n = v) (kk : AW K nL (pc + 1) lo (.int v :: st) sh P I J cells slots) : AW K nL pc lo (.ref q :: st) sh P I J cells slots := by
  obtain ⟨p, l, e, R, s, m, args, below, meth, c, Q, dC, dI, cA, A, α0, N0⟩ := K
  obtain ⟨hx, hb, hml, hown, hlk, hnm, hR0, hT, hK, hA, hZ⟩ := X
  intro α H locs ls ha hP hD hS hl
  obtain ⟨ty, hty⟩ : ∃ ty, (am_tys cA)[t]? = some (cA t, ty) := by
    match t, ht with
    | 0, _ => exact ⟨_, rfl⟩
    | 1, _ => exact ⟨_, rfl⟩
    | 2, _ => exact ⟨_, rfl⟩
    | 3, _ => exact ⟨_, rfl⟩
  exact va_alen hx hb hK hP q t (am_ws_get hs) hty hv hd (kk α H locs ls ha hP hD hS hl)
theorem ar_iret (X : am_C K cc nL own nm R0) {v : Int32} {mc ms : Nat} (hd : decode cc pc = .ok (.ireturn, 1)) (hR : am_R K (some .int) (some (.int v)) sh P I J mc ms) (hc : cells ≤ mc) (hs : slots ≤ ms) : AW K nL pc lo [.int v] sh P I J cells slots := by
  obtain ⟨p, l, e, R, s, m, args, below, meth, c, Q, dC, dI, cA, A, α0, N0⟩ := K
  obtain ⟨hx, hb, hml, hown, hlk, hnm, hR0, hT, hK, hA, hZ⟩ := X
  intro α H locs ls ha hP hD hS hl
  obtain ⟨hr, hQ⟩ := hR
  subst hQ
  refine W.widen (k := mc) (n := ms) hc hs ?_
  exact W.iret hx hb hr (fun t ht hW => ⟨⟨rfl, α, ha.1, ha.2.2, by rw [ht]; exact hP, hD⟩, hS.F ht⟩) hS.2.2 hd
theorem ar_lret (X : am_C K cc nL own nm R0) {v : Int64} {mc ms : Nat} (hd : decode cc pc = .ok (.lreturn, 1)) (hR : am_R K (some .long) (some (.long v)) sh P I J mc ms) (hc : cells ≤ mc) (hs : slots ≤ ms) : AW K nL pc lo [.long v] sh P I J cells slots := by
  obtain ⟨p, l, e, R, s, m, args, below, meth, c, Q, dC, dI, cA, A, α0, N0⟩ := K
  obtain ⟨hx, hb, hml, hown, hlk, hnm, hR0, hT, hK, hA, hZ⟩ := X
  intro α H locs ls ha hP hD hS hl
  obtain ⟨hr, hQ⟩ := hR
  subst hQ
  refine W.widen (k := mc) (n := ms) hc hs ?_
  exact W.lret hx hb hr (fun t ht hW => ⟨⟨rfl, α, ha.1, ha.2.2, by rw [ht]; exact hP, hD⟩, hS.F ht⟩) hS.2.2 hd
theorem ar_zret (X : am_C K cc nL own nm R0) {v : Int32} {ty : FieldType} {mc ms : Nat} (hd : decode cc pc = .ok (.ireturn, 1)) (hn : narrow ty (.int v) = .int v) (hR : am_R K (some ty) (some (.int v)) sh P I J mc ms) (hc : cells ≤ mc) (hs : slots ≤ ms) : AW K nL pc lo [.int v] sh P I J cells slots := by
  obtain ⟨p, l, e, R, s, m, args, below, meth, c, Q, dC, dI, cA, A, α0, N0⟩ := K
  obtain ⟨hx, hb, hml, hown, hlk, hnm, hR0, hT, hK, hA, hZ⟩ := X
  intro α H locs ls ha hP hD hS hl
  obtain ⟨hr, hQ⟩ := hR
  subst hQ
  refine W.widen (k := mc) (n := ms) hc hs ?_
  exact W.zret hx hb hr hn (fun t ht hW => ⟨⟨rfl, α, ha.1, ha.2.2, by rw [ht]; exact hP, hD⟩, hS.F ht⟩) hS.2.2 hd
theorem ar_vret (X : am_C K cc nL own nm R0) {mc ms : Nat} (hd : decode cc pc = .ok (.return_, 1)) (hR : am_R K none none sh P I J mc ms) (hc : cells ≤ mc) (hs : slots ≤ ms) : AW K nL pc lo [] sh P I J cells slots := by
  obtain ⟨p, l, e, R, s, m, args, below, meth, c, Q, dC, dI, cA, A, α0, N0⟩ := K
  obtain ⟨hx, hb, hml, hown, hlk, hnm, hR0, hT, hK, hA, hZ⟩ := X
  intro α H locs ls ha hP hD hS hl
  obtain ⟨hr, hQ⟩ := hR
  subst hQ
  refine W.widen (k := mc) (n := ms) hc hs ?_
  exact W.vret hx hb hr (fun t ht hW => ⟨⟨rfl, α, ha.1, ha.2.2, by rw [ht]; exact hP, hD⟩, hS.F ht⟩) hS.2.2 hd
end AR
end
section
/-! CALLS over the abstract machine -/
def am_rv (N : Nat) (v : Value) : Prop := match v with
  | .ref k => k < N ∨ 1000000 ≤ k
  | _ => True
def am_rvs (N : Nat) (l : List Value) : Prop := match l with
  | [] => True
  | v :: t => am_rv N v ∧ am_rvs N t
theorem am_rv_eq {α α' : Nat → Nat} {N : Nat} (ha : am_al α N α') {v : Value} (h : am_rv N v) : am_v α' v = am_v α v := by
  cases v with
  | ref k => exact congrArg Value.ref (ha k h)
  | _ => rfl
theorem am_rvs_eq {α α' : Nat → Nat} {N : Nat} (ha : am_al α N α') {st : List Value} (h : am_rvs N st) : st.map (am_v α') = st.map (am_v α) := by
  induction st with
  | nil => rfl
  | cons v t ih => simp only [List.map_cons, am_rv_eq ha h.1, ih h.2]
theorem am_rvs_lo {α α' : Nat → Nat} {N : Nat} (ha : am_al α N α') {lo : List (Nat × Value)} (h : am_rvs N (lo.map (·.2))) : lo.map (fun q => (q.1, am_v α' q.2)) = lo.map (fun q => (q.1, am_v α q.2)) := by
  induction lo with
  | nil => rfl
  | cons v t ih => simp only [List.map_cons, am_rv_eq ha h.1, ih h.2]
def am_lk (own : String) (idx : Nat) (y : MethodName) : Prop := Cond.methodLink own idx y ∈ lw_tbl ∨ ∃ host, Cond.methodLinkNest own idx y host ∈ lw_tbl
def am_mt (y : MethodName) (b : ByteArray) (n : Nat) (ret : Option FieldType) (k : Nat) : Prop := Cond.code y b n ret ∈ lw_tbl ∧ Cond.initialized y.cls ∈ lw_tbl ∧ (y.cls ≠ "java/lang/invoke/MethodHandle" ∧ y.cls ≠ "java/lang/invoke/VarHandle") ∧ (parseMethodDescriptor y.desc).map (fun d => d.parameters.length) = some k
theorem am_len {y : MethodName} {k : Nat} (h : (parseMethodDescriptor y.desc).map (fun d => d.parameters.length) = some k) : ∀ sig, parseMethodDescriptor y.desc = some sig → k = sig.parameters.length := by
  intro sig h1
  rw [h1] at h
  exact (Option.some.inj h).symm
theorem am_blind {as : List Value} {dC : Nat → ClassId} {dI : Nat → Nat → Nat} {cA : Nat → ClassId} {α : Nat → Nat} {sh : aS} {P : aP} {I : aI} {J : aJ} {sz : Nat} : FrameBlind (va_Pc as (am_B dC dI cA α sh P I J sz)) := by
  intro a U g mk h
  obtain ⟨h0, h1, h2, h3, h4, h5, h6⟩ := h
  exact ⟨h0, h1, h2, h3, va_K.moved (u := U) (U := U.calling g mk a) (Vm.Alike.refl U.vm) h4, h5.calling, am_Z.moved (u := U) (U := U.calling g mk a) (Vm.Alike.refl U.vm) h6⟩
theorem am_sub {A : Nat → Prop} {ws : va_W} {H0 H : Heap} {locs : List Loc} (hD : va_D A ws) (hS : va_S A H0 H locs) (hA : ∀ q, H0.size ≤ q → A q) : ∀ q, va_A ws H.size q → A q := by
  intro q h
  rcases h with ⟨k, e, h⟩ | h
  · exact hD.2 k (q, e) h
  · exact hA q (Nat.le_trans hS.1 h)
/-- what a callee is given -/
theorem am_give {dC : Nat → ClassId} {dI : Nat → Nat → Nat} {cA : Nat → ClassId} {A : Nat → Prop} {α α0 : Nat → Nat} {N0 : Nat} {sh : aS} {P : aP} {I : aI} {J : aJ} {s : State} {H : Heap} {locs : List Loc} (hK : va_K (dC, dI) vwCl (am_tys cA) s) (hT : am_T s) (hZ : am_Z α0 A s s.heap) (hA : ∀ q, s.heap.size ≤ q → A q) (ha : am_al α0 N0 α) (hP : va_P (dC, dI) vwCl (am_ws α cA sh I J P) H) (hD : va_D A (am_ws α cA sh I J P)) (hS : va_S A s.heap H locs) (U : State) (hU : U.heap = H) (hW : s.WarmedH U.vm) : am_B dC dI cA α sh P I J H.size U := by
  refine ⟨by rw [hU], by rw [hU]; exact hP, hD.weaken (fun _ _ _ _ => trivial), va_K.moved hW.alike hK, hT.moved hW, ?_⟩
  have h1 := ((hZ.kept (H1 := H) (fun a h1 h2 => hS.2.1 a h1 h2)).al ha).narrow (am_sub hD hS hA)
  rw [hU]
  exact h1.moved hW.alike
section AC
variable {K : aK} {cc : ByteArray} {nL : Nat} {own nm : String} {R0 : Room} {pc : Nat} {lo lo' : List (Nat × Value)} {st : List Value} {sh : aS} {P : aP} {I : aI} {J : aJ} {cells slots : Nat} {β : Type} {Rs : β}
theorem am_after {p : Program} {l : Launch} {e : Env} {R : Room} {s : State} {m : MethodId} {args : Array Value} {below : List Frame} {meth : Method} {c : Code} {Q : State → Prop} {dC : Nat → ClassId} {dI : Nat → Nat → Nat} {cA : Nat → ClassId} {A : Nat → Prop} {α0 α : Nat → Nat} {N0 : Nat} {H : Heap} {locs : List Loc} {ls : Array Slot} {st0 : List Value} {mc ms : Nat} {sh1 : aS} {P1 : aP} {I1 : aI} {J1 : aJ} {r : Option Value} {a : Array Value}
    (hr : va_Run p l e R s m args below meth c H locs cells slots mc ms (F0 m pc ls st0) (st.map (am_v α)) (am_Q dC dI cA (va_A (am_ws α cA sh I J P) H.size) α sh.length sh1 P1 I1 J1 r a) (va_A (am_ws α cA sh I J P) H.size))
    (ha : am_al α0 N0 α ∧ N0 ≤ sh.length ∧ (sh.length = N0 → α = α0)) (hD : va_D A (am_ws α cA sh I J P)) (hS : va_S A s.heap H locs) (hA : ∀ q, s.heap.size ≤ q → A q) (hl : lv_has ls nL (lo.map (fun q => (q.1, am_v α q.2))))
    (hsh : sh.length ≤ sh1.length) (hv : sh1.length = sh.length ∨ (am_rvs sh.length (lo.map (·.2)) ∧ am_rvs sh.length st)) (hrv : ∀ v, r = some v → ∀ β : Nat → Nat, am_v β v = v)
    (kk : AW (p, l, e, R, s, m, args, below, meth, c, Q, dC, dI, cA, A, α0, N0) nL (pc + 3) lo (r.toList ++ st) sh1 P1 I1 J1 (cells + mc) (slots + ms)) : W p l e R s m args below meth c H locs cells slots Q (F0 m pc ls st0) := by
  have hF := am_sub hD hS hA
  intro T hT X
  obtain ⟨v, st₀, t, T', L, h0, X', hL, e1, e2, ⟨⟨hv0, α', hal, hal2, hP', hD'⟩, hz, hk⟩, hst⟩ := hr T hT X
  have hvr : v = r := Outcome.returned.inj hv0
  subst hvr
  rw [h0] at hz hk
  have eqs : st.map (am_v α') = st.map (am_v α) ∧ lo.map (fun q => (q.1, am_v α' q.2)) = lo.map (fun q => (q.1, am_v α q.2)) := by
    rcases hv with hv | hv
    · rw [hal2 hv]; exact ⟨rfl, rfl⟩
    · exact ⟨am_rvs_eq hal hv.2, am_rvs_lo hal hv.1⟩
  have hst1 : (v.toList ++ st).map (am_v α') = v.toList ++ st.map (am_v α) := by
    rw [List.map_append, eqs.1]
    cases v with
    | none => rfl
    | some w => simp [hrv w rfl α']
  have ha' : am_al α0 N0 α' ∧ N0 ≤ sh1.length ∧ (sh1.length = N0 → α' = α0) := ⟨ha.1.tr hal ha.2.1, Nat.le_trans ha.2.1 hsh, fun h => by
    have h2 : sh.length = N0 := by omega
    rw [hal2 (by omega), ha.2.2 h2]⟩
  have hS' : va_S A s.heap T'.heap (locs ++ L) := ⟨Nat.le_trans hS.1 (by rw [e1]; exact hz), fun q h1 h2 => by rw [e1, hk q (Nat.lt_of_lt_of_le h1 hS.1) (fun z => h2 (hF q z))]; exact hS.2.1 q h1 h2, fun q hq => by
      rcases List.mem_append.mp hq with h | h
      · exact hS.2.2 q h
      · exact hF _ (hL q h)⟩
  have hw := kk α' T'.heap (locs ++ L) ls ha' (by rw [e1]; exact hP') (hD'.weaken (fun k q _ h => hF q.1 h)) hS' (by rw [eqs.2]; exact hl)
  rw [hst1] at hw
  obtain ⟨t2, a1, b1⟩ := hw T' rfl X'
  exact ⟨t2, hst t2 a1, b1⟩
theorem ar_callV (X : am_C K cc nL own nm R0) {idx n k fr lc mc ms : Nat} {y : MethodName} {b : ByteArray} {ret : Option FieldType} {q : Nat} {As : List Value} {sh1 : aS} {P1 : aP} {I1 : aI} {J1 : aJ} {r : Option Value} (hd : decode cc pc = .ok (.invokevirtual idx, 3)) (hM : AM y b n ret fr lc (.ref q :: As) sh P I J r sh1 P1 I1 J1 mc ms) (hlk : am_lk own idx y) (hm : am_mt y b n ret k) (hm2 : Cond.instanceMethod y ∈ lw_tbl ∧ Cond.selects y.cls y y ∈ lw_tbl) (hs : ∃ ci T n, sh[q]? = some (.inl ci) ∧ vwCl[ci]? = some (y.cls, T, n)) (hn : As.length = k) (hcat : (st.map fun v => v.category).sum ≤ 8) (hroom : fr + 1 ≤ R0.frames ∧ 8 + (n + 11) + lc ≤ R0.locals) (hcells : cells + mc ≤ R0.cells ∧ slots + ms ≤ R0.slots)
    (hsh : sh.length ≤ sh1.length) (hv : sh1.length = sh.length ∨ (am_rvs sh.length (lo.map (·.2)) ∧ am_rvs sh.length st)) (hrv : ∀ v, r = some v → ∀ β : Nat → Nat, am_v β v = v) (kk : AW K nL (pc + 3) lo (r.toList ++ st) sh1 P1 I1 J1 (cells + mc) (slots + ms)) : AW K nL pc lo (As.reverse ++ .ref q :: st) sh P I J cells slots := by
  obtain ⟨p, l, e, R, s, m, args, below, meth, c, Q, dC, dI, cA, A, α0, N0⟩ := K
  obtain ⟨hx, hb, hml, hown, hlk0, hnm, hR0, hT, hK, hA, hZ⟩ := X
  intro α H locs ls ha hP hD hS hl
  subst hR0
  have hM1 := hM l dC dI cA α H.size
  have hpc : ∀ U : State, U.heap = H → s.WarmedH U.vm → va_Pc ((.ref q :: As).map (am_v α)) (am_B dC dI cA α sh P I J H.size) ((.ref q :: As).map (am_v α)).toArray U := fun U hU hW => ⟨rfl, am_give hK hT hZ hA ha.1 hP hD hS U hU hW⟩
  have hws : ∀ w ∈ [Cond.code y b n ret], ∀ (a' : Array Value) (U : State), s.WarmedH U.vm → w.before a' U = true := fun w hw a' U hW => by
    rw [List.mem_singleton.mp hw]
    exact hT.moved hW _ hm.1 rfl a'
  have hcode := hT _ hm.1 rfl args
  have hini := hT _ hm.2.1 rfl args
  have hstk : (As.reverse ++ .ref q :: st : List Value).map (am_v α) = ((As.map (am_v α)).reverse ++ .ref (α q) :: st.map (am_v α)) := by
    simp [am_v]
  have hcat' : 2 * (F0 m pc ls ([] : List Value)).monitorRoom + ((st.map (am_v α)).map fun v => v.category).sum ≤ 8 := by
    rw [am_catsum]
    show 2 * 0 + _ ≤ 8
    omega
  have hnn : (As.map (am_v α)).length = k := by rw [List.length_map]; exact hn
  refine am_after (a := ((.ref q :: As).map (am_v α)).toArray) (st := st) (lo := lo) ?_ ha hD hS hA hl hsh hv hrv kk
  rw [hstk]
  obtain ⟨ci, T', n', hs1, hs2⟩ := hs
  have hrec := va_recv hK hP hs2 (am_ws_get hs1)
  rcases hlk with hlk | ⟨host, hlk⟩
  · exact va_runV (As := As.map (am_v α)) (rest := st.map (am_v α)) ⟨hx, hb, hml, hown, (fun _ h => nomatch h : ∀ w ∈ ([] : List Cond), w.before args s = true)⟩ hM1 ⟨⟨rfl, rfl, hroom.1, hroom.2, hws, List.mem_singleton.mpr rfl, hcode, hini, hm.2.2.1, am_len hm.2.2.2, hT _ hlk rfl args⟩, hT _ hm2.1 rfl args, hT _ hm2.2 rfl args⟩ ⟨am_blind, hrec, hpc⟩ rfl hnn hl.1 rfl hcat' hd hcells
  · exact va_runVN (As := As.map (am_v α)) (rest := st.map (am_v α)) ⟨hx, hb, hml, hown, (fun _ h => nomatch h : ∀ w ∈ ([] : List Cond), w.before args s = true)⟩ hM1 ⟨⟨⟨rfl, rfl, hroom.1, hroom.2, hws, List.mem_singleton.mpr rfl⟩, hcode, hini, hm.2.2.1, am_len hm.2.2.2, hT _ hlk rfl args⟩, hT _ hm2.1 rfl args, hT _ hm2.2 rfl args⟩ ⟨am_blind, hrec, hpc⟩ rfl hnn hl.1 rfl hcat' hd hcells
theorem ar_callS (X : am_C K cc nL own nm R0) {idx n k fr lc mc ms : Nat} {y : MethodName} {b : ByteArray} {ret : Option FieldType} {As : List Value} {sh1 : aS} {P1 : aP} {I1 : aI} {J1 : aJ} {r : Option Value} (hd : decode cc pc = .ok (.invokestatic idx, 3)) (hM : AM y b n ret fr lc (As) sh P I J r sh1 P1 I1 J1 mc ms) (hlk : am_lk own idx y) (hm : am_mt y b n ret k) (hm2 : Cond.static y ∈ lw_tbl) (hn : As.length = k) (hcat : (st.map fun v => v.category).sum ≤ 8) (hroom : fr + 1 ≤ R0.frames ∧ 8 + (n + 11) + lc ≤ R0.locals) (hcells : cells + mc ≤ R0.cells ∧ slots + ms ≤ R0.slots)
    (hsh : sh.length ≤ sh1.length) (hv : sh1.length = sh.length ∨ (am_rvs sh.length (lo.map (·.2)) ∧ am_rvs sh.length st)) (hrv : ∀ v, r = some v → ∀ β : Nat → Nat, am_v β v = v) (kk : AW K nL (pc + 3) lo (r.toList ++ st) sh1 P1 I1 J1 (cells + mc) (slots + ms)) : AW K nL pc lo (As.reverse ++ st) sh P I J cells slots := by
  obtain ⟨p, l, e, R, s, m, args, below, meth, c, Q, dC, dI, cA, A, α0, N0⟩ := K
  obtain ⟨hx, hb, hml, hown, hlk0, hnm, hR0, hT, hK, hA, hZ⟩ := X
  intro α H locs ls ha hP hD hS hl
  subst hR0
  have hM1 := hM l dC dI cA α H.size
  have hpc : ∀ U : State, U.heap = H → s.WarmedH U.vm → va_Pc ((As).map (am_v α)) (am_B dC dI cA α sh P I J H.size) ((As).map (am_v α)).toArray U := fun U hU hW => ⟨rfl, am_give hK hT hZ hA ha.1 hP hD hS U hU hW⟩
  have hws : ∀ w ∈ [Cond.code y b n ret], ∀ (a' : Array Value) (U : State), s.WarmedH U.vm → w.before a' U = true := fun w hw a' U hW => by
    rw [List.mem_singleton.mp hw]
    exact hT.moved hW _ hm.1 rfl a'
  have hcode := hT _ hm.1 rfl args
  have hini := hT _ hm.2.1 rfl args
  have hstk : (As.reverse ++ st : List Value).map (am_v α) = ((As.map (am_v α)).reverse ++ st.map (am_v α)) := by
    simp [am_v]
  have hcat' : 2 * (F0 m pc ls ([] : List Value)).monitorRoom + ((st.map (am_v α)).map fun v => v.category).sum ≤ 8 := by
    rw [am_catsum]
    show 2 * 0 + _ ≤ 8
    omega
  have hnn : (As.map (am_v α)).length = k := by rw [List.length_map]; exact hn
  refine am_after (a := ((As).map (am_v α)).toArray) (st := st) (lo := lo) ?_ ha hD hS hA hl hsh hv hrv kk
  rw [hstk]
  rcases hlk with hlk | ⟨host, hlk⟩
  · exact va_runS (As := As.map (am_v α)) (rest := st.map (am_v α)) ⟨hx, hb, hml, hown, (fun _ h => nomatch h : ∀ w ∈ ([] : List Cond), w.before args s = true)⟩ hM1 ⟨⟨rfl, rfl, hroom.1, hroom.2, hws, List.mem_singleton.mpr rfl, hcode, hini, hm.2.2.1, am_len hm.2.2.2, hT _ hlk rfl args⟩, hT _ hm2 rfl args⟩ ⟨am_blind, hpc⟩ rfl hnn hl.1 rfl hcat' hd hcells
  · exact va_runSN (As := As.map (am_v α)) (rest := st.map (am_v α)) ⟨hx, hb, hml, hown, (fun _ h => nomatch h : ∀ w ∈ ([] : List Cond), w.before args s = true)⟩ hM1 ⟨⟨⟨rfl, rfl, hroom.1, hroom.2, hws, List.mem_singleton.mpr rfl⟩, hcode, hini, hm.2.2.1, am_len hm.2.2.2, hT _ hlk rfl args⟩, hT _ hm2 rfl args, trivial⟩ ⟨am_blind, hpc⟩ rfl hnn hl.1 rfl hcat' hd hcells
theorem ar_callI (X : am_C K cc nL own nm R0) {idx n k fr lc mc ms : Nat} {y : MethodName} {b : ByteArray} {q : Nat} {As : List Value} {sh1 : aS} {P1 : aP} {I1 : aI} {J1 : aJ} {r : Option Value} (hd : decode cc pc = .ok (.invokespecial idx, 3)) (hM : AM y b n none fr lc (.ref q :: As) sh P I J r sh1 P1 I1 J1 mc ms) (hlk : am_lk own idx y) (hm : am_mt y b n none k) (hm2 : Cond.instanceMethod y ∈ lw_tbl ∧ y.name = "<init>") (hn : As.length = k) (hcat : (st.map fun v => v.category).sum ≤ 8) (hroom : fr + 1 ≤ R0.frames ∧ 8 + (n + 11) + lc ≤ R0.locals) (hcells : cells + mc ≤ R0.cells ∧ slots + ms ≤ R0.slots)
    (hsh : sh.length ≤ sh1.length) (hv : sh1.length = sh.length ∨ (am_rvs sh.length (lo.map (·.2)) ∧ am_rvs sh.length st)) (hrv : ∀ v, r = some v → ∀ β : Nat → Nat, am_v β v = v) (kk : AW K nL (pc + 3) lo (r.toList ++ st) sh1 P1 I1 J1 (cells + mc) (slots + ms)) : AW K nL pc lo (As.reverse ++ .ref q :: st) sh P I J cells slots := by
  obtain ⟨p, l, e, R, s, m, args, below, meth, c, Q, dC, dI, cA, A, α0, N0⟩ := K
  obtain ⟨hx, hb, hml, hown, hlk0, hnm, hR0, hT, hK, hA, hZ⟩ := X
  intro α H locs ls ha hP hD hS hl
  subst hR0
  have hM1 := hM l dC dI cA α H.size
  have hpc : ∀ U : State, U.heap = H → s.WarmedH U.vm → va_Pc ((.ref q :: As).map (am_v α)) (am_B dC dI cA α sh P I J H.size) ((.ref q :: As).map (am_v α)).toArray U := fun U hU hW => ⟨rfl, am_give hK hT hZ hA ha.1 hP hD hS U hU hW⟩
  have hws : ∀ w ∈ [Cond.code y b n none], ∀ (a' : Array Value) (U : State), s.WarmedH U.vm → w.before a' U = true := fun w hw a' U hW => by
    rw [List.mem_singleton.mp hw]
    exact hT.moved hW _ hm.1 rfl a'
  have hcode := hT _ hm.1 rfl args
  have hini := hT _ hm.2.1 rfl args
  have hstk : (As.reverse ++ .ref q :: st : List Value).map (am_v α) = ((As.map (am_v α)).reverse ++ .ref (α q) :: st.map (am_v α)) := by
    simp [am_v]
  have hcat' : 2 * (F0 m pc ls ([] : List Value)).monitorRoom + ((st.map (am_v α)).map fun v => v.category).sum ≤ 8 := by
    rw [am_catsum]
    show 2 * 0 + _ ≤ 8
    omega
  have hnn : (As.map (am_v α)).length = k := by rw [List.length_map]; exact hn
  refine am_after (a := ((.ref q :: As).map (am_v α)).toArray) (st := st) (lo := lo) ?_ ha hD hS hA hl hsh hv hrv kk
  rw [hstk]
  rcases hlk with hlk | ⟨host, hlk⟩
  · exact va_runI (As := As.map (am_v α)) (rest := st.map (am_v α)) ⟨hx, hb, hml, hown, (fun _ h => nomatch h : ∀ w ∈ ([] : List Cond), w.before args s = true)⟩ hM1 ⟨⟨rfl, rfl, hroom.1, hroom.2, hws, List.mem_singleton.mpr rfl, hcode, hini, hm.2.2.1, am_len hm.2.2.2, hT _ hlk rfl args⟩, hm2.2, hT _ hm2.1 rfl args⟩ ⟨am_blind, hpc⟩ rfl hnn hl.1 rfl hcat' hd hcells
  · exact va_runIN (As := As.map (am_v α)) (rest := st.map (am_v α)) ⟨hx, hb, hml, hown, (fun _ h => nomatch h : ∀ w ∈ ([] : List Cond), w.before args s = true)⟩ hM1 ⟨⟨⟨rfl, rfl, hroom.1, hroom.2, hws, List.mem_singleton.mpr rfl⟩, hcode, hini, hm.2.2.1, am_len hm.2.2.2, hT _ hlk rfl args⟩, hm2.2, hT _ hm2.1 rfl args⟩ ⟨am_blind, hpc⟩ rfl hnn hl.1 rfl hcat' hd hcells
end AC
end
section
/-! the JDK's own, static rows, allocation -/
def am_max (x y : Int32) : Int32 := if x < y then y else x
def am_min (x y : Int32) : Int32 := if y < x then y else x
def am_cpy (I : aI) (a b : Nat) (n : Nat) : aI := fun q j => if q = b ∧ j < n then I a j else I q j
def am_zI (I : aI) (N : Nat) : aI := fun q j => if q = N then 0 else I q j
def am_zJ (J : aJ) (N : Nat) : aJ := fun q j => if q = N then 0 else J q j
def am_zP (P : aP) (N : Nat) : aP := fun q j => if q = N then none else P q j
/-- no reference that hangs -/
def am_pc (P : aP) (N : Nat) : Prop := ∀ q k z, P q k = some z → z < N
theorem am_pc.z {P : aP} {N M : Nat} (h : am_pc P N) : am_pc (am_zP P M) N := by
  intro q k z hz
  simp only [am_zP] at hz
  split at hz
  · cases hz
  · exact h q k z hz
theorem am_pc.w {P : aP} {N q0 k0 z0 : Nat} (h : am_pc P N) (hz0 : z0 < N) : am_pc (am_wP P q0 k0 (some z0)) N := by
  intro q k z hz
  simp only [am_wP] at hz
  split at hz
  · cases hz; exact hz0
  · exact h q k z hz
theorem am_pc.up {P : aP} {N N' : Nat} (h : am_pc P N) (hN : N ≤ N') : am_pc P N' := fun q k z hz => Nat.lt_of_lt_of_le (h q k z hz) hN
theorem am_ws_push {α : Nat → Nat} {cA : Nat → ClassId} {sh : aS} {I I' : aI} {J J' : aJ} {P P' : aP} {z : Nat ⊕ (Nat × Nat)} {q : Nat} (hI : ∀ k, k < sh.length → I' k = I k) (hJ : ∀ k, k < sh.length → J' k = J k) (hP : ∀ k, k < sh.length → P' k = P k) (hc : am_pc P sh.length) {E : va_E} (hE : am_E (fun k => if k = sh.length then q else α k) cA I' J' P' sh.length z = E) :
    am_ws (fun k => if k = sh.length then q else α k) cA (sh ++ [z]) I' J' P' = am_ws α cA sh I J P ++ [(q, E)] := by
  apply List.ext_getElem?
  intro j
  have hlen : (am_ws α cA sh I J P).length = sh.length := by simp [am_ws]
  by_cases hj : j < sh.length
  · rw [List.getElem?_append_left (by rw [hlen]; exact hj)]
    have hz : (sh ++ [z])[j]? = some sh[j] := by rw [List.getElem?_append_left hj]; exact List.getElem?_eq_getElem hj
    rw [am_ws_get hz, am_ws_get (List.getElem?_eq_getElem hj)]
    have hne : j ≠ sh.length := by omega
    rw [if_neg hne]
    congr 2
    have hr : ∀ k, (P' j k).map (fun k => if k = sh.length then q else α k) = (P j k).map α := by
      intro k
      rw [hP j hj]
      cases hp : P j k with
      | none => rfl
      | some y =>
        have := hc j k y hp
        simp only [Option.map_some]
        rw [if_neg (by omega)]
    cases sh[j] with
    | inl ci =>
      simp only [am_E, hI j hj]
      congr 2
      apply List.map_congr_left
      intro k _
      simp only [am_fv, hr k]
    | inr x =>
      simp only [am_E, hI j hj, hJ j hj]
      unfold am_row
      split
      · rfl
      · simp only [hr]
      · rfl
  · by_cases hj2 : j = sh.length
    · subst hj2
      have hz : (sh ++ [z])[sh.length]? = some z := by simp
      rw [am_ws_get hz, hE, List.getElem?_append_right (by rw [hlen]; exact Nat.le_refl _), hlen]
      simp
    · rw [List.getElem?_eq_none (by simp [am_ws]; omega), List.getElem?_eq_none (by simp [am_ws]; omega)]
theorem am_al_push {α0 α : Nat → Nat} {N0 q N : Nat} (h : am_al α0 N0 α) (hN : N0 ≤ N) (hb : N < 1000000) : am_al α0 N0 (fun k => if k = N then q else α k) := by
  intro k hk
  have : k ≠ N := by omega
  simp only [this, if_false]
  exact h k hk
section AN
variable {K : aK} {cc : ByteArray} {nL : Nat} {own nm : String} {R0 : Room} {pc : Nat} {lo lo' : List (Nat × Value)} {st : List Value} {sh : aS} {P : aP} {I : aI} {J : aJ} {cells slots : Nat} {β : Type} {Rs : β}
theorem ar_max (X : am_C K cc nL own nm R0) {idx : Nat} {x y : Int32} (hd : decode cc pc = .ok (.invokestatic idx, 3)) (h1 : Cond.methodLink own idx Lib.Math.max.name ∈ lw_tbl) (h2 : Cond.static Lib.Math.max.name ∈ lw_tbl) (h3 : Cond.initialized "java/lang/Math" ∈ lw_tbl) (h4 : Cond.code Lib.Math.max.name Lib.Math.max.code 2 (some .int) ∈ lw_tbl) (hf : 1 ≤ R0.frames) (hcat : (st.map fun v => v.category).sum + 13 ≤ R0.locals) (hcells : cells ≤ R0.cells ∧ slots ≤ R0.slots) (kk : AW K nL (pc + 3) lo (.int (am_max x y) :: st) sh P I J cells slots) : AW K nL pc lo (.int y :: .int x :: st) sh P I J cells slots := by
  obtain ⟨p, l, e, R, s, m, args, below, meth, c, Q, dC, dI, cA, A, α0, N0⟩ := K
  obtain ⟨hx, hb, hml, hown, hlk, hnm, hR0, hT, hK, hA, hZ⟩ := X
  intro α H locs ls ha hP hD hS hl
  subst hR0
  exact va_mmax hx hb (hml.trans hl.1.symm) hown (hT _ h1 rfl args) (hT _ h2 rfl args) (hT _ h3 rfl args) (hT _ h4 rfl args) hf (by rw [am_catsum]; exact hcat) hcells.1 hcells.2 hd (kk α H locs ls ha hP hD hS hl)
theorem ar_min (X : am_C K cc nL own nm R0) {idx : Nat} {x y : Int32} (hd : decode cc pc = .ok (.invokestatic idx, 3)) (h1 : Cond.methodLink own idx Lib.Math.min.name ∈ lw_tbl) (h2 : Cond.static Lib.Math.min.name ∈ lw_tbl) (h3 : Cond.initialized "java/lang/Math" ∈ lw_tbl) (h4 : Cond.code Lib.Math.min.name Lib.Math.min.code 2 (some .int) ∈ lw_tbl) (hf : 1 ≤ R0.frames) (hcat : (st.map fun v => v.category).sum + 13 ≤ R0.locals) (hcells : cells ≤ R0.cells ∧ slots ≤ R0.slots) (kk : AW K nL (pc + 3) lo (.int (am_min x y) :: st) sh P I J cells slots) : AW K nL pc lo (.int y :: .int x :: st) sh P I J cells slots := by
  obtain ⟨p, l, e, R, s, m, args, below, meth, c, Q, dC, dI, cA, A, α0, N0⟩ := K
  obtain ⟨hx, hb, hml, hown, hlk, hnm, hR0, hT, hK, hA, hZ⟩ := X
  intro α H locs ls ha hP hD hS hl
  subst hR0
  exact va_mmin hx hb (hml.trans hl.1.symm) hown (hT _ h1 rfl args) (hT _ h2 rfl args) (hT _ h3 rfl args) (hT _ h4 rfl args) hf (by rw [am_catsum]; exact hcat) hcells.1 hcells.2 hd (kk α H locs ls ha hP hD hS hl)
theorem ar_copy (X : am_C K cc nL own nm R0) {idx a b n na nb : Nat} {z : Int32} (hd : decode cc pc = .ok (.invokestatic idx, 3)) (h1 : Cond.methodLink own idx arraycopyName ∈ lw_tbl) (h2 : Cond.native arraycopyName ∈ lw_tbl) (h3 : Cond.static arraycopyName ∈ lw_tbl) (h4 : Cond.initialized "java/lang/System" ∈ lw_tbl) (hsa : sh[a]? = some (.inr (0, na))) (hsb : sh[b]? = some (.inr (0, nb))) (hz : ¬ z < 0) (hzn : z.toNatClampNeg = n) (hna : n ≤ na) (hnb : n ≤ nb) (hf : 1 ≤ R0.frames) (hcat : (st.map fun v => v.category).sum + 18 ≤ R0.locals) (kk : AW K nL (pc + 3) lo st sh P (am_cpy I a b n) J cells slots) : AW K nL pc lo (.int z :: .int 0 :: .ref b :: .int 0 :: .ref a :: st) sh P I J cells slots := by
  obtain ⟨p, l, e, R, s, m, args, below, meth, c, Q, dC, dI, cA, A, α0, N0⟩ := K
  obtain ⟨hx, hb, hml, hown, hlk, hnm, hR0, hT, hK, hA, hZ⟩ := X
  intro α H locs ls ha hP hD hS hl
  subst hR0
  have hset : (am_ws α cA sh I J P).set b (α b, .inl (cA 0, nb, .inl (va_cpy (I a) (I b) (0 : Int32).toNatClampNeg (0 : Int32).toNatClampNeg z.toNatClampNeg))) = am_ws α cA sh (am_cpy I a b n) J P := by
    have e : va_cpy (I a) (I b) (0 : Int32).toNatClampNeg (0 : Int32).toNatClampNeg z.toNatClampNeg = (am_cpy I a b n) b := by
      funext j
      have e0 : (0 : Int32).toNatClampNeg = 0 := rfl
      simp [am_cpy, va_cpy, e0, hzn]
    rw [e]
    exact am_ws_set (z := .inr (0, nb)) hsb (fun j hj => by funext i; simp [am_cpy, hj]) (fun _ _ => rfl) (fun _ _ => rfl)
  have e0 : (0 : Int32).toNatClampNeg = 0 := rfl
  exact va_copyi hx hb (hml.trans hl.1.symm) hown (hT _ h1 rfl args) (hT _ h2 rfl args) (hT _ h3 rfl args) (hT _ h4 rfl args) hK hP hD hS a b 0 0 (am_ws_get hsa) (am_ws_get hsb) rfl rfl rfl (by decide) (by decide) hz (by rw [e0, hzn]; omega) (by rw [e0, hzn]; omega) (fun _ _ => rfl) hf (by
    rw [am_catsum]
    exact hcat) hd (fun H1 locs1 hP1 hD1 hS1 => kk α H1 locs1 ls ha (hset ▸ hP1) (hset ▸ hD1) hS1 hl)
theorem ar_objinit (X : am_C K cc nL own nm R0) {idx q : Nat} (hd : decode cc pc = .ok (.invokespecial idx, 3)) (h1 : Cond.methodLink own idx objectInit ∈ lw_tbl) (h2 : Cond.instanceMethod objectInit ∈ lw_tbl) (h3 : Cond.code objectInit ⟨#[0xb1]⟩ 1 none ∈ lw_tbl) (hf : 1 ≤ R0.frames) (hcat : (st.map fun v => v.category).sum + 12 ≤ R0.locals) (kk : AW K nL (pc + 3) lo st sh P I J cells slots) : AW K nL pc lo (.ref q :: st) sh P I J cells slots := by
  obtain ⟨p, l, e, R, s, m, args, below, meth, c, Q, dC, dI, cA, A, α0, N0⟩ := K
  obtain ⟨hx, hb, hml, hown, hlk, hnm, hR0, hT, hK, hA, hZ⟩ := X
  intro α H locs ls ha hP hD hS hl
  subst hR0
  exact W.objInit hx hb hown (hT _ h1 rfl args) (hT _ h2 rfl args) (hT _ h3 rfl args) rfl (hl.1.trans hml.symm) rfl hd hf (by
    rw [am_catsum]
    show 2 * 0 + _ + 12 ≤ _
    omega) (kk α H locs ls ha hP hD hS hl)
/-- a static row: 1000001 the least, 1000002 the first, 1000003 the greatest values of the settings -/
def am_sn (t : Nat) : String := match t with
  | 1000001 => "SETTING_LEAST"
  | 1000002 => "SETTING_FIRST"
  | _ => "SETTING_MOST"
def am_sf (t : Nat) : Nat → Int32 := match t with
  | 1000001 => am_least
  | 1000002 => am_first
  | _ => am_most
theorem am_Z.at {α : Nat → Nat} {A : Nat → Prop} {U : State} {H : Heap} (h : am_Z α A U H) {t : Nat} (ht : t = 1000001 ∨ t = 1000002 ∨ t = 1000003) : am_st (am_sn t) (am_sf t) (α t) A U H := by
  rcases ht with rfl | rfl | rfl
  · exact h.1.1
  · exact h.1.2.1
  · exact h.1.2.2
theorem ar_gets (X : am_C K cc nL own nm R0) {idx t : Nat} (hd : decode cc pc = .ok (.getstatic idx, 3)) (ht : t = 1000001 ∨ t = 1000002 ∨ t = 1000003) (hw : am_fl own idx "PurseAuction" (am_sn t) "[I") (kk : AW K nL (pc + 3) lo (.ref t :: st) sh P I J cells slots) : AW K nL pc lo st sh P I J cells slots := by
  obtain ⟨p, l, e, R, s, m, args, below, meth, c, Q, dC, dI, cA, A, α0, N0⟩ := K
  obtain ⟨hx, hb, hml, hown, hlk, hnm, hR0, hT, hK, hA, hZ⟩ := X
  intro α H locs ls ha hP hD hS hl
  have hs := (hZ.at ht).1
  have hk := kk α H locs ls ha hP hD hS hl
  have hee : α t = α0 t := ha.1 t (Or.inr (by omega))
  have hk2 : W p l e R s m args below meth c H locs cells slots Q (F0 m (pc + 3) ls (.ref (α0 t) :: st.map (am_v α))) := hee ▸ hk
  rcases hw with hw | ⟨host, hw⟩
  · exact va_gets hx hb hs hS hown (hT _ hw rfl args) (fun _ h => h) hd hk2
  · exact va_getsN hx hb hs hS hown (hT _ hw rfl args) (fun _ h => h) hd hk2
theorem ar_sld (X : am_C K cc nL own nm R0) {t : Nat} {i : Int32} {F : Option β} (hd : decode cc pc = .ok (.iaload, 1)) (ht : t = 1000001 ∨ t = 1000002 ∨ t = 1000003) (hf : am_g (am_ok i 6) F = some Rs) (kk : F = some Rs → AW K nL (pc + 1) lo (.int (am_sf t i.toNatClampNeg) :: st) sh P I J cells slots) : AW K nL pc lo (.int i :: .ref t :: st) sh P I J cells slots := by
  obtain ⟨p, l, e, R, s, m, args, below, meth, c, Q, dC, dI, cA, A, α0, N0⟩ := K
  obtain ⟨hx, hb, hml, hown, hlk, hnm, hR0, hT, hK, hA, hZ⟩ := X
  intro α H locs ls ha hP hD hS hl
  obtain ⟨h1, h2⟩ := am_g_elim hf
  obtain ⟨-, ⟨scr, g1, g2, g3, g4, g5, -⟩, hnA⟩ := hZ.at ht
  have hee : α t = α0 t := ha.1 t (Or.inr (by omega))
  have hlt : α0 t < s.heap.size := (Array.getElem?_eq_some_iff.mp g1).1
  have hq : va_X (α0 t) 6 (am_sf t) s s.heap := ⟨scr, g1, g2, g3, g4, g5⟩
  show W p l e R s m args below meth c H locs cells slots Q (F0 m pc ls (.int i :: .ref (α t) :: st.map (am_v α)))
  rw [hee]
  exact va_sld hx hb hq hlt hnA hS (am_ok_in h1) hd (kk h2 α H locs ls ha hP hD hS hl)
theorem ar_new (X : am_C K cc nL own nm R0) {idx ci n : Nat} {C : String} {T : u_T} (hd : decode cc pc = .ok (.new idx, 3)) (hC : am_cl ci C T n) (hcl : Cond.classLink own idx C ∈ lw_tbl) (hin : Cond.instantiable C n ∈ lw_tbl) (hini : Cond.initialized C ∈ lw_tbl) (hdf : ∀ j, j < n → defaultValue (am_ty ci j) = if am_ref (am_ty ci j) = true then .null else .int 0) (hpc : am_pc P sh.length) (hN : sh.length < 1000000) (hv : am_rvs sh.length (lo.map (·.2)) ∧ am_rvs sh.length st) (hcells : cells + 1 ≤ R0.cells ∧ slots + n ≤ R0.slots)
    (kk : AW K nL (pc + 3) lo (.ref sh.length :: st) (sh ++ [.inl ci]) (am_zP P sh.length) (am_zI I sh.length) J (cells + 1) (slots + n)) : AW K nL pc lo st sh P I J cells slots := by
  obtain ⟨p, l, e, R, s, m, args, below, meth, c, Q, dC, dI, cA, A, α0, N0⟩ := K
  obtain ⟨hx, hb, hml, hown, hlk, hnm, hR0, hT, hK, hA, hZ⟩ := X
  intro α H locs ls ha hP hD hS hl
  subst hR0
  have hfs : ∀ j, j < n → defaultValue (am_ty ci j) = vp_V ((List.range (am_n ci)).map (am_fv α ((am_zI I sh.length) sh.length) ((am_zP P sh.length) sh.length) (am_ty ci))) j := by
    intro j hj
    rw [hdf j hj]
    have hj' : j < am_n ci := by rw [hC.2.1]; exact hj
    simp only [vp_V, List.getD_eq_getElem?_getD, am_fs_get hj', Option.getD_some, am_fv, am_zI, am_zP, if_true]
    split <;> rfl
  refine va_new hx hb (hC.hts hT args) (fun _ h => h) (am_ty ci) hC.2.2.2.1 hown (hT _ hcl rfl args) (hT _ hin rfl args) (hT _ hini rfl args) hK hP hD hS hA hC.1 hfs hcells.1 hcells.2 hd (fun q H1 hP1 hD1 hS1 => ?_)
  have hal : am_al α sh.length (fun k => if k = sh.length then q else α k) := fun k hk => by
    have : k ≠ sh.length := by omega
    simp only [this, if_false]
  have hEE : am_ws (fun k => if k = sh.length then q else α k) cA (sh ++ [.inl ci]) (am_zI I sh.length) J (am_zP P sh.length) = am_ws α cA sh I J P ++ [(q, .inr (ci, (List.range (am_n ci)).map (am_fv α ((am_zI I sh.length) sh.length) ((am_zP P sh.length) sh.length) (am_ty ci))))] := by
    refine am_ws_push (fun k hk => by funext i; simp [am_zI, Nat.ne_of_lt hk]) (fun _ _ => rfl) (fun k hk => by funext i; simp [am_zP, Nat.ne_of_lt hk]) hpc ?_
    simp only [am_E]
    congr 2
    apply List.map_congr_left
    intro k _
    simp [am_fv, am_zP]
  have hk := kk (fun k => if k = sh.length then q else α k) H1 locs ls ⟨am_al_push ha.1 ha.2.1 hN, by simp; omega, fun h => by simp at h; omega⟩ (hEE ▸ hP1) (hEE ▸ hD1) hS1 (by rw [am_rvs_lo hal hv.1]; exact hl)
  have e1 : ((.ref sh.length :: st : List Value)).map (am_v (fun k => if k = sh.length then q else α k)) = .ref q :: st.map (am_v α) := by
    rw [List.map_cons, am_rvs_eq hal hv.2]
    simp [am_v]
  rw [e1] at hk
  exact hk
theorem ar_newaI (X : am_C K cc nL own nm R0) {n : Nat} {z : Int32} (hd : decode cc pc = .ok (.newarray .int, 2)) (hw : Cond.arrayClass .int ∈ lw_tbl) (hz : ¬ z < 0) (hzn : z.toNatClampNeg = n) (hsz : n ≤ 10000) (hpc : am_pc P sh.length) (hN : sh.length < 1000000) (hv : am_rvs sh.length (lo.map (·.2)) ∧ am_rvs sh.length st) (hcells : cells + 1 ≤ R0.cells ∧ slots + n ≤ R0.slots)
    (kk : AW K nL (pc + 2) lo (.ref sh.length :: st) (sh ++ [.inr (0, n)]) P (am_zI I sh.length) J (cells + 1) (slots + n)) : AW K nL pc lo (.int z :: st) sh P I J cells slots := by
  obtain ⟨p, l, e, R, s, m, args, below, meth, c, Q, dC, dI, cA, A, α0, N0⟩ := K
  obtain ⟨hx, hb, hml, hown, hlk, hnm, hR0, hT, hK, hA, hZ⟩ := X
  intro α H locs ls ha hP hD hS hl
  subst hR0
  refine va_newa (atype := .int) (ty := .int) hx hb (hT _ hw rfl args) rfl hK hP hD hS hA (N' := n) (a0 := (n, .inl (fun _ => (0 : Int32)))) (fun cA' => rfl) hz hzn (by
    have : componentBytes .int ≤ 8 := by decide
    have := Nat.mul_le_mul hsz this
    omega) hcells.1 hcells.2 hd (fun q cA' H1 hK1 hP1 hD1 hS1 => ?_)
  have hcc : cA' = cA 0 := by
    have g1 := (hK1.2 5 (cA', .int) rfl).2
    have g2 := (hK.2 0 (cA 0, .int) rfl).2
    exact Option.some.inj (g1.symm.trans g2)
  subst hcc
  have hal : am_al α sh.length (fun k => if k = sh.length then q else α k) := fun k hk => by
    have : k ≠ sh.length := by omega
    simp only [this, if_false]
  have hEE : am_ws (fun k => if k = sh.length then q else α k) cA (sh ++ [.inr (0, n)]) (am_zI I sh.length) J P = am_ws α cA sh I J P ++ [(q, .inl (cA 0, n, .inl (fun _ => (0 : Int32))))] := by
    refine am_ws_push (fun k hk => by funext i; simp [am_zI, Nat.ne_of_lt hk]) (fun _ _ => rfl) (fun _ _ => rfl) hpc ?_
    have hz0 : (am_zI I sh.length) sh.length = fun _ => 0 := by funext i; simp [am_zI]
    simp only [am_E, am_row, hz0]
  have hk := kk (fun k => if k = sh.length then q else α k) H1 locs ls ⟨am_al_push ha.1 ha.2.1 hN, by simp; omega, fun h => by simp at h; omega⟩ (hEE ▸ hP1) (hEE ▸ hD1) hS1 (by rw [am_rvs_lo hal hv.1]; exact hl)
  have e1 : ((.ref sh.length :: st : List Value)).map (am_v (fun k => if k = sh.length then q else α k)) = .ref q :: st.map (am_v α) := by
    rw [List.map_cons, am_rvs_eq hal hv.2]
    simp [am_v]
  rw [e1] at hk
  exact hk
theorem ar_newaZ (X : am_C K cc nL own nm R0) {n : Nat} {z : Int32} (hd : decode cc pc = .ok (.newarray .boolean, 2)) (hw : Cond.arrayClass .boolean ∈ lw_tbl) (hz : ¬ z < 0) (hzn : z.toNatClampNeg = n) (hsz : n ≤ 10000) (hpc : am_pc P sh.length) (hN : sh.length < 1000000) (hv : am_rvs sh.length (lo.map (·.2)) ∧ am_rvs sh.length st) (hcells : cells + 1 ≤ R0.cells ∧ slots + n ≤ R0.slots)
    (kk : AW K nL (pc + 2) lo (.ref sh.length :: st) (sh ++ [.inr (1, n)]) P (am_zI I sh.length) J (cells + 1) (slots + n)) : AW K nL pc lo (.int z :: st) sh P I J cells slots := by
  obtain ⟨p, l, e, R, s, m, args, below, meth, c, Q, dC, dI, cA, A, α0, N0⟩ := K
  obtain ⟨hx, hb, hml, hown, hlk, hnm, hR0, hT, hK, hA, hZ⟩ := X
  intro α H locs ls ha hP hD hS hl
  subst hR0
  refine va_newa (atype := .boolean) (ty := .boolean) hx hb (hT _ hw rfl args) rfl hK hP hD hS hA (N' := n) (a0 := (n, .inl (fun _ => (0 : Int32)))) (fun cA' => rfl) hz hzn (by
    have : componentBytes .boolean ≤ 8 := by decide
    have := Nat.mul_le_mul hsz this
    omega) hcells.1 hcells.2 hd (fun q cA' H1 hK1 hP1 hD1 hS1 => ?_)
  have hcc : cA' = cA 1 := by
    have g1 := (hK1.2 5 (cA', .boolean) rfl).2
    have g2 := (hK.2 1 (cA 1, .boolean) rfl).2
    exact Option.some.inj (g1.symm.trans g2)
  subst hcc
  have hal : am_al α sh.length (fun k => if k = sh.length then q else α k) := fun k hk => by
    have : k ≠ sh.length := by omega
    simp only [this, if_false]
  have hEE : am_ws (fun k => if k = sh.length then q else α k) cA (sh ++ [.inr (1, n)]) (am_zI I sh.length) J P = am_ws α cA sh I J P ++ [(q, .inl (cA 1, n, .inl (fun _ => (0 : Int32))))] := by
    refine am_ws_push (fun k hk => by funext i; simp [am_zI, Nat.ne_of_lt hk]) (fun _ _ => rfl) (fun _ _ => rfl) hpc ?_
    have hz0 : (am_zI I sh.length) sh.length = fun _ => 0 := by funext i; simp [am_zI]
    simp only [am_E, am_row, hz0]
  have hk := kk (fun k => if k = sh.length then q else α k) H1 locs ls ⟨am_al_push ha.1 ha.2.1 hN, by simp; omega, fun h => by simp at h; omega⟩ (hEE ▸ hP1) (hEE ▸ hD1) hS1 (by rw [am_rvs_lo hal hv.1]; exact hl)
  have e1 : ((.ref sh.length :: st : List Value)).map (am_v (fun k => if k = sh.length then q else α k)) = .ref q :: st.map (am_v α) := by
    rw [List.map_cons, am_rvs_eq hal hv.2]
    simp [am_v]
  rw [e1] at hk
  exact hk
theorem ar_newaC (X : am_C K cc nL own nm R0) {n : Nat} {z : Int32} (hd : decode cc pc = .ok (.newarray .char, 2)) (hw : Cond.arrayClass .char ∈ lw_tbl) (hz : ¬ z < 0) (hzn : z.toNatClampNeg = n) (hsz : n ≤ 10000) (hpc : am_pc P sh.length) (hN : sh.length < 1000000) (hv : am_rvs sh.length (lo.map (·.2)) ∧ am_rvs sh.length st) (hcells : cells + 1 ≤ R0.cells ∧ slots + n ≤ R0.slots)
    (kk : AW K nL (pc + 2) lo (.ref sh.length :: st) (sh ++ [.inr (2, n)]) P (am_zI I sh.length) J (cells + 1) (slots + n)) : AW K nL pc lo (.int z :: st) sh P I J cells slots := by
  obtain ⟨p, l, e, R, s, m, args, below, meth, c, Q, dC, dI, cA, A, α0, N0⟩ := K
  obtain ⟨hx, hb, hml, hown, hlk, hnm, hR0, hT, hK, hA, hZ⟩ := X
  intro α H locs ls ha hP hD hS hl
  subst hR0
  refine va_newa (atype := .char) (ty := .char) hx hb (hT _ hw rfl args) rfl hK hP hD hS hA (N' := n) (a0 := (n, .inl (fun _ => (0 : Int32)))) (fun cA' => rfl) hz hzn (by
    have : componentBytes .char ≤ 8 := by decide
    have := Nat.mul_le_mul hsz this
    omega) hcells.1 hcells.2 hd (fun q cA' H1 hK1 hP1 hD1 hS1 => ?_)
  have hcc : cA' = cA 2 := by
    have g1 := (hK1.2 5 (cA', .char) rfl).2
    have g2 := (hK.2 2 (cA 2, .char) rfl).2
    exact Option.some.inj (g1.symm.trans g2)
  subst hcc
  have hal : am_al α sh.length (fun k => if k = sh.length then q else α k) := fun k hk => by
    have : k ≠ sh.length := by omega
    simp only [this, if_false]
  have hEE : am_ws (fun k => if k = sh.length then q else α k) cA (sh ++ [.inr (2, n)]) (am_zI I sh.length) J P = am_ws α cA sh I J P ++ [(q, .inl (cA 2, n, .inl (fun _ => (0 : Int32))))] := by
    refine am_ws_push (fun k hk => by funext i; simp [am_zI, Nat.ne_of_lt hk]) (fun _ _ => rfl) (fun _ _ => rfl) hpc ?_
    have hz0 : (am_zI I sh.length) sh.length = fun _ => 0 := by funext i; simp [am_zI]
    simp only [am_E, am_row, hz0]
  have hk := kk (fun k => if k = sh.length then q else α k) H1 locs ls ⟨am_al_push ha.1 ha.2.1 hN, by simp; omega, fun h => by simp at h; omega⟩ (hEE ▸ hP1) (hEE ▸ hD1) hS1 (by rw [am_rvs_lo hal hv.1]; exact hl)
  have e1 : ((.ref sh.length :: st : List Value)).map (am_v (fun k => if k = sh.length then q else α k)) = .ref q :: st.map (am_v α) := by
    rw [List.map_cons, am_rvs_eq hal hv.2]
    simp [am_v]
  rw [e1] at hk
  exact hk
theorem ar_newaJ (X : am_C K cc nL own nm R0) {n : Nat} {z : Int32} (hd : decode cc pc = .ok (.newarray .long, 2)) (hw : Cond.arrayClass .long ∈ lw_tbl) (hz : ¬ z < 0) (hzn : z.toNatClampNeg = n) (hsz : n ≤ 10000) (hpc : am_pc P sh.length) (hN : sh.length < 1000000) (hv : am_rvs sh.length (lo.map (·.2)) ∧ am_rvs sh.length st) (hcells : cells + 1 ≤ R0.cells ∧ slots + n ≤ R0.slots)
    (kk : AW K nL (pc + 2) lo (.ref sh.length :: st) (sh ++ [.inr (3, n)]) P I (am_zJ J sh.length) (cells + 1) (slots + n)) : AW K nL pc lo (.int z :: st) sh P I J cells slots := by
  obtain ⟨p, l, e, R, s, m, args, below, meth, c, Q, dC, dI, cA, A, α0, N0⟩ := K
  obtain ⟨hx, hb, hml, hown, hlk, hnm, hR0, hT, hK, hA, hZ⟩ := X
  intro α H locs ls ha hP hD hS hl
  subst hR0
  refine va_newa (atype := .long) (ty := .long) hx hb (hT _ hw rfl args) rfl hK hP hD hS hA (N' := n) (a0 := (n, .inr (.inl (fun _ => (0 : Int64))))) (fun cA' => rfl) hz hzn (by
    have : componentBytes .long ≤ 8 := by decide
    have := Nat.mul_le_mul hsz this
    omega) hcells.1 hcells.2 hd (fun q cA' H1 hK1 hP1 hD1 hS1 => ?_)
  have hcc : cA' = cA 3 := by
    have g1 := (hK1.2 5 (cA', .long) rfl).2
    have g2 := (hK.2 3 (cA 3, .long) rfl).2
    exact Option.some.inj (g1.symm.trans g2)
  subst hcc
  have hal : am_al α sh.length (fun k => if k = sh.length then q else α k) := fun k hk => by
    have : k ≠ sh.length := by omega
    simp only [this, if_false]
  have hEE : am_ws (fun k => if k = sh.length then q else α k) cA (sh ++ [.inr (3, n)]) I (am_zJ J sh.length) P = am_ws α cA sh I J P ++ [(q, .inl (cA 3, n, .inr (.inl (fun _ => (0 : Int64)))))] := by
    refine am_ws_push (fun _ _ => rfl) (fun k hk => by funext i; simp [am_zJ, Nat.ne_of_lt hk]) (fun _ _ => rfl) hpc ?_
    have hz0 : (am_zJ J sh.length) sh.length = fun _ => 0 := by funext i; simp [am_zJ]
    simp only [am_E, am_row, hz0]
  have hk := kk (fun k => if k = sh.length then q else α k) H1 locs ls ⟨am_al_push ha.1 ha.2.1 hN, by simp; omega, fun h => by simp at h; omega⟩ (hEE ▸ hP1) (hEE ▸ hD1) hS1 (by rw [am_rvs_lo hal hv.1]; exact hl)
  have e1 : ((.ref sh.length :: st : List Value)).map (am_v (fun k => if k = sh.length then q else α k)) = .ref q :: st.map (am_v α) := by
    rw [List.map_cons, am_rvs_eq hal hv.2]
    simp [am_v]
  rw [e1] at hk
  exact hk
end AN
end
section
/-! references: null, rows of references, clone -/
section AO
variable {K : aK} {cc : ByteArray} {nL : Nat} {own nm : String} {R0 : Room} {pc : Nat} {lo lo' : List (Nat × Value)} {st : List Value} {sh : aS} {P : aP} {I : aI} {J : aJ} {cells slots : Nat} {β : Type} {Rs : β}
theorem ar_aload_nN (X : am_C K cc nL own nm R0) {k : Fin 4} {i : Nat} (hd : decode cc pc = .ok (.aload_n k, 1)) (hi : (k : Nat) = i) (j : Nat) (hj : lo[j]? = some (i, .null)) (kk : AW K nL (pc + 1) lo (.null :: st) sh P I J cells slots) : AW K nL pc lo st sh P I J cells slots := by
  obtain ⟨p, l, e, R, s, m, args, below, meth, c, Q, dC, dI, cA, A, α0, N0⟩ := K
  obtain ⟨hx, hb, hml, hown, hlk, hnm, hR0, hT, hK, hA, hZ⟩ := X
  intro α H locs ls ha hP hD hS hl
  exact lv_aload_nN hx hb hd hi (am_at hl j hj) (kk α H locs ls ha hP hD hS hl)
theorem ar_astore_nN (X : am_C K cc nL own nm R0) {k : Fin 4} {i : Nat} (hd : decode cc pc = .ok (.astore_n k, 1)) (hi : (k : Nat) = i) (hn : i < nL) (hl' : (i, Value.null) :: lo.filter (am_f1 i) = lo') (kk : AW K nL (pc + 1) lo' st sh P I J cells slots) : AW K nL pc lo (.null :: st) sh P I J cells slots := by
  obtain ⟨p, l, e, R, s, m, args, below, meth, c, Q, dC, dI, cA, A, α0, N0⟩ := K
  obtain ⟨hx, hb, hml, hown, hlk, hnm, hR0, hT, hK, hA, hZ⟩ := X
  intro α H locs ls ha hP hD hS hl
  exact lv_astore_nN hx hb hd hi hl hn (am_fm1 α i hl') (fun ls' hl2 => kk α H locs ls' ha hP hD hS hl2)
theorem ar_ifnonnull (X : am_C K cc nL own nm R0) {q : Nat} {off : Int} {tgt : Nat} (hd : decode cc pc = .ok (.ifnonnull off, 3)) (ht : (pc : Int) + off = (tgt : Int)) (kk : AW K nL tgt lo st sh P I J cells slots) : AW K nL pc lo (.ref q :: st) sh P I J cells slots := by
  obtain ⟨p, l, e, R, s, m, args, below, meth, c, Q, dC, dI, cA, A, α0, N0⟩ := K
  obtain ⟨hx, hb, hml, hown, hlk, hnm, hR0, hT, hK, hA, hZ⟩ := X
  intro α H locs ls ha hP hD hS hl
  exact lv_ifnonnull hx hb hd ht (kk α H locs ls ha hP hD hS hl)
theorem ar_ifnonnullN (X : am_C K cc nL own nm R0) {off : Int} (hd : decode cc pc = .ok (.ifnonnull off, 3)) (kk : AW K nL (pc + 3) lo st sh P I J cells slots) : AW K nL pc lo (.null :: st) sh P I J cells slots := by
  obtain ⟨p, l, e, R, s, m, args, below, meth, c, Q, dC, dI, cA, A, α0, N0⟩ := K
  obtain ⟨hx, hb, hml, hown, hlk, hnm, hR0, hT, hK, hA, hZ⟩ := X
  intro α H locs ls ha hP hD hS hl
  exact lv_ifnonnullN hx hb hd (kk α H locs ls ha hP hD hS hl)
theorem ar_aald (X : am_C K cc nL own nm R0) {q n : Nat} {i : Int32} {v : Value} (hd : decode cc pc = .ok (.aaload, 1)) (hs : sh[q]? = some (.inr (4, n))) (hi : am_ok i n = true) (hv : v = va_rf (P q i.toNatClampNeg)) (kk : AW K nL (pc + 1) lo (v :: st) sh P I J cells slots) : AW K nL pc lo (.int i :: .ref q :: st) sh P I J cells slots := by
  obtain ⟨p, l, e, R, s, m, args, below, meth, c, Q, dC, dI, cA, A, α0, N0⟩ := K
  obtain ⟨hx, hb, hml, hown, hlk, hnm, hR0, hT, hK, hA, hZ⟩ := X
  intro α H locs ls ha hP hD hS hl
  refine va_aldq (C := "PurseAuction$Game") hx hb hK hP q 4 (am_ws_get hs) rfl (am_ok_in hi) hd ?_
  have h := kk α H locs ls ha hP hD hS hl
  have e1 : (v :: st).map (am_v α) = va_rf ((P q i.toNatClampNeg).map α) :: st.map (am_v α) := by
    subst hv
    cases P q i.toNatClampNeg <;> rfl
  rw [e1] at h
  exact h
theorem ar_aast (X : am_C K cc nL own nm R0) {q n z : Nat} {i : Int32} (hd : decode cc pc = .ok (.aastore, 1)) (hs : sh[q]? = some (.inr (4, n))) (hi : am_ok i n = true) (hz : sh[z]? = some (.inl 1)) (kk : AW K nL (pc + 1) lo st sh (am_wP P q i.toNatClampNeg (some z)) I J cells slots) : AW K nL pc lo (.ref z :: .int i :: .ref q :: st) sh P I J cells slots := by
  obtain ⟨p, l, e, R, s, m, args, below, meth, c, Q, dC, dI, cA, A, α0, N0⟩ := K
  obtain ⟨hx, hb, hml, hown, hlk, hnm, hR0, hT, hK, hA, hZ⟩ := X
  intro α H locs ls ha hP hD hS hl
  have hset : (am_ws α cA sh I J P).set q (α q, .inl (cA 4, n, .inr (.inr (.inr (.inr (va_up (fun j => (P q j).map α) i.toNatClampNeg (some (α z)))))))) = am_ws α cA sh I J (am_wP P q i.toNatClampNeg (some z)) := by
    have e1 : va_up (fun j => (P q j).map α) i.toNatClampNeg (some (α z)) = (fun j => ((am_wP P q i.toNatClampNeg (some z)) q j).map α) := by
      funext j
      simp only [va_up, am_wP, true_and]
      split <;> rfl
    rw [e1]
    exact am_ws_set (z := .inr (4, n)) hs (fun _ _ => rfl) (fun _ _ => rfl) (fun j hj => am_wP_ne P _ hj)
  exact va_astq hx hb hK hP hD hS q 4 z 1 (am_ws_get hs) rfl (am_ws_get hz) rfl (am_ok_in hi) hd (fun H1 locs1 hP1 hD1 hS1 => kk α H1 locs1 ls ha (hset ▸ hP1) (hset ▸ hD1) hS1 hl)
theorem ar_anewa (X : am_C K cc nL own nm R0) {idx n : Nat} {z : Int32} (hd : decode cc pc = .ok (.anewarray idx, 3)) (hcl : Cond.classLink own idx "PurseAuction$Game" ∈ lw_tbl) (hz : ¬ z < 0) (hzn : z.toNatClampNeg = n) (hsz : n ≤ 10000) (hpc : am_pc P sh.length) (hN : sh.length < 1000000) (hv : am_rvs sh.length (lo.map (·.2)) ∧ am_rvs sh.length st) (hcells : cells + 1 ≤ R0.cells ∧ slots + n ≤ R0.slots)
    (kk : AW K nL (pc + 3) lo (.ref sh.length :: st) (sh ++ [.inr (4, n)]) (am_zP P sh.length) I J (cells + 1) (slots + n)) : AW K nL pc lo (.int z :: st) sh P I J cells slots := by
  obtain ⟨p, l, e, R, s, m, args, below, meth, c, Q, dC, dI, cA, A, α0, N0⟩ := K
  obtain ⟨hx, hb, hml, hown, hlk, hnm, hR0, hT, hK, hA, hZ⟩ := X
  intro α H locs ls ha hP hD hS hl
  subst hR0
  refine va_newq (C := "PurseAuction$Game") hx hb hown (hT _ hcl rfl args) hZ.2.1 hK hP hD hS hA hz hzn (by omega) hcells.1 hcells.2 hd (fun q cA' H1 hK1 hP1 hD1 hS1 => ?_)
  have hcc : cA' = cA 4 := by
    obtain ⟨_, _, _, _, _, g1⟩ := (hK1.2 5 (cA', .object "PurseAuction$Game") rfl).2
    obtain ⟨_, _, _, _, _, g2⟩ := (hK.2 4 (cA 4, .object "PurseAuction$Game") rfl).2
    exact Option.some.inj (g1.symm.trans g2)
  subst hcc
  have hal : am_al α sh.length (fun k => if k = sh.length then q else α k) := fun k hk => by
    have : k ≠ sh.length := by omega
    simp only [this, if_false]
  have hEE : am_ws (fun k => if k = sh.length then q else α k) cA (sh ++ [.inr (4, n)]) I J (am_zP P sh.length) = am_ws α cA sh I J P ++ [(q, .inl (cA 4, n, .inr (.inr (.inr (.inr (fun _ => none))))))] := by
    refine am_ws_push (fun _ _ => rfl) (fun _ _ => rfl) (fun k hk => by funext i; simp [am_zP, Nat.ne_of_lt hk]) hpc ?_
    simp [am_E, am_row, am_zP]
  have hk := kk (fun k => if k = sh.length then q else α k) H1 locs ls ⟨am_al_push ha.1 ha.2.1 hN, by simp; omega, fun h => by simp at h; omega⟩ (hEE ▸ hP1) (hEE ▸ hD1) hS1 (by rw [am_rvs_lo hal hv.1]; exact hl)
  have e1 : ((.ref sh.length :: st : List Value)).map (am_v (fun k => if k = sh.length then q else α k)) = .ref q :: st.map (am_v α) := by
    rw [List.map_cons, am_rvs_eq hal hv.2]
    simp [am_v]
  rw [e1] at hk
  exact hk
def am_clI (I : aI) (N t : Nat) : aI := fun q j => if q = N then am_sf t j else I q j
theorem ar_clone (X : am_C K cc nL own nm R0) {idx t : Nat} (hd : decode cc pc = .ok (.invokevirtual idx, 3)) (ht : t = 1000001 ∨ t = 1000002 ∨ t = 1000003) (h1 : Cond.methodLink own idx ⟨"[I", "clone", "()Ljava/lang/Object;"⟩ ∈ lw_tbl) (h2 : Cond.sameMethod "[I" "java/lang/Object" "clone" "()Ljava/lang/Object;" ∈ lw_tbl) (h3 : Cond.native ⟨"java/lang/Object", "clone", "()Ljava/lang/Object;"⟩ ∈ lw_tbl) (h4 : Cond.instanceMethod ⟨"java/lang/Object", "clone", "()Ljava/lang/Object;"⟩ ∈ lw_tbl) (h5 : Cond.selects "[I" ⟨"[I", "clone", "()Ljava/lang/Object;"⟩ ⟨"java/lang/Object", "clone", "()Ljava/lang/Object;"⟩ ∈ lw_tbl) (hf : 1 ≤ R0.frames) (hcat : (st.map fun v => v.category).sum + 14 ≤ R0.locals) (hpc : am_pc P sh.length) (hN : sh.length < 1000000) (hv : am_rvs sh.length (lo.map (·.2)) ∧ am_rvs sh.length st) (hcells : cells + 1 ≤ R0.cells ∧ slots + 6 ≤ R0.slots)
    (kk : AW K nL (pc + 3) lo (.ref sh.length :: st) (sh ++ [.inr (0, 6)]) P (am_clI I sh.length t) J (cells + 1) (slots + 6)) : AW K nL pc lo (.ref t :: st) sh P I J cells slots := by
  obtain ⟨p, l, e, R, s, m, args, below, meth, c, Q, dC, dI, cA, A, α0, N0⟩ := K
  obtain ⟨hx, hb, hml, hown, hlk, hnm, hR0, hT, hK, hA, hZ⟩ := X
  intro α H locs ls ha hP hD hS hl
  subst hR0
  obtain ⟨-, ⟨scr, g1, g2, g3, g4, g5, g6⟩, hnA⟩ := hZ.at ht
  have hee : α t = α0 t := ha.1 t (Or.inr (by omega))
  have hlt : α0 t < s.heap.size := (Array.getElem?_eq_some_iff.mp g1).1
  have hH : H[α t]? = some scr := by rw [hee, hS.2.1 _ hlt hnA]; exact g1
  obtain ⟨c0, t0', f1, f2, f3⟩ := Cond.castable_spec (va_Nw.use (A := args) rfl hZ.2.2)
  cases g6.symm.trans f1
  have hcA0 : scr.cls = cA 0 := by
    have q1 := (hK.2 0 (cA 0, .int) rfl).2
    exact Option.some.inj (g6.symm.trans q1)
  have hnew : ({ cls := scr.cls, slots := scr.slots } : Cell) = vp_cell (cA 0) (6, .inl (am_sf t)) := by
    rw [vp_cell_i]
    unfold arrV
    congr 1
    · apply Array.ext_getElem?
      intro j
      by_cases hj : j < 6
      · rw [g5 j hj]
        simp [hj]
      · rw [Array.getElem?_eq_none (by omega), Array.getElem?_eq_none (by simp; omega)]
  intro T hTT XX
  obtain ⟨-, kA, hkA, comp, hkind⟩ := State.isArrayOf_alike XX.warmed.alike g2
  obtain ⟨hob, kS, hkS, compS, hkindS⟩ := g2
  have hcellT : T.heap[α t]? = some scr := by rw [hTT]; exact hH
  obtain ⟨vm', X', st'⟩ := XX.cloneArray hx hown (hT _ h1 rfl args) (hT _ h2 rfl args) (hT _ h3 rfl args) (hT _ h4 rfl args) (hT _ h5 rfl args) (a := α t) (cell := scr) hcellT hob g3 g6 f2 f3
    (fun i v hv => by
      have hi : i < 6 := by
        have := (Array.getElem?_eq_some_iff.mp hv).1
        omega
      rw [g5 i hi] at hv
      cases hv
      have hk' : T.vm.classes[scr.cls]? = some kA := hkA
      simp [State.fitsSlot, State.slotType?, hk', hkind, fits])
    (g := F0 m pc ls ((.ref t :: st).map (am_v α))) rfl (by rw [hml]; exact hl.1) rfl (by rw [hb]; exact hd) hf (by
      rw [am_catsum]
      show 2 * 0 + _ + 14 ≤ _
      omega) hcells.1 (by rw [g4]; exact hcells.2) (hloader := Vm.clonesLoader_of_array hkS hkindS)
  rw [hnew, g4] at X'
  rw [hnew] at st'
  generalize hH1 : H.push (vp_cell (cA 0) (6, .inl (am_sf t))) = H1
  have z1 : H1.size = H.size + 1 := by rw [← hH1, Array.size_push]
  have e1 : H1[H.size]? = some (vp_cell (cA 0) (6, .inl (am_sf t))) := by rw [← hH1, Array.getElem?_push_size]
  have o1 : ∀ q : Nat, q < H.size → H1[q]? = H[q]? := fun q hq => by rw [← hH1, Array.getElem?_push, if_neg (Nat.ne_of_lt hq)]
  have hk : ∀ (k : Nat) (y : Nat × va_E), (am_ws α cA sh I J P)[k]? = some y → H1[y.1]? = H[y.1]? := fun k y hy => o1 y.1 ((hP k y hy).lt)
  have hP1 : va_P (dC, dI) vwCl (am_ws α cA sh I J P ++ [(H.size, .inl (cA 0, 6, .inl (am_sf t)))]) H1 := (hP.kept hk).app (fun k y hy => by
      have hz : k < 1 := (List.getElem?_eq_some_iff.mp hy).1
      rw [show k = 0 by omega] at hy
      cases hy
      exact e1)
  have hD1 : va_D A (am_ws α cA sh I J P ++ [(H.size, .inl (cA 0, 6, .inl (am_sf t)))]) := hD.push hP rfl (hA _ hS.1)
  have hS1 : va_S A s.heap H1 locs := ⟨Nat.le_trans hS.1 (by omega), fun y h1 h2 => (o1 y (Nat.lt_of_lt_of_le h1 hS.1)).trans (hS.2.1 y h1 h2), hS.2.2⟩
  have hal : am_al α sh.length (fun k => if k = sh.length then H.size else α k) := fun k hk => by
    have : k ≠ sh.length := by omega
    simp only [this, if_false]
  have hEE : am_ws (fun k => if k = sh.length then H.size else α k) cA (sh ++ [.inr (0, 6)]) (am_clI I sh.length t) J P = am_ws α cA sh I J P ++ [(H.size, .inl (cA 0, 6, .inl (am_sf t)))] := by
    refine am_ws_push (fun k hk => by funext i; simp [am_clI, Nat.ne_of_lt hk]) (fun _ _ => rfl) (fun _ _ => rfl) hpc ?_
    have hz0 : (am_clI I sh.length t) sh.length = am_sf t := by funext i; simp [am_clI]
    simp only [am_E, am_row, hz0]
  have hkk := kk (fun k => if k = sh.length then H.size else α k) H1 locs ls ⟨am_al_push ha.1 ha.2.1 hN, by simp; omega, fun h => by simp at h; omega⟩ (hEE ▸ hP1) (hEE ▸ hD1) hS1 (by rw [am_rvs_lo hal hv.1]; exact hl)
  have e2 : ((.ref sh.length :: st : List Value)).map (am_v (fun k => if k = sh.length then H.size else α k)) = .ref H.size :: st.map (am_v α) := by
    rw [List.map_cons, am_rvs_eq hal hv.2]
    simp [am_v]
  rw [e2] at hkk
  obtain ⟨t9, b1, b2⟩ := hkk ((T.setVm vm').pushCell (vp_cell (cA 0) (6, .inl (am_sf t)))) (by rw [← hH1, ← hTT]; rfl) X'
  refine ⟨t9, st' t9 ?_, b2⟩
  rw [hTT]
  exact b1
theorem ar_castA (X : am_C K cc nL own nm R0) {idx q n : Nat} (hd : decode cc pc = .ok (.checkcast idx, 3)) (h1 : Cond.classLink own idx "[I" ∈ lw_tbl) (hs : sh[q]? = some (.inr (0, n))) (kk : AW K nL (pc + 3) lo (.ref q :: st) sh P I J cells slots) : AW K nL pc lo (.ref q :: st) sh P I J cells slots := by
  obtain ⟨p, l, e, R, s, m, args, below, meth, c, Q, dC, dI, cA, A, α0, N0⟩ := K
  obtain ⟨hx, hb, hml, hown, hlk, hnm, hR0, hT, hK, hA, hZ⟩ := X
  intro α H locs ls ha hP hD hS hl
  have g2 := (hK.2 0 (cA 0, .int) rfl).2
  exact va_castA hx hb hown (hT _ h1 rfl args) hP q (am_ws_get hs) g2 hd (kk α H locs ls ha hP hD hS hl)
end AO
end
section
/-! THE WORDS that the code uses; layouts -/
theorem tw {w : Cond} (k : Nat) (h : tables_1[k]? = some w) : w ∈ lw_tbl := List.mem_append_right _ (List.mem_of_getElem? h)
theorem tp {y : MethodName} {n : Nat} (k : Nat) (h : lw_privs[k]? = some (y, n)) : Cond.selects y.cls y y ∈ lw_tbl := List.mem_append_left _ (List.mem_map.mpr ⟨(y, n), List.mem_of_getElem? h, rfl⟩)
theorem cl0 : am_cl 0 RX0 TX0 9 := ⟨rfl, rfl, by
  intro w hw
  have h : (u_ws RX0 TX0 9).all (fun w => decide (w ∈ lw_tbl) && am_good w) = true := by decide +kernel
  have h1 := List.all_eq_true.mp h w hw
  simp only [Bool.and_eq_true, decide_eq_true_eq] at h1
  exact h1, tyX0_ok, nmX0⟩
theorem cl1 : am_cl 1 RX1 TX1 4 := ⟨rfl, rfl, by
  intro w hw
  have h : (u_ws RX1 TX1 4).all (fun w => decide (w ∈ lw_tbl) && am_good w) = true := by decide +kernel
  have h1 := List.all_eq_true.mp h w hw
  simp only [Bool.and_eq_true, decide_eq_true_eq] at h1
  exact h1, tyX1_ok, nmX1⟩
theorem cl2 : am_cl 2 RX2 TX2 6 := ⟨rfl, rfl, by
  intro w hw
  have h : (u_ws RX2 TX2 6).all (fun w => decide (w ∈ lw_tbl) && am_good w) = true := by decide +kernel
  have h1 := List.all_eq_true.mp h w hw
  simp only [Bool.and_eq_true, decide_eq_true_eq] at h1
  exact h1, tyX2_ok, nmX2⟩
theorem cl3 : am_cl 3 RX3 TX3 6 := ⟨rfl, rfl, by
  intro w hw
  have h : (u_ws RX3 TX3 6).all (fun w => decide (w ∈ lw_tbl) && am_good w) = true := by decide +kernel
  have h1 := List.all_eq_true.mp h w hw
  simp only [Bool.and_eq_true, decide_eq_true_eq] at h1
  exact h1, tyX3_ok, nmX3⟩
theorem cl4 : am_cl 4 RX4 TX4 6 := ⟨rfl, rfl, by
  intro w hw
  have h : (u_ws RX4 TX4 6).all (fun w => decide (w ∈ lw_tbl) && am_good w) = true := by decide +kernel
  have h1 := List.all_eq_true.mp h w hw
  simp only [Bool.and_eq_true, decide_eq_true_eq] at h1
  exact h1, tyX4_ok, nmX4⟩
theorem cl5 : am_cl 5 RX5 TX5 2 := ⟨rfl, rfl, by
  intro w hw
  have h : (u_ws RX5 TX5 2).all (fun w => decide (w ∈ lw_tbl) && am_good w) = true := by decide +kernel
  have h1 := List.all_eq_true.mp h w hw
  simp only [Bool.and_eq_true, decide_eq_true_eq] at h1
  exact h1, tyX5_ok, nmX5⟩
theorem cl6 : am_cl 6 RX6 TX6 5 := ⟨rfl, rfl, by
  intro w hw
  have h : (u_ws RX6 TX6 5).all (fun w => decide (w ∈ lw_tbl) && am_good w) = true := by decide +kernel
  have h1 := List.all_eq_true.mp h w hw
  simp only [Bool.and_eq_true, decide_eq_true_eq] at h1
  exact h1, tyX6_ok, nmX6⟩
theorem cl7 : am_cl 7 RX7 TX7 13 := ⟨rfl, rfl, by
  intro w hw
  have h : (u_ws RX7 TX7 13).all (fun w => decide (w ∈ lw_tbl) && am_good w) = true := by decide +kernel
  have h1 := List.all_eq_true.mp h w hw
  simp only [Bool.and_eq_true, decide_eq_true_eq] at h1
  exact h1, tyX7_ok, nmX7⟩
theorem fs_X1_9 : am_fl RX1 9 "PurseAuction" (am_sn 1000002) "[I" := Or.inr ⟨_, tw 26 (by decide +kernel)⟩
theorem fd_X4_9 : am_fld RX4 9 4 0 := ⟨RX4, TX4, _, cl4, by decide, Or.inl (tw 41 (by decide +kernel)), rfl⟩
theorem fg_X4_9 : am_fldG RX4 9 4 0 := fd_X4_9.G
theorem fd_X6_49 : am_fld RX6 49 4 0 := ⟨RX4, TX4, _, cl4, by decide, (Or.inr ⟨"PurseAuction", tw 42 (by decide +kernel)⟩), rfl⟩
theorem fg_X6_49 : am_fldG RX6 49 4 0 := fd_X6_49.G
theorem fd_X5_45 : am_fld RX5 45 4 0 := ⟨RX4, TX4, _, cl4, by decide, (Or.inr ⟨"PurseAuction", tw 43 (by decide +kernel)⟩), rfl⟩
theorem fg_X5_45 : am_fldG RX5 45 4 0 := fd_X5_45.G
theorem fd_X1_82 : am_fld RX1 82 4 0 := ⟨RX4, TX4, _, cl4, by decide, (Or.inr ⟨"PurseAuction", tw 44 (by decide +kernel)⟩), rfl⟩
theorem fg_X1_82 : am_fldG RX1 82 4 0 := fd_X1_82.G
theorem fF_X4_15 : am_fldF RX4 15 4 1 := ⟨RX4, TX4, _, cl4, by decide, tw 45 (by decide +kernel), rfl, rfl⟩
theorem fg_X4_15 : am_fldG RX4 15 4 1 := fF_X4_15.G
theorem fF_X4_19 : am_fldF RX4 19 4 2 := ⟨RX4, TX4, _, cl4, by decide, tw 46 (by decide +kernel), rfl, rfl⟩
theorem fg_X4_19 : am_fldG RX4 19 4 2 := fF_X4_19.G
theorem fF_X4_22 : am_fldF RX4 22 4 3 := ⟨RX4, TX4, _, cl4, by decide, tw 47 (by decide +kernel), rfl, rfl⟩
theorem fg_X4_22 : am_fldG RX4 22 4 3 := fF_X4_22.G
theorem fF_X4_25 : am_fldF RX4 25 4 4 := ⟨RX4, TX4, _, cl4, by decide, tw 48 (by decide +kernel), rfl, rfl⟩
theorem fg_X4_25 : am_fldG RX4 25 4 4 := fF_X4_25.G
theorem fF_X4_28 : am_fldF RX4 28 4 5 := ⟨RX4, TX4, _, cl4, by decide, tw 49 (by decide +kernel), rfl, rfl⟩
theorem fg_X4_28 : am_fldG RX4 28 4 5 := fF_X4_28.G
theorem fd_X2_24 : am_fld RX2 24 2 0 := ⟨RX2, TX2, _, cl2, by decide, Or.inl (tw 70 (by decide +kernel)), rfl⟩
theorem fg_X2_24 : am_fldG RX2 24 2 0 := fd_X2_24.G
theorem fd_X6_172 : am_fld RX6 172 2 0 := ⟨RX2, TX2, _, cl2, by decide, (Or.inr ⟨"PurseAuction", tw 71 (by decide +kernel)⟩), rfl⟩
theorem fg_X6_172 : am_fldG RX6 172 2 0 := fd_X6_172.G
theorem fd_X2_28 : am_fld RX2 28 2 1 := ⟨RX2, TX2, _, cl2, by decide, Or.inl (tw 72 (by decide +kernel)), rfl⟩
theorem fg_X2_28 : am_fldG RX2 28 2 1 := fd_X2_28.G
theorem fd_X1_74 : am_fld RX1 74 2 1 := ⟨RX2, TX2, _, cl2, by decide, (Or.inr ⟨"PurseAuction", tw 73 (by decide +kernel)⟩), rfl⟩
theorem fg_X1_74 : am_fldG RX1 74 2 1 := fd_X1_74.G
theorem fd_X6_294 : am_fld RX6 294 2 1 := ⟨RX2, TX2, _, cl2, by decide, (Or.inr ⟨"PurseAuction", tw 74 (by decide +kernel)⟩), rfl⟩
theorem fg_X6_294 : am_fldG RX6 294 2 1 := fd_X6_294.G
theorem fF_X2_9 : am_fldF RX2 9 2 2 := ⟨RX2, TX2, _, cl2, by decide, tw 75 (by decide +kernel), rfl, rfl⟩
theorem fg_X2_9 : am_fldG RX2 9 2 2 := fF_X2_9.G
theorem fF_X2_15 : am_fldF RX2 15 2 3 := ⟨RX2, TX2, _, cl2, by decide, tw 76 (by decide +kernel), rfl, rfl⟩
theorem fg_X2_15 : am_fldG RX2 15 2 3 := fF_X2_15.G
theorem fF_X2_18 : am_fldF RX2 18 2 4 := ⟨RX2, TX2, _, cl2, by decide, tw 77 (by decide +kernel), rfl, rfl⟩
theorem fg_X2_18 : am_fldG RX2 18 2 4 := fF_X2_18.G
theorem fF_X2_21 : am_fldF RX2 21 2 5 := ⟨RX2, TX2, _, cl2, by decide, tw 78 (by decide +kernel), rfl, rfl⟩
theorem fg_X2_21 : am_fldG RX2 21 2 5 := fF_X2_21.G
theorem fd_X0_18 : am_fld RX0 18 0 0 := ⟨RX0, TX0, _, cl0, by decide, Or.inl (tw 102 (by decide +kernel)), rfl⟩
theorem fg_X0_18 : am_fldG RX0 18 0 0 := fd_X0_18.G
theorem fd_X1_108 : am_fld RX1 108 0 0 := ⟨RX0, TX0, _, cl0, by decide, (Or.inr ⟨"PurseAuction", tw 103 (by decide +kernel)⟩), rfl⟩
theorem fg_X1_108 : am_fldG RX1 108 0 0 := fd_X1_108.G
theorem fd_X6_181 : am_fld RX6 181 0 0 := ⟨RX0, TX0, _, cl0, by decide, (Or.inr ⟨"PurseAuction", tw 104 (by decide +kernel)⟩), rfl⟩
theorem fg_X6_181 : am_fldG RX6 181 0 0 := fd_X6_181.G
theorem fd_X0_22 : am_fld RX0 22 0 1 := ⟨RX0, TX0, _, cl0, by decide, Or.inl (tw 105 (by decide +kernel)), rfl⟩
theorem fg_X0_22 : am_fldG RX0 22 0 1 := fd_X0_22.G
theorem fd_X1_142 : am_fld RX1 142 0 1 := ⟨RX0, TX0, _, cl0, by decide, (Or.inr ⟨"PurseAuction", tw 106 (by decide +kernel)⟩), rfl⟩
theorem fg_X1_142 : am_fldG RX1 142 0 1 := fd_X1_142.G
theorem fd_X0_25 : am_fld RX0 25 0 2 := ⟨RX0, TX0, _, cl0, by decide, Or.inl (tw 107 (by decide +kernel)), rfl⟩
theorem fg_X0_25 : am_fldG RX0 25 0 2 := fd_X0_25.G
theorem fd_X1_151 : am_fld RX1 151 0 2 := ⟨RX0, TX0, _, cl0, by decide, (Or.inr ⟨"PurseAuction", tw 108 (by decide +kernel)⟩), rfl⟩
theorem fg_X1_151 : am_fldG RX1 151 0 2 := fd_X1_151.G
theorem fd_X6_184 : am_fld RX6 184 0 2 := ⟨RX0, TX0, _, cl0, by decide, (Or.inr ⟨"PurseAuction", tw 109 (by decide +kernel)⟩), rfl⟩
theorem fg_X6_184 : am_fldG RX6 184 0 2 := fd_X6_184.G
theorem fd_X0_28 : am_fld RX0 28 0 3 := ⟨RX0, TX0, _, cl0, by decide, Or.inl (tw 110 (by decide +kernel)), rfl⟩
theorem fg_X0_28 : am_fldG RX0 28 0 3 := fd_X0_28.G
theorem fd_X1_177 : am_fld RX1 177 0 3 := ⟨RX0, TX0, _, cl0, by decide, (Or.inr ⟨"PurseAuction", tw 111 (by decide +kernel)⟩), rfl⟩
theorem fg_X1_177 : am_fldG RX1 177 0 3 := fd_X1_177.G
theorem fd_X6_187 : am_fld RX6 187 0 3 := ⟨RX0, TX0, _, cl0, by decide, (Or.inr ⟨"PurseAuction", tw 112 (by decide +kernel)⟩), rfl⟩
theorem fg_X6_187 : am_fldG RX6 187 0 3 := fd_X6_187.G
theorem fd_X0_31 : am_fld RX0 31 0 4 := ⟨RX0, TX0, _, cl0, by decide, Or.inl (tw 113 (by decide +kernel)), rfl⟩
theorem fg_X0_31 : am_fldG RX0 31 0 4 := fd_X0_31.G
theorem fd_X1_133 : am_fld RX1 133 0 4 := ⟨RX0, TX0, _, cl0, by decide, (Or.inr ⟨"PurseAuction", tw 114 (by decide +kernel)⟩), rfl⟩
theorem fg_X1_133 : am_fldG RX1 133 0 4 := fd_X1_133.G
theorem fd_X6_190 : am_fld RX6 190 0 4 := ⟨RX0, TX0, _, cl0, by decide, (Or.inr ⟨"PurseAuction", tw 115 (by decide +kernel)⟩), rfl⟩
theorem fg_X6_190 : am_fldG RX6 190 0 4 := fd_X6_190.G
theorem fd_X0_34 : am_fld RX0 34 0 5 := ⟨RX0, TX0, _, cl0, by decide, Or.inl (tw 116 (by decide +kernel)), rfl⟩
theorem fg_X0_34 : am_fldG RX0 34 0 5 := fd_X0_34.G
theorem fd_X6_193 : am_fld RX6 193 0 5 := ⟨RX0, TX0, _, cl0, by decide, (Or.inr ⟨"PurseAuction", tw 117 (by decide +kernel)⟩), rfl⟩
theorem fg_X6_193 : am_fldG RX6 193 0 5 := fd_X6_193.G
theorem fd_X1_200 : am_fld RX1 200 0 5 := ⟨RX0, TX0, _, cl0, by decide, (Or.inr ⟨"PurseAuction", tw 118 (by decide +kernel)⟩), rfl⟩
theorem fg_X1_200 : am_fldG RX1 200 0 5 := fd_X1_200.G
theorem fd_X0_37 : am_fld RX0 37 0 6 := ⟨RX0, TX0, _, cl0, by decide, Or.inl (tw 119 (by decide +kernel)), rfl⟩
theorem fg_X0_37 : am_fldG RX0 37 0 6 := fd_X0_37.G
theorem fd_X0_40 : am_fld RX0 40 0 7 := ⟨RX0, TX0, _, cl0, by decide, Or.inl (tw 120 (by decide +kernel)), rfl⟩
theorem fg_X0_40 : am_fldG RX0 40 0 7 := fd_X0_40.G
theorem fd_X1_148 : am_fld RX1 148 0 7 := ⟨RX0, TX0, _, cl0, by decide, (Or.inr ⟨"PurseAuction", tw 121 (by decide +kernel)⟩), rfl⟩
theorem fg_X1_148 : am_fldG RX1 148 0 7 := fd_X1_148.G
theorem fF_X0_9 : am_fldF RX0 9 0 8 := ⟨RX0, TX0, _, cl0, by decide, tw 122 (by decide +kernel), rfl, rfl⟩
theorem fg_X0_9 : am_fldG RX0 9 0 8 := fF_X0_9.G
theorem fF_X1_18 : am_fldF RX1 18 1 0 := ⟨RX1, TX1, _, cl1, by decide, tw 142 (by decide +kernel), rfl, rfl⟩
theorem fg_X1_18 : am_fldG RX1 18 1 0 := fF_X1_18.G
theorem fF_X1_26 : am_fldF RX1 26 1 1 := ⟨RX1, TX1, _, cl1, by decide, tw 143 (by decide +kernel), rfl, rfl⟩
theorem fg_X1_26 : am_fldG RX1 26 1 1 := fF_X1_26.G
theorem fg_X6_45 : am_fldG RX6 45 1 1 := ⟨RX1, TX1, _, cl1, by decide, (Or.inr ⟨"PurseAuction", tw 144 (by decide +kernel)⟩)⟩
theorem fF_X1_33 : am_fldF RX1 33 1 2 := ⟨RX1, TX1, _, cl1, by decide, tw 145 (by decide +kernel), rfl, rfl⟩
theorem fg_X1_33 : am_fldG RX1 33 1 2 := fF_X1_33.G
theorem fg_X6_86 : am_fldG RX6 86 1 2 := ⟨RX1, TX1, _, cl1, by decide, (Or.inr ⟨"PurseAuction", tw 146 (by decide +kernel)⟩)⟩
theorem fF_X1_40 : am_fldF RX1 40 1 3 := ⟨RX1, TX1, _, cl1, by decide, tw 147 (by decide +kernel), rfl, rfl⟩
theorem fg_X1_40 : am_fldG RX1 40 1 3 := fF_X1_40.G
theorem fg_X6_59 : am_fldG RX6 59 1 3 := ⟨RX1, TX1, _, cl1, by decide, (Or.inr ⟨"PurseAuction", tw 148 (by decide +kernel)⟩)⟩
theorem fF_X5_11 : am_fldF RX5 11 5 0 := ⟨RX5, TX5, _, cl5, by decide, tw 165 (by decide +kernel), rfl, rfl⟩
theorem fg_X5_11 : am_fldG RX5 11 5 0 := fF_X5_11.G
theorem fF_X5_15 : am_fldF RX5 15 5 1 := ⟨RX5, TX5, _, cl5, by decide, tw 166 (by decide +kernel), rfl, rfl⟩
theorem fg_X5_15 : am_fldG RX5 15 5 1 := fF_X5_15.G
theorem fF_X3_9 : am_fldF RX3 9 3 0 := ⟨RX3, TX3, _, cl3, by decide, tw 179 (by decide +kernel), rfl, rfl⟩
theorem fg_X3_9 : am_fldG RX3 9 3 0 := fF_X3_9.G
theorem fd_X3_15 : am_fld RX3 15 3 1 := ⟨RX3, TX3, _, cl3, by decide, Or.inl (tw 180 (by decide +kernel)), rfl⟩
theorem fg_X3_15 : am_fldG RX3 15 3 1 := fd_X3_15.G
theorem fd_X6_202 : am_fld RX6 202 3 1 := ⟨RX3, TX3, _, cl3, by decide, (Or.inr ⟨"PurseAuction", tw 181 (by decide +kernel)⟩), rfl⟩
theorem fg_X6_202 : am_fldG RX6 202 3 1 := fd_X6_202.G
theorem fd_X3_19 : am_fld RX3 19 3 2 := ⟨RX3, TX3, _, cl3, by decide, Or.inl (tw 182 (by decide +kernel)), rfl⟩
theorem fg_X3_19 : am_fldG RX3 19 3 2 := fd_X3_19.G
theorem fd_X3_37 : am_fld RX3 37 3 3 := ⟨RX3, TX3, _, cl3, by decide, Or.inl (tw 183 (by decide +kernel)), rfl⟩
theorem fg_X3_37 : am_fldG RX3 37 3 3 := fd_X3_37.G
theorem fd_X6_282 : am_fld RX6 282 3 3 := ⟨RX3, TX3, _, cl3, by decide, (Or.inr ⟨"PurseAuction", tw 184 (by decide +kernel)⟩), rfl⟩
theorem fg_X6_282 : am_fldG RX6 282 3 3 := fd_X6_282.G
theorem fd_X3_48 : am_fld RX3 48 3 4 := ⟨RX3, TX3, _, cl3, by decide, Or.inl (tw 185 (by decide +kernel)), rfl⟩
theorem fg_X3_48 : am_fldG RX3 48 3 4 := fd_X3_48.G
theorem fd_X6_285 : am_fld RX6 285 3 4 := ⟨RX3, TX3, _, cl3, by decide, (Or.inr ⟨"PurseAuction", tw 186 (by decide +kernel)⟩), rfl⟩
theorem fg_X6_285 : am_fldG RX6 285 3 4 := fd_X6_285.G
theorem fd_X3_51 : am_fld RX3 51 3 5 := ⟨RX3, TX3, _, cl3, by decide, Or.inl (tw 187 (by decide +kernel)), rfl⟩
theorem fg_X3_51 : am_fldG RX3 51 3 5 := fd_X3_51.G
theorem fd_X6_288 : am_fld RX6 288 3 5 := ⟨RX3, TX3, _, cl3, by decide, (Or.inr ⟨"PurseAuction", tw 188 (by decide +kernel)⟩), rfl⟩
theorem fg_X6_288 : am_fldG RX6 288 3 5 := fd_X6_288.G
theorem fF_X6_10 : am_fldF RX6 10 6 0 := ⟨RX6, TX6, _, cl6, by decide, tw 223 (by decide +kernel), rfl, rfl⟩
theorem fg_X6_10 : am_fldG RX6 10 6 0 := fF_X6_10.G
theorem fF_X6_16 : am_fldF RX6 16 6 1 := ⟨RX6, TX6, _, cl6, by decide, tw 224 (by decide +kernel), rfl, rfl⟩
theorem fg_X6_16 : am_fldG RX6 16 6 1 := fF_X6_16.G
theorem fF_X6_19 : am_fldF RX6 19 6 2 := ⟨RX6, TX6, _, cl6, by decide, tw 225 (by decide +kernel), rfl, rfl⟩
theorem fg_X6_19 : am_fldG RX6 19 6 2 := fF_X6_19.G
theorem fF_X6_26 : am_fldF RX6 26 6 3 := ⟨RX6, TX6, _, cl6, by decide, tw 226 (by decide +kernel), rfl, rfl⟩
theorem fg_X6_26 : am_fldG RX6 26 6 3 := fF_X6_26.G
theorem fF_X6_33 : am_fldF RX6 33 6 4 := ⟨RX6, TX6, _, cl6, by decide, tw 227 (by decide +kernel), rfl, rfl⟩
theorem fg_X6_33 : am_fldG RX6 33 6 4 := fF_X6_33.G
theorem fs_X6_297 : am_fl RX6 297 "PurseAuction" (am_sn 1000001) "[I" := Or.inl (tw 256 (by decide +kernel))
theorem fs_X6_301 : am_fl RX6 301 "PurseAuction" (am_sn 1000003) "[I" := Or.inl (tw 258 (by decide +kernel))
theorem fF_X7_7 : am_fldF RX7 7 7 0 := ⟨RX7, TX7, _, cl7, by decide, tw 811 (by decide +kernel), rfl, rfl⟩
theorem fg_X7_7 : am_fldG RX7 7 7 0 := fF_X7_7.G
theorem fF_X7_13 : am_fldF RX7 13 7 1 := ⟨RX7, TX7, _, cl7, by decide, tw 812 (by decide +kernel), rfl, rfl⟩
theorem fg_X7_13 : am_fldG RX7 13 7 1 := fF_X7_13.G
theorem fF_X7_16 : am_fldF RX7 16 7 2 := ⟨RX7, TX7, _, cl7, by decide, tw 813 (by decide +kernel), rfl, rfl⟩
theorem fg_X7_16 : am_fldG RX7 16 7 2 := fF_X7_16.G
theorem fF_X7_19 : am_fldF RX7 19 7 3 := ⟨RX7, TX7, _, cl7, by decide, tw 814 (by decide +kernel), rfl, rfl⟩
theorem fg_X7_19 : am_fldG RX7 19 7 3 := fF_X7_19.G
theorem fF_X7_23 : am_fldF RX7 23 7 4 := ⟨RX7, TX7, _, cl7, by decide, tw 815 (by decide +kernel), rfl, rfl⟩
theorem fg_X7_23 : am_fldG RX7 23 7 4 := fF_X7_23.G
theorem fd_X7_178 : am_fld RX7 178 7 5 := ⟨RX7, TX7, _, cl7, by decide, Or.inl (tw 816 (by decide +kernel)), rfl⟩
theorem fg_X7_178 : am_fldG RX7 178 7 5 := fd_X7_178.G
theorem fF_X7_26 : am_fldF RX7 26 7 6 := ⟨RX7, TX7, _, cl7, by decide, tw 817 (by decide +kernel), rfl, rfl⟩
theorem fg_X7_26 : am_fldG RX7 26 7 6 := fF_X7_26.G
theorem fF_X7_29 : am_fldF RX7 29 7 7 := ⟨RX7, TX7, _, cl7, by decide, tw 818 (by decide +kernel), rfl, rfl⟩
theorem fg_X7_29 : am_fldG RX7 29 7 7 := fF_X7_29.G
theorem fF_X7_33 : am_fldF RX7 33 7 8 := ⟨RX7, TX7, _, cl7, by decide, tw 819 (by decide +kernel), rfl, rfl⟩
theorem fg_X7_33 : am_fldG RX7 33 7 8 := fF_X7_33.G
theorem fd_X7_211 : am_fld RX7 211 7 9 := ⟨RX7, TX7, _, cl7, by decide, Or.inl (tw 820 (by decide +kernel)), rfl⟩
theorem fg_X7_211 : am_fldG RX7 211 7 9 := fd_X7_211.G
theorem fd_X7_214 : am_fld RX7 214 7 10 := ⟨RX7, TX7, _, cl7, by decide, Or.inl (tw 821 (by decide +kernel)), rfl⟩
theorem fg_X7_214 : am_fldG RX7 214 7 10 := fd_X7_214.G
theorem fF_X7_36 : am_fldF RX7 36 7 11 := ⟨RX7, TX7, _, cl7, by decide, tw 822 (by decide +kernel), rfl, rfl⟩
theorem fg_X7_36 : am_fldG RX7 36 7 11 := fF_X7_36.G
theorem fd_X7_221 : am_fld RX7 221 7 12 := ⟨RX7, TX7, _, cl7, by decide, Or.inl (tw 823 (by decide +kernel)), rfl⟩
theorem fg_X7_221 : am_fldG RX7 221 7 12 := fd_X7_221.G
theorem mt_X6_init : am_mt yX6_init cX6_init 1 none 0 := ⟨tw 16 (by decide +kernel), tw 1 (by decide +kernel), ⟨by decide +kernel, by decide +kernel⟩, by decide +kernel⟩
theorem mo_X6_init : Cond.instanceMethod yX6_init ∈ lw_tbl := tw 15 (by decide +kernel)
theorem mt_X1_init : am_mt yX1_init cX1_init 1 none 0 := ⟨tw 24 (by decide +kernel), tw 2 (by decide +kernel), ⟨by decide +kernel, by decide +kernel⟩, by decide +kernel⟩
theorem mo_X1_init : Cond.instanceMethod yX1_init ∈ lw_tbl := tw 23 (by decide +kernel)
theorem mt_X4_init : am_mt yX4_init cX4_init 1 none 0 := ⟨tw 39 (by decide +kernel), tw 3 (by decide +kernel), ⟨by decide +kernel, by decide +kernel⟩, by decide +kernel⟩
theorem mo_X4_init : Cond.instanceMethod yX4_init ∈ lw_tbl := tw 38 (by decide +kernel)
theorem mt_X2_init : am_mt yX2_init cX2_init 1 none 0 := ⟨tw 68 (by decide +kernel), tw 4 (by decide +kernel), ⟨by decide +kernel, by decide +kernel⟩, by decide +kernel⟩
theorem mo_X2_init : Cond.instanceMethod yX2_init ∈ lw_tbl := tw 67 (by decide +kernel)
theorem mt_X0_init : am_mt yX0_init cX0_init 1 none 0 := ⟨tw 96 (by decide +kernel), tw 5 (by decide +kernel), ⟨by decide +kernel, by decide +kernel⟩, by decide +kernel⟩
theorem mo_X0_init : Cond.instanceMethod yX0_init ∈ lw_tbl := tw 95 (by decide +kernel)
theorem mt_X0_clear : am_mt yX0_clear cX0_clear 2 none 0 := ⟨tw 101 (by decide +kernel), tw 5 (by decide +kernel), ⟨by decide +kernel, by decide +kernel⟩, by decide +kernel⟩
theorem mo_X0_clear : Cond.instanceMethod yX0_clear ∈ lw_tbl := tw 100 (by decide +kernel)
theorem mi_X0_clear : Cond.instanceMethod yX0_clear ∈ lw_tbl ∧ Cond.selects yX0_clear.cls yX0_clear yX0_clear ∈ lw_tbl := ⟨mo_X0_clear, tp 0 (n := 9) (by decide +kernel)⟩
theorem mt_X5_init : am_mt yX5_init cX5_init 1 none 0 := ⟨tw 163 (by decide +kernel), tw 6 (by decide +kernel), ⟨by decide +kernel, by decide +kernel⟩, by decide +kernel⟩
theorem mo_X5_init : Cond.instanceMethod yX5_init ∈ lw_tbl := tw 162 (by decide +kernel)
theorem mt_X3_init : am_mt yX3_init cX3_init 1 none 0 := ⟨tw 177 (by decide +kernel), tw 7 (by decide +kernel), ⟨by decide +kernel, by decide +kernel⟩, by decide +kernel⟩
theorem mo_X3_init : Cond.instanceMethod yX3_init ∈ lw_tbl := tw 176 (by decide +kernel)
theorem mt_X1_startAnew : am_mt yX1_startAnew cX1_startAnew 2 none 1 := ⟨tw 206 (by decide +kernel), tw 2 (by decide +kernel), ⟨by decide +kernel, by decide +kernel⟩, by decide +kernel⟩
theorem mo_X1_startAnew : Cond.instanceMethod yX1_startAnew ∈ lw_tbl := tw 205 (by decide +kernel)
theorem mi_X1_startAnew : Cond.instanceMethod yX1_startAnew ∈ lw_tbl ∧ Cond.selects yX1_startAnew.cls yX1_startAnew yX1_startAnew ∈ lw_tbl := ⟨mo_X1_startAnew, tp 1 (n := 4) (by decide +kernel)⟩
theorem mt_X1_settingOf : am_mt yX1_settingOf cX1_settingOf 2 (some .int) 1 := ⟨tw 210 (by decide +kernel), tw 2 (by decide +kernel), ⟨by decide +kernel, by decide +kernel⟩, by decide +kernel⟩
theorem mo_X1_settingOf : Cond.instanceMethod yX1_settingOf ∈ lw_tbl := tw 209 (by decide +kernel)
theorem mi_X1_settingOf : Cond.instanceMethod yX1_settingOf ∈ lw_tbl ∧ Cond.selects yX1_settingOf.cls yX1_settingOf yX1_settingOf ∈ lw_tbl := ⟨mo_X1_settingOf, tp 2 (n := 4) (by decide +kernel)⟩
theorem mt_X4_startAnew : am_mt yX4_startAnew cX4_startAnew 4 none 2 := ⟨tw 214 (by decide +kernel), tw 3 (by decide +kernel), ⟨by decide +kernel, by decide +kernel⟩, by decide +kernel⟩
theorem mo_X4_startAnew : Cond.instanceMethod yX4_startAnew ∈ lw_tbl := tw 213 (by decide +kernel)
theorem mi_X4_startAnew : Cond.instanceMethod yX4_startAnew ∈ lw_tbl ∧ Cond.selects yX4_startAnew.cls yX4_startAnew yX4_startAnew ∈ lw_tbl := ⟨mo_X4_startAnew, tp 3 (n := 6) (by decide +kernel)⟩
theorem mt_X2_clear : am_mt yX2_clear cX2_clear 1 none 0 := ⟨tw 221 (by decide +kernel), tw 4 (by decide +kernel), ⟨by decide +kernel, by decide +kernel⟩, by decide +kernel⟩
theorem mo_X2_clear : Cond.instanceMethod yX2_clear ∈ lw_tbl := tw 220 (by decide +kernel)
theorem mi_X2_clear : Cond.instanceMethod yX2_clear ∈ lw_tbl ∧ Cond.selects yX2_clear.cls yX2_clear yX2_clear ∈ lw_tbl := ⟨mo_X2_clear, tp 4 (n := 6) (by decide +kernel)⟩
theorem mt_X6_setUp : am_mt yX6_setUp cX6_setUp 3 (some .int) 1 := ⟨tw 242 (by decide +kernel), tw 1 (by decide +kernel), ⟨by decide +kernel, by decide +kernel⟩, by decide +kernel⟩
theorem mo_X6_setUp : Cond.instanceMethod yX6_setUp ∈ lw_tbl := tw 240 (by decide +kernel)
theorem mi_X6_setUp : Cond.instanceMethod yX6_setUp ∈ lw_tbl ∧ Cond.selects yX6_setUp.cls yX6_setUp yX6_setUp ∈ lw_tbl := ⟨mo_X6_setUp, tw 241 (by decide +kernel)⟩
theorem mt_X6_within : am_mt yX6_within cX6_within 3 (some .boolean) 3 := ⟨tw 245 (by decide +kernel), tw 1 (by decide +kernel), ⟨by decide +kernel, by decide +kernel⟩, by decide +kernel⟩
theorem ms_X6_within : Cond.static yX6_within ∈ lw_tbl := tw 244 (by decide +kernel)
theorem mt_X6_set : am_mt yX6_set cX6_set 3 (some .int) 2 := ⟨tw 249 (by decide +kernel), tw 1 (by decide +kernel), ⟨by decide +kernel, by decide +kernel⟩, by decide +kernel⟩
theorem mo_X6_set : Cond.instanceMethod yX6_set ∈ lw_tbl := tw 247 (by decide +kernel)
theorem mi_X6_set : Cond.instanceMethod yX6_set ∈ lw_tbl ∧ Cond.selects yX6_set.cls yX6_set yX6_set ∈ lw_tbl := ⟨mo_X6_set, tw 248 (by decide +kernel)⟩
theorem mt_X6_isSettingValue : am_mt yX6_isSettingValue cX6_isSettingValue 2 (some .boolean) 2 := ⟨tw 252 (by decide +kernel), tw 1 (by decide +kernel), ⟨by decide +kernel, by decide +kernel⟩, by decide +kernel⟩
theorem ms_X6_isSettingValue : Cond.static yX6_isSettingValue ∈ lw_tbl := tw 251 (by decide +kernel)
theorem mt_X6_isSetting : am_mt yX6_isSetting cX6_isSetting 1 (some .boolean) 1 := ⟨tw 255 (by decide +kernel), tw 1 (by decide +kernel), ⟨by decide +kernel, by decide +kernel⟩, by decide +kernel⟩
theorem ms_X6_isSetting : Cond.static yX6_isSetting ∈ lw_tbl := tw 254 (by decide +kernel)
theorem mt_X0_goesOn : am_mt yX0_goesOn cX0_goesOn 1 (some .boolean) 0 := ⟨tw 263 (by decide +kernel), tw 5 (by decide +kernel), ⟨by decide +kernel, by decide +kernel⟩, by decide +kernel⟩
theorem mo_X0_goesOn : Cond.instanceMethod yX0_goesOn ∈ lw_tbl := tw 262 (by decide +kernel)
theorem mi_X0_goesOn : Cond.instanceMethod yX0_goesOn ∈ lw_tbl ∧ Cond.selects yX0_goesOn.cls yX0_goesOn yX0_goesOn ∈ lw_tbl := ⟨mo_X0_goesOn, tp 5 (n := 9) (by decide +kernel)⟩
theorem mt_X1_changeSetting : am_mt yX1_changeSetting cX1_changeSetting 4 (some .int) 2 := ⟨tw 267 (by decide +kernel), tw 2 (by decide +kernel), ⟨by decide +kernel, by decide +kernel⟩, by decide +kernel⟩
theorem mo_X1_changeSetting : Cond.instanceMethod yX1_changeSetting ∈ lw_tbl := tw 266 (by decide +kernel)
theorem mi_X1_changeSetting : Cond.instanceMethod yX1_changeSetting ∈ lw_tbl ∧ Cond.selects yX1_changeSetting.cls yX1_changeSetting yX1_changeSetting ∈ lw_tbl := ⟨mo_X1_changeSetting, tp 6 (n := 4) (by decide +kernel)⟩
theorem mt_X6_fill : am_mt yX6_fill cX6_fill 3 (some .int) 2 := ⟨tw 272 (by decide +kernel), tw 1 (by decide +kernel), ⟨by decide +kernel, by decide +kernel⟩, by decide +kernel⟩
theorem mo_X6_fill : Cond.instanceMethod yX6_fill ∈ lw_tbl := tw 270 (by decide +kernel)
theorem mi_X6_fill : Cond.instanceMethod yX6_fill ∈ lw_tbl ∧ Cond.selects yX6_fill.cls yX6_fill yX6_fill ∈ lw_tbl := ⟨mo_X6_fill, tw 271 (by decide +kernel)⟩
theorem mt_X4_hasSeat : am_mt yX4_hasSeat cX4_hasSeat 2 (some .boolean) 1 := ⟨tw 276 (by decide +kernel), tw 3 (by decide +kernel), ⟨by decide +kernel, by decide +kernel⟩, by decide +kernel⟩
theorem mo_X4_hasSeat : Cond.instanceMethod yX4_hasSeat ∈ lw_tbl := tw 275 (by decide +kernel)
theorem mi_X4_hasSeat : Cond.instanceMethod yX4_hasSeat ∈ lw_tbl ∧ Cond.selects yX4_hasSeat.cls yX4_hasSeat yX4_hasSeat ∈ lw_tbl := ⟨mo_X4_hasSeat, tp 7 (n := 6) (by decide +kernel)⟩
theorem mt_X1_isUnopened : am_mt yX1_isUnopened cX1_isUnopened 1 (some .boolean) 0 := ⟨tw 280 (by decide +kernel), tw 2 (by decide +kernel), ⟨by decide +kernel, by decide +kernel⟩, by decide +kernel⟩
theorem mo_X1_isUnopened : Cond.instanceMethod yX1_isUnopened ∈ lw_tbl := tw 279 (by decide +kernel)
theorem mi_X1_isUnopened : Cond.instanceMethod yX1_isUnopened ∈ lw_tbl ∧ Cond.selects yX1_isUnopened.cls yX1_isUnopened yX1_isUnopened ∈ lw_tbl := ⟨mo_X1_isUnopened, tp 8 (n := 4) (by decide +kernel)⟩
theorem mt_X4_fillAnew : am_mt yX4_fillAnew cX4_fillAnew 4 (some .int) 2 := ⟨tw 285 (by decide +kernel), tw 3 (by decide +kernel), ⟨by decide +kernel, by decide +kernel⟩, by decide +kernel⟩
theorem mo_X4_fillAnew : Cond.instanceMethod yX4_fillAnew ∈ lw_tbl := tw 284 (by decide +kernel)
theorem mi_X4_fillAnew : Cond.instanceMethod yX4_fillAnew ∈ lw_tbl ∧ Cond.selects yX4_fillAnew.cls yX4_fillAnew yX4_fillAnew ∈ lw_tbl := ⟨mo_X4_fillAnew, tp 9 (n := 6) (by decide +kernel)⟩
theorem mt_X6_embolden : am_mt yX6_embolden cX6_embolden 3 (some .int) 2 := ⟨tw 290 (by decide +kernel), tw 1 (by decide +kernel), ⟨by decide +kernel, by decide +kernel⟩, by decide +kernel⟩
theorem mo_X6_embolden : Cond.instanceMethod yX6_embolden ∈ lw_tbl := tw 288 (by decide +kernel)
theorem mi_X6_embolden : Cond.instanceMethod yX6_embolden ∈ lw_tbl ∧ Cond.selects yX6_embolden.cls yX6_embolden yX6_embolden ∈ lw_tbl := ⟨mo_X6_embolden, tw 289 (by decide +kernel)⟩
theorem mt_X4_changeBoldness : am_mt yX4_changeBoldness cX4_changeBoldness 4 (some .int) 2 := ⟨tw 294 (by decide +kernel), tw 3 (by decide +kernel), ⟨by decide +kernel, by decide +kernel⟩, by decide +kernel⟩
theorem mo_X4_changeBoldness : Cond.instanceMethod yX4_changeBoldness ∈ lw_tbl := tw 293 (by decide +kernel)
theorem mi_X4_changeBoldness : Cond.instanceMethod yX4_changeBoldness ∈ lw_tbl ∧ Cond.selects yX4_changeBoldness.cls yX4_changeBoldness yX4_changeBoldness ∈ lw_tbl := ⟨mo_X4_changeBoldness, tp 10 (n := 6) (by decide +kernel)⟩
theorem mt_X6_lot : am_mt yX6_lot cX6_lot 3 (some .int) 2 := ⟨tw 298 (by decide +kernel), tw 1 (by decide +kernel), ⟨by decide +kernel, by decide +kernel⟩, by decide +kernel⟩
theorem mo_X6_lot : Cond.instanceMethod yX6_lot ∈ lw_tbl := tw 296 (by decide +kernel)
theorem mi_X6_lot : Cond.instanceMethod yX6_lot ∈ lw_tbl ∧ Cond.selects yX6_lot.cls yX6_lot yX6_lot ∈ lw_tbl := ⟨mo_X6_lot, tw 297 (by decide +kernel)⟩
theorem mt_X2_areFull : am_mt yX2_areFull cX2_areFull 1 (some .boolean) 0 := ⟨tw 302 (by decide +kernel), tw 4 (by decide +kernel), ⟨by decide +kernel, by decide +kernel⟩, by decide +kernel⟩
theorem mo_X2_areFull : Cond.instanceMethod yX2_areFull ∈ lw_tbl := tw 301 (by decide +kernel)
theorem mi_X2_areFull : Cond.instanceMethod yX2_areFull ∈ lw_tbl ∧ Cond.selects yX2_areFull.cls yX2_areFull yX2_areFull ∈ lw_tbl := ⟨mo_X2_areFull, tp 11 (n := 6) (by decide +kernel)⟩
theorem mt_X2_add : am_mt yX2_add cX2_add 3 (some .int) 2 := ⟨tw 306 (by decide +kernel), tw 4 (by decide +kernel), ⟨by decide +kernel, by decide +kernel⟩, by decide +kernel⟩
theorem mo_X2_add : Cond.instanceMethod yX2_add ∈ lw_tbl := tw 305 (by decide +kernel)
theorem mi_X2_add : Cond.instanceMethod yX2_add ∈ lw_tbl ∧ Cond.selects yX2_add.cls yX2_add yX2_add ∈ lw_tbl := ⟨mo_X2_add, tp 12 (n := 6) (by decide +kernel)⟩
theorem mt_X6_begin : am_mt yX6_begin cX6_begin 3 (some .int) 2 := ⟨tw 311 (by decide +kernel), tw 1 (by decide +kernel), ⟨by decide +kernel, by decide +kernel⟩, by decide +kernel⟩
theorem mo_X6_begin : Cond.instanceMethod yX6_begin ∈ lw_tbl := tw 309 (by decide +kernel)
theorem mi_X6_begin : Cond.instanceMethod yX6_begin ∈ lw_tbl ∧ Cond.selects yX6_begin.cls yX6_begin yX6_begin ∈ lw_tbl := ⟨mo_X6_begin, tw 310 (by decide +kernel)⟩
theorem mt_X1_startAuction : am_mt yX1_startAuction cX1_startAuction 3 (some .int) 2 := ⟨tw 315 (by decide +kernel), tw 2 (by decide +kernel), ⟨by decide +kernel, by decide +kernel⟩, by decide +kernel⟩
theorem mo_X1_startAuction : Cond.instanceMethod yX1_startAuction ∈ lw_tbl := tw 314 (by decide +kernel)
theorem mi_X1_startAuction : Cond.instanceMethod yX1_startAuction ∈ lw_tbl ∧ Cond.selects yX1_startAuction.cls yX1_startAuction yX1_startAuction ∈ lw_tbl := ⟨mo_X1_startAuction, tp 13 (n := 4) (by decide +kernel)⟩
theorem mt_X6_isMode : am_mt yX6_isMode cX6_isMode 1 (some .boolean) 1 := ⟨tw 318 (by decide +kernel), tw 1 (by decide +kernel), ⟨by decide +kernel, by decide +kernel⟩, by decide +kernel⟩
theorem ms_X6_isMode : Cond.static yX6_isMode ∈ lw_tbl := tw 317 (by decide +kernel)
theorem mt_X6_isReserve : am_mt yX6_isReserve cX6_isReserve 1 (some .boolean) 1 := ⟨tw 321 (by decide +kernel), tw 1 (by decide +kernel), ⟨by decide +kernel, by decide +kernel⟩, by decide +kernel⟩
theorem ms_X6_isReserve : Cond.static yX6_isReserve ∈ lw_tbl := tw 320 (by decide +kernel)
theorem mt_X2_nextIsForSale : am_mt yX2_nextIsForSale cX2_nextIsForSale 1 (some .boolean) 0 := ⟨tw 325 (by decide +kernel), tw 4 (by decide +kernel), ⟨by decide +kernel, by decide +kernel⟩, by decide +kernel⟩
theorem mo_X2_nextIsForSale : Cond.instanceMethod yX2_nextIsForSale ∈ lw_tbl := tw 324 (by decide +kernel)
theorem mi_X2_nextIsForSale : Cond.instanceMethod yX2_nextIsForSale ∈ lw_tbl ∧ Cond.selects yX2_nextIsForSale.cls yX2_nextIsForSale yX2_nextIsForSale ∈ lw_tbl := ⟨mo_X2_nextIsForSale, tp 14 (n := 6) (by decide +kernel)⟩
theorem mt_X1_starter : am_mt yX1_starter cX1_starter 1 (some .int) 0 := ⟨tw 329 (by decide +kernel), tw 2 (by decide +kernel), ⟨by decide +kernel, by decide +kernel⟩, by decide +kernel⟩
theorem mo_X1_starter : Cond.instanceMethod yX1_starter ∈ lw_tbl := tw 328 (by decide +kernel)
theorem mi_X1_starter : Cond.instanceMethod yX1_starter ∈ lw_tbl ∧ Cond.selects yX1_starter.cls yX1_starter yX1_starter ∈ lw_tbl := ⟨mo_X1_starter, tp 15 (n := 4) (by decide +kernel)⟩
theorem mt_X0_start : am_mt yX0_start cX0_start 4 none 3 := ⟨tw 333 (by decide +kernel), tw 5 (by decide +kernel), ⟨by decide +kernel, by decide +kernel⟩, by decide +kernel⟩
theorem mo_X0_start : Cond.instanceMethod yX0_start ∈ lw_tbl := tw 332 (by decide +kernel)
theorem mi_X0_start : Cond.instanceMethod yX0_start ∈ lw_tbl ∧ Cond.selects yX0_start.cls yX0_start yX0_start ∈ lw_tbl := ⟨mo_X0_start, tp 16 (n := 9) (by decide +kernel)⟩
theorem mt_X2_next : am_mt yX2_next cX2_next 1 (some .int) 0 := ⟨tw 337 (by decide +kernel), tw 4 (by decide +kernel), ⟨by decide +kernel, by decide +kernel⟩, by decide +kernel⟩
theorem mo_X2_next : Cond.instanceMethod yX2_next ∈ lw_tbl := tw 336 (by decide +kernel)
theorem mi_X2_next : Cond.instanceMethod yX2_next ∈ lw_tbl ∧ Cond.selects yX2_next.cls yX2_next yX2_next ∈ lw_tbl := ⟨mo_X2_next, tp 17 (n := 6) (by decide +kernel)⟩
theorem mt_X6_bid : am_mt yX6_bid cX6_bid 3 (some .int) 2 := ⟨tw 341 (by decide +kernel), tw 1 (by decide +kernel), ⟨by decide +kernel, by decide +kernel⟩, by decide +kernel⟩
theorem mo_X6_bid : Cond.instanceMethod yX6_bid ∈ lw_tbl := tw 339 (by decide +kernel)
theorem mi_X6_bid : Cond.instanceMethod yX6_bid ∈ lw_tbl ∧ Cond.selects yX6_bid.cls yX6_bid yX6_bid ∈ lw_tbl := ⟨mo_X6_bid, tw 340 (by decide +kernel)⟩
theorem mt_X1_takeBid : am_mt yX1_takeBid cX1_takeBid 4 (some .int) 2 := ⟨tw 345 (by decide +kernel), tw 2 (by decide +kernel), ⟨by decide +kernel, by decide +kernel⟩, by decide +kernel⟩
theorem mo_X1_takeBid : Cond.instanceMethod yX1_takeBid ∈ lw_tbl := tw 344 (by decide +kernel)
theorem mi_X1_takeBid : Cond.instanceMethod yX1_takeBid ∈ lw_tbl ∧ Cond.selects yX1_takeBid.cls yX1_takeBid yX1_takeBid ∈ lw_tbl := ⟨mo_X1_takeBid, tp 18 (n := 4) (by decide +kernel)⟩
theorem mt_X1_raise : am_mt yX1_raise cX1_raise 3 (some .int) 2 := ⟨tw 350 (by decide +kernel), tw 2 (by decide +kernel), ⟨by decide +kernel, by decide +kernel⟩, by decide +kernel⟩
theorem mo_X1_raise : Cond.instanceMethod yX1_raise ∈ lw_tbl := tw 349 (by decide +kernel)
theorem mi_X1_raise : Cond.instanceMethod yX1_raise ∈ lw_tbl ∧ Cond.selects yX1_raise.cls yX1_raise yX1_raise ∈ lw_tbl := ⟨mo_X1_raise, tp 19 (n := 4) (by decide +kernel)⟩
theorem mt_X1_leastRaise : am_mt yX1_leastRaise cX1_leastRaise 1 (some .int) 0 := ⟨tw 354 (by decide +kernel), tw 2 (by decide +kernel), ⟨by decide +kernel, by decide +kernel⟩, by decide +kernel⟩
theorem mo_X1_leastRaise : Cond.instanceMethod yX1_leastRaise ∈ lw_tbl := tw 353 (by decide +kernel)
theorem mi_X1_leastRaise : Cond.instanceMethod yX1_leastRaise ∈ lw_tbl ∧ Cond.selects yX1_leastRaise.cls yX1_leastRaise yX1_leastRaise ∈ lw_tbl := ⟨mo_X1_leastRaise, tp 20 (n := 4) (by decide +kernel)⟩
theorem mt_X4_amountOf : am_mt yX4_amountOf cX4_amountOf 2 (some .int) 1 := ⟨tw 358 (by decide +kernel), tw 3 (by decide +kernel), ⟨by decide +kernel, by decide +kernel⟩, by decide +kernel⟩
theorem mo_X4_amountOf : Cond.instanceMethod yX4_amountOf ∈ lw_tbl := tw 357 (by decide +kernel)
theorem mi_X4_amountOf : Cond.instanceMethod yX4_amountOf ∈ lw_tbl ∧ Cond.selects yX4_amountOf.cls yX4_amountOf yX4_amountOf ∈ lw_tbl := ⟨mo_X4_amountOf, tp 21 (n := 6) (by decide +kernel)⟩
theorem mt_X0_noteBid : am_mt yX0_noteBid cX0_noteBid 3 none 2 := ⟨tw 363 (by decide +kernel), tw 5 (by decide +kernel), ⟨by decide +kernel, by decide +kernel⟩, by decide +kernel⟩
theorem mo_X0_noteBid : Cond.instanceMethod yX0_noteBid ∈ lw_tbl := tw 362 (by decide +kernel)
theorem mi_X0_noteBid : Cond.instanceMethod yX0_noteBid ∈ lw_tbl ∧ Cond.selects yX0_noteBid.cls yX0_noteBid yX0_noteBid ∈ lw_tbl := ⟨mo_X0_noteBid, tp 22 (n := 9) (by decide +kernel)⟩
theorem mt_X4_learnAtLeast : am_mt yX4_learnAtLeast cX4_learnAtLeast 3 none 2 := ⟨tw 368 (by decide +kernel), tw 3 (by decide +kernel), ⟨by decide +kernel, by decide +kernel⟩, by decide +kernel⟩
theorem mo_X4_learnAtLeast : Cond.instanceMethod yX4_learnAtLeast ∈ lw_tbl := tw 367 (by decide +kernel)
theorem mi_X4_learnAtLeast : Cond.instanceMethod yX4_learnAtLeast ∈ lw_tbl ∧ Cond.selects yX4_learnAtLeast.cls yX4_learnAtLeast yX4_learnAtLeast ∈ lw_tbl := ⟨mo_X4_learnAtLeast, tp 23 (n := 6) (by decide +kernel)⟩
theorem mt_X1_turnBehind : am_mt yX1_turnBehind cX1_turnBehind 2 none 1 := ⟨tw 372 (by decide +kernel), tw 2 (by decide +kernel), ⟨by decide +kernel, by decide +kernel⟩, by decide +kernel⟩
theorem mo_X1_turnBehind : Cond.instanceMethod yX1_turnBehind ∈ lw_tbl := tw 371 (by decide +kernel)
theorem mi_X1_turnBehind : Cond.instanceMethod yX1_turnBehind ∈ lw_tbl ∧ Cond.selects yX1_turnBehind.cls yX1_turnBehind yX1_turnBehind ∈ lw_tbl := ⟨mo_X1_turnBehind, tp 24 (n := 4) (by decide +kernel)⟩
theorem mt_X1_nextToAct : am_mt yX1_nextToAct cX1_nextToAct 4 (some .int) 1 := ⟨tw 376 (by decide +kernel), tw 2 (by decide +kernel), ⟨by decide +kernel, by decide +kernel⟩, by decide +kernel⟩
theorem mo_X1_nextToAct : Cond.instanceMethod yX1_nextToAct ∈ lw_tbl := tw 375 (by decide +kernel)
theorem mi_X1_nextToAct : Cond.instanceMethod yX1_nextToAct ∈ lw_tbl ∧ Cond.selects yX1_nextToAct.cls yX1_nextToAct yX1_nextToAct ∈ lw_tbl := ⟨mo_X1_nextToAct, tp 25 (n := 4) (by decide +kernel)⟩
theorem mt_X4_seatBehind : am_mt yX4_seatBehind cX4_seatBehind 4 (some .int) 2 := ⟨tw 380 (by decide +kernel), tw 3 (by decide +kernel), ⟨by decide +kernel, by decide +kernel⟩, by decide +kernel⟩
theorem mo_X4_seatBehind : Cond.instanceMethod yX4_seatBehind ∈ lw_tbl := tw 379 (by decide +kernel)
theorem mi_X4_seatBehind : Cond.instanceMethod yX4_seatBehind ∈ lw_tbl ∧ Cond.selects yX4_seatBehind.cls yX4_seatBehind yX4_seatBehind ∈ lw_tbl := ⟨mo_X4_seatBehind, tp 26 (n := 6) (by decide +kernel)⟩
theorem mt_X0_isOut : am_mt yX0_isOut cX0_isOut 2 (some .boolean) 1 := ⟨tw 384 (by decide +kernel), tw 5 (by decide +kernel), ⟨by decide +kernel, by decide +kernel⟩, by decide +kernel⟩
theorem mo_X0_isOut : Cond.instanceMethod yX0_isOut ∈ lw_tbl := tw 383 (by decide +kernel)
theorem mi_X0_isOut : Cond.instanceMethod yX0_isOut ∈ lw_tbl ∧ Cond.selects yX0_isOut.cls yX0_isOut yX0_isOut ∈ lw_tbl := ⟨mo_X0_isOut, tp 27 (n := 9) (by decide +kernel)⟩
theorem mt_X1_handIn : am_mt yX1_handIn cX1_handIn 3 (some .int) 2 := ⟨tw 388 (by decide +kernel), tw 2 (by decide +kernel), ⟨by decide +kernel, by decide +kernel⟩, by decide +kernel⟩
theorem mo_X1_handIn : Cond.instanceMethod yX1_handIn ∈ lw_tbl := tw 387 (by decide +kernel)
theorem mi_X1_handIn : Cond.instanceMethod yX1_handIn ∈ lw_tbl ∧ Cond.selects yX1_handIn.cls yX1_handIn yX1_handIn ∈ lw_tbl := ⟨mo_X1_handIn, tp 28 (n := 4) (by decide +kernel)⟩
theorem mt_X0_bidOf : am_mt yX0_bidOf cX0_bidOf 2 (some .int) 1 := ⟨tw 392 (by decide +kernel), tw 5 (by decide +kernel), ⟨by decide +kernel, by decide +kernel⟩, by decide +kernel⟩
theorem mo_X0_bidOf : Cond.instanceMethod yX0_bidOf ∈ lw_tbl := tw 391 (by decide +kernel)
theorem mi_X0_bidOf : Cond.instanceMethod yX0_bidOf ∈ lw_tbl ∧ Cond.selects yX0_bidOf.cls yX0_bidOf yX0_bidOf ∈ lw_tbl := ⟨mo_X0_bidOf, tp 29 (n := 9) (by decide +kernel)⟩
theorem mt_X1_openBids : am_mt yX1_openBids cX1_openBids 5 none 0 := ⟨tw 396 (by decide +kernel), tw 2 (by decide +kernel), ⟨by decide +kernel, by decide +kernel⟩, by decide +kernel⟩
theorem mo_X1_openBids : Cond.instanceMethod yX1_openBids ∈ lw_tbl := tw 395 (by decide +kernel)
theorem mi_X1_openBids : Cond.instanceMethod yX1_openBids ∈ lw_tbl ∧ Cond.selects yX1_openBids.cls yX1_openBids yX1_openBids ∈ lw_tbl := ⟨mo_X1_openBids, tp 30 (n := 4) (by decide +kernel)⟩
theorem mt_X1_claim : am_mt yX1_claim cX1_claim 3 (some .int) 2 := ⟨tw 400 (by decide +kernel), tw 2 (by decide +kernel), ⟨by decide +kernel, by decide +kernel⟩, by decide +kernel⟩
theorem mo_X1_claim : Cond.instanceMethod yX1_claim ∈ lw_tbl := tw 399 (by decide +kernel)
theorem mi_X1_claim : Cond.instanceMethod yX1_claim ∈ lw_tbl ∧ Cond.selects yX1_claim.cls yX1_claim yX1_claim ∈ lw_tbl := ⟨mo_X1_claim, tp 31 (n := 4) (by decide +kernel)⟩
theorem mt_X1_settle : am_mt yX1_settle cX1_settle 2 (some .int) 0 := ⟨tw 404 (by decide +kernel), tw 2 (by decide +kernel), ⟨by decide +kernel, by decide +kernel⟩, by decide +kernel⟩
theorem mo_X1_settle : Cond.instanceMethod yX1_settle ∈ lw_tbl := tw 403 (by decide +kernel)
theorem mi_X1_settle : Cond.instanceMethod yX1_settle ∈ lw_tbl ∧ Cond.selects yX1_settle.cls yX1_settle yX1_settle ∈ lw_tbl := ⟨mo_X1_settle, tp 32 (n := 4) (by decide +kernel)⟩
theorem mt_X1_collect : am_mt yX1_collect cX1_collect 9 none 2 := ⟨tw 408 (by decide +kernel), tw 2 (by decide +kernel), ⟨by decide +kernel, by decide +kernel⟩, by decide +kernel⟩
theorem mo_X1_collect : Cond.instanceMethod yX1_collect ∈ lw_tbl := tw 407 (by decide +kernel)
theorem mi_X1_collect : Cond.instanceMethod yX1_collect ∈ lw_tbl ∧ Cond.selects yX1_collect.cls yX1_collect yX1_collect ∈ lw_tbl := ⟨mo_X1_collect, tp 33 (n := 4) (by decide +kernel)⟩
theorem mt_J6_bitCount_0f7a4 : am_mt yJ6_bitCount_0f7a4 cJ6_bitCount_0f7a4 1 (some .int) 1 := ⟨tw 411 (by decide +kernel), tw 10 (by decide +kernel), ⟨by decide +kernel, by decide +kernel⟩, by decide +kernel⟩
theorem ms_J6_bitCount_0f7a4 : Cond.static yJ6_bitCount_0f7a4 ∈ lw_tbl := tw 410 (by decide +kernel)
theorem mt_X4_takeFrom : am_mt yX4_takeFrom cX4_takeFrom 3 none 2 := ⟨tw 418 (by decide +kernel), tw 3 (by decide +kernel), ⟨by decide +kernel, by decide +kernel⟩, by decide +kernel⟩
theorem mo_X4_takeFrom : Cond.instanceMethod yX4_takeFrom ∈ lw_tbl := tw 417 (by decide +kernel)
theorem mi_X4_takeFrom : Cond.instanceMethod yX4_takeFrom ∈ lw_tbl ∧ Cond.selects yX4_takeFrom.cls yX4_takeFrom yX4_takeFrom ∈ lw_tbl := ⟨mo_X4_takeFrom, tp 34 (n := 6) (by decide +kernel)⟩
theorem mt_X2_close : am_mt yX2_close cX2_close 3 none 2 := ⟨tw 425 (by decide +kernel), tw 4 (by decide +kernel), ⟨by decide +kernel, by decide +kernel⟩, by decide +kernel⟩
theorem mo_X2_close : Cond.instanceMethod yX2_close ∈ lw_tbl := tw 424 (by decide +kernel)
theorem mi_X2_close : Cond.instanceMethod yX2_close ∈ lw_tbl ∧ Cond.selects yX2_close.cls yX2_close yX2_close ∈ lw_tbl := ⟨mo_X2_close, tp 35 (n := 6) (by decide +kernel)⟩
theorem mt_X6_pass : am_mt yX6_pass cX6_pass 2 (some .int) 1 := ⟨tw 429 (by decide +kernel), tw 1 (by decide +kernel), ⟨by decide +kernel, by decide +kernel⟩, by decide +kernel⟩
theorem mo_X6_pass : Cond.instanceMethod yX6_pass ∈ lw_tbl := tw 427 (by decide +kernel)
theorem mi_X6_pass : Cond.instanceMethod yX6_pass ∈ lw_tbl ∧ Cond.selects yX6_pass.cls yX6_pass yX6_pass ∈ lw_tbl := ⟨mo_X6_pass, tw 428 (by decide +kernel)⟩
theorem mt_X1_takePass : am_mt yX1_takePass cX1_takePass 3 (some .int) 1 := ⟨tw 433 (by decide +kernel), tw 2 (by decide +kernel), ⟨by decide +kernel, by decide +kernel⟩, by decide +kernel⟩
theorem mo_X1_takePass : Cond.instanceMethod yX1_takePass ∈ lw_tbl := tw 432 (by decide +kernel)
theorem mi_X1_takePass : Cond.instanceMethod yX1_takePass ∈ lw_tbl ∧ Cond.selects yX1_takePass.cls yX1_takePass yX1_takePass ∈ lw_tbl := ⟨mo_X1_takePass, tp 36 (n := 4) (by decide +kernel)⟩
theorem mt_X1_stepOut : am_mt yX1_stepOut cX1_stepOut 2 (some .int) 1 := ⟨tw 437 (by decide +kernel), tw 2 (by decide +kernel), ⟨by decide +kernel, by decide +kernel⟩, by decide +kernel⟩
theorem mo_X1_stepOut : Cond.instanceMethod yX1_stepOut ∈ lw_tbl := tw 436 (by decide +kernel)
theorem mi_X1_stepOut : Cond.instanceMethod yX1_stepOut ∈ lw_tbl ∧ Cond.selects yX1_stepOut.cls yX1_stepOut yX1_stepOut ∈ lw_tbl := ⟨mo_X1_stepOut, tp 37 (n := 4) (by decide +kernel)⟩
theorem mt_X0_noteOut : am_mt yX0_noteOut cX0_noteOut 2 none 1 := ⟨tw 441 (by decide +kernel), tw 5 (by decide +kernel), ⟨by decide +kernel, by decide +kernel⟩, by decide +kernel⟩
theorem mo_X0_noteOut : Cond.instanceMethod yX0_noteOut ∈ lw_tbl := tw 440 (by decide +kernel)
theorem mi_X0_noteOut : Cond.instanceMethod yX0_noteOut ∈ lw_tbl ∧ Cond.selects yX0_noteOut.cls yX0_noteOut yX0_noteOut ∈ lw_tbl := ⟨mo_X0_noteOut, tp 38 (n := 9) (by decide +kernel)⟩
theorem mt_X1_letFall : am_mt yX1_letFall cX1_letFall 4 (some .int) 0 := ⟨tw 445 (by decide +kernel), tw 2 (by decide +kernel), ⟨by decide +kernel, by decide +kernel⟩, by decide +kernel⟩
theorem mo_X1_letFall : Cond.instanceMethod yX1_letFall ∈ lw_tbl := tw 444 (by decide +kernel)
theorem mi_X1_letFall : Cond.instanceMethod yX1_letFall ∈ lw_tbl ∧ Cond.selects yX1_letFall.cls yX1_letFall yX1_letFall ∈ lw_tbl := ⟨mo_X1_letFall, tp 39 (n := 4) (by decide +kernel)⟩
theorem mt_X6_move : am_mt yX6_move cX6_move 1 (some .int) 0 := ⟨tw 449 (by decide +kernel), tw 1 (by decide +kernel), ⟨by decide +kernel, by decide +kernel⟩, by decide +kernel⟩
theorem mo_X6_move : Cond.instanceMethod yX6_move ∈ lw_tbl := tw 447 (by decide +kernel)
theorem mi_X6_move : Cond.instanceMethod yX6_move ∈ lw_tbl ∧ Cond.selects yX6_move.cls yX6_move yX6_move ∈ lw_tbl := ⟨mo_X6_move, tw 448 (by decide +kernel)⟩
theorem mt_X1_moveAlone : am_mt yX1_moveAlone cX1_moveAlone 3 (some .int) 0 := ⟨tw 453 (by decide +kernel), tw 2 (by decide +kernel), ⟨by decide +kernel, by decide +kernel⟩, by decide +kernel⟩
theorem mo_X1_moveAlone : Cond.instanceMethod yX1_moveAlone ∈ lw_tbl := tw 452 (by decide +kernel)
theorem mi_X1_moveAlone : Cond.instanceMethod yX1_moveAlone ∈ lw_tbl ∧ Cond.selects yX1_moveAlone.cls yX1_moveAlone yX1_moveAlone ∈ lw_tbl := ⟨mo_X1_moveAlone, tp 40 (n := 4) (by decide +kernel)⟩
theorem mt_X1_claimAlone : am_mt yX1_claimAlone cX1_claimAlone 2 none 0 := ⟨tw 457 (by decide +kernel), tw 2 (by decide +kernel), ⟨by decide +kernel, by decide +kernel⟩, by decide +kernel⟩
theorem mo_X1_claimAlone : Cond.instanceMethod yX1_claimAlone ∈ lw_tbl := tw 456 (by decide +kernel)
theorem mi_X1_claimAlone : Cond.instanceMethod yX1_claimAlone ∈ lw_tbl ∧ Cond.selects yX1_claimAlone.cls yX1_claimAlone yX1_claimAlone ∈ lw_tbl := ⟨mo_X1_claimAlone, tp 41 (n := 4) (by decide +kernel)⟩
theorem mt_X1_limitOf : am_mt yX1_limitOf cX1_limitOf 3 (some .int) 1 := ⟨tw 461 (by decide +kernel), tw 2 (by decide +kernel), ⟨by decide +kernel, by decide +kernel⟩, by decide +kernel⟩
theorem mo_X1_limitOf : Cond.instanceMethod yX1_limitOf ∈ lw_tbl := tw 460 (by decide +kernel)
theorem mi_X1_limitOf : Cond.instanceMethod yX1_limitOf ∈ lw_tbl ∧ Cond.selects yX1_limitOf.cls yX1_limitOf yX1_limitOf ∈ lw_tbl := ⟨mo_X1_limitOf, tp 42 (n := 4) (by decide +kernel)⟩
theorem mt_X2_gainFor : am_mt yX2_gainFor cX2_gainFor 7 (some .int) 3 := ⟨tw 465 (by decide +kernel), tw 4 (by decide +kernel), ⟨by decide +kernel, by decide +kernel⟩, by decide +kernel⟩
theorem mo_X2_gainFor : Cond.instanceMethod yX2_gainFor ∈ lw_tbl := tw 464 (by decide +kernel)
theorem mi_X2_gainFor : Cond.instanceMethod yX2_gainFor ∈ lw_tbl ∧ Cond.selects yX2_gainFor.cls yX2_gainFor yX2_gainFor ∈ lw_tbl := ⟨mo_X2_gainFor, tp 43 (n := 6) (by decide +kernel)⟩
theorem mt_X2_hasLot : am_mt yX2_hasLot cX2_hasLot 2 (some .boolean) 1 := ⟨tw 469 (by decide +kernel), tw 4 (by decide +kernel), ⟨by decide +kernel, by decide +kernel⟩, by decide +kernel⟩
theorem mo_X2_hasLot : Cond.instanceMethod yX2_hasLot ∈ lw_tbl := tw 468 (by decide +kernel)
theorem mi_X2_hasLot : Cond.instanceMethod yX2_hasLot ∈ lw_tbl ∧ Cond.selects yX2_hasLot.cls yX2_hasLot yX2_hasLot ∈ lw_tbl := ⟨mo_X2_hasLot, tp 44 (n := 6) (by decide +kernel)⟩
theorem mt_X4_boldnessOf : am_mt yX4_boldnessOf cX4_boldnessOf 2 (some .int) 1 := ⟨tw 474 (by decide +kernel), tw 3 (by decide +kernel), ⟨by decide +kernel, by decide +kernel⟩, by decide +kernel⟩
theorem mo_X4_boldnessOf : Cond.instanceMethod yX4_boldnessOf ∈ lw_tbl := tw 473 (by decide +kernel)
theorem mi_X4_boldnessOf : Cond.instanceMethod yX4_boldnessOf ∈ lw_tbl ∧ Cond.selects yX4_boldnessOf.cls yX4_boldnessOf yX4_boldnessOf ∈ lw_tbl := ⟨mo_X4_boldnessOf, tp 45 (n := 6) (by decide +kernel)⟩
theorem mt_X1_firstWithoutBid : am_mt yX1_firstWithoutBid cX1_firstWithoutBid 4 (some .int) 0 := ⟨tw 479 (by decide +kernel), tw 2 (by decide +kernel), ⟨by decide +kernel, by decide +kernel⟩, by decide +kernel⟩
theorem mo_X1_firstWithoutBid : Cond.instanceMethod yX1_firstWithoutBid ∈ lw_tbl := tw 478 (by decide +kernel)
theorem mi_X1_firstWithoutBid : Cond.instanceMethod yX1_firstWithoutBid ∈ lw_tbl ∧ Cond.selects yX1_firstWithoutBid.cls yX1_firstWithoutBid yX1_firstWithoutBid ∈ lw_tbl := ⟨mo_X1_firstWithoutBid, tp 46 (n := 4) (by decide +kernel)⟩
theorem mt_X6_last : am_mt yX6_last cX6_last 1 (some .int) 0 := ⟨tw 483 (by decide +kernel), tw 1 (by decide +kernel), ⟨by decide +kernel, by decide +kernel⟩, by decide +kernel⟩
theorem mo_X6_last : Cond.instanceMethod yX6_last ∈ lw_tbl := tw 481 (by decide +kernel)
theorem mi_X6_last : Cond.instanceMethod yX6_last ∈ lw_tbl ∧ Cond.selects yX6_last.cls yX6_last yX6_last ∈ lw_tbl := ⟨mo_X6_last, tw 482 (by decide +kernel)⟩
theorem mt_X1_giveLast : am_mt yX1_giveLast cX1_giveLast 2 (some .int) 0 := ⟨tw 487 (by decide +kernel), tw 2 (by decide +kernel), ⟨by decide +kernel, by decide +kernel⟩, by decide +kernel⟩
theorem mo_X1_giveLast : Cond.instanceMethod yX1_giveLast ∈ lw_tbl := tw 486 (by decide +kernel)
theorem mi_X1_giveLast : Cond.instanceMethod yX1_giveLast ∈ lw_tbl ∧ Cond.selects yX1_giveLast.cls yX1_giveLast yX1_giveLast ∈ lw_tbl := ⟨mo_X1_giveLast, tp 47 (n := 4) (by decide +kernel)⟩
theorem mt_X2_nextIsLast : am_mt yX2_nextIsLast cX2_nextIsLast 1 (some .boolean) 0 := ⟨tw 491 (by decide +kernel), tw 4 (by decide +kernel), ⟨by decide +kernel, by decide +kernel⟩, by decide +kernel⟩
theorem mo_X2_nextIsLast : Cond.instanceMethod yX2_nextIsLast ∈ lw_tbl := tw 490 (by decide +kernel)
theorem mi_X2_nextIsLast : Cond.instanceMethod yX2_nextIsLast ∈ lw_tbl ∧ Cond.selects yX2_nextIsLast.cls yX2_nextIsLast yX2_nextIsLast ∈ lw_tbl := ⟨mo_X2_nextIsLast, tp 48 (n := 6) (by decide +kernel)⟩
theorem mt_X4_poorest : am_mt yX4_poorest cX4_poorest 5 (some .int) 1 := ⟨tw 495 (by decide +kernel), tw 3 (by decide +kernel), ⟨by decide +kernel, by decide +kernel⟩, by decide +kernel⟩
theorem mo_X4_poorest : Cond.instanceMethod yX4_poorest ∈ lw_tbl := tw 494 (by decide +kernel)
theorem mi_X4_poorest : Cond.instanceMethod yX4_poorest ∈ lw_tbl ∧ Cond.selects yX4_poorest.cls yX4_poorest yX4_poorest ∈ lw_tbl := ⟨mo_X4_poorest, tp 49 (n := 6) (by decide +kernel)⟩
theorem mt_X6_ask : am_mt yX6_ask cX6_ask 3 (some .int) 2 := ⟨tw 501 (by decide +kernel), tw 1 (by decide +kernel), ⟨by decide +kernel, by decide +kernel⟩, by decide +kernel⟩
theorem mo_X6_ask : Cond.instanceMethod yX6_ask ∈ lw_tbl := tw 499 (by decide +kernel)
theorem mi_X6_ask : Cond.instanceMethod yX6_ask ∈ lw_tbl ∧ Cond.selects yX6_ask.cls yX6_ask yX6_ask ∈ lw_tbl := ⟨mo_X6_ask, tw 500 (by decide +kernel)⟩
theorem mt_X4_question : am_mt yX4_question cX4_question 4 (some .boolean) 2 := ⟨tw 505 (by decide +kernel), tw 3 (by decide +kernel), ⟨by decide +kernel, by decide +kernel⟩, by decide +kernel⟩
theorem mo_X4_question : Cond.instanceMethod yX4_question ∈ lw_tbl := tw 504 (by decide +kernel)
theorem mi_X4_question : Cond.instanceMethod yX4_question ∈ lw_tbl ∧ Cond.selects yX4_question.cls yX4_question yX4_question ∈ lw_tbl := ⟨mo_X4_question, tp 50 (n := 6) (by decide +kernel)⟩
theorem mt_X4_learnAtMost : am_mt yX4_learnAtMost cX4_learnAtMost 3 none 2 := ⟨tw 510 (by decide +kernel), tw 3 (by decide +kernel), ⟨by decide +kernel, by decide +kernel⟩, by decide +kernel⟩
theorem mo_X4_learnAtMost : Cond.instanceMethod yX4_learnAtMost ∈ lw_tbl := tw 509 (by decide +kernel)
theorem mi_X4_learnAtMost : Cond.instanceMethod yX4_learnAtMost ∈ lw_tbl ∧ Cond.selects yX4_learnAtMost.cls yX4_learnAtMost yX4_learnAtMost ∈ lw_tbl := ⟨mo_X4_learnAtMost, tp 51 (n := 6) (by decide +kernel)⟩
theorem mt_X6_player : am_mt yX6_player cX6_player 3 (some .int) 2 := ⟨tw 514 (by decide +kernel), tw 1 (by decide +kernel), ⟨by decide +kernel, by decide +kernel⟩, by decide +kernel⟩
theorem mo_X6_player : Cond.instanceMethod yX6_player ∈ lw_tbl := tw 512 (by decide +kernel)
theorem mi_X6_player : Cond.instanceMethod yX6_player ∈ lw_tbl ∧ Cond.selects yX6_player.cls yX6_player yX6_player ∈ lw_tbl := ⟨mo_X6_player, tw 513 (by decide +kernel)⟩
theorem mt_X4_paidBy : am_mt yX4_paidBy cX4_paidBy 2 (some .int) 1 := ⟨tw 520 (by decide +kernel), tw 3 (by decide +kernel), ⟨by decide +kernel, by decide +kernel⟩, by decide +kernel⟩
theorem mo_X4_paidBy : Cond.instanceMethod yX4_paidBy ∈ lw_tbl := tw 519 (by decide +kernel)
theorem mi_X4_paidBy : Cond.instanceMethod yX4_paidBy ∈ lw_tbl ∧ Cond.selects yX4_paidBy.cls yX4_paidBy yX4_paidBy ∈ lw_tbl := ⟨mo_X4_paidBy, tp 52 (n := 6) (by decide +kernel)⟩
theorem mt_X1_valueOf : am_mt yX1_valueOf cX1_valueOf 2 (some .int) 1 := ⟨tw 524 (by decide +kernel), tw 2 (by decide +kernel), ⟨by decide +kernel, by decide +kernel⟩, by decide +kernel⟩
theorem mo_X1_valueOf : Cond.instanceMethod yX1_valueOf ∈ lw_tbl := tw 523 (by decide +kernel)
theorem mi_X1_valueOf : Cond.instanceMethod yX1_valueOf ∈ lw_tbl ∧ Cond.selects yX1_valueOf.cls yX1_valueOf yX1_valueOf ∈ lw_tbl := ⟨mo_X1_valueOf, tp 53 (n := 4) (by decide +kernel)⟩
theorem mt_X2_valueFor : am_mt yX2_valueFor cX2_valueFor 8 (some .int) 3 := ⟨tw 528 (by decide +kernel), tw 4 (by decide +kernel), ⟨by decide +kernel, by decide +kernel⟩, by decide +kernel⟩
theorem mo_X2_valueFor : Cond.instanceMethod yX2_valueFor ∈ lw_tbl := tw 527 (by decide +kernel)
theorem mi_X2_valueFor : Cond.instanceMethod yX2_valueFor ∈ lw_tbl ∧ Cond.selects yX2_valueFor.cls yX2_valueFor yX2_valueFor ∈ lw_tbl := ⟨mo_X2_valueFor, tp 54 (n := 6) (by decide +kernel)⟩
theorem mt_X2_owns : am_mt yX2_owns cX2_owns 3 (some .boolean) 2 := ⟨tw 532 (by decide +kernel), tw 4 (by decide +kernel), ⟨by decide +kernel, by decide +kernel⟩, by decide +kernel⟩
theorem mo_X2_owns : Cond.instanceMethod yX2_owns ∈ lw_tbl := tw 531 (by decide +kernel)
theorem mi_X2_owns : Cond.instanceMethod yX2_owns ∈ lw_tbl ∧ Cond.selects yX2_owns.cls yX2_owns yX2_owns ∈ lw_tbl := ⟨mo_X2_owns, tp 55 (n := 6) (by decide +kernel)⟩
theorem mt_X2_shareOf : am_mt yX2_shareOf cX2_shareOf 3 (some .int) 1 := ⟨tw 536 (by decide +kernel), tw 4 (by decide +kernel), ⟨by decide +kernel, by decide +kernel⟩, by decide +kernel⟩
theorem mo_X2_shareOf : Cond.instanceMethod yX2_shareOf ∈ lw_tbl := tw 535 (by decide +kernel)
theorem mi_X2_shareOf : Cond.instanceMethod yX2_shareOf ∈ lw_tbl ∧ Cond.selects yX2_shareOf.cls yX2_shareOf yX2_shareOf ∈ lw_tbl := ⟨mo_X2_shareOf, tp 56 (n := 6) (by decide +kernel)⟩
theorem mt_X2_ownedOfColour : am_mt yX2_ownedOfColour cX2_ownedOfColour 5 (some .int) 2 := ⟨tw 540 (by decide +kernel), tw 4 (by decide +kernel), ⟨by decide +kernel, by decide +kernel⟩, by decide +kernel⟩
theorem mo_X2_ownedOfColour : Cond.instanceMethod yX2_ownedOfColour ∈ lw_tbl := tw 539 (by decide +kernel)
theorem mi_X2_ownedOfColour : Cond.instanceMethod yX2_ownedOfColour ∈ lw_tbl ∧ Cond.selects yX2_ownedOfColour.cls yX2_ownedOfColour yX2_ownedOfColour ∈ lw_tbl := ⟨mo_X2_ownedOfColour, tp 57 (n := 6) (by decide +kernel)⟩
theorem mt_X1_scoreOf : am_mt yX1_scoreOf cX1_scoreOf 3 (some .int) 1 := ⟨tw 544 (by decide +kernel), tw 2 (by decide +kernel), ⟨by decide +kernel, by decide +kernel⟩, by decide +kernel⟩
theorem mo_X1_scoreOf : Cond.instanceMethod yX1_scoreOf ∈ lw_tbl := tw 543 (by decide +kernel)
theorem mi_X1_scoreOf : Cond.instanceMethod yX1_scoreOf ∈ lw_tbl ∧ Cond.selects yX1_scoreOf.cls yX1_scoreOf yX1_scoreOf ∈ lw_tbl := ⟨mo_X1_scoreOf, tp 58 (n := 4) (by decide +kernel)⟩
theorem mt_X1_placeOf : am_mt yX1_placeOf cX1_placeOf 6 (some .int) 1 := ⟨tw 549 (by decide +kernel), tw 2 (by decide +kernel), ⟨by decide +kernel, by decide +kernel⟩, by decide +kernel⟩
theorem mo_X1_placeOf : Cond.instanceMethod yX1_placeOf ∈ lw_tbl := tw 548 (by decide +kernel)
theorem mi_X1_placeOf : Cond.instanceMethod yX1_placeOf ∈ lw_tbl ∧ Cond.selects yX1_placeOf.cls yX1_placeOf yX1_placeOf ∈ lw_tbl := ⟨mo_X1_placeOf, tp 59 (n := 4) (by decide +kernel)⟩
theorem mt_X2_ownedBy : am_mt yX2_ownedBy cX2_ownedBy 4 (some .int) 1 := ⟨tw 554 (by decide +kernel), tw 4 (by decide +kernel), ⟨by decide +kernel, by decide +kernel⟩, by decide +kernel⟩
theorem mo_X2_ownedBy : Cond.instanceMethod yX2_ownedBy ∈ lw_tbl := tw 553 (by decide +kernel)
theorem mi_X2_ownedBy : Cond.instanceMethod yX2_ownedBy ∈ lw_tbl ∧ Cond.selects yX2_ownedBy.cls yX2_ownedBy yX2_ownedBy ∈ lw_tbl := ⟨mo_X2_ownedBy, tp 60 (n := 6) (by decide +kernel)⟩
theorem mt_X6_about : am_mt yX6_about cX6_about 4 (some .int) 2 := ⟨tw 561 (by decide +kernel), tw 1 (by decide +kernel), ⟨by decide +kernel, by decide +kernel⟩, by decide +kernel⟩
theorem mo_X6_about : Cond.instanceMethod yX6_about ∈ lw_tbl := tw 559 (by decide +kernel)
theorem mi_X6_about : Cond.instanceMethod yX6_about ∈ lw_tbl ∧ Cond.selects yX6_about.cls yX6_about yX6_about ∈ lw_tbl := ⟨mo_X6_about, tw 560 (by decide +kernel)⟩
theorem mt_X2_colourOf : am_mt yX2_colourOf cX2_colourOf 2 (some .int) 1 := ⟨tw 566 (by decide +kernel), tw 4 (by decide +kernel), ⟨by decide +kernel, by decide +kernel⟩, by decide +kernel⟩
theorem mo_X2_colourOf : Cond.instanceMethod yX2_colourOf ∈ lw_tbl := tw 565 (by decide +kernel)
theorem mi_X2_colourOf : Cond.instanceMethod yX2_colourOf ∈ lw_tbl ∧ Cond.selects yX2_colourOf.cls yX2_colourOf yX2_colourOf ∈ lw_tbl := ⟨mo_X2_colourOf, tp 61 (n := 6) (by decide +kernel)⟩
theorem mt_X2_worthOf : am_mt yX2_worthOf cX2_worthOf 2 (some .int) 1 := ⟨tw 570 (by decide +kernel), tw 4 (by decide +kernel), ⟨by decide +kernel, by decide +kernel⟩, by decide +kernel⟩
theorem mo_X2_worthOf : Cond.instanceMethod yX2_worthOf ∈ lw_tbl := tw 569 (by decide +kernel)
theorem mi_X2_worthOf : Cond.instanceMethod yX2_worthOf ∈ lw_tbl ∧ Cond.selects yX2_worthOf.cls yX2_worthOf yX2_worthOf ∈ lw_tbl := ⟨mo_X2_worthOf, tp 62 (n := 6) (by decide +kernel)⟩
theorem mt_X2_ownersOf : am_mt yX2_ownersOf cX2_ownersOf 2 (some .int) 1 := ⟨tw 574 (by decide +kernel), tw 4 (by decide +kernel), ⟨by decide +kernel, by decide +kernel⟩, by decide +kernel⟩
theorem mo_X2_ownersOf : Cond.instanceMethod yX2_ownersOf ∈ lw_tbl := tw 573 (by decide +kernel)
theorem mi_X2_ownersOf : Cond.instanceMethod yX2_ownersOf ∈ lw_tbl ∧ Cond.selects yX2_ownersOf.cls yX2_ownersOf yX2_ownersOf ∈ lw_tbl := ⟨mo_X2_ownersOf, tp 63 (n := 6) (by decide +kernel)⟩
theorem mt_X2_priceOf : am_mt yX2_priceOf cX2_priceOf 2 (some .int) 1 := ⟨tw 578 (by decide +kernel), tw 4 (by decide +kernel), ⟨by decide +kernel, by decide +kernel⟩, by decide +kernel⟩
theorem mo_X2_priceOf : Cond.instanceMethod yX2_priceOf ∈ lw_tbl := tw 577 (by decide +kernel)
theorem mi_X2_priceOf : Cond.instanceMethod yX2_priceOf ∈ lw_tbl ∧ Cond.selects yX2_priceOf.cls yX2_priceOf yX2_priceOf ∈ lw_tbl := ⟨mo_X2_priceOf, tp 64 (n := 6) (by decide +kernel)⟩
theorem mt_X2_stateOf : am_mt yX2_stateOf cX2_stateOf 2 (some .int) 1 := ⟨tw 582 (by decide +kernel), tw 4 (by decide +kernel), ⟨by decide +kernel, by decide +kernel⟩, by decide +kernel⟩
theorem mo_X2_stateOf : Cond.instanceMethod yX2_stateOf ∈ lw_tbl := tw 581 (by decide +kernel)
theorem mi_X2_stateOf : Cond.instanceMethod yX2_stateOf ∈ lw_tbl ∧ Cond.selects yX2_stateOf.cls yX2_stateOf yX2_stateOf ∈ lw_tbl := ⟨mo_X2_stateOf, tp 65 (n := 6) (by decide +kernel)⟩
theorem mt_X6_count : am_mt yX6_count cX6_count 2 (some .int) 1 := ⟨tw 587 (by decide +kernel), tw 1 (by decide +kernel), ⟨by decide +kernel, by decide +kernel⟩, by decide +kernel⟩
theorem mo_X6_count : Cond.instanceMethod yX6_count ∈ lw_tbl := tw 585 (by decide +kernel)
theorem mi_X6_count : Cond.instanceMethod yX6_count ∈ lw_tbl ∧ Cond.selects yX6_count.cls yX6_count yX6_count ∈ lw_tbl := ⟨mo_X6_count, tw 586 (by decide +kernel)⟩
theorem mt_X4_sum : am_mt yX4_sum cX4_sum 3 (some .int) 0 := ⟨tw 594 (by decide +kernel), tw 3 (by decide +kernel), ⟨by decide +kernel, by decide +kernel⟩, by decide +kernel⟩
theorem mo_X4_sum : Cond.instanceMethod yX4_sum ∈ lw_tbl := tw 593 (by decide +kernel)
theorem mi_X4_sum : Cond.instanceMethod yX4_sum ∈ lw_tbl ∧ Cond.selects yX4_sum.cls yX4_sum yX4_sum ∈ lw_tbl := ⟨mo_X4_sum, tp 66 (n := 6) (by decide +kernel)⟩
theorem mt_X4_paidByAll : am_mt yX4_paidByAll cX4_paidByAll 3 (some .int) 0 := ⟨tw 598 (by decide +kernel), tw 3 (by decide +kernel), ⟨by decide +kernel, by decide +kernel⟩, by decide +kernel⟩
theorem mo_X4_paidByAll : Cond.instanceMethod yX4_paidByAll ∈ lw_tbl := tw 597 (by decide +kernel)
theorem mi_X4_paidByAll : Cond.instanceMethod yX4_paidByAll ∈ lw_tbl ∧ Cond.selects yX4_paidByAll.cls yX4_paidByAll yX4_paidByAll ∈ lw_tbl := ⟨mo_X4_paidByAll, tp 67 (n := 6) (by decide +kernel)⟩
theorem mt_X6_known : am_mt yX6_known cX6_known 4 (some .int) 2 := ⟨tw 603 (by decide +kernel), tw 1 (by decide +kernel), ⟨by decide +kernel, by decide +kernel⟩, by decide +kernel⟩
theorem mo_X6_known : Cond.instanceMethod yX6_known ∈ lw_tbl := tw 601 (by decide +kernel)
theorem mi_X6_known : Cond.instanceMethod yX6_known ∈ lw_tbl ∧ Cond.selects yX6_known.cls yX6_known yX6_known ∈ lw_tbl := ⟨mo_X6_known, tw 602 (by decide +kernel)⟩
theorem mt_X4_leastOf : am_mt yX4_leastOf cX4_leastOf 2 (some .int) 1 := ⟨tw 607 (by decide +kernel), tw 3 (by decide +kernel), ⟨by decide +kernel, by decide +kernel⟩, by decide +kernel⟩
theorem mo_X4_leastOf : Cond.instanceMethod yX4_leastOf ∈ lw_tbl := tw 606 (by decide +kernel)
theorem mi_X4_leastOf : Cond.instanceMethod yX4_leastOf ∈ lw_tbl ∧ Cond.selects yX4_leastOf.cls yX4_leastOf yX4_leastOf ∈ lw_tbl := ⟨mo_X4_leastOf, tp 68 (n := 6) (by decide +kernel)⟩
theorem mt_X4_greatestOf : am_mt yX4_greatestOf cX4_greatestOf 2 (some .int) 1 := ⟨tw 611 (by decide +kernel), tw 3 (by decide +kernel), ⟨by decide +kernel, by decide +kernel⟩, by decide +kernel⟩
theorem mo_X4_greatestOf : Cond.instanceMethod yX4_greatestOf ∈ lw_tbl := tw 610 (by decide +kernel)
theorem mi_X4_greatestOf : Cond.instanceMethod yX4_greatestOf ∈ lw_tbl ∧ Cond.selects yX4_greatestOf.cls yX4_greatestOf yX4_greatestOf ∈ lw_tbl := ⟨mo_X4_greatestOf, tp 69 (n := 6) (by decide +kernel)⟩
theorem mt_X5_leastIn : am_mt yX5_leastIn cX5_leastIn 6 (some .int) 2 := ⟨tw 615 (by decide +kernel), tw 6 (by decide +kernel), ⟨by decide +kernel, by decide +kernel⟩, by decide +kernel⟩
theorem mo_X5_leastIn : Cond.instanceMethod yX5_leastIn ∈ lw_tbl := tw 614 (by decide +kernel)
theorem mi_X5_leastIn : Cond.instanceMethod yX5_leastIn ∈ lw_tbl ∧ Cond.selects yX5_leastIn.cls yX5_leastIn yX5_leastIn ∈ lw_tbl := ⟨mo_X5_leastIn, tp 70 (n := 2) (by decide +kernel)⟩
theorem mt_X5_takeInOthers : am_mt yX5_takeInOthers cX5_takeInOthers 4 none 2 := ⟨tw 619 (by decide +kernel), tw 6 (by decide +kernel), ⟨by decide +kernel, by decide +kernel⟩, by decide +kernel⟩
theorem mo_X5_takeInOthers : Cond.instanceMethod yX5_takeInOthers ∈ lw_tbl := tw 618 (by decide +kernel)
theorem mi_X5_takeInOthers : Cond.instanceMethod yX5_takeInOthers ∈ lw_tbl ∧ Cond.selects yX5_takeInOthers.cls yX5_takeInOthers yX5_takeInOthers ∈ lw_tbl := ⟨mo_X5_takeInOthers, tp 71 (n := 2) (by decide +kernel)⟩
theorem mt_X5_takeIn : am_mt yX5_takeIn cX5_takeIn 6 none 2 := ⟨tw 625 (by decide +kernel), tw 6 (by decide +kernel), ⟨by decide +kernel, by decide +kernel⟩, by decide +kernel⟩
theorem mo_X5_takeIn : Cond.instanceMethod yX5_takeIn ∈ lw_tbl := tw 624 (by decide +kernel)
theorem mi_X5_takeIn : Cond.instanceMethod yX5_takeIn ∈ lw_tbl ∧ Cond.selects yX5_takeIn.cls yX5_takeIn yX5_takeIn ∈ lw_tbl := ⟨mo_X5_takeIn, tp 72 (n := 2) (by decide +kernel)⟩
theorem mt_X5_waysUpTo : am_mt yX5_waysUpTo cX5_waysUpTo 2 (some .long) 1 := ⟨tw 629 (by decide +kernel), tw 6 (by decide +kernel), ⟨by decide +kernel, by decide +kernel⟩, by decide +kernel⟩
theorem mo_X5_waysUpTo : Cond.instanceMethod yX5_waysUpTo ∈ lw_tbl := tw 628 (by decide +kernel)
theorem mi_X5_waysUpTo : Cond.instanceMethod yX5_waysUpTo ∈ lw_tbl ∧ Cond.selects yX5_waysUpTo.cls yX5_waysUpTo yX5_waysUpTo ∈ lw_tbl := ⟨mo_X5_waysUpTo, tp 73 (n := 2) (by decide +kernel)⟩
theorem mt_X5_waysOf : am_mt yX5_waysOf cX5_waysOf 2 (some .long) 1 := ⟨tw 635 (by decide +kernel), tw 6 (by decide +kernel), ⟨by decide +kernel, by decide +kernel⟩, by decide +kernel⟩
theorem mo_X5_waysOf : Cond.instanceMethod yX5_waysOf ∈ lw_tbl := tw 634 (by decide +kernel)
theorem mi_X5_waysOf : Cond.instanceMethod yX5_waysOf ∈ lw_tbl ∧ Cond.selects yX5_waysOf.cls yX5_waysOf yX5_waysOf ∈ lw_tbl := ⟨mo_X5_waysOf, tp 74 (n := 2) (by decide +kernel)⟩
theorem mt_X5_greatestIn : am_mt yX5_greatestIn cX5_greatestIn 6 (some .int) 2 := ⟨tw 639 (by decide +kernel), tw 6 (by decide +kernel), ⟨by decide +kernel, by decide +kernel⟩, by decide +kernel⟩
theorem mo_X5_greatestIn : Cond.instanceMethod yX5_greatestIn ∈ lw_tbl := tw 638 (by decide +kernel)
theorem mi_X5_greatestIn : Cond.instanceMethod yX5_greatestIn ∈ lw_tbl ∧ Cond.selects yX5_greatestIn.cls yX5_greatestIn yX5_greatestIn ∈ lw_tbl := ⟨mo_X5_greatestIn, tp 75 (n := 2) (by decide +kernel)⟩
theorem mt_X5_averageIn : am_mt yX5_averageIn cX5_averageIn 11 (some .int) 2 := ⟨tw 643 (by decide +kernel), tw 6 (by decide +kernel), ⟨by decide +kernel, by decide +kernel⟩, by decide +kernel⟩
theorem mo_X5_averageIn : Cond.instanceMethod yX5_averageIn ∈ lw_tbl := tw 642 (by decide +kernel)
theorem mi_X5_averageIn : Cond.instanceMethod yX5_averageIn ∈ lw_tbl ∧ Cond.selects yX5_averageIn.cls yX5_averageIn yX5_averageIn ∈ lw_tbl := ⟨mo_X5_averageIn, tp 76 (n := 2) (by decide +kernel)⟩
theorem mt_X6_ways : am_mt yX6_ways cX6_ways 1 (some .long) 0 := ⟨tw 647 (by decide +kernel), tw 1 (by decide +kernel), ⟨by decide +kernel, by decide +kernel⟩, by decide +kernel⟩
theorem mo_X6_ways : Cond.instanceMethod yX6_ways ∈ lw_tbl := tw 645 (by decide +kernel)
theorem mi_X6_ways : Cond.instanceMethod yX6_ways ∈ lw_tbl ∧ Cond.selects yX6_ways.cls yX6_ways yX6_ways ∈ lw_tbl := ⟨mo_X6_ways, tw 646 (by decide +kernel)⟩
theorem mt_X5_waysWith : am_mt yX5_waysWith cX5_waysWith 8 (some .long) 3 := ⟨tw 651 (by decide +kernel), tw 6 (by decide +kernel), ⟨by decide +kernel, by decide +kernel⟩, by decide +kernel⟩
theorem mo_X5_waysWith : Cond.instanceMethod yX5_waysWith ∈ lw_tbl := tw 650 (by decide +kernel)
theorem mi_X5_waysWith : Cond.instanceMethod yX5_waysWith ∈ lw_tbl ∧ Cond.selects yX5_waysWith.cls yX5_waysWith yX5_waysWith ∈ lw_tbl := ⟨mo_X5_waysWith, tp 77 (n := 2) (by decide +kernel)⟩
theorem mt_X6_canPay : am_mt yX6_canPay cX6_canPay 3 (some .long) 2 := ⟨tw 656 (by decide +kernel), tw 1 (by decide +kernel), ⟨by decide +kernel, by decide +kernel⟩, by decide +kernel⟩
theorem mo_X6_canPay : Cond.instanceMethod yX6_canPay ∈ lw_tbl := tw 654 (by decide +kernel)
theorem mi_X6_canPay : Cond.instanceMethod yX6_canPay ∈ lw_tbl ∧ Cond.selects yX6_canPay.cls yX6_canPay yX6_canPay ∈ lw_tbl := ⟨mo_X6_canPay, tw 655 (by decide +kernel)⟩
theorem mt_X6_forecast : am_mt yX6_forecast cX6_forecast 5 (some .int) 3 := ⟨tw 662 (by decide +kernel), tw 1 (by decide +kernel), ⟨by decide +kernel, by decide +kernel⟩, by decide +kernel⟩
theorem mo_X6_forecast : Cond.instanceMethod yX6_forecast ∈ lw_tbl := tw 660 (by decide +kernel)
theorem mi_X6_forecast : Cond.instanceMethod yX6_forecast ∈ lw_tbl ∧ Cond.selects yX6_forecast.cls yX6_forecast yX6_forecast ∈ lw_tbl := ⟨mo_X6_forecast, tw 661 (by decide +kernel)⟩
theorem mt_X1_takeOver : am_mt yX1_takeOver cX1_takeOver 2 none 1 := ⟨tw 668 (by decide +kernel), tw 2 (by decide +kernel), ⟨by decide +kernel, by decide +kernel⟩, by decide +kernel⟩
theorem mo_X1_takeOver : Cond.instanceMethod yX1_takeOver ∈ lw_tbl := tw 667 (by decide +kernel)
theorem mi_X1_takeOver : Cond.instanceMethod yX1_takeOver ∈ lw_tbl ∧ Cond.selects yX1_takeOver.cls yX1_takeOver yX1_takeOver ∈ lw_tbl := ⟨mo_X1_takeOver, tp 78 (n := 4) (by decide +kernel)⟩
theorem mt_X6_copyRow : am_mt yX6_copyRow cX6_copyRow 2 none 2 := ⟨tw 671 (by decide +kernel), tw 1 (by decide +kernel), ⟨by decide +kernel, by decide +kernel⟩, by decide +kernel⟩
theorem ms_X6_copyRow : Cond.static yX6_copyRow ∈ lw_tbl := tw 670 (by decide +kernel)
theorem mt_X4_takeOver : am_mt yX4_takeOver cX4_takeOver 2 none 1 := ⟨tw 679 (by decide +kernel), tw 3 (by decide +kernel), ⟨by decide +kernel, by decide +kernel⟩, by decide +kernel⟩
theorem mo_X4_takeOver : Cond.instanceMethod yX4_takeOver ∈ lw_tbl := tw 678 (by decide +kernel)
theorem mi_X4_takeOver : Cond.instanceMethod yX4_takeOver ∈ lw_tbl ∧ Cond.selects yX4_takeOver.cls yX4_takeOver yX4_takeOver ∈ lw_tbl := ⟨mo_X4_takeOver, tp 79 (n := 6) (by decide +kernel)⟩
theorem mt_X2_takeOver : am_mt yX2_takeOver cX2_takeOver 2 none 1 := ⟨tw 684 (by decide +kernel), tw 4 (by decide +kernel), ⟨by decide +kernel, by decide +kernel⟩, by decide +kernel⟩
theorem mo_X2_takeOver : Cond.instanceMethod yX2_takeOver ∈ lw_tbl := tw 683 (by decide +kernel)
theorem mi_X2_takeOver : Cond.instanceMethod yX2_takeOver ∈ lw_tbl ∧ Cond.selects yX2_takeOver.cls yX2_takeOver yX2_takeOver ∈ lw_tbl := ⟨mo_X2_takeOver, tp 80 (n := 6) (by decide +kernel)⟩
theorem mt_X0_takeOver : am_mt yX0_takeOver cX0_takeOver 2 none 1 := ⟨tw 689 (by decide +kernel), tw 5 (by decide +kernel), ⟨by decide +kernel, by decide +kernel⟩, by decide +kernel⟩
theorem mo_X0_takeOver : Cond.instanceMethod yX0_takeOver ∈ lw_tbl := tw 688 (by decide +kernel)
theorem mi_X0_takeOver : Cond.instanceMethod yX0_takeOver ∈ lw_tbl ∧ Cond.selects yX0_takeOver.cls yX0_takeOver yX0_takeOver ∈ lw_tbl := ⟨mo_X0_takeOver, tp 81 (n := 9) (by decide +kernel)⟩
theorem mt_X6_bestMode : am_mt yX6_bestMode cX6_bestMode 7 (some .int) 2 := ⟨tw 696 (by decide +kernel), tw 1 (by decide +kernel), ⟨by decide +kernel, by decide +kernel⟩, by decide +kernel⟩
theorem mo_X6_bestMode : Cond.instanceMethod yX6_bestMode ∈ lw_tbl := tw 694 (by decide +kernel)
theorem mi_X6_bestMode : Cond.instanceMethod yX6_bestMode ∈ lw_tbl ∧ Cond.selects yX6_bestMode.cls yX6_bestMode yX6_bestMode ∈ lw_tbl := ⟨mo_X6_bestMode, tw 695 (by decide +kernel)⟩
theorem mt_X6_leastBid : am_mt yX6_leastBid cX6_leastBid 4 (some .int) 2 := ⟨tw 701 (by decide +kernel), tw 1 (by decide +kernel), ⟨by decide +kernel, by decide +kernel⟩, by decide +kernel⟩
theorem mo_X6_leastBid : Cond.instanceMethod yX6_leastBid ∈ lw_tbl := tw 699 (by decide +kernel)
theorem mi_X6_leastBid : Cond.instanceMethod yX6_leastBid ∈ lw_tbl ∧ Cond.selects yX6_leastBid.cls yX6_leastBid yX6_leastBid ∈ lw_tbl := ⟨mo_X6_leastBid, tw 700 (by decide +kernel)⟩
theorem mt_X1_neededAgainst : am_mt yX1_neededAgainst cX1_neededAgainst 5 (some .int) 2 := ⟨tw 705 (by decide +kernel), tw 2 (by decide +kernel), ⟨by decide +kernel, by decide +kernel⟩, by decide +kernel⟩
theorem mo_X1_neededAgainst : Cond.instanceMethod yX1_neededAgainst ∈ lw_tbl := tw 704 (by decide +kernel)
theorem mi_X1_neededAgainst : Cond.instanceMethod yX1_neededAgainst ∈ lw_tbl ∧ Cond.selects yX1_neededAgainst.cls yX1_neededAgainst yX1_neededAgainst ∈ lw_tbl := ⟨mo_X1_neededAgainst, tp 82 (n := 4) (by decide +kernel)⟩
theorem mt_X6_put : am_mt yX6_put cX6_put 5 (some .int) 1 := ⟨tw 710 (by decide +kernel), tw 1 (by decide +kernel), ⟨by decide +kernel, by decide +kernel⟩, by decide +kernel⟩
theorem mo_X6_put : Cond.instanceMethod yX6_put ∈ lw_tbl := tw 708 (by decide +kernel)
theorem mi_X6_put : Cond.instanceMethod yX6_put ∈ lw_tbl ∧ Cond.selects yX6_put.cls yX6_put yX6_put ∈ lw_tbl := ⟨mo_X6_put, tw 709 (by decide +kernel)⟩
theorem mt_X6_signsIn : am_mt yX6_signsIn cX6_signsIn 6 (some .int) 1 := ⟨tw 713 (by decide +kernel), tw 1 (by decide +kernel), ⟨by decide +kernel, by decide +kernel⟩, by decide +kernel⟩
theorem ms_X6_signsIn : Cond.static yX6_signsIn ∈ lw_tbl := tw 712 (by decide +kernel)
theorem mt_X3_append : am_mt yX3_append cX3_append 2 none 1 := ⟨tw 718 (by decide +kernel), tw 7 (by decide +kernel), ⟨by decide +kernel, by decide +kernel⟩, by decide +kernel⟩
theorem mo_X3_append : Cond.instanceMethod yX3_append ∈ lw_tbl := tw 717 (by decide +kernel)
theorem mi_X3_append : Cond.instanceMethod yX3_append ∈ lw_tbl ∧ Cond.selects yX3_append.cls yX3_append yX3_append ∈ lw_tbl := ⟨mo_X3_append, tp 83 (n := 6) (by decide +kernel)⟩
theorem mt_X6_wipe : am_mt yX6_wipe cX6_wipe 2 (some .int) 0 := ⟨tw 722 (by decide +kernel), tw 1 (by decide +kernel), ⟨by decide +kernel, by decide +kernel⟩, by decide +kernel⟩
theorem mo_X6_wipe : Cond.instanceMethod yX6_wipe ∈ lw_tbl := tw 720 (by decide +kernel)
theorem mi_X6_wipe : Cond.instanceMethod yX6_wipe ∈ lw_tbl ∧ Cond.selects yX6_wipe.cls yX6_wipe yX6_wipe ∈ lw_tbl := ⟨mo_X6_wipe, tw 721 (by decide +kernel)⟩
theorem mt_X3_empty : am_mt yX3_empty cX3_empty 1 none 0 := ⟨tw 726 (by decide +kernel), tw 7 (by decide +kernel), ⟨by decide +kernel, by decide +kernel⟩, by decide +kernel⟩
theorem mo_X3_empty : Cond.instanceMethod yX3_empty ∈ lw_tbl := tw 725 (by decide +kernel)
theorem mi_X3_empty : Cond.instanceMethod yX3_empty ∈ lw_tbl ∧ Cond.selects yX3_empty.cls yX3_empty yX3_empty ∈ lw_tbl := ⟨mo_X3_empty, tp 84 (n := 6) (by decide +kernel)⟩
theorem mt_X6_fault : am_mt yX6_fault cX6_fault 1 (some .int) 0 := ⟨tw 730 (by decide +kernel), tw 1 (by decide +kernel), ⟨by decide +kernel, by decide +kernel⟩, by decide +kernel⟩
theorem mo_X6_fault : Cond.instanceMethod yX6_fault ∈ lw_tbl := tw 728 (by decide +kernel)
theorem mi_X6_fault : Cond.instanceMethod yX6_fault ∈ lw_tbl ∧ Cond.selects yX6_fault.cls yX6_fault yX6_fault ∈ lw_tbl := ⟨mo_X6_fault, tw 729 (by decide +kernel)⟩
theorem mt_X3_firstFault : am_mt yX3_firstFault cX3_firstFault 3 (some .int) 0 := ⟨tw 734 (by decide +kernel), tw 7 (by decide +kernel), ⟨by decide +kernel, by decide +kernel⟩, by decide +kernel⟩
theorem mo_X3_firstFault : Cond.instanceMethod yX3_firstFault ∈ lw_tbl := tw 733 (by decide +kernel)
theorem mi_X3_firstFault : Cond.instanceMethod yX3_firstFault ∈ lw_tbl ∧ Cond.selects yX3_firstFault.cls yX3_firstFault yX3_firstFault ∈ lw_tbl := ⟨mo_X3_firstFault, tp 85 (n := 6) (by decide +kernel)⟩
theorem mt_X3_toStart : am_mt yX3_toStart cX3_toStart 1 none 0 := ⟨tw 738 (by decide +kernel), tw 7 (by decide +kernel), ⟨by decide +kernel, by decide +kernel⟩, by decide +kernel⟩
theorem mo_X3_toStart : Cond.instanceMethod yX3_toStart ∈ lw_tbl := tw 737 (by decide +kernel)
theorem mi_X3_toStart : Cond.instanceMethod yX3_toStart ∈ lw_tbl ∧ Cond.selects yX3_toStart.cls yX3_toStart yX3_toStart ∈ lw_tbl := ⟨mo_X3_toStart, tp 86 (n := 6) (by decide +kernel)⟩
theorem mt_X3_readAct : am_mt yX3_readAct cX3_readAct 1 (some .boolean) 0 := ⟨tw 742 (by decide +kernel), tw 7 (by decide +kernel), ⟨by decide +kernel, by decide +kernel⟩, by decide +kernel⟩
theorem mo_X3_readAct : Cond.instanceMethod yX3_readAct ∈ lw_tbl := tw 741 (by decide +kernel)
theorem mi_X3_readAct : Cond.instanceMethod yX3_readAct ∈ lw_tbl ∧ Cond.selects yX3_readAct.cls yX3_readAct yX3_readAct ∈ lw_tbl := ⟨mo_X3_readAct, tp 87 (n := 6) (by decide +kernel)⟩
theorem mt_X3_signAt : am_mt yX3_signAt cX3_signAt 2 (some .int) 1 := ⟨tw 746 (by decide +kernel), tw 7 (by decide +kernel), ⟨by decide +kernel, by decide +kernel⟩, by decide +kernel⟩
theorem mo_X3_signAt : Cond.instanceMethod yX3_signAt ∈ lw_tbl := tw 745 (by decide +kernel)
theorem mi_X3_signAt : Cond.instanceMethod yX3_signAt ∈ lw_tbl ∧ Cond.selects yX3_signAt.cls yX3_signAt yX3_signAt ∈ lw_tbl := ⟨mo_X3_signAt, tp 88 (n := 6) (by decide +kernel)⟩
theorem mt_X3_readPair : am_mt yX3_readPair cX3_readPair 3 (some .boolean) 2 := ⟨tw 750 (by decide +kernel), tw 7 (by decide +kernel), ⟨by decide +kernel, by decide +kernel⟩, by decide +kernel⟩
theorem mo_X3_readPair : Cond.instanceMethod yX3_readPair ∈ lw_tbl := tw 749 (by decide +kernel)
theorem mi_X3_readPair : Cond.instanceMethod yX3_readPair ∈ lw_tbl ∧ Cond.selects yX3_readPair.cls yX3_readPair yX3_readPair ∈ lw_tbl := ⟨mo_X3_readPair, tp 89 (n := 6) (by decide +kernel)⟩
theorem mt_X3_readNumber : am_mt yX3_readNumber cX3_readNumber 6 (some .int) 2 := ⟨tw 754 (by decide +kernel), tw 7 (by decide +kernel), ⟨by decide +kernel, by decide +kernel⟩, by decide +kernel⟩
theorem mo_X3_readNumber : Cond.instanceMethod yX3_readNumber ∈ lw_tbl := tw 753 (by decide +kernel)
theorem mi_X3_readNumber : Cond.instanceMethod yX3_readNumber ∈ lw_tbl ∧ Cond.selects yX3_readNumber.cls yX3_readNumber yX3_readNumber ∈ lw_tbl := ⟨mo_X3_readNumber, tp 90 (n := 6) (by decide +kernel)⟩
theorem mt_X3_digitAt : am_mt yX3_digitAt cX3_digitAt 3 (some .int) 1 := ⟨tw 758 (by decide +kernel), tw 7 (by decide +kernel), ⟨by decide +kernel, by decide +kernel⟩, by decide +kernel⟩
theorem mo_X3_digitAt : Cond.instanceMethod yX3_digitAt ∈ lw_tbl := tw 757 (by decide +kernel)
theorem mi_X3_digitAt : Cond.instanceMethod yX3_digitAt ∈ lw_tbl ∧ Cond.selects yX3_digitAt.cls yX3_digitAt yX3_digitAt ∈ lw_tbl := ⟨mo_X3_digitAt, tp 91 (n := 6) (by decide +kernel)⟩
theorem mt_X3_readSign : am_mt yX3_readSign cX3_readSign 2 (some .boolean) 1 := ⟨tw 763 (by decide +kernel), tw 7 (by decide +kernel), ⟨by decide +kernel, by decide +kernel⟩, by decide +kernel⟩
theorem mo_X3_readSign : Cond.instanceMethod yX3_readSign ∈ lw_tbl := tw 762 (by decide +kernel)
theorem mi_X3_readSign : Cond.instanceMethod yX3_readSign ∈ lw_tbl ∧ Cond.selects yX3_readSign.cls yX3_readSign yX3_readSign ∈ lw_tbl := ⟨mo_X3_readSign, tp 92 (n := 6) (by decide +kernel)⟩
theorem mt_X6_carryOut : am_mt yX6_carryOut cX6_carryOut 3 (some .int) 0 := ⟨tw 767 (by decide +kernel), tw 1 (by decide +kernel), ⟨by decide +kernel, by decide +kernel⟩, by decide +kernel⟩
theorem mo_X6_carryOut : Cond.instanceMethod yX6_carryOut ∈ lw_tbl := tw 765 (by decide +kernel)
theorem mi_X6_carryOut : Cond.instanceMethod yX6_carryOut ∈ lw_tbl ∧ Cond.selects yX6_carryOut.cls yX6_carryOut yX6_carryOut ∈ lw_tbl := ⟨mo_X6_carryOut, tw 766 (by decide +kernel)⟩
theorem mt_X6_carryOutAct : am_mt yX6_carryOutAct cX6_carryOutAct 1 (some .int) 0 := ⟨tw 773 (by decide +kernel), tw 1 (by decide +kernel), ⟨by decide +kernel, by decide +kernel⟩, by decide +kernel⟩
theorem mo_X6_carryOutAct : Cond.instanceMethod yX6_carryOutAct ∈ lw_tbl := tw 772 (by decide +kernel)
theorem mi_X6_carryOutAct : Cond.instanceMethod yX6_carryOutAct ∈ lw_tbl ∧ Cond.selects yX6_carryOutAct.cls yX6_carryOutAct yX6_carryOutAct ∈ lw_tbl := ⟨mo_X6_carryOutAct, tp 93 (n := 5) (by decide +kernel)⟩
theorem mt_X6_isError : am_mt yX6_isError cX6_isError 1 (some .boolean) 1 := ⟨tw 776 (by decide +kernel), tw 1 (by decide +kernel), ⟨by decide +kernel, by decide +kernel⟩, by decide +kernel⟩
theorem ms_X6_isError : Cond.static yX6_isError ∈ lw_tbl := tw 775 (by decide +kernel)
theorem mt_X6_save : am_mt yX6_save cX6_save 3 (some .int) 1 := ⟨tw 781 (by decide +kernel), tw 1 (by decide +kernel), ⟨by decide +kernel, by decide +kernel⟩, by decide +kernel⟩
theorem mo_X6_save : Cond.instanceMethod yX6_save ∈ lw_tbl := tw 779 (by decide +kernel)
theorem mi_X6_save : Cond.instanceMethod yX6_save ∈ lw_tbl ∧ Cond.selects yX6_save.cls yX6_save yX6_save ∈ lw_tbl := ⟨mo_X6_save, tw 780 (by decide +kernel)⟩
theorem mt_X6_isSlot : am_mt yX6_isSlot cX6_isSlot 1 (some .boolean) 1 := ⟨tw 784 (by decide +kernel), tw 1 (by decide +kernel), ⟨by decide +kernel, by decide +kernel⟩, by decide +kernel⟩
theorem ms_X6_isSlot : Cond.static yX6_isSlot ∈ lw_tbl := tw 783 (by decide +kernel)
theorem mt_X6_restore : am_mt yX6_restore cX6_restore 3 (some .int) 1 := ⟨tw 788 (by decide +kernel), tw 1 (by decide +kernel), ⟨by decide +kernel, by decide +kernel⟩, by decide +kernel⟩
theorem mo_X6_restore : Cond.instanceMethod yX6_restore ∈ lw_tbl := tw 786 (by decide +kernel)
theorem mi_X6_restore : Cond.instanceMethod yX6_restore ∈ lw_tbl ∧ Cond.selects yX6_restore.cls yX6_restore yX6_restore ∈ lw_tbl := ⟨mo_X6_restore, tw 787 (by decide +kernel)⟩
theorem mt_X7_init : am_mt yX7_init cX7_init 1 none 0 := ⟨tw 793 (by decide +kernel), tw 9 (by decide +kernel), ⟨by decide +kernel, by decide +kernel⟩, by decide +kernel⟩
theorem mo_X7_init : Cond.instanceMethod yX7_init ∈ lw_tbl := tw 792 (by decide +kernel)
theorem mt_X7_beginGame : am_mt yX7_beginGame cX7_beginGame 3 none 1 := ⟨tw 798 (by decide +kernel), tw 9 (by decide +kernel), ⟨by decide +kernel, by decide +kernel⟩, by decide +kernel⟩
theorem mo_X7_beginGame : Cond.instanceMethod yX7_beginGame ∈ lw_tbl := tw 797 (by decide +kernel)
theorem mi_X7_beginGame : Cond.instanceMethod yX7_beginGame ∈ lw_tbl ∧ Cond.selects yX7_beginGame.cls yX7_beginGame yX7_beginGame ∈ lw_tbl := ⟨mo_X7_beginGame, tp 94 (n := 13) (by decide +kernel)⟩
theorem mt_X7_setting : am_mt yX7_setting cX7_setting 2 (some .int) 1 := ⟨tw 802 (by decide +kernel), tw 9 (by decide +kernel), ⟨by decide +kernel, by decide +kernel⟩, by decide +kernel⟩
theorem mo_X7_setting : Cond.instanceMethod yX7_setting ∈ lw_tbl := tw 801 (by decide +kernel)
theorem mi_X7_setting : Cond.instanceMethod yX7_setting ∈ lw_tbl ∧ Cond.selects yX7_setting.cls yX7_setting yX7_setting ∈ lw_tbl := ⟨mo_X7_setting, tp 95 (n := 13) (by decide +kernel)⟩
theorem mt_X7_lay : am_mt yX7_lay cX7_lay 4 none 3 := ⟨tw 806 (by decide +kernel), tw 9 (by decide +kernel), ⟨by decide +kernel, by decide +kernel⟩, by decide +kernel⟩
theorem mo_X7_lay : Cond.instanceMethod yX7_lay ∈ lw_tbl := tw 805 (by decide +kernel)
theorem mi_X7_lay : Cond.instanceMethod yX7_lay ∈ lw_tbl ∧ Cond.selects yX7_lay.cls yX7_lay yX7_lay ∈ lw_tbl := ⟨mo_X7_lay, tp 96 (n := 13) (by decide +kernel)⟩
theorem mt_X7_clearAuction : am_mt yX7_clearAuction cX7_clearAuction 2 none 0 := ⟨tw 810 (by decide +kernel), tw 9 (by decide +kernel), ⟨by decide +kernel, by decide +kernel⟩, by decide +kernel⟩
theorem mo_X7_clearAuction : Cond.instanceMethod yX7_clearAuction ∈ lw_tbl := tw 809 (by decide +kernel)
theorem mi_X7_clearAuction : Cond.instanceMethod yX7_clearAuction ∈ lw_tbl ∧ Cond.selects yX7_clearAuction.cls yX7_clearAuction yX7_clearAuction ∈ lw_tbl := ⟨mo_X7_clearAuction, tp 97 (n := 13) (by decide +kernel)⟩
theorem mt_X7_setUp : am_mt yX7_setUp cX7_setUp 3 (some .int) 1 := ⟨tw 855 (by decide +kernel), tw 9 (by decide +kernel), ⟨by decide +kernel, by decide +kernel⟩, by decide +kernel⟩
theorem mo_X7_setUp : Cond.instanceMethod yX7_setUp ∈ lw_tbl := tw 853 (by decide +kernel)
theorem mi_X7_setUp : Cond.instanceMethod yX7_setUp ∈ lw_tbl ∧ Cond.selects yX7_setUp.cls yX7_setUp yX7_setUp ∈ lw_tbl := ⟨mo_X7_setUp, tw 854 (by decide +kernel)⟩
theorem mt_X7_in : am_mt yX7_in cX7_in 3 (some .boolean) 3 := ⟨tw 858 (by decide +kernel), tw 9 (by decide +kernel), ⟨by decide +kernel, by decide +kernel⟩, by decide +kernel⟩
theorem ms_X7_in : Cond.static yX7_in ∈ lw_tbl := tw 857 (by decide +kernel)
theorem mt_X7_set : am_mt yX7_set cX7_set 4 (some .int) 2 := ⟨tw 862 (by decide +kernel), tw 9 (by decide +kernel), ⟨by decide +kernel, by decide +kernel⟩, by decide +kernel⟩
theorem mo_X7_set : Cond.instanceMethod yX7_set ∈ lw_tbl := tw 860 (by decide +kernel)
theorem mi_X7_set : Cond.instanceMethod yX7_set ∈ lw_tbl ∧ Cond.selects yX7_set.cls yX7_set yX7_set ∈ lw_tbl := ⟨mo_X7_set, tw 861 (by decide +kernel)⟩
theorem mt_X7_takes : am_mt yX7_takes cX7_takes 2 (some .boolean) 2 := ⟨tw 865 (by decide +kernel), tw 9 (by decide +kernel), ⟨by decide +kernel, by decide +kernel⟩, by decide +kernel⟩
theorem ms_X7_takes : Cond.static yX7_takes ∈ lw_tbl := tw 864 (by decide +kernel)
theorem mt_X7_goes : am_mt yX7_goes cX7_goes 1 (some .boolean) 0 := ⟨tw 869 (by decide +kernel), tw 9 (by decide +kernel), ⟨by decide +kernel, by decide +kernel⟩, by decide +kernel⟩
theorem mo_X7_goes : Cond.instanceMethod yX7_goes ∈ lw_tbl := tw 868 (by decide +kernel)
theorem mi_X7_goes : Cond.instanceMethod yX7_goes ∈ lw_tbl ∧ Cond.selects yX7_goes.cls yX7_goes yX7_goes ∈ lw_tbl := ⟨mo_X7_goes, tp 98 (n := 13) (by decide +kernel)⟩
theorem mt_X7_fill : am_mt yX7_fill cX7_fill 4 (some .int) 2 := ⟨tw 873 (by decide +kernel), tw 9 (by decide +kernel), ⟨by decide +kernel, by decide +kernel⟩, by decide +kernel⟩
theorem mo_X7_fill : Cond.instanceMethod yX7_fill ∈ lw_tbl := tw 871 (by decide +kernel)
theorem mi_X7_fill : Cond.instanceMethod yX7_fill ∈ lw_tbl ∧ Cond.selects yX7_fill.cls yX7_fill yX7_fill ∈ lw_tbl := ⟨mo_X7_fill, tw 872 (by decide +kernel)⟩
theorem mt_X7_isPlayer : am_mt yX7_isPlayer cX7_isPlayer 2 (some .boolean) 1 := ⟨tw 877 (by decide +kernel), tw 9 (by decide +kernel), ⟨by decide +kernel, by decide +kernel⟩, by decide +kernel⟩
theorem mo_X7_isPlayer : Cond.instanceMethod yX7_isPlayer ∈ lw_tbl := tw 876 (by decide +kernel)
theorem mi_X7_isPlayer : Cond.instanceMethod yX7_isPlayer ∈ lw_tbl ∧ Cond.selects yX7_isPlayer.cls yX7_isPlayer yX7_isPlayer ∈ lw_tbl := ⟨mo_X7_isPlayer, tp 99 (n := 13) (by decide +kernel)⟩
theorem mt_X7_of : am_mt yX7_of cX7_of 3 (some .int) 2 := ⟨tw 881 (by decide +kernel), tw 9 (by decide +kernel), ⟨by decide +kernel, by decide +kernel⟩, by decide +kernel⟩
theorem mo_X7_of : Cond.instanceMethod yX7_of ∈ lw_tbl := tw 880 (by decide +kernel)
theorem mi_X7_of : Cond.instanceMethod yX7_of ∈ lw_tbl ∧ Cond.selects yX7_of.cls yX7_of yX7_of ∈ lw_tbl := ⟨mo_X7_of, tp 100 (n := 13) (by decide +kernel)⟩
theorem mt_X7_embolden : am_mt yX7_embolden cX7_embolden 4 (some .int) 2 := ⟨tw 885 (by decide +kernel), tw 9 (by decide +kernel), ⟨by decide +kernel, by decide +kernel⟩, by decide +kernel⟩
theorem mo_X7_embolden : Cond.instanceMethod yX7_embolden ∈ lw_tbl := tw 883 (by decide +kernel)
theorem mi_X7_embolden : Cond.instanceMethod yX7_embolden ∈ lw_tbl ∧ Cond.selects yX7_embolden.cls yX7_embolden yX7_embolden ∈ lw_tbl := ⟨mo_X7_embolden, tw 884 (by decide +kernel)⟩
theorem mt_X7_lot : am_mt yX7_lot cX7_lot 4 (some .int) 2 := ⟨tw 889 (by decide +kernel), tw 9 (by decide +kernel), ⟨by decide +kernel, by decide +kernel⟩, by decide +kernel⟩
theorem mo_X7_lot : Cond.instanceMethod yX7_lot ∈ lw_tbl := tw 887 (by decide +kernel)
theorem mi_X7_lot : Cond.instanceMethod yX7_lot ∈ lw_tbl ∧ Cond.selects yX7_lot.cls yX7_lot yX7_lot ∈ lw_tbl := ⟨mo_X7_lot, tw 888 (by decide +kernel)⟩
theorem mt_X7_layLot : am_mt yX7_layLot cX7_layLot 4 none 3 := ⟨tw 893 (by decide +kernel), tw 9 (by decide +kernel), ⟨by decide +kernel, by decide +kernel⟩, by decide +kernel⟩
theorem mo_X7_layLot : Cond.instanceMethod yX7_layLot ∈ lw_tbl := tw 892 (by decide +kernel)
theorem mi_X7_layLot : Cond.instanceMethod yX7_layLot ∈ lw_tbl ∧ Cond.selects yX7_layLot.cls yX7_layLot yX7_layLot ∈ lw_tbl := ⟨mo_X7_layLot, tp 101 (n := 13) (by decide +kernel)⟩
theorem mt_X7_begin : am_mt yX7_begin cX7_begin 3 (some .int) 2 := ⟨tw 897 (by decide +kernel), tw 9 (by decide +kernel), ⟨by decide +kernel, by decide +kernel⟩, by decide +kernel⟩
theorem mo_X7_begin : Cond.instanceMethod yX7_begin ∈ lw_tbl := tw 895 (by decide +kernel)
theorem mi_X7_begin : Cond.instanceMethod yX7_begin ∈ lw_tbl ∧ Cond.selects yX7_begin.cls yX7_begin yX7_begin ∈ lw_tbl := ⟨mo_X7_begin, tw 896 (by decide +kernel)⟩
theorem mt_X7_nextLot : am_mt yX7_nextLot cX7_nextLot 1 (some .int) 0 := ⟨tw 901 (by decide +kernel), tw 9 (by decide +kernel), ⟨by decide +kernel, by decide +kernel⟩, by decide +kernel⟩
theorem mo_X7_nextLot : Cond.instanceMethod yX7_nextLot ∈ lw_tbl := tw 900 (by decide +kernel)
theorem mi_X7_nextLot : Cond.instanceMethod yX7_nextLot ∈ lw_tbl ∧ Cond.selects yX7_nextLot.cls yX7_nextLot yX7_nextLot ∈ lw_tbl := ⟨mo_X7_nextLot, tp 102 (n := 13) (by decide +kernel)⟩
theorem mt_X7_isLastNext : am_mt yX7_isLastNext cX7_isLastNext 1 (some .boolean) 0 := ⟨tw 905 (by decide +kernel), tw 9 (by decide +kernel), ⟨by decide +kernel, by decide +kernel⟩, by decide +kernel⟩
theorem mo_X7_isLastNext : Cond.instanceMethod yX7_isLastNext ∈ lw_tbl := tw 904 (by decide +kernel)
theorem mi_X7_isLastNext : Cond.instanceMethod yX7_isLastNext ∈ lw_tbl ∧ Cond.selects yX7_isLastNext.cls yX7_isLastNext yX7_isLastNext ∈ lw_tbl := ⟨mo_X7_isLastNext, tp 103 (n := 13) (by decide +kernel)⟩
theorem mt_X7_start : am_mt yX7_start cX7_start 3 (some .int) 2 := ⟨tw 909 (by decide +kernel), tw 9 (by decide +kernel), ⟨by decide +kernel, by decide +kernel⟩, by decide +kernel⟩
theorem mo_X7_start : Cond.instanceMethod yX7_start ∈ lw_tbl := tw 908 (by decide +kernel)
theorem mi_X7_start : Cond.instanceMethod yX7_start ∈ lw_tbl ∧ Cond.selects yX7_start.cls yX7_start yX7_start ∈ lw_tbl := ⟨mo_X7_start, tp 104 (n := 13) (by decide +kernel)⟩
theorem mt_X7_starter : am_mt yX7_starter cX7_starter 1 (some .int) 0 := ⟨tw 913 (by decide +kernel), tw 9 (by decide +kernel), ⟨by decide +kernel, by decide +kernel⟩, by decide +kernel⟩
theorem mo_X7_starter : Cond.instanceMethod yX7_starter ∈ lw_tbl := tw 912 (by decide +kernel)
theorem mi_X7_starter : Cond.instanceMethod yX7_starter ∈ lw_tbl ∧ Cond.selects yX7_starter.cls yX7_starter yX7_starter ∈ lw_tbl := ⟨mo_X7_starter, tp 105 (n := 13) (by decide +kernel)⟩
theorem mt_X7_bid : am_mt yX7_bid cX7_bid 3 (some .int) 2 := ⟨tw 917 (by decide +kernel), tw 9 (by decide +kernel), ⟨by decide +kernel, by decide +kernel⟩, by decide +kernel⟩
theorem mo_X7_bid : Cond.instanceMethod yX7_bid ∈ lw_tbl := tw 915 (by decide +kernel)
theorem mi_X7_bid : Cond.instanceMethod yX7_bid ∈ lw_tbl ∧ Cond.selects yX7_bid.cls yX7_bid yX7_bid ∈ lw_tbl := ⟨mo_X7_bid, tw 916 (by decide +kernel)⟩
theorem mt_X7_isBid : am_mt yX7_isBid cX7_isBid 4 (some .boolean) 2 := ⟨tw 921 (by decide +kernel), tw 9 (by decide +kernel), ⟨by decide +kernel, by decide +kernel⟩, by decide +kernel⟩
theorem mo_X7_isBid : Cond.instanceMethod yX7_isBid ∈ lw_tbl := tw 920 (by decide +kernel)
theorem mi_X7_isBid : Cond.instanceMethod yX7_isBid ∈ lw_tbl ∧ Cond.selects yX7_isBid.cls yX7_isBid yX7_isBid ∈ lw_tbl := ⟨mo_X7_isBid, tp 106 (n := 13) (by decide +kernel)⟩
theorem mt_X7_leastOpen : am_mt yX7_leastOpen cX7_leastOpen 1 (some .int) 0 := ⟨tw 925 (by decide +kernel), tw 9 (by decide +kernel), ⟨by decide +kernel, by decide +kernel⟩, by decide +kernel⟩
theorem mo_X7_leastOpen : Cond.instanceMethod yX7_leastOpen ∈ lw_tbl := tw 924 (by decide +kernel)
theorem mi_X7_leastOpen : Cond.instanceMethod yX7_leastOpen ∈ lw_tbl ∧ Cond.selects yX7_leastOpen.cls yX7_leastOpen yX7_leastOpen ∈ lw_tbl := ⟨mo_X7_leastOpen, tp 107 (n := 13) (by decide +kernel)⟩
theorem mt_X7_bidOpen : am_mt yX7_bidOpen cX7_bidOpen 3 (some .int) 2 := ⟨tw 929 (by decide +kernel), tw 9 (by decide +kernel), ⟨by decide +kernel, by decide +kernel⟩, by decide +kernel⟩
theorem mo_X7_bidOpen : Cond.instanceMethod yX7_bidOpen ∈ lw_tbl := tw 928 (by decide +kernel)
theorem mi_X7_bidOpen : Cond.instanceMethod yX7_bidOpen ∈ lw_tbl ∧ Cond.selects yX7_bidOpen.cls yX7_bidOpen yX7_bidOpen ∈ lw_tbl := ⟨mo_X7_bidOpen, tp 108 (n := 13) (by decide +kernel)⟩
theorem mt_X7_know : am_mt yX7_know cX7_know 3 none 2 := ⟨tw 933 (by decide +kernel), tw 9 (by decide +kernel), ⟨by decide +kernel, by decide +kernel⟩, by decide +kernel⟩
theorem mo_X7_know : Cond.instanceMethod yX7_know ∈ lw_tbl := tw 932 (by decide +kernel)
theorem mi_X7_know : Cond.instanceMethod yX7_know ∈ lw_tbl ∧ Cond.selects yX7_know.cls yX7_know yX7_know ∈ lw_tbl := ⟨mo_X7_know, tp 109 (n := 13) (by decide +kernel)⟩
theorem mt_X7_goOn : am_mt yX7_goOn cX7_goOn 5 (some .int) 1 := ⟨tw 937 (by decide +kernel), tw 9 (by decide +kernel), ⟨by decide +kernel, by decide +kernel⟩, by decide +kernel⟩
theorem mo_X7_goOn : Cond.instanceMethod yX7_goOn ∈ lw_tbl := tw 936 (by decide +kernel)
theorem mi_X7_goOn : Cond.instanceMethod yX7_goOn ∈ lw_tbl ∧ Cond.selects yX7_goOn.cls yX7_goOn yX7_goOn ∈ lw_tbl := ⟨mo_X7_goOn, tp 110 (n := 13) (by decide +kernel)⟩
theorem mt_X7_sellTo : am_mt yX7_sellTo cX7_sellTo 3 (some .int) 2 := ⟨tw 941 (by decide +kernel), tw 9 (by decide +kernel), ⟨by decide +kernel, by decide +kernel⟩, by decide +kernel⟩
theorem mo_X7_sellTo : Cond.instanceMethod yX7_sellTo ∈ lw_tbl := tw 940 (by decide +kernel)
theorem mi_X7_sellTo : Cond.instanceMethod yX7_sellTo ∈ lw_tbl ∧ Cond.selects yX7_sellTo.cls yX7_sellTo yX7_sellTo ∈ lw_tbl := ⟨mo_X7_sellTo, tp 111 (n := 13) (by decide +kernel)⟩
theorem mt_X7_finish : am_mt yX7_finish cX7_finish 4 (some .int) 2 := ⟨tw 945 (by decide +kernel), tw 9 (by decide +kernel), ⟨by decide +kernel, by decide +kernel⟩, by decide +kernel⟩
theorem mo_X7_finish : Cond.instanceMethod yX7_finish ∈ lw_tbl := tw 944 (by decide +kernel)
theorem mi_X7_finish : Cond.instanceMethod yX7_finish ∈ lw_tbl ∧ Cond.selects yX7_finish.cls yX7_finish yX7_finish ∈ lw_tbl := ⟨mo_X7_finish, tp 112 (n := 13) (by decide +kernel)⟩
theorem mt_X7_pay : am_mt yX7_pay cX7_pay 3 none 2 := ⟨tw 949 (by decide +kernel), tw 9 (by decide +kernel), ⟨by decide +kernel, by decide +kernel⟩, by decide +kernel⟩
theorem mo_X7_pay : Cond.instanceMethod yX7_pay ∈ lw_tbl := tw 948 (by decide +kernel)
theorem mi_X7_pay : Cond.instanceMethod yX7_pay ∈ lw_tbl ∧ Cond.selects yX7_pay.cls yX7_pay yX7_pay ∈ lw_tbl := ⟨mo_X7_pay, tp 113 (n := 13) (by decide +kernel)⟩
theorem mt_X7_bidSealed : am_mt yX7_bidSealed cX7_bidSealed 3 (some .int) 2 := ⟨tw 953 (by decide +kernel), tw 9 (by decide +kernel), ⟨by decide +kernel, by decide +kernel⟩, by decide +kernel⟩
theorem mo_X7_bidSealed : Cond.instanceMethod yX7_bidSealed ∈ lw_tbl := tw 952 (by decide +kernel)
theorem mi_X7_bidSealed : Cond.instanceMethod yX7_bidSealed ∈ lw_tbl ∧ Cond.selects yX7_bidSealed.cls yX7_bidSealed yX7_bidSealed ∈ lw_tbl := ⟨mo_X7_bidSealed, tp 114 (n := 13) (by decide +kernel)⟩
theorem mt_X7_openSealed : am_mt yX7_openSealed cX7_openSealed 7 (some .int) 0 := ⟨tw 957 (by decide +kernel), tw 9 (by decide +kernel), ⟨by decide +kernel, by decide +kernel⟩, by decide +kernel⟩
theorem mo_X7_openSealed : Cond.instanceMethod yX7_openSealed ∈ lw_tbl := tw 956 (by decide +kernel)
theorem mi_X7_openSealed : Cond.instanceMethod yX7_openSealed ∈ lw_tbl ∧ Cond.selects yX7_openSealed.cls yX7_openSealed yX7_openSealed ∈ lw_tbl := ⟨mo_X7_openSealed, tp 115 (n := 13) (by decide +kernel)⟩
theorem mt_X7_sizeOf : am_mt yX7_sizeOf cX7_sizeOf 3 (some .int) 1 := ⟨tw 960 (by decide +kernel), tw 9 (by decide +kernel), ⟨by decide +kernel, by decide +kernel⟩, by decide +kernel⟩
theorem ms_X7_sizeOf : Cond.static yX7_sizeOf ∈ lw_tbl := tw 959 (by decide +kernel)
theorem mt_X7_seat : am_mt yX7_seat cX7_seat 2 (some .int) 1 := ⟨tw 964 (by decide +kernel), tw 9 (by decide +kernel), ⟨by decide +kernel, by decide +kernel⟩, by decide +kernel⟩
theorem mo_X7_seat : Cond.instanceMethod yX7_seat ∈ lw_tbl := tw 963 (by decide +kernel)
theorem mi_X7_seat : Cond.instanceMethod yX7_seat ∈ lw_tbl ∧ Cond.selects yX7_seat.cls yX7_seat yX7_seat ∈ lw_tbl := ⟨mo_X7_seat, tp 116 (n := 13) (by decide +kernel)⟩
theorem mt_X7_claim : am_mt yX7_claim cX7_claim 2 (some .int) 1 := ⟨tw 968 (by decide +kernel), tw 9 (by decide +kernel), ⟨by decide +kernel, by decide +kernel⟩, by decide +kernel⟩
theorem mo_X7_claim : Cond.instanceMethod yX7_claim ∈ lw_tbl := tw 967 (by decide +kernel)
theorem mi_X7_claim : Cond.instanceMethod yX7_claim ∈ lw_tbl ∧ Cond.selects yX7_claim.cls yX7_claim yX7_claim ∈ lw_tbl := ⟨mo_X7_claim, tp 117 (n := 13) (by decide +kernel)⟩
theorem mt_X7_pass : am_mt yX7_pass cX7_pass 2 (some .int) 1 := ⟨tw 972 (by decide +kernel), tw 9 (by decide +kernel), ⟨by decide +kernel, by decide +kernel⟩, by decide +kernel⟩
theorem mo_X7_pass : Cond.instanceMethod yX7_pass ∈ lw_tbl := tw 970 (by decide +kernel)
theorem mi_X7_pass : Cond.instanceMethod yX7_pass ∈ lw_tbl ∧ Cond.selects yX7_pass.cls yX7_pass yX7_pass ∈ lw_tbl := ⟨mo_X7_pass, tw 971 (by decide +kernel)⟩
theorem mt_X7_passOpen : am_mt yX7_passOpen cX7_passOpen 2 (some .int) 1 := ⟨tw 976 (by decide +kernel), tw 9 (by decide +kernel), ⟨by decide +kernel, by decide +kernel⟩, by decide +kernel⟩
theorem mo_X7_passOpen : Cond.instanceMethod yX7_passOpen ∈ lw_tbl := tw 975 (by decide +kernel)
theorem mi_X7_passOpen : Cond.instanceMethod yX7_passOpen ∈ lw_tbl ∧ Cond.selects yX7_passOpen.cls yX7_passOpen yX7_passOpen ∈ lw_tbl := ⟨mo_X7_passOpen, tp 118 (n := 13) (by decide +kernel)⟩
theorem mt_X7_fall : am_mt yX7_fall cX7_fall 2 (some .int) 0 := ⟨tw 980 (by decide +kernel), tw 9 (by decide +kernel), ⟨by decide +kernel, by decide +kernel⟩, by decide +kernel⟩
theorem mo_X7_fall : Cond.instanceMethod yX7_fall ∈ lw_tbl := tw 979 (by decide +kernel)
theorem mi_X7_fall : Cond.instanceMethod yX7_fall ∈ lw_tbl ∧ Cond.selects yX7_fall.cls yX7_fall yX7_fall ∈ lw_tbl := ⟨mo_X7_fall, tp 119 (n := 13) (by decide +kernel)⟩
theorem mt_X7_move : am_mt yX7_move cX7_move 1 (some .int) 0 := ⟨tw 984 (by decide +kernel), tw 9 (by decide +kernel), ⟨by decide +kernel, by decide +kernel⟩, by decide +kernel⟩
theorem mo_X7_move : Cond.instanceMethod yX7_move ∈ lw_tbl := tw 982 (by decide +kernel)
theorem mi_X7_move : Cond.instanceMethod yX7_move ∈ lw_tbl ∧ Cond.selects yX7_move.cls yX7_move yX7_move ∈ lw_tbl := ⟨mo_X7_move, tw 983 (by decide +kernel)⟩
theorem mt_X7_makeMove : am_mt yX7_makeMove cX7_makeMove 2 (some .int) 0 := ⟨tw 988 (by decide +kernel), tw 9 (by decide +kernel), ⟨by decide +kernel, by decide +kernel⟩, by decide +kernel⟩
theorem mo_X7_makeMove : Cond.instanceMethod yX7_makeMove ∈ lw_tbl := tw 987 (by decide +kernel)
theorem mi_X7_makeMove : Cond.instanceMethod yX7_makeMove ∈ lw_tbl ∧ Cond.selects yX7_makeMove.cls yX7_makeMove yX7_makeMove ∈ lw_tbl := ⟨mo_X7_makeMove, tp 120 (n := 13) (by decide +kernel)⟩
theorem mt_X7_limitOf : am_mt yX7_limitOf cX7_limitOf 4 (some .int) 1 := ⟨tw 992 (by decide +kernel), tw 9 (by decide +kernel), ⟨by decide +kernel, by decide +kernel⟩, by decide +kernel⟩
theorem mo_X7_limitOf : Cond.instanceMethod yX7_limitOf ∈ lw_tbl := tw 991 (by decide +kernel)
theorem mi_X7_limitOf : Cond.instanceMethod yX7_limitOf ∈ lw_tbl ∧ Cond.selects yX7_limitOf.cls yX7_limitOf yX7_limitOf ∈ lw_tbl := ⟨mo_X7_limitOf, tp 121 (n := 13) (by decide +kernel)⟩
theorem mt_X7_valueWith : am_mt yX7_valueWith cX7_valueWith 6 (some .int) 2 := ⟨tw 996 (by decide +kernel), tw 9 (by decide +kernel), ⟨by decide +kernel, by decide +kernel⟩, by decide +kernel⟩
theorem mo_X7_valueWith : Cond.instanceMethod yX7_valueWith ∈ lw_tbl := tw 995 (by decide +kernel)
theorem mi_X7_valueWith : Cond.instanceMethod yX7_valueWith ∈ lw_tbl ∧ Cond.selects yX7_valueWith.cls yX7_valueWith yX7_valueWith ∈ lw_tbl := ⟨mo_X7_valueWith, tp 122 (n := 13) (by decide +kernel)⟩
theorem mt_X7_ofLot : am_mt yX7_ofLot cX7_ofLot 3 (some .int) 2 := ⟨tw 1000 (by decide +kernel), tw 9 (by decide +kernel), ⟨by decide +kernel, by decide +kernel⟩, by decide +kernel⟩
theorem mo_X7_ofLot : Cond.instanceMethod yX7_ofLot ∈ lw_tbl := tw 999 (by decide +kernel)
theorem mi_X7_ofLot : Cond.instanceMethod yX7_ofLot ∈ lw_tbl ∧ Cond.selects yX7_ofLot.cls yX7_ofLot yX7_ofLot ∈ lw_tbl := ⟨mo_X7_ofLot, tp 123 (n := 13) (by decide +kernel)⟩
theorem mt_X7_moveSealed : am_mt yX7_moveSealed cX7_moveSealed 3 (some .int) 0 := ⟨tw 1004 (by decide +kernel), tw 9 (by decide +kernel), ⟨by decide +kernel, by decide +kernel⟩, by decide +kernel⟩
theorem mo_X7_moveSealed : Cond.instanceMethod yX7_moveSealed ∈ lw_tbl := tw 1003 (by decide +kernel)
theorem mi_X7_moveSealed : Cond.instanceMethod yX7_moveSealed ∈ lw_tbl ∧ Cond.selects yX7_moveSealed.cls yX7_moveSealed yX7_moveSealed ∈ lw_tbl := ⟨mo_X7_moveSealed, tp 124 (n := 13) (by decide +kernel)⟩
theorem mt_X7_sealedOf : am_mt yX7_sealedOf cX7_sealedOf 3 (some .int) 2 := ⟨tw 1008 (by decide +kernel), tw 9 (by decide +kernel), ⟨by decide +kernel, by decide +kernel⟩, by decide +kernel⟩
theorem mo_X7_sealedOf : Cond.instanceMethod yX7_sealedOf ∈ lw_tbl := tw 1007 (by decide +kernel)
theorem mi_X7_sealedOf : Cond.instanceMethod yX7_sealedOf ∈ lw_tbl ∧ Cond.selects yX7_sealedOf.cls yX7_sealedOf yX7_sealedOf ∈ lw_tbl := ⟨mo_X7_sealedOf, tp 125 (n := 13) (by decide +kernel)⟩
theorem mt_X7_moveFalling : am_mt yX7_moveFalling cX7_moveFalling 3 (some .int) 0 := ⟨tw 1012 (by decide +kernel), tw 9 (by decide +kernel), ⟨by decide +kernel, by decide +kernel⟩, by decide +kernel⟩
theorem mo_X7_moveFalling : Cond.instanceMethod yX7_moveFalling ∈ lw_tbl := tw 1011 (by decide +kernel)
theorem mi_X7_moveFalling : Cond.instanceMethod yX7_moveFalling ∈ lw_tbl ∧ Cond.selects yX7_moveFalling.cls yX7_moveFalling yX7_moveFalling ∈ lw_tbl := ⟨mo_X7_moveFalling, tp 126 (n := 13) (by decide +kernel)⟩
theorem mt_X7_last : am_mt yX7_last cX7_last 1 (some .int) 0 := ⟨tw 1016 (by decide +kernel), tw 9 (by decide +kernel), ⟨by decide +kernel, by decide +kernel⟩, by decide +kernel⟩
theorem mo_X7_last : Cond.instanceMethod yX7_last ∈ lw_tbl := tw 1014 (by decide +kernel)
theorem mi_X7_last : Cond.instanceMethod yX7_last ∈ lw_tbl ∧ Cond.selects yX7_last.cls yX7_last yX7_last ∈ lw_tbl := ⟨mo_X7_last, tw 1015 (by decide +kernel)⟩
theorem mt_X7_giveLast : am_mt yX7_giveLast cX7_giveLast 3 (some .int) 0 := ⟨tw 1020 (by decide +kernel), tw 9 (by decide +kernel), ⟨by decide +kernel, by decide +kernel⟩, by decide +kernel⟩
theorem mo_X7_giveLast : Cond.instanceMethod yX7_giveLast ∈ lw_tbl := tw 1019 (by decide +kernel)
theorem mi_X7_giveLast : Cond.instanceMethod yX7_giveLast ∈ lw_tbl ∧ Cond.selects yX7_giveLast.cls yX7_giveLast yX7_giveLast ∈ lw_tbl := ⟨mo_X7_giveLast, tp 127 (n := 13) (by decide +kernel)⟩
theorem mt_X7_ask : am_mt yX7_ask cX7_ask 3 (some .int) 2 := ⟨tw 1024 (by decide +kernel), tw 9 (by decide +kernel), ⟨by decide +kernel, by decide +kernel⟩, by decide +kernel⟩
theorem mo_X7_ask : Cond.instanceMethod yX7_ask ∈ lw_tbl := tw 1022 (by decide +kernel)
theorem mi_X7_ask : Cond.instanceMethod yX7_ask ∈ lw_tbl ∧ Cond.selects yX7_ask.cls yX7_ask yX7_ask ∈ lw_tbl := ⟨mo_X7_ask, tw 1023 (by decide +kernel)⟩
theorem mt_X7_player : am_mt yX7_player cX7_player 3 (some .int) 2 := ⟨tw 1028 (by decide +kernel), tw 9 (by decide +kernel), ⟨by decide +kernel, by decide +kernel⟩, by decide +kernel⟩
theorem mo_X7_player : Cond.instanceMethod yX7_player ∈ lw_tbl := tw 1026 (by decide +kernel)
theorem mi_X7_player : Cond.instanceMethod yX7_player ∈ lw_tbl ∧ Cond.selects yX7_player.cls yX7_player yX7_player ∈ lw_tbl := ⟨mo_X7_player, tw 1027 (by decide +kernel)⟩
theorem mt_X7_scoreOf : am_mt yX7_scoreOf cX7_scoreOf 2 (some .int) 1 := ⟨tw 1032 (by decide +kernel), tw 9 (by decide +kernel), ⟨by decide +kernel, by decide +kernel⟩, by decide +kernel⟩
theorem mo_X7_scoreOf : Cond.instanceMethod yX7_scoreOf ∈ lw_tbl := tw 1031 (by decide +kernel)
theorem mi_X7_scoreOf : Cond.instanceMethod yX7_scoreOf ∈ lw_tbl ∧ Cond.selects yX7_scoreOf.cls yX7_scoreOf yX7_scoreOf ∈ lw_tbl := ⟨mo_X7_scoreOf, tp 128 (n := 13) (by decide +kernel)⟩
theorem mt_X7_placeOf : am_mt yX7_placeOf cX7_placeOf 6 (some .int) 1 := ⟨tw 1036 (by decide +kernel), tw 9 (by decide +kernel), ⟨by decide +kernel, by decide +kernel⟩, by decide +kernel⟩
theorem mo_X7_placeOf : Cond.instanceMethod yX7_placeOf ∈ lw_tbl := tw 1035 (by decide +kernel)
theorem mi_X7_placeOf : Cond.instanceMethod yX7_placeOf ∈ lw_tbl ∧ Cond.selects yX7_placeOf.cls yX7_placeOf yX7_placeOf ∈ lw_tbl := ⟨mo_X7_placeOf, tp 129 (n := 13) (by decide +kernel)⟩
theorem mt_X7_lotsOf : am_mt yX7_lotsOf cX7_lotsOf 4 (some .int) 1 := ⟨tw 1040 (by decide +kernel), tw 9 (by decide +kernel), ⟨by decide +kernel, by decide +kernel⟩, by decide +kernel⟩
theorem mo_X7_lotsOf : Cond.instanceMethod yX7_lotsOf ∈ lw_tbl := tw 1039 (by decide +kernel)
theorem mi_X7_lotsOf : Cond.instanceMethod yX7_lotsOf ∈ lw_tbl ∧ Cond.selects yX7_lotsOf.cls yX7_lotsOf yX7_lotsOf ∈ lw_tbl := ⟨mo_X7_lotsOf, tp 130 (n := 13) (by decide +kernel)⟩
theorem mt_X7_about : am_mt yX7_about cX7_about 3 (some .int) 2 := ⟨tw 1044 (by decide +kernel), tw 9 (by decide +kernel), ⟨by decide +kernel, by decide +kernel⟩, by decide +kernel⟩
theorem mo_X7_about : Cond.instanceMethod yX7_about ∈ lw_tbl := tw 1042 (by decide +kernel)
theorem mi_X7_about : Cond.instanceMethod yX7_about ∈ lw_tbl ∧ Cond.selects yX7_about.cls yX7_about yX7_about ∈ lw_tbl := ⟨mo_X7_about, tw 1043 (by decide +kernel)⟩
theorem mt_X7_count : am_mt yX7_count cX7_count 2 (some .int) 1 := ⟨tw 1048 (by decide +kernel), tw 9 (by decide +kernel), ⟨by decide +kernel, by decide +kernel⟩, by decide +kernel⟩
theorem mo_X7_count : Cond.instanceMethod yX7_count ∈ lw_tbl := tw 1046 (by decide +kernel)
theorem mi_X7_count : Cond.instanceMethod yX7_count ∈ lw_tbl ∧ Cond.selects yX7_count.cls yX7_count yX7_count ∈ lw_tbl := ⟨mo_X7_count, tw 1047 (by decide +kernel)⟩
theorem mt_X7_ofAuction : am_mt yX7_ofAuction cX7_ofAuction 2 (some .int) 1 := ⟨tw 1052 (by decide +kernel), tw 9 (by decide +kernel), ⟨by decide +kernel, by decide +kernel⟩, by decide +kernel⟩
theorem mo_X7_ofAuction : Cond.instanceMethod yX7_ofAuction ∈ lw_tbl := tw 1051 (by decide +kernel)
theorem mi_X7_ofAuction : Cond.instanceMethod yX7_ofAuction ∈ lw_tbl ∧ Cond.selects yX7_ofAuction.cls yX7_ofAuction yX7_ofAuction ∈ lw_tbl := ⟨mo_X7_ofAuction, tp 131 (n := 13) (by decide +kernel)⟩
theorem mt_X7_shownPrice : am_mt yX7_shownPrice cX7_shownPrice 1 (some .int) 0 := ⟨tw 1056 (by decide +kernel), tw 9 (by decide +kernel), ⟨by decide +kernel, by decide +kernel⟩, by decide +kernel⟩
theorem mo_X7_shownPrice : Cond.instanceMethod yX7_shownPrice ∈ lw_tbl := tw 1055 (by decide +kernel)
theorem mi_X7_shownPrice : Cond.instanceMethod yX7_shownPrice ∈ lw_tbl ∧ Cond.selects yX7_shownPrice.cls yX7_shownPrice yX7_shownPrice ∈ lw_tbl := ⟨mo_X7_shownPrice, tp 132 (n := 13) (by decide +kernel)⟩
theorem mt_X7_sumOf : am_mt yX7_sumOf cX7_sumOf 4 (some .int) 1 := ⟨tw 1060 (by decide +kernel), tw 9 (by decide +kernel), ⟨by decide +kernel, by decide +kernel⟩, by decide +kernel⟩
theorem mo_X7_sumOf : Cond.instanceMethod yX7_sumOf ∈ lw_tbl := tw 1059 (by decide +kernel)
theorem mi_X7_sumOf : Cond.instanceMethod yX7_sumOf ∈ lw_tbl ∧ Cond.selects yX7_sumOf.cls yX7_sumOf yX7_sumOf ∈ lw_tbl := ⟨mo_X7_sumOf, tp 133 (n := 13) (by decide +kernel)⟩
theorem mt_X7_ways : am_mt yX7_ways cX7_ways 1 (some .long) 0 := ⟨tw 1064 (by decide +kernel), tw 9 (by decide +kernel), ⟨by decide +kernel, by decide +kernel⟩, by decide +kernel⟩
theorem mo_X7_ways : Cond.instanceMethod yX7_ways ∈ lw_tbl := tw 1062 (by decide +kernel)
theorem mi_X7_ways : Cond.instanceMethod yX7_ways ∈ lw_tbl ∧ Cond.selects yX7_ways.cls yX7_ways yX7_ways ∈ lw_tbl := ⟨mo_X7_ways, tw 1063 (by decide +kernel)⟩
theorem mt_X7_layWays : am_mt yX7_layWays cX7_layWays 3 none 1 := ⟨tw 1068 (by decide +kernel), tw 9 (by decide +kernel), ⟨by decide +kernel, by decide +kernel⟩, by decide +kernel⟩
theorem mo_X7_layWays : Cond.instanceMethod yX7_layWays ∈ lw_tbl := tw 1067 (by decide +kernel)
theorem mi_X7_layWays : Cond.instanceMethod yX7_layWays ∈ lw_tbl ∧ Cond.selects yX7_layWays.cls yX7_layWays yX7_layWays ∈ lw_tbl := ⟨mo_X7_layWays, tp 134 (n := 13) (by decide +kernel)⟩
theorem mt_X7_addPurse : am_mt yX7_addPurse cX7_addPurse 6 none 2 := ⟨tw 1072 (by decide +kernel), tw 9 (by decide +kernel), ⟨by decide +kernel, by decide +kernel⟩, by decide +kernel⟩
theorem mo_X7_addPurse : Cond.instanceMethod yX7_addPurse ∈ lw_tbl := tw 1071 (by decide +kernel)
theorem mi_X7_addPurse : Cond.instanceMethod yX7_addPurse ∈ lw_tbl ∧ Cond.selects yX7_addPurse.cls yX7_addPurse yX7_addPurse ∈ lw_tbl := ⟨mo_X7_addPurse, tp 135 (n := 13) (by decide +kernel)⟩
theorem mt_X7_known : am_mt yX7_known cX7_known 3 (some .int) 2 := ⟨tw 1076 (by decide +kernel), tw 9 (by decide +kernel), ⟨by decide +kernel, by decide +kernel⟩, by decide +kernel⟩
theorem mo_X7_known : Cond.instanceMethod yX7_known ∈ lw_tbl := tw 1074 (by decide +kernel)
theorem mi_X7_known : Cond.instanceMethod yX7_known ∈ lw_tbl ∧ Cond.selects yX7_known.cls yX7_known yX7_known ∈ lw_tbl := ⟨mo_X7_known, tw 1075 (by decide +kernel)⟩
theorem mt_X7_extreme : am_mt yX7_extreme cX7_extreme 5 (some .int) 2 := ⟨tw 1080 (by decide +kernel), tw 9 (by decide +kernel), ⟨by decide +kernel, by decide +kernel⟩, by decide +kernel⟩
theorem mo_X7_extreme : Cond.instanceMethod yX7_extreme ∈ lw_tbl := tw 1079 (by decide +kernel)
theorem mi_X7_extreme : Cond.instanceMethod yX7_extreme ∈ lw_tbl ∧ Cond.selects yX7_extreme.cls yX7_extreme yX7_extreme ∈ lw_tbl := ⟨mo_X7_extreme, tp 136 (n := 13) (by decide +kernel)⟩
theorem mt_X7_average : am_mt yX7_average cX7_average 8 (some .int) 1 := ⟨tw 1084 (by decide +kernel), tw 9 (by decide +kernel), ⟨by decide +kernel, by decide +kernel⟩, by decide +kernel⟩
theorem mo_X7_average : Cond.instanceMethod yX7_average ∈ lw_tbl := tw 1083 (by decide +kernel)
theorem mi_X7_average : Cond.instanceMethod yX7_average ∈ lw_tbl ∧ Cond.selects yX7_average.cls yX7_average yX7_average ∈ lw_tbl := ⟨mo_X7_average, tp 137 (n := 13) (by decide +kernel)⟩
theorem mt_X7_canPay : am_mt yX7_canPay cX7_canPay 7 (some .long) 2 := ⟨tw 1088 (by decide +kernel), tw 9 (by decide +kernel), ⟨by decide +kernel, by decide +kernel⟩, by decide +kernel⟩
theorem mo_X7_canPay : Cond.instanceMethod yX7_canPay ∈ lw_tbl := tw 1086 (by decide +kernel)
theorem mi_X7_canPay : Cond.instanceMethod yX7_canPay ∈ lw_tbl ∧ Cond.selects yX7_canPay.cls yX7_canPay yX7_canPay ∈ lw_tbl := ⟨mo_X7_canPay, tw 1087 (by decide +kernel)⟩
theorem mt_X7_forecast : am_mt yX7_forecast cX7_forecast 4 (some .int) 3 := ⟨tw 1094 (by decide +kernel), tw 9 (by decide +kernel), ⟨by decide +kernel, by decide +kernel⟩, by decide +kernel⟩
theorem mo_X7_forecast : Cond.instanceMethod yX7_forecast ∈ lw_tbl := tw 1092 (by decide +kernel)
theorem mi_X7_forecast : Cond.instanceMethod yX7_forecast ∈ lw_tbl ∧ Cond.selects yX7_forecast.cls yX7_forecast yX7_forecast ∈ lw_tbl := ⟨mo_X7_forecast, tw 1093 (by decide +kernel)⟩
theorem mt_X7_scoreAtEnd : am_mt yX7_scoreAtEnd cX7_scoreAtEnd 5 (some .int) 3 := ⟨tw 1098 (by decide +kernel), tw 9 (by decide +kernel), ⟨by decide +kernel, by decide +kernel⟩, by decide +kernel⟩
theorem mo_X7_scoreAtEnd : Cond.instanceMethod yX7_scoreAtEnd ∈ lw_tbl := tw 1097 (by decide +kernel)
theorem mi_X7_scoreAtEnd : Cond.instanceMethod yX7_scoreAtEnd ∈ lw_tbl ∧ Cond.selects yX7_scoreAtEnd.cls yX7_scoreAtEnd yX7_scoreAtEnd ∈ lw_tbl := ⟨mo_X7_scoreAtEnd, tp 138 (n := 13) (by decide +kernel)⟩
theorem mt_X7_putAside : am_mt yX7_putAside cX7_putAside 2 none 0 := ⟨tw 1102 (by decide +kernel), tw 9 (by decide +kernel), ⟨by decide +kernel, by decide +kernel⟩, by decide +kernel⟩
theorem mo_X7_putAside : Cond.instanceMethod yX7_putAside ∈ lw_tbl := tw 1101 (by decide +kernel)
theorem mi_X7_putAside : Cond.instanceMethod yX7_putAside ∈ lw_tbl ∧ Cond.selects yX7_putAside.cls yX7_putAside yX7_putAside ∈ lw_tbl := ⟨mo_X7_putAside, tp 139 (n := 13) (by decide +kernel)⟩
theorem mt_X7_putBack : am_mt yX7_putBack cX7_putBack 2 none 0 := ⟨tw 1106 (by decide +kernel), tw 9 (by decide +kernel), ⟨by decide +kernel, by decide +kernel⟩, by decide +kernel⟩
theorem mo_X7_putBack : Cond.instanceMethod yX7_putBack ∈ lw_tbl := tw 1105 (by decide +kernel)
theorem mi_X7_putBack : Cond.instanceMethod yX7_putBack ∈ lw_tbl ∧ Cond.selects yX7_putBack.cls yX7_putBack yX7_putBack ∈ lw_tbl := ⟨mo_X7_putBack, tp 140 (n := 13) (by decide +kernel)⟩
theorem mt_X7_bestMode : am_mt yX7_bestMode cX7_bestMode 7 (some .int) 2 := ⟨tw 1110 (by decide +kernel), tw 9 (by decide +kernel), ⟨by decide +kernel, by decide +kernel⟩, by decide +kernel⟩
theorem mo_X7_bestMode : Cond.instanceMethod yX7_bestMode ∈ lw_tbl := tw 1108 (by decide +kernel)
theorem mi_X7_bestMode : Cond.instanceMethod yX7_bestMode ∈ lw_tbl ∧ Cond.selects yX7_bestMode.cls yX7_bestMode yX7_bestMode ∈ lw_tbl := ⟨mo_X7_bestMode, tw 1109 (by decide +kernel)⟩
theorem mt_X7_leastBid : am_mt yX7_leastBid cX7_leastBid 6 (some .int) 2 := ⟨tw 1114 (by decide +kernel), tw 9 (by decide +kernel), ⟨by decide +kernel, by decide +kernel⟩, by decide +kernel⟩
theorem mo_X7_leastBid : Cond.instanceMethod yX7_leastBid ∈ lw_tbl := tw 1112 (by decide +kernel)
theorem mi_X7_leastBid : Cond.instanceMethod yX7_leastBid ∈ lw_tbl ∧ Cond.selects yX7_leastBid.cls yX7_leastBid yX7_leastBid ∈ lw_tbl := ⟨mo_X7_leastBid, tw 1113 (by decide +kernel)⟩
theorem mt_X7_put : am_mt yX7_put cX7_put 7 (some .int) 1 := ⟨tw 1118 (by decide +kernel), tw 9 (by decide +kernel), ⟨by decide +kernel, by decide +kernel⟩, by decide +kernel⟩
theorem mo_X7_put : Cond.instanceMethod yX7_put ∈ lw_tbl := tw 1116 (by decide +kernel)
theorem mi_X7_put : Cond.instanceMethod yX7_put ∈ lw_tbl ∧ Cond.selects yX7_put.cls yX7_put yX7_put ∈ lw_tbl := ⟨mo_X7_put, tw 1117 (by decide +kernel)⟩
theorem mt_X7_wipe : am_mt yX7_wipe cX7_wipe 2 (some .int) 0 := ⟨tw 1123 (by decide +kernel), tw 9 (by decide +kernel), ⟨by decide +kernel, by decide +kernel⟩, by decide +kernel⟩
theorem mo_X7_wipe : Cond.instanceMethod yX7_wipe ∈ lw_tbl := tw 1121 (by decide +kernel)
theorem mi_X7_wipe : Cond.instanceMethod yX7_wipe ∈ lw_tbl ∧ Cond.selects yX7_wipe.cls yX7_wipe yX7_wipe ∈ lw_tbl := ⟨mo_X7_wipe, tw 1122 (by decide +kernel)⟩
theorem mt_X7_fault : am_mt yX7_fault cX7_fault 1 (some .int) 0 := ⟨tw 1127 (by decide +kernel), tw 9 (by decide +kernel), ⟨by decide +kernel, by decide +kernel⟩, by decide +kernel⟩
theorem mo_X7_fault : Cond.instanceMethod yX7_fault ∈ lw_tbl := tw 1125 (by decide +kernel)
theorem mi_X7_fault : Cond.instanceMethod yX7_fault ∈ lw_tbl ∧ Cond.selects yX7_fault.cls yX7_fault yX7_fault ∈ lw_tbl := ⟨mo_X7_fault, tw 1126 (by decide +kernel)⟩
theorem mt_X7_takeAct : am_mt yX7_takeAct cX7_takeAct 3 none 0 := ⟨tw 1131 (by decide +kernel), tw 9 (by decide +kernel), ⟨by decide +kernel, by decide +kernel⟩, by decide +kernel⟩
theorem mo_X7_takeAct : Cond.instanceMethod yX7_takeAct ∈ lw_tbl := tw 1130 (by decide +kernel)
theorem mi_X7_takeAct : Cond.instanceMethod yX7_takeAct ∈ lw_tbl ∧ Cond.selects yX7_takeAct.cls yX7_takeAct yX7_takeAct ∈ lw_tbl := ⟨mo_X7_takeAct, tp 141 (n := 13) (by decide +kernel)⟩
theorem mt_X7_next : am_mt yX7_next cX7_next 1 (some .int) 0 := ⟨tw 1135 (by decide +kernel), tw 9 (by decide +kernel), ⟨by decide +kernel, by decide +kernel⟩, by decide +kernel⟩
theorem mo_X7_next : Cond.instanceMethod yX7_next ∈ lw_tbl := tw 1134 (by decide +kernel)
theorem mi_X7_next : Cond.instanceMethod yX7_next ∈ lw_tbl ∧ Cond.selects yX7_next.cls yX7_next yX7_next ∈ lw_tbl := ⟨mo_X7_next, tp 142 (n := 13) (by decide +kernel)⟩
theorem mt_X7_takeNumber : am_mt yX7_takeNumber cX7_takeNumber 4 (some .int) 2 := ⟨tw 1139 (by decide +kernel), tw 9 (by decide +kernel), ⟨by decide +kernel, by decide +kernel⟩, by decide +kernel⟩
theorem mo_X7_takeNumber : Cond.instanceMethod yX7_takeNumber ∈ lw_tbl := tw 1138 (by decide +kernel)
theorem mi_X7_takeNumber : Cond.instanceMethod yX7_takeNumber ∈ lw_tbl ∧ Cond.selects yX7_takeNumber.cls yX7_takeNumber yX7_takeNumber ∈ lw_tbl := ⟨mo_X7_takeNumber, tp 143 (n := 13) (by decide +kernel)⟩
theorem mt_X7_need : am_mt yX7_need cX7_need 2 none 1 := ⟨tw 1143 (by decide +kernel), tw 9 (by decide +kernel), ⟨by decide +kernel, by decide +kernel⟩, by decide +kernel⟩
theorem mo_X7_need : Cond.instanceMethod yX7_need ∈ lw_tbl := tw 1142 (by decide +kernel)
theorem mi_X7_need : Cond.instanceMethod yX7_need ∈ lw_tbl ∧ Cond.selects yX7_need.cls yX7_need yX7_need ∈ lw_tbl := ⟨mo_X7_need, tp 144 (n := 13) (by decide +kernel)⟩
theorem mt_X7_carryOut : am_mt yX7_carryOut cX7_carryOut 4 (some .int) 0 := ⟨tw 1147 (by decide +kernel), tw 9 (by decide +kernel), ⟨by decide +kernel, by decide +kernel⟩, by decide +kernel⟩
theorem mo_X7_carryOut : Cond.instanceMethod yX7_carryOut ∈ lw_tbl := tw 1145 (by decide +kernel)
theorem mi_X7_carryOut : Cond.instanceMethod yX7_carryOut ∈ lw_tbl ∧ Cond.selects yX7_carryOut.cls yX7_carryOut yX7_carryOut ∈ lw_tbl := ⟨mo_X7_carryOut, tw 1146 (by decide +kernel)⟩
theorem mt_X7_does : am_mt yX7_does cX7_does 2 (some .int) 1 := ⟨tw 1152 (by decide +kernel), tw 9 (by decide +kernel), ⟨by decide +kernel, by decide +kernel⟩, by decide +kernel⟩
theorem mo_X7_does : Cond.instanceMethod yX7_does ∈ lw_tbl := tw 1151 (by decide +kernel)
theorem mi_X7_does : Cond.instanceMethod yX7_does ∈ lw_tbl ∧ Cond.selects yX7_does.cls yX7_does yX7_does ∈ lw_tbl := ⟨mo_X7_does, tp 145 (n := 13) (by decide +kernel)⟩
theorem mt_X7_save : am_mt yX7_save cX7_save 3 (some .int) 1 := ⟨tw 1161 (by decide +kernel), tw 9 (by decide +kernel), ⟨by decide +kernel, by decide +kernel⟩, by decide +kernel⟩
theorem mo_X7_save : Cond.instanceMethod yX7_save ∈ lw_tbl := tw 1159 (by decide +kernel)
theorem mi_X7_save : Cond.instanceMethod yX7_save ∈ lw_tbl ∧ Cond.selects yX7_save.cls yX7_save yX7_save ∈ lw_tbl := ⟨mo_X7_save, tw 1160 (by decide +kernel)⟩
theorem mt_X7_restore : am_mt yX7_restore cX7_restore 3 (some .int) 1 := ⟨tw 1165 (by decide +kernel), tw 9 (by decide +kernel), ⟨by decide +kernel, by decide +kernel⟩, by decide +kernel⟩
theorem mo_X7_restore : Cond.instanceMethod yX7_restore ∈ lw_tbl := tw 1163 (by decide +kernel)
theorem mi_X7_restore : Cond.instanceMethod yX7_restore ∈ lw_tbl ∧ Cond.selects yX7_restore.cls yX7_restore yX7_restore ∈ lw_tbl := ⟨mo_X7_restore, tw 1164 (by decide +kernel)⟩
theorem lk_L_9 : am_lk RL 9 yX6_init := Or.inl (tw 14 (by decide +kernel))
theorem lk_X6_9 : am_lk RX6 9 yX1_init := Or.inr ⟨"PurseAuction", tw 22 (by decide +kernel)⟩
theorem lk_X1_25 : am_lk RX1 25 yX4_init := Or.inr ⟨"PurseAuction", tw 37 (by decide +kernel)⟩
theorem lk_X1_32 : am_lk RX1 32 yX2_init := Or.inr ⟨"PurseAuction", tw 66 (by decide +kernel)⟩
theorem lk_X1_39 : am_lk RX1 39 yX0_init := Or.inr ⟨"PurseAuction", tw 94 (by decide +kernel)⟩
theorem lk_X0_15 : am_lk RX0 15 yX0_clear := Or.inl (tw 98 (by decide +kernel))
theorem lk_X6_25 : am_lk RX6 25 yX5_init := Or.inr ⟨"PurseAuction", tw 161 (by decide +kernel)⟩
theorem lk_X6_32 : am_lk RX6 32 yX3_init := Or.inr ⟨"PurseAuction", tw 175 (by decide +kernel)⟩
theorem lk_X6_37 : am_lk RX6 37 yX1_startAnew := Or.inr ⟨"PurseAuction", tw 203 (by decide +kernel)⟩
theorem lk_X1_44 : am_lk RX1 44 yX1_settingOf := Or.inl (tw 207 (by decide +kernel))
theorem lk_X1_48 : am_lk RX1 48 yX4_startAnew := Or.inr ⟨"PurseAuction", tw 211 (by decide +kernel)⟩
theorem lk_X1_52 : am_lk RX1 52 yX2_clear := Or.inr ⟨"PurseAuction", tw 218 (by decide +kernel)⟩
theorem lk_X1_55 : am_lk RX1 55 yX0_clear := Or.inr ⟨"PurseAuction", tw 222 (by decide +kernel)⟩
theorem lk_L_13 : am_lk RL 13 yX6_setUp := Or.inl (tw 239 (by decide +kernel))
theorem lk_X6_41 : am_lk RX6 41 yX6_within := Or.inl (tw 243 (by decide +kernel))
theorem lk_L_18 : am_lk RL 18 yX6_set := Or.inl (tw 246 (by decide +kernel))
theorem lk_X6_55 : am_lk RX6 55 yX6_isSettingValue := Or.inl (tw 250 (by decide +kernel))
theorem lk_X6_166 : am_lk RX6 166 yX6_isSetting := Or.inl (tw 253 (by decide +kernel))
theorem lk_X6_63 : am_lk RX6 63 yX0_goesOn := Or.inr ⟨"PurseAuction", tw 260 (by decide +kernel)⟩
theorem lk_X6_69 : am_lk RX6 69 yX1_changeSetting := Or.inr ⟨"PurseAuction", tw 264 (by decide +kernel)⟩
theorem lk_X1_70 : am_lk RX1 70 yX6_isSetting := Or.inr ⟨"PurseAuction", tw 268 (by decide +kernel)⟩
theorem lk_L_23 : am_lk RL 23 yX6_fill := Or.inl (tw 269 (by decide +kernel))
theorem lk_X6_73 : am_lk RX6 73 yX4_hasSeat := Or.inr ⟨"PurseAuction", tw 273 (by decide +kernel)⟩
theorem lk_X6_77 : am_lk RX6 77 yX1_isUnopened := Or.inr ⟨"PurseAuction", tw 277 (by decide +kernel)⟩
theorem lk_X1_78 : am_lk RX1 78 yX0_goesOn := Or.inr ⟨"PurseAuction", tw 281 (by decide +kernel)⟩
theorem lk_X6_80 : am_lk RX6 80 yX4_fillAnew := Or.inr ⟨"PurseAuction", tw 282 (by decide +kernel)⟩
theorem lk_X4_41 : am_lk RX4 41 yX4_hasSeat := Or.inl (tw 286 (by decide +kernel))
theorem lk_L_27 : am_lk RL 27 yX6_embolden := Or.inl (tw 287 (by decide +kernel))
theorem lk_X6_83 : am_lk RX6 83 yX4_changeBoldness := Or.inr ⟨"PurseAuction", tw 291 (by decide +kernel)⟩
theorem lk_L_31 : am_lk RL 31 yX6_lot := Or.inl (tw 295 (by decide +kernel))
theorem lk_X6_90 : am_lk RX6 90 yX2_areFull := Or.inr ⟨"PurseAuction", tw 299 (by decide +kernel)⟩
theorem lk_X6_95 : am_lk RX6 95 yX2_add := Or.inr ⟨"PurseAuction", tw 303 (by decide +kernel)⟩
theorem lk_X2_35 : am_lk RX2 35 yX2_areFull := Or.inl (tw 307 (by decide +kernel))
theorem lk_L_35 : am_lk RL 35 yX6_begin := Or.inl (tw 308 (by decide +kernel))
theorem lk_X6_98 : am_lk RX6 98 yX1_startAuction := Or.inr ⟨"PurseAuction", tw 312 (by decide +kernel)⟩
theorem lk_X1_85 : am_lk RX1 85 yX6_isMode := Or.inr ⟨"PurseAuction", tw 316 (by decide +kernel)⟩
theorem lk_X1_88 : am_lk RX1 88 yX6_isReserve := Or.inr ⟨"PurseAuction", tw 319 (by decide +kernel)⟩
theorem lk_X1_91 : am_lk RX1 91 yX2_nextIsForSale := Or.inr ⟨"PurseAuction", tw 322 (by decide +kernel)⟩
theorem lk_X1_94 : am_lk RX1 94 yX1_starter := Or.inl (tw 326 (by decide +kernel))
theorem lk_X1_98 : am_lk RX1 98 yX0_start := Or.inr ⟨"PurseAuction", tw 330 (by decide +kernel)⟩
theorem lk_X1_102 : am_lk RX1 102 yX2_next := Or.inr ⟨"PurseAuction", tw 334 (by decide +kernel)⟩
theorem lk_L_39 : am_lk RL 39 yX6_bid := Or.inl (tw 338 (by decide +kernel))
theorem lk_X6_101 : am_lk RX6 101 yX1_takeBid := Or.inr ⟨"PurseAuction", tw 342 (by decide +kernel)⟩
theorem lk_X1_105 : am_lk RX1 105 yX4_hasSeat := Or.inr ⟨"PurseAuction", tw 346 (by decide +kernel)⟩
theorem lk_X1_111 : am_lk RX1 111 yX1_raise := Or.inl (tw 347 (by decide +kernel))
theorem lk_X1_145 : am_lk RX1 145 yX1_leastRaise := Or.inl (tw 351 (by decide +kernel))
theorem lk_X1_180 : am_lk RX1 180 yX4_amountOf := Or.inr ⟨"PurseAuction", tw 355 (by decide +kernel)⟩
theorem lk_X1_183 : am_lk RX1 183 yX6_within := Or.inr ⟨"PurseAuction", tw 359 (by decide +kernel)⟩
theorem lk_X1_187 : am_lk RX1 187 yX0_noteBid := Or.inr ⟨"PurseAuction", tw 360 (by decide +kernel)⟩
theorem lk_X0_47 : am_lk RX0 47 yX6_within := Or.inr ⟨"PurseAuction", tw 364 (by decide +kernel)⟩
theorem lk_X1_190 : am_lk RX1 190 yX4_learnAtLeast := Or.inr ⟨"PurseAuction", tw 365 (by decide +kernel)⟩
theorem lk_X1_193 : am_lk RX1 193 yX1_turnBehind := Or.inl (tw 369 (by decide +kernel))
theorem lk_X1_203 : am_lk RX1 203 yX1_nextToAct := Or.inl (tw 373 (by decide +kernel))
theorem lk_X1_165 : am_lk RX1 165 yX4_seatBehind := Or.inr ⟨"PurseAuction", tw 377 (by decide +kernel)⟩
theorem lk_X1_206 : am_lk RX1 206 yX0_isOut := Or.inr ⟨"PurseAuction", tw 381 (by decide +kernel)⟩
theorem lk_X1_115 : am_lk RX1 115 yX1_handIn := Or.inl (tw 385 (by decide +kernel))
theorem lk_X1_209 : am_lk RX1 209 yX0_bidOf := Or.inr ⟨"PurseAuction", tw 389 (by decide +kernel)⟩
theorem lk_X1_212 : am_lk RX1 212 yX1_openBids := Or.inl (tw 393 (by decide +kernel))
theorem lk_X1_118 : am_lk RX1 118 yX1_claim := Or.inl (tw 397 (by decide +kernel))
theorem lk_X1_121 : am_lk RX1 121 yX1_settle := Or.inl (tw 401 (by decide +kernel))
theorem lk_X1_154 : am_lk RX1 154 yX1_collect := Or.inl (tw 405 (by decide +kernel))
theorem lk_X1_160 : am_lk RX1 160 yJ6_bitCount_0f7a4 := Or.inl (tw 409 (by decide +kernel))
theorem lk_X1_168 : am_lk RX1 168 yX4_takeFrom := Or.inr ⟨"PurseAuction", tw 415 (by decide +kernel)⟩
theorem lk_X1_157 : am_lk RX1 157 yX2_close := Or.inr ⟨"PurseAuction", tw 422 (by decide +kernel)⟩
theorem lk_L_43 : am_lk RL 43 yX6_pass := Or.inl (tw 426 (by decide +kernel))
theorem lk_X6_104 : am_lk RX6 104 yX1_takePass := Or.inr ⟨"PurseAuction", tw 430 (by decide +kernel)⟩
theorem lk_X1_124 : am_lk RX1 124 yX1_stepOut := Or.inl (tw 434 (by decide +kernel))
theorem lk_X1_197 : am_lk RX1 197 yX0_noteOut := Or.inr ⟨"PurseAuction", tw 438 (by decide +kernel)⟩
theorem lk_X1_127 : am_lk RX1 127 yX1_letFall := Or.inl (tw 442 (by decide +kernel))
theorem lk_L_47 : am_lk RL 47 yX6_move := Or.inl (tw 446 (by decide +kernel))
theorem lk_X6_108 : am_lk RX6 108 yX1_moveAlone := Or.inr ⟨"PurseAuction", tw 450 (by decide +kernel)⟩
theorem lk_X1_130 : am_lk RX1 130 yX1_claimAlone := Or.inl (tw 454 (by decide +kernel))
theorem lk_X1_139 : am_lk RX1 139 yX1_limitOf := Or.inl (tw 458 (by decide +kernel))
theorem lk_X1_215 : am_lk RX1 215 yX2_gainFor := Or.inr ⟨"PurseAuction", tw 462 (by decide +kernel)⟩
theorem lk_X2_39 : am_lk RX2 39 yX2_hasLot := Or.inl (tw 466 (by decide +kernel))
theorem lk_X2_58 : am_lk RX2 58 yJ6_bitCount_0f7a4 := Or.inl (tw 470 (by decide +kernel))
theorem lk_X1_219 : am_lk RX1 219 yX4_boldnessOf := Or.inr ⟨"PurseAuction", tw 471 (by decide +kernel)⟩
theorem lk_X1_136 : am_lk RX1 136 yX1_firstWithoutBid := Or.inl (tw 476 (by decide +kernel))
theorem lk_L_52 : am_lk RL 52 yX6_last := Or.inl (tw 480 (by decide +kernel))
theorem lk_X6_112 : am_lk RX6 112 yX1_giveLast := Or.inr ⟨"PurseAuction", tw 484 (by decide +kernel)⟩
theorem lk_X1_171 : am_lk RX1 171 yX2_nextIsLast := Or.inr ⟨"PurseAuction", tw 488 (by decide +kernel)⟩
theorem lk_X1_174 : am_lk RX1 174 yX4_poorest := Or.inr ⟨"PurseAuction", tw 492 (by decide +kernel)⟩
theorem lk_X4_62 : am_lk RX4 62 yX4_seatBehind := Or.inl (tw 496 (by decide +kernel))
theorem lk_X4_45 : am_lk RX4 45 yX4_amountOf := Or.inl (tw 497 (by decide +kernel))
theorem lk_L_56 : am_lk RL 56 yX6_ask := Or.inl (tw 498 (by decide +kernel))
theorem lk_X6_115 : am_lk RX6 115 yX4_question := Or.inr ⟨"PurseAuction", tw 502 (by decide +kernel)⟩
theorem lk_X4_49 : am_lk RX4 49 yX4_learnAtLeast := Or.inl (tw 506 (by decide +kernel))
theorem lk_X4_53 : am_lk RX4 53 yX4_learnAtMost := Or.inl (tw 507 (by decide +kernel))
theorem lk_L_60 : am_lk RL 60 yX6_player := Or.inl (tw 511 (by decide +kernel))
theorem lk_X6_118 : am_lk RX6 118 yX4_amountOf := Or.inr ⟨"PurseAuction", tw 515 (by decide +kernel)⟩
theorem lk_X6_121 : am_lk RX6 121 yX4_boldnessOf := Or.inr ⟨"PurseAuction", tw 516 (by decide +kernel)⟩
theorem lk_X6_124 : am_lk RX6 124 yX4_paidBy := Or.inr ⟨"PurseAuction", tw 517 (by decide +kernel)⟩
theorem lk_X6_127 : am_lk RX6 127 yX1_valueOf := Or.inr ⟨"PurseAuction", tw 521 (by decide +kernel)⟩
theorem lk_X1_230 : am_lk RX1 230 yX2_valueFor := Or.inr ⟨"PurseAuction", tw 525 (by decide +kernel)⟩
theorem lk_X2_47 : am_lk RX2 47 yX2_owns := Or.inl (tw 529 (by decide +kernel))
theorem lk_X2_51 : am_lk RX2 51 yX2_shareOf := Or.inl (tw 533 (by decide +kernel))
theorem lk_X2_54 : am_lk RX2 54 yX2_ownedOfColour := Or.inl (tw 537 (by decide +kernel))
theorem lk_X6_130 : am_lk RX6 130 yX1_scoreOf := Or.inr ⟨"PurseAuction", tw 541 (by decide +kernel)⟩
theorem lk_X1_233 : am_lk RX1 233 yX1_valueOf := Or.inl (tw 545 (by decide +kernel))
theorem lk_X6_133 : am_lk RX6 133 yX1_placeOf := Or.inr ⟨"PurseAuction", tw 546 (by decide +kernel)⟩
theorem lk_X1_236 : am_lk RX1 236 yX1_scoreOf := Or.inl (tw 550 (by decide +kernel))
theorem lk_X6_136 : am_lk RX6 136 yX2_ownedBy := Or.inr ⟨"PurseAuction", tw 551 (by decide +kernel)⟩
theorem lk_X6_139 : am_lk RX6 139 yX1_limitOf := Or.inr ⟨"PurseAuction", tw 555 (by decide +kernel)⟩
theorem lk_X6_142 : am_lk RX6 142 yX0_bidOf := Or.inr ⟨"PurseAuction", tw 556 (by decide +kernel)⟩
theorem lk_X6_145 : am_lk RX6 145 yX0_isOut := Or.inr ⟨"PurseAuction", tw 557 (by decide +kernel)⟩
theorem lk_L_64 : am_lk RL 64 yX6_about := Or.inl (tw 558 (by decide +kernel))
theorem lk_X6_148 : am_lk RX6 148 yX2_hasLot := Or.inr ⟨"PurseAuction", tw 562 (by decide +kernel)⟩
theorem lk_X6_151 : am_lk RX6 151 yX2_colourOf := Or.inr ⟨"PurseAuction", tw 563 (by decide +kernel)⟩
theorem lk_X6_154 : am_lk RX6 154 yX2_worthOf := Or.inr ⟨"PurseAuction", tw 567 (by decide +kernel)⟩
theorem lk_X6_157 : am_lk RX6 157 yX2_ownersOf := Or.inr ⟨"PurseAuction", tw 571 (by decide +kernel)⟩
theorem lk_X6_160 : am_lk RX6 160 yX2_priceOf := Or.inr ⟨"PurseAuction", tw 575 (by decide +kernel)⟩
theorem lk_X6_163 : am_lk RX6 163 yX2_stateOf := Or.inr ⟨"PurseAuction", tw 579 (by decide +kernel)⟩
theorem lk_X2_43 : am_lk RX2 43 yX2_ownersOf := Or.inl (tw 583 (by decide +kernel))
theorem lk_L_68 : am_lk RL 68 yX6_count := Or.inl (tw 584 (by decide +kernel))
theorem lk_X6_169 : am_lk RX6 169 yX1_settingOf := Or.inr ⟨"PurseAuction", tw 588 (by decide +kernel)⟩
theorem lk_X6_175 : am_lk RX6 175 yX2_next := Or.inr ⟨"PurseAuction", tw 589 (by decide +kernel)⟩
theorem lk_X6_178 : am_lk RX6 178 yX1_starter := Or.inr ⟨"PurseAuction", tw 590 (by decide +kernel)⟩
theorem lk_X6_196 : am_lk RX6 196 yX4_sum := Or.inr ⟨"PurseAuction", tw 591 (by decide +kernel)⟩
theorem lk_X6_199 : am_lk RX6 199 yX4_paidByAll := Or.inr ⟨"PurseAuction", tw 595 (by decide +kernel)⟩
theorem lk_X4_59 : am_lk RX4 59 yX4_paidBy := Or.inl (tw 599 (by decide +kernel))
theorem lk_L_72 : am_lk RL 72 yX6_known := Or.inl (tw 600 (by decide +kernel))
theorem lk_X6_205 : am_lk RX6 205 yX4_leastOf := Or.inr ⟨"PurseAuction", tw 604 (by decide +kernel)⟩
theorem lk_X6_208 : am_lk RX6 208 yX4_greatestOf := Or.inr ⟨"PurseAuction", tw 608 (by decide +kernel)⟩
theorem lk_X6_211 : am_lk RX6 211 yX5_leastIn := Or.inr ⟨"PurseAuction", tw 612 (by decide +kernel)⟩
theorem lk_X5_18 : am_lk RX5 18 yX5_takeInOthers := Or.inl (tw 616 (by decide +kernel))
theorem lk_X5_28 : am_lk RX5 28 yX4_leastOf := Or.inr ⟨"PurseAuction", tw 620 (by decide +kernel)⟩
theorem lk_X5_32 : am_lk RX5 32 yX4_greatestOf := Or.inr ⟨"PurseAuction", tw 621 (by decide +kernel)⟩
theorem lk_X5_49 : am_lk RX5 49 yX5_takeIn := Or.inl (tw 622 (by decide +kernel))
theorem lk_X5_53 : am_lk RX5 53 yX5_waysUpTo := Or.inl (tw 626 (by decide +kernel))
theorem lk_X5_56 : am_lk RX5 56 yX6_within := Or.inr ⟨"PurseAuction", tw 630 (by decide +kernel)⟩
theorem lk_X5_22 : am_lk RX5 22 yX4_sum := Or.inr ⟨"PurseAuction", tw 631 (by decide +kernel)⟩
theorem lk_X5_35 : am_lk RX5 35 yX5_waysOf := Or.inl (tw 632 (by decide +kernel))
theorem lk_X6_215 : am_lk RX6 215 yX5_greatestIn := Or.inr ⟨"PurseAuction", tw 636 (by decide +kernel)⟩
theorem lk_X6_218 : am_lk RX6 218 yX5_averageIn := Or.inr ⟨"PurseAuction", tw 640 (by decide +kernel)⟩
theorem lk_L_76 : am_lk RL 76 yX6_ways := Or.inl (tw 644 (by decide +kernel))
theorem lk_X6_221 : am_lk RX6 221 yX5_waysWith := Or.inr ⟨"PurseAuction", tw 648 (by decide +kernel)⟩
theorem lk_L_81 : am_lk RL 81 yX6_canPay := Or.inl (tw 653 (by decide +kernel))
theorem lk_L_86 : am_lk RL 86 yX6_forecast := Or.inl (tw 659 (by decide +kernel))
theorem lk_X6_229 : am_lk RX6 229 yX6_isMode := Or.inl (tw 663 (by decide +kernel))
theorem lk_X6_232 : am_lk RX6 232 yX6_isReserve := Or.inl (tw 664 (by decide +kernel))
theorem lk_X6_235 : am_lk RX6 235 yX1_takeOver := Or.inr ⟨"PurseAuction", tw 665 (by decide +kernel)⟩
theorem lk_X1_56 : am_lk RX1 56 yX6_copyRow := Or.inr ⟨"PurseAuction", tw 669 (by decide +kernel)⟩
theorem lk_X1_60 : am_lk RX1 60 yX4_takeOver := Or.inr ⟨"PurseAuction", tw 676 (by decide +kernel)⟩
theorem lk_X4_37 : am_lk RX4 37 yX6_copyRow := Or.inr ⟨"PurseAuction", tw 680 (by decide +kernel)⟩
theorem lk_X1_64 : am_lk RX1 64 yX2_takeOver := Or.inr ⟨"PurseAuction", tw 681 (by decide +kernel)⟩
theorem lk_X2_31 : am_lk RX2 31 yX6_copyRow := Or.inr ⟨"PurseAuction", tw 685 (by decide +kernel)⟩
theorem lk_X1_67 : am_lk RX1 67 yX0_takeOver := Or.inr ⟨"PurseAuction", tw 686 (by decide +kernel)⟩
theorem lk_X0_43 : am_lk RX0 43 yX6_copyRow := Or.inr ⟨"PurseAuction", tw 690 (by decide +kernel)⟩
theorem lk_X6_240 : am_lk RX6 240 yX2_nextIsForSale := Or.inr ⟨"PurseAuction", tw 692 (by decide +kernel)⟩
theorem lk_L_91 : am_lk RL 91 yX6_bestMode := Or.inl (tw 693 (by decide +kernel))
theorem lk_X6_243 : am_lk RX6 243 yX6_forecast := Or.inl (tw 697 (by decide +kernel))
theorem lk_L_95 : am_lk RL 95 yX6_leastBid := Or.inl (tw 698 (by decide +kernel))
theorem lk_X6_247 : am_lk RX6 247 yX1_neededAgainst := Or.inr ⟨"PurseAuction", tw 702 (by decide +kernel)⟩
theorem lk_L_101 : am_lk RL 101 yX6_put := Or.inl (tw 707 (by decide +kernel))
theorem lk_X6_250 : am_lk RX6 250 yX6_signsIn := Or.inl (tw 711 (by decide +kernel))
theorem lk_X6_256 : am_lk RX6 256 yX3_append := Or.inr ⟨"PurseAuction", tw 715 (by decide +kernel)⟩
theorem lk_L_106 : am_lk RL 106 yX6_wipe := Or.inl (tw 719 (by decide +kernel))
theorem lk_X6_260 : am_lk RX6 260 yX3_empty := Or.inr ⟨"PurseAuction", tw 723 (by decide +kernel)⟩
theorem lk_L_110 : am_lk RL 110 yX6_fault := Or.inl (tw 727 (by decide +kernel))
theorem lk_X6_263 : am_lk RX6 263 yX3_firstFault := Or.inr ⟨"PurseAuction", tw 731 (by decide +kernel)⟩
theorem lk_X3_22 : am_lk RX3 22 yX3_toStart := Or.inl (tw 735 (by decide +kernel))
theorem lk_X3_25 : am_lk RX3 25 yX3_readAct := Or.inl (tw 739 (by decide +kernel))
theorem lk_X3_33 : am_lk RX3 33 yX3_signAt := Or.inl (tw 743 (by decide +kernel))
theorem lk_X3_40 : am_lk RX3 40 yX3_readPair := Or.inl (tw 747 (by decide +kernel))
theorem lk_X3_44 : am_lk RX3 44 yX3_readNumber := Or.inl (tw 751 (by decide +kernel))
theorem lk_X3_54 : am_lk RX3 54 yX3_digitAt := Or.inl (tw 755 (by decide +kernel))
theorem lk_X3_57 : am_lk RX3 57 yX6_within := Or.inr ⟨"PurseAuction", tw 759 (by decide +kernel)⟩
theorem lk_X3_29 : am_lk RX3 29 yX3_readSign := Or.inl (tw 760 (by decide +kernel))
theorem lk_L_114 : am_lk RL 114 yX6_carryOut := Or.inl (tw 764 (by decide +kernel))
theorem lk_X6_266 : am_lk RX6 266 yX3_toStart := Or.inr ⟨"PurseAuction", tw 768 (by decide +kernel)⟩
theorem lk_X6_269 : am_lk RX6 269 yX3_readAct := Or.inr ⟨"PurseAuction", tw 769 (by decide +kernel)⟩
theorem lk_X6_272 : am_lk RX6 272 yX6_carryOutAct := Or.inl (tw 770 (by decide +kernel))
theorem lk_X6_275 : am_lk RX6 275 yX6_isError := Or.inl (tw 774 (by decide +kernel))
theorem lk_X6_278 : am_lk RX6 278 yX3_readSign := Or.inr ⟨"PurseAuction", tw 777 (by decide +kernel)⟩
theorem lk_L_118 : am_lk RL 118 yX6_save := Or.inl (tw 778 (by decide +kernel))
theorem lk_X6_291 : am_lk RX6 291 yX6_isSlot := Or.inl (tw 782 (by decide +kernel))
theorem lk_L_122 : am_lk RL 122 yX6_restore := Or.inl (tw 785 (by decide +kernel))
theorem lk_L_12 : am_lk RL 12 yX7_init := Or.inl (tw 791 (by decide +kernel))
theorem lk_X7_39 : am_lk RX7 39 yX7_beginGame := Or.inl (tw 795 (by decide +kernel))
theorem lk_X7_51 : am_lk RX7 51 yX7_setting := Or.inl (tw 799 (by decide +kernel))
theorem lk_X7_47 : am_lk RX7 47 yX7_lay := Or.inl (tw 803 (by decide +kernel))
theorem lk_X7_55 : am_lk RX7 55 yX7_clearAuction := Or.inl (tw 807 (by decide +kernel))
theorem lk_L_17 : am_lk RL 17 yX7_setUp := Or.inl (tw 852 (by decide +kernel))
theorem lk_X7_43 : am_lk RX7 43 yX7_in := Or.inl (tw 856 (by decide +kernel))
theorem lk_L_22 : am_lk RL 22 yX7_set := Or.inl (tw 859 (by decide +kernel))
theorem lk_X7_58 : am_lk RX7 58 yX7_takes := Or.inl (tw 863 (by decide +kernel))
theorem lk_X7_62 : am_lk RX7 62 yX7_goes := Or.inl (tw 866 (by decide +kernel))
theorem lk_L_26 : am_lk RL 26 yX7_fill := Or.inl (tw 870 (by decide +kernel))
theorem lk_X7_66 : am_lk RX7 66 yX7_isPlayer := Or.inl (tw 874 (by decide +kernel))
theorem lk_X7_70 : am_lk RX7 70 yX7_of := Or.inl (tw 878 (by decide +kernel))
theorem lk_L_30 : am_lk RL 30 yX7_embolden := Or.inl (tw 882 (by decide +kernel))
theorem lk_L_34 : am_lk RL 34 yX7_lot := Or.inl (tw 886 (by decide +kernel))
theorem lk_X7_74 : am_lk RX7 74 yX7_layLot := Or.inl (tw 890 (by decide +kernel))
theorem lk_L_38 : am_lk RL 38 yX7_begin := Or.inl (tw 894 (by decide +kernel))
theorem lk_X7_89 : am_lk RX7 89 yX7_nextLot := Or.inl (tw 898 (by decide +kernel))
theorem lk_X7_96 : am_lk RX7 96 yX7_isLastNext := Or.inl (tw 902 (by decide +kernel))
theorem lk_X7_99 : am_lk RX7 99 yX7_start := Or.inl (tw 906 (by decide +kernel))
theorem lk_X7_93 : am_lk RX7 93 yX7_starter := Or.inl (tw 910 (by decide +kernel))
theorem lk_L_42 : am_lk RL 42 yX7_bid := Or.inl (tw 914 (by decide +kernel))
theorem lk_X7_127 : am_lk RX7 127 yX7_isBid := Or.inl (tw 918 (by decide +kernel))
theorem lk_X7_124 : am_lk RX7 124 yX7_leastOpen := Or.inl (tw 922 (by decide +kernel))
theorem lk_X7_130 : am_lk RX7 130 yX7_bidOpen := Or.inl (tw 926 (by decide +kernel))
theorem lk_X7_112 : am_lk RX7 112 yX7_know := Or.inl (tw 930 (by decide +kernel))
theorem lk_X7_115 : am_lk RX7 115 yX7_goOn := Or.inl (tw 934 (by decide +kernel))
theorem lk_X7_109 : am_lk RX7 109 yX7_sellTo := Or.inl (tw 938 (by decide +kernel))
theorem lk_X7_102 : am_lk RX7 102 yX7_finish := Or.inl (tw 942 (by decide +kernel))
theorem lk_X7_105 : am_lk RX7 105 yX7_pay := Or.inl (tw 946 (by decide +kernel))
theorem lk_X7_133 : am_lk RX7 133 yX7_bidSealed := Or.inl (tw 950 (by decide +kernel))
theorem lk_X7_118 : am_lk RX7 118 yX7_openSealed := Or.inl (tw 954 (by decide +kernel))
theorem lk_X7_80 : am_lk RX7 80 yX7_sizeOf := Or.inl (tw 958 (by decide +kernel))
theorem lk_X7_121 : am_lk RX7 121 yX7_seat := Or.inl (tw 961 (by decide +kernel))
theorem lk_X7_136 : am_lk RX7 136 yX7_claim := Or.inl (tw 965 (by decide +kernel))
theorem lk_L_46 : am_lk RL 46 yX7_pass := Or.inl (tw 969 (by decide +kernel))
theorem lk_X7_139 : am_lk RX7 139 yX7_passOpen := Or.inl (tw 973 (by decide +kernel))
theorem lk_X7_142 : am_lk RX7 142 yX7_fall := Or.inl (tw 977 (by decide +kernel))
theorem lk_L_51 : am_lk RL 51 yX7_move := Or.inl (tw 981 (by decide +kernel))
theorem lk_X7_157 : am_lk RX7 157 yX7_makeMove := Or.inl (tw 985 (by decide +kernel))
theorem lk_X7_145 : am_lk RX7 145 yX7_limitOf := Or.inl (tw 989 (by decide +kernel))
theorem lk_X7_83 : am_lk RX7 83 yX7_valueWith := Or.inl (tw 993 (by decide +kernel))
theorem lk_X7_77 : am_lk RX7 77 yX7_ofLot := Or.inl (tw 997 (by decide +kernel))
theorem lk_X7_151 : am_lk RX7 151 yX7_moveSealed := Or.inl (tw 1001 (by decide +kernel))
theorem lk_X7_148 : am_lk RX7 148 yX7_sealedOf := Or.inl (tw 1005 (by decide +kernel))
theorem lk_X7_154 : am_lk RX7 154 yX7_moveFalling := Or.inl (tw 1009 (by decide +kernel))
theorem lk_L_55 : am_lk RL 55 yX7_last := Or.inl (tw 1013 (by decide +kernel))
theorem lk_X7_160 : am_lk RX7 160 yX7_giveLast := Or.inl (tw 1017 (by decide +kernel))
theorem lk_L_59 : am_lk RL 59 yX7_ask := Or.inl (tw 1021 (by decide +kernel))
theorem lk_L_63 : am_lk RL 63 yX7_player := Or.inl (tw 1025 (by decide +kernel))
theorem lk_X7_86 : am_lk RX7 86 yX7_scoreOf := Or.inl (tw 1029 (by decide +kernel))
theorem lk_X7_163 : am_lk RX7 163 yX7_placeOf := Or.inl (tw 1033 (by decide +kernel))
theorem lk_X7_166 : am_lk RX7 166 yX7_lotsOf := Or.inl (tw 1037 (by decide +kernel))
theorem lk_L_67 : am_lk RL 67 yX7_about := Or.inl (tw 1041 (by decide +kernel))
theorem lk_L_71 : am_lk RL 71 yX7_count := Or.inl (tw 1045 (by decide +kernel))
theorem lk_X7_172 : am_lk RX7 172 yX7_ofAuction := Or.inl (tw 1049 (by decide +kernel))
theorem lk_X7_169 : am_lk RX7 169 yX7_shownPrice := Or.inl (tw 1053 (by decide +kernel))
theorem lk_X7_175 : am_lk RX7 175 yX7_sumOf := Or.inl (tw 1057 (by decide +kernel))
theorem lk_L_80 : am_lk RL 80 yX7_ways := Or.inl (tw 1061 (by decide +kernel))
theorem lk_X7_185 : am_lk RX7 185 yX7_layWays := Or.inl (tw 1065 (by decide +kernel))
theorem lk_X7_182 : am_lk RX7 182 yX7_addPurse := Or.inl (tw 1069 (by decide +kernel))
theorem lk_L_75 : am_lk RL 75 yX7_known := Or.inl (tw 1073 (by decide +kernel))
theorem lk_X7_188 : am_lk RX7 188 yX7_extreme := Or.inl (tw 1077 (by decide +kernel))
theorem lk_X7_192 : am_lk RX7 192 yX7_average := Or.inl (tw 1081 (by decide +kernel))
theorem lk_L_85 : am_lk RL 85 yX7_canPay := Or.inl (tw 1085 (by decide +kernel))
theorem lk_L_90 : am_lk RL 90 yX7_forecast := Or.inl (tw 1091 (by decide +kernel))
theorem lk_X7_205 : am_lk RX7 205 yX7_scoreAtEnd := Or.inl (tw 1095 (by decide +kernel))
theorem lk_X7_199 : am_lk RX7 199 yX7_putAside := Or.inl (tw 1099 (by decide +kernel))
theorem lk_X7_202 : am_lk RX7 202 yX7_putBack := Or.inl (tw 1103 (by decide +kernel))
theorem lk_L_94 : am_lk RL 94 yX7_bestMode := Or.inl (tw 1107 (by decide +kernel))
theorem lk_L_98 : am_lk RL 98 yX7_leastBid := Or.inl (tw 1111 (by decide +kernel))
theorem lk_L_105 : am_lk RL 105 yX7_put := Or.inl (tw 1115 (by decide +kernel))
theorem lk_L_109 : am_lk RL 109 yX7_wipe := Or.inl (tw 1120 (by decide +kernel))
theorem lk_L_113 : am_lk RL 113 yX7_fault := Or.inl (tw 1124 (by decide +kernel))
theorem lk_X7_230 : am_lk RX7 230 yX7_takeAct := Or.inl (tw 1128 (by decide +kernel))
theorem lk_X7_218 : am_lk RX7 218 yX7_next := Or.inl (tw 1132 (by decide +kernel))
theorem lk_X7_224 : am_lk RX7 224 yX7_takeNumber := Or.inl (tw 1136 (by decide +kernel))
theorem lk_X7_227 : am_lk RX7 227 yX7_need := Or.inl (tw 1140 (by decide +kernel))
theorem lk_L_117 : am_lk RL 117 yX7_carryOut := Or.inl (tw 1144 (by decide +kernel))
theorem lk_X7_248 : am_lk RX7 248 yX7_fault := Or.inl (tw 1148 (by decide +kernel))
theorem lk_X7_251 : am_lk RX7 251 yX7_does := Or.inl (tw 1149 (by decide +kernel))
theorem lk_X7_233 : am_lk RX7 233 yX7_begin := Or.inl (tw 1153 (by decide +kernel))
theorem lk_X7_236 : am_lk RX7 236 yX7_bid := Or.inl (tw 1154 (by decide +kernel))
theorem lk_X7_239 : am_lk RX7 239 yX7_pass := Or.inl (tw 1155 (by decide +kernel))
theorem lk_X7_242 : am_lk RX7 242 yX7_move := Or.inl (tw 1156 (by decide +kernel))
theorem lk_X7_245 : am_lk RX7 245 yX7_last := Or.inl (tw 1157 (by decide +kernel))
theorem lk_L_121 : am_lk RL 121 yX7_save := Or.inl (tw 1158 (by decide +kernel))
theorem lk_L_125 : am_lk RL 125 yX7_restore := Or.inl (tw 1162 (by decide +kernel))
theorem ct_J6_265 : Cond.constant RJ6 265 (1431655765) ∈ lw_tbl := tw 412 (by decide +kernel)
theorem ct_J6_266 : Cond.constant RJ6 266 (858993459) ∈ lw_tbl := tw 413 (by decide +kernel)
theorem ct_J6_267 : Cond.constant RJ6 267 (252645135) ∈ lw_tbl := tw 414 (by decide +kernel)
theorem ct_X6_225 : Cond.constantLong RX6 225 (-1) ∈ lw_tbl := tw 657 (by decide +kernel)
theorem ct_X6_227 : Cond.constantLong RX6 227 (-2) ∈ lw_tbl := tw 658 (by decide +kernel)
theorem ct_X6_239 : Cond.constant RX6 239 (1000000) ∈ lw_tbl := tw 691 (by decide +kernel)
theorem ct_X6_254 : Cond.constantLong RX6 254 (255) ∈ lw_tbl := tw 714 (by decide +kernel)
theorem ct_X7_195 : Cond.constantLong RX7 195 (-1) ∈ lw_tbl := tw 1089 (by decide +kernel)
theorem ct_X7_197 : Cond.constantLong RX7 197 (-2) ∈ lw_tbl := tw 1090 (by decide +kernel)
theorem ct_X7_209 : Cond.constantLong RX7 209 (255) ∈ lw_tbl := tw 1119 (by decide +kernel)
theorem ct_L_99 : Cond.constantLong RL 99 (4294967295) ∈ lw_tbl := tw 1166 (by decide +kernel)
def am_L (S : List (Nat ⊕ (Nat × Nat))) (Rf : List (Nat × Nat × Nat)) (sh : aS) (P : aP) (o : Nat) : Prop := (∀ j z, S[j]? = some z → sh[o + j]? = some z) ∧ (∀ q ∈ Rf, P (o + q.1) q.2.1 = some (o + q.2.2))
theorem am_L.sub {S S' : List (Nat ⊕ (Nat × Nat))} {Rf Rf' : List (Nat × Nat × Nat)} {sh : aS} {P : aP} {o : Nat} (k : Nat) (h : am_L S Rf sh P o) (hS : ∀ j, j < S'.length → S[k + j]? = S'[j]?) (hR : ∀ q ∈ Rf', (k + q.1, q.2.1, k + q.2.2) ∈ Rf) : am_L S' Rf' sh P (o + k) := by
  refine ⟨fun j z hz => ?_, fun q hq => ?_⟩
  · rw [Nat.add_assoc]
    refine h.1 (k + j) z ?_
    rw [hS j (List.getElem?_eq_some_iff.mp hz).1]
    exact hz
  · have := h.2 _ (hR q hq)
    rw [Nat.add_assoc, Nat.add_assoc]
    exact this
def S0 : List (Nat ⊕ (Nat × Nat)) := [.inl 0, .inr (0, 6)]
def Q0 : List (Nat × Nat × Nat) := [(0, 8, 1)]
abbrev L0 (sh : aS) (P : aP) (o : Nat) : Prop := am_L S0 Q0 sh P o
theorem L0_s0 {sh : aS} {P : aP} {o : Nat} (h : L0 sh P o) : sh[o]? = some (.inl 0) := h.1 0 _ rfl
theorem L0_s1 {sh : aS} {P : aP} {o : Nat} (h : L0 sh P o) : sh[(o + 1)]? = some (.inr (0, 6)) := h.1 1 _ rfl
theorem L0_p0_8 {sh : aS} {P : aP} {o : Nat} (h : L0 sh P o) : P o 8 = some (o + 1) := h.2 (0, 8, 1) (by decide)
def S2 : List (Nat ⊕ (Nat × Nat)) := [.inl 2, .inr (0, 12), .inr (0, 12), .inr (0, 12), .inr (0, 12)]
def Q2 : List (Nat × Nat × Nat) := [(0, 2, 1), (0, 3, 2), (0, 4, 3), (0, 5, 4)]
abbrev L2 (sh : aS) (P : aP) (o : Nat) : Prop := am_L S2 Q2 sh P o
theorem L2_s0 {sh : aS} {P : aP} {o : Nat} (h : L2 sh P o) : sh[o]? = some (.inl 2) := h.1 0 _ rfl
theorem L2_s1 {sh : aS} {P : aP} {o : Nat} (h : L2 sh P o) : sh[(o + 1)]? = some (.inr (0, 12)) := h.1 1 _ rfl
theorem L2_s2 {sh : aS} {P : aP} {o : Nat} (h : L2 sh P o) : sh[(o + 2)]? = some (.inr (0, 12)) := h.1 2 _ rfl
theorem L2_s3 {sh : aS} {P : aP} {o : Nat} (h : L2 sh P o) : sh[(o + 3)]? = some (.inr (0, 12)) := h.1 3 _ rfl
theorem L2_s4 {sh : aS} {P : aP} {o : Nat} (h : L2 sh P o) : sh[(o + 4)]? = some (.inr (0, 12)) := h.1 4 _ rfl
theorem L2_p0_2 {sh : aS} {P : aP} {o : Nat} (h : L2 sh P o) : P o 2 = some (o + 1) := h.2 (0, 2, 1) (by decide)
theorem L2_p0_3 {sh : aS} {P : aP} {o : Nat} (h : L2 sh P o) : P o 3 = some (o + 2) := h.2 (0, 3, 2) (by decide)
theorem L2_p0_4 {sh : aS} {P : aP} {o : Nat} (h : L2 sh P o) : P o 4 = some (o + 3) := h.2 (0, 4, 3) (by decide)
theorem L2_p0_5 {sh : aS} {P : aP} {o : Nat} (h : L2 sh P o) : P o 5 = some (o + 4) := h.2 (0, 5, 4) (by decide)
def S3 : List (Nat ⊕ (Nat × Nat)) := [.inl 3, .inr (2, 60)]
def Q3 : List (Nat × Nat × Nat) := [(0, 0, 1)]
abbrev L3 (sh : aS) (P : aP) (o : Nat) : Prop := am_L S3 Q3 sh P o
theorem L3_s0 {sh : aS} {P : aP} {o : Nat} (h : L3 sh P o) : sh[o]? = some (.inl 3) := h.1 0 _ rfl
theorem L3_s1 {sh : aS} {P : aP} {o : Nat} (h : L3 sh P o) : sh[(o + 1)]? = some (.inr (2, 60)) := h.1 1 _ rfl
theorem L3_p0_0 {sh : aS} {P : aP} {o : Nat} (h : L3 sh P o) : P o 0 = some (o + 1) := h.2 (0, 0, 1) (by decide)
def S4 : List (Nat ⊕ (Nat × Nat)) := [.inl 4, .inr (0, 6), .inr (0, 6), .inr (0, 6), .inr (0, 6), .inr (0, 6)]
def Q4 : List (Nat × Nat × Nat) := [(0, 1, 1), (0, 2, 2), (0, 3, 3), (0, 4, 4), (0, 5, 5)]
abbrev L4 (sh : aS) (P : aP) (o : Nat) : Prop := am_L S4 Q4 sh P o
theorem L4_s0 {sh : aS} {P : aP} {o : Nat} (h : L4 sh P o) : sh[o]? = some (.inl 4) := h.1 0 _ rfl
theorem L4_s1 {sh : aS} {P : aP} {o : Nat} (h : L4 sh P o) : sh[(o + 1)]? = some (.inr (0, 6)) := h.1 1 _ rfl
theorem L4_s2 {sh : aS} {P : aP} {o : Nat} (h : L4 sh P o) : sh[(o + 2)]? = some (.inr (0, 6)) := h.1 2 _ rfl
theorem L4_s3 {sh : aS} {P : aP} {o : Nat} (h : L4 sh P o) : sh[(o + 3)]? = some (.inr (0, 6)) := h.1 3 _ rfl
theorem L4_s4 {sh : aS} {P : aP} {o : Nat} (h : L4 sh P o) : sh[(o + 4)]? = some (.inr (0, 6)) := h.1 4 _ rfl
theorem L4_s5 {sh : aS} {P : aP} {o : Nat} (h : L4 sh P o) : sh[(o + 5)]? = some (.inr (0, 6)) := h.1 5 _ rfl
theorem L4_p0_1 {sh : aS} {P : aP} {o : Nat} (h : L4 sh P o) : P o 1 = some (o + 1) := h.2 (0, 1, 1) (by decide)
theorem L4_p0_2 {sh : aS} {P : aP} {o : Nat} (h : L4 sh P o) : P o 2 = some (o + 2) := h.2 (0, 2, 2) (by decide)
theorem L4_p0_3 {sh : aS} {P : aP} {o : Nat} (h : L4 sh P o) : P o 3 = some (o + 3) := h.2 (0, 3, 3) (by decide)
theorem L4_p0_4 {sh : aS} {P : aP} {o : Nat} (h : L4 sh P o) : P o 4 = some (o + 4) := h.2 (0, 4, 4) (by decide)
theorem L4_p0_5 {sh : aS} {P : aP} {o : Nat} (h : L4 sh P o) : P o 5 = some (o + 5) := h.2 (0, 5, 5) (by decide)
def S5 : List (Nat ⊕ (Nat × Nat)) := [.inl 5, .inr (3, 1801), .inr (3, 1801)]
def Q5 : List (Nat × Nat × Nat) := [(0, 0, 1), (0, 1, 2)]
abbrev L5 (sh : aS) (P : aP) (o : Nat) : Prop := am_L S5 Q5 sh P o
theorem L5_s0 {sh : aS} {P : aP} {o : Nat} (h : L5 sh P o) : sh[o]? = some (.inl 5) := h.1 0 _ rfl
theorem L5_s1 {sh : aS} {P : aP} {o : Nat} (h : L5 sh P o) : sh[(o + 1)]? = some (.inr (3, 1801)) := h.1 1 _ rfl
theorem L5_s2 {sh : aS} {P : aP} {o : Nat} (h : L5 sh P o) : sh[(o + 2)]? = some (.inr (3, 1801)) := h.1 2 _ rfl
theorem L5_p0_0 {sh : aS} {P : aP} {o : Nat} (h : L5 sh P o) : P o 0 = some (o + 1) := h.2 (0, 0, 1) (by decide)
theorem L5_p0_1 {sh : aS} {P : aP} {o : Nat} (h : L5 sh P o) : P o 1 = some (o + 2) := h.2 (0, 1, 2) (by decide)
def S1 : List (Nat ⊕ (Nat × Nat)) := [.inl 1, .inr (0, 6), .inl 4, .inr (0, 6), .inr (0, 6), .inr (0, 6), .inr (0, 6), .inr (0, 6), .inl 2, .inr (0, 12), .inr (0, 12), .inr (0, 12), .inr (0, 12), .inl 0, .inr (0, 6)]
def Q1 : List (Nat × Nat × Nat) := [(0, 0, 1), (0, 1, 2), (0, 2, 8), (0, 3, 13), (2, 1, 3), (2, 2, 4), (2, 3, 5), (2, 4, 6), (2, 5, 7), (8, 2, 9), (8, 3, 10), (8, 4, 11), (8, 5, 12), (13, 8, 14)]
abbrev L1 (sh : aS) (P : aP) (o : Nat) : Prop := am_L S1 Q1 sh P o
theorem L1_s0 {sh : aS} {P : aP} {o : Nat} (h : L1 sh P o) : sh[o]? = some (.inl 1) := h.1 0 _ rfl
theorem L1_s1 {sh : aS} {P : aP} {o : Nat} (h : L1 sh P o) : sh[(o + 1)]? = some (.inr (0, 6)) := h.1 1 _ rfl
theorem L1_s2 {sh : aS} {P : aP} {o : Nat} (h : L1 sh P o) : sh[(o + 2)]? = some (.inl 4) := h.1 2 _ rfl
theorem L1_s3 {sh : aS} {P : aP} {o : Nat} (h : L1 sh P o) : sh[(o + 3)]? = some (.inr (0, 6)) := h.1 3 _ rfl
theorem L1_s4 {sh : aS} {P : aP} {o : Nat} (h : L1 sh P o) : sh[(o + 4)]? = some (.inr (0, 6)) := h.1 4 _ rfl
theorem L1_s5 {sh : aS} {P : aP} {o : Nat} (h : L1 sh P o) : sh[(o + 5)]? = some (.inr (0, 6)) := h.1 5 _ rfl
theorem L1_s6 {sh : aS} {P : aP} {o : Nat} (h : L1 sh P o) : sh[(o + 6)]? = some (.inr (0, 6)) := h.1 6 _ rfl
theorem L1_s7 {sh : aS} {P : aP} {o : Nat} (h : L1 sh P o) : sh[(o + 7)]? = some (.inr (0, 6)) := h.1 7 _ rfl
theorem L1_s8 {sh : aS} {P : aP} {o : Nat} (h : L1 sh P o) : sh[(o + 8)]? = some (.inl 2) := h.1 8 _ rfl
theorem L1_s9 {sh : aS} {P : aP} {o : Nat} (h : L1 sh P o) : sh[(o + 9)]? = some (.inr (0, 12)) := h.1 9 _ rfl
theorem L1_s10 {sh : aS} {P : aP} {o : Nat} (h : L1 sh P o) : sh[(o + 10)]? = some (.inr (0, 12)) := h.1 10 _ rfl
theorem L1_s11 {sh : aS} {P : aP} {o : Nat} (h : L1 sh P o) : sh[(o + 11)]? = some (.inr (0, 12)) := h.1 11 _ rfl
theorem L1_s12 {sh : aS} {P : aP} {o : Nat} (h : L1 sh P o) : sh[(o + 12)]? = some (.inr (0, 12)) := h.1 12 _ rfl
theorem L1_s13 {sh : aS} {P : aP} {o : Nat} (h : L1 sh P o) : sh[(o + 13)]? = some (.inl 0) := h.1 13 _ rfl
theorem L1_s14 {sh : aS} {P : aP} {o : Nat} (h : L1 sh P o) : sh[(o + 14)]? = some (.inr (0, 6)) := h.1 14 _ rfl
theorem L1_p0_0 {sh : aS} {P : aP} {o : Nat} (h : L1 sh P o) : P o 0 = some (o + 1) := h.2 (0, 0, 1) (by decide)
theorem L1_p0_1 {sh : aS} {P : aP} {o : Nat} (h : L1 sh P o) : P o 1 = some (o + 2) := h.2 (0, 1, 2) (by decide)
theorem L1_p0_2 {sh : aS} {P : aP} {o : Nat} (h : L1 sh P o) : P o 2 = some (o + 8) := h.2 (0, 2, 8) (by decide)
theorem L1_p0_3 {sh : aS} {P : aP} {o : Nat} (h : L1 sh P o) : P o 3 = some (o + 13) := h.2 (0, 3, 13) (by decide)
theorem L1_p2_1 {sh : aS} {P : aP} {o : Nat} (h : L1 sh P o) : P (o + 2) 1 = some (o + 3) := h.2 (2, 1, 3) (by decide)
theorem L1_p2_2 {sh : aS} {P : aP} {o : Nat} (h : L1 sh P o) : P (o + 2) 2 = some (o + 4) := h.2 (2, 2, 4) (by decide)
theorem L1_p2_3 {sh : aS} {P : aP} {o : Nat} (h : L1 sh P o) : P (o + 2) 3 = some (o + 5) := h.2 (2, 3, 5) (by decide)
theorem L1_p2_4 {sh : aS} {P : aP} {o : Nat} (h : L1 sh P o) : P (o + 2) 4 = some (o + 6) := h.2 (2, 4, 6) (by decide)
theorem L1_p2_5 {sh : aS} {P : aP} {o : Nat} (h : L1 sh P o) : P (o + 2) 5 = some (o + 7) := h.2 (2, 5, 7) (by decide)
theorem L1_p8_2 {sh : aS} {P : aP} {o : Nat} (h : L1 sh P o) : P (o + 8) 2 = some (o + 9) := h.2 (8, 2, 9) (by decide)
theorem L1_p8_3 {sh : aS} {P : aP} {o : Nat} (h : L1 sh P o) : P (o + 8) 3 = some (o + 10) := h.2 (8, 3, 10) (by decide)
theorem L1_p8_4 {sh : aS} {P : aP} {o : Nat} (h : L1 sh P o) : P (o + 8) 4 = some (o + 11) := h.2 (8, 4, 11) (by decide)
theorem L1_p8_5 {sh : aS} {P : aP} {o : Nat} (h : L1 sh P o) : P (o + 8) 5 = some (o + 12) := h.2 (8, 5, 12) (by decide)
theorem L1_p13_8 {sh : aS} {P : aP} {o : Nat} (h : L1 sh P o) : P (o + 13) 8 = some (o + 14) := h.2 (13, 8, 14) (by decide)
theorem L1_c2 {sh : aS} {P : aP} {o : Nat} (h : L1 sh P o) : L4 sh P (o + 2) := am_L.sub 2 h (by decide) (by decide)
theorem L1_c8 {sh : aS} {P : aP} {o : Nat} (h : L1 sh P o) : L2 sh P (o + 8) := am_L.sub 8 h (by decide) (by decide)
theorem L1_c13 {sh : aS} {P : aP} {o : Nat} (h : L1 sh P o) : L0 sh P (o + 13) := am_L.sub 13 h (by decide) (by decide)
def S6 : List (Nat ⊕ (Nat × Nat)) := [.inl 6, .inl 1, .inr (0, 6), .inl 4, .inr (0, 6), .inr (0, 6), .inr (0, 6), .inr (0, 6), .inr (0, 6), .inl 2, .inr (0, 12), .inr (0, 12), .inr (0, 12), .inr (0, 12), .inl 0, .inr (0, 6), .inl 1, .inr (0, 6), .inl 4, .inr (0, 6), .inr (0, 6), .inr (0, 6), .inr (0, 6), .inr (0, 6), .inl 2, .inr (0, 12), .inr (0, 12), .inr (0, 12), .inr (0, 12), .inl 0, .inr (0, 6), .inr (4, 2), .inl 5, .inr (3, 1801), .inr (3, 1801), .inl 3, .inr (2, 60)]
def Q6 : List (Nat × Nat × Nat) := [(0, 0, 1), (0, 1, 16), (0, 2, 31), (0, 3, 32), (0, 4, 35), (1, 0, 2), (1, 1, 3), (1, 2, 9), (1, 3, 14), (3, 1, 4), (3, 2, 5), (3, 3, 6), (3, 4, 7), (3, 5, 8), (9, 2, 10), (9, 3, 11), (9, 4, 12), (9, 5, 13), (14, 8, 15), (16, 0, 17), (16, 1, 18), (16, 2, 24), (16, 3, 29), (18, 1, 19), (18, 2, 20), (18, 3, 21), (18, 4, 22), (18, 5, 23), (24, 2, 25), (24, 3, 26), (24, 4, 27), (24, 5, 28), (29, 8, 30), (32, 0, 33), (32, 1, 34), (35, 0, 36)]
abbrev L6 (sh : aS) (P : aP) (o : Nat) : Prop := am_L S6 Q6 sh P o
theorem L6_s0 {sh : aS} {P : aP} {o : Nat} (h : L6 sh P o) : sh[o]? = some (.inl 6) := h.1 0 _ rfl
theorem L6_s1 {sh : aS} {P : aP} {o : Nat} (h : L6 sh P o) : sh[(o + 1)]? = some (.inl 1) := h.1 1 _ rfl
theorem L6_s2 {sh : aS} {P : aP} {o : Nat} (h : L6 sh P o) : sh[(o + 2)]? = some (.inr (0, 6)) := h.1 2 _ rfl
theorem L6_s3 {sh : aS} {P : aP} {o : Nat} (h : L6 sh P o) : sh[(o + 3)]? = some (.inl 4) := h.1 3 _ rfl
theorem L6_s4 {sh : aS} {P : aP} {o : Nat} (h : L6 sh P o) : sh[(o + 4)]? = some (.inr (0, 6)) := h.1 4 _ rfl
theorem L6_s5 {sh : aS} {P : aP} {o : Nat} (h : L6 sh P o) : sh[(o + 5)]? = some (.inr (0, 6)) := h.1 5 _ rfl
theorem L6_s6 {sh : aS} {P : aP} {o : Nat} (h : L6 sh P o) : sh[(o + 6)]? = some (.inr (0, 6)) := h.1 6 _ rfl
theorem L6_s7 {sh : aS} {P : aP} {o : Nat} (h : L6 sh P o) : sh[(o + 7)]? = some (.inr (0, 6)) := h.1 7 _ rfl
theorem L6_s8 {sh : aS} {P : aP} {o : Nat} (h : L6 sh P o) : sh[(o + 8)]? = some (.inr (0, 6)) := h.1 8 _ rfl
theorem L6_s9 {sh : aS} {P : aP} {o : Nat} (h : L6 sh P o) : sh[(o + 9)]? = some (.inl 2) := h.1 9 _ rfl
theorem L6_s10 {sh : aS} {P : aP} {o : Nat} (h : L6 sh P o) : sh[(o + 10)]? = some (.inr (0, 12)) := h.1 10 _ rfl
theorem L6_s11 {sh : aS} {P : aP} {o : Nat} (h : L6 sh P o) : sh[(o + 11)]? = some (.inr (0, 12)) := h.1 11 _ rfl
theorem L6_s12 {sh : aS} {P : aP} {o : Nat} (h : L6 sh P o) : sh[(o + 12)]? = some (.inr (0, 12)) := h.1 12 _ rfl
theorem L6_s13 {sh : aS} {P : aP} {o : Nat} (h : L6 sh P o) : sh[(o + 13)]? = some (.inr (0, 12)) := h.1 13 _ rfl
theorem L6_s14 {sh : aS} {P : aP} {o : Nat} (h : L6 sh P o) : sh[(o + 14)]? = some (.inl 0) := h.1 14 _ rfl
theorem L6_s15 {sh : aS} {P : aP} {o : Nat} (h : L6 sh P o) : sh[(o + 15)]? = some (.inr (0, 6)) := h.1 15 _ rfl
theorem L6_s16 {sh : aS} {P : aP} {o : Nat} (h : L6 sh P o) : sh[(o + 16)]? = some (.inl 1) := h.1 16 _ rfl
theorem L6_s17 {sh : aS} {P : aP} {o : Nat} (h : L6 sh P o) : sh[(o + 17)]? = some (.inr (0, 6)) := h.1 17 _ rfl
theorem L6_s18 {sh : aS} {P : aP} {o : Nat} (h : L6 sh P o) : sh[(o + 18)]? = some (.inl 4) := h.1 18 _ rfl
theorem L6_s19 {sh : aS} {P : aP} {o : Nat} (h : L6 sh P o) : sh[(o + 19)]? = some (.inr (0, 6)) := h.1 19 _ rfl
theorem L6_s20 {sh : aS} {P : aP} {o : Nat} (h : L6 sh P o) : sh[(o + 20)]? = some (.inr (0, 6)) := h.1 20 _ rfl
theorem L6_s21 {sh : aS} {P : aP} {o : Nat} (h : L6 sh P o) : sh[(o + 21)]? = some (.inr (0, 6)) := h.1 21 _ rfl
theorem L6_s22 {sh : aS} {P : aP} {o : Nat} (h : L6 sh P o) : sh[(o + 22)]? = some (.inr (0, 6)) := h.1 22 _ rfl
theorem L6_s23 {sh : aS} {P : aP} {o : Nat} (h : L6 sh P o) : sh[(o + 23)]? = some (.inr (0, 6)) := h.1 23 _ rfl
theorem L6_s24 {sh : aS} {P : aP} {o : Nat} (h : L6 sh P o) : sh[(o + 24)]? = some (.inl 2) := h.1 24 _ rfl
theorem L6_s25 {sh : aS} {P : aP} {o : Nat} (h : L6 sh P o) : sh[(o + 25)]? = some (.inr (0, 12)) := h.1 25 _ rfl
theorem L6_s26 {sh : aS} {P : aP} {o : Nat} (h : L6 sh P o) : sh[(o + 26)]? = some (.inr (0, 12)) := h.1 26 _ rfl
theorem L6_s27 {sh : aS} {P : aP} {o : Nat} (h : L6 sh P o) : sh[(o + 27)]? = some (.inr (0, 12)) := h.1 27 _ rfl
theorem L6_s28 {sh : aS} {P : aP} {o : Nat} (h : L6 sh P o) : sh[(o + 28)]? = some (.inr (0, 12)) := h.1 28 _ rfl
theorem L6_s29 {sh : aS} {P : aP} {o : Nat} (h : L6 sh P o) : sh[(o + 29)]? = some (.inl 0) := h.1 29 _ rfl
theorem L6_s30 {sh : aS} {P : aP} {o : Nat} (h : L6 sh P o) : sh[(o + 30)]? = some (.inr (0, 6)) := h.1 30 _ rfl
theorem L6_s31 {sh : aS} {P : aP} {o : Nat} (h : L6 sh P o) : sh[(o + 31)]? = some (.inr (4, 2)) := h.1 31 _ rfl
theorem L6_s32 {sh : aS} {P : aP} {o : Nat} (h : L6 sh P o) : sh[(o + 32)]? = some (.inl 5) := h.1 32 _ rfl
theorem L6_s33 {sh : aS} {P : aP} {o : Nat} (h : L6 sh P o) : sh[(o + 33)]? = some (.inr (3, 1801)) := h.1 33 _ rfl
theorem L6_s34 {sh : aS} {P : aP} {o : Nat} (h : L6 sh P o) : sh[(o + 34)]? = some (.inr (3, 1801)) := h.1 34 _ rfl
theorem L6_s35 {sh : aS} {P : aP} {o : Nat} (h : L6 sh P o) : sh[(o + 35)]? = some (.inl 3) := h.1 35 _ rfl
theorem L6_s36 {sh : aS} {P : aP} {o : Nat} (h : L6 sh P o) : sh[(o + 36)]? = some (.inr (2, 60)) := h.1 36 _ rfl
theorem L6_p0_0 {sh : aS} {P : aP} {o : Nat} (h : L6 sh P o) : P o 0 = some (o + 1) := h.2 (0, 0, 1) (by decide)
theorem L6_p0_1 {sh : aS} {P : aP} {o : Nat} (h : L6 sh P o) : P o 1 = some (o + 16) := h.2 (0, 1, 16) (by decide)
theorem L6_p0_2 {sh : aS} {P : aP} {o : Nat} (h : L6 sh P o) : P o 2 = some (o + 31) := h.2 (0, 2, 31) (by decide)
theorem L6_p0_3 {sh : aS} {P : aP} {o : Nat} (h : L6 sh P o) : P o 3 = some (o + 32) := h.2 (0, 3, 32) (by decide)
theorem L6_p0_4 {sh : aS} {P : aP} {o : Nat} (h : L6 sh P o) : P o 4 = some (o + 35) := h.2 (0, 4, 35) (by decide)
theorem L6_p1_0 {sh : aS} {P : aP} {o : Nat} (h : L6 sh P o) : P (o + 1) 0 = some (o + 2) := h.2 (1, 0, 2) (by decide)
theorem L6_p1_1 {sh : aS} {P : aP} {o : Nat} (h : L6 sh P o) : P (o + 1) 1 = some (o + 3) := h.2 (1, 1, 3) (by decide)
theorem L6_p1_2 {sh : aS} {P : aP} {o : Nat} (h : L6 sh P o) : P (o + 1) 2 = some (o + 9) := h.2 (1, 2, 9) (by decide)
theorem L6_p1_3 {sh : aS} {P : aP} {o : Nat} (h : L6 sh P o) : P (o + 1) 3 = some (o + 14) := h.2 (1, 3, 14) (by decide)
theorem L6_p3_1 {sh : aS} {P : aP} {o : Nat} (h : L6 sh P o) : P (o + 3) 1 = some (o + 4) := h.2 (3, 1, 4) (by decide)
theorem L6_p3_2 {sh : aS} {P : aP} {o : Nat} (h : L6 sh P o) : P (o + 3) 2 = some (o + 5) := h.2 (3, 2, 5) (by decide)
theorem L6_p3_3 {sh : aS} {P : aP} {o : Nat} (h : L6 sh P o) : P (o + 3) 3 = some (o + 6) := h.2 (3, 3, 6) (by decide)
theorem L6_p3_4 {sh : aS} {P : aP} {o : Nat} (h : L6 sh P o) : P (o + 3) 4 = some (o + 7) := h.2 (3, 4, 7) (by decide)
theorem L6_p3_5 {sh : aS} {P : aP} {o : Nat} (h : L6 sh P o) : P (o + 3) 5 = some (o + 8) := h.2 (3, 5, 8) (by decide)
theorem L6_p9_2 {sh : aS} {P : aP} {o : Nat} (h : L6 sh P o) : P (o + 9) 2 = some (o + 10) := h.2 (9, 2, 10) (by decide)
theorem L6_p9_3 {sh : aS} {P : aP} {o : Nat} (h : L6 sh P o) : P (o + 9) 3 = some (o + 11) := h.2 (9, 3, 11) (by decide)
theorem L6_p9_4 {sh : aS} {P : aP} {o : Nat} (h : L6 sh P o) : P (o + 9) 4 = some (o + 12) := h.2 (9, 4, 12) (by decide)
theorem L6_p9_5 {sh : aS} {P : aP} {o : Nat} (h : L6 sh P o) : P (o + 9) 5 = some (o + 13) := h.2 (9, 5, 13) (by decide)
theorem L6_p14_8 {sh : aS} {P : aP} {o : Nat} (h : L6 sh P o) : P (o + 14) 8 = some (o + 15) := h.2 (14, 8, 15) (by decide)
theorem L6_p16_0 {sh : aS} {P : aP} {o : Nat} (h : L6 sh P o) : P (o + 16) 0 = some (o + 17) := h.2 (16, 0, 17) (by decide)
theorem L6_p16_1 {sh : aS} {P : aP} {o : Nat} (h : L6 sh P o) : P (o + 16) 1 = some (o + 18) := h.2 (16, 1, 18) (by decide)
theorem L6_p16_2 {sh : aS} {P : aP} {o : Nat} (h : L6 sh P o) : P (o + 16) 2 = some (o + 24) := h.2 (16, 2, 24) (by decide)
theorem L6_p16_3 {sh : aS} {P : aP} {o : Nat} (h : L6 sh P o) : P (o + 16) 3 = some (o + 29) := h.2 (16, 3, 29) (by decide)
theorem L6_p18_1 {sh : aS} {P : aP} {o : Nat} (h : L6 sh P o) : P (o + 18) 1 = some (o + 19) := h.2 (18, 1, 19) (by decide)
theorem L6_p18_2 {sh : aS} {P : aP} {o : Nat} (h : L6 sh P o) : P (o + 18) 2 = some (o + 20) := h.2 (18, 2, 20) (by decide)
theorem L6_p18_3 {sh : aS} {P : aP} {o : Nat} (h : L6 sh P o) : P (o + 18) 3 = some (o + 21) := h.2 (18, 3, 21) (by decide)
theorem L6_p18_4 {sh : aS} {P : aP} {o : Nat} (h : L6 sh P o) : P (o + 18) 4 = some (o + 22) := h.2 (18, 4, 22) (by decide)
theorem L6_p18_5 {sh : aS} {P : aP} {o : Nat} (h : L6 sh P o) : P (o + 18) 5 = some (o + 23) := h.2 (18, 5, 23) (by decide)
theorem L6_p24_2 {sh : aS} {P : aP} {o : Nat} (h : L6 sh P o) : P (o + 24) 2 = some (o + 25) := h.2 (24, 2, 25) (by decide)
theorem L6_p24_3 {sh : aS} {P : aP} {o : Nat} (h : L6 sh P o) : P (o + 24) 3 = some (o + 26) := h.2 (24, 3, 26) (by decide)
theorem L6_p24_4 {sh : aS} {P : aP} {o : Nat} (h : L6 sh P o) : P (o + 24) 4 = some (o + 27) := h.2 (24, 4, 27) (by decide)
theorem L6_p24_5 {sh : aS} {P : aP} {o : Nat} (h : L6 sh P o) : P (o + 24) 5 = some (o + 28) := h.2 (24, 5, 28) (by decide)
theorem L6_p29_8 {sh : aS} {P : aP} {o : Nat} (h : L6 sh P o) : P (o + 29) 8 = some (o + 30) := h.2 (29, 8, 30) (by decide)
theorem L6_p32_0 {sh : aS} {P : aP} {o : Nat} (h : L6 sh P o) : P (o + 32) 0 = some (o + 33) := h.2 (32, 0, 33) (by decide)
theorem L6_p32_1 {sh : aS} {P : aP} {o : Nat} (h : L6 sh P o) : P (o + 32) 1 = some (o + 34) := h.2 (32, 1, 34) (by decide)
theorem L6_p35_0 {sh : aS} {P : aP} {o : Nat} (h : L6 sh P o) : P (o + 35) 0 = some (o + 36) := h.2 (35, 0, 36) (by decide)
theorem L6_c1 {sh : aS} {P : aP} {o : Nat} (h : L6 sh P o) : L1 sh P (o + 1) := am_L.sub 1 h (by decide) (by decide)
theorem L6_c16 {sh : aS} {P : aP} {o : Nat} (h : L6 sh P o) : L1 sh P (o + 16) := am_L.sub 16 h (by decide) (by decide)
theorem L6_c32 {sh : aS} {P : aP} {o : Nat} (h : L6 sh P o) : L5 sh P (o + 32) := am_L.sub 32 h (by decide) (by decide)
theorem L6_c35 {sh : aS} {P : aP} {o : Nat} (h : L6 sh P o) : L3 sh P (o + 35) := am_L.sub 35 h (by decide) (by decide)
theorem L6_c3 {sh : aS} {P : aP} {o : Nat} (h : L6 sh P o) : L4 sh P (o + 3) := am_L.sub 3 h (by decide) (by decide)
theorem L6_c9 {sh : aS} {P : aP} {o : Nat} (h : L6 sh P o) : L2 sh P (o + 9) := am_L.sub 9 h (by decide) (by decide)
theorem L6_c14 {sh : aS} {P : aP} {o : Nat} (h : L6 sh P o) : L0 sh P (o + 14) := am_L.sub 14 h (by decide) (by decide)
def S7 : List (Nat ⊕ (Nat × Nat)) := [.inl 7, .inr (0, 118), .inr (0, 118), .inr (0, 236), .inr (1, 2), .inr (0, 60), .inr (0, 6), .inr (3, 1801), .inr (3, 1801), .inr (0, 93)]
def Q7 : List (Nat × Nat × Nat) := [(0, 0, 1), (0, 1, 2), (0, 2, 3), (0, 3, 4), (0, 4, 5), (0, 6, 6), (0, 7, 7), (0, 8, 8), (0, 11, 9)]
abbrev L7 (sh : aS) (P : aP) (o : Nat) : Prop := am_L S7 Q7 sh P o
theorem L7_s0 {sh : aS} {P : aP} {o : Nat} (h : L7 sh P o) : sh[o]? = some (.inl 7) := h.1 0 _ rfl
theorem L7_s1 {sh : aS} {P : aP} {o : Nat} (h : L7 sh P o) : sh[(o + 1)]? = some (.inr (0, 118)) := h.1 1 _ rfl
theorem L7_s2 {sh : aS} {P : aP} {o : Nat} (h : L7 sh P o) : sh[(o + 2)]? = some (.inr (0, 118)) := h.1 2 _ rfl
theorem L7_s3 {sh : aS} {P : aP} {o : Nat} (h : L7 sh P o) : sh[(o + 3)]? = some (.inr (0, 236)) := h.1 3 _ rfl
theorem L7_s4 {sh : aS} {P : aP} {o : Nat} (h : L7 sh P o) : sh[(o + 4)]? = some (.inr (1, 2)) := h.1 4 _ rfl
theorem L7_s5 {sh : aS} {P : aP} {o : Nat} (h : L7 sh P o) : sh[(o + 5)]? = some (.inr (0, 60)) := h.1 5 _ rfl
theorem L7_s6 {sh : aS} {P : aP} {o : Nat} (h : L7 sh P o) : sh[(o + 6)]? = some (.inr (0, 6)) := h.1 6 _ rfl
theorem L7_s7 {sh : aS} {P : aP} {o : Nat} (h : L7 sh P o) : sh[(o + 7)]? = some (.inr (3, 1801)) := h.1 7 _ rfl
theorem L7_s8 {sh : aS} {P : aP} {o : Nat} (h : L7 sh P o) : sh[(o + 8)]? = some (.inr (3, 1801)) := h.1 8 _ rfl
theorem L7_s9 {sh : aS} {P : aP} {o : Nat} (h : L7 sh P o) : sh[(o + 9)]? = some (.inr (0, 93)) := h.1 9 _ rfl
theorem L7_p0_0 {sh : aS} {P : aP} {o : Nat} (h : L7 sh P o) : P o 0 = some (o + 1) := h.2 (0, 0, 1) (by decide)
theorem L7_p0_1 {sh : aS} {P : aP} {o : Nat} (h : L7 sh P o) : P o 1 = some (o + 2) := h.2 (0, 1, 2) (by decide)
theorem L7_p0_2 {sh : aS} {P : aP} {o : Nat} (h : L7 sh P o) : P o 2 = some (o + 3) := h.2 (0, 2, 3) (by decide)
theorem L7_p0_3 {sh : aS} {P : aP} {o : Nat} (h : L7 sh P o) : P o 3 = some (o + 4) := h.2 (0, 3, 4) (by decide)
theorem L7_p0_4 {sh : aS} {P : aP} {o : Nat} (h : L7 sh P o) : P o 4 = some (o + 5) := h.2 (0, 4, 5) (by decide)
theorem L7_p0_6 {sh : aS} {P : aP} {o : Nat} (h : L7 sh P o) : P o 6 = some (o + 6) := h.2 (0, 6, 6) (by decide)
theorem L7_p0_7 {sh : aS} {P : aP} {o : Nat} (h : L7 sh P o) : P o 7 = some (o + 7) := h.2 (0, 7, 7) (by decide)
theorem L7_p0_8 {sh : aS} {P : aP} {o : Nat} (h : L7 sh P o) : P o 8 = some (o + 8) := h.2 (0, 8, 8) (by decide)
theorem L7_p0_11 {sh : aS} {P : aP} {o : Nat} (h : L7 sh P o) : P o 11 = some (o + 9) := h.2 (0, 11, 9) (by decide)
section AP
variable {K : aK} {cc : ByteArray} {nL : Nat} {own nm : String} {R0 : Room} {pc : Nat} {lo lo' : List (Nat × Value)} {st st0 : List Value} {sh : aS} {P : aP} {I : aI} {J : aJ} {cells slots : Nat} {β : Type} {Rs : β}
theorem ar_cVi (X : am_C K cc nL own nm R0) {idx n k fr lc : Nat} {y : MethodName} {b : ByteArray} {ret : Option FieldType} {q ci : Nat} {T : u_T} {n9 : Nat} {As : List Value} {I1 : aI} {J1 : aJ} {r : Int32} (st : List Value) (hd : decode cc pc = .ok (.invokevirtual idx, 3)) (hM : AM y b n ret fr lc (.ref q :: As) sh P I J (some (.int r)) sh P I1 J1 0 0) (hlk : am_lk own idx y) (hm : am_mt y b n ret k) (hm2 : Cond.instanceMethod y ∈ lw_tbl ∧ Cond.selects y.cls y y ∈ lw_tbl) (hs : sh[q]? = some (.inl ci)) (hvc : vwCl[ci]? = some (y.cls, T, n9)) (hn : As.length = k) (hcat : (st.map fun v => v.category).sum ≤ 8) (hroom : fr + 1 ≤ R0.frames ∧ 8 + (n + 11) + lc ≤ R0.locals) (hcells : cells ≤ R0.cells ∧ slots ≤ R0.slots) (hst : As.reverse ++ .ref q :: st = st0) (kk : AW K nL (pc + 3) lo (.int r :: st) sh P I1 J1 cells slots) : AW K nL pc lo st0 sh P I J cells slots := by
  subst hst
  exact ar_callV X hd hM hlk hm hm2 ⟨ci, T, n9, hs, hvc⟩ hn hcat hroom hcells (Nat.le_refl _) (Or.inl rfl) (fun v hv β => by cases hv; rfl) kk
theorem ar_cVl (X : am_C K cc nL own nm R0) {idx n k fr lc : Nat} {y : MethodName} {b : ByteArray} {ret : Option FieldType} {q ci : Nat} {T : u_T} {n9 : Nat} {As : List Value} {I1 : aI} {J1 : aJ} {r : Int64} (st : List Value) (hd : decode cc pc = .ok (.invokevirtual idx, 3)) (hM : AM y b n ret fr lc (.ref q :: As) sh P I J (some (.long r)) sh P I1 J1 0 0) (hlk : am_lk own idx y) (hm : am_mt y b n ret k) (hm2 : Cond.instanceMethod y ∈ lw_tbl ∧ Cond.selects y.cls y y ∈ lw_tbl) (hs : sh[q]? = some (.inl ci)) (hvc : vwCl[ci]? = some (y.cls, T, n9)) (hn : As.length = k) (hcat : (st.map fun v => v.category).sum ≤ 8) (hroom : fr + 1 ≤ R0.frames ∧ 8 + (n + 11) + lc ≤ R0.locals) (hcells : cells ≤ R0.cells ∧ slots ≤ R0.slots) (hst : As.reverse ++ .ref q :: st = st0) (kk : AW K nL (pc + 3) lo (.long r :: st) sh P I1 J1 cells slots) : AW K nL pc lo st0 sh P I J cells slots := by
  subst hst
  exact ar_callV X hd hM hlk hm hm2 ⟨ci, T, n9, hs, hvc⟩ hn hcat hroom hcells (Nat.le_refl _) (Or.inl rfl) (fun v hv β => by cases hv; rfl) kk
theorem ar_cVv (X : am_C K cc nL own nm R0) {idx n k fr lc : Nat} {y : MethodName} {b : ByteArray} {ret : Option FieldType} {q ci : Nat} {T : u_T} {n9 : Nat} {As : List Value} {I1 : aI} {J1 : aJ}  (st : List Value) (hd : decode cc pc = .ok (.invokevirtual idx, 3)) (hM : AM y b n ret fr lc (.ref q :: As) sh P I J none sh P I1 J1 0 0) (hlk : am_lk own idx y) (hm : am_mt y b n ret k) (hm2 : Cond.instanceMethod y ∈ lw_tbl ∧ Cond.selects y.cls y y ∈ lw_tbl) (hs : sh[q]? = some (.inl ci)) (hvc : vwCl[ci]? = some (y.cls, T, n9)) (hn : As.length = k) (hcat : (st.map fun v => v.category).sum ≤ 8) (hroom : fr + 1 ≤ R0.frames ∧ 8 + (n + 11) + lc ≤ R0.locals) (hcells : cells ≤ R0.cells ∧ slots ≤ R0.slots) (hst : As.reverse ++ .ref q :: st = st0) (kk : AW K nL (pc + 3) lo st sh P I1 J1 cells slots) : AW K nL pc lo st0 sh P I J cells slots := by
  subst hst
  exact ar_callV X hd hM hlk hm hm2 ⟨ci, T, n9, hs, hvc⟩ hn hcat hroom hcells (Nat.le_refl _) (Or.inl rfl) (fun v hv β => by cases hv) kk
theorem ar_cSi (X : am_C K cc nL own nm R0) {idx n k fr lc : Nat} {y : MethodName} {b : ByteArray} {ret : Option FieldType}  {As : List Value} {I1 : aI} {J1 : aJ} {r : Int32} (st : List Value) (hd : decode cc pc = .ok (.invokestatic idx, 3)) (hM : AM y b n ret fr lc (As) sh P I J (some (.int r)) sh P I1 J1 0 0) (hlk : am_lk own idx y) (hm : am_mt y b n ret k) (hm2 : Cond.static y ∈ lw_tbl) (hn : As.length = k) (hcat : (st.map fun v => v.category).sum ≤ 8) (hroom : fr + 1 ≤ R0.frames ∧ 8 + (n + 11) + lc ≤ R0.locals) (hcells : cells ≤ R0.cells ∧ slots ≤ R0.slots) (hst : As.reverse ++ st = st0) (kk : AW K nL (pc + 3) lo (.int r :: st) sh P I1 J1 cells slots) : AW K nL pc lo st0 sh P I J cells slots := by
  subst hst
  exact ar_callS X hd hM hlk hm hm2 hn hcat hroom hcells (Nat.le_refl _) (Or.inl rfl) (fun v hv β => by cases hv; rfl) kk
theorem ar_cSl (X : am_C K cc nL own nm R0) {idx n k fr lc : Nat} {y : MethodName} {b : ByteArray} {ret : Option FieldType}  {As : List Value} {I1 : aI} {J1 : aJ} {r : Int64} (st : List Value) (hd : decode cc pc = .ok (.invokestatic idx, 3)) (hM : AM y b n ret fr lc (As) sh P I J (some (.long r)) sh P I1 J1 0 0) (hlk : am_lk own idx y) (hm : am_mt y b n ret k) (hm2 : Cond.static y ∈ lw_tbl) (hn : As.length = k) (hcat : (st.map fun v => v.category).sum ≤ 8) (hroom : fr + 1 ≤ R0.frames ∧ 8 + (n + 11) + lc ≤ R0.locals) (hcells : cells ≤ R0.cells ∧ slots ≤ R0.slots) (hst : As.reverse ++ st = st0) (kk : AW K nL (pc + 3) lo (.long r :: st) sh P I1 J1 cells slots) : AW K nL pc lo st0 sh P I J cells slots := by
  subst hst
  exact ar_callS X hd hM hlk hm hm2 hn hcat hroom hcells (Nat.le_refl _) (Or.inl rfl) (fun v hv β => by cases hv; rfl) kk
theorem ar_cSv (X : am_C K cc nL own nm R0) {idx n k fr lc : Nat} {y : MethodName} {b : ByteArray} {ret : Option FieldType}  {As : List Value} {I1 : aI} {J1 : aJ}  (st : List Value) (hd : decode cc pc = .ok (.invokestatic idx, 3)) (hM : AM y b n ret fr lc (As) sh P I J none sh P I1 J1 0 0) (hlk : am_lk own idx y) (hm : am_mt y b n ret k) (hm2 : Cond.static y ∈ lw_tbl) (hn : As.length = k) (hcat : (st.map fun v => v.category).sum ≤ 8) (hroom : fr + 1 ≤ R0.frames ∧ 8 + (n + 11) + lc ≤ R0.locals) (hcells : cells ≤ R0.cells ∧ slots ≤ R0.slots) (hst : As.reverse ++ st = st0) (kk : AW K nL (pc + 3) lo st sh P I1 J1 cells slots) : AW K nL pc lo st0 sh P I J cells slots := by
  subst hst
  exact ar_callS X hd hM hlk hm hm2 hn hcat hroom hcells (Nat.le_refl _) (Or.inl rfl) (fun v hv β => by cases hv) kk
theorem ar_letI {e : Int32} {F : Int32 → Option β} (hf : am_let e F = some Rs) (kk : ∀ x, F x = some Rs → AW K nL pc lo (.int x :: st) sh P I J cells slots) : AW K nL pc lo (.int e :: st) sh P I J cells slots := kk e hf
theorem ar_letL {e : Int64} {F : Int64 → Option β} (hf : am_let e F = some Rs) (kk : ∀ x, F x = some Rs → AW K nL pc lo (.long x :: st) sh P I J cells slots) : AW K nL pc lo (.long e :: st) sh P I J cells slots := kk e hf
theorem ar_letM {F : aI → Option β} (hf : am_let I F = some Rs) (kk : ∀ I1, F I1 = some Rs → AW K nL pc lo st sh P I1 J cells slots) : AW K nL pc lo st sh P I J cells slots := kk I hf
end AP
def am_b1 {γ β : Type} (x : Option γ) (f : γ → Option β) : Option β := x.bind f
def am_b2 {γ δ β : Type} (x : Option (γ × δ)) (f : γ → δ → Option β) : Option β := x.bind (fun p => f p.1 p.2)
theorem am_b1_e {γ β : Type} {x : Option γ} {f : γ → Option β} {R : β} (h : am_b1 x f = some R) : ∃ a, x = some a ∧ f a = some R := am_bind h
theorem am_b2_e {γ δ β : Type} {x : Option (γ × δ)} {f : γ → δ → Option β} {R : β} (h : am_b2 x f = some R) : ∃ a b, x = some (a, b) ∧ f a b = some R := by
  obtain ⟨p, h1, h2⟩ := am_bind h
  exact ⟨p.1, p.2, h1, h2⟩
def am_zk (v : Int32) : Bool := decide (v = 0 ∨ v = 1)
theorem am_zn {v : Int32} (h : am_zk v = true) : narrow .boolean (.int v) = .int v ∧ fits .boolean (.int v) = true := by
  rcases of_decide_eq_true h with rfl | rfl
  · exact ⟨rfl, rfl⟩
  · exact ⟨rfl, rfl⟩
def am_F : Nat := 1000000
end
