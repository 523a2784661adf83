section
-- ===== PART A: goes FIRST, ahead of the names: the tables' words, and 'selects' of the private methods out of them =====
/-- a private method of a class that the tables say can be made, by its rows of tables_1 -/
def lw_okq (q : MethodName × Nat) : Prop := (q.1.cls ≠ "java/lang/invoke/MethodHandle" ∧ q.1.cls ≠ "java/lang/invoke/VarHandle") ∧ Cond.instantiable q.1.cls q.2 ∈ tables_1 ∧ Cond.privateMethod q.1 ∈ tables_1 ∧ Cond.instanceMethod q.1 ∈ tables_1
theorem lw_p0 : lw_okq (⟨"PhaseBook", "hear", "(II)I"⟩, 4) := ⟨⟨by decide +kernel, by decide +kernel⟩, List.mem_of_getElem? (i := 14) (by decide +kernel), List.mem_of_getElem? (i := 292) (by decide +kernel), List.mem_of_getElem? (i := 293) (by decide +kernel)⟩
theorem lw_p1 : lw_okq (⟨"PhaseBook$Market", "isTakenNow", "(I)Z"⟩, 6) := ⟨⟨by decide +kernel, by decide +kernel⟩, List.mem_of_getElem? (i := 31) (by decide +kernel), List.mem_of_getElem? (i := 315) (by decide +kernel), List.mem_of_getElem? (i := 316) (by decide +kernel)⟩
theorem lw_p2 : lw_okq (⟨"PhaseBook$Market", "priceToTell", "(I)I"⟩, 6) := ⟨⟨by decide +kernel, by decide +kernel⟩, List.mem_of_getElem? (i := 31) (by decide +kernel), List.mem_of_getElem? (i := 333) (by decide +kernel), List.mem_of_getElem? (i := 334) (by decide +kernel)⟩
theorem lw_p3 : lw_okq (⟨"PhaseBook$Market", "tellOwner", "(IIII)V"⟩, 6) := ⟨⟨by decide +kernel, by decide +kernel⟩, List.mem_of_getElem? (i := 31) (by decide +kernel), List.mem_of_getElem? (i := 337) (by decide +kernel), List.mem_of_getElem? (i := 338) (by decide +kernel)⟩
theorem lw_p4 : lw_okq (⟨"PhaseBook$Market", "comeIn", "(I)V"⟩, 6) := ⟨⟨by decide +kernel, by decide +kernel⟩, List.mem_of_getElem? (i := 31) (by decide +kernel), List.mem_of_getElem? (i := 345) (by decide +kernel), List.mem_of_getElem? (i := 346) (by decide +kernel)⟩
theorem lw_p5 : lw_okq (⟨"PhaseBook$Market", "isWhollyTradable", "(I)Z"⟩, 6) := ⟨⟨by decide +kernel, by decide +kernel⟩, List.mem_of_getElem? (i := 31) (by decide +kernel), List.mem_of_getElem? (i := 349) (by decide +kernel), List.mem_of_getElem? (i := 350) (by decide +kernel)⟩
theorem lw_p6 : lw_okq (⟨"PhaseBook$Market", "meets", "(II)Z"⟩, 6) := ⟨⟨by decide +kernel, by decide +kernel⟩, List.mem_of_getElem? (i := 31) (by decide +kernel), List.mem_of_getElem? (i := 353) (by decide +kernel), List.mem_of_getElem? (i := 354) (by decide +kernel)⟩
theorem lw_p7 : lw_okq (⟨"PhaseBook$Market", "isWild", "(I)Z"⟩, 6) := ⟨⟨by decide +kernel, by decide +kernel⟩, List.mem_of_getElem? (i := 31) (by decide +kernel), List.mem_of_getElem? (i := 357) (by decide +kernel), List.mem_of_getElem? (i := 358) (by decide +kernel)⟩
theorem lw_p8 : lw_okq (⟨"PhaseBook$Market", "match", "(I)V"⟩, 6) := ⟨⟨by decide +kernel, by decide +kernel⟩, List.mem_of_getElem? (i := 31) (by decide +kernel), List.mem_of_getElem? (i := 364) (by decide +kernel), List.mem_of_getElem? (i := 365) (by decide +kernel)⟩
theorem lw_p9 : lw_okq (⟨"PhaseBook$Market", "takeOut", "(I)V"⟩, 6) := ⟨⟨by decide +kernel, by decide +kernel⟩, List.mem_of_getElem? (i := 31) (by decide +kernel), List.mem_of_getElem? (i := 376) (by decide +kernel), List.mem_of_getElem? (i := 377) (by decide +kernel)⟩
theorem lw_p10 : lw_okq (⟨"PhaseBook$Market", "trade", "(II)V"⟩, 6) := ⟨⟨by decide +kernel, by decide +kernel⟩, List.mem_of_getElem? (i := 31) (by decide +kernel), List.mem_of_getElem? (i := 388) (by decide +kernel), List.mem_of_getElem? (i := 389) (by decide +kernel)⟩
theorem lw_p11 : lw_okq (⟨"PhaseBook$Market", "show", "(II)V"⟩, 6) := ⟨⟨by decide +kernel, by decide +kernel⟩, List.mem_of_getElem? (i := 31) (by decide +kernel), List.mem_of_getElem? (i := 393) (by decide +kernel), List.mem_of_getElem? (i := 394) (by decide +kernel)⟩
theorem lw_p12 : lw_okq (⟨"PhaseBook$Market", "rest", "(I)V"⟩, 6) := ⟨⟨by decide +kernel, by decide +kernel⟩, List.mem_of_getElem? (i := 31) (by decide +kernel), List.mem_of_getElem? (i := 397) (by decide +kernel), List.mem_of_getElem? (i := 398) (by decide +kernel)⟩
theorem lw_p13 : lw_okq (⟨"PhaseBook$Market", "settleRest", "(I)V"⟩, 6) := ⟨⟨by decide +kernel, by decide +kernel⟩, List.mem_of_getElem? (i := 31) (by decide +kernel), List.mem_of_getElem? (i := 405) (by decide +kernel), List.mem_of_getElem? (i := 406) (by decide +kernel)⟩
theorem lw_p14 : lw_okq (⟨"PhaseBook", "endMessage", "(II)I"⟩, 4) := ⟨⟨by decide +kernel, by decide +kernel⟩, List.mem_of_getElem? (i := 14) (by decide +kernel), List.mem_of_getElem? (i := 409) (by decide +kernel), List.mem_of_getElem? (i := 410) (by decide +kernel)⟩
theorem lw_p15 : lw_okq (⟨"PhaseBook$Market", "lowestDueStop", "()I"⟩, 6) := ⟨⟨by decide +kernel, by decide +kernel⟩, List.mem_of_getElem? (i := 31) (by decide +kernel), List.mem_of_getElem? (i := 418) (by decide +kernel), List.mem_of_getElem? (i := 419) (by decide +kernel)⟩
def lw_privs_1 : List (MethodName × Nat) := [(⟨"PhaseBook", "hear", "(II)I"⟩, 4), (⟨"PhaseBook$Market", "isTakenNow", "(I)Z"⟩, 6), (⟨"PhaseBook$Market", "priceToTell", "(I)I"⟩, 6), (⟨"PhaseBook$Market", "tellOwner", "(IIII)V"⟩, 6), (⟨"PhaseBook$Market", "comeIn", "(I)V"⟩, 6), (⟨"PhaseBook$Market", "isWhollyTradable", "(I)Z"⟩, 6), (⟨"PhaseBook$Market", "meets", "(II)Z"⟩, 6), (⟨"PhaseBook$Market", "isWild", "(I)Z"⟩, 6), (⟨"PhaseBook$Market", "match", "(I)V"⟩, 6), (⟨"PhaseBook$Market", "takeOut", "(I)V"⟩, 6), (⟨"PhaseBook$Market", "trade", "(II)V"⟩, 6), (⟨"PhaseBook$Market", "show", "(II)V"⟩, 6), (⟨"PhaseBook$Market", "rest", "(I)V"⟩, 6), (⟨"PhaseBook$Market", "settleRest", "(I)V"⟩, 6), (⟨"PhaseBook", "endMessage", "(II)I"⟩, 4), (⟨"PhaseBook$Market", "lowestDueStop", "()I"⟩, 6)]
theorem lw_r1 : ∀ q ∈ lw_privs_1, lw_okq q := List.forall_mem_cons.mpr ⟨lw_p0, List.forall_mem_cons.mpr ⟨lw_p1, List.forall_mem_cons.mpr ⟨lw_p2, List.forall_mem_cons.mpr ⟨lw_p3, List.forall_mem_cons.mpr ⟨lw_p4, List.forall_mem_cons.mpr ⟨lw_p5, List.forall_mem_cons.mpr ⟨lw_p6, List.forall_mem_cons.mpr ⟨lw_p7, List.forall_mem_cons.mpr ⟨lw_p8, List.forall_mem_cons.mpr ⟨lw_p9, List.forall_mem_cons.mpr ⟨lw_p10, List.forall_mem_cons.mpr ⟨lw_p11, List.forall_mem_cons.mpr ⟨lw_p12, List.forall_mem_cons.mpr ⟨lw_p13, List.forall_mem_cons.mpr ⟨lw_p14, List.forall_mem_cons.mpr ⟨lw_p15, fun _ h => absurd h List.not_mem_nil⟩⟩⟩⟩⟩⟩⟩⟩⟩⟩⟩⟩⟩⟩⟩⟩
theorem lw_p16 : lw_okq (⟨"PhaseBook$Market", "isDue", "(I)Z"⟩, 6) := ⟨⟨by decide +kernel, by decide +kernel⟩, List.mem_of_getElem? (i := 31) (by decide +kernel), List.mem_of_getElem? (i := 422) (by decide +kernel), List.mem_of_getElem? (i := 423) (by decide +kernel)⟩
theorem lw_p17 : lw_okq (⟨"PhaseBook$Feed", "tell", "(III)V"⟩, 5) := ⟨⟨by decide +kernel, by decide +kernel⟩, List.mem_of_getElem? (i := 225) (by decide +kernel), List.mem_of_getElem? (i := 430) (by decide +kernel), List.mem_of_getElem? (i := 431) (by decide +kernel)⟩
theorem lw_p18 : lw_okq (⟨"PhaseBook$Market", "holdAuction", "()V"⟩, 6) := ⟨⟨by decide +kernel, by decide +kernel⟩, List.mem_of_getElem? (i := 31) (by decide +kernel), List.mem_of_getElem? (i := 485) (by decide +kernel), List.mem_of_getElem? (i := 486) (by decide +kernel)⟩
theorem lw_p19 : lw_okq (⟨"PhaseBook$Auction", "weigh", "(IIII)V"⟩, 3) := ⟨⟨by decide +kernel, by decide +kernel⟩, List.mem_of_getElem? (i := 61) (by decide +kernel), List.mem_of_getElem? (i := 501) (by decide +kernel), List.mem_of_getElem? (i := 502) (by decide +kernel)⟩
theorem lw_p20 : lw_okq (⟨"PhaseBook$Auction", "isBetter", "(IIII)Z"⟩, 3) := ⟨⟨by decide +kernel, by decide +kernel⟩, List.mem_of_getElem? (i := 61) (by decide +kernel), List.mem_of_getElem? (i := 507) (by decide +kernel), List.mem_of_getElem? (i := 508) (by decide +kernel)⟩
theorem lw_p21 : lw_okq (⟨"PhaseBook$Market", "tradeInAuction", "(I)V"⟩, 6) := ⟨⟨by decide +kernel, by decide +kernel⟩, List.mem_of_getElem? (i := 31) (by decide +kernel), List.mem_of_getElem? (i := 511) (by decide +kernel), List.mem_of_getElem? (i := 512) (by decide +kernel)⟩
theorem lw_p22 : lw_okq (⟨"PhaseBook$Market", "cancelAll", "()V"⟩, 6) := ⟨⟨by decide +kernel, by decide +kernel⟩, List.mem_of_getElem? (i := 31) (by decide +kernel), List.mem_of_getElem? (i := 515) (by decide +kernel), List.mem_of_getElem? (i := 516) (by decide +kernel)⟩
theorem lw_p23 : lw_okq (⟨"PhaseBook$Market", "moveLevels", "(I)V"⟩, 6) := ⟨⟨by decide +kernel, by decide +kernel⟩, List.mem_of_getElem? (i := 31) (by decide +kernel), List.mem_of_getElem? (i := 547) (by decide +kernel), List.mem_of_getElem? (i := 548) (by decide +kernel)⟩
theorem lw_p24 : lw_okq (⟨"PhaseBookModel", "copy", "(II)V"⟩, 24) := ⟨⟨by decide +kernel, by decide +kernel⟩, List.mem_of_getElem? (i := 629) (by decide +kernel), List.mem_of_getElem? (i := 638) (by decide +kernel), List.mem_of_getElem? (i := 639) (by decide +kernel)⟩
theorem lw_p25 : lw_okq (⟨"PhaseBookModel", "begin", "(II)I"⟩, 24) := ⟨⟨by decide +kernel, by decide +kernel⟩, List.mem_of_getElem? (i := 629) (by decide +kernel), List.mem_of_getElem? (i := 726) (by decide +kernel), List.mem_of_getElem? (i := 727) (by decide +kernel)⟩
theorem lw_p26 : lw_okq (⟨"PhaseBookModel", "look", "()V"⟩, 24) := ⟨⟨by decide +kernel, by decide +kernel⟩, List.mem_of_getElem? (i := 629) (by decide +kernel), List.mem_of_getElem? (i := 730) (by decide +kernel), List.mem_of_getElem? (i := 731) (by decide +kernel)⟩
theorem lw_p27 : lw_okq (⟨"PhaseBookModel", "good", "(IIII)Z"⟩, 24) := ⟨⟨by decide +kernel, by decide +kernel⟩, List.mem_of_getElem? (i := 629) (by decide +kernel), List.mem_of_getElem? (i := 734) (by decide +kernel), List.mem_of_getElem? (i := 735) (by decide +kernel)⟩
theorem lw_p28 : lw_okq (⟨"PhaseBookModel", "isCall", "()Z"⟩, 24) := ⟨⟨by decide +kernel, by decide +kernel⟩, List.mem_of_getElem? (i := 629) (by decide +kernel), List.mem_of_getElem? (i := 738) (by decide +kernel), List.mem_of_getElem? (i := 739) (by decide +kernel)⟩
theorem lw_p29 : lw_okq (⟨"PhaseBookModel", "openOrders", "()I"⟩, 24) := ⟨⟨by decide +kernel, by decide +kernel⟩, List.mem_of_getElem? (i := 629) (by decide +kernel), List.mem_of_getElem? (i := 742) (by decide +kernel), List.mem_of_getElem? (i := 743) (by decide +kernel)⟩
theorem lw_p30 : lw_okq (⟨"PhaseBookModel", "reject", "(I)I"⟩, 24) := ⟨⟨by decide +kernel, by decide +kernel⟩, List.mem_of_getElem? (i := 629) (by decide +kernel), List.mem_of_getElem? (i := 746) (by decide +kernel), List.mem_of_getElem? (i := 747) (by decide +kernel)⟩
theorem lw_p31 : lw_okq (⟨"PhaseBookModel", "tell", "(IIIII)V"⟩, 24) := ⟨⟨by decide +kernel, by decide +kernel⟩, List.mem_of_getElem? (i := 629) (by decide +kernel), List.mem_of_getElem? (i := 750) (by decide +kernel), List.mem_of_getElem? (i := 751) (by decide +kernel)⟩
def lw_privs_2 : List (MethodName × Nat) := [(⟨"PhaseBook$Market", "isDue", "(I)Z"⟩, 6), (⟨"PhaseBook$Feed", "tell", "(III)V"⟩, 5), (⟨"PhaseBook$Market", "holdAuction", "()V"⟩, 6), (⟨"PhaseBook$Auction", "weigh", "(IIII)V"⟩, 3), (⟨"PhaseBook$Auction", "isBetter", "(IIII)Z"⟩, 3), (⟨"PhaseBook$Market", "tradeInAuction", "(I)V"⟩, 6), (⟨"PhaseBook$Market", "cancelAll", "()V"⟩, 6), (⟨"PhaseBook$Market", "moveLevels", "(I)V"⟩, 6), (⟨"PhaseBookModel", "copy", "(II)V"⟩, 24), (⟨"PhaseBookModel", "begin", "(II)I"⟩, 24), (⟨"PhaseBookModel", "look", "()V"⟩, 24), (⟨"PhaseBookModel", "good", "(IIII)Z"⟩, 24), (⟨"PhaseBookModel", "isCall", "()Z"⟩, 24), (⟨"PhaseBookModel", "openOrders", "()I"⟩, 24), (⟨"PhaseBookModel", "reject", "(I)I"⟩, 24), (⟨"PhaseBookModel", "tell", "(IIIII)V"⟩, 24)]
theorem lw_r2 : ∀ q ∈ lw_privs_2, lw_okq q := List.forall_mem_cons.mpr ⟨lw_p16, List.forall_mem_cons.mpr ⟨lw_p17, List.forall_mem_cons.mpr ⟨lw_p18, List.forall_mem_cons.mpr ⟨lw_p19, List.forall_mem_cons.mpr ⟨lw_p20, List.forall_mem_cons.mpr ⟨lw_p21, List.forall_mem_cons.mpr ⟨lw_p22, List.forall_mem_cons.mpr ⟨lw_p23, List.forall_mem_cons.mpr ⟨lw_p24, List.forall_mem_cons.mpr ⟨lw_p25, List.forall_mem_cons.mpr ⟨lw_p26, List.forall_mem_cons.mpr ⟨lw_p27, List.forall_mem_cons.mpr ⟨lw_p28, List.forall_mem_cons.mpr ⟨lw_p29, List.forall_mem_cons.mpr ⟨lw_p30, List.forall_mem_cons.mpr ⟨lw_p31, fun _ h => absurd h List.not_mem_nil⟩⟩⟩⟩⟩⟩⟩⟩⟩⟩⟩⟩⟩⟩⟩⟩
theorem lw_p32 : lw_okq (⟨"PhaseBookModel", "end", "(I)I"⟩, 24) := ⟨⟨by decide +kernel, by decide +kernel⟩, List.mem_of_getElem? (i := 629) (by decide +kernel), List.mem_of_getElem? (i := 754) (by decide +kernel), List.mem_of_getElem? (i := 755) (by decide +kernel)⟩
theorem lw_p33 : lw_okq (⟨"PhaseBookModel", "stops", "()V"⟩, 24) := ⟨⟨by decide +kernel, by decide +kernel⟩, List.mem_of_getElem? (i := 629) (by decide +kernel), List.mem_of_getElem? (i := 758) (by decide +kernel), List.mem_of_getElem? (i := 759) (by decide +kernel)⟩
theorem lw_p34 : lw_okq (⟨"PhaseBookModel", "setOff", "()I"⟩, 24) := ⟨⟨by decide +kernel, by decide +kernel⟩, List.mem_of_getElem? (i := 629) (by decide +kernel), List.mem_of_getElem? (i := 762) (by decide +kernel), List.mem_of_getElem? (i := 763) (by decide +kernel)⟩
theorem lw_p35 : lw_okq (⟨"PhaseBookModel", "match", "(I)V"⟩, 24) := ⟨⟨by decide +kernel, by decide +kernel⟩, List.mem_of_getElem? (i := 629) (by decide +kernel), List.mem_of_getElem? (i := 766) (by decide +kernel), List.mem_of_getElem? (i := 767) (by decide +kernel)⟩
theorem lw_p36 : lw_okq (⟨"PhaseBookModel", "enough", "(I)Z"⟩, 24) := ⟨⟨by decide +kernel, by decide +kernel⟩, List.mem_of_getElem? (i := 629) (by decide +kernel), List.mem_of_getElem? (i := 770) (by decide +kernel), List.mem_of_getElem? (i := 771) (by decide +kernel)⟩
theorem lw_p37 : lw_okq (⟨"PhaseBookModel", "bestBehind", "(II)I"⟩, 24) := ⟨⟨by decide +kernel, by decide +kernel⟩, List.mem_of_getElem? (i := 629) (by decide +kernel), List.mem_of_getElem? (i := 774) (by decide +kernel), List.mem_of_getElem? (i := 775) (by decide +kernel)⟩
theorem lw_p38 : lw_okq (⟨"PhaseBookModel", "ahead", "(II)Z"⟩, 24) := ⟨⟨by decide +kernel, by decide +kernel⟩, List.mem_of_getElem? (i := 629) (by decide +kernel), List.mem_of_getElem? (i := 778) (by decide +kernel), List.mem_of_getElem? (i := 779) (by decide +kernel)⟩
theorem lw_p39 : lw_okq (⟨"PhaseBookModel", "meets", "(II)Z"⟩, 24) := ⟨⟨by decide +kernel, by decide +kernel⟩, List.mem_of_getElem? (i := 629) (by decide +kernel), List.mem_of_getElem? (i := 782) (by decide +kernel), List.mem_of_getElem? (i := 783) (by decide +kernel)⟩
theorem lw_p40 : lw_okq (⟨"PhaseBookModel", "told", "(I)I"⟩, 24) := ⟨⟨by decide +kernel, by decide +kernel⟩, List.mem_of_getElem? (i := 629) (by decide +kernel), List.mem_of_getElem? (i := 786) (by decide +kernel), List.mem_of_getElem? (i := 787) (by decide +kernel)⟩
theorem lw_p41 : lw_okq (⟨"PhaseBookModel", "wild", "(I)Z"⟩, 24) := ⟨⟨by decide +kernel, by decide +kernel⟩, List.mem_of_getElem? (i := 629) (by decide +kernel), List.mem_of_getElem? (i := 790) (by decide +kernel), List.mem_of_getElem? (i := 791) (by decide +kernel)⟩
theorem lw_p42 : lw_okq (⟨"PhaseBookModel", "drop", "(I)V"⟩, 24) := ⟨⟨by decide +kernel, by decide +kernel⟩, List.mem_of_getElem? (i := 629) (by decide +kernel), List.mem_of_getElem? (i := 794) (by decide +kernel), List.mem_of_getElem? (i := 795) (by decide +kernel)⟩
theorem lw_p43 : lw_okq (⟨"PhaseBookModel", "leave", "(I)V"⟩, 24) := ⟨⟨by decide +kernel, by decide +kernel⟩, List.mem_of_getElem? (i := 629) (by decide +kernel), List.mem_of_getElem? (i := 798) (by decide +kernel), List.mem_of_getElem? (i := 799) (by decide +kernel)⟩
theorem lw_p44 : lw_okq (⟨"PhaseBookModel", "trade", "(II)V"⟩, 24) := ⟨⟨by decide +kernel, by decide +kernel⟩, List.mem_of_getElem? (i := 629) (by decide +kernel), List.mem_of_getElem? (i := 802) (by decide +kernel), List.mem_of_getElem? (i := 803) (by decide +kernel)⟩
theorem lw_p45 : lw_okq (⟨"PhaseBookModel", "rest", "(I)V"⟩, 24) := ⟨⟨by decide +kernel, by decide +kernel⟩, List.mem_of_getElem? (i := 629) (by decide +kernel), List.mem_of_getElem? (i := 809) (by decide +kernel), List.mem_of_getElem? (i := 810) (by decide +kernel)⟩
theorem lw_p46 : lw_okq (⟨"PhaseBookModel", "publish", "()V"⟩, 24) := ⟨⟨by decide +kernel, by decide +kernel⟩, List.mem_of_getElem? (i := 629) (by decide +kernel), List.mem_of_getElem? (i := 813) (by decide +kernel), List.mem_of_getElem? (i := 814) (by decide +kernel)⟩
theorem lw_p47 : lw_okq (⟨"PhaseBookModel", "level", "(II)I"⟩, 24) := ⟨⟨by decide +kernel, by decide +kernel⟩, List.mem_of_getElem? (i := 629) (by decide +kernel), List.mem_of_getElem? (i := 817) (by decide +kernel), List.mem_of_getElem? (i := 818) (by decide +kernel)⟩
def lw_privs_3 : List (MethodName × Nat) := [(⟨"PhaseBookModel", "end", "(I)I"⟩, 24), (⟨"PhaseBookModel", "stops", "()V"⟩, 24), (⟨"PhaseBookModel", "setOff", "()I"⟩, 24), (⟨"PhaseBookModel", "match", "(I)V"⟩, 24), (⟨"PhaseBookModel", "enough", "(I)Z"⟩, 24), (⟨"PhaseBookModel", "bestBehind", "(II)I"⟩, 24), (⟨"PhaseBookModel", "ahead", "(II)Z"⟩, 24), (⟨"PhaseBookModel", "meets", "(II)Z"⟩, 24), (⟨"PhaseBookModel", "told", "(I)I"⟩, 24), (⟨"PhaseBookModel", "wild", "(I)Z"⟩, 24), (⟨"PhaseBookModel", "drop", "(I)V"⟩, 24), (⟨"PhaseBookModel", "leave", "(I)V"⟩, 24), (⟨"PhaseBookModel", "trade", "(II)V"⟩, 24), (⟨"PhaseBookModel", "rest", "(I)V"⟩, 24), (⟨"PhaseBookModel", "publish", "()V"⟩, 24), (⟨"PhaseBookModel", "level", "(II)I"⟩, 24)]
theorem lw_r3 : ∀ q ∈ lw_privs_3, lw_okq q := List.forall_mem_cons.mpr ⟨lw_p32, List.forall_mem_cons.mpr ⟨lw_p33, List.forall_mem_cons.mpr ⟨lw_p34, List.forall_mem_cons.mpr ⟨lw_p35, List.forall_mem_cons.mpr ⟨lw_p36, List.forall_mem_cons.mpr ⟨lw_p37, List.forall_mem_cons.mpr ⟨lw_p38, List.forall_mem_cons.mpr ⟨lw_p39, List.forall_mem_cons.mpr ⟨lw_p40, List.forall_mem_cons.mpr ⟨lw_p41, List.forall_mem_cons.mpr ⟨lw_p42, List.forall_mem_cons.mpr ⟨lw_p43, List.forall_mem_cons.mpr ⟨lw_p44, List.forall_mem_cons.mpr ⟨lw_p45, List.forall_mem_cons.mpr ⟨lw_p46, List.forall_mem_cons.mpr ⟨lw_p47, fun _ h => absurd h List.not_mem_nil⟩⟩⟩⟩⟩⟩⟩⟩⟩⟩⟩⟩⟩⟩⟩⟩
theorem lw_p48 : lw_okq (⟨"PhaseBookModel", "comeIn", "(I)V"⟩, 24) := ⟨⟨by decide +kernel, by decide +kernel⟩, List.mem_of_getElem? (i := 629) (by decide +kernel), List.mem_of_getElem? (i := 821) (by decide +kernel), List.mem_of_getElem? (i := 822) (by decide +kernel)⟩
theorem lw_p49 : lw_okq (⟨"PhaseBookModel", "isOwn", "(II)Z"⟩, 24) := ⟨⟨by decide +kernel, by decide +kernel⟩, List.mem_of_getElem? (i := 629) (by decide +kernel), List.mem_of_getElem? (i := 829) (by decide +kernel), List.mem_of_getElem? (i := 830) (by decide +kernel)⟩
theorem lw_p50 : lw_okq (⟨"PhaseBookModel", "auction", "()V"⟩, 24) := ⟨⟨by decide +kernel, by decide +kernel⟩, List.mem_of_getElem? (i := 629) (by decide +kernel), List.mem_of_getElem? (i := 844) (by decide +kernel), List.mem_of_getElem? (i := 845) (by decide +kernel)⟩
theorem lw_p51 : lw_okq (⟨"PhaseBookModel", "weigh", "()V"⟩, 24) := ⟨⟨by decide +kernel, by decide +kernel⟩, List.mem_of_getElem? (i := 629) (by decide +kernel), List.mem_of_getElem? (i := 848) (by decide +kernel), List.mem_of_getElem? (i := 849) (by decide +kernel)⟩
theorem lw_p52 : lw_okq (⟨"PhaseBookModel", "sums", "()V"⟩, 24) := ⟨⟨by decide +kernel, by decide +kernel⟩, List.mem_of_getElem? (i := 629) (by decide +kernel), List.mem_of_getElem? (i := 852) (by decide +kernel), List.mem_of_getElem? (i := 853) (by decide +kernel)⟩
theorem lw_p53 : lw_okq (⟨"PhaseBookModel", "fill", "(I)V"⟩, 24) := ⟨⟨by decide +kernel, by decide +kernel⟩, List.mem_of_getElem? (i := 629) (by decide +kernel), List.mem_of_getElem? (i := 859) (by decide +kernel), List.mem_of_getElem? (i := 860) (by decide +kernel)⟩
theorem lw_p54 : lw_okq (⟨"PhaseBookModel", "placeOf", "(I)I"⟩, 24) := ⟨⟨by decide +kernel, by decide +kernel⟩, List.mem_of_getElem? (i := 629) (by decide +kernel), List.mem_of_getElem? (i := 890) (by decide +kernel), List.mem_of_getElem? (i := 891) (by decide +kernel)⟩
def lw_privs_4 : List (MethodName × Nat) := [(⟨"PhaseBookModel", "comeIn", "(I)V"⟩, 24), (⟨"PhaseBookModel", "isOwn", "(II)Z"⟩, 24), (⟨"PhaseBookModel", "auction", "()V"⟩, 24), (⟨"PhaseBookModel", "weigh", "()V"⟩, 24), (⟨"PhaseBookModel", "sums", "()V"⟩, 24), (⟨"PhaseBookModel", "fill", "(I)V"⟩, 24), (⟨"PhaseBookModel", "placeOf", "(I)I"⟩, 24)]
theorem lw_r4 : ∀ q ∈ lw_privs_4, lw_okq q := List.forall_mem_cons.mpr ⟨lw_p48, List.forall_mem_cons.mpr ⟨lw_p49, List.forall_mem_cons.mpr ⟨lw_p50, List.forall_mem_cons.mpr ⟨lw_p51, List.forall_mem_cons.mpr ⟨lw_p52, List.forall_mem_cons.mpr ⟨lw_p53, List.forall_mem_cons.mpr ⟨lw_p54, fun _ h => absurd h List.not_mem_nil⟩⟩⟩⟩⟩⟩⟩
def lw_privs : List (MethodName × Nat) := lw_privs_1 ++ (lw_privs_2 ++ (lw_privs_3 ++ (lw_privs_4)))
def lw_tbl : List Cond := k2_sels lw_privs ++ tables_1
theorem lw_privs_ok : ∀ q ∈ lw_privs, lw_okq q := by
  show ∀ q ∈ lw_privs_1 ++ (lw_privs_2 ++ (lw_privs_3 ++ (lw_privs_4))), lw_okq q
  exact List.forall_mem_append.mpr ⟨lw_r1, List.forall_mem_append.mpr ⟨lw_r2, List.forall_mem_append.mpr ⟨lw_r3, lw_r4⟩⟩⟩
end
section
/-! 10.machine: a small machine over a store of the program's own cells.
A value .ref k is the store's k-th cell, .retAddr _ the law's script. A cell: an int array (length, contents), an array of int arrays (length, rows), an object (number of its class, fields).
An entry of a method's code: instruction, length, and three numbers a, q, z that say what it links:
getfield, putfield: a the class's number, q the field's slot; new: a the class's number;
invokes: a = 1 Math.max, 2 Math.min, 3 Math.abs, 4 System.arraycopy, 5 Object's constructor; 10 + k: method k of the table, q how many arguments (with the receiver), z the number of the receiver's class, and 100 more where the link is a nest mate's (of a field: 1).
A method of the table: name, bytes, locals, what it returns, how many parameters, its class's number, its entries. -/
abbrev ma_C : Type := (Nat × (Nat → Int32)) ⊕ ((Nat × (Nat → Option Nat)) ⊕ (Nat × List Value))
abbrev ma_S : Type := List ma_C
abbrev ma_I : Type := Instr × Nat × Nat × Nat × Nat
abbrev ma_M : Type := MethodName × ByteArray × Nat × Option FieldType × Nat × Nat × List (Nat × ma_I)
/-- pc, locals, stack, store, cells made, slots made -/
abbrev ma_F : Type := Nat × List (Option Value) × List Value × ma_S × Nat × Nat
abbrev ma_R : Type := Option ma_F
def ma_tg (pc : Nat) (off : Int) : Option Nat := if 0 ≤ (pc : Int) + off then some ((pc : Int) + off).toNat else none
def ma_go (f : ma_F) (n : Nat) (st : List Value) : ma_R := some (f.1 + n, f.2.1, st, f.2.2.2)
def ma_br (f : ma_F) (c : Bool) (off : Int) (st : List Value) : ma_R := match ma_tg f.1 off with
  | some t => some (if c then t else f.1 + 3, f.2.1, st, f.2.2.2)
  | none => none
def ma_jp (f : ma_F) (off : Int) (st : List Value) : ma_R := match ma_tg f.1 off with
  | some t => some (t, f.2.1, st, f.2.2.2)
  | none => none
def ma_ild (f : ma_F) (j n : Nat) : ma_R := match f.2.1[j]? with
  | some (some (.int x)) => ma_go f n (.int x :: f.2.2.1)
  | _ => none
def ma_ald (f : ma_F) (j n : Nat) : ma_R := match f.2.1[j]? with
  | some (some (.ref x)) => ma_go f n (.ref x :: f.2.2.1)
  | some (some (.retAddr x)) => ma_go f n (.retAddr x :: f.2.2.1)
  | _ => none
def ma_sto (f : ma_F) (j n : Nat) (v : Value) (st : List Value) : ma_R := if j < f.2.1.length then some (f.1 + n, f.2.1.set j (some v), st, f.2.2.2) else none
def ma_out (i : Int32) (n : Nat) : Bool := decide (i < 0) || decide (n ≤ i.toNatClampNeg)
def ma_df (d : String) : Value := if d = "I" then .int 0 else .null
/-- what a field of this descriptor may take -/
def ma_vt (d : String) (v : Value) : Bool := match v with
  | .int _ => d == "I"
  | .ref _ => d != "I"
  | .null => d != "I"
  | _ => false
def ma_max (x y : Int32) : Int32 := if x < y then y else x
def ma_min (x y : Int32) : Int32 := if y < x then y else x
def ma_abs (x : Int32) : Int32 := if 0 ≤ x then x else 0 - x
/-- System.arraycopy of ints -/
def ma_cp (f : ma_F) (n dp : Int32) (a1 : Nat) (sp : Int32) (a0 : Nat) (st : List Value) : ma_R := match f.2.2.2.1[a0]?, f.2.2.2.1[a1]? with
  | some (.inl (n0, g0)), some (.inl (n1, g1)) =>
    if sp < 0 ∨ dp < 0 ∨ n < 0 ∨ n0 < sp.toNatClampNeg + n.toNatClampNeg ∨ n1 < dp.toNatClampNeg + n.toNatClampNeg then none
    else some (f.1 + 3, f.2.1, st, f.2.2.2.1.set a1 (.inl (n1, va_cpy g0 g1 sp.toNatClampNeg dp.toNatClampNeg n.toNatClampNeg)), f.2.2.2.2)
  | _, _ => none
/-- calls of the library: by the entry's first number; d: frames left -/
def ma_lib (f : ma_F) (d a : Nat) : ma_R := match d with
  | 0 => none
  | _ + 1 => match a, f.2.2.1 with
    | 1, .int y :: .int x :: st => if 8 < st.length then none else ma_go f 3 (.int (ma_max x y) :: st)
    | 2, .int y :: .int x :: st => if 8 < st.length then none else ma_go f 3 (.int (ma_min x y) :: st)
    | 3, .int x :: st => if 8 < st.length then none else ma_go f 3 (.int (ma_abs x) :: st)
    | 4, .int n :: .int dp :: .ref a1 :: .int sp :: .ref a0 :: st => if 8 < st.length then none else ma_cp f n dp a1 sp a0 st
    | _, _ => none
def ma_one (cls : List vw_C) (scr : Nat × (Nat → Int32)) (d : Nat) (i : ma_I) (f : ma_F) : ma_R := match i.1 with
  | .iconst v => ma_go f 1 (.int (Int32.ofInt v) :: f.2.2.1)
  | .bipush v => ma_go f 2 (.int (Int8.ofInt v).toInt32 :: f.2.2.1)
  | .sipush v => ma_go f 3 (.int (Int16.ofInt v).toInt32 :: f.2.2.1)
  | .iload_n j => ma_ild f j 1
  | .iload j => ma_ild f j 2
  | .aload_n j => ma_ald f j 1
  | .aload j => ma_ald f j 2
  | .istore_n j => match f.2.2.1 with
    | .int x :: st => ma_sto f j 1 (.int x) st
    | _ => none
  | .istore j => match f.2.2.1 with
    | .int x :: st => ma_sto f j 2 (.int x) st
    | _ => none
  | .astore_n j => match f.2.2.1 with
    | .ref x :: st => ma_sto f j 1 (.ref x) st
    | _ => none
  | .astore j => match f.2.2.1 with
    | .ref x :: st => ma_sto f j 2 (.ref x) st
    | _ => none
  | .iinc j v => match f.2.1[j]? with
    | some (some (.int x)) => ma_sto f j 3 (.int (x + Int32.ofInt v)) f.2.2.1
    | _ => none
  | .iadd => match f.2.2.1 with
    | .int y :: .int x :: st => ma_go f 1 (.int (x + y) :: st)
    | _ => none
  | .isub => match f.2.2.1 with
    | .int y :: .int x :: st => ma_go f 1 (.int (x - y) :: st)
    | _ => none
  | .imul => match f.2.2.1 with
    | .int y :: .int x :: st => ma_go f 1 (.int (x * y) :: st)
    | _ => none
  | .iand => match f.2.2.1 with
    | .int y :: .int x :: st => ma_go f 1 (.int (x &&& y) :: st)
    | _ => none
  | .ixor => match f.2.2.1 with
    | .int y :: .int x :: st => ma_go f 1 (.int (x ^^^ y) :: st)
    | _ => none
  | .idiv => match f.2.2.1 with
    | .int y :: .int x :: st => if y = 0 then none else ma_go f 1 (.int (x / y) :: st)
    | _ => none
  | .irem => match f.2.2.1 with
    | .int y :: .int x :: st => if y = 0 then none else ma_go f 1 (.int (x - x / y * y) :: st)
    | _ => none
  | .ineg => match f.2.2.1 with
    | .int x :: st => ma_go f 1 (.int (-x) :: st)
    | _ => none
  | .dup => match f.2.2.1 with
    | v :: st => ma_go f 1 (v :: v :: st)
    | _ => none
  | .dup2 => match f.2.2.1 with
    | v :: w :: st => ma_go f 1 (v :: w :: v :: w :: st)
    | _ => none
  | .dup_x1 => match f.2.2.1 with
    | v :: w :: st => ma_go f 1 (v :: w :: v :: st)
    | _ => none
  | .pop => match f.2.2.1 with
    | _ :: st => ma_go f 1 st
    | _ => none
  | .ifCond .eq o => match f.2.2.1 with
    | .int x :: st => ma_br f (decide (x = 0)) o st
    | _ => none
  | .ifCond .ne o => match f.2.2.1 with
    | .int x :: st => ma_br f (decide (¬ x = 0)) o st
    | _ => none
  | .ifCond .lt o => match f.2.2.1 with
    | .int x :: st => ma_br f (decide (x < 0)) o st
    | _ => none
  | .ifCond .ge o => match f.2.2.1 with
    | .int x :: st => ma_br f (decide (0 ≤ x)) o st
    | _ => none
  | .ifCond .gt o => match f.2.2.1 with
    | .int x :: st => ma_br f (decide (0 < x)) o st
    | _ => none
  | .ifCond .le o => match f.2.2.1 with
    | .int x :: st => ma_br f (decide (x ≤ 0)) o st
    | _ => none
  | .if_icmp .eq o => match f.2.2.1 with
    | .int y :: .int x :: st => ma_br f (decide (x = y)) o st
    | _ => none
  | .if_icmp .ne o => match f.2.2.1 with
    | .int y :: .int x :: st => ma_br f (decide (¬ x = y)) o st
    | _ => none
  | .if_icmp .lt o => match f.2.2.1 with
    | .int y :: .int x :: st => ma_br f (decide (x < y)) o st
    | _ => none
  | .if_icmp .ge o => match f.2.2.1 with
    | .int y :: .int x :: st => ma_br f (decide (y ≤ x)) o st
    | _ => none
  | .if_icmp .gt o => match f.2.2.1 with
    | .int y :: .int x :: st => ma_br f (decide (y < x)) o st
    | _ => none
  | .if_icmp .le o => match f.2.2.1 with
    | .int y :: .int x :: st => ma_br f (decide (x ≤ y)) o st
    | _ => none
  | .goto o => ma_jp f o f.2.2.1
  | .tableswitch df lo hi os => match f.2.2.1 with
    | .int x :: st => if x.toInt < lo ∨ hi < x.toInt then ma_jp f df st else match os[(x.toInt - lo).toNat]? with
      | some o => ma_jp f o st
      | none => none
    | _ => none
  | .lookupswitch df ps => match f.2.2.1 with
    | .int x :: st => ma_jp f (Op.lookupswitch.offset ps.toList df x.toInt) st
    | _ => none
  | .getfield _ => match f.2.2.1 with
    | .ref o :: st => match f.2.2.2.1[o]? with
      | some (.inr (.inr (ci, fs))) => if ci = i.2.2.1 then match fs[i.2.2.2.1]? with
        | some v => ma_go f 3 (v :: st)
        | none => none else none
      | _ => none
    | _ => none
  | .putfield _ => match f.2.2.1 with
    | v :: .ref o :: st => match f.2.2.2.1[o]?, cls[i.2.2.1]? with
      | some (.inr (.inr (ci, fs))), some (_, T, _) =>
        if ci = i.2.2.1 ∧ i.2.2.2.1 < fs.length ∧ ma_vt (T i.2.2.2.1).2.2.1 v = true then some (f.1 + 3, f.2.1, st, f.2.2.2.1.set o (.inr (.inr (ci, fs.set i.2.2.2.1 v))), f.2.2.2.2) else none
      | _, _ => none
    | _ => none
  | .iaload => match f.2.2.1 with
    | .int j :: .ref o :: st => match f.2.2.2.1[o]? with
      | some (.inl (n, g)) => if ma_out j n then none else ma_go f 1 (.int (g j.toNatClampNeg) :: st)
      | _ => none
    | .int j :: .retAddr _ :: st => if ma_out j scr.1 then none else ma_go f 1 (.int (scr.2 j.toNatClampNeg) :: st)
    | _ => none
  | .iastore => match f.2.2.1 with
    | .int x :: .int j :: .ref o :: st => match f.2.2.2.1[o]? with
      | some (.inl (n, g)) => if ma_out j n then none else some (f.1 + 1, f.2.1, st, f.2.2.2.1.set o (.inl (n, upd g j.toNatClampNeg x)), f.2.2.2.2)
      | _ => none
    | _ => none
  | .aaload => match f.2.2.1 with
    | .int j :: .ref o :: st => match f.2.2.2.1[o]? with
      | some (.inr (.inl (n, g))) => if ma_out j n then none else match g j.toNatClampNeg with
        | some r => ma_go f 1 (.ref r :: st)
        | none => none
      | _ => none
    | _ => none
  | .arraylength => match f.2.2.1 with
    | .ref o :: st => match f.2.2.2.1[o]? with
      | some (.inl (n, _)) => ma_go f 1 (.int (Int32.ofNat n) :: st)
      | _ => none
    | .retAddr _ :: st => ma_go f 1 (.int (Int32.ofNat scr.1) :: st)
    | _ => none
  | .newarray .int => match f.2.2.1 with
    | .int n :: st => if n < 0 ∨ 65536 < n.toNatClampNeg then none else some (f.1 + 2, f.2.1, .ref f.2.2.2.1.length :: st, f.2.2.2.1 ++ [.inl (n.toNatClampNeg, fun _ => 0)], f.2.2.2.2.1 + 1, f.2.2.2.2.2 + n.toNatClampNeg)
    | _ => none
  | .multianewarray _ 2 => match f.2.2.1 with
    | .int k :: .int n :: st => if n < 0 ∨ k < 0 ∨ 65536 < n.toNatClampNeg ∨ 65536 < k.toNatClampNeg then none
      else some (f.1 + 4, f.2.1, .ref f.2.2.2.1.length :: st, f.2.2.2.1 ++ .inr (.inl (n.toNatClampNeg, fun j => if j < n.toNatClampNeg then some (f.2.2.2.1.length + 1 + j) else none)) :: List.replicate n.toNatClampNeg (.inl (k.toNatClampNeg, fun _ => 0)),
        f.2.2.2.2.1 + 1 + n.toNatClampNeg, f.2.2.2.2.2 + n.toNatClampNeg + n.toNatClampNeg * k.toNatClampNeg)
    | _ => none
  | .new _ => match cls[i.2.2.1]? with
    | some (_, T, N) => some (f.1 + 3, f.2.1, .ref f.2.2.2.1.length :: f.2.2.1, f.2.2.2.1 ++ [.inr (.inr (i.2.2.1, (List.range N).map fun j => ma_df (T j).2.2.1))], f.2.2.2.2.1 + 1, f.2.2.2.2.2 + N)
    | none => none
  | .invokestatic _ => ma_lib f d i.2.2.1
  | .invokespecial _ => match d, f.2.2.1 with
    | _ + 1, .ref _ :: st => if i.2.2.1 = 5 ∧ st.length ≤ 8 then ma_go f 3 st else none
    | _, _ => none
  | _ => none
/-- a return: what comes back -/
def ma_rt (ret : Option FieldType) (i : ma_I) (f : ma_F) : Option (Option Value) := match i.1 with
  | .ireturn => match f.2.2.1, ret with
    | [.int x], some .int => some (some (.int x))
    | [.int x], some .boolean => if x = 0 ∨ x = 1 then some (some (.int x)) else none
    | _, _ => none
  | .return_ => match f.2.2.1, ret with
    | [], none => some none
    | _, _ => none
  | _ => none
def ma_isr (j : Instr) : Bool := match j with
  | .ireturn => true
  | .return_ => true
  | _ => false
/-- a call of a method of the table: its number -/
def ma_callee (i : ma_I) : Option Nat := match i.1 with
  | .invokestatic _ => if 10 ≤ i.2.2.1 then some (i.2.2.1 - 10) else none
  | .invokevirtual _ => if 10 ≤ i.2.2.1 then some (i.2.2.1 - 10) else none
  | .invokespecial _ => if 10 ≤ i.2.2.1 then some (i.2.2.1 - 10) else none
  | _ => none
/-- may the receiver (of a virtual call) be called so -/
def ma_rcv (i : ma_I) (as : List Value) (σ : ma_S) : Bool := match i.1 with
  | .invokevirtual _ => match as with
    | .ref o :: _ => match σ[o]? with
      | some (.inr (.inr (ci, _))) => decide (ci = i.2.2.2.2 % 100)
      | _ => false
    | _ => false
  | .invokespecial _ => match as with
    | .ref _ :: _ => true
    | _ => false
  | _ => true
def ma_in (my : ma_M) (as : List Value) (σ : ma_S) : ma_F := (0, as.map some ++ List.replicate (my.2.2.1 - as.length) none, [], σ, 0, 0)
def ma_ex (cls : List vw_C) (P : List ma_M) (scr : Nat × (Nat → Int32)) : Nat → Nat → Nat → ma_F → Option (Option Value × ma_S × Nat × Nat)
  | 0, _, _, _ => none
  | n + 1, d, mi, f => match P[mi]? with
    | none => none
    | some mt => match mt.2.2.2.2.2.2.lookup f.1 with
      | none => none
      | some i => match ma_callee i with
        | some cy => match d with
          | 0 => none
          | d' + 1 => match P[cy]? with
            | none => none
            | some my =>
              if f.2.2.1.length < i.2.2.2.1 ∨ 8 + i.2.2.2.1 < f.2.2.1.length ∨ my.2.2.1 < i.2.2.2.1 ∨ ma_rcv i (f.2.2.1.take i.2.2.2.1).reverse f.2.2.2.1 = false then none
              else match ma_ex cls P scr n d' cy (ma_in my (f.2.2.1.take i.2.2.2.1).reverse f.2.2.2.1) with
                | none => none
                | some (r, σ, mc, ms) => ma_ex cls P scr n (d' + 1) mi (f.1 + 3, f.2.1, r.toList ++ f.2.2.1.drop i.2.2.2.1, σ, f.2.2.2.2.1 + mc, f.2.2.2.2.2 + ms)
        | none => if ma_isr i.1 = true then match ma_rt mt.2.2.2.1 i f with
            | none => none
            | some r => some (r, f.2.2.2)
          else match ma_one cls scr d i f with
            | none => none
            | some f' => ma_ex cls P scr n d mi f'
end
section
/-! 20.world: the small machine's store as cells of the heap (draft, not compiled yet) -/
def ma_cv (b sa : Nat) : Value → Value
  | .int x => .int x
  | .ref k => .ref (b + k)
  | .retAddr _ => .ref sa
  | _ => .null
def ma_ce (cI c2 : ClassId) (b sa : Nat) : ma_C → va_E
  | .inl (n, g) => .inl (cI, n, .inl g)
  | .inr (.inl (n, g)) => .inl (c2, n, .inr (.inr (.inr (.inr fun j => (g j).map fun k => b + k))))
  | .inr (.inr (ci, fs)) => .inr (ci, fs.map (ma_cv b sa))
def ma_ws (cI c2 : ClassId) (b sa : Nat) : Nat → ma_S → va_W
  | _, [] => []
  | j, e :: σ => (b + j, ma_ce cI c2 b sa e) :: ma_ws cI c2 b sa (j + 1) σ
theorem ma_cv_cat (b sa : Nat) (v : Value) : (ma_cv b sa v).category = 1 := by cases v <;> rfl
theorem ma_ws_get (cI c2 : ClassId) (b sa : Nat) (σ : ma_S) : ∀ j k : Nat, (ma_ws cI c2 b sa j σ)[k]? = (σ[k]?).map fun e => (b + (j + k), ma_ce cI c2 b sa e) := by
  induction σ with
  | nil => intro j k; simp [ma_ws]
  | cons e σ ih =>
    intro j k
    cases k with
    | zero => simp [ma_ws]
    | succ k =>
      rw [ma_ws, List.getElem?_cons_succ, List.getElem?_cons_succ, ih (j + 1) k, show j + 1 + k = j + (k + 1) by omega]
theorem ma_ws_at {cI c2 : ClassId} {b sa : Nat} {σ : ma_S} {k : Nat} {e : ma_C} (h : σ[k]? = some e) : (ma_ws cI c2 b sa 0 σ)[k]? = some (b + k, ma_ce cI c2 b sa e) := by
  rw [ma_ws_get, h, Option.map_some, Nat.zero_add]
theorem ma_ws_set' (cI c2 : ClassId) (b sa : Nat) (e : ma_C) (σ : ma_S) : ∀ j k : Nat, (ma_ws cI c2 b sa j σ).set k (b + (j + k), ma_ce cI c2 b sa e) = ma_ws cI c2 b sa j (σ.set k e) := by
  induction σ with
  | nil => intro j k; simp [ma_ws]
  | cons x σ ih =>
    intro j k
    cases k with
    | zero => simp [ma_ws]
    | succ k =>
      rw [ma_ws, List.set_cons_succ, List.set_cons_succ, ma_ws, show j + (k + 1) = j + 1 + k by omega, ih (j + 1) k]
theorem ma_ws_set {cI c2 : ClassId} {b sa : Nat} {e : ma_C} {σ : ma_S} {k : Nat} : (ma_ws cI c2 b sa 0 σ).set k (b + k, ma_ce cI c2 b sa e) = ma_ws cI c2 b sa 0 (σ.set k e) := by
  have h := ma_ws_set' cI c2 b sa e σ 0 k
  rwa [Nat.zero_add] at h
theorem ma_ws_app (cI c2 : ClassId) (b sa : Nat) (τ σ : ma_S) : ∀ j : Nat, ma_ws cI c2 b sa j (σ ++ τ) = ma_ws cI c2 b sa j σ ++ ma_ws cI c2 b sa (j + σ.length) τ := by
  induction σ with
  | nil => intro j; simp [ma_ws]
  | cons x σ ih =>
    intro j
    rw [List.cons_append, ma_ws, ma_ws, ih (j + 1), List.cons_append, List.length_cons, show j + 1 + σ.length = j + (σ.length + 1) by omega]
theorem ma_ws_D (cI c2 : ClassId) (b sa : Nat) (σ : ma_S) : va_D (fun q => b ≤ q) (ma_ws cI c2 b sa 0 σ) := by
  have key : ∀ (k : Nat) (q : Nat × va_E), (ma_ws cI c2 b sa 0 σ)[k]? = some q → q.1 = b + k := by
    intro k q h
    rw [ma_ws_get, Option.map_eq_some_iff] at h
    obtain ⟨e, -, h2⟩ := h
    rw [← h2]
    show b + (0 + k) = b + k
    omega
  refine ⟨fun i j x y hx hy h => ?_, fun k q h => ?_⟩
  · have h1 := key i x hx
    have h2 := key j y hy
    omega
  · have h1 := key k q h
    show b ≤ q.1
    omega
/-- the locals -/
def ma_lv (g : Value → Value) : Nat → List (Option Value) → List (Nat × Value)
  | _, [] => []
  | i, none :: L => ma_lv g (i + 1) L
  | i, some v :: L => (i, g v) :: ma_lv g (i + 1) L
theorem ma_lv_mem (g : Value → Value) (L : List (Option Value)) : ∀ (i j : Nat) (w : Value), (j, w) ∈ ma_lv g i L ↔ ∃ k v, L[k]? = some (some v) ∧ j = i + k ∧ w = g v := by
  induction L with
  | nil => intro i j w; simp [ma_lv]
  | cons o L ih =>
    intro i j w
    have key : (j, w) ∈ ma_lv g (i + 1) L ↔ ∃ k v, (o :: L)[k + 1]? = some (some v) ∧ j = i + (k + 1) ∧ w = g v := by
      rw [ih (i + 1) j w]
      constructor
      · rintro ⟨k, v, h1, h2, h3⟩
        exact ⟨k, v, by rw [List.getElem?_cons_succ]; exact h1, by omega, h3⟩
      · rintro ⟨k, v, h1, h2, h3⟩
        rw [List.getElem?_cons_succ] at h1
        exact ⟨k, v, h1, by omega, h3⟩
    cases o with
    | none =>
      rw [ma_lv, key]
      constructor
      · rintro ⟨k, v, h1, h2, h3⟩
        exact ⟨k + 1, v, h1, h2, h3⟩
      · rintro ⟨k, v, h1, h2, h3⟩
        cases k with
        | zero => simp at h1
        | succ k => exact ⟨k, v, h1, h2, h3⟩
    | some u =>
      rw [ma_lv, List.mem_cons, key]
      constructor
      · rintro (h | ⟨k, v, h1, h2, h3⟩)
        · cases h
          exact ⟨0, u, by simp, by omega, rfl⟩
        · exact ⟨k + 1, v, h1, h2, h3⟩
      · rintro ⟨k, v, h1, h2, h3⟩
        cases k with
        | zero =>
          rw [List.getElem?_cons_zero] at h1
          cases h1
          left
          rw [h2, h3, Nat.add_zero]
        | succ k => exact Or.inr ⟨k, v, h1, h2, h3⟩
theorem ma_lv_at {g : Value → Value} {ls : Array Slot} {nL : Nat} {L : List (Option Value)} (h : lv_has ls nL (ma_lv g 0 L)) {j : Nat} {v : Value} (hj : L[j]? = some (some v)) : ls[j]? = some (.val (g v)) :=
  h.2.2 (j, g v) ((ma_lv_mem g L 0 j (g v)).mpr ⟨j, v, hj, by omega, rfl⟩)
theorem ma_lv_put {g : Value → Value} (hg : ∀ v, (g v).category = 1) {ls' : Array Slot} {nL : Nat} {L : List (Option Value)} {j : Nat} {v : Value} (hj : j < L.length)
    (h : lv_has ls' nL ((j, g v) :: (ma_lv g 0 L).filter (fun q => !(q.1 == j) && !(q.1 + 1 == j && q.2.category == 2)))) : lv_has ls' nL (ma_lv g 0 (L.set j (some v))) := by
  refine ⟨h.1, h.2.1, fun q hq => h.2.2 q ?_⟩
  obtain ⟨q1, q2⟩ := q
  obtain ⟨k, u, h1, h2, h3⟩ := (ma_lv_mem g (L.set j (some v)) 0 q1 q2).mp hq
  have e : q1 = k := by omega
  subst e
  by_cases hk : q1 = j
  · subst hk
    rw [List.getElem?_set_self hj] at h1
    cases h1
    rw [h3]
    exact List.mem_cons_self
  · rw [List.getElem?_set_ne (Ne.symm hk)] at h1
    refine List.mem_cons_of_mem _ (List.mem_filter.mpr ⟨(ma_lv_mem g L 0 q1 q2).mpr ⟨q1, u, h1, by omega, h3⟩, ?_⟩)
    have hc : q2.category = 1 := by rw [h3]; exact hg u
    simp [hk, hc]
theorem ma_lv_args (b sa : Nat) (as : List Value) (n : Nat) : ∀ (i : Nat) (q : Nat × Value), q ∈ ma_lv (ma_cv b sa) i (as.map some ++ List.replicate n none) → q ∈ lv_args i (as.map (ma_cv b sa)) := by
  induction as with
  | nil =>
    intro i q h
    exfalso
    obtain ⟨q1, q2⟩ := q
    obtain ⟨k, v, h1, -, -⟩ := (ma_lv_mem _ _ i q1 q2).mp h
    simp [List.getElem?_replicate] at h1
  | cons a as ih =>
    intro i q h
    rw [List.map_cons, List.cons_append, ma_lv, List.mem_cons] at h
    rw [List.map_cons, lv_args, ma_cv_cat, if_neg (by decide), List.mem_cons]
    rcases h with h | h
    · exact Or.inl h
    · exact Or.inr (ih (i + 1) q h)
theorem ma_sl_len (b sa : Nat) (as : List Value) : (lg_sl (as.map (ma_cv b sa))).length = as.length := by
  induction as with
  | nil => rfl
  | cons a as ih =>
    rw [List.map_cons, lg_sl, List.flatMap_cons, List.length_append, ma_cv_cat, if_neg (by decide)]
    have ih' : ((as.map (ma_cv b sa)).flatMap fun v => if v.category = 2 then [Slot.val v, .second] else [.val v]).length = as.length := ih
    rw [ih', List.length_cons, List.length_cons, List.length_nil]
    omega
end
section
/-! 30.sound: what the small machine answers, the real one does -/
def ma_nest (w : Cond) : Bool := match w with
  | .fieldLinkNest _ _ _ _ _ _ => true
  | .methodLinkNest _ _ _ _ => true
  | _ => false
abbrev ma_ty2 (cI c2 : ClassId) : List (ClassId × FieldType) := [(cI, .int), (c2, .array .int)]
/-- what the tables and the script say at a state -/
def ma_N (cls : List vw_C) (NS : List Cond) (D : va_G) (cI c2 : ClassId) (b sa : Nat) (scr : Nat × (Nat → Int32)) (U : State) (H : Heap) : Prop :=
  va_K D cls (ma_ty2 cI c2) U ∧ va_X sa scr.1 scr.2 U H ∧ sa < b ∧ b ≤ H.size ∧ (∃ kA : Class, U.vm.classes[c2]? = some kA ∧ kA.kind = .array cI (.array .int)) ∧ ∀ w ∈ NS, va_Nw w U
def ma_Wd (cls : List vw_C) (D : va_G) (cI c2 : ClassId) (b sa : Nat) (σ : ma_S) (H0 H : Heap) (locs : List Loc) : Prop :=
  H.size = b + σ.length ∧ va_P D cls (ma_ws cI c2 b sa 0 σ) H ∧ va_S (fun q => b ≤ q) H0 H locs
def ma_Pc (cls : List vw_C) (NS : List Cond) (D : va_G) (cI c2 : ClassId) (b sa : Nat) (scr : Nat × (Nat → Int32)) (as : List Value) (σ : ma_S) : Array Value → State → Prop := fun v U =>
  v = (as.map (ma_cv b sa)).toArray ∧ U.heap.size = b + σ.length ∧ va_P D cls (ma_ws cI c2 b sa 0 σ) U.heap ∧ ma_N cls NS D cI c2 b sa scr U U.heap
def ma_Qc (cls : List vw_C) (D : va_G) (cI c2 : ClassId) (b sa : Nat) (r : Option Value) (σ : ma_S) : Array Value → State → Outcome → State → Prop := fun _ st o t =>
  o = .returned (r.map (ma_cv b sa)) ∧ t.heap.size = b + σ.length ∧ va_P D cls (ma_ws cI c2 b sa 0 σ) t.heap ∧ va_F (fun q => b ≤ q) st t
def ma_rm (d mc ms : Nat) : Room := { frames := d, cells := mc, slots := ms, locals := 37 * d }
def ma_wy (my : ma_M) (Ts : List Cond) : List Cond := Cond.code my.1 my.2.1 my.2.2.1 my.2.2.2.1 :: Ts
def ma_Ctx (cls : List vw_C) (Ts NS : List Cond) (D : va_G) (cI c2 : ClassId) (b sa : Nat) (scr : Nat × (Nat → Int32)) (mt : ma_M) (p : Program) (s : State) (m : MethodId) (args : Array Value) (meth : Method) (c : Code) : Prop :=
  p.tables.exec = Jvm.exec ∧ c.code = mt.2.1 ∧ c.maxLocals = mt.2.2.1 ∧ meth.sig.returnType = mt.2.2.2.1 ∧ (∀ w ∈ Ts, w.before args s = true) ∧ s.vm.findClass mt.1.cls = some m.cls ∧ meth.locks = false ∧ meth.name = mt.1.name ∧ ma_N cls NS D cI c2 b sa scr s s.heap
/-- how long an instruction is -/
def ma_nl (j : Instr) (n : Nat) : Bool := match j with
  | .bipush _ => n == 2
  | .sipush _ => n == 3
  | .iload _ => n == 2
  | .aload _ => n == 2
  | .istore _ => n == 2
  | .astore _ => n == 2
  | .iinc _ _ => n == 3
  | .ifCond _ _ => n == 3
  | .if_icmp _ _ => n == 3
  | .goto _ => n == 3
  | .getfield _ => n == 3
  | .putfield _ => n == 3
  | .new _ => n == 3
  | .invokestatic _ => n == 3
  | .invokevirtual _ => n == 3
  | .invokespecial _ => n == 3
  | .newarray _ => n == 2
  | .multianewarray _ _ => n == 4
  | .tableswitch _ _ _ _ => true
  | .lookupswitch _ _ => true
  | _ => n == 1
/-- a class of the table is as the machine takes it -/
def ma_okC (q : vw_C) : Bool :=
  (List.range q.2.2).all (fun j => (match parseFieldDescriptor (q.2.1 j).2.2.1 with
    | some .int => decide ((q.2.1 j).2.2.1 = "I")
    | some (.object _) => decide (¬ (q.2.1 j).2.2.1 = "I")
    | some (.array _) => decide (¬ (q.2.1 j).2.2.1 = "I")
    | _ => false) && decide ((q.2.1 j).1 = q.1) && (List.range q.2.2).all fun k => decide (j = k) || decide (¬ (q.2.1 j).2.1 = (q.2.1 k).2.1))
/-- the words that an entry's link wants -/
def ma_wd (cls : List vw_C) (P : List ma_M) (mt : ma_M) (i : ma_I) : List Cond := match i.1 with
  | .getfield ix => match i.2.2.2.2, cls[i.2.2.1]? with
    | 0, some (C, T, _) => [.fieldLink mt.1.cls ix C (T i.2.2.2.1).2.1 (T i.2.2.2.1).2.2.1]
    | _, _ => []
  | .putfield ix => match i.2.2.2.2, cls[i.2.2.1]? with
    | 0, some (C, T, _) => [.fieldLink mt.1.cls ix C (T i.2.2.2.1).2.1 (T i.2.2.2.1).2.2.1]
    | _, _ => []
  | .new ix => match cls[i.2.2.1]? with
    | some (C, _, N) => [.classLink mt.1.cls ix C, .instantiable C N, .initialized C]
    | none => []
  | .newarray .int => [.arrayClass .int]
  | .multianewarray ix 2 => [.classLink mt.1.cls ix "[[I", .arrayClass .int]
  | .invokestatic ix => match i.2.2.1 with
    | 1 => [.methodLink mt.1.cls ix Lib.Math.max.name, .static Lib.Math.max.name, .initialized "java/lang/Math", .code Lib.Math.max.name Lib.Math.max.code 2 (some .int)]
    | 2 => [.methodLink mt.1.cls ix Lib.Math.min.name, .static Lib.Math.min.name, .initialized "java/lang/Math", .code Lib.Math.min.name Lib.Math.min.code 2 (some .int)]
    | 3 => [.methodLink mt.1.cls ix Lib.Math.abs.name, .static Lib.Math.abs.name, .initialized "java/lang/Math", .code Lib.Math.abs.name Lib.Math.abs.code 1 (some .int)]
    | 4 => [.methodLink mt.1.cls ix arraycopyName, .native arraycopyName, .static arraycopyName, .initialized "java/lang/System"]
    | a => match P[a - 10]?, i.2.2.2.2 / 100 with
      | some my, 0 => [.static my.1, .methodLink mt.1.cls ix my.1]
      | some my, _ => [.static my.1]
      | none, _ => []
  | .invokevirtual ix => match P[i.2.2.1 - 10]?, i.2.2.2.2 / 100 with
    | some my, 0 => [.instanceMethod my.1, .selects my.1.cls my.1 my.1, .methodLink mt.1.cls ix my.1]
    | some my, _ => [.instanceMethod my.1, .selects my.1.cls my.1 my.1]
    | none, _ => []
  | .invokespecial ix => if i.2.2.1 = 5 then [.methodLink mt.1.cls ix Lib.objectInit, .instanceMethod Lib.objectInit, .code Lib.objectInit ⟨#[0xb1]⟩ 1 none]
    else match P[i.2.2.1 - 10]?, i.2.2.2.2 / 100 with
    | some my, 0 => [.instanceMethod my.1, .methodLink mt.1.cls ix my.1]
    | some my, _ => [.instanceMethod my.1]
    | none, _ => []
  | _ => []
/-- the nest mates' words that an entry's link wants -/
def ma_wn (hs : String) (cls : List vw_C) (P : List ma_M) (mt : ma_M) (i : ma_I) : List Cond := match i.1 with
  | .getfield ix => match i.2.2.2.2, cls[i.2.2.1]? with
    | _ + 1, some (C, T, _) => [.fieldLinkNest mt.1.cls ix C (T i.2.2.2.1).2.1 (T i.2.2.2.1).2.2.1 hs]
    | _, _ => []
  | .putfield ix => match i.2.2.2.2, cls[i.2.2.1]? with
    | _ + 1, some (C, T, _) => [.fieldLinkNest mt.1.cls ix C (T i.2.2.2.1).2.1 (T i.2.2.2.1).2.2.1 hs]
    | _, _ => []
  | .invokestatic ix => match P[i.2.2.1 - 10]?, i.2.2.2.2 / 100 with
    | some my, _ + 1 => [.methodLinkNest mt.1.cls ix my.1 hs]
    | _, _ => []
  | .invokevirtual ix => match P[i.2.2.1 - 10]?, i.2.2.2.2 / 100 with
    | some my, _ + 1 => [.methodLinkNest mt.1.cls ix my.1 hs]
    | _, _ => []
  | .invokespecial ix => match P[i.2.2.1 - 10]?, i.2.2.2.2 / 100 with
    | some my, _ + 1 => [.methodLinkNest mt.1.cls ix my.1 hs]
    | _, _ => []
  | _ => []
/-- what else an entry's numbers must be -/
def ma_lk (cls : List vw_C) (P : List ma_M) (mt : ma_M) (i : ma_I) : Bool := match i.1 with
  | .getfield _ => match cls[i.2.2.1]? with
    | some q => decide (i.2.2.2.1 < q.2.2)
    | none => false
  | .putfield _ => match cls[i.2.2.1]? with
    | some q => decide (i.2.2.2.1 < q.2.2) && (!(q.2.1 i.2.2.2.1).2.2.2 || (decide (mt.1.name = "<init>") && decide (q.1 = mt.1.cls)))
    | none => false
  | .invokestatic _ => decide (i.2.2.1 < 10) || (match P[i.2.2.1 - 10]? with
    | some my => decide (i.2.2.2.1 = my.2.2.2.2.1) && decide (11 ≤ i.2.2.1)
    | none => false)
  | .invokevirtual _ => match P[i.2.2.1 - 10]? with
    | some my => decide (i.2.2.2.1 = my.2.2.2.2.1 + 1) && decide (i.2.2.2.2 % 100 = my.2.2.2.2.2.1) && decide (11 ≤ i.2.2.1)
    | none => false
  | .invokespecial _ => decide (i.2.2.1 < 10) || (match P[i.2.2.1 - 10]? with
    | some my => decide (i.2.2.2.1 = my.2.2.2.2.1 + 1) && decide (my.1.name = "<init>") && my.2.2.2.1.isNone && decide (11 ≤ i.2.2.1)
    | none => false)
  | .lookupswitch _ ps => (ps.toList.zip (ps.toList.drop 1)).all (fun (a, next) => a.1 < next.1)
  | _ => true
def ma_okM (cls : List vw_C) (P : List ma_M) (mt : ma_M) : Bool :=
  plainFor mt.1 && decide (mt.1.cls ≠ "java/lang/invoke/MethodHandle") && decide (mt.1.cls ≠ "java/lang/invoke/VarHandle") && decide (mt.2.2.1 ≤ 18) && decide ((parseMethodDescriptor mt.1.desc).map (fun d => d.parameters.length) = some mt.2.2.2.2.1) && (match cls[mt.2.2.2.2.2.1]? with
    | some q => decide (q.1 = mt.1.cls)
    | none => true) &&
  mt.2.2.2.2.2.2.all (fun x => (match decode mt.2.1 x.1 with
    | .ok (j, n) => decide (j = x.2.1) && decide (n = x.2.2.1)
    | _ => false) && ma_nl x.2.1 x.2.2.1 && ma_lk cls P mt x.2)
def ma_wm (cls : List vw_C) (P : List ma_M) (mt : ma_M) : List Cond := mt.2.2.2.2.2.2.flatMap fun x => ma_wd cls P mt x.2
def ma_wnm (hs : String) (cls : List vw_C) (P : List ma_M) (mt : ma_M) : List Cond := mt.2.2.2.2.2.2.flatMap fun x => ma_wn hs cls P mt x.2
/-- all that a program decides -/
def ma_Ok (hs : String) (cls : List vw_C) (Ts NS : List Cond) (P : List ma_M) : Prop :=
  (∀ q ∈ cls, ma_okC q = true ∧ ∀ w ∈ u_ws q.1 q.2.1 q.2.2, w ∈ Ts) ∧ (∀ w ∈ Ts, (w.onTables && w.keeps) = true ∨ ∃ ty, w = .arrayClass ty) ∧ (∀ w ∈ NS, ma_nest w = true) ∧ (∀ mt ∈ P, ma_okM cls P mt = true ∧ (∀ w ∈ ma_wm cls P mt, w ∈ Ts) ∧ ∀ w ∈ ma_wnm hs cls P mt, w ∈ NS) ∧ ∀ (i : Nat) (my : ma_M), P[i + 1]? = some my → Cond.code my.1 my.2.1 my.2.2.1 my.2.2.2.1 ∈ Ts ∧ Cond.initialized my.1.cls ∈ Ts
theorem ma_N.warm {cls : List vw_C} {NS : List Cond} {D : va_G} {cI c2 : ClassId} {b sa : Nat} {scr : Nat × (Nat → Int32)} (hNS : ∀ w ∈ NS, ma_nest w = true) {s U : State} {H0 H : Heap} {locs : List Loc} (h : ma_N cls NS D cI c2 b sa scr s H0) (hW : s.WarmedH U.vm) (hS : va_S (fun q => b ≤ q) H0 H locs) : ma_N cls NS D cI c2 b sa scr U H := by
  obtain ⟨hK, hX, h1, h2, ⟨kA, hkA, hkd⟩, hN⟩ := h
  refine ⟨va_K.moved hW.alike hK, (hX.kept (hS.2.1 sa (by omega) (by show ¬ b ≤ sa; omega))).moved hW.alike, h1, Nat.le_trans h2 hS.1, ?_, fun w hw => ?_⟩
  · obtain ⟨k', hk', he⟩ := hW.alike.2.2 _ _ hkA
    exact ⟨k', hk', by rw [he]; exact hkd⟩
  have hn := hNS w hw
  have hz := hN w hw
  cases w with
  | fieldLinkNest a i r n d h => exact va_Nw.warmF hW hz
  | methodLinkNest a i x h => exact va_Nw.warmM hW hz
  | _ => simp [ma_nest] at hn
theorem ma_blind (cls : List vw_C) (NS : List Cond) (hNS : ∀ w ∈ NS, ma_nest w = true) (D : va_G) (cI c2 : ClassId) (b sa : Nat) (scr : Nat × (Nat → Int32)) (as : List Value) (σ : ma_S) : FrameBlind (ma_Pc cls NS D cI c2 b sa scr as σ) := by
  intro a U g mk h
  obtain ⟨h1, h2, h3, hK, hX, h5, h6, hA, hN⟩ := h
  refine ⟨h1, h2, h3, va_K.moved (u := U) (U := U.calling g mk a) (Vm.Alike.refl U.vm) hK, va_X.moved (u := U) (U := U.calling g mk a) (Vm.Alike.refl U.vm) hX, h5, h6, hA, fun w hw => ?_⟩
  have hn := hNS w hw
  refine va_Nw.same ?_ (u := U) (U := U.calling g mk a) rfl (hN w hw)
  cases w with
  | fieldLinkNest => rfl
  | methodLinkNest => rfl
  | _ => simp [ma_nest] at hn
section MSD
variable {p : Program} {l : Launch} {e : Env} {R : Room} {s : State} {m : MethodId} {args : Array Value} {below : List Frame} {meth : Method} {c : Code} {H : Heap} {locs : List Loc} {cells slots : Nat} {Q : State → Prop}
variable {cls : List vw_C} {Ts NS : List Cond} {D : va_G} {cI c2 : ClassId} {b sa : Nat} {scr : Nat × (Nat → Int32)} {σ : ma_S}
variable {cc : ByteArray} {pc : Nat} {ls : Array Slot} {rest : List Value} {H0 : Heap}
/-- a cell of the store is another one: all else stays -/
theorem ma_Wd.put {H1 : Heap} {o k : Nat} {e0 e1 : ma_C} (h : ma_Wd cls D cI c2 b sa σ H0 H locs) (ho : σ[o]? = some e0) (he : va_at D cls (b + o, ma_ce cI c2 b sa e1) H1) (hz : H1.size = H.size) (oq : ∀ q : Nat, q ≠ b + o → H1[q]? = H[q]?) : ma_Wd cls D cI c2 b sa (σ.set o e1) H0 H1 (locs ++ [⟨b + o, k⟩]) := by
  obtain ⟨h1, h2, h3⟩ := h
  refine ⟨by rw [hz, h1, List.length_set], ?_, h3.put hz oq (Nat.le_add_right b o)⟩
  rw [← ma_ws_set]
  exact h2.set (ma_ws_D cI c2 b sa σ) (ma_ws_at ho) he oq
/-- a new cell -/
theorem ma_Wd.push {H1 : Heap} {e1 : ma_C} (hb0 : b ≤ H0.size) (h : ma_Wd cls D cI c2 b sa σ H0 H locs) (he : va_at D cls (b + σ.length, ma_ce cI c2 b sa e1) H1) (hz : H1.size = H.size + 1) (oq : ∀ q : Nat, q < H.size → H1[q]? = H[q]?) : ma_Wd cls D cI c2 b sa (σ ++ [e1]) H0 H1 locs := by
  obtain ⟨h1, h2, h3⟩ := h
  refine ⟨by rw [hz, h1, List.length_append, List.length_cons, List.length_nil]; omega, ?_, Nat.le_trans h3.1 (by omega), fun q g1 g2 => (oq q (Nat.lt_of_lt_of_le g1 h3.1)).trans (h3.2.1 q g1 g2), h3.2.2⟩
  rw [ma_ws_app, Nat.zero_add]
  refine (h2.kept fun k q hq => oq q.1 ((h2 k q hq).lt)).app fun k q hq => ?_
  rw [ma_ws, ma_ws] at hq
  have hk : k < 1 := (List.getElem?_eq_some_iff.mp hq).1
  rw [show k = 0 by omega] at hq
  cases hq
  exact he
theorem ma_iast (hexec : p.tables.exec = Jvm.exec) (hb : c.code = cc) (hK : va_K D cls (ma_ty2 cI c2) s) (hw : ma_Wd cls D cI c2 b sa σ H0 H locs) {o n : Nat} {f : Nat → Int32} (ho : σ[o]? = some (.inl (n, f))) {i x : Int32} (hin : vp_in i n) (hdg : decode cc pc = .ok (.iastore, 1))
    (kk : ∀ (H1 : Heap) (locs1 : List Loc), ma_Wd cls D cI c2 b sa (σ.set o (.inl (n, upd f i.toNatClampNeg x))) H0 H1 locs1 → W p l e R s m args below meth c H1 locs1 cells slots Q (F0 m (pc + 1) ls rest)) : W p l e R s m args below meth c H locs cells slots Q (F0 m pc ls (.int x :: .int i :: .ref (b + o) :: rest)) := by
  have hc : H[b + o]? = some (vp_cell cI (n, .inl f)) := hw.2.1 o _ (ma_ws_at ho)
  refine W.iast hexec hb hc ((hK.2 0 _ rfl).1 n (fun j => .int (f j))) (fun q => by cases q) (by show ¬ (i < 0 ∨ (arrV _ _ _).slots.size ≤ _); rw [arrV_size]; exact hin) rfl rfl hdg fun H1 e1 z oq => ?_
  refine kk H1 _ (hw.put ho ?_ z oq)
  show H1[b + o]? = some (vp_cell cI (n, .inl (upd f i.toNatClampNeg x)))
  rw [e1, vp_cell_i, vp_cell_i, arrV_store]
  congr 2
  funext q
  by_cases hq : q = i.toNatClampNeg <;> simp [updV, upd, hq]
theorem ma_putf (hexec : p.tables.exec = Jvm.exec) (hb : c.code = cc) {own C : String} {T : u_T} {N ci index : Nat} (hts : ∀ w ∈ Ts, w.before args s = true) (hin : ∀ w ∈ u_ws C T N, w ∈ Ts) (ty0 : Nat → FieldType) (hty : ∀ k, k < N → parseFieldDescriptor (T k).2.2.1 = some (ty0 k)) (hnm : ∀ a, a < N → ∀ b, b < N → a ≠ b → (T a).2.1 ≠ (T b).2.1) (hown : s.vm.findClass own = some m.cls) (hK : va_K D cls (ma_ty2 cI c2) s)
    (hw : ma_Wd cls D cI c2 b sa σ H0 H locs) {o : Nat} {fs : List Value} (ho : σ[o]? = some (.inr (.inr (ci, fs)))) (hc : cls[ci]? = some (C, T, N)) (k : Nat) (hk : k < N) (hdc : (T k).1 = C) (hlink : (Cond.fieldLink own index C (T k).2.1 (T k).2.2.1).before args s = true ∨ ∃ host, (Cond.fieldLinkNest own index C (T k).2.1 (T k).2.2.1 host).before args s = true)
    (hfin : (T k).2.2.2 = false ∨ (meth.name = "<init>" ∧ C = own)) {v : Value} (hn : narrow (ty0 k) (ma_cv b sa v) = ma_cv b sa v) (hfit : fits (ty0 k) (ma_cv b sa v) = true) (hl : k < fs.length) (hdg : decode cc pc = .ok (.putfield index, 3))
    (kk : ∀ (H1 : Heap) (locs1 : List Loc), ma_Wd cls D cI c2 b sa (σ.set o (.inr (.inr (ci, fs.set k v)))) H0 H1 locs1 → W p l e R s m args below meth c H1 locs1 cells slots Q (F0 m (pc + 3) ls rest)) : W p l e R s m args below meth c H locs cells slots Q (F0 m pc ls (ma_cv b sa v :: .ref (b + o) :: rest)) := by
  have hap := va_apart (own := own) hts hin ty0 hty hnm hK hc
  obtain ⟨r, h1, cell, q1, q2, q3, q4⟩ := hw.2.1 o _ (ma_ws_at ho)
  have hr : r = (C, T, N) := Option.some.inj (h1.symm.trans hc)
  subst hr
  obtain ⟨hS, hfc, kC, hkC, hkind⟩ := hK.1 ci _ hc
  obtain ⟨cf, kf, fi, f, hi, hsl⟩ := hS k hk
  have hlays := u_lays hts hin hk
  have hst := (u_facts hfc hkC hlays hi).1
  have h6 := u_fits hfc hkC hkind hlays hi (hty k hk) hn hfit
  have hi' : s.fieldFound? C (T k).2.1 (T k).2.2.1 = some (cf, kf, fi, f) := by rw [← hdc]; exact hi
  have hfl : hasFlag f.accessFlags Acc.final = false ∨ (m.cls = cf ∧ meth.name = "<init>") := by
    have hlay := hts _ (hin _ (u_in_lay hk))
    unfold u_lay at hlay
    by_cases hf : (T k).2.2.2 = true
    · rw [if_pos hf] at hlay
      rcases hfin with h | ⟨h7, h8⟩
      · rw [hf] at h; cases h
      · obtain ⟨_, _, c', _, _, _, -, -, hf', -, -, -, hown2, -⟩ := Cond.laysFinal_spec hlay
        have e1 : c' = cf := by have := hi.symm.trans hf'; simp at this; exact this.1.symm
        rw [hdc, h8] at hown2
        exact Or.inr ⟨by rw [← e1]; exact Option.some.inj (hown.symm.trans hown2), h7⟩
    · rw [if_neg hf] at hlay
      exact Or.inl (u_store hfc hkC hkind hlay hi (hty k hk) hn hfit).1
  have hlt : b + o < H.size := (Array.getElem?_eq_some_iff.mp q1).1
  have hkn : cell.vm ≠ .unknown := by rw [q3]; exact fun h => by cases h
  have hsz : f.slot < cell.slots.size := by rw [hsl]; exact k2_hasslot (q4 k hk)
  have hfs : s.fitsSlot cell.cls cell.vm f.slot (ma_cv b sa v) = true := by rw [q2, q3]; exact h6.2
  have hgo : W p l e R s m args below meth c (H.setIfInBounds (b + o) (cell.setSlot f.slot (ma_cv b sa v))) (locs ++ [⟨b + o, f.slot⟩]) cells slots Q (F0 m (pc + 3) ls rest) := by
    refine kk _ _ (hw.put ho ?_ (by simp) fun q hq => by simp [Array.getElem?_setIfInBounds, Ne.symm hq])
    show va_at D cls (b + o, .inr (ci, (fs.set k v).map (ma_cv b sa))) _
    rw [List.map_set]
    refine ⟨_, hc, t_OB.to (V := updV (vp_V (fs.map (ma_cv b sa))) k (ma_cv b sa v)) ⟨cell.setSlot f.slot (ma_cv b sa v), ?_, q2, q3, ?_⟩ fun j _ => vp_updV_set (by rw [List.length_map]; exact hl) _ j⟩
    · simp [Array.getElem?_setIfInBounds, hlt]
    · rw [hsl]
      exact t_set q4 hap hk _
  rcases hlink with h | ⟨host, h⟩
  · exact W.putf hexec hb hown h hi' hst hfl q1 hkn hsz h6.1 hfs rfl rfl hdg hgo
  · exact va_Wputf hexec hb hown h hi' hst hfl q1 hkn hsz h6.1 hfs rfl rfl hdg hgo
/-- behind a call -/
theorem ma_run {r : Option Value} {σ' : ma_S} {st0 : List Value} {mc ms : Nat} {a : Array Value} (hr : va_Run p l e R s m args below meth c H locs cells slots mc ms (F0 m pc ls st0) rest (ma_Qc cls D cI c2 b sa r σ' a) (fun q => b ≤ q)) (hw : ma_Wd cls D cI c2 b sa σ s.heap H locs)
    (kk : ∀ (H1 : Heap) (locs1 : List Loc), ma_Wd cls D cI c2 b sa σ' s.heap H1 locs1 → W p l e R s m args below meth c H1 locs1 (cells + mc) (slots + ms) Q (F0 m (pc + 3) ls ((r.map (ma_cv b sa)).toList ++ rest))) : W p l e R s m args below meth c H locs cells slots Q (F0 m pc ls st0) := by
  intro T hT X
  obtain ⟨v, st₀, t, T', L, h0, X', hL, e1, e2, ⟨hv, hz, hP, hF1, hF2⟩, st⟩ := hr T hT X
  have hv' : v = r.map (ma_cv b sa) := Outcome.returned.inj hv
  subst hv'
  rw [h0] at hF1 hF2
  obtain ⟨-, -, hS⟩ := hw
  obtain ⟨t2, a1, b1⟩ := kk T'.heap (locs ++ L) ⟨by rw [e1]; exact hz, by rw [e1]; exact hP, Nat.le_trans hS.1 (by rw [e1]; exact hF1), fun q g1 g2 => by rw [e1, hF2 q (Nat.lt_of_lt_of_le g1 hS.1) g2]; exact hS.2.1 q g1 g2, fun q hq => by
    rcases List.mem_append.mp hq with h | h
    · exact hS.2.2 q h
    · exact hL q h⟩ T' rfl X'
  exact ⟨t2, st t2 a1, b1⟩
end MSD
end
section
/-! 35.rows: rows of my own for the small machine: two-dimensional arrays, System.arraycopy, new cells -/
def ma_mo (cA : ClassId) (N h0 i : Nat) : Cell := arrV cA N (fun j => if j < i then .ref (h0 + 1 + j) else .null)
def ma_mi (comp : ClassId) (M : Nat) : Cell := arrV comp M (fun _ => .int 0)
/-- the rows of a two-dimensional array come one by one -/
def ma_mf (s : State) (cA comp : ClassId) (N M : Nat) : Nat → State
  | 0 => s.pushCell (ma_mo cA N s.heap.size 0)
  | i + 1 => ((ma_mf s cA comp N M i).pushCell (ma_mi comp M)).setCell s.heap.size (ma_mo cA N s.heap.size (i + 1))
theorem ma_mo_set (cA : ClassId) (N h0 i : Nat) : (ma_mo cA N h0 i).setSlot i (.ref (h0 + 1 + i)) = ma_mo cA N h0 (i + 1) := by
  unfold ma_mo
  rw [arrV_store]
  congr 1
  funext j
  by_cases h : j = i
  · subst h
    simp [updV]
  · have e : (j < i + 1) = (j < i) := propext ⟨fun q => by omega, fun q => by omega⟩
    simp [updV, h, e]
theorem ma_mf_at (s : State) (cA comp : ClassId) (N M : Nat) : ∀ i : Nat, (ma_mf s cA comp N M i).heap.size = s.heap.size + 1 + i ∧ (ma_mf s cA comp N M i).heap[s.heap.size]? = some (ma_mo cA N s.heap.size i) ∧ (∀ q : Nat, q < s.heap.size → (ma_mf s cA comp N M i).heap[q]? = s.heap[q]?) ∧
    (∀ j : Nat, j < i → (ma_mf s cA comp N M i).heap[s.heap.size + 1 + j]? = some (ma_mi comp M)) ∧ (ma_mf s cA comp N M i).vm = s.vm ∧ (ma_mf s cA comp N M i).slotsUsed = s.slotsUsed + N + i * M := by
  intro i
  induction i with
  | zero => exact ⟨by simp [ma_mf], by simp [ma_mf], fun q hq => State.heap_pushCell_of_lt _ _ hq, fun j hj => absurd hj (Nat.not_lt_zero _), rfl, by simp [ma_mf, ma_mo, arrV_size]⟩
  | succ i ih =>
    obtain ⟨h1, h2, h3, h4, h5, h6⟩ := ih
    have hl : s.heap.size < (ma_mf s cA comp N M i).heap.size := by omega
    have h7 : ((ma_mf s cA comp N M i).pushCell (ma_mi comp M)).heap[s.heap.size]? = some (ma_mo cA N s.heap.size i) := by rw [State.heap_pushCell_of_lt _ _ hl]; exact h2
    have hm : (ma_mi comp M).slots.size = M := arrV_size _ _ _
    refine ⟨?_, State.heap_setCell_self h7, fun q hq => ?_, fun j hj => ?_, h5, ?_⟩
    · simp [ma_mf, State.setCell, h1]
      omega
    · show (((ma_mf s cA comp N M i).pushCell (ma_mi comp M)).setCell s.heap.size _).heap[q]? = _
      rw [heapAt_setCell_ne _ (Nat.ne_of_gt hq), State.heap_pushCell_of_lt _ _ (Nat.lt_trans hq hl)]
      exact h3 q hq
    · show (((ma_mf s cA comp N M i).pushCell (ma_mi comp M)).setCell s.heap.size _).heap[s.heap.size + 1 + j]? = _
      rw [heapAt_setCell_ne _ (show s.heap.size ≠ s.heap.size + 1 + j by omega)]
      by_cases hji : j < i
      · rw [State.heap_pushCell_of_lt _ _ (show s.heap.size + 1 + j < (ma_mf s cA comp N M i).heap.size by omega)]
        exact h4 j hji
      · have e : s.heap.size + 1 + j = (ma_mf s cA comp N M i).heap.size := by omega
        rw [e]
        exact State.heap_pushCell_size _ _
    · have e : (ma_mf s cA comp N M (i + 1)).slotsUsed = (ma_mf s cA comp N M i).slotsUsed + (ma_mi comp M).slots.size := by simp [ma_mf]
      rw [e, h6, hm, Nat.succ_mul]
      omega
theorem ma_mf_top (s : State) (g : JFrame) (cA comp : ClassId) (N M : Nat) : ∀ i : Nat, ma_mf (s.setTop g) cA comp N M i = (ma_mf s cA comp N M i).setTop g := by
  intro i
  induction i with
  | zero => rfl
  | succ i ih => simp only [ma_mf, ih, State.heap_setTop, State.pushCell_setTop, State.setCell_setTop]
theorem ma_wpn {E : CtlPost} {e : Env} {d : Bool} {acts : List Action} {s : State} {cA comp : ClassId} {k : Class} {ty : FieldType} {len : Nat} {v : Value} (hk : s.vm.classes[cA]? = some k) (hkind : k.kind = .array comp ty) (hl : len ≤ e.platform.arrayLengthLimit) (hh : len * componentBytes ty ≤ e.platform.maxHeapBytes)
    (hf : fits ty v = true) (hd : v.isDefault = true) (h1 : s.heap.size < e.platform.maxCells) (h2 : s.slotsUsed + len ≤ e.platform.maxSlots) {Q : Addr → Pre} (hq : Q s.heap.size d acts (s.pushCell (arrV cA len fun _ => v))) : Sem.wp (Jvm.newArray cA len v) Q E e d acts s := by
  rw [← arrV_new] at hq
  have hfs : ∀ i w, (Array.replicate len v)[i]? = some w → s.fitsSlot cA .none i w = true := by
    intro i w hw
    rw [Array.getElem?_replicate] at hw
    split at hw
    · cases hw
      simp [State.fitsSlot, State.slotType?, hk, hkind, hf]
    · cases hw
  have ha : allocActs (Array.replicate len v) s.heap.size acts = acts := by
    unfold allocActs
    rw [if_pos]
    rw [Array.all_replicate]
    split <;> simp [hd]
  have n1 : ¬ len > e.platform.arrayLengthLimit := by omega
  have n2 : ¬ len * componentBytes ty > e.platform.maxHeapBytes := by omega
  simp only [Jvm.newArray, Jvm.arrayFits, Sem.wp_bind', Jvm.W.ask, Jvm.W.ite, n1, n2, if_false, Sem.wp_pure', Jvm.W.theClass, hk, hkind, Jvm.W.alloc, Jvm.W.stop, Option.some.injEq, exists_eq_left', Array.size_replicate, ha]
  rw [if_neg (by omega)]
  exact ⟨h1, h2, hfs, hq⟩
theorem ma_wpm {E : CtlPost} {e : Env} {d : Bool} {acts : List Action} {s : State} {cA comp cc : ClassId} {k kc : Class} {n m : Int32} (hk : s.vm.classes[cA]? = some k) (hkind : k.kind = .array comp (.array .int)) (hkc : s.vm.classes[comp]? = some kc) (hkindc : kc.kind = .array cc .int) (hn : ¬ n < 0) (hm : ¬ m < 0)
    (hl1 : n.toNatClampNeg ≤ e.platform.arrayLengthLimit) (hh1 : n.toNatClampNeg * 4 ≤ e.platform.maxHeapBytes) (hl2 : m.toNatClampNeg ≤ e.platform.arrayLengthLimit) (hh2 : m.toNatClampNeg * 4 ≤ e.platform.maxHeapBytes)
    (h1 : s.heap.size + 1 + n.toNatClampNeg ≤ e.platform.maxCells) (h2 : s.slotsUsed + n.toNatClampNeg + n.toNatClampNeg * m.toNatClampNeg ≤ e.platform.maxSlots) {Q : Addr → Pre} (hq : ∀ d' acts', Q s.heap.size d' acts' (ma_mf s cA comp n.toNatClampNeg m.toNatClampNeg n.toNatClampNeg)) : Sem.wp (Op.multianewarray.make cA [n, m]) Q E e d acts s := by
  have hz : ([m].find? (· < 0)) = none := by simp [hm]
  rw [Op.multianewarray.make]
  simp only [Sem.wp_bind', Jvm.W.ite, hn, if_false, Sem.wp_pure', Jvm.W.theClass, hk, hkind, Option.some.injEq, exists_eq_left']
  have hz2 : s.slotsUsed + n.toNatClampNeg ≤ e.platform.maxSlots := Nat.le_trans (Nat.le_add_right _ _) h2
  refine ma_wpn hk hkind hl1 hh1 rfl rfl (by omega) hz2 ?_
  simp only [hz]
  rw [ite_self, Sem.wp_bind', Std.Legacy.Range.forIn_eq_forIn_range']
  have hs : ([:n.toNatClampNeg] : Std.Legacy.Range).size = n.toNatClampNeg := by simp [Std.Legacy.Range.size]
  rw [hs]
  show Sem.wp (forIn (List.range' 0 n.toNatClampNeg 1) PUnit.unit _) _ E e d acts _
  refine Jvm.wp_forIn_inv (fun rest s' => ∃ i, i ≤ n.toNatClampNeg ∧ rest = List.range' i (n.toNatClampNeg - i) ∧ s' = ma_mf s cA comp n.toNatClampNeg m.toNatClampNeg i) _ _ ⟨0, Nat.zero_le _, rfl, ?_⟩ ?_ ?_
  · show s.pushCell _ = s.pushCell _
    congr 1
  · rintro x rest s' d' acts' Q' ⟨i, hi, hl, rfl⟩ hnext
    have hlt : i < n.toNatClampNeg := by
      apply Nat.lt_of_not_le
      intro hge
      rw [Nat.sub_eq_zero_of_le hge] at hl
      cases hl
    have hl' : x :: rest = i :: List.range' (i + 1) (n.toNatClampNeg - (i + 1)) := by
      rw [hl, show n.toNatClampNeg - i = (n.toNatClampNeg - (i + 1)) + 1 by omega, List.range'_succ]
    obtain ⟨rfl, hr⟩ := List.cons.inj hl'
    obtain ⟨g1, g2, g3, g4, g5, g6⟩ := ma_mf_at s cA comp n.toNatClampNeg m.toNatClampNeg x
    have hmul : x * m.toNatClampNeg + m.toNatClampNeg ≤ n.toNatClampNeg * m.toNatClampNeg := by
      rw [← Nat.succ_mul]
      exact Nat.mul_le_mul_right _ hlt
    simp only [Sem.wp_bind']
    rw [Op.multianewarray.make]
    simp only [Sem.wp_bind', Jvm.W.ite, hm, if_false, Sem.wp_pure', Jvm.W.theClass, g5, hkc, hkindc, Option.some.injEq, exists_eq_left']
    refine ma_wpn (by rw [g5]; exact hkc) hkindc hl2 hh2 rfl rfl (by rw [g1]; omega) (by rw [g6]; omega) ?_
    have hl0 : s.heap.size < (ma_mf s cA comp n.toNatClampNeg m.toNatClampNeg x).heap.size := by rw [g1]; omega
    simp only [Sem.wp_bind', Jvm.W.writeLoc, Sem.wp_pure']
    refine ⟨ma_mo cA n.toNatClampNeg s.heap.size x, by rw [State.heap_pushCell_of_lt _ _ hl0]; exact g2, by simp [ma_mo, arrV], by rw [ma_mo, arrV_size]; exact hlt, ?_, hnext _ _ _ ⟨x + 1, hlt, hr, ?_⟩⟩
    · simp [State.fitsSlot, State.slotType?, g5, hk, hkind, ma_mo, arrV, fits]
    · rw [g1, ma_mo_set]
      rfl
  · rintro s' d' acts' ⟨i, hi, hl, rfl⟩
    have hin : i = n.toNatClampNeg := by
      apply Nat.le_antisymm hi
      apply Nat.le_of_not_lt
      intro hlt
      rw [show n.toNatClampNeg - i = (n.toNatClampNeg - (i + 1)) + 1 by omega, List.range'_succ] at hl
      cases hl
    subst hin
    simp only [Sem.wp_pure']
    exact hq _ _
theorem ma_over {args : Array Value} {s : State} (h : (Cond.arrayOver (.array .int)).before args s = true) : ∃ comp cA k, s.vm.findClass "[I" = some comp ∧ s.vm.classes[cA]? = some k ∧ k.kind = .array comp (.array .int) ∧ s.vm.findClass "[[I" = some cA := by
  have e1 : (FieldType.array .int).toString = "[I" := by decide
  have e2 : "[" ++ "[I" = "[[I" := by decide
  simp only [Cond.before, Cond.holds, Cond.value, beq_iff_eq, e1, e2] at h
  cases hc : s.vm.findClass "[I" with
  | none => simp [hc] at h
  | some comp =>
    simp only [hc, Option.bind_some, Option.bind_eq_some_iff, Option.map_eq_some_iff] at h
    obtain ⟨cA, hi, k, hk, hb⟩ := h
    obtain ⟨hlt, hp, -⟩ := Array.findIdx?_eq_some_iff_getElem.mp hi
    have hkk : s.vm.classes[cA] = k := (Array.getElem?_eq_some_iff.mp hk).2
    rw [hkk] at hp
    cases hkind : k.kind with
    | array component ty =>
      rw [hkind] at hb hp
      simp at hb hp
      exact ⟨comp, cA, k, rfl, hk, by rw [hkind, hp, hb.1], hb.2⟩
    | _ => rw [hkind] at hb; simp at hb
section MRW
variable {p : Program} {l : Launch} {e : Env} {R : Room} {s : State} {m : MethodId} {args : Array Value} {below : List Frame} {meth : Method} {c : Code} {H : Heap} {locs : List Loc} {cells slots : Nat} {Q : State → Prop}
theorem ma_mfS {T : State} (X : Stand p l e R s m args below meth c T locs cells slots) (cA comp : ClassId) (N M : Nat) : ∀ i : Nat, Stand p l e R s m args below meth c (ma_mf T cA comp N M i) (locs ++ (List.range i).map fun j => (⟨T.heap.size, j⟩ : Loc)) (cells + 1 + i) (slots + N + i * M) := by
  intro i
  induction i with
  | zero =>
    have h := X.pushed (ma_mo cA N T.heap.size 0)
    rw [show (ma_mo cA N T.heap.size 0).slots.size = N from arrV_size _ _ _] at h
    simpa [ma_mf] using h
  | succ i ih =>
    obtain ⟨g1, g2, -⟩ := ma_mf_at T cA comp N M i
    have hl : T.heap.size < (ma_mf T cA comp N M i).heap.size := by omega
    have h := (ih.pushed (ma_mi comp M)).stored (a := T.heap.size) (cell := ma_mo cA N T.heap.size i) (by rw [State.heap_pushCell_of_lt _ _ hl]; exact g2) i (.ref (T.heap.size + 1 + i))
    rw [ma_mo_set, show (ma_mi comp M).slots.size = M from arrV_size _ _ _] at h
    have e2 : (locs ++ (List.range (i + 1)).map fun j => (⟨T.heap.size, j⟩ : Loc)) = (locs ++ (List.range i).map fun j => (⟨T.heap.size, j⟩ : Loc)) ++ [⟨T.heap.size, i⟩] := by simp [List.range_succ, List.append_assoc]
    have e3 : slots + N + (i + 1) * M = slots + N + i * M + M := by rw [Nat.succ_mul]; omega
    rw [e2, e3]
    exact h
variable {cc : ByteArray} {pc : Nat} {ls : Array Slot} {rest : List Value} {H0 : Heap}
variable {cls : List vw_C} {Ts NS : List Cond} {D : va_G} {cI c2 : ClassId} {b sa : Nat} {scr : Nat × (Nat → Int32)} {σ : ma_S}
set_option maxHeartbeats 4000000 in
theorem ma_multi (hexec : p.tables.exec = Jvm.exec) (hb : c.code = cc) {own : String} {index : Nat} (hown : s.vm.findClass own = some m.cls) (hclink : (Cond.classLink own index "[[I").before args s = true) (hAO : ∃ kA : Class, s.vm.classes[c2]? = some kA ∧ kA.kind = .array cI (.array .int)) (harr : (Cond.arrayClass .int).before args s = true) (hK : va_K D cls (ma_ty2 cI c2) s)
    (hw : ma_Wd cls D cI c2 b sa σ s.heap H locs) (hb0 : b ≤ s.heap.size) {n k : Int32} (hn : ¬ n < 0) (hk : ¬ k < 0) (hn6 : n.toNatClampNeg ≤ 65536) (hk6 : k.toNatClampNeg ≤ 65536) (hcells : cells + (1 + n.toNatClampNeg) ≤ R.cells) (hslots : slots + (n.toNatClampNeg + n.toNatClampNeg * k.toNatClampNeg) ≤ R.slots) (hdg : decode cc pc = .ok (.multianewarray index 2, 4))
    (kk : ∀ (H1 : Heap) (locs1 : List Loc), ma_Wd cls D cI c2 b sa (σ ++ .inr (.inl (n.toNatClampNeg, fun j => if j < n.toNatClampNeg then some (σ.length + 1 + j) else none)) :: List.replicate n.toNatClampNeg (.inl (k.toNatClampNeg, fun _ => 0))) s.heap H1 locs1 →
      W p l e R s m args below meth c H1 locs1 (cells + 1 + n.toNatClampNeg) (slots + n.toNatClampNeg + n.toNatClampNeg * k.toNatClampNeg) Q (F0 m (pc + 4) ls (.ref (b + σ.length) :: rest))) : W p l e R s m args below meth c H locs cells slots Q (F0 m pc ls (.int k :: .int n :: rest)) := by
  intro T hT X
  subst hT; subst hb
  have hpl : e.platform.magicAccessors = ({} : Platform).magicAccessors := by rw [X.admits.platform]
  obtain ⟨kA, hkA, hkindA⟩ := hAO
  have hnameA : s.vm.findClass "[[I" = some c2 := (hK.2 1 _ rfl).2
  obtain ⟨comp', kC, cc, hcomp', hkC, hkindC⟩ := Cond.arrayClass_spec harr
  obtain ⟨c0, hfc0, hcl⟩ := Cond.classLink_spec hown hclink e.platform hpl
  have e0 : c2 = c0 := Option.some.inj (hnameA.symm.trans hfc0)
  subst e0
  have eI : comp' = cI := Option.some.inj (hcomp'.symm.trans (hK.2 0 _ rfl).2)
  subst eI
  obtain ⟨hg₁, hwarm₁, hready₁⟩ := State.classEntry (e := e) X.warmed hcl
  generalize T.vm.noted m.cls index (.cls c2) = vm₁ at hg₁ hwarm₁ hready₁
  have hal : s.vm.Alike vm₁ := hwarm₁.alike
  obtain ⟨kA₁, hkA₁, heA⟩ := hal.2.2 _ _ hkA
  obtain ⟨kC₁, hkC₁, heC⟩ := hal.2.2 _ _ hkC
  have hkindA₁ : kA₁.kind = .array comp' (.array .int) := by rw [heA]; exact hkindA
  have hkindC₁ : kC₁.kind = .array cc .int := by rw [heC]; exact hkindC
  have X₁ := X.noted hwarm₁
  obtain ⟨hr1, hr2⟩ := X.roomAbove hcells hslots
  have XF := ma_mfS X₁ c2 comp' n.toNatClampNeg k.toNatClampNeg n.toNatClampNeg
  obtain ⟨g1, g2, g3, g4, g5, g6⟩ := ma_mf_at (T.setVm vm₁) c2 comp' n.toNatClampNeg k.toNatClampNeg n.toNatClampNeg
  have hz : (T.setVm vm₁).heap = T.heap := rfl
  rw [hz] at g1 g2 g3 g4
  have hsz : T.heap.size = b + σ.length := hw.1
  have hw1 : ma_Wd cls D comp' c2 b sa (σ ++ .inr (.inl (n.toNatClampNeg, fun j => if j < n.toNatClampNeg then some (σ.length + 1 + j) else none)) :: List.replicate n.toNatClampNeg (.inl (k.toNatClampNeg, fun _ => 0))) s.heap (ma_mf (T.setVm vm₁) c2 comp' n.toNatClampNeg k.toNatClampNeg n.toNatClampNeg).heap (locs ++ (List.range n.toNatClampNeg).map fun j => (⟨T.heap.size, j⟩ : Loc)) := by
    refine ⟨?_, ?_, ?_⟩
    · rw [g1, List.length_append, List.length_cons, List.length_replicate, hsz]
      omega
    · rw [ma_ws_app, Nat.zero_add]
      refine (hw.2.1.kept fun kq q hq => g3 q.1 ((hw.2.1 kq q hq).lt)).app fun kq q hq => ?_
      rw [ma_ws_get] at hq
      cases kq with
      | zero =>
        rw [List.getElem?_cons_zero, Option.map_some] at hq
        cases hq
        show (ma_mf (T.setVm vm₁) c2 comp' n.toNatClampNeg k.toNatClampNeg n.toNatClampNeg).heap[b + (σ.length + 0)]? = some (vp_cell c2 (n.toNatClampNeg, .inr (.inr (.inr (.inr _)))))
        rw [Nat.add_zero, ← hsz, g2, vp_cell_q, ma_mo]
        congr 2
        funext j
        by_cases hj : j < n.toNatClampNeg
        · dsimp only
          rw [if_pos hj, if_pos hj]
          exact congrArg Value.ref (show T.heap.size + 1 + j = b + (σ.length + 1 + j) by omega)
        · dsimp only
          rw [if_neg hj, if_neg hj]
          rfl
      | succ j =>
        rw [List.getElem?_cons_succ, List.getElem?_replicate] at hq
        by_cases hj : j < n.toNatClampNeg
        · rw [if_pos hj, Option.map_some] at hq
          cases hq
          show (ma_mf (T.setVm vm₁) c2 comp' n.toNatClampNeg k.toNatClampNeg n.toNatClampNeg).heap[b + (σ.length + (j + 1))]? = some (vp_cell comp' (k.toNatClampNeg, .inl fun _ => 0))
          rw [show b + (σ.length + (j + 1)) = T.heap.size + 1 + j by omega, g4 j hj, vp_cell_i]
          rfl
        · rw [if_neg hj] at hq
          cases hq
    · refine ⟨Nat.le_trans hw.2.2.1 (by omega), fun q h1 h2 => (g3 q (Nat.lt_of_lt_of_le h1 hw.2.2.1)).trans (hw.2.2.2.1 q h1 h2), fun q hq => ?_⟩
      rcases List.mem_append.mp hq with h | h
      · exact hw.2.2.2.2 q h
      · obtain ⟨j, -, rfl⟩ := List.mem_map.mp h
        show b ≤ T.heap.size
        omega
  obtain ⟨t, a1, b1⟩ := kk _ _ hw1 _ rfl XF
  refine ⟨t, ?_, b1⟩
  rw [← hsz] at a1
  have hl1 : n.toNatClampNeg ≤ e.platform.arrayLengthLimit := by rw [Launch.admits_arrayLengthLimit X.admits]; omega
  have hh1 : n.toNatClampNeg * 4 ≤ e.platform.maxHeapBytes := by rw [Launch.admits_maxHeapBytes X.admits]; omega
  have hl2 : k.toNatClampNeg ≤ e.platform.arrayLengthLimit := by rw [Launch.admits_arrayLengthLimit X.admits]; omega
  have hh2 : k.toNatClampNeg * 4 ≤ e.platform.maxHeapBytes := by rw [Launch.admits_maxHeapBytes X.admits]; omega
  jvm_step X.here [hexec, hdg]
  simp only [Op.multianewarray.sem, Sem.wp_bind', Jvm.W.resolveClassAt_links (t := T.setTop (F0 m pc ls (.int k :: .int n :: rest))) (mm := m) (vm' := vm₁) (State.method?_setTop _ X.here.top) hg₁]
  rw [Jvm.W.popN, if_neg (by decide)]
  refine ⟨_, State.topJava?_setTop' (s := T.setVm vm₁) _ X.here.top, [.int n, .int k], rest, rfl, rfl, ?_⟩
  simp only [List.mapM_cons, List.mapM_nil, Sem.wp_bind', Sem.wp_pure']
  refine ma_wpm (k := kA₁) (kc := kC₁) (comp := comp') (cc := cc) hkA₁ hkindA₁ hkC₁ hkindC₁ hn hk hl1 hh1 hl2 hh2 (by show T.heap.size + 1 + _ ≤ _; omega) (by show T.slotsUsed + _ + _ ≤ _; omega) (fun d' acts' => ?_)
  have eS : ((T.setTop (F0 m pc ls (.int k :: .int n :: rest))).setVm vm₁).setTop { (F0 m pc ls (.int k :: .int n :: rest)) with stack := rest } = (T.setVm vm₁).setTop { (F0 m pc ls (.int k :: .int n :: rest)) with stack := rest } := by
    show ((T.setVm vm₁).setTop _).setTop _ = _
    rw [State.setTop_setTop]
  rw [eS, ma_mf_top]
  simp only [Sem.wp_bind', Jvm.W.mark, Jvm.W.pushRef, State.topJava?_setTop' _ XF.here.top, Option.some.injEq, exists_eq_left', State.setTop_setTop, State.heap_setTop]
  intro acts
  simp [jvm, XF.here.top]
  exact a1
theorem ma_aald (hexec : p.tables.exec = Jvm.exec) (hb : c.code = cc) (hK : va_K D cls (ma_ty2 cI c2) s) (hP : va_P D cls (ma_ws cI c2 b sa 0 σ) H) {o n r : Nat} {g : Nat → Option Nat} (ho : σ[o]? = some (.inr (.inl (n, g)))) {i : Int32} (hr : g i.toNatClampNeg = some r) (hin : vp_in i n) (hdg : decode cc pc = .ok (.aaload, 1))
    (kk : W p l e R s m args below meth c H locs cells slots Q (F0 m (pc + 1) ls (.ref (b + r) :: rest))) : W p l e R s m args below meth c H locs cells slots Q (F0 m pc ls (.int i :: .ref (b + o) :: rest)) := by
  have hlt : i.toNatClampNeg < n := Nat.not_le.mp fun q => hin (Or.inr q)
  have hc : H[b + o]? = some (vp_cell c2 (n, .inr (.inr (.inr (.inr fun j => (g j).map fun k => b + k))))) := hP o _ (ma_ws_at ho)
  exact W.aald (v := .ref (b + r)) (ty := .array .int) hexec hb hc ((hK.2 1 _ rfl).1 n (fun j => va_rf ((g j).map fun k => b + k))) rfl (fun q => by cases q) (by show ¬ (i < 0 ∨ (arrV _ _ _).slots.size ≤ _); rw [arrV_size]; exact hin) (by show (arrV _ _ _).slots[_]? = _; rw [arrV_read _ _ hlt]; simp [va_rf, hr]) rfl rfl hdg kk
theorem ma_newo (hexec : p.tables.exec = Jvm.exec) (hb : c.code = cc) {own C : String} {T : u_T} {N ci index : Nat} (hts : ∀ w ∈ Ts, w.before args s = true) (hin : ∀ w ∈ u_ws C T N, w ∈ Ts) (ty : Nat → FieldType) (hty : ∀ k, k < N → parseFieldDescriptor (T k).2.2.1 = some (ty k)) (hown : s.vm.findClass own = some m.cls) (hcl : (Cond.classLink own index C).before args s = true) (hinst : (Cond.instantiable C N).before args s = true) (hini : (Cond.initialized C).before args s = true)
    (hK : va_K D cls (ma_ty2 cI c2) s) (hw : ma_Wd cls D cI c2 b sa σ s.heap H locs) (hb0 : b ≤ s.heap.size) (hc : cls[ci]? = some (C, T, N)) {fs : List Value} (hfs : ∀ j, j < N → defaultValue (ty j) = vp_V (fs.map (ma_cv b sa)) j) (hcells : cells + 1 ≤ R.cells) (hslots : slots + N ≤ R.slots) (hdg : decode cc pc = .ok (.new index, 3))
    (kk : ∀ H1 : Heap, ma_Wd cls D cI c2 b sa (σ ++ [.inr (.inr (ci, fs))]) s.heap H1 locs → W p l e R s m args below meth c H1 locs (cells + 1) (slots + N) Q (F0 m (pc + 3) ls (.ref (b + σ.length) :: rest))) : W p l e R s m args below meth c H locs cells slots Q (F0 m pc ls rest) := by
  have hKn := hK.1 ci _ hc
  refine W.newcK hexec hb hown hcl hinst hini rfl hdg hcells hslots hKn.2.1 hw.1 fun H1 kC hkC e1 z1 o1 => ?_
  refine kk H1 (hw.push hb0 ?_ (by rw [z1, hw.1]) (fun q hq => o1 q (by rw [← hw.1]; exact hq)))
  exact ⟨_, hc, (u_born ty hts hin hKn hkC e1 hty).to hfs⟩
theorem ma_newa (hexec : p.tables.exec = Jvm.exec) (hb : c.code = cc) (harr : (Cond.arrayClass .int).before args s = true) (hK : va_K D cls (ma_ty2 cI c2) s) (hw : ma_Wd cls D cI c2 b sa σ s.heap H locs) (hb0 : b ≤ s.heap.size) {n : Int32} (hn : ¬ n < 0) (hn6 : n.toNatClampNeg ≤ 65536) (hcells : cells + 1 ≤ R.cells) (hslots : slots + n.toNatClampNeg ≤ R.slots) (hdg : decode cc pc = .ok (.newarray .int, 2))
    (kk : ∀ H1 : Heap, ma_Wd cls D cI c2 b sa (σ ++ [.inl (n.toNatClampNeg, fun _ => 0)]) s.heap H1 locs → W p l e R s m args below meth c H1 locs (cells + 1) (slots + n.toNatClampNeg) Q (F0 m (pc + 2) ls (.ref (b + σ.length) :: rest))) : W p l e R s m args below meth c H locs cells slots Q (F0 m pc ls (.int n :: rest)) := by
  refine va_newaK hexec hb (atype := .int) harr rfl hdg rfl hn rfl (by show n.toNatClampNeg * 4 ≤ _; omega) hcells hslots hw.1 fun H1 cA e1 z1 o1 hAr hNm => ?_
  have eI : cA = cI := Option.some.inj (hNm.symm.trans (hK.2 0 _ rfl).2)
  subst eI
  refine kk H1 (hw.push hb0 ?_ (by rw [z1, hw.1]) (fun q hq => o1 q (by rw [← hw.1]; exact hq)))
  exact e1
theorem ma_copy (hexec : p.tables.exec = Jvm.exec) (hb : c.code = cc) (hml : c.maxLocals = ls.size) {own : String} {index : Nat} (hown : s.vm.findClass own = some m.cls) (hlink : (Cond.methodLink own index arraycopyName).before args s = true) (hnat : (Cond.native arraycopyName).before args s = true) (hstat : (Cond.static arraycopyName).before args s = true) (hini : (Cond.initialized "java/lang/System").before args s = true)
    (hK : va_K D cls (ma_ty2 cI c2) s) (hw : ma_Wd cls D cI c2 b sa σ H0 H locs) {a0 a1 n0 n1 : Nat} {f g : Nat → Int32} (h0 : σ[a0]? = some (.inl (n0, f))) (h0' : σ[a1]? = some (.inl (n1, g))) {sp dp n : Int32} (h1 : ¬ sp < 0) (h2 : ¬ dp < 0) (h3 : ¬ n < 0) (h4 : sp.toNatClampNeg + n.toNatClampNeg ≤ n0) (h5 : dp.toNatClampNeg + n.toNatClampNeg ≤ n1)
    (hframes : 1 ≤ R.frames) (hlocals : (rest.map fun v => v.category).sum + (nativeFrameWords "java/lang/System" "arraycopy" 5 + 11) ≤ R.locals) (hdg : decode cc pc = .ok (.invokestatic index, 3))
    (kk : ∀ (H1 : Heap) (locs1 : List Loc), ma_Wd cls D cI c2 b sa (σ.set a1 (.inl (n1, va_cpy f g sp.toNatClampNeg dp.toNatClampNeg n.toNatClampNeg))) H0 H1 locs1 → W p l e R s m args below meth c H1 locs1 cells slots Q (F0 m (pc + 3) ls rest)) : W p l e R s m args below meth c H locs cells slots Q (F0 m pc ls (.int n :: .int dp :: .ref (b + a1) :: .int sp :: .ref (b + a0) :: rest)) := by
  have hc0 : H[b + a0]? = some (vp_cell cI (n0, .inl f)) := hw.2.1 a0 _ (ma_ws_at h0)
  have hc1 : H[b + a1]? = some (vp_cell cI (n1, .inl g)) := hw.2.1 a1 _ (ma_ws_at h0')
  have nn : ∀ z : Int32, ¬ z < 0 → z.toInt = (z.toNatClampNeg : Int) := by
    intro z hz
    have hz0 : (0 : Int) ≤ z.toInt := by simpa using Int32.le_iff_toInt_le.mp (Int32.not_lt.mp hz)
    show z.toInt = ((z.toInt.toNat : Nat) : Int)
    omega
  obtain ⟨-, k0, hk0, cm0, hkk0⟩ := (hK.2 0 _ rfl).1 n0 (fun j => .int (f j))
  obtain ⟨-, k1, hk1, cm1, hkk1⟩ := (hK.2 0 _ rfl).1 n1 (fun j => .int (g j))
  intro T hT X
  have q1 : ∀ i, i < n.toNatClampNeg → (vp_cell cI (n0, .inl f)).slots.getD (sp.toNatClampNeg + i) .null = .int (f (sp.toNatClampNeg + i)) := by
    intro i hi
    rw [vp_cell_i, Array.getD_eq_getD_getElem?, arrV_read _ _ (by omega)]
    rfl
  obtain ⟨vm', X', step⟩ := X.arraycopy hexec hown hlink hnat hstat hini (src := b + a0) (dst := b + a1) (cs := vp_cell cI (n0, .inl f)) (cd := vp_cell cI (n1, .inl g)) (srcPos := sp) (destPos := dp) (n := n) (by rw [hT]; exact hc0) (by rw [hT]; exact hc1)
    (fun _ h => by cases h) (fun _ h => by cases h) (fun h => by cases h) (fun h => by cases h) hk0 hk1 hkk0 hkk1 (by simp [refKind]) h1 h2 h3
    (by rw [nn sp h1, nn n h3, vp_cell_i, arrV_size]; omega) (by rw [nn dp h2, nn n h3, vp_cell_i, arrV_size]; omega)
    (fun vm₁ _ i hi => by rw [q1 i hi]; exact ⟨rfl, trivial⟩)
    (g := F0 m pc ls (.int n :: .int dp :: .ref (b + a1) :: .int sp :: .ref (b + a0) :: rest)) rfl (by rw [hml]) (rest := rest) rfl (by rw [hb]; exact hdg) hframes (by show 2 * 0 + _ + _ ≤ _; omega)
  have e1 : copied (vp_cell cI (n0, .inl f)) (vp_cell cI (n1, .inl g)) sp dp n = vp_cell cI (n1, .inl (va_cpy f g sp.toNatClampNeg dp.toNatClampNeg n.toNatClampNeg)) := va_copied (fun z => .int z) cI cI f g h4
  rw [e1] at X' step
  have hl : b + a1 < H.size := (Array.getElem?_eq_some_iff.mp hc1).1
  have hw1 : ma_Wd cls D cI c2 b sa (σ.set a1 (.inl (n1, va_cpy f g sp.toNatClampNeg dp.toNatClampNeg n.toNatClampNeg))) H0 (H.setIfInBounds (b + a1) (vp_cell cI (n1, .inl (va_cpy f g sp.toNatClampNeg dp.toNatClampNeg n.toNatClampNeg)))) (locs ++ [⟨b + a1, 0⟩]) :=
    hw.put h0' (by show (H.setIfInBounds (b + a1) _)[b + a1]? = some _; simp [Array.getElem?_setIfInBounds, hl]) (by simp) (fun q hq => by simp [Array.getElem?_setIfInBounds, Ne.symm hq])
  obtain ⟨t, r1, r2⟩ := kk (H.setIfInBounds (b + a1) (vp_cell cI (n1, .inl (va_cpy f g sp.toNatClampNeg dp.toNatClampNeg n.toNatClampNeg)))) _ ⟨hw1.1, hw1.2.1, hw1.2.2.1, hw1.2.2.2.1, fun q hq => by
      rcases List.mem_append.mp hq with h | h
      · exact hw.2.2.2.2 q h
      · obtain ⟨z, -, hz⟩ := List.mem_map.mp h
        rw [← hz]
        exact Nat.le_add_right b a1⟩ _ (by rw [← hT]; rfl) X'
  exact ⟨t, step t r1, r2⟩
end MRW
end
section
/-! 40.step: a step of the small machine is a step of the real one (written by gen_step.py) -/
theorem ma_lookup {α : Type} {l : List (Nat × α)} {a : Nat} {v : α} (h : l.lookup a = some v) : (a, v) ∈ l := by
  induction l with
  | nil => cases h
  | cons q l ih =>
    obtain ⟨k, x⟩ := q
    rw [List.lookup_cons] at h
    cases hk : a == k with
    | true =>
      rw [hk] at h
      cases h
      rw [eq_of_beq hk]
      exact List.mem_cons_self
    | false =>
      rw [hk] at h
      exact List.mem_cons_of_mem _ (ih h)
theorem ma_tg_eq {pc t : Nat} {o : Int} (h : ma_tg pc o = some t) : (pc : Int) + o = (t : Int) := by
  unfold ma_tg at h
  split at h
  · cases h
    omega
  · cases h
theorem ma_catsum (b sa : Nat) (st : List Value) : ((st.map (ma_cv b sa)).map fun v => v.category).sum = st.length := by
  induction st with
  | nil => rfl
  | cons v st ih => rw [List.map_cons, List.map_cons, List.sum_cons, ih, ma_cv_cat, List.length_cons, Nat.add_comm]
theorem ma_okC_at {q : vw_C} (h : ma_okC q = true) {j : Nat} (hj : j < q.2.2) : (q.2.1 j).1 = q.1 ∧ (∃ ty, parseFieldDescriptor (q.2.1 j).2.2.1 = some ty ∧ ((ty = .int ∧ (q.2.1 j).2.2.1 = "I") ∨ (((∃ n, ty = .object n) ∨ ∃ t, ty = .array t) ∧ ¬ (q.2.1 j).2.2.1 = "I"))) ∧ ∀ k, k < q.2.2 → j ≠ k → (q.2.1 j).2.1 ≠ (q.2.1 k).2.1 := by
  have h1 := List.all_eq_true.mp h j (List.mem_range.mpr hj)
  rw [Bool.and_eq_true, Bool.and_eq_true, decide_eq_true_eq] at h1
  obtain ⟨⟨h2, h3⟩, h4⟩ := h1
  refine ⟨h3, ?_, fun k hk hne => ?_⟩
  · split at h2
    · rename_i hp
      exact ⟨_, hp, Or.inl ⟨rfl, of_decide_eq_true h2⟩⟩
    · rename_i hp
      exact ⟨_, hp, Or.inr ⟨Or.inl ⟨_, rfl⟩, of_decide_eq_true h2⟩⟩
    · rename_i hp
      exact ⟨_, hp, Or.inr ⟨Or.inr ⟨_, rfl⟩, of_decide_eq_true h2⟩⟩
    · cases h2
  · have h5 := List.all_eq_true.mp h4 k (List.mem_range.mpr hk)
    rw [Bool.or_eq_true, decide_eq_true_eq, decide_eq_true_eq] at h5
    exact h5.resolve_left hne
def ma_ty0 (T : u_T) (k : Nat) : FieldType := (parseFieldDescriptor (T k).2.2.1).getD .int
theorem ma_fit {d : String} {ty : FieldType} (h : (ty = .int ∧ d = "I") ∨ (((∃ n, ty = .object n) ∨ ∃ t, ty = .array t) ∧ ¬ d = "I")) (b sa : Nat) {v : Value} (hv : ma_vt d v = true) : narrow ty (ma_cv b sa v) = ma_cv b sa v ∧ fits ty (ma_cv b sa v) = true := by
  rcases h with ⟨rfl, hd⟩ | ⟨ht, hd⟩
  · cases v <;> simp [ma_vt, hd] at hv
    exact ⟨rfl, rfl⟩
  · cases v <;> simp [ma_vt, hd] at hv <;> rcases ht with ⟨n, rfl⟩ | ⟨t, rfl⟩ <;> exact ⟨rfl, rfl⟩
theorem ma_df_at {d : String} {ty : FieldType} (h : (ty = .int ∧ d = "I") ∨ (((∃ n, ty = .object n) ∨ ∃ t, ty = .array t) ∧ ¬ d = "I")) (b sa : Nat) : ma_cv b sa (ma_df d) = defaultValue ty := by
  unfold ma_df
  rcases h with ⟨rfl, hd⟩ | ⟨ht, hd⟩
  · rw [if_pos hd]
    rfl
  · rw [if_neg hd]
    rcases ht with ⟨n, rfl⟩ | ⟨t, rfl⟩ <;> rfl
theorem ma_out_in {i : Int32} {n : Nat} (h : ¬ ma_out i n = true) : vp_in i n := by
  intro h2
  apply h
  unfold ma_out
  rcases h2 with h2 | h2 <;> simp [h2]

section MST
variable {p : Program} {l : Launch} {e : Env} {R : Room} {s : State} {m : MethodId} {args : Array Value} {below : List Frame} {meth : Method} {c : Code} {H : Heap} {locs : List Loc} {Q : State → Prop}
variable {cls : List vw_C} {Ts NS : List Cond} {P : List ma_M} {D : va_G} {cI c2 : ClassId} {b sa : Nat} {scr : Nat × (Nat → Int32)} {mt : ma_M}
variable {pc d k s0 : Nat} {L : List (Option Value)} {st : List Value} {σ : ma_S} {ls : Array Slot}
set_option maxHeartbeats 4000000 in
set_option maxRecDepth 100000 in
theorem ma_step {hs : String} {ins : Instr} {len a q z : Nat} {f' : ma_F} (hC : ma_Ctx cls Ts NS D cI c2 b sa scr mt p s m args meth c) (hcl : ∀ x ∈ cls, ma_okC x = true ∧ ∀ w ∈ u_ws x.1 x.2.1 x.2.2, w ∈ Ts)
    (hdec : decode mt.2.1 pc = .ok (ins, len)) (hn : ma_nl ins len = true) (hlk : ma_lk cls P mt (ins, len, a, q, z) = true) (hwd : ∀ w ∈ ma_wd cls P mt (ins, len, a, q, z), w.before args s = true) (hwn : ∀ w ∈ ma_wn hs cls P mt (ins, len, a, q, z), va_Nw w s) (hfr : d ≤ R.frames) (hlo : 37 * d ≤ R.locals)
    (h : ma_one cls scr d (ins, len, a, q, z) (pc, L, st, σ, k, s0) = some f') (hkc : f'.2.2.2.2.1 ≤ R.cells) (hks : f'.2.2.2.2.2 ≤ R.slots)
    (hL : L.length = mt.2.2.1) (hl : lv_has ls mt.2.2.1 (ma_lv (ma_cv b sa) 0 L)) (hw : ma_Wd cls D cI c2 b sa σ s.heap H locs)
    (kk : ∀ (H1 : Heap) (locs1 : List Loc) (ls1 : Array Slot), f'.2.1.length = mt.2.2.1 → lv_has ls1 mt.2.2.1 (ma_lv (ma_cv b sa) 0 f'.2.1) → ma_Wd cls D cI c2 b sa f'.2.2.2.1 s.heap H1 locs1 →
      W p l e R s m args below meth c H1 locs1 f'.2.2.2.2.1 f'.2.2.2.2.2 Q (F0 m f'.1 ls1 (f'.2.2.1.map (ma_cv b sa)))) :
    W p l e R s m args below meth c H locs k s0 Q (F0 m pc ls (st.map (ma_cv b sa))) := by
  obtain ⟨hx, hb, hml, hr, hts, hown, hlocks, hin, hK, hX, hsb, hbs, hAO, hNW⟩ := hC
  cases ins with
  | iconst v =>
    obtain rfl : len = 1 := by simpa [ma_nl] using hn
    simp only [ma_one, ma_go, Option.some.injEq] at h
    subst h
    exact lv_iconst hx hb hdec rfl (kk H locs ls hL hl hw)
  | bipush v =>
    obtain rfl : len = 2 := by simpa [ma_nl] using hn
    simp only [ma_one, ma_go, Option.some.injEq] at h
    subst h
    exact lv_bipush hx hb hdec rfl (kk H locs ls hL hl hw)
  | sipush v =>
    obtain rfl : len = 3 := by simpa [ma_nl] using hn
    simp only [ma_one, ma_go, Option.some.injEq] at h
    subst h
    exact lv_sipush hx hb hdec rfl (kk H locs ls hL hl hw)
  | iload_n j =>
    obtain rfl : len = 1 := by simpa [ma_nl] using hn
    simp only [ma_one, ma_ild, ma_go] at h
    split at h
    · rename_i x hj
      cases h
      exact lv_iload_n hx hb hdec rfl (ma_lv_at hl hj) (kk H locs ls hL hl hw)
    · cases h
  | iload j =>
    obtain rfl : len = 2 := by simpa [ma_nl] using hn
    simp only [ma_one, ma_ild, ma_go] at h
    split at h
    · rename_i x hj
      cases h
      exact lv_iload hx hb hdec (ma_lv_at hl hj) (kk H locs ls hL hl hw)
    · cases h
  | aload_n j =>
    obtain rfl : len = 1 := by simpa [ma_nl] using hn
    simp only [ma_one, ma_ald, ma_go] at h
    split at h
    · rename_i x hj
      cases h
      exact lv_aload_n hx hb hdec rfl (ma_lv_at hl hj) (kk H locs ls hL hl hw)
    · rename_i x hj
      cases h
      exact lv_aload_n hx hb hdec rfl (ma_lv_at hl hj) (kk H locs ls hL hl hw)
    · cases h
  | aload j =>
    obtain rfl : len = 2 := by simpa [ma_nl] using hn
    simp only [ma_one, ma_ald, ma_go] at h
    split at h
    · rename_i x hj
      cases h
      exact lv_aload hx hb hdec (ma_lv_at hl hj) (kk H locs ls hL hl hw)
    · rename_i x hj
      cases h
      exact lv_aload hx hb hdec (ma_lv_at hl hj) (kk H locs ls hL hl hw)
    · cases h
  | istore_n j =>
    obtain rfl : len = 1 := by simpa [ma_nl] using hn
    simp only [ma_one, ma_sto] at h
    split at h
    · split at h
      · rename_i hj
        cases h
        exact lv_istore_n hx hb hdec rfl hl (by omega) rfl fun ls1 hl1 => kk H locs ls1 (by rw [List.length_set]; exact hL) (ma_lv_put (ma_cv_cat b sa) hj hl1) hw
      · cases h
    · cases h
  | istore j =>
    obtain rfl : len = 2 := by simpa [ma_nl] using hn
    simp only [ma_one, ma_sto] at h
    split at h
    · split at h
      · rename_i hj
        cases h
        exact lv_istore hx hb hdec hl (by omega) rfl fun ls1 hl1 => kk H locs ls1 (by rw [List.length_set]; exact hL) (ma_lv_put (ma_cv_cat b sa) hj hl1) hw
      · cases h
    · cases h
  | astore_n j =>
    obtain rfl : len = 1 := by simpa [ma_nl] using hn
    simp only [ma_one, ma_sto] at h
    split at h
    · split at h
      · rename_i hj
        cases h
        exact lv_astore_n hx hb hdec rfl hl (by omega) rfl fun ls1 hl1 => kk H locs ls1 (by rw [List.length_set]; exact hL) (ma_lv_put (ma_cv_cat b sa) hj hl1) hw
      · cases h
    · cases h
  | astore j =>
    obtain rfl : len = 2 := by simpa [ma_nl] using hn
    simp only [ma_one, ma_sto] at h
    split at h
    · split at h
      · rename_i hj
        cases h
        exact lv_astore hx hb hdec hl (by omega) rfl fun ls1 hl1 => kk H locs ls1 (by rw [List.length_set]; exact hL) (ma_lv_put (ma_cv_cat b sa) hj hl1) hw
      · cases h
    · cases h
  | iinc j v =>
    obtain rfl : len = 3 := by simpa [ma_nl] using hn
    simp only [ma_one, ma_sto] at h
    split at h
    · rename_i x hx0
      split at h
      · rename_i hj
        cases h
        have hmem : (j, Value.int x) ∈ ma_lv (ma_cv b sa) 0 L := (ma_lv_mem (ma_cv b sa) L 0 j (.int x)).mpr ⟨j, .int x, hx0, by omega, rfl⟩
        obtain ⟨kx, hkx⟩ := List.getElem?_of_mem hmem
        exact lv_iinc hx hb hdec hl hkx rfl (by omega) rfl fun ls1 hl1 => kk H locs ls1 (by rw [List.length_set]; exact hL) (ma_lv_put (v := .int (x + Int32.ofInt v)) (ma_cv_cat b sa) hj hl1) hw
      · cases h
    · cases h
  | iadd =>
    obtain rfl : len = 1 := by simpa [ma_nl] using hn
    simp only [ma_one, ma_go] at h
    split at h
    · cases h
      exact lv_iadd hx hb hdec (kk H locs ls hL hl hw)
    · cases h
  | isub =>
    obtain rfl : len = 1 := by simpa [ma_nl] using hn
    simp only [ma_one, ma_go] at h
    split at h
    · cases h
      exact lv_isub hx hb hdec (kk H locs ls hL hl hw)
    · cases h
  | imul =>
    obtain rfl : len = 1 := by simpa [ma_nl] using hn
    simp only [ma_one, ma_go] at h
    split at h
    · cases h
      exact lv_imul hx hb hdec (kk H locs ls hL hl hw)
    · cases h
  | iand =>
    obtain rfl : len = 1 := by simpa [ma_nl] using hn
    simp only [ma_one, ma_go] at h
    split at h
    · cases h
      exact lv_iand hx hb hdec (kk H locs ls hL hl hw)
    · cases h
  | ixor =>
    obtain rfl : len = 1 := by simpa [ma_nl] using hn
    simp only [ma_one, ma_go] at h
    split at h
    · cases h
      exact lv_ixor hx hb hdec (kk H locs ls hL hl hw)
    · cases h
  | idiv =>
    obtain rfl : len = 1 := by simpa [ma_nl] using hn
    simp only [ma_one, ma_go] at h
    split at h
    · split at h
      · cases h
      · rename_i hy
        cases h
        exact lv_idiv hx hb hdec hy (kk H locs ls hL hl hw)
    · cases h
  | irem =>
    obtain rfl : len = 1 := by simpa [ma_nl] using hn
    simp only [ma_one, ma_go] at h
    split at h
    · split at h
      · cases h
      · rename_i hy
        cases h
        exact lv_irem hx hb hdec hy (kk H locs ls hL hl hw)
    · cases h
  | ineg =>
    obtain rfl : len = 1 := by simpa [ma_nl] using hn
    simp only [ma_one, ma_go] at h
    split at h
    · cases h
      exact lv_ineg hx hb hdec (kk H locs ls hL hl hw)
    · cases h
  | dup =>
    obtain rfl : len = 1 := by simpa [ma_nl] using hn
    simp only [ma_one, ma_go] at h
    split at h
    · cases h
      exact lv_dup hx hb hdec (ma_cv_cat b sa _) (kk H locs ls hL hl hw)
    · cases h
  | dup2 =>
    obtain rfl : len = 1 := by simpa [ma_nl] using hn
    simp only [ma_one, ma_go] at h
    split at h
    · cases h
      exact lv_dup2_11 hx hb hdec (ma_cv_cat b sa _) (ma_cv_cat b sa _) (kk H locs ls hL hl hw)
    · cases h
  | dup_x1 =>
    obtain rfl : len = 1 := by simpa [ma_nl] using hn
    simp only [ma_one, ma_go] at h
    split at h
    · cases h
      exact lv_dup_x1 hx hb hdec (ma_cv_cat b sa _) (ma_cv_cat b sa _) (kk H locs ls hL hl hw)
    · cases h
  | pop =>
    obtain rfl : len = 1 := by simpa [ma_nl] using hn
    simp only [ma_one, ma_go] at h
    split at h
    · cases h
      exact lv_pop hx hb hdec (ma_cv_cat b sa _) (kk H locs ls hL hl hw)
    · cases h
  | ifCond cnd o =>
    obtain rfl : len = 3 := by simpa [ma_nl] using hn
    cases cnd with
    | eq =>
      simp only [ma_one, ma_br] at h
      split at h
      · split at h
        · rename_i t ht
          cases h
          refine lv_if_eq hx hb hdec (ma_tg_eq ht) (fun hp => ?_) (fun hp => ?_)
          · have k1 := kk H locs ls hL hl hw
            simpa [hp] using k1
          · have k1 := kk H locs ls hL hl hw
            simpa [hp] using k1
        · cases h
      · cases h
    | ne =>
      simp only [ma_one, ma_br] at h
      split at h
      · split at h
        · rename_i t ht
          cases h
          refine lv_if_ne hx hb hdec (ma_tg_eq ht) (fun hp => ?_) (fun hp => ?_)
          · have k1 := kk H locs ls hL hl hw
            simpa [hp] using k1
          · have k1 := kk H locs ls hL hl hw
            simpa [hp] using k1
        · cases h
      · cases h
    | lt =>
      simp only [ma_one, ma_br] at h
      split at h
      · split at h
        · rename_i t ht
          cases h
          refine lv_if_lt hx hb hdec (ma_tg_eq ht) (fun hp => ?_) (fun hp => ?_)
          · have k1 := kk H locs ls hL hl hw
            simpa [hp] using k1
          · have k1 := kk H locs ls hL hl hw
            simpa [hp] using k1
        · cases h
      · cases h
    | ge =>
      simp only [ma_one, ma_br] at h
      split at h
      · split at h
        · rename_i t ht
          cases h
          refine lv_if_ge hx hb hdec (ma_tg_eq ht) (fun hp => ?_) (fun hp => ?_)
          · have k1 := kk H locs ls hL hl hw
            simpa [hp] using k1
          · have k1 := kk H locs ls hL hl hw
            simpa [hp] using k1
        · cases h
      · cases h
    | gt =>
      simp only [ma_one, ma_br] at h
      split at h
      · split at h
        · rename_i t ht
          cases h
          refine lv_if_gt hx hb hdec (ma_tg_eq ht) (fun hp => ?_) (fun hp => ?_)
          · have k1 := kk H locs ls hL hl hw
            simpa [hp] using k1
          · have k1 := kk H locs ls hL hl hw
            simpa [hp] using k1
        · cases h
      · cases h
    | le =>
      simp only [ma_one, ma_br] at h
      split at h
      · split at h
        · rename_i t ht
          cases h
          refine lv_if_le hx hb hdec (ma_tg_eq ht) (fun hp => ?_) (fun hp => ?_)
          · have k1 := kk H locs ls hL hl hw
            simpa [hp] using k1
          · have k1 := kk H locs ls hL hl hw
            simpa [hp] using k1
        · cases h
      · cases h
  | if_icmp cnd o =>
    obtain rfl : len = 3 := by simpa [ma_nl] using hn
    cases cnd with
    | eq =>
      simp only [ma_one, ma_br] at h
      split at h
      · split at h
        · rename_i t ht
          cases h
          refine lv_icmp_eq hx hb hdec (ma_tg_eq ht) (fun hp => ?_) (fun hp => ?_)
          · have k1 := kk H locs ls hL hl hw
            simpa [hp] using k1
          · have k1 := kk H locs ls hL hl hw
            simpa [hp] using k1
        · cases h
      · cases h
    | ne =>
      simp only [ma_one, ma_br] at h
      split at h
      · split at h
        · rename_i t ht
          cases h
          refine lv_icmp_ne hx hb hdec (ma_tg_eq ht) (fun hp => ?_) (fun hp => ?_)
          · have k1 := kk H locs ls hL hl hw
            simpa [hp] using k1
          · have k1 := kk H locs ls hL hl hw
            simpa [hp] using k1
        · cases h
      · cases h
    | lt =>
      simp only [ma_one, ma_br] at h
      split at h
      · split at h
        · rename_i t ht
          cases h
          refine lv_icmp_lt hx hb hdec (ma_tg_eq ht) (fun hp => ?_) (fun hp => ?_)
          · have k1 := kk H locs ls hL hl hw
            simpa [hp] using k1
          · have k1 := kk H locs ls hL hl hw
            simpa [hp] using k1
        · cases h
      · cases h
    | ge =>
      simp only [ma_one, ma_br] at h
      split at h
      · split at h
        · rename_i t ht
          cases h
          refine lv_icmp_ge hx hb hdec (ma_tg_eq ht) (fun hp => ?_) (fun hp => ?_)
          · have k1 := kk H locs ls hL hl hw
            simpa [hp] using k1
          · have k1 := kk H locs ls hL hl hw
            simpa [hp] using k1
        · cases h
      · cases h
    | gt =>
      simp only [ma_one, ma_br] at h
      split at h
      · split at h
        · rename_i t ht
          cases h
          refine lv_icmp_gt hx hb hdec (ma_tg_eq ht) (fun hp => ?_) (fun hp => ?_)
          · have k1 := kk H locs ls hL hl hw
            simpa [hp] using k1
          · have k1 := kk H locs ls hL hl hw
            simpa [hp] using k1
        · cases h
      · cases h
    | le =>
      simp only [ma_one, ma_br] at h
      split at h
      · split at h
        · rename_i t ht
          cases h
          refine lv_icmp_le hx hb hdec (ma_tg_eq ht) (fun hp => ?_) (fun hp => ?_)
          · have k1 := kk H locs ls hL hl hw
            simpa [hp] using k1
          · have k1 := kk H locs ls hL hl hw
            simpa [hp] using k1
        · cases h
      · cases h
  | goto o =>
    obtain rfl : len = 3 := by simpa [ma_nl] using hn
    simp only [ma_one, ma_jp] at h
    split at h
    · rename_i t ht
      cases h
      exact lv_goto hx hb hdec (ma_tg_eq ht) (kk H locs ls hL hl hw)
    · cases h
  | tableswitch df lo hi os =>
    simp only [ma_one, ma_jp] at h
    split at h
    · split at h
      · rename_i hout
        split at h
        · rename_i t ht
          cases h
          exact lv_tableOut hx hb hdec hout (ma_tg_eq ht) (kk H locs ls hL hl hw)
        · cases h
      · rename_i hout
        split at h
        · rename_i o ho
          split at h
          · rename_i t ht
            cases h
            exact lv_tableIn hx hb hdec (fun g => hout (Or.inl g)) (fun g => hout (Or.inr g)) ho (ma_tg_eq ht) (kk H locs ls hL hl hw)
          · cases h
        · cases h
    · cases h
  | lookupswitch df ps =>
    simp only [ma_one, ma_jp] at h
    split at h
    · split at h
      · rename_i t ht
        cases h
        exact lv_lookup hx hb hdec (by simpa [ma_lk] using hlk) rfl (ma_tg_eq ht) (kk H locs ls hL hl hw)
      · cases h
    · cases h
  | getfield ix =>
    obtain rfl : len = 3 := by simpa [ma_nl] using hn
    simp only [ma_one, ma_go] at h
    split at h
    · split at h
      · rename_i ho
        split at h
        · rename_i hci
          split at h
          · rename_i v hv
            cases h
            obtain ⟨r, hr, -⟩ := hw.2.1 _ _ (ma_ws_at ho)
            obtain ⟨C, T, N⟩ := r
            dsimp only at hr
            rw [hci] at hr
            obtain ⟨hoC, hinC⟩ := hcl _ (List.mem_of_getElem? hr)
            have hqN : q < N := by simpa [ma_lk, hr] using hlk
            have hsame : (T q).1 = C := (ma_okC_at hoC hqN).1
            have hv' := congrArg (Option.map (ma_cv b sa)) hv
            rw [← List.getElem?_map, Option.map_some] at hv'
            subst hci
            cases z with
            | zero =>
              exact va_get hx hb hts hinC hown hK hw.2.1 _ (ma_ws_at ho) hr q hqN (hwd (.fieldLink mt.1.cls ix C (T q).2.1 (T q).2.2.1) (by simp [ma_wd, hr])) (fun x hx => by rw [← hsame]; exact hx) hv' hdec (kk H locs ls hL hl hw)
            | succ z =>
              exact va_getN hx hb hts hinC hown hK hw.2.1 _ (ma_ws_at ho) hr q hqN (va_Nw.use rfl (hwn (.fieldLinkNest mt.1.cls ix C (T q).2.1 (T q).2.2.1 hs) (by simp [ma_wn, hr]))) (fun x hx => by rw [← hsame]; exact hx) hv' hdec (kk H locs ls hL hl hw)
          · cases h
        · cases h
      · cases h
    · cases h
  | putfield ix =>
    obtain rfl : len = 3 := by simpa [ma_nl] using hn
    simp only [ma_one] at h
    split at h
    · rename_i v o st'
      split at h
      · rename_i ho hr
        split at h
        · rename_i hc3
          obtain ⟨hci, hql, hvt⟩ := hc3
          cases h
          obtain ⟨hoC, hinC⟩ := hcl _ (List.mem_of_getElem? hr)
          simp only [ma_lk, hr, Bool.and_eq_true, Bool.or_eq_true, Bool.not_eq_true', decide_eq_true_eq] at hlk
          obtain ⟨hqN, hfin⟩ := hlk
          obtain ⟨hsame, ⟨ty, hpd, hty⟩, -⟩ := ma_okC_at hoC hqN
          obtain ⟨f1, f2⟩ := ma_fit hty b sa hvt
          subst hci
          refine ma_putf hx hb hts hinC (ma_ty0 _) (fun j hj => ?_) (fun a1 h1 b1 h2 hne => (ma_okC_at hoC h1).2.2 b1 h2 hne) hown hK hw ho hr q hqN hsame ?_ (hfin.imp id fun g => ⟨hin.trans g.1, g.2⟩) (by rw [ma_ty0, hpd]; exact f1) (by rw [ma_ty0, hpd]; exact f2) hql hdec fun H1 locs1 hw1 => kk H1 locs1 ls hL hl hw1
          · obtain ⟨-, ⟨tj, hpj, -⟩, -⟩ := ma_okC_at hoC hj
            rw [ma_ty0, hpj]
            rfl
          · cases z with
            | zero => exact Or.inl (hwd _ (by simp [ma_wd, hr]))
            | succ z => exact Or.inr ⟨hs, va_Nw.use rfl (hwn _ (by simp [ma_wn, hr]))⟩
        · cases h
      · cases h
    · cases h
  | iaload =>
    obtain rfl : len = 1 := by simpa [ma_nl] using hn
    simp only [ma_one, ma_go] at h
    split at h
    · split at h
      · rename_i ho
        split at h
        · cases h
        · rename_i hin
          cases h
          exact va_iald hx hb hK hw.2.1 _ 0 (ma_ws_at ho) rfl (ma_out_in hin) hdec (kk H locs ls hL hl hw)
      · cases h
    · split at h
      · cases h
      · rename_i hin
        cases h
        exact va_sld hx hb hX (by omega) (by show ¬ b ≤ sa; omega) hw.2.2 (ma_out_in hin) hdec (kk H locs ls hL hl hw)
    · cases h
  | iastore =>
    obtain rfl : len = 1 := by simpa [ma_nl] using hn
    simp only [ma_one] at h
    split at h
    · split at h
      · rename_i ho
        split at h
        · cases h
        · rename_i hin
          cases h
          exact ma_iast hx hb hK hw ho (ma_out_in hin) hdec fun H1 locs1 hw1 => kk H1 locs1 ls hL hl hw1
      · cases h
    · cases h
  | aaload =>
    obtain rfl : len = 1 := by simpa [ma_nl] using hn
    simp only [ma_one, ma_go] at h
    split at h
    · split at h
      · rename_i ho
        split at h
        · cases h
        · rename_i hin2
          split at h
          · rename_i r hr
            cases h
            exact ma_aald hx hb hK hw.2.1 ho hr (ma_out_in hin2) hdec (kk H locs ls hL hl hw)
          · cases h
      · cases h
    · cases h
  | arraylength =>
    obtain rfl : len = 1 := by simpa [ma_nl] using hn
    simp only [ma_one, ma_go] at h
    split at h
    · split at h
      · rename_i ho
        cases h
        exact va_alen hx hb hK hw.2.1 _ 0 (ma_ws_at ho) rfl rfl hdec (kk H locs ls hL hl hw)
      · cases h
    · cases h
      exact va_slen hx hb hX (by omega) (by show ¬ b ≤ sa; omega) hw.2.2 hdec (kk H locs ls hL hl hw)
    · cases h
  | newarray at_ =>
    obtain rfl : len = 2 := by simpa [ma_nl] using hn
    cases at_ with
    | int =>
      simp only [ma_one] at h
      split at h
      · split at h
        · cases h
        · rename_i hc2
          cases h
          have n1 : ¬ _ := fun g => hc2 (Or.inl g)
          have n2 : ¬ _ := fun g => hc2 (Or.inr g)
          exact ma_newa hx hb (hwd _ (by simp [ma_wd])) hK hw hbs n1 (by omega) hkc hks hdec fun H1 hw1 => kk H1 locs ls hL hl hw1
      · cases h
    | _ => simp [ma_one] at h
  | multianewarray ix dm =>
    obtain rfl : len = 4 := by simpa [ma_nl] using hn
    by_cases hdm : dm = 2
    · subst hdm
      simp only [ma_one] at h
      split at h
      · split at h
        · cases h
        · rename_i hc2
          cases h
          have n1 : ¬ _ := fun g => hc2 (Or.inl g)
          have n2 : ¬ _ := fun g => hc2 (Or.inr (Or.inl g))
          have n3 : ¬ _ := fun g => hc2 (Or.inr (Or.inr (Or.inl g)))
          have n4 : ¬ _ := fun g => hc2 (Or.inr (Or.inr (Or.inr g)))
          have hkc' : _ ≤ R.cells := hkc
          have hks' : _ ≤ R.slots := hks
          exact ma_multi hx hb hown (hwd _ (by simp [ma_wd])) hAO (hwd _ (by simp [ma_wd])) hK hw hbs n1 n2 (by omega) (by omega) (by rw [← Nat.add_assoc]; exact hkc) (by rw [← Nat.add_assoc]; exact hks) hdec fun H1 locs1 hw1 => kk H1 locs1 ls hL hl hw1
      · cases h
    · simp [ma_one, hdm] at h
  | new ix =>
    obtain rfl : len = 3 := by simpa [ma_nl] using hn
    simp only [ma_one] at h
    split at h
    · rename_i C T N hr
      cases h
      obtain ⟨hoC, hinC⟩ := hcl _ (List.mem_of_getElem? hr)
      refine ma_newo hx hb hts hinC (ma_ty0 T) (fun j hj => ?_) hown (hwd _ (by simp [ma_wd, hr])) (hwd (.instantiable C N) (by simp [ma_wd, hr])) (hwd (.initialized C) (by simp [ma_wd, hr])) hK hw hbs hr (fun j hj => ?_) hkc hks hdec fun H1 hw1 => kk H1 locs ls hL hl hw1
      · obtain ⟨-, ⟨tj, hpj, -⟩, -⟩ := ma_okC_at hoC hj
        rw [ma_ty0, hpj]
        rfl
      · obtain ⟨-, ⟨tj, hpj, htj⟩, -⟩ := ma_okC_at hoC hj
        rw [ma_ty0, hpj]
        simp [vp_V, List.getD_eq_getElem?_getD, List.getElem?_map, List.getElem?_range hj, ma_df_at htj]
    · cases h
  | invokestatic ix =>
    obtain rfl : len = 3 := by simpa [ma_nl] using hn
    simp only [ma_one, ma_lib, ma_go] at h
    split at h
    · cases h
    · rename_i d'
      have hfr1 : 1 ≤ R.frames := by omega
      split at h
      · rename_i st'
        split at h
        · cases h
        · cases h
          exact va_mmax hx hb (hml.trans hl.1.symm) hown (hwd _ (by simp [ma_wd])) (hwd (.static Lib.Math.max.name) (by simp [ma_wd])) (hwd (.initialized "java/lang/Math") (by simp [ma_wd])) (hwd (.code Lib.Math.max.name Lib.Math.max.code 2 (some .int)) (by simp [ma_wd])) hfr1 (by rw [ma_catsum]; omega) hkc hks hdec (kk H locs ls hL hl hw)
      · rename_i st'
        split at h
        · cases h
        · cases h
          exact va_mmin hx hb (hml.trans hl.1.symm) hown (hwd _ (by simp [ma_wd])) (hwd (.static Lib.Math.min.name) (by simp [ma_wd])) (hwd (.initialized "java/lang/Math") (by simp [ma_wd])) (hwd (.code Lib.Math.min.name Lib.Math.min.code 2 (some .int)) (by simp [ma_wd])) hfr1 (by rw [ma_catsum]; omega) hkc hks hdec (kk H locs ls hL hl hw)
      · rename_i st'
        split at h
        · cases h
        · cases h
          exact va_mabs hx hb (hml.trans hl.1.symm) hown (hwd _ (by simp [ma_wd])) (hwd (.static Lib.Math.abs.name) (by simp [ma_wd])) (hwd (.initialized "java/lang/Math") (by simp [ma_wd])) (hwd (.code Lib.Math.abs.name Lib.Math.abs.code 1 (some .int)) (by simp [ma_wd])) hfr1 (by rw [ma_catsum]; omega) hkc hks hdec (kk H locs ls hL hl hw)
      · rename_i st'
        split at h
        · cases h
        · simp only [ma_cp] at h
          split at h
          · rename_i ho0 ho1
            split at h
            · cases h
            · rename_i hc5
              cases h
              exact ma_copy hx hb (hml.trans hl.1.symm) hown (hwd _ (by simp [ma_wd])) (hwd (.native arraycopyName) (by simp [ma_wd])) (hwd (.static arraycopyName) (by simp [ma_wd])) (hwd (.initialized "java/lang/System") (by simp [ma_wd])) hK hw ho0 ho1 (fun g => hc5 (Or.inl g)) (fun g => hc5 (Or.inr (Or.inl g))) (fun g => hc5 (Or.inr (Or.inr (Or.inl g)))) (Nat.not_lt.mp fun g => hc5 (Or.inr (Or.inr (Or.inr (Or.inl g))))) (Nat.not_lt.mp fun g => hc5 (Or.inr (Or.inr (Or.inr (Or.inr g))))) hfr1 (by rw [ma_catsum, show nativeFrameWords "java/lang/System" "arraycopy" 5 = 7 by decide +kernel]; omega) hdec fun H1 locs1 hw1 => kk H1 locs1 ls hL hl hw1
          · cases h
      · cases h
  | invokespecial ix =>
    obtain rfl : len = 3 := by simpa [ma_nl] using hn
    simp only [ma_one, ma_go] at h
    split at h
    · rename_i d' o st'
      split at h
      · rename_i hc2
        obtain ⟨ha, hst⟩ := hc2
        cases h
        have ha' : a = 5 := ha
        subst ha'
        exact W.objInit hx hb hown (hwd (.methodLink mt.1.cls ix Lib.objectInit) (by simp [ma_wd])) (hwd (.instanceMethod Lib.objectInit) (by simp [ma_wd])) (hwd (.code Lib.objectInit ⟨#[0xb1]⟩ 1 none) (by simp [ma_wd])) rfl (hl.1.trans hml.symm) rfl hdec (by omega) (by show 2 * 0 + _ + 12 ≤ _; rw [ma_catsum]; omega) (kk H locs ls hL hl hw)
      · cases h
    · cases h
  | _ => simp [ma_one] at h
end MST
end
section
/-! 45.main: what the small machine answers, the method does -/
set_option maxHeartbeats 4000000 in
theorem ma_one_grow {cls : List vw_C} {scr : Nat × (Nat → Int32)} {d : Nat} {i : ma_I} {f f' : ma_F} (h : ma_one cls scr d i f = some f') : f.2.2.2.2.1 ≤ f'.2.2.2.2.1 ∧ f.2.2.2.2.2 ≤ f'.2.2.2.2.2 := by
  unfold ma_one at h
  split at h
  all_goals (try simp only [ma_ild, ma_ald, ma_sto, ma_lib, ma_cp, ma_br, ma_jp, ma_go] at h)
  all_goals (repeat' split at h)
  all_goals first
    | (cases h; done)
    | (cases h; exact ⟨Nat.le_refl _, Nat.le_refl _⟩)
    | (cases h; refine ⟨?_, ?_⟩ <;> simp <;> omega)
theorem ma_grow {cls : List vw_C} {P : List ma_M} {scr : Nat × (Nat → Int32)} : ∀ (n d mi : Nat) (f : ma_F) (r : Option Value) (σ : ma_S) (mc ms : Nat), ma_ex cls P scr n d mi f = some (r, σ, mc, ms) → f.2.2.2.2.1 ≤ mc ∧ f.2.2.2.2.2 ≤ ms := by
  intro n
  induction n with
  | zero => intro d mi f r σ mc ms h; simp [ma_ex] at h
  | succ n ih =>
    intro d mi f r σ mc ms h
    obtain ⟨pc, L, st, σ0, k, s0⟩ := f
    rw [ma_ex] at h
    split at h
    · cases h
    · split at h
      · cases h
      · split at h
        · split at h
          · cases h
          · split at h
            · cases h
            · split at h
              · cases h
              · split at h
                · cases h
                · have h1 := ih _ _ _ _ _ _ _ h
                  dsimp only at h1 ⊢
                  omega
        · split at h
          · split at h
            · cases h
            · cases h
              exact ⟨Nat.le_refl _, Nat.le_refl _⟩
          · split at h
            · cases h
            · rename_i f' h1
              have h2 := ih _ _ _ _ _ _ _ h
              have h3 := ma_one_grow h1
              omega
theorem ma_entry {cls : List vw_C} {P : List ma_M} {mt : ma_M} (h : ma_okM cls P mt = true) {pc : Nat} {i : ma_I} (hi : (pc, i) ∈ mt.2.2.2.2.2.2) : decode mt.2.1 pc = .ok (i.1, i.2.1) ∧ ma_nl i.1 i.2.1 = true ∧ ma_lk cls P mt i = true := by
  unfold ma_okM at h
  rw [Bool.and_eq_true] at h
  have h1 := List.all_eq_true.mp h.2 _ hi
  rw [Bool.and_eq_true, Bool.and_eq_true] at h1
  obtain ⟨⟨h2, h3⟩, h4⟩ := h1
  refine ⟨?_, h3, h4⟩
  split at h2
  · rename_i j n hd
    rw [Bool.and_eq_true, decide_eq_true_eq, decide_eq_true_eq] at h2
    rw [← h2.1, ← h2.2]
    exact hd
  · cases h2
theorem ma_okM_at {cls : List vw_C} {P : List ma_M} {mt : ma_M} (h : ma_okM cls P mt = true) : plainFor mt.1 = true ∧ mt.1.cls ≠ "java/lang/invoke/MethodHandle" ∧ mt.1.cls ≠ "java/lang/invoke/VarHandle" ∧ mt.2.2.1 ≤ 18 ∧ (parseMethodDescriptor mt.1.desc).map (fun d => d.parameters.length) = some mt.2.2.2.2.1 ∧ ∀ q, cls[mt.2.2.2.2.2.1]? = some q → q.1 = mt.1.cls := by
  unfold ma_okM at h
  simp only [Bool.and_eq_true, decide_eq_true_eq] at h
  obtain ⟨⟨⟨⟨⟨⟨h1, h2⟩, h3⟩, h4⟩, h5⟩, h6⟩, -⟩ := h
  refine ⟨h1, h2, h3, h4, h5, fun q hq => ?_⟩
  rw [hq] at h6
  simpa using h6
section MSX
variable {l : Launch} {hs : String} {cls : List vw_C} {P : List ma_M} {Ts NS : List Cond} {D : va_G} {cI c2 : ClassId} {b sa : Nat} {scr : Nat × (Nat → Int32)}
/-- the machine's answer with this fuel is the method's -/
def ma_Snd (l : Launch) (cls : List vw_C) (P : List ma_M) (Ts NS : List Cond) (D : va_G) (cI c2 : ClassId) (b sa : Nat) (scr : Nat × (Nat → Int32)) (n : Nat) : Prop :=
  ∀ (d mi : Nat) (f : ma_F) (r : Option Value) (σ' : ma_S) (mc ms : Nat) (mt : ma_M), P[mi]? = some mt → ma_ex cls P scr n d mi f = some (r, σ', mc, ms) →
  ∀ (p : Program) (e : Env) (R : Room) (s : State) (m : MethodId) (args : Array Value) (below : List Frame) (meth : Method) (c : Code) (H : Heap) (locs : List Loc) (ls : Array Slot) (Q : State → Prop), (∀ (pc : Nat) (i : ma_I) (L : List (Option Value)) (st : List Value) (H1 : Heap) (locs1 : List Loc) (ls1 : Array Slot), (pc, i) ∈ mt.2.2.2.2.2.2 → ma_rt mt.2.2.2.1 i (pc, L, st, σ', mc, ms) = some r → ma_Wd cls D cI c2 b sa σ' s.heap H1 locs1 → W p l e R s m args below meth c H1 locs1 mc ms Q (F0 m pc ls1 (st.map (ma_cv b sa)))) → ma_Ctx cls Ts NS D cI c2 b sa scr mt p s m args meth c → d ≤ R.frames → 37 * d ≤ R.locals → mc ≤ R.cells → ms ≤ R.slots →
    f.2.1.length = mt.2.2.1 → lv_has ls mt.2.2.1 (ma_lv (ma_cv b sa) 0 f.2.1) → ma_Wd cls D cI c2 b sa f.2.2.2.1 s.heap H locs →
    W p l e R s m args below meth c H locs f.2.2.2.2.1 f.2.2.2.2.2 Q (F0 m f.1 ls (f.2.2.1.map (ma_cv b sa)))
theorem ma_ret {p : Program} {e : Env} {R : Room} {s : State} {m : MethodId} {args : Array Value} {below : List Frame} {meth : Method} {c : Code} {H : Heap} {locs : List Loc} {ls : Array Slot} {pc k s0 : Nat} {L : List (Option Value)} {st : List Value} {σ : ma_S} {mt : ma_M} (hC : ma_Ctx cls Ts NS D cI c2 b sa scr mt p s m args meth c) {i : ma_I} (hdec : decode mt.2.1 pc = .ok (i.1, i.2.1)) (hn : ma_nl i.1 i.2.1 = true) {r : Option Value} (h : ma_rt mt.2.2.2.1 i (pc, L, st, σ, k, s0) = some r) (hw : ma_Wd cls D cI c2 b sa σ s.heap H locs) :
    W p l e R s m args below meth c H locs k s0 (MQ below (ma_Qc cls D cI c2 b sa r σ) args s k s0 (fun q => b ≤ q)) (F0 m pc ls (st.map (ma_cv b sa))) := by
  obtain ⟨hx, hb, hml, hr, hts, hown, hlocks, hin, hN⟩ := hC
  have hq : ∀ t : State, t.heap = H → s.WarmedH t.vm → ma_Qc cls D cI c2 b sa r σ args s (.returned (r.map (ma_cv b sa))) t := fun t ht _ => ⟨rfl, by rw [ht]; exact hw.1, by rw [ht]; exact hw.2.1, hw.2.2.F ht⟩
  obtain ⟨ins, len, a, q, z⟩ := i
  unfold ma_rt at h
  dsimp only at *
  split at h
  · obtain rfl : len = 1 := by simpa [ma_nl] using hn
    split at h
    · rename_i x hret
      cases h
      exact W.iret hx hb (hr.trans hret) hq hw.2.2.2.2 hdec hlocks
    · rename_i x hret
      split at h
      · rename_i h01
        cases h
        exact W.zret hx hb (hr.trans hret) (by rcases h01 with rfl | rfl <;> rfl) hq hw.2.2.2.2 hdec hlocks
      · cases h
    · cases h
  · obtain rfl : len = 1 := by simpa [ma_nl] using hn
    split at h
    · rename_i hret
      cases h
      exact W.vret hx hb (hr.trans hret) hq hw.2.2.2.2 hdec hlocks
    · cases h
  · cases h
theorem ma_ofW {y : MethodName} {ws ws' : List Cond} {rm : Room} {Pc : Array Value → State → Prop} {Qc : Array Value → State → Outcome → State → Prop} {mc ms : Nat} {free : Addr → Prop} {cc : ByteArray} {maxL : Nat} {ret : Option FieldType} (hy : plainFor y = true) (hw : ws = Cond.code y cc maxL ret :: ws')
    (body : ∀ p e s m args below meth c s₁, BodyLoose p l y (headSpec ws rm) cc maxL ret e s m args below meth c s₁ → c.maxLocals = maxL → Pc args s → W p l e (headSpec ws rm).room s m args below meth c s.heap [] 0 0 (MQ below Qc args s mc ms free) (entryFrame m args maxL)) : Met l y ws rm Pc Qc mc ms free := by
  refine MetFree.of_bodyRF (code := cc) (maxLocals := maxL) (ret := ret) hy ?_ ?_
  · intro args s m h hn
    obtain ⟨meth, c, h1, h2, h3, h4, h5, h6, -, -⟩ := Cond.code_spec hn (atoms_spec (ws := ws) h _ (by rw [hw]; exact List.mem_cons_self))
    exact ⟨meth, c, h1, h2, h3, h4, h5, h6⟩
  · intro p e s m args below meth c s₁ B hml hP _ hst
    have hh0 : s₁.heap = s.heap := by rw [B.state]; rfl
    obtain ⟨t, a1, o, b1, b2, b3⟩ := body p e s m args below meth c s₁ B hml hP s₁ hh0 (Stand.of_body B)
    exact ⟨t, o, hst.trans a1, b1, b2, ⟨b3.1, b3.2⟩⟩
theorem ma_met {n : Nat} (ih : ma_Snd l cls P Ts NS D cI c2 b sa scr n) {d mi : Nat} {my : ma_M} (hmy : P[mi]? = some my) (hokM : ma_okM cls P my = true) {as : List Value} {σ σ' : ma_S} {r : Option Value} {mc ms : Nat} (hal : as.length ≤ my.2.2.1) (hex : ma_ex cls P scr n d mi (ma_in my as σ) = some (r, σ', mc, ms)) :
    Met l my.1 (ma_wy my Ts) (ma_rm d mc ms) (ma_Pc cls NS D cI c2 b sa scr as σ) (ma_Qc cls D cI c2 b sa r σ') mc ms (fun q => b ≤ q) := by
  refine ma_ofW (cc := my.2.1) (maxL := my.2.2.1) (ret := my.2.2.2.1) (ma_okM_at hokM).1 rfl ?_
  intro p e s m args below meth c s₁ B hml hv
  obtain ⟨hargs, hsz, hPw, hN⟩ := hv
  have hts := atoms_spec (ws := ma_wy my Ts) B.pre
  have hctx : ma_Ctx cls Ts NS D cI c2 b sa scr my p s m args meth c := ⟨B.exec, B.bytes, hml, B.returns, fun w hw => hts w (List.mem_cons_of_mem _ hw), findClass_of_methodNamed B.named, B.notSynchronized, (name_of_methodNamed B.named B.method).1, hN⟩
  subst hargs
  rw [lg_entry_eq]
  have hle : (lg_sl (as.map (ma_cv b sa))).length ≤ my.2.2.1 := by rw [ma_sl_len]; exact hal
  have hl := lv_entry (as.map (ma_cv b sa)) hle
  have hl2 : lv_has ((lg_sl (as.map (ma_cv b sa)) ++ List.replicate (my.2.2.1 - (lg_sl (as.map (ma_cv b sa))).length) Slot.unset).toArray) my.2.2.1 (ma_lv (ma_cv b sa) 0 (as.map some ++ List.replicate (my.2.2.1 - as.length) none)) := ⟨hl.1, hl.2.1, fun q hq => hl.2.2 q (ma_lv_args b sa as _ 0 q hq)⟩
  exact ih d mi (ma_in my as σ) r σ' mc ms my hmy hex p e _ s m _ below meth c s.heap [] _ _ (fun pc i L st H1 locs1 ls1 hi hrt hw1 => ma_ret hctx (ma_entry hokM hi).1 (ma_entry hokM hi).2.1 hrt hw1) hctx (Nat.le_refl _) (Nat.le_refl _) (Nat.le_refl _) (Nat.le_refl _) (by show (as.map some ++ List.replicate (my.2.2.1 - as.length) none).length = _; rw [List.length_append, List.length_map, List.length_replicate]; omega) hl2 ⟨hsz, hPw, va_S.rf⟩
theorem ma_good {my : ma_M} (hgood : ∀ w ∈ Ts, (w.onTables && w.keeps) = true ∨ ∃ ty, w = .arrayClass ty) (hc : Cond.code my.1 my.2.1 my.2.2.1 my.2.2.2.1 ∈ Ts) : GoodIn Ts (ma_wy my Ts) := by
  intro w hw
  rcases List.mem_cons.mp hw with h | h
  · subst h
    exact ⟨hc, hgood _ hc⟩
  · exact ⟨h, hgood w h⟩
variable {p : Program} {e : Env} {R : Room} {s : State} {m : MethodId} {args : Array Value} {below : List Frame} {meth : Method} {c : Code} {H : Heap} {locs : List Loc} {Q : State → Prop} {ls : Array Slot}
variable {pc d' k s0 : Nat} {L : List (Option Value)} {st : List Value} {σ : ma_S} {mt my : ma_M}
theorem ma_cy1 {i : ma_I} {cy : Nat} (hcy : ma_callee i = some cy) (hmy : P[cy]? = some my) (hlk : ma_lk cls P mt i = true) : ∃ cy0, cy = cy0 + 1 := by
  obtain ⟨ins, len, a, q, z⟩ := i
  unfold ma_callee at hcy
  dsimp only at hcy
  refine ⟨cy - 1, ?_⟩
  split at hcy
  · split at hcy
    · rename_i ha
      cases hcy
      simp [ma_lk, hmy] at hlk
      omega
    · cases hcy
  · split at hcy
    · rename_i ha
      cases hcy
      simp [ma_lk, hmy] at hlk
      omega
    · cases hcy
  · split at hcy
    · rename_i ha
      cases hcy
      simp [ma_lk, hmy] at hlk
      omega
    · cases hcy
  · cases hcy
theorem ma_split (b sa q : Nat) (st : List Value) : st.map (ma_cv b sa) = (((st.take q).reverse).map (ma_cv b sa)).reverse ++ (st.drop q).map (ma_cv b sa) := by
  rw [← List.map_reverse, List.reverse_reverse, ← List.map_append, List.take_append_drop]
set_option maxHeartbeats 4000000 in
theorem ma_call {n : Nat} (ih : ma_Snd l cls P Ts NS D cI c2 b sa scr n) (hok : ma_Ok hs cls Ts NS P) (hC : ma_Ctx cls Ts NS D cI c2 b sa scr mt p s m args meth c) {i : ma_I} {cy : Nat} (hmy : P[cy]? = some my) (hcy : ma_callee i = some cy)
    (hdec : decode mt.2.1 pc = .ok (i.1, i.2.1)) (hn : ma_nl i.1 i.2.1 = true) (hlk : ma_lk cls P mt i = true) (hwd : ∀ w ∈ ma_wd cls P mt i, w.before args s = true) (hwn : ∀ w ∈ ma_wn hs cls P mt i, va_Nw w s) (hfr : d' + 1 ≤ R.frames) (hlo : 37 * (d' + 1) ≤ R.locals)
    (hq1 : ¬ st.length < i.2.2.2.1) (hq2 : ¬ 8 + i.2.2.2.1 < st.length) (hq3 : ¬ my.2.2.1 < i.2.2.2.1) (hrc : ¬ ma_rcv i (st.take i.2.2.2.1).reverse σ = false) {r : Option Value} {σ1 : ma_S} {mc ms : Nat} (hex : ma_ex cls P scr n d' cy (ma_in my (st.take i.2.2.2.1).reverse σ) = some (r, σ1, mc, ms))
    (hkc : k + mc ≤ R.cells) (hks : s0 + ms ≤ R.slots) (hl : lv_has ls mt.2.2.1 (ma_lv (ma_cv b sa) 0 L)) (hw : ma_Wd cls D cI c2 b sa σ s.heap H locs)
    (kk : ∀ (H1 : Heap) (locs1 : List Loc), ma_Wd cls D cI c2 b sa σ1 s.heap H1 locs1 → W p l e R s m args below meth c H1 locs1 (k + mc) (s0 + ms) Q (F0 m (pc + 3) ls ((r.toList ++ st.drop i.2.2.2.1).map (ma_cv b sa)))) :
    W p l e R s m args below meth c H locs k s0 Q (F0 m pc ls (st.map (ma_cv b sa))) := by
  obtain ⟨hcl, hgood, hNS, hPok, hPc⟩ := hok
  obtain ⟨hokM, -, -⟩ := hPok my (List.mem_of_getElem? hmy)
  obtain ⟨cy0, hcy0⟩ : ∃ cy0, cy = cy0 + 1 := ma_cy1 hcy hmy hlk
  obtain ⟨hcode, hini0⟩ := hPc cy0 my (by rw [← hcy0]; exact hmy)
  clear hcy0
  obtain ⟨hx, hb, hml, hr, hts, hown, hlocks, hin, hN⟩ := hC
  obtain ⟨o1, o2, o3, o4, o5, o6⟩ := ma_okM_at hokM
  have hini : (Cond.initialized my.1.cls).before args s = true := hts _ hini0
  have hG := ma_good hgood hcode
  have halen : (st.take i.2.2.2.1).reverse.length = i.2.2.2.1 := by rw [List.length_reverse, List.length_take]; omega
  have hM := ma_met ih hmy hokM (by rw [halen]; omega) hex
  have hS : CallFix p m c mt.2.1 mt.2.2.1 s args Ts mt.1.cls := ⟨hx, hb, hml, hown, hts⟩
  have hPre : ∀ U : State, U.heap = H → s.WarmedH U.vm → ma_Pc cls NS D cI c2 b sa scr (st.take i.2.2.2.1).reverse σ (((st.take i.2.2.2.1).reverse.map (ma_cv b sa)).toArray) U := fun U hU hW => ⟨rfl, by rw [hU]; exact hw.1, by rw [hU]; exact hw.2.1, by rw [hU]; exact hN.warm hNS hW hw.2.2⟩
  have hbl := ma_blind cls NS hNS D cI c2 b sa scr (st.take i.2.2.2.1).reverse σ
  have hroom : (ma_rm d' mc ms).frames + 1 ≤ R.frames ∧ 8 + (my.2.2.1 + 11) + (ma_rm d' mc ms).locals ≤ R.locals := ⟨hfr, by show 8 + (my.2.2.1 + 11) + 37 * d' ≤ _; omega⟩
  have hsum : ((((st.drop i.2.2.2.1).map (ma_cv b sa)).map fun v => v.category).sum) ≤ 8 := by rw [ma_catsum, List.length_drop]; omega
  have hkk : ∀ (H1 : Heap) (locs1 : List Loc), ma_Wd cls D cI c2 b sa σ1 s.heap H1 locs1 → W p l e R s m args below meth c H1 locs1 (k + mc) (s0 + ms) Q (F0 m (pc + 3) ls ((r.map (ma_cv b sa)).toList ++ (st.drop i.2.2.2.1).map (ma_cv b sa))) := by
    intro H1 locs1 hw1
    have h := kk H1 locs1 hw1
    rw [List.map_append] at h
    cases r <;> exact h
  obtain ⟨ins, len, a, q, z⟩ := i
  unfold ma_callee at hcy
  dsimp only at *
  split at hcy
  · rename_i ix
    obtain rfl : len = 3 := by simpa [ma_nl] using hn
    split at hcy
    · rename_i ha
      cases hcy
      have hna : ¬ a < 10 := by omega
      have hq : q = my.2.2.2.2.1 := by
        simp [ma_lk, hna, hmy] at hlk
        exact hlk.1
      have hlen : ((st.take q).reverse.map (ma_cv b sa)).length = my.2.2.2.2.1 := by rw [List.length_map, halen]; exact hq
      obtain ⟨a', rfl⟩ : ∃ a', a = a' + 10 := ⟨a - 10, by omega⟩
      rw [Nat.add_sub_cancel] at hmy hex
      rw [ma_split b sa q st]
      cases hz : z / 100 with
      | zero =>
        have hlink : (Cond.methodLink mt.1.cls ix my.1).before args s = true := hwd _ (by simp [ma_wd, hmy, hz])
        have hstat : (Cond.static my.1).before args s = true := hwd _ (by simp [ma_wd, hmy, hz])
        exact ma_run (va_runS hS hM ⟨callB_of my.2.2.2.2.1 hts hG rfl rfl rfl hini hlink ⟨o2, o3, o5⟩ hroom, hstat⟩ ⟨hbl, hPre⟩ rfl hlen hl.1 rfl (by show 2 * 0 + (((st.drop q).map (ma_cv b sa)).map fun v => v.category).sum ≤ 8; omega) hdec ⟨hkc, hks⟩) hw hkk
      | succ z' =>
        have hlink : va_Nw (.methodLinkNest mt.1.cls ix my.1 hs) s := hwn _ (by simp [ma_wn, hmy, hz])
        have hstat : (Cond.static my.1).before args s = true := hwd _ (by simp [ma_wd, hmy, hz])
        exact ma_run (va_runSN hS hM ⟨va_cnB my.2.2.2.2.1 hts hG rfl rfl rfl hlink hini ⟨o2, o3, o5⟩ hroom, hstat, trivial⟩ ⟨hbl, hPre⟩ rfl hlen hl.1 rfl (by show 2 * 0 + (((st.drop q).map (ma_cv b sa)).map fun v => v.category).sum ≤ 8; omega) hdec ⟨hkc, hks⟩) hw hkk
    · cases hcy
  · rename_i ix
    obtain rfl : len = 3 := by simpa [ma_nl] using hn
    split at hcy
    · rename_i ha
      cases hcy
      simp only [ma_lk, hmy, Bool.and_eq_true, decide_eq_true_eq] at hlk
      obtain ⟨⟨hq, hz0⟩, -⟩ := hlk
      have hst := ma_split b sa q st
      simp only [ma_rcv] at hrc
      generalize hasd : (st.take q).reverse = as at *
      cases as with
      | nil => simp at hrc
      | cons v as' =>
        cases v with
        | ref o =>
          dsimp only at hrc
          cases ho : σ[o]? with
          | none => rw [ho] at hrc; simp at hrc
          | some ce =>
            rw [ho] at hrc
            rcases ce with x | x | ⟨ci, fs⟩
            · simp at hrc
            · simp at hrc
            · have hci : ci = z % 100 := by simpa using hrc
              obtain ⟨qc, hqc, -⟩ := hw.2.1 _ _ (ma_ws_at ho)
              have hqc' : cls[ci]? = some qc := hqc
              have hname : qc.1 = my.1.cls := o6 qc (by rw [← hz0, ← hci]; exact hqc')
              have hcell := va_recv hN.1 hw.2.1 hqc' (ma_ws_at ho)
              rw [hname] at hcell
              have hlen : (as'.map (ma_cv b sa)).length = my.2.2.2.2.1 := by rw [List.length_map]; rw [List.length_cons] at halen; omega
              rw [hst, List.map_cons, List.reverse_cons, List.append_assoc]
              cases hz : z / 100 with
              | zero =>
                have hlink : (Cond.methodLink mt.1.cls ix my.1).before args s = true := hwd _ (by simp [ma_wd, hmy, hz])
                have hinst : (Cond.instanceMethod my.1).before args s = true := hwd _ (by simp [ma_wd, hmy, hz])
                have hsel : (Cond.selects my.1.cls my.1 my.1).before args s = true := hwd _ (by simp [ma_wd, hmy, hz])
                exact ma_run (va_runV hS hM ⟨callB_of my.2.2.2.2.1 hts hG rfl rfl rfl hini hlink ⟨o2, o3, o5⟩ hroom, hinst, hsel⟩ ⟨hbl, hcell, hPre⟩ rfl hlen hl.1 rfl (by show 2 * 0 + (((st.drop q).map (ma_cv b sa)).map fun v => v.category).sum ≤ 8; omega) hdec ⟨hkc, hks⟩) hw hkk
              | succ z' =>
                have hlink : va_Nw (.methodLinkNest mt.1.cls ix my.1 hs) s := hwn _ (by simp [ma_wn, hmy, hz])
                have hinst : (Cond.instanceMethod my.1).before args s = true := hwd _ (by simp [ma_wd, hmy, hz])
                have hsel : (Cond.selects my.1.cls my.1 my.1).before args s = true := hwd _ (by simp [ma_wd, hmy, hz])
                exact ma_run (va_runVN hS hM ⟨va_cnB my.2.2.2.2.1 hts hG rfl rfl rfl hlink hini ⟨o2, o3, o5⟩ hroom, hinst, hsel⟩ ⟨hbl, hcell, hPre⟩ rfl hlen hl.1 rfl (by show 2 * 0 + (((st.drop q).map (ma_cv b sa)).map fun v => v.category).sum ≤ 8; omega) hdec ⟨hkc, hks⟩) hw hkk
        | _ => simp at hrc
    · cases hcy
  · rename_i ix
    obtain rfl : len = 3 := by simpa [ma_nl] using hn
    split at hcy
    · rename_i ha
      cases hcy
      have hna : ¬ a < 10 := by omega
      have hn5 : ¬ a = 5 := by omega
      simp only [ma_lk, hmy, hna, decide_false, Bool.false_or, Bool.and_eq_true, decide_eq_true_eq] at hlk
      obtain ⟨⟨⟨hq, hnm⟩, hret⟩, -⟩ := hlk
      have hret' : my.2.2.2.1 = none := by simpa using hret
      have hst := ma_split b sa q st
      simp only [ma_rcv] at hrc
      generalize hasd : (st.take q).reverse = as at *
      rw [hret'] at hcode
      cases as with
      | nil => simp at hrc
      | cons v as' =>
        cases v with
        | ref o =>
          have hlen : (as'.map (ma_cv b sa)).length = my.2.2.2.2.1 := by rw [List.length_map]; rw [List.length_cons] at halen; omega
          have hwy : ma_wy my Ts = Cond.code my.1 my.2.1 my.2.2.1 none :: Ts := by rw [ma_wy, hret']
          rw [hst, List.map_cons, List.reverse_cons, List.append_assoc]
          cases hz : z / 100 with
          | zero =>
            have hlink : (Cond.methodLink mt.1.cls ix my.1).before args s = true := hwd _ (by simp [ma_wd, hmy, hz, hn5])
            have hinst : (Cond.instanceMethod my.1).before args s = true := hwd _ (by simp [ma_wd, hmy, hz, hn5])
            exact ma_run (va_runI hS hM ⟨callB_of my.2.2.2.2.1 hts hG hwy rfl rfl hini hlink ⟨o2, o3, o5⟩ hroom, hnm, hinst⟩ ⟨hbl, hPre⟩ rfl hlen hl.1 rfl (by show 2 * 0 + (((st.drop q).map (ma_cv b sa)).map fun v => v.category).sum ≤ 8; omega) hdec ⟨hkc, hks⟩) hw hkk
          | succ z' =>
            have hlink : va_Nw (.methodLinkNest mt.1.cls ix my.1 hs) s := hwn _ (by simp [ma_wn, hmy, hz])
            have hinst : (Cond.instanceMethod my.1).before args s = true := hwd _ (by simp [ma_wd, hmy, hz, hn5])
            exact ma_run (va_runIN hS hM ⟨va_cnB my.2.2.2.2.1 hts hG hwy rfl rfl hlink hini ⟨o2, o3, o5⟩ hroom, hnm, hinst⟩ ⟨hbl, hPre⟩ rfl hlen hl.1 rfl (by show 2 * 0 + (((st.drop q).map (ma_cv b sa)).map fun v => v.category).sum ≤ 8; omega) hdec ⟨hkc, hks⟩) hw hkk
        | _ => simp at hrc
    · cases hcy
  · cases hcy
theorem ma_sound (hok : ma_Ok hs cls Ts NS P) : ∀ n : Nat, ma_Snd l cls P Ts NS D cI c2 b sa scr n := by
  intro n
  induction n with
  | zero =>
    intro d mi f r σ' mc ms mt hmt hex
    simp [ma_ex] at hex
  | succ n ih =>
    intro d mi f r σ' mc ms mt hmt hex p e R s m args below meth c H locs ls Q hQ hC hfr hlo hmc hms hL hl hw
    have hok' := hok
    obtain ⟨hcl, hgood, hNS, hP, -⟩ := hok'
    obtain ⟨pc, L, st, σ, k, s0⟩ := f
    obtain ⟨hokM, hwm, hwnm⟩ := hP mt (List.mem_of_getElem? hmt)
    rw [ma_ex, hmt] at hex
    dsimp only at hex hL hl hw ⊢
    cases hi : mt.2.2.2.2.2.2.lookup pc with
    | none => rw [hi] at hex; cases hex
    | some i =>
      rw [hi] at hex
      dsimp only at hex
      have hmem := ma_lookup hi
      obtain ⟨hdec, hnl, hlk⟩ := ma_entry hokM hmem
      have hC' := hC
      obtain ⟨hx, hb, hml, hr, hts, hown, hlocks, hin, hK, hX, hsb, hbs, hAO, hNW⟩ := hC'
      have hwd : ∀ w ∈ ma_wd cls P mt i, w.before args s = true := fun w h => hts w (hwm w (List.mem_flatMap.mpr ⟨_, hmem, h⟩))
      have hwn : ∀ w ∈ ma_wn hs cls P mt i, va_Nw w s := fun w h => hNW w (hwnm w (List.mem_flatMap.mpr ⟨_, hmem, h⟩))
      cases hcy : ma_callee i with
      | some cy =>
        rw [hcy] at hex
        dsimp only at hex
        cases d with
        | zero => cases hex
        | succ d' =>
          dsimp only at hex
          cases hmy : P[cy]? with
          | none => rw [hmy] at hex; cases hex
          | some my =>
            rw [hmy] at hex
            dsimp only at hex
            split at hex
            · cases hex
            · rename_i hcond
              cases hex1 : ma_ex cls P scr n d' cy (ma_in my (st.take i.2.2.2.1).reverse σ) with
              | none => rw [hex1] at hex; cases hex
              | some res =>
                obtain ⟨r1, σ1, mc1, ms1⟩ := res
                rw [hex1] at hex
                dsimp only at hex
                have hg := ma_grow _ _ _ _ _ _ _ _ hex
                dsimp only at hg
                exact ma_call ih hok hC hmy hcy hdec hnl hlk hwd hwn hfr hlo (fun g => hcond (Or.inl g)) (fun g => hcond (Or.inr (Or.inl g))) (fun g => hcond (Or.inr (Or.inr (Or.inl g)))) (fun g => hcond (Or.inr (Or.inr (Or.inr g)))) hex1 (Nat.le_trans hg.1 hmc) (Nat.le_trans hg.2 hms) hl hw fun H1 locs1 hw1 => ih _ _ _ _ _ _ _ _ hmt hex p e R s m args below meth c H1 locs1 ls Q hQ hC hfr hlo hmc hms hL hl hw1
      | none =>
        rw [hcy] at hex
        dsimp only at hex
        split at hex
        · cases hrt : ma_rt mt.2.2.2.1 i (pc, L, st, σ, k, s0) with
          | none => rw [hrt] at hex; cases hex
          | some r1 =>
            rw [hrt] at hex
            cases hex
            exact hQ pc i L st H locs ls hmem hrt hw
        · cases ho : ma_one cls scr d i (pc, L, st, σ, k, s0) with
          | none => rw [ho] at hex; cases hex
          | some f' =>
            rw [ho] at hex
            dsimp only at hex
            have hg := ma_grow _ _ _ _ _ _ _ _ hex
            obtain ⟨ins, len, a, q, z⟩ := i
            exact ma_step hC hcl hdec hnl hlk hwd hwn hfr hlo ho (Nat.le_trans hg.1 hmc) (Nat.le_trans hg.2 hms) hL hl hw fun H1 locs1 ls1 hL1 hl1 hw1 => ih _ _ _ _ _ _ _ _ hmt hex p e R s m args below meth c H1 locs1 ls1 Q hQ hC hfr hlo hmc hms hL1 hl1 hw1
end MSX
end
section
/-! 05.names: the classes and the methods as the small machine has them (written by gen1.py out of the listing) -/
def RC0 : String := "PhaseBook"
def RC1 : String := "PhaseBook$Auction"
def RC2 : String := "PhaseBook$Book"
def RC3 : String := "PhaseBook$Feed"
def RC4 : String := "PhaseBook$Levels"
def RC5 : String := "PhaseBook$Market"
def RC6 : String := "PhaseBook$Sessions"
def RC7 : String := "PhaseBook$State"
def RC8 : String := "PhaseBook$Subscriber"
def RC9 : String := "PhaseBookModel"
def TC0 : u_T := fun k => match k with
  | 0 => (RC0, "market", "LPhaseBook$Market;", true)
  | 1 => (RC0, "saved", "LPhaseBook$State;", true)
  | 2 => (RC0, "feed", "LPhaseBook$Feed;", true)
  | 3 => (RC0, "subscriber", "LPhaseBook$Subscriber;", true)
  | _ => (RC0, "", "I", false)
def TC1 : u_T := fun k => match k with
  | 0 => (RC1, "price", "I", false)
  | 1 => (RC1, "volume", "I", false)
  | 2 => (RC1, "imbalance", "I", false)
  | _ => (RC1, "", "I", false)
def TC2 : u_T := fun k => match k with
  | 0 => (RC2, "accepted", "I", false)
  | 1 => (RC2, "owner", "[I", true)
  | 2 => (RC2, "side", "[I", true)
  | 3 => (RC2, "kind", "[I", true)
  | 4 => (RC2, "status", "[I", true)
  | 5 => (RC2, "quantity", "[I", true)
  | 6 => (RC2, "price", "[I", true)
  | 7 => (RC2, "peak", "[I", true)
  | 8 => (RC2, "shownPart", "[I", true)
  | 9 => (RC2, "line", "[[I", true)
  | 10 => (RC2, "lineLength", "[I", true)
  | _ => (RC2, "", "I", false)
def TC3 : u_T := fun k => match k with
  | 0 => (RC3, "count", "I", false)
  | 1 => (RC3, "side", "[I", true)
  | 2 => (RC3, "price", "[I", true)
  | 3 => (RC3, "sum", "[I", true)
  | 4 => (RC3, "told", "[[I", true)
  | _ => (RC3, "", "I", false)
def TC4 : u_T := fun k => match k with
  | 0 => (RC4, "sums", "[[I", true)
  | 1 => (RC4, "lowestChanged", "[I", true)
  | 2 => (RC4, "highestChanged", "[I", true)
  | _ => (RC4, "", "I", false)
def TC5 : u_T := fun k => match k with
  | 0 => (RC5, "band", "I", true)
  | 1 => (RC5, "state", "LPhaseBook$State;", true)
  | 2 => (RC5, "book", "LPhaseBook$Book;", true)
  | 3 => (RC5, "sessions", "LPhaseBook$Sessions;", true)
  | 4 => (RC5, "levels", "LPhaseBook$Levels;", true)
  | 5 => (RC5, "auction", "LPhaseBook$Auction;", true)
  | _ => (RC5, "", "I", false)
def TC6 : u_T := fun k => match k with
  | 0 => (RC6, "expected", "[I", true)
  | 1 => (RC6, "extra", "[I", true)
  | 2 => (RC6, "reportCount", "[I", true)
  | 3 => (RC6, "reports", "[[I", true)
  | _ => (RC6, "", "I", false)
def TC7 : u_T := fun k => match k with
  | 0 => (RC7, "phase", "I", false)
  | 1 => (RC7, "last", "I", false)
  | 2 => (RC7, "reference", "I", false)
  | 3 => (RC7, "book", "LPhaseBook$Book;", true)
  | 4 => (RC7, "sessions", "LPhaseBook$Sessions;", true)
  | _ => (RC7, "", "I", false)
def TC8 : u_T := fun k => match k with
  | 0 => (RC8, "needed", "I", false)
  | 1 => (RC8, "picture", "[[I", true)
  | _ => (RC8, "", "I", false)
def TC9 : u_T := fun k => match k with
  | 0 => (RC9, "band", "I", false)
  | 1 => (RC9, "state", "[I", true)
  | 2 => (RC9, "owner", "[I", true)
  | 3 => (RC9, "side", "[I", true)
  | 4 => (RC9, "kind", "[I", true)
  | 5 => (RC9, "quantity", "[I", true)
  | 6 => (RC9, "status", "[I", true)
  | 7 => (RC9, "price", "[I", true)
  | 8 => (RC9, "peak", "[I", true)
  | 9 => (RC9, "shownPart", "[I", true)
  | 10 => (RC9, "rank", "[I", true)
  | 11 => (RC9, "ranks", "I", false)
  | 12 => (RC9, "reports", "[I", true)
  | 13 => (RC9, "bought", "[I", true)
  | 14 => (RC9, "sold", "[I", true)
  | 15 => (RC9, "auctionPrice", "I", false)
  | 16 => (RC9, "volume", "I", false)
  | 17 => (RC9, "imbalance", "I", false)
  | 18 => (RC9, "before", "[I", true)
  | 19 => (RC9, "picture", "[I", true)
  | 20 => (RC9, "feedLevel", "[I", true)
  | 21 => (RC9, "feedSum", "[I", true)
  | 22 => (RC9, "fed", "I", false)
  | 23 => (RC9, "needed", "I", false)
  | _ => (RC9, "", "I", false)
def CLS : List vw_C := [(RC0, TC0, 4), (RC1, TC1, 3), (RC2, TC2, 11), (RC3, TC3, 5), (RC4, TC4, 3), (RC5, TC5, 6), (RC6, TC6, 4), (RC7, TC7, 5), (RC8, TC8, 2), (RC9, TC9, 24)]
def mm0 : ma_M := (⟨"PhaseBookLaw", "law", "([I)Z"⟩, code, 4, some .boolean, 1, 99, [
  (0, .new 7, 3, 0, 0, 0), (3, .dup, 1, 0, 0, 0), (4, .aload_n 0, 1, 0, 0, 0), (5, .iconst 0, 1, 0, 0, 0), (6, .invokestatic 9, 3, 160, 2, 0), (9, .aload_n 0, 1, 0, 0, 0), (10, .iconst 1, 1, 0, 0, 0), (11, .invokestatic 9, 3, 160, 2, 0),
  (14, .invokespecial 15, 3, 11, 3, 0), (17, .astore_n 1, 1, 0, 0, 0), (18, .new 18, 3, 9, 0, 0), (21, .dup, 1, 0, 0, 0), (22, .aload_n 0, 1, 0, 0, 0), (23, .iconst 0, 1, 0, 0, 0), (24, .invokestatic 9, 3, 160, 2, 0), (27, .aload_n 0, 1, 0, 0, 0),
  (28, .iconst 1, 1, 0, 0, 0), (29, .invokestatic 9, 3, 160, 2, 0), (32, .invokespecial 20, 3, 41, 3, 0), (35, .astore_n 2, 1, 0, 0, 0), (36, .iconst 2, 1, 0, 0, 0), (37, .istore_n 3, 1, 0, 0, 0), (38, .iload_n 3, 1, 0, 0, 0), (39, .aload_n 0, 1, 0, 0, 0),
  (40, .arraylength, 1, 0, 0, 0), (41, .bipush 6, 2, 0, 0, 0), (43, .isub, 1, 0, 0, 0), (44, .if_icmp .gt 636, 3, 0, 0, 0), (47, .aload_n 0, 1, 0, 0, 0), (48, .iload_n 3, 1, 0, 0, 0), (49, .iaload, 1, 0, 0, 0), (50, .bipush 31, 2, 0, 0, 0),
  (52, .iand, 1, 0, 0, 0), (53, .tableswitch 621 0 17 #[87, 120, 183, 226, 289, 312, 325, 338, 361, 394, 417, 450, 483, 526, 539, 562, 575, 608], 87, 0, 0, 0), (140, .aload_n 1, 1, 0, 0, 0), (141, .aload_n 0, 1, 0, 0, 0), (142, .iload_n 3, 1, 0, 0, 0), (143, .iconst 1, 1, 0, 0, 0), (144, .iadd, 1, 0, 0, 0), (145, .iaload, 1, 0, 0, 0),
  (146, .aload_n 0, 1, 0, 0, 0), (147, .iload_n 3, 1, 0, 0, 0), (148, .iconst 2, 1, 0, 0, 0), (149, .iadd, 1, 0, 0, 0), (150, .iaload, 1, 0, 0, 0), (151, .invokevirtual 21, 3, 12, 3, 0), (154, .aload_n 2, 1, 0, 0, 0), (155, .aload_n 0, 1, 0, 0, 0),
  (156, .iload_n 3, 1, 0, 0, 0), (157, .iconst 1, 1, 0, 0, 0), (158, .iadd, 1, 0, 0, 0), (159, .iaload, 1, 0, 0, 0), (160, .aload_n 0, 1, 0, 0, 0), (161, .iload_n 3, 1, 0, 0, 0), (162, .iconst 2, 1, 0, 0, 0), (163, .iadd, 1, 0, 0, 0),
  (164, .iaload, 1, 0, 0, 0), (165, .invokevirtual 25, 3, 74, 3, 9), (168, .if_icmp .eq 506, 3, 0, 0, 0), (171, .iconst 0, 1, 0, 0, 0), (172, .ireturn, 1, 0, 0, 0), (173, .aload_n 1, 1, 0, 0, 0), (174, .aload_n 0, 1, 0, 0, 0), (175, .iload_n 3, 1, 0, 0, 0),
  (176, .iconst 1, 1, 0, 0, 0), (177, .iadd, 1, 0, 0, 0), (178, .iaload, 1, 0, 0, 0), (179, .aload_n 0, 1, 0, 0, 0), (180, .iload_n 3, 1, 0, 0, 0), (181, .iconst 2, 1, 0, 0, 0), (182, .iadd, 1, 0, 0, 0), (183, .iaload, 1, 0, 0, 0),
  (184, .aload_n 0, 1, 0, 0, 0), (185, .iload_n 3, 1, 0, 0, 0), (186, .iconst 3, 1, 0, 0, 0), (187, .iadd, 1, 0, 0, 0), (188, .iaload, 1, 0, 0, 0), (189, .aload_n 0, 1, 0, 0, 0), (190, .iload_n 3, 1, 0, 0, 0), (191, .iconst 4, 1, 0, 0, 0),
  (192, .iadd, 1, 0, 0, 0), (193, .iaload, 1, 0, 0, 0), (194, .aload_n 0, 1, 0, 0, 0), (195, .iload_n 3, 1, 0, 0, 0), (196, .iconst 5, 1, 0, 0, 0), (197, .iadd, 1, 0, 0, 0), (198, .iaload, 1, 0, 0, 0), (199, .invokevirtual 26, 3, 13, 6, 0),
  (202, .aload_n 2, 1, 0, 0, 0), (203, .aload_n 0, 1, 0, 0, 0), (204, .iload_n 3, 1, 0, 0, 0), (205, .iconst 1, 1, 0, 0, 0), (206, .iadd, 1, 0, 0, 0), (207, .iaload, 1, 0, 0, 0), (208, .aload_n 0, 1, 0, 0, 0), (209, .iload_n 3, 1, 0, 0, 0),
  (210, .iconst 2, 1, 0, 0, 0), (211, .iadd, 1, 0, 0, 0), (212, .iaload, 1, 0, 0, 0), (213, .aload_n 0, 1, 0, 0, 0), (214, .iload_n 3, 1, 0, 0, 0), (215, .iconst 3, 1, 0, 0, 0), (216, .iadd, 1, 0, 0, 0), (217, .iaload, 1, 0, 0, 0),
  (218, .aload_n 0, 1, 0, 0, 0), (219, .iload_n 3, 1, 0, 0, 0), (220, .iconst 4, 1, 0, 0, 0), (221, .iadd, 1, 0, 0, 0), (222, .iaload, 1, 0, 0, 0), (223, .aload_n 0, 1, 0, 0, 0), (224, .iload_n 3, 1, 0, 0, 0), (225, .iconst 5, 1, 0, 0, 0),
  (226, .iadd, 1, 0, 0, 0), (227, .iaload, 1, 0, 0, 0), (228, .invokevirtual 30, 3, 76, 6, 9), (231, .if_icmp .eq 443, 3, 0, 0, 0), (234, .iconst 0, 1, 0, 0, 0), (235, .ireturn, 1, 0, 0, 0), (236, .aload_n 1, 1, 0, 0, 0), (237, .aload_n 0, 1, 0, 0, 0),
  (238, .iload_n 3, 1, 0, 0, 0), (239, .iconst 1, 1, 0, 0, 0), (240, .iadd, 1, 0, 0, 0), (241, .iaload, 1, 0, 0, 0), (242, .aload_n 0, 1, 0, 0, 0), (243, .iload_n 3, 1, 0, 0, 0), (244, .iconst 2, 1, 0, 0, 0), (245, .iadd, 1, 0, 0, 0),
  (246, .iaload, 1, 0, 0, 0), (247, .aload_n 0, 1, 0, 0, 0), (248, .iload_n 3, 1, 0, 0, 0), (249, .iconst 3, 1, 0, 0, 0), (250, .iadd, 1, 0, 0, 0), (251, .iaload, 1, 0, 0, 0), (252, .invokevirtual 31, 3, 14, 4, 0), (255, .aload_n 2, 1, 0, 0, 0),
  (256, .aload_n 0, 1, 0, 0, 0), (257, .iload_n 3, 1, 0, 0, 0), (258, .iconst 1, 1, 0, 0, 0), (259, .iadd, 1, 0, 0, 0), (260, .iaload, 1, 0, 0, 0), (261, .aload_n 0, 1, 0, 0, 0), (262, .iload_n 3, 1, 0, 0, 0), (263, .iconst 2, 1, 0, 0, 0),
  (264, .iadd, 1, 0, 0, 0), (265, .iaload, 1, 0, 0, 0), (266, .aload_n 0, 1, 0, 0, 0), (267, .iload_n 3, 1, 0, 0, 0), (268, .iconst 3, 1, 0, 0, 0), (269, .iadd, 1, 0, 0, 0), (270, .iaload, 1, 0, 0, 0), (271, .invokevirtual 35, 3, 78, 4, 9),
  (274, .if_icmp .eq 400, 3, 0, 0, 0), (277, .iconst 0, 1, 0, 0, 0), (278, .ireturn, 1, 0, 0, 0), (279, .aload_n 1, 1, 0, 0, 0), (280, .aload_n 0, 1, 0, 0, 0), (281, .iload_n 3, 1, 0, 0, 0), (282, .iconst 1, 1, 0, 0, 0), (283, .iadd, 1, 0, 0, 0),
  (284, .iaload, 1, 0, 0, 0), (285, .aload_n 0, 1, 0, 0, 0), (286, .iload_n 3, 1, 0, 0, 0), (287, .iconst 2, 1, 0, 0, 0), (288, .iadd, 1, 0, 0, 0), (289, .iaload, 1, 0, 0, 0), (290, .aload_n 0, 1, 0, 0, 0), (291, .iload_n 3, 1, 0, 0, 0),
  (292, .iconst 3, 1, 0, 0, 0), (293, .iadd, 1, 0, 0, 0), (294, .iaload, 1, 0, 0, 0), (295, .aload_n 0, 1, 0, 0, 0), (296, .iload_n 3, 1, 0, 0, 0), (297, .iconst 4, 1, 0, 0, 0), (298, .iadd, 1, 0, 0, 0), (299, .iaload, 1, 0, 0, 0),
  (300, .aload_n 0, 1, 0, 0, 0), (301, .iload_n 3, 1, 0, 0, 0), (302, .iconst 5, 1, 0, 0, 0), (303, .iadd, 1, 0, 0, 0), (304, .iaload, 1, 0, 0, 0), (305, .invokevirtual 36, 3, 15, 6, 0), (308, .aload_n 2, 1, 0, 0, 0), (309, .aload_n 0, 1, 0, 0, 0),
  (310, .iload_n 3, 1, 0, 0, 0), (311, .iconst 1, 1, 0, 0, 0), (312, .iadd, 1, 0, 0, 0), (313, .iaload, 1, 0, 0, 0), (314, .aload_n 0, 1, 0, 0, 0), (315, .iload_n 3, 1, 0, 0, 0), (316, .iconst 2, 1, 0, 0, 0), (317, .iadd, 1, 0, 0, 0),
  (318, .iaload, 1, 0, 0, 0), (319, .aload_n 0, 1, 0, 0, 0), (320, .iload_n 3, 1, 0, 0, 0), (321, .iconst 3, 1, 0, 0, 0), (322, .iadd, 1, 0, 0, 0), (323, .iaload, 1, 0, 0, 0), (324, .aload_n 0, 1, 0, 0, 0), (325, .iload_n 3, 1, 0, 0, 0),
  (326, .iconst 4, 1, 0, 0, 0), (327, .iadd, 1, 0, 0, 0), (328, .iaload, 1, 0, 0, 0), (329, .aload_n 0, 1, 0, 0, 0), (330, .iload_n 3, 1, 0, 0, 0), (331, .iconst 5, 1, 0, 0, 0), (332, .iadd, 1, 0, 0, 0), (333, .iaload, 1, 0, 0, 0),
  (334, .invokevirtual 39, 3, 79, 6, 9), (337, .if_icmp .eq 337, 3, 0, 0, 0), (340, .iconst 0, 1, 0, 0, 0), (341, .ireturn, 1, 0, 0, 0), (342, .aload_n 1, 1, 0, 0, 0), (343, .aload_n 0, 1, 0, 0, 0), (344, .iload_n 3, 1, 0, 0, 0), (345, .iconst 1, 1, 0, 0, 0),
  (346, .iadd, 1, 0, 0, 0), (347, .iaload, 1, 0, 0, 0), (348, .invokevirtual 40, 3, 16, 2, 0), (351, .aload_n 2, 1, 0, 0, 0), (352, .aload_n 0, 1, 0, 0, 0), (353, .iload_n 3, 1, 0, 0, 0), (354, .iconst 1, 1, 0, 0, 0), (355, .iadd, 1, 0, 0, 0),
  (356, .iaload, 1, 0, 0, 0), (357, .invokevirtual 44, 3, 81, 2, 9), (360, .if_icmp .eq 314, 3, 0, 0, 0), (363, .iconst 0, 1, 0, 0, 0), (364, .ireturn, 1, 0, 0, 0), (365, .aload_n 1, 1, 0, 0, 0), (366, .invokevirtual 45, 3, 17, 1, 0), (369, .aload_n 2, 1, 0, 0, 0),
  (370, .invokevirtual 49, 3, 82, 1, 9), (373, .if_icmp .eq 301, 3, 0, 0, 0), (376, .iconst 0, 1, 0, 0, 0), (377, .ireturn, 1, 0, 0, 0), (378, .aload_n 1, 1, 0, 0, 0), (379, .invokevirtual 50, 3, 18, 1, 0), (382, .aload_n 2, 1, 0, 0, 0), (383, .invokevirtual 53, 3, 83, 1, 9),
  (386, .if_icmp .eq 288, 3, 0, 0, 0), (389, .iconst 0, 1, 0, 0, 0), (390, .ireturn, 1, 0, 0, 0), (391, .aload_n 1, 1, 0, 0, 0), (392, .aload_n 0, 1, 0, 0, 0), (393, .iload_n 3, 1, 0, 0, 0), (394, .iconst 1, 1, 0, 0, 0), (395, .iadd, 1, 0, 0, 0),
  (396, .iaload, 1, 0, 0, 0), (397, .invokevirtual 54, 3, 19, 2, 0), (400, .aload_n 2, 1, 0, 0, 0), (401, .aload_n 0, 1, 0, 0, 0), (402, .iload_n 3, 1, 0, 0, 0), (403, .iconst 1, 1, 0, 0, 0), (404, .iadd, 1, 0, 0, 0), (405, .iaload, 1, 0, 0, 0),
  (406, .invokevirtual 58, 3, 84, 2, 9), (409, .if_icmp .eq 265, 3, 0, 0, 0), (412, .iconst 0, 1, 0, 0, 0), (413, .ireturn, 1, 0, 0, 0), (414, .aload_n 1, 1, 0, 0, 0), (415, .aload_n 0, 1, 0, 0, 0), (416, .iload_n 3, 1, 0, 0, 0), (417, .iconst 1, 1, 0, 0, 0),
  (418, .iadd, 1, 0, 0, 0), (419, .iaload, 1, 0, 0, 0), (420, .aload_n 0, 1, 0, 0, 0), (421, .iload_n 3, 1, 0, 0, 0), (422, .iconst 2, 1, 0, 0, 0), (423, .iadd, 1, 0, 0, 0), (424, .iaload, 1, 0, 0, 0), (425, .invokevirtual 59, 3, 20, 3, 0),
  (428, .aload_n 2, 1, 0, 0, 0), (429, .aload_n 0, 1, 0, 0, 0), (430, .iload_n 3, 1, 0, 0, 0), (431, .iconst 1, 1, 0, 0, 0), (432, .iadd, 1, 0, 0, 0), (433, .iaload, 1, 0, 0, 0), (434, .aload_n 0, 1, 0, 0, 0), (435, .iload_n 3, 1, 0, 0, 0),
  (436, .iconst 2, 1, 0, 0, 0), (437, .iadd, 1, 0, 0, 0), (438, .iaload, 1, 0, 0, 0), (439, .invokevirtual 62, 3, 86, 3, 9), (442, .if_icmp .eq 232, 3, 0, 0, 0), (445, .iconst 0, 1, 0, 0, 0), (446, .ireturn, 1, 0, 0, 0), (447, .aload_n 1, 1, 0, 0, 0),
  (448, .aload_n 0, 1, 0, 0, 0), (449, .iload_n 3, 1, 0, 0, 0), (450, .iconst 1, 1, 0, 0, 0), (451, .iadd, 1, 0, 0, 0), (452, .iaload, 1, 0, 0, 0), (453, .invokevirtual 63, 3, 21, 2, 0), (456, .aload_n 2, 1, 0, 0, 0), (457, .aload_n 0, 1, 0, 0, 0),
  (458, .iload_n 3, 1, 0, 0, 0), (459, .iconst 1, 1, 0, 0, 0), (460, .iadd, 1, 0, 0, 0), (461, .iaload, 1, 0, 0, 0), (462, .invokevirtual 66, 3, 87, 2, 9), (465, .if_icmp .eq 209, 3, 0, 0, 0), (468, .iconst 0, 1, 0, 0, 0), (469, .ireturn, 1, 0, 0, 0),
  (470, .aload_n 1, 1, 0, 0, 0), (471, .aload_n 0, 1, 0, 0, 0), (472, .iload_n 3, 1, 0, 0, 0), (473, .iconst 1, 1, 0, 0, 0), (474, .iadd, 1, 0, 0, 0), (475, .iaload, 1, 0, 0, 0), (476, .aload_n 0, 1, 0, 0, 0), (477, .iload_n 3, 1, 0, 0, 0),
  (478, .iconst 2, 1, 0, 0, 0), (479, .iadd, 1, 0, 0, 0), (480, .iaload, 1, 0, 0, 0), (481, .invokevirtual 67, 3, 22, 3, 0), (484, .aload_n 2, 1, 0, 0, 0), (485, .aload_n 0, 1, 0, 0, 0), (486, .iload_n 3, 1, 0, 0, 0), (487, .iconst 1, 1, 0, 0, 0),
  (488, .iadd, 1, 0, 0, 0), (489, .iaload, 1, 0, 0, 0), (490, .aload_n 0, 1, 0, 0, 0), (491, .iload_n 3, 1, 0, 0, 0), (492, .iconst 2, 1, 0, 0, 0), (493, .iadd, 1, 0, 0, 0), (494, .iaload, 1, 0, 0, 0), (495, .invokevirtual 70, 3, 89, 3, 9),
  (498, .if_icmp .eq 176, 3, 0, 0, 0), (501, .iconst 0, 1, 0, 0, 0), (502, .ireturn, 1, 0, 0, 0), (503, .aload_n 1, 1, 0, 0, 0), (504, .aload_n 0, 1, 0, 0, 0), (505, .iload_n 3, 1, 0, 0, 0), (506, .iconst 1, 1, 0, 0, 0), (507, .iadd, 1, 0, 0, 0),
  (508, .iaload, 1, 0, 0, 0), (509, .aload_n 0, 1, 0, 0, 0), (510, .iload_n 3, 1, 0, 0, 0), (511, .iconst 2, 1, 0, 0, 0), (512, .iadd, 1, 0, 0, 0), (513, .iaload, 1, 0, 0, 0), (514, .invokevirtual 71, 3, 23, 3, 0), (517, .aload_n 2, 1, 0, 0, 0),
  (518, .aload_n 0, 1, 0, 0, 0), (519, .iload_n 3, 1, 0, 0, 0), (520, .iconst 1, 1, 0, 0, 0), (521, .iadd, 1, 0, 0, 0), (522, .iaload, 1, 0, 0, 0), (523, .aload_n 0, 1, 0, 0, 0), (524, .iload_n 3, 1, 0, 0, 0), (525, .iconst 2, 1, 0, 0, 0),
  (526, .iadd, 1, 0, 0, 0), (527, .iaload, 1, 0, 0, 0), (528, .invokevirtual 74, 3, 90, 3, 9), (531, .if_icmp .eq 143, 3, 0, 0, 0), (534, .iconst 0, 1, 0, 0, 0), (535, .ireturn, 1, 0, 0, 0), (536, .aload_n 1, 1, 0, 0, 0), (537, .aload_n 0, 1, 0, 0, 0),
  (538, .iload_n 3, 1, 0, 0, 0), (539, .iconst 1, 1, 0, 0, 0), (540, .iadd, 1, 0, 0, 0), (541, .iaload, 1, 0, 0, 0), (542, .aload_n 0, 1, 0, 0, 0), (543, .iload_n 3, 1, 0, 0, 0), (544, .iconst 2, 1, 0, 0, 0), (545, .iadd, 1, 0, 0, 0),
  (546, .iaload, 1, 0, 0, 0), (547, .aload_n 0, 1, 0, 0, 0), (548, .iload_n 3, 1, 0, 0, 0), (549, .iconst 3, 1, 0, 0, 0), (550, .iadd, 1, 0, 0, 0), (551, .iaload, 1, 0, 0, 0), (552, .invokevirtual 75, 3, 24, 4, 0), (555, .aload_n 2, 1, 0, 0, 0),
  (556, .aload_n 0, 1, 0, 0, 0), (557, .iload_n 3, 1, 0, 0, 0), (558, .iconst 1, 1, 0, 0, 0), (559, .iadd, 1, 0, 0, 0), (560, .iaload, 1, 0, 0, 0), (561, .aload_n 0, 1, 0, 0, 0), (562, .iload_n 3, 1, 0, 0, 0), (563, .iconst 2, 1, 0, 0, 0),
  (564, .iadd, 1, 0, 0, 0), (565, .iaload, 1, 0, 0, 0), (566, .aload_n 0, 1, 0, 0, 0), (567, .iload_n 3, 1, 0, 0, 0), (568, .iconst 3, 1, 0, 0, 0), (569, .iadd, 1, 0, 0, 0), (570, .iaload, 1, 0, 0, 0), (571, .invokevirtual 78, 3, 91, 4, 9),
  (574, .if_icmp .eq 100, 3, 0, 0, 0), (577, .iconst 0, 1, 0, 0, 0), (578, .ireturn, 1, 0, 0, 0), (579, .aload_n 1, 1, 0, 0, 0), (580, .invokevirtual 79, 3, 25, 1, 0), (583, .aload_n 2, 1, 0, 0, 0), (584, .invokevirtual 82, 3, 92, 1, 9), (587, .if_icmp .eq 87, 3, 0, 0, 0),
  (590, .iconst 0, 1, 0, 0, 0), (591, .ireturn, 1, 0, 0, 0), (592, .aload_n 1, 1, 0, 0, 0), (593, .aload_n 0, 1, 0, 0, 0), (594, .iload_n 3, 1, 0, 0, 0), (595, .iconst 1, 1, 0, 0, 0), (596, .iadd, 1, 0, 0, 0), (597, .iaload, 1, 0, 0, 0),
  (598, .invokevirtual 83, 3, 26, 2, 0), (601, .aload_n 2, 1, 0, 0, 0), (602, .aload_n 0, 1, 0, 0, 0), (603, .iload_n 3, 1, 0, 0, 0), (604, .iconst 1, 1, 0, 0, 0), (605, .iadd, 1, 0, 0, 0), (606, .iaload, 1, 0, 0, 0), (607, .invokevirtual 86, 3, 93, 2, 9),
  (610, .if_icmp .eq 64, 3, 0, 0, 0), (613, .iconst 0, 1, 0, 0, 0), (614, .ireturn, 1, 0, 0, 0), (615, .aload_n 1, 1, 0, 0, 0), (616, .invokevirtual 87, 3, 27, 1, 0), (619, .aload_n 2, 1, 0, 0, 0), (620, .invokevirtual 90, 3, 94, 1, 9), (623, .if_icmp .eq 51, 3, 0, 0, 0),
  (626, .iconst 0, 1, 0, 0, 0), (627, .ireturn, 1, 0, 0, 0), (628, .aload_n 1, 1, 0, 0, 0), (629, .aload_n 0, 1, 0, 0, 0), (630, .iload_n 3, 1, 0, 0, 0), (631, .iconst 1, 1, 0, 0, 0), (632, .iadd, 1, 0, 0, 0), (633, .iaload, 1, 0, 0, 0),
  (634, .aload_n 0, 1, 0, 0, 0), (635, .iload_n 3, 1, 0, 0, 0), (636, .iconst 2, 1, 0, 0, 0), (637, .iadd, 1, 0, 0, 0), (638, .iaload, 1, 0, 0, 0), (639, .invokevirtual 91, 3, 28, 3, 0), (642, .aload_n 2, 1, 0, 0, 0), (643, .aload_n 0, 1, 0, 0, 0),
  (644, .iload_n 3, 1, 0, 0, 0), (645, .iconst 1, 1, 0, 0, 0), (646, .iadd, 1, 0, 0, 0), (647, .iaload, 1, 0, 0, 0), (648, .aload_n 0, 1, 0, 0, 0), (649, .iload_n 3, 1, 0, 0, 0), (650, .iconst 2, 1, 0, 0, 0), (651, .iadd, 1, 0, 0, 0),
  (652, .iaload, 1, 0, 0, 0), (653, .invokevirtual 94, 3, 95, 3, 9), (656, .if_icmp .eq 18, 3, 0, 0, 0), (659, .iconst 0, 1, 0, 0, 0), (660, .ireturn, 1, 0, 0, 0), (661, .aload_n 1, 1, 0, 0, 0), (662, .invokevirtual 95, 3, 29, 1, 0), (665, .aload_n 2, 1, 0, 0, 0),
  (666, .invokevirtual 98, 3, 96, 1, 9), (669, .if_icmp .eq 5, 3, 0, 0, 0), (672, .iconst 0, 1, 0, 0, 0), (673, .ireturn, 1, 0, 0, 0), (674, .iinc 3 6, 3, 0, 0, 0), (677, .goto (-639), 3, 0, 0, 0), (680, .iconst 1, 1, 0, 0, 0), (681, .ireturn, 1, 0, 0, 0)])
def mm1 : ma_M := (⟨RC0, "<init>", "(II)V"⟩, prog_1_method_1_code, 4, none, 2, 0, [
  (0, .aload_n 0, 1, 0, 0, 0), (1, .invokespecial 3, 3, 5, 0, 0), (4, .iload_n 1, 1, 0, 0, 0), (5, .invokestatic 9, 3, 30, 1, 0), (8, .istore_n 3, 1, 0, 0, 0), (9, .aload_n 0, 1, 0, 0, 0), (10, .new 13, 3, 5, 0, 0), (13, .dup, 1, 0, 0, 0),
  (14, .iload_n 3, 1, 0, 0, 0), (15, .iload_n 2, 1, 0, 0, 0), (16, .invokestatic 9, 3, 30, 1, 0), (19, .invokespecial 15, 3, 120, 3, 0), (22, .putfield 18, 3, 0, 0, 0), (25, .aload_n 0, 1, 0, 0, 0), (26, .new 22, 3, 7, 0, 0), (29, .dup, 1, 0, 0, 0),
  (30, .iload_n 3, 1, 0, 0, 0), (31, .invokespecial 24, 3, 155, 2, 0), (34, .putfield 27, 3, 0, 1, 0), (37, .aload_n 0, 1, 0, 0, 0), (38, .new 31, 3, 3, 0, 0), (41, .dup, 1, 0, 0, 0), (42, .invokespecial 33, 3, 112, 1, 100), (45, .putfield 34, 3, 0, 2, 0),
  (48, .aload_n 0, 1, 0, 0, 0), (49, .new 38, 3, 8, 0, 0), (52, .dup, 1, 0, 0, 0), (53, .invokespecial 40, 3, 157, 1, 100), (56, .putfield 41, 3, 0, 3, 0), (59, .return_, 1, 0, 0, 0)])
def mm2 : ma_M := (⟨RC0, "extra", "(II)I"⟩, prog_1_method_2_code, 5, some .int, 2, 0, [
  (0, .iload_n 1, 1, 0, 0, 0), (1, .invokestatic 45, 3, 31, 1, 0), (4, .ifCond .ne 5, 3, 0, 0, 0), (7, .iconst (-1), 1, 0, 0, 0), (8, .ireturn, 1, 0, 0, 0), (9, .aload_n 0, 1, 0, 0, 0), (10, .getfield 18, 3, 0, 0, 0), (13, .getfield 49, 3, 5, 3, 0),
  (16, .getfield 53, 3, 6, 1, 0), (19, .astore_n 3, 1, 0, 0, 0), (20, .aload_n 3, 1, 0, 0, 0), (21, .iload_n 1, 1, 0, 0, 0), (22, .iaload, 1, 0, 0, 0), (23, .istore 4, 2, 0, 0, 0), (25, .aload_n 3, 1, 0, 0, 0), (26, .iload_n 1, 1, 0, 0, 0),
  (27, .iload_n 2, 1, 0, 0, 0), (28, .iastore, 1, 0, 0, 0), (29, .iload 4, 2, 0, 0, 0), (31, .ireturn, 1, 0, 0, 0)])
def mm3 : ma_M := (⟨RC0, "order", "(IIIII)I"⟩, prog_1_method_3_code, 8, some .int, 5, 0, [
  (0, .aload_n 0, 1, 0, 0, 0), (1, .iload_n 1, 1, 0, 0, 0), (2, .iload_n 2, 1, 0, 0, 0), (3, .invokevirtual 59, 3, 39, 3, 0), (6, .istore 6, 2, 0, 0, 0), (8, .iload 6, 2, 0, 0, 0), (10, .ifCond .eq 6, 3, 0, 0, 0), (13, .iload 6, 2, 0, 0, 0),
  (15, .ireturn, 1, 0, 0, 0), (16, .bipush (-4), 2, 0, 0, 0), (18, .istore 7, 2, 0, 0, 0), (20, .aload_n 0, 1, 0, 0, 0), (21, .getfield 18, 3, 0, 0, 0), (24, .iload_n 1, 1, 0, 0, 0), (25, .iload_n 3, 1, 0, 0, 0), (26, .iload 4, 2, 0, 0, 0),
  (28, .iload 5, 2, 0, 0, 0), (30, .invokevirtual 63, 3, 121, 5, 5), (33, .ifCond .eq 18, 3, 0, 0, 0), (36, .aload_n 0, 1, 0, 0, 0), (37, .getfield 18, 3, 0, 0, 0), (40, .iload_n 1, 1, 0, 0, 0), (41, .iload_n 3, 1, 0, 0, 0), (42, .iload 4, 2, 0, 0, 0),
  (44, .iload 5, 2, 0, 0, 0), (46, .invokevirtual 67, 3, 124, 5, 5), (49, .istore 7, 2, 0, 0, 0), (51, .aload_n 0, 1, 0, 0, 0), (52, .iload_n 1, 1, 0, 0, 0), (53, .iload 7, 2, 0, 0, 0), (55, .invokevirtual 71, 3, 40, 3, 0), (58, .ireturn, 1, 0, 0, 0)])
def mm4 : ma_M := (⟨RC0, "cancel", "(III)I"⟩, prog_1_method_4_code, 6, some .int, 3, 0, [
  (0, .aload_n 0, 1, 0, 0, 0), (1, .iload_n 1, 1, 0, 0, 0), (2, .iload_n 2, 1, 0, 0, 0), (3, .invokevirtual 59, 3, 39, 3, 0), (6, .istore 4, 2, 0, 0, 0), (8, .iload 4, 2, 0, 0, 0), (10, .ifCond .eq 6, 3, 0, 0, 0), (13, .iload 4, 2, 0, 0, 0),
  (15, .ireturn, 1, 0, 0, 0), (16, .bipush (-4), 2, 0, 0, 0), (18, .istore 5, 2, 0, 0, 0), (20, .aload_n 0, 1, 0, 0, 0), (21, .getfield 18, 3, 0, 0, 0), (24, .iload_n 1, 1, 0, 0, 0), (25, .iload_n 3, 1, 0, 0, 0), (26, .invokevirtual 74, 3, 125, 3, 5),
  (29, .ifCond .eq 14, 3, 0, 0, 0), (32, .aload_n 0, 1, 0, 0, 0), (33, .getfield 18, 3, 0, 0, 0), (36, .iload_n 3, 1, 0, 0, 0), (37, .invokevirtual 78, 3, 126, 2, 5), (40, .iconst 0, 1, 0, 0, 0), (41, .istore 5, 2, 0, 0, 0), (43, .aload_n 0, 1, 0, 0, 0),
  (44, .iload_n 1, 1, 0, 0, 0), (45, .iload 5, 2, 0, 0, 0), (47, .invokevirtual 71, 3, 40, 3, 0), (50, .ireturn, 1, 0, 0, 0)])
def mm5 : ma_M := (⟨RC0, "replace", "(IIIII)I"⟩, prog_1_method_5_code, 8, some .int, 5, 0, [
  (0, .aload_n 0, 1, 0, 0, 0), (1, .iload_n 1, 1, 0, 0, 0), (2, .iload_n 2, 1, 0, 0, 0), (3, .invokevirtual 59, 3, 39, 3, 0), (6, .istore 6, 2, 0, 0, 0), (8, .iload 6, 2, 0, 0, 0), (10, .ifCond .eq 6, 3, 0, 0, 0), (13, .iload 6, 2, 0, 0, 0),
  (15, .ireturn, 1, 0, 0, 0), (16, .bipush (-4), 2, 0, 0, 0), (18, .istore 7, 2, 0, 0, 0), (20, .aload_n 0, 1, 0, 0, 0), (21, .getfield 18, 3, 0, 0, 0), (24, .iload_n 1, 1, 0, 0, 0), (25, .iload_n 3, 1, 0, 0, 0), (26, .iload 4, 2, 0, 0, 0),
  (28, .iload 5, 2, 0, 0, 0), (30, .invokevirtual 81, 3, 127, 5, 5), (33, .ifCond .eq 18, 3, 0, 0, 0), (36, .aload_n 0, 1, 0, 0, 0), (37, .getfield 18, 3, 0, 0, 0), (40, .iload_n 3, 1, 0, 0, 0), (41, .iload 4, 2, 0, 0, 0), (43, .iload 5, 2, 0, 0, 0),
  (45, .invokevirtual 84, 3, 128, 4, 5), (48, .iconst 0, 1, 0, 0, 0), (49, .istore 7, 2, 0, 0, 0), (51, .aload_n 0, 1, 0, 0, 0), (52, .iload_n 1, 1, 0, 0, 0), (53, .iload 7, 2, 0, 0, 0), (55, .invokevirtual 71, 3, 40, 3, 0), (58, .ireturn, 1, 0, 0, 0)])
def mm6 : ma_M := (⟨RC0, "phase", "(I)Z"⟩, prog_1_method_6_code, 2, some .boolean, 1, 0, [
  (0, .aload_n 0, 1, 0, 0, 0), (1, .getfield 18, 3, 0, 0, 0), (4, .iload_n 1, 1, 0, 0, 0), (5, .invokevirtual 88, 3, 129, 2, 5), (8, .ifCond .ne 5, 3, 0, 0, 0), (11, .iconst 0, 1, 0, 0, 0), (12, .ireturn, 1, 0, 0, 0), (13, .aload_n 0, 1, 0, 0, 0),
  (14, .getfield 18, 3, 0, 0, 0), (17, .iload_n 1, 1, 0, 0, 0), (18, .invokevirtual 91, 3, 130, 2, 5), (21, .aload_n 0, 1, 0, 0, 0), (22, .getfield 18, 3, 0, 0, 0), (25, .invokevirtual 94, 3, 131, 1, 5), (28, .aload_n 0, 1, 0, 0, 0), (29, .getfield 34, 3, 0, 2, 0),
  (32, .aload_n 0, 1, 0, 0, 0), (33, .getfield 18, 3, 0, 0, 0), (36, .getfield 97, 3, 5, 4, 0), (39, .invokevirtual 101, 3, 114, 2, 3), (42, .iconst 1, 1, 0, 0, 0), (43, .ireturn, 1, 0, 0, 0)])
def mm7 : ma_M := (⟨RC0, "save", "()I"⟩, prog_1_method_7_code, 1, some .int, 0, 0, [
  (0, .aload_n 0, 1, 0, 0, 0), (1, .getfield 27, 3, 0, 1, 0), (4, .aload_n 0, 1, 0, 0, 0), (5, .getfield 18, 3, 0, 0, 0), (8, .getfield 105, 3, 5, 1, 0), (11, .invokevirtual 108, 3, 156, 2, 7), (14, .aload_n 0, 1, 0, 0, 0), (15, .getfield 27, 3, 0, 1, 0),
  (18, .getfield 112, 3, 7, 3, 0), (21, .getfield 116, 3, 2, 0, 0), (24, .ireturn, 1, 0, 0, 0)])
def mm8 : ma_M := (⟨RC0, "crash", "()I"⟩, prog_1_method_8_code, 1, some .int, 0, 0, [
  (0, .aload_n 0, 1, 0, 0, 0), (1, .getfield 18, 3, 0, 0, 0), (4, .aload_n 0, 1, 0, 0, 0), (5, .getfield 27, 3, 0, 1, 0), (8, .invokevirtual 122, 3, 132, 2, 5), (11, .aload_n 0, 1, 0, 0, 0), (12, .getfield 34, 3, 0, 2, 0), (15, .aload_n 0, 1, 0, 0, 0),
  (16, .getfield 18, 3, 0, 0, 0), (19, .getfield 97, 3, 5, 4, 0), (22, .invokevirtual 101, 3, 114, 2, 3), (25, .aload_n 0, 1, 0, 0, 0), (26, .getfield 18, 3, 0, 0, 0), (29, .getfield 125, 3, 5, 2, 0), (32, .getfield 116, 3, 2, 0, 0), (35, .ireturn, 1, 0, 0, 0)])
def mm9 : ma_M := (⟨RC0, "market", "(I)I"⟩, prog_1_method_9_code, 3, some .int, 1, 0, [
  (0, .aload_n 0, 1, 0, 0, 0), (1, .getfield 18, 3, 0, 0, 0), (4, .getfield 126, 3, 5, 5, 0), (7, .astore_n 2, 1, 0, 0, 0), (8, .iload_n 1, 1, 0, 0, 0), (9, .tableswitch 165 0 6 #[43, 54, 65, 76, 87, 113, 139], 43, 0, 0, 0), (52, .aload_n 0, 1, 0, 0, 0), (53, .getfield 18, 3, 0, 0, 0),
  (56, .getfield 105, 3, 5, 1, 0), (59, .getfield 130, 3, 7, 0, 0), (62, .ireturn, 1, 0, 0, 0), (63, .aload_n 0, 1, 0, 0, 0), (64, .getfield 18, 3, 0, 0, 0), (67, .getfield 105, 3, 5, 1, 0), (70, .getfield 133, 3, 7, 1, 0), (73, .ireturn, 1, 0, 0, 0),
  (74, .aload_n 0, 1, 0, 0, 0), (75, .getfield 18, 3, 0, 0, 0), (78, .getfield 105, 3, 5, 1, 0), (81, .getfield 136, 3, 7, 2, 0), (84, .ireturn, 1, 0, 0, 0), (85, .aload_n 0, 1, 0, 0, 0), (86, .getfield 18, 3, 0, 0, 0), (89, .getfield 125, 3, 5, 2, 0),
  (92, .invokevirtual 139, 3, 105, 1, 2), (95, .ireturn, 1, 0, 0, 0), (96, .aload_n 2, 1, 0, 0, 0), (97, .aload_n 0, 1, 0, 0, 0), (98, .getfield 18, 3, 0, 0, 0), (101, .getfield 125, 3, 5, 2, 0), (104, .aload_n 0, 1, 0, 0, 0), (105, .getfield 18, 3, 0, 0, 0),
  (108, .getfield 105, 3, 5, 1, 0), (111, .getfield 136, 3, 7, 2, 0), (114, .invokevirtual 143, 3, 98, 3, 1), (117, .aload_n 2, 1, 0, 0, 0), (118, .getfield 149, 3, 1, 0, 0), (121, .ireturn, 1, 0, 0, 0), (122, .aload_n 2, 1, 0, 0, 0), (123, .aload_n 0, 1, 0, 0, 0),
  (124, .getfield 18, 3, 0, 0, 0), (127, .getfield 125, 3, 5, 2, 0), (130, .aload_n 0, 1, 0, 0, 0), (131, .getfield 18, 3, 0, 0, 0), (134, .getfield 105, 3, 5, 1, 0), (137, .getfield 136, 3, 7, 2, 0), (140, .invokevirtual 143, 3, 98, 3, 1), (143, .aload_n 2, 1, 0, 0, 0),
  (144, .getfield 152, 3, 1, 1, 0), (147, .ireturn, 1, 0, 0, 0), (148, .aload_n 2, 1, 0, 0, 0), (149, .aload_n 0, 1, 0, 0, 0), (150, .getfield 18, 3, 0, 0, 0), (153, .getfield 125, 3, 5, 2, 0), (156, .aload_n 0, 1, 0, 0, 0), (157, .getfield 18, 3, 0, 0, 0),
  (160, .getfield 105, 3, 5, 1, 0), (163, .getfield 136, 3, 7, 2, 0), (166, .invokevirtual 143, 3, 98, 3, 1), (169, .aload_n 2, 1, 0, 0, 0), (170, .getfield 155, 3, 1, 2, 0), (173, .ireturn, 1, 0, 0, 0), (174, .iconst (-1), 1, 0, 0, 0), (175, .ireturn, 1, 0, 0, 0)])
def mm10 : ma_M := (⟨RC0, "shown", "(II)I"⟩, prog_1_method_10_code, 3, some .int, 2, 0, [
  (0, .iload_n 1, 1, 0, 0, 0), (1, .invokestatic 158, 3, 32, 1, 0), (4, .ifCond .eq 27, 3, 0, 0, 0), (7, .iload_n 2, 1, 0, 0, 0), (8, .invokestatic 161, 3, 33, 1, 0), (11, .ifCond .eq 20, 3, 0, 0, 0), (14, .aload_n 0, 1, 0, 0, 0), (15, .getfield 18, 3, 0, 0, 0),
  (18, .getfield 97, 3, 5, 4, 0), (21, .getfield 164, 3, 4, 0, 0), (24, .iload_n 1, 1, 0, 0, 0), (25, .aaload, 1, 0, 0, 0), (26, .iload_n 2, 1, 0, 0, 0), (27, .iaload, 1, 0, 0, 0), (28, .goto 4, 3, 0, 0, 0), (31, .iconst 0, 1, 0, 0, 0),
  (32, .ireturn, 1, 0, 0, 0)])
def mm11 : ma_M := (⟨RC0, "best", "(I)I"⟩, prog_1_method_11_code, 2, some .int, 1, 0, [
  (0, .iload_n 1, 1, 0, 0, 0), (1, .invokestatic 158, 3, 32, 1, 0), (4, .ifCond .eq 17, 3, 0, 0, 0), (7, .aload_n 0, 1, 0, 0, 0), (8, .getfield 18, 3, 0, 0, 0), (11, .getfield 125, 3, 5, 2, 0), (14, .iload_n 1, 1, 0, 0, 0), (15, .invokevirtual 170, 3, 107, 2, 2),
  (18, .goto 4, 3, 0, 0, 0), (21, .iconst 0, 1, 0, 0, 0), (22, .ireturn, 1, 0, 0, 0)])
def mm12 : ma_M := (⟨RC0, "about", "(II)I"⟩, prog_1_method_12_code, 5, some .int, 2, 0, [
  (0, .aload_n 0, 1, 0, 0, 0), (1, .getfield 18, 3, 0, 0, 0), (4, .getfield 125, 3, 5, 2, 0), (7, .astore_n 3, 1, 0, 0, 0), (8, .aload_n 3, 1, 0, 0, 0), (9, .iload_n 1, 1, 0, 0, 0), (10, .invokevirtual 173, 3, 103, 2, 2), (13, .ifCond .ne 5, 3, 0, 0, 0),
  (16, .iconst (-1), 1, 0, 0, 0), (17, .ireturn, 1, 0, 0, 0), (18, .aload_n 3, 1, 0, 0, 0), (19, .getfield 176, 3, 2, 4, 0), (22, .iload_n 1, 1, 0, 0, 0), (23, .iaload, 1, 0, 0, 0), (24, .istore 4, 2, 0, 0, 0), (26, .iload_n 2, 1, 0, 0, 0),
  (27, .tableswitch 93 0 5 #[37, 40, 47, 63, 70, 77], 37, 0, 0, 0), (64, .iload 4, 2, 0, 0, 0), (66, .ireturn, 1, 0, 0, 0), (67, .aload_n 3, 1, 0, 0, 0), (68, .getfield 179, 3, 2, 5, 0), (71, .iload_n 1, 1, 0, 0, 0), (72, .iaload, 1, 0, 0, 0), (73, .ireturn, 1, 0, 0, 0),
  (74, .iload 4, 2, 0, 0, 0), (76, .ifCond .ne 7, 3, 0, 0, 0), (79, .iconst 0, 1, 0, 0, 0), (80, .goto 9, 3, 0, 0, 0), (83, .aload_n 3, 1, 0, 0, 0), (84, .getfield 182, 3, 2, 6, 0), (87, .iload_n 1, 1, 0, 0, 0), (88, .iaload, 1, 0, 0, 0),
  (89, .ireturn, 1, 0, 0, 0), (90, .aload_n 3, 1, 0, 0, 0), (91, .getfield 184, 3, 2, 8, 0), (94, .iload_n 1, 1, 0, 0, 0), (95, .iaload, 1, 0, 0, 0), (96, .ireturn, 1, 0, 0, 0), (97, .aload_n 3, 1, 0, 0, 0), (98, .getfield 187, 3, 2, 1, 0),
  (101, .iload_n 1, 1, 0, 0, 0), (102, .iaload, 1, 0, 0, 0), (103, .ireturn, 1, 0, 0, 0), (104, .iload 4, 2, 0, 0, 0), (106, .iconst 1, 1, 0, 0, 0), (107, .if_icmp .ne 11, 3, 0, 0, 0), (110, .aload_n 3, 1, 0, 0, 0), (111, .iload_n 1, 1, 0, 0, 0),
  (112, .invokevirtual 190, 3, 108, 2, 2), (115, .goto 4, 3, 0, 0, 0), (118, .iconst (-1), 1, 0, 0, 0), (119, .ireturn, 1, 0, 0, 0), (120, .iconst (-1), 1, 0, 0, 0), (121, .ireturn, 1, 0, 0, 0)])
def mm13 : ma_M := (⟨RC0, "session", "(II)I"⟩, prog_1_method_13_code, 3, some .int, 2, 0, [
  (0, .iload_n 1, 1, 0, 0, 0), (1, .invokestatic 45, 3, 31, 1, 0), (4, .ifCond .ne 5, 3, 0, 0, 0), (7, .iconst (-1), 1, 0, 0, 0), (8, .ireturn, 1, 0, 0, 0), (9, .iload_n 2, 1, 0, 0, 0), (10, .lookupswitch 52 #[(0, 26), (1, 39)], 26, 0, 0, 0), (36, .aload_n 0, 1, 0, 0, 0),
  (37, .getfield 18, 3, 0, 0, 0), (40, .getfield 49, 3, 5, 3, 0), (43, .getfield 193, 3, 6, 0, 0), (46, .iload_n 1, 1, 0, 0, 0), (47, .iaload, 1, 0, 0, 0), (48, .ireturn, 1, 0, 0, 0), (49, .aload_n 0, 1, 0, 0, 0), (50, .getfield 18, 3, 0, 0, 0),
  (53, .getfield 49, 3, 5, 3, 0), (56, .getfield 196, 3, 6, 2, 0), (59, .iload_n 1, 1, 0, 0, 0), (60, .iaload, 1, 0, 0, 0), (61, .ireturn, 1, 0, 0, 0), (62, .iconst (-1), 1, 0, 0, 0), (63, .ireturn, 1, 0, 0, 0)])
def mm14 : ma_M := (⟨RC0, "report", "(III)I"⟩, prog_1_method_14_code, 4, some .int, 3, 0, [
  (0, .iload_n 1, 1, 0, 0, 0), (1, .invokestatic 45, 3, 31, 1, 0), (4, .ifCond .eq 12, 3, 0, 0, 0), (7, .iload_n 3, 1, 0, 0, 0), (8, .ifCond .lt 8, 3, 0, 0, 0), (11, .iload_n 3, 1, 0, 0, 0), (12, .iconst 4, 1, 0, 0, 0), (13, .if_icmp .lt 5, 3, 0, 0, 0),
  (16, .iconst (-1), 1, 0, 0, 0), (17, .ireturn, 1, 0, 0, 0), (18, .aload_n 0, 1, 0, 0, 0), (19, .getfield 18, 3, 0, 0, 0), (22, .getfield 49, 3, 5, 3, 0), (25, .iload_n 1, 1, 0, 0, 0), (26, .iload_n 2, 1, 0, 0, 0), (27, .iload_n 3, 1, 0, 0, 0),
  (28, .invokevirtual 199, 3, 153, 4, 6), (31, .ireturn, 1, 0, 0, 0)])
def mm15 : ma_M := (⟨RC0, "feed", "()I"⟩, prog_1_method_15_code, 1, some .int, 0, 0, [
  (0, .aload_n 0, 1, 0, 0, 0), (1, .getfield 34, 3, 0, 2, 0), (4, .getfield 203, 3, 3, 0, 0), (7, .ireturn, 1, 0, 0, 0)])
def mm16 : ma_M := (⟨RC0, "take", "(I)I"⟩, prog_1_method_16_code, 2, some .int, 1, 0, [
  (0, .aload_n 0, 1, 0, 0, 0), (1, .getfield 41, 3, 0, 3, 0), (4, .aload_n 0, 1, 0, 0, 0), (5, .getfield 34, 3, 0, 2, 0), (8, .iload_n 1, 1, 0, 0, 0), (9, .invokevirtual 206, 3, 158, 3, 8), (12, .ireturn, 1, 0, 0, 0)])
def mm17 : ma_M := (⟨RC0, "refresh", "()I"⟩, prog_1_method_17_code, 1, some .int, 0, 0, [
  (0, .aload_n 0, 1, 0, 0, 0), (1, .getfield 41, 3, 0, 3, 0), (4, .aload_n 0, 1, 0, 0, 0), (5, .getfield 18, 3, 0, 0, 0), (8, .getfield 97, 3, 5, 4, 0), (11, .aload_n 0, 1, 0, 0, 0), (12, .getfield 34, 3, 0, 2, 0), (15, .getfield 203, 3, 3, 0, 0),
  (18, .invokevirtual 210, 3, 159, 3, 8), (21, .aload_n 0, 1, 0, 0, 0), (22, .getfield 41, 3, 0, 3, 0), (25, .getfield 214, 3, 8, 0, 0), (28, .ireturn, 1, 0, 0, 0)])
def mm18 : ma_M := (⟨RC0, "seen", "(II)I"⟩, prog_1_method_18_code, 3, some .int, 2, 0, [
  (0, .iload_n 1, 1, 0, 0, 0), (1, .invokestatic 158, 3, 32, 1, 0), (4, .ifCond .eq 24, 3, 0, 0, 0), (7, .iload_n 2, 1, 0, 0, 0), (8, .invokestatic 161, 3, 33, 1, 0), (11, .ifCond .eq 17, 3, 0, 0, 0), (14, .aload_n 0, 1, 0, 0, 0), (15, .getfield 41, 3, 0, 3, 0),
  (18, .getfield 217, 3, 8, 1, 0), (21, .iload_n 1, 1, 0, 0, 0), (22, .aaload, 1, 0, 0, 0), (23, .iload_n 2, 1, 0, 0, 0), (24, .iaload, 1, 0, 0, 0), (25, .goto 4, 3, 0, 0, 0), (28, .iconst 0, 1, 0, 0, 0), (29, .ireturn, 1, 0, 0, 0)])
def mm19 : ma_M := (⟨RC0, "next", "()I"⟩, prog_1_method_19_code, 1, some .int, 0, 0, [
  (0, .aload_n 0, 1, 0, 0, 0), (1, .getfield 41, 3, 0, 3, 0), (4, .getfield 214, 3, 8, 0, 0), (7, .ireturn, 1, 0, 0, 0)])
def mm20 : ma_M := (⟨RC0, "nearestPrice", "(I)I"⟩, prog_1_method_20_code, 1, some .int, 1, 99, [
  (0, .iconst 1, 1, 0, 0, 0), (1, .sipush 999, 3, 0, 0, 0), (4, .iload_n 0, 1, 0, 0, 0), (5, .invokestatic 220, 3, 2, 0, 0), (8, .invokestatic 225, 3, 1, 0, 0), (11, .ireturn, 1, 0, 0, 0)])
def mm21 : ma_M := (⟨RC0, "isSession", "(I)Z"⟩, prog_1_method_21_code, 1, some .boolean, 1, 99, [
  (0, .iload_n 0, 1, 0, 0, 0), (1, .ifCond .lt 12, 3, 0, 0, 0), (4, .iload_n 0, 1, 0, 0, 0), (5, .iconst 4, 1, 0, 0, 0), (6, .if_icmp .ge 7, 3, 0, 0, 0), (9, .iconst 1, 1, 0, 0, 0), (10, .goto 4, 3, 0, 0, 0), (13, .iconst 0, 1, 0, 0, 0),
  (14, .ireturn, 1, 0, 0, 0)])
def mm22 : ma_M := (⟨RC0, "isSide", "(I)Z"⟩, prog_1_method_22_code, 1, some .boolean, 1, 99, [
  (0, .iload_n 0, 1, 0, 0, 0), (1, .ifCond .eq 8, 3, 0, 0, 0), (4, .iload_n 0, 1, 0, 0, 0), (5, .iconst 1, 1, 0, 0, 0), (6, .if_icmp .ne 7, 3, 0, 0, 0), (9, .iconst 1, 1, 0, 0, 0), (10, .goto 4, 3, 0, 0, 0), (13, .iconst 0, 1, 0, 0, 0),
  (14, .ireturn, 1, 0, 0, 0)])
def mm23 : ma_M := (⟨RC0, "isPrice", "(I)Z"⟩, prog_1_method_23_code, 1, some .boolean, 1, 99, [
  (0, .iload_n 0, 1, 0, 0, 0), (1, .iconst 1, 1, 0, 0, 0), (2, .if_icmp .lt 14, 3, 0, 0, 0), (5, .iload_n 0, 1, 0, 0, 0), (6, .sipush 999, 3, 0, 0, 0), (9, .if_icmp .gt 7, 3, 0, 0, 0), (12, .iconst 1, 1, 0, 0, 0), (13, .goto 4, 3, 0, 0, 0),
  (16, .iconst 0, 1, 0, 0, 0), (17, .ireturn, 1, 0, 0, 0)])
def mm24 : ma_M := (⟨RC0, "isQuantity", "(I)Z"⟩, prog_1_method_24_code, 1, some .boolean, 1, 99, [
  (0, .iload_n 0, 1, 0, 0, 0), (1, .iconst 1, 1, 0, 0, 0), (2, .if_icmp .lt 14, 3, 0, 0, 0), (5, .iload_n 0, 1, 0, 0, 0), (6, .sipush 1000, 3, 0, 0, 0), (9, .if_icmp .gt 7, 3, 0, 0, 0), (12, .iconst 1, 1, 0, 0, 0), (13, .goto 4, 3, 0, 0, 0),
  (16, .iconst 0, 1, 0, 0, 0), (17, .ireturn, 1, 0, 0, 0)])
def mm25 : ma_M := (⟨RC0, "isCall", "(I)Z"⟩, prog_1_method_25_code, 1, some .boolean, 1, 99, [
  (0, .iload_n 0, 1, 0, 0, 0), (1, .iconst 1, 1, 0, 0, 0), (2, .if_icmp .eq 13, 3, 0, 0, 0), (5, .iload_n 0, 1, 0, 0, 0), (6, .iconst 3, 1, 0, 0, 0), (7, .if_icmp .eq 8, 3, 0, 0, 0), (10, .iload_n 0, 1, 0, 0, 0), (11, .iconst 4, 1, 0, 0, 0),
  (12, .if_icmp .ne 7, 3, 0, 0, 0), (15, .iconst 1, 1, 0, 0, 0), (16, .goto 4, 3, 0, 0, 0), (19, .iconst 0, 1, 0, 0, 0), (20, .ireturn, 1, 0, 0, 0)])
def mm26 : ma_M := (⟨RC0, "mayRest", "(I)Z"⟩, prog_1_method_26_code, 1, some .boolean, 1, 99, [
  (0, .iload_n 0, 1, 0, 0, 0), (1, .ifCond .eq 8, 3, 0, 0, 0), (4, .iload_n 0, 1, 0, 0, 0), (5, .iconst 5, 1, 0, 0, 0), (6, .if_icmp .ne 7, 3, 0, 0, 0), (9, .iconst 1, 1, 0, 0, 0), (10, .goto 4, 3, 0, 0, 0), (13, .iconst 0, 1, 0, 0, 0),
  (14, .ireturn, 1, 0, 0, 0)])
def mm27 : ma_M := (⟨RC0, "hasLimit", "(I)Z"⟩, prog_1_method_27_code, 1, some .boolean, 1, 99, [
  (0, .iload_n 0, 1, 0, 0, 0), (1, .iconst 1, 1, 0, 0, 0), (2, .if_icmp .eq 12, 3, 0, 0, 0), (5, .iload_n 0, 1, 0, 0, 0), (6, .iconst 4, 1, 0, 0, 0), (7, .if_icmp .eq 7, 3, 0, 0, 0), (10, .iconst 1, 1, 0, 0, 0), (11, .goto 4, 3, 0, 0, 0),
  (14, .iconst 0, 1, 0, 0, 0), (15, .ireturn, 1, 0, 0, 0)])
def mm28 : ma_M := (⟨RC0, "isPeakEnough", "(II)Z"⟩, prog_1_method_28_code, 2, some .boolean, 2, 99, [
  (0, .bipush 10, 2, 0, 0, 0), (2, .iload_n 0, 1, 0, 0, 0), (3, .imul, 1, 0, 0, 0), (4, .iload_n 1, 1, 0, 0, 0), (5, .if_icmp .lt 7, 3, 0, 0, 0), (8, .iconst 1, 1, 0, 0, 0), (9, .goto 4, 3, 0, 0, 0), (12, .iconst 0, 1, 0, 0, 0),
  (13, .ireturn, 1, 0, 0, 0)])
def mm29 : ma_M := (⟨RC0, "hear", "(II)I"⟩, prog_1_method_29_code, 4, some .int, 2, 0, [
  (0, .iload_n 1, 1, 0, 0, 0), (1, .invokestatic 45, 3, 31, 1, 0), (4, .ifCond .ne 5, 3, 0, 0, 0), (7, .iconst (-1), 1, 0, 0, 0), (8, .ireturn, 1, 0, 0, 0), (9, .aload_n 0, 1, 0, 0, 0), (10, .getfield 18, 3, 0, 0, 0), (13, .getfield 49, 3, 5, 3, 0),
  (16, .getfield 193, 3, 6, 0, 0), (19, .astore_n 3, 1, 0, 0, 0), (20, .iload_n 2, 1, 0, 0, 0), (21, .aload_n 3, 1, 0, 0, 0), (22, .iload_n 1, 1, 0, 0, 0), (23, .iaload, 1, 0, 0, 0), (24, .if_icmp .le 6, 3, 0, 0, 0), (27, .bipush (-2), 2, 0, 0, 0),
  (29, .ireturn, 1, 0, 0, 0), (30, .iload_n 2, 1, 0, 0, 0), (31, .aload_n 3, 1, 0, 0, 0), (32, .iload_n 1, 1, 0, 0, 0), (33, .iaload, 1, 0, 0, 0), (34, .if_icmp .ge 6, 3, 0, 0, 0), (37, .bipush (-3), 2, 0, 0, 0), (39, .ireturn, 1, 0, 0, 0),
  (40, .aload_n 3, 1, 0, 0, 0), (41, .iload_n 1, 1, 0, 0, 0), (42, .dup2, 1, 0, 0, 0), (43, .iaload, 1, 0, 0, 0), (44, .iconst 1, 1, 0, 0, 0), (45, .iadd, 1, 0, 0, 0), (46, .iastore, 1, 0, 0, 0), (47, .iconst 0, 1, 0, 0, 0),
  (48, .ireturn, 1, 0, 0, 0)])
def mm30 : ma_M := (⟨RC0, "endMessage", "(II)I"⟩, prog_1_method_30_code, 3, some .int, 2, 0, [
  (0, .iload_n 2, 1, 0, 0, 0), (1, .bipush (-4), 2, 0, 0, 0), (3, .if_icmp .ne 18, 3, 0, 0, 0), (6, .aload_n 0, 1, 0, 0, 0), (7, .getfield 18, 3, 0, 0, 0), (10, .getfield 49, 3, 5, 3, 0), (13, .iload_n 1, 1, 0, 0, 0), (14, .iconst 4, 1, 0, 0, 0),
  (15, .iconst (-1), 1, 0, 0, 0), (16, .iconst 0, 1, 0, 0, 0), (17, .iconst 0, 1, 0, 0, 0), (18, .invokevirtual 228, 3, 152, 6, 6), (21, .aload_n 0, 1, 0, 0, 0), (22, .getfield 18, 3, 0, 0, 0), (25, .invokevirtual 94, 3, 131, 1, 5), (28, .aload_n 0, 1, 0, 0, 0),
  (29, .getfield 34, 3, 0, 2, 0), (32, .aload_n 0, 1, 0, 0, 0), (33, .getfield 18, 3, 0, 0, 0), (36, .getfield 97, 3, 5, 4, 0), (39, .invokevirtual 101, 3, 114, 2, 3), (42, .iload_n 2, 1, 0, 0, 0), (43, .ireturn, 1, 0, 0, 0)])
def mm31 : ma_M := (⟨RC9, "<init>", "(II)V"⟩, prog_11_method_1_code, 4, none, 2, 9, [
  (0, .aload_n 0, 1, 0, 0, 0), (1, .invokespecial 1, 3, 5, 0, 0), (4, .aload_n 0, 1, 0, 0, 0), (5, .bipush 32, 2, 0, 0, 0), (7, .newarray .int, 2, 0, 0, 0), (9, .putfield 7, 3, 9, 1, 0), (12, .aload_n 0, 1, 0, 0, 0), (13, .sipush 400, 3, 0, 0, 0),
  (16, .newarray .int, 2, 0, 0, 0), (18, .putfield 13, 3, 9, 2, 0), (21, .aload_n 0, 1, 0, 0, 0), (22, .sipush 400, 3, 0, 0, 0), (25, .newarray .int, 2, 0, 0, 0), (27, .putfield 16, 3, 9, 3, 0), (30, .aload_n 0, 1, 0, 0, 0), (31, .sipush 400, 3, 0, 0, 0),
  (34, .newarray .int, 2, 0, 0, 0), (36, .putfield 19, 3, 9, 4, 0), (39, .aload_n 0, 1, 0, 0, 0), (40, .sipush 400, 3, 0, 0, 0), (43, .newarray .int, 2, 0, 0, 0), (45, .putfield 22, 3, 9, 5, 0), (48, .aload_n 0, 1, 0, 0, 0), (49, .sipush 400, 3, 0, 0, 0),
  (52, .newarray .int, 2, 0, 0, 0), (54, .putfield 25, 3, 9, 6, 0), (57, .aload_n 0, 1, 0, 0, 0), (58, .sipush 400, 3, 0, 0, 0), (61, .newarray .int, 2, 0, 0, 0), (63, .putfield 28, 3, 9, 7, 0), (66, .aload_n 0, 1, 0, 0, 0), (67, .sipush 400, 3, 0, 0, 0),
  (70, .newarray .int, 2, 0, 0, 0), (72, .putfield 31, 3, 9, 8, 0), (75, .aload_n 0, 1, 0, 0, 0), (76, .sipush 400, 3, 0, 0, 0), (79, .newarray .int, 2, 0, 0, 0), (81, .putfield 34, 3, 9, 9, 0), (84, .aload_n 0, 1, 0, 0, 0), (85, .sipush 400, 3, 0, 0, 0),
  (88, .newarray .int, 2, 0, 0, 0), (90, .putfield 37, 3, 9, 10, 0), (93, .aload_n 0, 1, 0, 0, 0), (94, .sipush 1024, 3, 0, 0, 0), (97, .newarray .int, 2, 0, 0, 0), (99, .putfield 40, 3, 9, 12, 0), (102, .aload_n 0, 1, 0, 0, 0), (103, .sipush 1001, 3, 0, 0, 0),
  (106, .newarray .int, 2, 0, 0, 0), (108, .putfield 43, 3, 9, 13, 0), (111, .aload_n 0, 1, 0, 0, 0), (112, .sipush 1001, 3, 0, 0, 0), (115, .newarray .int, 2, 0, 0, 0), (117, .putfield 46, 3, 9, 14, 0), (120, .aload_n 0, 1, 0, 0, 0), (121, .sipush 2000, 3, 0, 0, 0),
  (124, .newarray .int, 2, 0, 0, 0), (126, .putfield 49, 3, 9, 18, 0), (129, .aload_n 0, 1, 0, 0, 0), (130, .sipush 2000, 3, 0, 0, 0), (133, .newarray .int, 2, 0, 0, 0), (135, .putfield 52, 3, 9, 19, 0), (138, .aload_n 0, 1, 0, 0, 0), (139, .bipush 64, 2, 0, 0, 0),
  (141, .newarray .int, 2, 0, 0, 0), (143, .putfield 55, 3, 9, 20, 0), (146, .aload_n 0, 1, 0, 0, 0), (147, .bipush 64, 2, 0, 0, 0), (149, .newarray .int, 2, 0, 0, 0), (151, .putfield 58, 3, 9, 21, 0), (154, .aload_n 0, 1, 0, 0, 0), (155, .iload_n 2, 1, 0, 0, 0),
  (156, .invokestatic 61, 3, 42, 1, 0), (159, .putfield 65, 3, 9, 0, 0), (162, .aload_n 0, 1, 0, 0, 0), (163, .getfield 7, 3, 9, 1, 0), (166, .iconst 1, 1, 0, 0, 0), (167, .iload_n 1, 1, 0, 0, 0), (168, .invokestatic 61, 3, 42, 1, 0), (171, .iastore, 1, 0, 0, 0),
  (172, .aload_n 0, 1, 0, 0, 0), (173, .getfield 7, 3, 9, 1, 0), (176, .iconst 2, 1, 0, 0, 0), (177, .aload_n 0, 1, 0, 0, 0), (178, .getfield 7, 3, 9, 1, 0), (181, .iconst 1, 1, 0, 0, 0), (182, .iaload, 1, 0, 0, 0), (183, .iastore, 1, 0, 0, 0),
  (184, .iconst 4, 1, 0, 0, 0), (185, .istore_n 3, 1, 0, 0, 0), (186, .iload_n 3, 1, 0, 0, 0), (187, .bipush 8, 2, 0, 0, 0), (189, .if_icmp .ge 16, 3, 0, 0, 0), (192, .aload_n 0, 1, 0, 0, 0), (193, .getfield 7, 3, 9, 1, 0), (196, .iload_n 3, 1, 0, 0, 0),
  (197, .iconst 1, 1, 0, 0, 0), (198, .iastore, 1, 0, 0, 0), (199, .iinc 3 1, 3, 0, 0, 0), (202, .goto (-16), 3, 0, 0, 0), (205, .aload_n 0, 1, 0, 0, 0), (206, .iconst 0, 1, 0, 0, 0), (207, .iconst 1, 1, 0, 0, 0), (208, .invokevirtual 69, 3, 45, 3, 9),
  (211, .return_, 1, 0, 0, 0)])
def mm32 : ma_M := (⟨RC9, "clamp", "(I)I"⟩, prog_11_method_2_code, 1, some .int, 1, 99, [
  (0, .iload_n 0, 1, 0, 0, 0), (1, .iconst 1, 1, 0, 0, 0), (2, .if_icmp .ge 7, 3, 0, 0, 0), (5, .iconst 1, 1, 0, 0, 0), (6, .goto 17, 3, 0, 0, 0), (9, .iload_n 0, 1, 0, 0, 0), (10, .sipush 999, 3, 0, 0, 0), (13, .if_icmp .le 9, 3, 0, 0, 0),
  (16, .sipush 999, 3, 0, 0, 0), (19, .goto 4, 3, 0, 0, 0), (22, .iload_n 0, 1, 0, 0, 0), (23, .ireturn, 1, 0, 0, 0)])
def mm33 : ma_M := (⟨RC9, "least", "(II)I"⟩, prog_11_method_3_code, 2, some .int, 2, 99, [
  (0, .iload_n 0, 1, 0, 0, 0), (1, .iload_n 1, 1, 0, 0, 0), (2, .if_icmp .ge 7, 3, 0, 0, 0), (5, .iload_n 0, 1, 0, 0, 0), (6, .goto 4, 3, 0, 0, 0), (9, .iload_n 1, 1, 0, 0, 0), (10, .ireturn, 1, 0, 0, 0)])
def mm34 : ma_M := (⟨RC9, "in", "(III)Z"⟩, prog_11_method_4_code, 3, some .boolean, 3, 99, [
  (0, .iload_n 0, 1, 0, 0, 0), (1, .iload_n 1, 1, 0, 0, 0), (2, .if_icmp .lt 12, 3, 0, 0, 0), (5, .iload_n 0, 1, 0, 0, 0), (6, .iload_n 2, 1, 0, 0, 0), (7, .if_icmp .gt 7, 3, 0, 0, 0), (10, .iconst 1, 1, 0, 0, 0), (11, .goto 4, 3, 0, 0, 0),
  (14, .iconst 0, 1, 0, 0, 0), (15, .ireturn, 1, 0, 0, 0)])
def mm35 : ma_M := (⟨RC9, "copy", "(II)V"⟩, prog_11_method_5_code, 6, none, 2, 9, [
  (0, .iconst 0, 1, 0, 0, 0), (1, .istore_n 3, 1, 0, 0, 0), (2, .iload_n 3, 1, 0, 0, 0), (3, .bipush 16, 2, 0, 0, 0), (5, .if_icmp .ge 31, 3, 0, 0, 0), (8, .aload_n 0, 1, 0, 0, 0), (9, .getfield 7, 3, 9, 1, 0), (12, .bipush 16, 2, 0, 0, 0),
  (14, .iload_n 2, 1, 0, 0, 0), (15, .imul, 1, 0, 0, 0), (16, .iload_n 3, 1, 0, 0, 0), (17, .iadd, 1, 0, 0, 0), (18, .aload_n 0, 1, 0, 0, 0), (19, .getfield 7, 3, 9, 1, 0), (22, .bipush 16, 2, 0, 0, 0), (24, .iload_n 1, 1, 0, 0, 0),
  (25, .imul, 1, 0, 0, 0), (26, .iload_n 3, 1, 0, 0, 0), (27, .iadd, 1, 0, 0, 0), (28, .iaload, 1, 0, 0, 0), (29, .iastore, 1, 0, 0, 0), (30, .iinc 3 1, 3, 0, 0, 0), (33, .goto (-31), 3, 0, 0, 0), (36, .iconst 0, 1, 0, 0, 0),
  (37, .istore_n 3, 1, 0, 0, 0), (38, .iload_n 3, 1, 0, 0, 0), (39, .sipush 200, 3, 0, 0, 0), (42, .if_icmp .ge 153, 3, 0, 0, 0), (45, .sipush 200, 3, 0, 0, 0), (48, .iload_n 1, 1, 0, 0, 0), (49, .imul, 1, 0, 0, 0), (50, .iload_n 3, 1, 0, 0, 0),
  (51, .iadd, 1, 0, 0, 0), (52, .istore 4, 2, 0, 0, 0), (54, .sipush 200, 3, 0, 0, 0), (57, .iload_n 2, 1, 0, 0, 0), (58, .imul, 1, 0, 0, 0), (59, .iload_n 3, 1, 0, 0, 0), (60, .iadd, 1, 0, 0, 0), (61, .istore 5, 2, 0, 0, 0),
  (63, .aload_n 0, 1, 0, 0, 0), (64, .getfield 13, 3, 9, 2, 0), (67, .iload 5, 2, 0, 0, 0), (69, .aload_n 0, 1, 0, 0, 0), (70, .getfield 13, 3, 9, 2, 0), (73, .iload 4, 2, 0, 0, 0), (75, .iaload, 1, 0, 0, 0), (76, .iastore, 1, 0, 0, 0),
  (77, .aload_n 0, 1, 0, 0, 0), (78, .getfield 16, 3, 9, 3, 0), (81, .iload 5, 2, 0, 0, 0), (83, .aload_n 0, 1, 0, 0, 0), (84, .getfield 16, 3, 9, 3, 0), (87, .iload 4, 2, 0, 0, 0), (89, .iaload, 1, 0, 0, 0), (90, .iastore, 1, 0, 0, 0),
  (91, .aload_n 0, 1, 0, 0, 0), (92, .getfield 19, 3, 9, 4, 0), (95, .iload 5, 2, 0, 0, 0), (97, .aload_n 0, 1, 0, 0, 0), (98, .getfield 19, 3, 9, 4, 0), (101, .iload 4, 2, 0, 0, 0), (103, .iaload, 1, 0, 0, 0), (104, .iastore, 1, 0, 0, 0),
  (105, .aload_n 0, 1, 0, 0, 0), (106, .getfield 22, 3, 9, 5, 0), (109, .iload 5, 2, 0, 0, 0), (111, .aload_n 0, 1, 0, 0, 0), (112, .getfield 22, 3, 9, 5, 0), (115, .iload 4, 2, 0, 0, 0), (117, .iaload, 1, 0, 0, 0), (118, .iastore, 1, 0, 0, 0),
  (119, .aload_n 0, 1, 0, 0, 0), (120, .getfield 25, 3, 9, 6, 0), (123, .iload 5, 2, 0, 0, 0), (125, .aload_n 0, 1, 0, 0, 0), (126, .getfield 25, 3, 9, 6, 0), (129, .iload 4, 2, 0, 0, 0), (131, .iaload, 1, 0, 0, 0), (132, .iastore, 1, 0, 0, 0),
  (133, .aload_n 0, 1, 0, 0, 0), (134, .getfield 28, 3, 9, 7, 0), (137, .iload 5, 2, 0, 0, 0), (139, .aload_n 0, 1, 0, 0, 0), (140, .getfield 28, 3, 9, 7, 0), (143, .iload 4, 2, 0, 0, 0), (145, .iaload, 1, 0, 0, 0), (146, .iastore, 1, 0, 0, 0),
  (147, .aload_n 0, 1, 0, 0, 0), (148, .getfield 31, 3, 9, 8, 0), (151, .iload 5, 2, 0, 0, 0), (153, .aload_n 0, 1, 0, 0, 0), (154, .getfield 31, 3, 9, 8, 0), (157, .iload 4, 2, 0, 0, 0), (159, .iaload, 1, 0, 0, 0), (160, .iastore, 1, 0, 0, 0),
  (161, .aload_n 0, 1, 0, 0, 0), (162, .getfield 34, 3, 9, 9, 0), (165, .iload 5, 2, 0, 0, 0), (167, .aload_n 0, 1, 0, 0, 0), (168, .getfield 34, 3, 9, 9, 0), (171, .iload 4, 2, 0, 0, 0), (173, .iaload, 1, 0, 0, 0), (174, .iastore, 1, 0, 0, 0),
  (175, .aload_n 0, 1, 0, 0, 0), (176, .getfield 37, 3, 9, 10, 0), (179, .iload 5, 2, 0, 0, 0), (181, .aload_n 0, 1, 0, 0, 0), (182, .getfield 37, 3, 9, 10, 0), (185, .iload 4, 2, 0, 0, 0), (187, .iaload, 1, 0, 0, 0), (188, .iastore, 1, 0, 0, 0),
  (189, .iinc 3 1, 3, 0, 0, 0), (192, .goto (-154), 3, 0, 0, 0), (195, .iconst 0, 1, 0, 0, 0), (196, .istore_n 3, 1, 0, 0, 0), (197, .iload_n 3, 1, 0, 0, 0), (198, .sipush 512, 3, 0, 0, 0), (201, .if_icmp .ge 33, 3, 0, 0, 0), (204, .aload_n 0, 1, 0, 0, 0),
  (205, .getfield 40, 3, 9, 12, 0), (208, .sipush 512, 3, 0, 0, 0), (211, .iload_n 2, 1, 0, 0, 0), (212, .imul, 1, 0, 0, 0), (213, .iload_n 3, 1, 0, 0, 0), (214, .iadd, 1, 0, 0, 0), (215, .aload_n 0, 1, 0, 0, 0), (216, .getfield 40, 3, 9, 12, 0),
  (219, .sipush 512, 3, 0, 0, 0), (222, .iload_n 1, 1, 0, 0, 0), (223, .imul, 1, 0, 0, 0), (224, .iload_n 3, 1, 0, 0, 0), (225, .iadd, 1, 0, 0, 0), (226, .iaload, 1, 0, 0, 0), (227, .iastore, 1, 0, 0, 0), (228, .iinc 3 1, 3, 0, 0, 0),
  (231, .goto (-34), 3, 0, 0, 0), (234, .return_, 1, 0, 0, 0)])
def mm36 : ma_M := (⟨RC9, "isCall", "()Z"⟩, prog_11_method_6_code, 1, some .boolean, 0, 9, [
  (0, .aload_n 0, 1, 0, 0, 0), (1, .getfield 7, 3, 9, 1, 0), (4, .iconst 0, 1, 0, 0, 0), (5, .iaload, 1, 0, 0, 0), (6, .iconst 1, 1, 0, 0, 0), (7, .if_icmp .eq 23, 3, 0, 0, 0), (10, .aload_n 0, 1, 0, 0, 0), (11, .getfield 7, 3, 9, 1, 0),
  (14, .iconst 0, 1, 0, 0, 0), (15, .iaload, 1, 0, 0, 0), (16, .iconst 3, 1, 0, 0, 0), (17, .if_icmp .eq 13, 3, 0, 0, 0), (20, .aload_n 0, 1, 0, 0, 0), (21, .getfield 7, 3, 9, 1, 0), (24, .iconst 0, 1, 0, 0, 0), (25, .iaload, 1, 0, 0, 0),
  (26, .iconst 4, 1, 0, 0, 0), (27, .if_icmp .ne 7, 3, 0, 0, 0), (30, .iconst 1, 1, 0, 0, 0), (31, .goto 4, 3, 0, 0, 0), (34, .iconst 0, 1, 0, 0, 0), (35, .ireturn, 1, 0, 0, 0)])
def mm37 : ma_M := (⟨RC9, "openOrders", "()I"⟩, prog_11_method_7_code, 3, some .int, 0, 9, [
  (0, .iconst 0, 1, 0, 0, 0), (1, .istore_n 1, 1, 0, 0, 0), (2, .iconst 0, 1, 0, 0, 0), (3, .istore_n 2, 1, 0, 0, 0), (4, .iload_n 2, 1, 0, 0, 0), (5, .aload_n 0, 1, 0, 0, 0), (6, .getfield 7, 3, 9, 1, 0), (9, .iconst 3, 1, 0, 0, 0),
  (10, .iaload, 1, 0, 0, 0), (11, .if_icmp .ge 26, 3, 0, 0, 0), (14, .iload_n 1, 1, 0, 0, 0), (15, .aload_n 0, 1, 0, 0, 0), (16, .getfield 25, 3, 9, 6, 0), (19, .iload_n 2, 1, 0, 0, 0), (20, .iaload, 1, 0, 0, 0), (21, .ifCond .eq 7, 3, 0, 0, 0),
  (24, .iconst 1, 1, 0, 0, 0), (25, .goto 4, 3, 0, 0, 0), (28, .iconst 0, 1, 0, 0, 0), (29, .iadd, 1, 0, 0, 0), (30, .istore_n 1, 1, 0, 0, 0), (31, .iinc 2 1, 3, 0, 0, 0), (34, .goto (-30), 3, 0, 0, 0), (37, .iload_n 1, 1, 0, 0, 0),
  (38, .ireturn, 1, 0, 0, 0)])
def mm38 : ma_M := (⟨RC9, "tell", "(IIIII)V"⟩, prog_11_method_8_code, 7, none, 5, 9, [
  (0, .sipush 128, 3, 0, 0, 0), (3, .iload_n 1, 1, 0, 0, 0), (4, .imul, 1, 0, 0, 0), (5, .iconst 4, 1, 0, 0, 0), (6, .aload_n 0, 1, 0, 0, 0), (7, .getfield 7, 3, 9, 1, 0), (10, .bipush 12, 2, 0, 0, 0), (12, .iload_n 1, 1, 0, 0, 0),
  (13, .iadd, 1, 0, 0, 0), (14, .iaload, 1, 0, 0, 0), (15, .bipush 32, 2, 0, 0, 0), (17, .irem, 1, 0, 0, 0), (18, .imul, 1, 0, 0, 0), (19, .iadd, 1, 0, 0, 0), (20, .istore 6, 2, 0, 0, 0), (22, .aload_n 0, 1, 0, 0, 0),
  (23, .getfield 40, 3, 9, 12, 0), (26, .iload 6, 2, 0, 0, 0), (28, .iload_n 2, 1, 0, 0, 0), (29, .iastore, 1, 0, 0, 0), (30, .aload_n 0, 1, 0, 0, 0), (31, .getfield 40, 3, 9, 12, 0), (34, .iload 6, 2, 0, 0, 0), (36, .iconst 1, 1, 0, 0, 0),
  (37, .iadd, 1, 0, 0, 0), (38, .iload_n 3, 1, 0, 0, 0), (39, .iastore, 1, 0, 0, 0), (40, .aload_n 0, 1, 0, 0, 0), (41, .getfield 40, 3, 9, 12, 0), (44, .iload 6, 2, 0, 0, 0), (46, .iconst 2, 1, 0, 0, 0), (47, .iadd, 1, 0, 0, 0),
  (48, .iload 4, 2, 0, 0, 0), (50, .iastore, 1, 0, 0, 0), (51, .aload_n 0, 1, 0, 0, 0), (52, .getfield 40, 3, 9, 12, 0), (55, .iload 6, 2, 0, 0, 0), (57, .iconst 3, 1, 0, 0, 0), (58, .iadd, 1, 0, 0, 0), (59, .iload 5, 2, 0, 0, 0),
  (61, .iastore, 1, 0, 0, 0), (62, .aload_n 0, 1, 0, 0, 0), (63, .getfield 7, 3, 9, 1, 0), (66, .bipush 12, 2, 0, 0, 0), (68, .iload_n 1, 1, 0, 0, 0), (69, .iadd, 1, 0, 0, 0), (70, .dup2, 1, 0, 0, 0), (71, .iaload, 1, 0, 0, 0),
  (72, .iconst 1, 1, 0, 0, 0), (73, .iadd, 1, 0, 0, 0), (74, .iastore, 1, 0, 0, 0), (75, .return_, 1, 0, 0, 0)])
def mm39 : ma_M := (⟨RC9, "told", "(I)I"⟩, prog_11_method_9_code, 2, some .int, 1, 9, [
  (0, .aload_n 0, 1, 0, 0, 0), (1, .getfield 19, 3, 9, 4, 0), (4, .iload_n 1, 1, 0, 0, 0), (5, .iaload, 1, 0, 0, 0), (6, .iconst 1, 1, 0, 0, 0), (7, .if_icmp .eq 13, 3, 0, 0, 0), (10, .aload_n 0, 1, 0, 0, 0), (11, .getfield 19, 3, 9, 4, 0),
  (14, .iload_n 1, 1, 0, 0, 0), (15, .iaload, 1, 0, 0, 0), (16, .iconst 4, 1, 0, 0, 0), (17, .if_icmp .ne 7, 3, 0, 0, 0), (20, .iconst 0, 1, 0, 0, 0), (21, .goto 9, 3, 0, 0, 0), (24, .aload_n 0, 1, 0, 0, 0), (25, .getfield 28, 3, 9, 7, 0),
  (28, .iload_n 1, 1, 0, 0, 0), (29, .iaload, 1, 0, 0, 0), (30, .ireturn, 1, 0, 0, 0)])
def mm40 : ma_M := (⟨RC9, "leave", "(I)V"⟩, prog_11_method_10_code, 2, none, 1, 9, [
  (0, .aload_n 0, 1, 0, 0, 0), (1, .getfield 25, 3, 9, 6, 0), (4, .iload_n 1, 1, 0, 0, 0), (5, .iconst 0, 1, 0, 0, 0), (6, .iastore, 1, 0, 0, 0), (7, .aload_n 0, 1, 0, 0, 0), (8, .getfield 34, 3, 9, 9, 0), (11, .iload_n 1, 1, 0, 0, 0),
  (12, .iconst 0, 1, 0, 0, 0), (13, .iastore, 1, 0, 0, 0), (14, .aload_n 0, 1, 0, 0, 0), (15, .getfield 22, 3, 9, 5, 0), (18, .iload_n 1, 1, 0, 0, 0), (19, .iconst 0, 1, 0, 0, 0), (20, .iastore, 1, 0, 0, 0), (21, .return_, 1, 0, 0, 0)])
def mm41 : ma_M := (⟨RC9, "drop", "(I)V"⟩, prog_11_method_11_code, 2, none, 1, 9, [
  (0, .aload_n 0, 1, 0, 0, 0), (1, .aload_n 0, 1, 0, 0, 0), (2, .getfield 13, 3, 9, 2, 0), (5, .iload_n 1, 1, 0, 0, 0), (6, .iaload, 1, 0, 0, 0), (7, .iconst 3, 1, 0, 0, 0), (8, .iload_n 1, 1, 0, 0, 0), (9, .aload_n 0, 1, 0, 0, 0),
  (10, .getfield 22, 3, 9, 5, 0), (13, .iload_n 1, 1, 0, 0, 0), (14, .iaload, 1, 0, 0, 0), (15, .aload_n 0, 1, 0, 0, 0), (16, .iload_n 1, 1, 0, 0, 0), (17, .invokevirtual 73, 3, 49, 2, 9), (20, .invokevirtual 76, 3, 48, 6, 9), (23, .aload_n 0, 1, 0, 0, 0),
  (24, .iload_n 1, 1, 0, 0, 0), (25, .invokevirtual 80, 3, 50, 2, 9), (28, .return_, 1, 0, 0, 0)])
def mm42 : ma_M := (⟨RC9, "wild", "(I)Z"⟩, prog_11_method_12_code, 3, some .boolean, 1, 9, [
  (0, .iload_n 1, 1, 0, 0, 0), (1, .aload_n 0, 1, 0, 0, 0), (2, .getfield 7, 3, 9, 1, 0), (5, .iconst 2, 1, 0, 0, 0), (6, .iaload, 1, 0, 0, 0), (7, .isub, 1, 0, 0, 0), (8, .istore_n 2, 1, 0, 0, 0), (9, .iload_n 2, 1, 0, 0, 0),
  (10, .aload_n 0, 1, 0, 0, 0), (11, .getfield 65, 3, 9, 0, 0), (14, .if_icmp .gt 12, 3, 0, 0, 0), (17, .iload_n 2, 1, 0, 0, 0), (18, .ineg, 1, 0, 0, 0), (19, .aload_n 0, 1, 0, 0, 0), (20, .getfield 65, 3, 9, 0, 0), (23, .if_icmp .le 7, 3, 0, 0, 0),
  (26, .iconst 1, 1, 0, 0, 0), (27, .goto 4, 3, 0, 0, 0), (30, .iconst 0, 1, 0, 0, 0), (31, .ireturn, 1, 0, 0, 0)])
def mm43 : ma_M := (⟨RC9, "ahead", "(II)Z"⟩, prog_11_method_13_code, 3, some .boolean, 2, 9, [
  (0, .aload_n 0, 1, 0, 0, 0), (1, .getfield 28, 3, 9, 7, 0), (4, .iload_n 1, 1, 0, 0, 0), (5, .iaload, 1, 0, 0, 0), (6, .aload_n 0, 1, 0, 0, 0), (7, .getfield 28, 3, 9, 7, 0), (10, .iload_n 2, 1, 0, 0, 0), (11, .iaload, 1, 0, 0, 0),
  (12, .if_icmp .eq 56, 3, 0, 0, 0), (15, .aload_n 0, 1, 0, 0, 0), (16, .getfield 16, 3, 9, 3, 0), (19, .iload_n 1, 1, 0, 0, 0), (20, .iaload, 1, 0, 0, 0), (21, .ifCond .ne 26, 3, 0, 0, 0), (24, .aload_n 0, 1, 0, 0, 0), (25, .getfield 28, 3, 9, 7, 0),
  (28, .iload_n 1, 1, 0, 0, 0), (29, .iaload, 1, 0, 0, 0), (30, .aload_n 0, 1, 0, 0, 0), (31, .getfield 28, 3, 9, 7, 0), (34, .iload_n 2, 1, 0, 0, 0), (35, .iaload, 1, 0, 0, 0), (36, .if_icmp .le 7, 3, 0, 0, 0), (39, .iconst 1, 1, 0, 0, 0),
  (40, .goto 27, 3, 0, 0, 0), (43, .iconst 0, 1, 0, 0, 0), (44, .goto 23, 3, 0, 0, 0), (47, .aload_n 0, 1, 0, 0, 0), (48, .getfield 28, 3, 9, 7, 0), (51, .iload_n 1, 1, 0, 0, 0), (52, .iaload, 1, 0, 0, 0), (53, .aload_n 0, 1, 0, 0, 0),
  (54, .getfield 28, 3, 9, 7, 0), (57, .iload_n 2, 1, 0, 0, 0), (58, .iaload, 1, 0, 0, 0), (59, .if_icmp .ge 7, 3, 0, 0, 0), (62, .iconst 1, 1, 0, 0, 0), (63, .goto 4, 3, 0, 0, 0), (66, .iconst 0, 1, 0, 0, 0), (67, .ireturn, 1, 0, 0, 0),
  (68, .aload_n 0, 1, 0, 0, 0), (69, .getfield 37, 3, 9, 10, 0), (72, .iload_n 1, 1, 0, 0, 0), (73, .iaload, 1, 0, 0, 0), (74, .aload_n 0, 1, 0, 0, 0), (75, .getfield 37, 3, 9, 10, 0), (78, .iload_n 2, 1, 0, 0, 0), (79, .iaload, 1, 0, 0, 0),
  (80, .if_icmp .ge 7, 3, 0, 0, 0), (83, .iconst 1, 1, 0, 0, 0), (84, .goto 4, 3, 0, 0, 0), (87, .iconst 0, 1, 0, 0, 0), (88, .ireturn, 1, 0, 0, 0)])
def mm44 : ma_M := (⟨RC9, "bestBehind", "(II)I"⟩, prog_11_method_14_code, 6, some .int, 2, 9, [
  (0, .iconst (-1), 1, 0, 0, 0), (1, .istore_n 3, 1, 0, 0, 0), (2, .iconst 0, 1, 0, 0, 0), (3, .istore 4, 2, 0, 0, 0), (5, .iload 4, 2, 0, 0, 0), (7, .aload_n 0, 1, 0, 0, 0), (8, .getfield 7, 3, 9, 1, 0), (11, .iconst 3, 1, 0, 0, 0),
  (12, .iaload, 1, 0, 0, 0), (13, .if_icmp .ge 84, 3, 0, 0, 0), (16, .aload_n 0, 1, 0, 0, 0), (17, .getfield 25, 3, 9, 6, 0), (20, .iload 4, 2, 0, 0, 0), (22, .iaload, 1, 0, 0, 0), (23, .iconst 1, 1, 0, 0, 0), (24, .if_icmp .ne 38, 3, 0, 0, 0),
  (27, .aload_n 0, 1, 0, 0, 0), (28, .getfield 16, 3, 9, 3, 0), (31, .iload 4, 2, 0, 0, 0), (33, .iaload, 1, 0, 0, 0), (34, .iload_n 1, 1, 0, 0, 0), (35, .if_icmp .ne 27, 3, 0, 0, 0), (38, .iload_n 2, 1, 0, 0, 0), (39, .ifCond .lt 19, 3, 0, 0, 0),
  (42, .iload 4, 2, 0, 0, 0), (44, .iload_n 2, 1, 0, 0, 0), (45, .if_icmp .eq 17, 3, 0, 0, 0), (48, .aload_n 0, 1, 0, 0, 0), (49, .iload_n 2, 1, 0, 0, 0), (50, .iload 4, 2, 0, 0, 0), (52, .invokevirtual 84, 3, 53, 3, 9), (55, .ifCond .eq 7, 3, 0, 0, 0),
  (58, .iconst 1, 1, 0, 0, 0), (59, .goto 4, 3, 0, 0, 0), (62, .iconst 0, 1, 0, 0, 0), (63, .istore 5, 2, 0, 0, 0), (65, .iload 5, 2, 0, 0, 0), (67, .ifCond .eq 22, 3, 0, 0, 0), (70, .iload_n 3, 1, 0, 0, 0), (71, .ifCond .lt 13, 3, 0, 0, 0),
  (74, .aload_n 0, 1, 0, 0, 0), (75, .iload 4, 2, 0, 0, 0), (77, .iload_n 3, 1, 0, 0, 0), (78, .invokevirtual 84, 3, 53, 3, 9), (81, .ifCond .eq 8, 3, 0, 0, 0), (84, .iload 4, 2, 0, 0, 0), (86, .goto 4, 3, 0, 0, 0), (89, .iload_n 3, 1, 0, 0, 0),
  (90, .istore_n 3, 1, 0, 0, 0), (91, .iinc 4 1, 3, 0, 0, 0), (94, .goto (-89), 3, 0, 0, 0), (97, .iload_n 3, 1, 0, 0, 0), (98, .ireturn, 1, 0, 0, 0)])
def mm45 : ma_M := (⟨RC9, "meets", "(II)Z"⟩, prog_11_method_15_code, 3, some .boolean, 2, 9, [
  (0, .aload_n 0, 1, 0, 0, 0), (1, .iload_n 2, 1, 0, 0, 0), (2, .invokevirtual 73, 3, 49, 2, 9), (5, .ifCond .eq 45, 3, 0, 0, 0), (8, .aload_n 0, 1, 0, 0, 0), (9, .getfield 16, 3, 9, 3, 0), (12, .iload_n 2, 1, 0, 0, 0), (13, .iaload, 1, 0, 0, 0),
  (14, .ifCond .ne 21, 3, 0, 0, 0), (17, .aload_n 0, 1, 0, 0, 0), (18, .getfield 28, 3, 9, 7, 0), (21, .iload_n 1, 1, 0, 0, 0), (22, .iaload, 1, 0, 0, 0), (23, .aload_n 0, 1, 0, 0, 0), (24, .getfield 28, 3, 9, 7, 0), (27, .iload_n 2, 1, 0, 0, 0),
  (28, .iaload, 1, 0, 0, 0), (29, .if_icmp .gt 25, 3, 0, 0, 0), (32, .goto 18, 3, 0, 0, 0), (35, .aload_n 0, 1, 0, 0, 0), (36, .getfield 28, 3, 9, 7, 0), (39, .iload_n 1, 1, 0, 0, 0), (40, .iaload, 1, 0, 0, 0), (41, .aload_n 0, 1, 0, 0, 0),
  (42, .getfield 28, 3, 9, 7, 0), (45, .iload_n 2, 1, 0, 0, 0), (46, .iaload, 1, 0, 0, 0), (47, .if_icmp .lt 7, 3, 0, 0, 0), (50, .iconst 1, 1, 0, 0, 0), (51, .goto 4, 3, 0, 0, 0), (54, .iconst 0, 1, 0, 0, 0), (55, .ireturn, 1, 0, 0, 0)])
def mm46 : ma_M := (⟨RC9, "rest", "(I)V"⟩, prog_11_method_16_code, 2, none, 1, 9, [
  (0, .aload_n 0, 1, 0, 0, 0), (1, .getfield 25, 3, 9, 6, 0), (4, .iload_n 1, 1, 0, 0, 0), (5, .iconst 1, 1, 0, 0, 0), (6, .iastore, 1, 0, 0, 0), (7, .aload_n 0, 1, 0, 0, 0), (8, .getfield 34, 3, 9, 9, 0), (11, .iload_n 1, 1, 0, 0, 0),
  (12, .aload_n 0, 1, 0, 0, 0), (13, .getfield 31, 3, 9, 8, 0), (16, .iload_n 1, 1, 0, 0, 0), (17, .iaload, 1, 0, 0, 0), (18, .aload_n 0, 1, 0, 0, 0), (19, .getfield 22, 3, 9, 5, 0), (22, .iload_n 1, 1, 0, 0, 0), (23, .iaload, 1, 0, 0, 0),
  (24, .invokestatic 88, 3, 43, 2, 0), (27, .iastore, 1, 0, 0, 0), (28, .aload_n 0, 1, 0, 0, 0), (29, .dup, 1, 0, 0, 0), (30, .getfield 92, 3, 9, 11, 0), (33, .iconst 1, 1, 0, 0, 0), (34, .iadd, 1, 0, 0, 0), (35, .putfield 92, 3, 9, 11, 0),
  (38, .aload_n 0, 1, 0, 0, 0), (39, .getfield 37, 3, 9, 10, 0), (42, .iload_n 1, 1, 0, 0, 0), (43, .aload_n 0, 1, 0, 0, 0), (44, .getfield 92, 3, 9, 11, 0), (47, .iastore, 1, 0, 0, 0), (48, .return_, 1, 0, 0, 0)])
def mm47 : ma_M := (⟨RC9, "enough", "(I)Z"⟩, prog_11_method_17_code, 4, some .boolean, 1, 9, [
  (0, .iconst 0, 1, 0, 0, 0), (1, .istore_n 2, 1, 0, 0, 0), (2, .aload_n 0, 1, 0, 0, 0), (3, .iconst 1, 1, 0, 0, 0), (4, .aload_n 0, 1, 0, 0, 0), (5, .getfield 16, 3, 9, 3, 0), (8, .iload_n 1, 1, 0, 0, 0), (9, .iaload, 1, 0, 0, 0),
  (10, .isub, 1, 0, 0, 0), (11, .iconst (-1), 1, 0, 0, 0), (12, .invokevirtual 95, 3, 54, 3, 9), (15, .istore_n 3, 1, 0, 0, 0), (16, .iload_n 3, 1, 0, 0, 0), (17, .ifCond .lt 70, 3, 0, 0, 0), (20, .aload_n 0, 1, 0, 0, 0), (21, .iload_n 3, 1, 0, 0, 0),
  (22, .iload_n 1, 1, 0, 0, 0), (23, .invokevirtual 98, 3, 55, 3, 9), (26, .ifCond .eq 61, 3, 0, 0, 0), (29, .aload_n 0, 1, 0, 0, 0), (30, .aload_n 0, 1, 0, 0, 0), (31, .getfield 28, 3, 9, 7, 0), (34, .iload_n 3, 1, 0, 0, 0), (35, .iaload, 1, 0, 0, 0),
  (36, .invokevirtual 101, 3, 52, 2, 9), (39, .ifCond .ne 48, 3, 0, 0, 0), (42, .iload_n 2, 1, 0, 0, 0), (43, .aload_n 0, 1, 0, 0, 0), (44, .getfield 13, 3, 9, 2, 0), (47, .iload_n 3, 1, 0, 0, 0), (48, .iaload, 1, 0, 0, 0), (49, .aload_n 0, 1, 0, 0, 0),
  (50, .getfield 13, 3, 9, 2, 0), (53, .iload_n 1, 1, 0, 0, 0), (54, .iaload, 1, 0, 0, 0), (55, .if_icmp .ne 7, 3, 0, 0, 0), (58, .iconst 0, 1, 0, 0, 0), (59, .goto 9, 3, 0, 0, 0), (62, .aload_n 0, 1, 0, 0, 0), (63, .getfield 22, 3, 9, 5, 0),
  (66, .iload_n 3, 1, 0, 0, 0), (67, .iaload, 1, 0, 0, 0), (68, .iadd, 1, 0, 0, 0), (69, .istore_n 2, 1, 0, 0, 0), (70, .aload_n 0, 1, 0, 0, 0), (71, .iconst 1, 1, 0, 0, 0), (72, .aload_n 0, 1, 0, 0, 0), (73, .getfield 16, 3, 9, 3, 0),
  (76, .iload_n 1, 1, 0, 0, 0), (77, .iaload, 1, 0, 0, 0), (78, .isub, 1, 0, 0, 0), (79, .iload_n 3, 1, 0, 0, 0), (80, .invokevirtual 95, 3, 54, 3, 9), (83, .istore_n 3, 1, 0, 0, 0), (84, .goto (-68), 3, 0, 0, 0), (87, .iload_n 2, 1, 0, 0, 0),
  (88, .aload_n 0, 1, 0, 0, 0), (89, .getfield 22, 3, 9, 5, 0), (92, .iload_n 1, 1, 0, 0, 0), (93, .iaload, 1, 0, 0, 0), (94, .if_icmp .lt 7, 3, 0, 0, 0), (97, .iconst 1, 1, 0, 0, 0), (98, .goto 4, 3, 0, 0, 0), (101, .iconst 0, 1, 0, 0, 0),
  (102, .ireturn, 1, 0, 0, 0)])
def mm48 : ma_M := (⟨RC9, "trade", "(II)V"⟩, prog_11_method_18_code, 5, none, 2, 9, [
  (0, .aload_n 0, 1, 0, 0, 0), (1, .getfield 22, 3, 9, 5, 0), (4, .iload_n 2, 1, 0, 0, 0), (5, .iaload, 1, 0, 0, 0), (6, .aload_n 0, 1, 0, 0, 0), (7, .getfield 34, 3, 9, 9, 0), (10, .iload_n 1, 1, 0, 0, 0), (11, .iaload, 1, 0, 0, 0),
  (12, .invokestatic 88, 3, 43, 2, 0), (15, .istore_n 3, 1, 0, 0, 0), (16, .aload_n 0, 1, 0, 0, 0), (17, .getfield 28, 3, 9, 7, 0), (20, .iload_n 1, 1, 0, 0, 0), (21, .iaload, 1, 0, 0, 0), (22, .istore 4, 2, 0, 0, 0), (24, .aload_n 0, 1, 0, 0, 0),
  (25, .getfield 7, 3, 9, 1, 0), (28, .iconst 1, 1, 0, 0, 0), (29, .iload 4, 2, 0, 0, 0), (31, .iastore, 1, 0, 0, 0), (32, .aload_n 0, 1, 0, 0, 0), (33, .aload_n 0, 1, 0, 0, 0), (34, .getfield 13, 3, 9, 2, 0), (37, .iload_n 1, 1, 0, 0, 0),
  (38, .iaload, 1, 0, 0, 0), (39, .iconst 2, 1, 0, 0, 0), (40, .iload_n 1, 1, 0, 0, 0), (41, .iload_n 3, 1, 0, 0, 0), (42, .iload 4, 2, 0, 0, 0), (44, .invokevirtual 76, 3, 48, 6, 9), (47, .aload_n 0, 1, 0, 0, 0), (48, .aload_n 0, 1, 0, 0, 0),
  (49, .getfield 13, 3, 9, 2, 0), (52, .iload_n 2, 1, 0, 0, 0), (53, .iaload, 1, 0, 0, 0), (54, .iconst 2, 1, 0, 0, 0), (55, .iload_n 2, 1, 0, 0, 0), (56, .iload_n 3, 1, 0, 0, 0), (57, .iload 4, 2, 0, 0, 0), (59, .invokevirtual 76, 3, 48, 6, 9),
  (62, .aload_n 0, 1, 0, 0, 0), (63, .getfield 22, 3, 9, 5, 0), (66, .iload_n 2, 1, 0, 0, 0), (67, .dup2, 1, 0, 0, 0), (68, .iaload, 1, 0, 0, 0), (69, .iload_n 3, 1, 0, 0, 0), (70, .isub, 1, 0, 0, 0), (71, .iastore, 1, 0, 0, 0),
  (72, .aload_n 0, 1, 0, 0, 0), (73, .getfield 22, 3, 9, 5, 0), (76, .iload_n 1, 1, 0, 0, 0), (77, .dup2, 1, 0, 0, 0), (78, .iaload, 1, 0, 0, 0), (79, .iload_n 3, 1, 0, 0, 0), (80, .isub, 1, 0, 0, 0), (81, .iastore, 1, 0, 0, 0),
  (82, .aload_n 0, 1, 0, 0, 0), (83, .getfield 34, 3, 9, 9, 0), (86, .iload_n 1, 1, 0, 0, 0), (87, .dup2, 1, 0, 0, 0), (88, .iaload, 1, 0, 0, 0), (89, .iload_n 3, 1, 0, 0, 0), (90, .isub, 1, 0, 0, 0), (91, .iastore, 1, 0, 0, 0),
  (92, .aload_n 0, 1, 0, 0, 0), (93, .getfield 22, 3, 9, 5, 0), (96, .iload_n 1, 1, 0, 0, 0), (97, .iaload, 1, 0, 0, 0), (98, .ifCond .ne 11, 3, 0, 0, 0), (101, .aload_n 0, 1, 0, 0, 0), (102, .iload_n 1, 1, 0, 0, 0), (103, .invokevirtual 80, 3, 50, 2, 9),
  (106, .goto 17, 3, 0, 0, 0), (109, .aload_n 0, 1, 0, 0, 0), (110, .getfield 34, 3, 9, 9, 0), (113, .iload_n 1, 1, 0, 0, 0), (114, .iaload, 1, 0, 0, 0), (115, .ifCond .ne 8, 3, 0, 0, 0), (118, .aload_n 0, 1, 0, 0, 0), (119, .iload_n 1, 1, 0, 0, 0),
  (120, .invokevirtual 105, 3, 56, 2, 9), (123, .return_, 1, 0, 0, 0)])
def mm49 : ma_M := (⟨RC9, "match", "(I)V"⟩, prog_11_method_19_code, 4, none, 1, 9, [
  (0, .aload_n 0, 1, 0, 0, 0), (1, .getfield 19, 3, 9, 4, 0), (4, .iload_n 1, 1, 0, 0, 0), (5, .iaload, 1, 0, 0, 0), (6, .iconst 3, 1, 0, 0, 0), (7, .if_icmp .ne 11, 3, 0, 0, 0), (10, .aload_n 0, 1, 0, 0, 0), (11, .iload_n 1, 1, 0, 0, 0),
  (12, .invokevirtual 108, 3, 57, 2, 9), (15, .ifCond .eq 7, 3, 0, 0, 0), (18, .iconst 1, 1, 0, 0, 0), (19, .goto 4, 3, 0, 0, 0), (22, .iconst 0, 1, 0, 0, 0), (23, .istore_n 2, 1, 0, 0, 0), (24, .iload_n 2, 1, 0, 0, 0), (25, .ifCond .eq 111, 3, 0, 0, 0),
  (28, .aload_n 0, 1, 0, 0, 0), (29, .getfield 22, 3, 9, 5, 0), (32, .iload_n 1, 1, 0, 0, 0), (33, .iaload, 1, 0, 0, 0), (34, .ifCond .le 102, 3, 0, 0, 0), (37, .aload_n 0, 1, 0, 0, 0), (38, .iconst 1, 1, 0, 0, 0), (39, .aload_n 0, 1, 0, 0, 0),
  (40, .getfield 16, 3, 9, 3, 0), (43, .iload_n 1, 1, 0, 0, 0), (44, .iaload, 1, 0, 0, 0), (45, .isub, 1, 0, 0, 0), (46, .iconst (-1), 1, 0, 0, 0), (47, .invokevirtual 95, 3, 54, 3, 9), (50, .istore_n 3, 1, 0, 0, 0), (51, .iload_n 3, 1, 0, 0, 0),
  (52, .ifCond .lt 16, 3, 0, 0, 0), (55, .aload_n 0, 1, 0, 0, 0), (56, .iload_n 3, 1, 0, 0, 0), (57, .iload_n 1, 1, 0, 0, 0), (58, .invokevirtual 98, 3, 55, 3, 9), (61, .ifCond .eq 7, 3, 0, 0, 0), (64, .iconst 1, 1, 0, 0, 0), (65, .goto 4, 3, 0, 0, 0),
  (68, .iconst 0, 1, 0, 0, 0), (69, .istore_n 2, 1, 0, 0, 0), (70, .iload_n 2, 1, 0, 0, 0), (71, .ifCond .eq 25, 3, 0, 0, 0), (74, .aload_n 0, 1, 0, 0, 0), (75, .aload_n 0, 1, 0, 0, 0), (76, .getfield 28, 3, 9, 7, 0), (79, .iload_n 3, 1, 0, 0, 0),
  (80, .iaload, 1, 0, 0, 0), (81, .invokevirtual 101, 3, 52, 2, 9), (84, .ifCond .eq 12, 3, 0, 0, 0), (87, .aload_n 0, 1, 0, 0, 0), (88, .getfield 7, 3, 9, 1, 0), (91, .iconst 0, 1, 0, 0, 0), (92, .iconst 4, 1, 0, 0, 0), (93, .iastore, 1, 0, 0, 0),
  (94, .iconst 0, 1, 0, 0, 0), (95, .istore_n 2, 1, 0, 0, 0), (96, .iload_n 2, 1, 0, 0, 0), (97, .ifCond .eq 26, 3, 0, 0, 0), (100, .aload_n 0, 1, 0, 0, 0), (101, .getfield 13, 3, 9, 2, 0), (104, .iload_n 3, 1, 0, 0, 0), (105, .iaload, 1, 0, 0, 0),
  (106, .aload_n 0, 1, 0, 0, 0), (107, .getfield 13, 3, 9, 2, 0), (110, .iload_n 1, 1, 0, 0, 0), (111, .iaload, 1, 0, 0, 0), (112, .if_icmp .ne 11, 3, 0, 0, 0), (115, .aload_n 0, 1, 0, 0, 0), (116, .iload_n 3, 1, 0, 0, 0), (117, .invokevirtual 111, 3, 51, 2, 9),
  (120, .goto 13, 3, 0, 0, 0), (123, .iload_n 2, 1, 0, 0, 0), (124, .ifCond .eq 9, 3, 0, 0, 0), (127, .aload_n 0, 1, 0, 0, 0), (128, .iload_n 3, 1, 0, 0, 0), (129, .iload_n 1, 1, 0, 0, 0), (130, .invokevirtual 114, 3, 58, 3, 9), (133, .goto (-109), 3, 0, 0, 0),
  (136, .aload_n 0, 1, 0, 0, 0), (137, .getfield 22, 3, 9, 5, 0), (140, .iload_n 1, 1, 0, 0, 0), (141, .iaload, 1, 0, 0, 0), (142, .ifCond .ne 11, 3, 0, 0, 0), (145, .aload_n 0, 1, 0, 0, 0), (146, .iload_n 1, 1, 0, 0, 0), (147, .invokevirtual 80, 3, 50, 2, 9),
  (150, .goto 35, 3, 0, 0, 0), (153, .aload_n 0, 1, 0, 0, 0), (154, .getfield 19, 3, 9, 4, 0), (157, .iload_n 1, 1, 0, 0, 0), (158, .iaload, 1, 0, 0, 0), (159, .ifCond .eq 13, 3, 0, 0, 0), (162, .aload_n 0, 1, 0, 0, 0), (163, .getfield 19, 3, 9, 4, 0),
  (166, .iload_n 1, 1, 0, 0, 0), (167, .iaload, 1, 0, 0, 0), (168, .iconst 5, 1, 0, 0, 0), (169, .if_icmp .ne 11, 3, 0, 0, 0), (172, .aload_n 0, 1, 0, 0, 0), (173, .iload_n 1, 1, 0, 0, 0), (174, .invokevirtual 105, 3, 56, 2, 9), (177, .goto 8, 3, 0, 0, 0),
  (180, .aload_n 0, 1, 0, 0, 0), (181, .iload_n 1, 1, 0, 0, 0), (182, .invokevirtual 111, 3, 51, 2, 9), (185, .return_, 1, 0, 0, 0)])
def mm50 : ma_M := (⟨RC9, "comeIn", "(I)V"⟩, prog_11_method_20_code, 2, none, 1, 9, [
  (0, .aload_n 0, 1, 0, 0, 0), (1, .getfield 19, 3, 9, 4, 0), (4, .iload_n 1, 1, 0, 0, 0), (5, .iaload, 1, 0, 0, 0), (6, .iconst 4, 1, 0, 0, 0), (7, .if_icmp .ne 13, 3, 0, 0, 0), (10, .aload_n 0, 1, 0, 0, 0), (11, .getfield 25, 3, 9, 6, 0),
  (14, .iload_n 1, 1, 0, 0, 0), (15, .iconst 2, 1, 0, 0, 0), (16, .iastore, 1, 0, 0, 0), (17, .goto 23, 3, 0, 0, 0), (20, .aload_n 0, 1, 0, 0, 0), (21, .invokevirtual 117, 3, 46, 1, 9), (24, .ifCond .eq 11, 3, 0, 0, 0), (27, .aload_n 0, 1, 0, 0, 0),
  (28, .iload_n 1, 1, 0, 0, 0), (29, .invokevirtual 105, 3, 56, 2, 9), (32, .goto 8, 3, 0, 0, 0), (35, .aload_n 0, 1, 0, 0, 0), (36, .iload_n 1, 1, 0, 0, 0), (37, .invokevirtual 121, 3, 59, 2, 9), (40, .return_, 1, 0, 0, 0)])
def mm51 : ma_M := (⟨RC9, "setOff", "()I"⟩, prog_11_method_21_code, 2, some .int, 0, 9, [
  (0, .iconst 0, 1, 0, 0, 0), (1, .istore_n 1, 1, 0, 0, 0), (2, .iload_n 1, 1, 0, 0, 0), (3, .aload_n 0, 1, 0, 0, 0), (4, .getfield 7, 3, 9, 1, 0), (7, .iconst 3, 1, 0, 0, 0), (8, .iaload, 1, 0, 0, 0), (9, .if_icmp .ge 63, 3, 0, 0, 0),
  (12, .aload_n 0, 1, 0, 0, 0), (13, .getfield 25, 3, 9, 6, 0), (16, .iload_n 1, 1, 0, 0, 0), (17, .iaload, 1, 0, 0, 0), (18, .iconst 2, 1, 0, 0, 0), (19, .if_icmp .ne 47, 3, 0, 0, 0), (22, .aload_n 0, 1, 0, 0, 0), (23, .getfield 16, 3, 9, 3, 0),
  (26, .iload_n 1, 1, 0, 0, 0), (27, .iaload, 1, 0, 0, 0), (28, .ifCond .ne 21, 3, 0, 0, 0), (31, .aload_n 0, 1, 0, 0, 0), (32, .getfield 28, 3, 9, 7, 0), (35, .iload_n 1, 1, 0, 0, 0), (36, .iaload, 1, 0, 0, 0), (37, .aload_n 0, 1, 0, 0, 0),
  (38, .getfield 7, 3, 9, 1, 0), (41, .iconst 1, 1, 0, 0, 0), (42, .iaload, 1, 0, 0, 0), (43, .if_icmp .gt 23, 3, 0, 0, 0), (46, .goto 18, 3, 0, 0, 0), (49, .aload_n 0, 1, 0, 0, 0), (50, .getfield 28, 3, 9, 7, 0), (53, .iload_n 1, 1, 0, 0, 0),
  (54, .iaload, 1, 0, 0, 0), (55, .aload_n 0, 1, 0, 0, 0), (56, .getfield 7, 3, 9, 1, 0), (59, .iconst 1, 1, 0, 0, 0), (60, .iaload, 1, 0, 0, 0), (61, .if_icmp .lt 5, 3, 0, 0, 0), (64, .iload_n 1, 1, 0, 0, 0), (65, .ireturn, 1, 0, 0, 0),
  (66, .iinc 1 1, 3, 0, 0, 0), (69, .goto (-67), 3, 0, 0, 0), (72, .iconst (-1), 1, 0, 0, 0), (73, .ireturn, 1, 0, 0, 0)])
def mm52 : ma_M := (⟨RC9, "stops", "()V"⟩, prog_11_method_22_code, 2, none, 0, 9, [
  (0, .aload_n 0, 1, 0, 0, 0), (1, .getfield 7, 3, 9, 1, 0), (4, .iconst 0, 1, 0, 0, 0), (5, .iaload, 1, 0, 0, 0), (6, .iconst 2, 1, 0, 0, 0), (7, .if_icmp .ne 10, 3, 0, 0, 0), (10, .aload_n 0, 1, 0, 0, 0), (11, .invokevirtual 124, 3, 61, 1, 9),
  (14, .goto 4, 3, 0, 0, 0), (17, .iconst (-1), 1, 0, 0, 0), (18, .istore_n 1, 1, 0, 0, 0), (19, .iload_n 1, 1, 0, 0, 0), (20, .ifCond .lt 44, 3, 0, 0, 0), (23, .aload_n 0, 1, 0, 0, 0), (24, .getfield 19, 3, 9, 4, 0), (27, .iload_n 1, 1, 0, 0, 0),
  (28, .iconst 1, 1, 0, 0, 0), (29, .iastore, 1, 0, 0, 0), (30, .aload_n 0, 1, 0, 0, 0), (31, .getfield 25, 3, 9, 6, 0), (34, .iload_n 1, 1, 0, 0, 0), (35, .iconst 0, 1, 0, 0, 0), (36, .iastore, 1, 0, 0, 0), (37, .aload_n 0, 1, 0, 0, 0),
  (38, .iload_n 1, 1, 0, 0, 0), (39, .invokevirtual 121, 3, 59, 2, 9), (42, .aload_n 0, 1, 0, 0, 0), (43, .getfield 7, 3, 9, 1, 0), (46, .iconst 0, 1, 0, 0, 0), (47, .iaload, 1, 0, 0, 0), (48, .iconst 2, 1, 0, 0, 0), (49, .if_icmp .ne 10, 3, 0, 0, 0),
  (52, .aload_n 0, 1, 0, 0, 0), (53, .invokevirtual 124, 3, 61, 1, 9), (56, .goto 4, 3, 0, 0, 0), (59, .iconst (-1), 1, 0, 0, 0), (60, .istore_n 1, 1, 0, 0, 0), (61, .goto (-42), 3, 0, 0, 0), (64, .return_, 1, 0, 0, 0)])
def mm53 : ma_M := (⟨RC9, "sums", "()V"⟩, prog_11_method_23_code, 2, none, 0, 9, [
  (0, .iconst 0, 1, 0, 0, 0), (1, .istore_n 1, 1, 0, 0, 0), (2, .iload_n 1, 1, 0, 0, 0), (3, .sipush 1000, 3, 0, 0, 0), (6, .if_icmp .gt 23, 3, 0, 0, 0), (9, .aload_n 0, 1, 0, 0, 0), (10, .getfield 43, 3, 9, 13, 0), (13, .iload_n 1, 1, 0, 0, 0),
  (14, .iconst 0, 1, 0, 0, 0), (15, .iastore, 1, 0, 0, 0), (16, .aload_n 0, 1, 0, 0, 0), (17, .getfield 46, 3, 9, 14, 0), (20, .iload_n 1, 1, 0, 0, 0), (21, .iconst 0, 1, 0, 0, 0), (22, .iastore, 1, 0, 0, 0), (23, .iinc 1 1, 3, 0, 0, 0),
  (26, .goto (-24), 3, 0, 0, 0), (29, .iconst 0, 1, 0, 0, 0), (30, .istore_n 1, 1, 0, 0, 0), (31, .iload_n 1, 1, 0, 0, 0), (32, .aload_n 0, 1, 0, 0, 0), (33, .getfield 7, 3, 9, 1, 0), (36, .iconst 3, 1, 0, 0, 0), (37, .iaload, 1, 0, 0, 0),
  (38, .if_icmp .ge 86, 3, 0, 0, 0), (41, .aload_n 0, 1, 0, 0, 0), (42, .getfield 25, 3, 9, 6, 0), (45, .iload_n 1, 1, 0, 0, 0), (46, .iaload, 1, 0, 0, 0), (47, .iconst 1, 1, 0, 0, 0), (48, .if_icmp .ne 70, 3, 0, 0, 0), (51, .aload_n 0, 1, 0, 0, 0),
  (52, .getfield 43, 3, 9, 13, 0), (55, .aload_n 0, 1, 0, 0, 0), (56, .getfield 28, 3, 9, 7, 0), (59, .iload_n 1, 1, 0, 0, 0), (60, .iaload, 1, 0, 0, 0), (61, .dup2, 1, 0, 0, 0), (62, .iaload, 1, 0, 0, 0), (63, .aload_n 0, 1, 0, 0, 0),
  (64, .getfield 16, 3, 9, 3, 0), (67, .iload_n 1, 1, 0, 0, 0), (68, .iaload, 1, 0, 0, 0), (69, .ifCond .ne 12, 3, 0, 0, 0), (72, .aload_n 0, 1, 0, 0, 0), (73, .getfield 22, 3, 9, 5, 0), (76, .iload_n 1, 1, 0, 0, 0), (77, .iaload, 1, 0, 0, 0),
  (78, .goto 4, 3, 0, 0, 0), (81, .iconst 0, 1, 0, 0, 0), (82, .iadd, 1, 0, 0, 0), (83, .iastore, 1, 0, 0, 0), (84, .aload_n 0, 1, 0, 0, 0), (85, .getfield 46, 3, 9, 14, 0), (88, .aload_n 0, 1, 0, 0, 0), (89, .getfield 28, 3, 9, 7, 0),
  (92, .iload_n 1, 1, 0, 0, 0), (93, .iaload, 1, 0, 0, 0), (94, .dup2, 1, 0, 0, 0), (95, .iaload, 1, 0, 0, 0), (96, .aload_n 0, 1, 0, 0, 0), (97, .getfield 16, 3, 9, 3, 0), (100, .iload_n 1, 1, 0, 0, 0), (101, .iaload, 1, 0, 0, 0),
  (102, .iconst 1, 1, 0, 0, 0), (103, .if_icmp .ne 12, 3, 0, 0, 0), (106, .aload_n 0, 1, 0, 0, 0), (107, .getfield 22, 3, 9, 5, 0), (110, .iload_n 1, 1, 0, 0, 0), (111, .iaload, 1, 0, 0, 0), (112, .goto 4, 3, 0, 0, 0), (115, .iconst 0, 1, 0, 0, 0),
  (116, .iadd, 1, 0, 0, 0), (117, .iastore, 1, 0, 0, 0), (118, .iinc 1 1, 3, 0, 0, 0), (121, .goto (-90), 3, 0, 0, 0), (124, .iconst 1, 1, 0, 0, 0), (125, .istore_n 1, 1, 0, 0, 0), (126, .iload_n 1, 1, 0, 0, 0), (127, .sipush 1000, 3, 0, 0, 0),
  (130, .if_icmp .ge 49, 3, 0, 0, 0), (133, .aload_n 0, 1, 0, 0, 0), (134, .getfield 46, 3, 9, 14, 0), (137, .iload_n 1, 1, 0, 0, 0), (138, .dup2, 1, 0, 0, 0), (139, .iaload, 1, 0, 0, 0), (140, .aload_n 0, 1, 0, 0, 0), (141, .getfield 46, 3, 9, 14, 0),
  (144, .iload_n 1, 1, 0, 0, 0), (145, .iconst 1, 1, 0, 0, 0), (146, .isub, 1, 0, 0, 0), (147, .iaload, 1, 0, 0, 0), (148, .iadd, 1, 0, 0, 0), (149, .iastore, 1, 0, 0, 0), (150, .aload_n 0, 1, 0, 0, 0), (151, .getfield 43, 3, 9, 13, 0),
  (154, .sipush 999, 3, 0, 0, 0), (157, .iload_n 1, 1, 0, 0, 0), (158, .isub, 1, 0, 0, 0), (159, .dup2, 1, 0, 0, 0), (160, .iaload, 1, 0, 0, 0), (161, .aload_n 0, 1, 0, 0, 0), (162, .getfield 43, 3, 9, 13, 0), (165, .sipush 1000, 3, 0, 0, 0),
  (168, .iload_n 1, 1, 0, 0, 0), (169, .isub, 1, 0, 0, 0), (170, .iaload, 1, 0, 0, 0), (171, .iadd, 1, 0, 0, 0), (172, .iastore, 1, 0, 0, 0), (173, .iinc 1 1, 3, 0, 0, 0), (176, .goto (-50), 3, 0, 0, 0), (179, .return_, 1, 0, 0, 0)])
def mm54 : ma_M := (⟨RC9, "apart", "(II)I"⟩, prog_11_method_24_code, 2, some .int, 2, 99, [
  (0, .iload_n 0, 1, 0, 0, 0), (1, .iload_n 1, 1, 0, 0, 0), (2, .if_icmp .le 9, 3, 0, 0, 0), (5, .iload_n 0, 1, 0, 0, 0), (6, .iload_n 1, 1, 0, 0, 0), (7, .isub, 1, 0, 0, 0), (8, .goto 6, 3, 0, 0, 0), (11, .iload_n 1, 1, 0, 0, 0),
  (12, .iload_n 0, 1, 0, 0, 0), (13, .isub, 1, 0, 0, 0), (14, .ireturn, 1, 0, 0, 0)])
def mm55 : ma_M := (⟨RC9, "weigh", "()V"⟩, prog_11_method_25_code, 6, none, 0, 9, [
  (0, .aload_n 0, 1, 0, 0, 0), (1, .invokevirtual 128, 3, 63, 1, 9), (4, .aload_n 0, 1, 0, 0, 0), (5, .iconst 0, 1, 0, 0, 0), (6, .putfield 131, 3, 9, 16, 0), (9, .aload_n 0, 1, 0, 0, 0), (10, .iconst 0, 1, 0, 0, 0), (11, .putfield 134, 3, 9, 17, 0),
  (14, .aload_n 0, 1, 0, 0, 0), (15, .iconst 0, 1, 0, 0, 0), (16, .putfield 137, 3, 9, 15, 0), (19, .iconst 1, 1, 0, 0, 0), (20, .istore_n 1, 1, 0, 0, 0), (21, .iload_n 1, 1, 0, 0, 0), (22, .sipush 1000, 3, 0, 0, 0), (25, .if_icmp .ge 134, 3, 0, 0, 0),
  (28, .aload_n 0, 1, 0, 0, 0), (29, .getfield 43, 3, 9, 13, 0), (32, .iload_n 1, 1, 0, 0, 0), (33, .iaload, 1, 0, 0, 0), (34, .aload_n 0, 1, 0, 0, 0), (35, .getfield 46, 3, 9, 14, 0), (38, .iload_n 1, 1, 0, 0, 0), (39, .iaload, 1, 0, 0, 0),
  (40, .invokestatic 88, 3, 43, 2, 0), (43, .istore_n 2, 1, 0, 0, 0), (44, .aload_n 0, 1, 0, 0, 0), (45, .getfield 43, 3, 9, 13, 0), (48, .iload_n 1, 1, 0, 0, 0), (49, .iaload, 1, 0, 0, 0), (50, .aload_n 0, 1, 0, 0, 0), (51, .getfield 46, 3, 9, 14, 0),
  (54, .iload_n 1, 1, 0, 0, 0), (55, .iaload, 1, 0, 0, 0), (56, .invokestatic 140, 3, 64, 2, 0), (59, .istore_n 3, 1, 0, 0, 0), (60, .iload_n 1, 1, 0, 0, 0), (61, .aload_n 0, 1, 0, 0, 0), (62, .getfield 7, 3, 9, 1, 0), (65, .iconst 2, 1, 0, 0, 0),
  (66, .iaload, 1, 0, 0, 0), (67, .invokestatic 140, 3, 64, 2, 0), (70, .istore 4, 2, 0, 0, 0), (72, .iload_n 2, 1, 0, 0, 0), (73, .aload_n 0, 1, 0, 0, 0), (74, .getfield 131, 3, 9, 16, 0), (77, .if_icmp .gt 45, 3, 0, 0, 0), (80, .iload_n 2, 1, 0, 0, 0),
  (81, .aload_n 0, 1, 0, 0, 0), (82, .getfield 131, 3, 9, 16, 0), (85, .if_icmp .ne 41, 3, 0, 0, 0), (88, .iload_n 3, 1, 0, 0, 0), (89, .aload_n 0, 1, 0, 0, 0), (90, .getfield 134, 3, 9, 17, 0), (93, .if_icmp .lt 29, 3, 0, 0, 0), (96, .iload_n 3, 1, 0, 0, 0),
  (97, .aload_n 0, 1, 0, 0, 0), (98, .getfield 134, 3, 9, 17, 0), (101, .if_icmp .ne 25, 3, 0, 0, 0), (104, .iload 4, 2, 0, 0, 0), (106, .aload_n 0, 1, 0, 0, 0), (107, .getfield 137, 3, 9, 15, 0), (110, .aload_n 0, 1, 0, 0, 0), (111, .getfield 7, 3, 9, 1, 0),
  (114, .iconst 2, 1, 0, 0, 0), (115, .iaload, 1, 0, 0, 0), (116, .invokestatic 140, 3, 64, 2, 0), (119, .if_icmp .gt 7, 3, 0, 0, 0), (122, .iconst 1, 1, 0, 0, 0), (123, .goto 4, 3, 0, 0, 0), (126, .iconst 0, 1, 0, 0, 0), (127, .istore 5, 2, 0, 0, 0),
  (129, .iload_n 2, 1, 0, 0, 0), (130, .ifCond .le 23, 3, 0, 0, 0), (133, .iload 5, 2, 0, 0, 0), (135, .ifCond .eq 18, 3, 0, 0, 0), (138, .aload_n 0, 1, 0, 0, 0), (139, .iload_n 1, 1, 0, 0, 0), (140, .putfield 137, 3, 9, 15, 0), (143, .aload_n 0, 1, 0, 0, 0),
  (144, .iload_n 2, 1, 0, 0, 0), (145, .putfield 131, 3, 9, 16, 0), (148, .aload_n 0, 1, 0, 0, 0), (149, .iload_n 3, 1, 0, 0, 0), (150, .putfield 134, 3, 9, 17, 0), (153, .iinc 1 1, 3, 0, 0, 0), (156, .goto (-135), 3, 0, 0, 0), (159, .return_, 1, 0, 0, 0)])
def mm56 : ma_M := (⟨RC9, "fill", "(I)V"⟩, prog_11_method_26_code, 6, none, 1, 9, [
  (0, .aload_n 0, 1, 0, 0, 0), (1, .getfield 131, 3, 9, 16, 0), (4, .istore_n 2, 1, 0, 0, 0), (5, .aload_n 0, 1, 0, 0, 0), (6, .iload_n 1, 1, 0, 0, 0), (7, .iconst (-1), 1, 0, 0, 0), (8, .invokevirtual 95, 3, 54, 3, 9), (11, .istore_n 3, 1, 0, 0, 0),
  (12, .iload_n 2, 1, 0, 0, 0), (13, .ifCond .le 105, 3, 0, 0, 0), (16, .iload_n 3, 1, 0, 0, 0), (17, .ifCond .lt 101, 3, 0, 0, 0), (20, .aload_n 0, 1, 0, 0, 0), (21, .iload_n 1, 1, 0, 0, 0), (22, .iload_n 3, 1, 0, 0, 0), (23, .invokevirtual 95, 3, 54, 3, 9),
  (26, .istore 4, 2, 0, 0, 0), (28, .iload_n 2, 1, 0, 0, 0), (29, .aload_n 0, 1, 0, 0, 0), (30, .getfield 22, 3, 9, 5, 0), (33, .iload_n 3, 1, 0, 0, 0), (34, .iaload, 1, 0, 0, 0), (35, .invokestatic 88, 3, 43, 2, 0), (38, .istore 5, 2, 0, 0, 0),
  (40, .aload_n 0, 1, 0, 0, 0), (41, .aload_n 0, 1, 0, 0, 0), (42, .getfield 13, 3, 9, 2, 0), (45, .iload_n 3, 1, 0, 0, 0), (46, .iaload, 1, 0, 0, 0), (47, .iconst 2, 1, 0, 0, 0), (48, .iload_n 3, 1, 0, 0, 0), (49, .iload 5, 2, 0, 0, 0),
  (51, .aload_n 0, 1, 0, 0, 0), (52, .getfield 137, 3, 9, 15, 0), (55, .invokevirtual 76, 3, 48, 6, 9), (58, .iload_n 2, 1, 0, 0, 0), (59, .iload 5, 2, 0, 0, 0), (61, .isub, 1, 0, 0, 0), (62, .istore_n 2, 1, 0, 0, 0), (63, .aload_n 0, 1, 0, 0, 0),
  (64, .getfield 22, 3, 9, 5, 0), (67, .iload_n 3, 1, 0, 0, 0), (68, .dup2, 1, 0, 0, 0), (69, .iaload, 1, 0, 0, 0), (70, .iload 5, 2, 0, 0, 0), (72, .isub, 1, 0, 0, 0), (73, .iastore, 1, 0, 0, 0), (74, .aload_n 0, 1, 0, 0, 0),
  (75, .getfield 22, 3, 9, 5, 0), (78, .iload_n 3, 1, 0, 0, 0), (79, .iaload, 1, 0, 0, 0), (80, .ifCond .ne 11, 3, 0, 0, 0), (83, .aload_n 0, 1, 0, 0, 0), (84, .iload_n 3, 1, 0, 0, 0), (85, .invokevirtual 80, 3, 50, 2, 9), (88, .goto 24, 3, 0, 0, 0),
  (91, .aload_n 0, 1, 0, 0, 0), (92, .getfield 34, 3, 9, 9, 0), (95, .iload_n 3, 1, 0, 0, 0), (96, .aload_n 0, 1, 0, 0, 0), (97, .getfield 31, 3, 9, 8, 0), (100, .iload_n 3, 1, 0, 0, 0), (101, .iaload, 1, 0, 0, 0), (102, .aload_n 0, 1, 0, 0, 0),
  (103, .getfield 22, 3, 9, 5, 0), (106, .iload_n 3, 1, 0, 0, 0), (107, .iaload, 1, 0, 0, 0), (108, .invokestatic 88, 3, 43, 2, 0), (111, .iastore, 1, 0, 0, 0), (112, .iload 4, 2, 0, 0, 0), (114, .istore_n 3, 1, 0, 0, 0), (115, .goto (-103), 3, 0, 0, 0),
  (118, .return_, 1, 0, 0, 0)])
def mm57 : ma_M := (⟨RC9, "auction", "()V"⟩, prog_11_method_27_code, 1, none, 0, 9, [
  (0, .aload_n 0, 1, 0, 0, 0), (1, .invokevirtual 143, 3, 65, 1, 9), (4, .aload_n 0, 1, 0, 0, 0), (5, .getfield 131, 3, 9, 16, 0), (8, .ifCond .ne 4, 3, 0, 0, 0), (11, .return_, 1, 0, 0, 0), (12, .aload_n 0, 1, 0, 0, 0), (13, .iconst 0, 1, 0, 0, 0),
  (14, .invokevirtual 146, 3, 66, 2, 9), (17, .aload_n 0, 1, 0, 0, 0), (18, .iconst 1, 1, 0, 0, 0), (19, .invokevirtual 146, 3, 66, 2, 9), (22, .aload_n 0, 1, 0, 0, 0), (23, .getfield 7, 3, 9, 1, 0), (26, .iconst 1, 1, 0, 0, 0), (27, .aload_n 0, 1, 0, 0, 0),
  (28, .getfield 137, 3, 9, 15, 0), (31, .iastore, 1, 0, 0, 0), (32, .aload_n 0, 1, 0, 0, 0), (33, .getfield 7, 3, 9, 1, 0), (36, .iconst 2, 1, 0, 0, 0), (37, .aload_n 0, 1, 0, 0, 0), (38, .getfield 137, 3, 9, 15, 0), (41, .iastore, 1, 0, 0, 0),
  (42, .return_, 1, 0, 0, 0)])
def mm58 : ma_M := (⟨RC9, "level", "(II)I"⟩, prog_11_method_28_code, 5, some .int, 2, 9, [
  (0, .iconst 0, 1, 0, 0, 0), (1, .istore_n 3, 1, 0, 0, 0), (2, .iconst 0, 1, 0, 0, 0), (3, .istore 4, 2, 0, 0, 0), (5, .iload 4, 2, 0, 0, 0), (7, .aload_n 0, 1, 0, 0, 0), (8, .getfield 7, 3, 9, 1, 0), (11, .iconst 3, 1, 0, 0, 0),
  (12, .iaload, 1, 0, 0, 0), (13, .if_icmp .ge 56, 3, 0, 0, 0), (16, .iload_n 3, 1, 0, 0, 0), (17, .aload_n 0, 1, 0, 0, 0), (18, .getfield 25, 3, 9, 6, 0), (21, .iload 4, 2, 0, 0, 0), (23, .iaload, 1, 0, 0, 0), (24, .iconst 1, 1, 0, 0, 0),
  (25, .if_icmp .ne 35, 3, 0, 0, 0), (28, .aload_n 0, 1, 0, 0, 0), (29, .getfield 16, 3, 9, 3, 0), (32, .iload 4, 2, 0, 0, 0), (34, .iaload, 1, 0, 0, 0), (35, .iload_n 1, 1, 0, 0, 0), (36, .if_icmp .ne 24, 3, 0, 0, 0), (39, .aload_n 0, 1, 0, 0, 0),
  (40, .getfield 28, 3, 9, 7, 0), (43, .iload 4, 2, 0, 0, 0), (45, .iaload, 1, 0, 0, 0), (46, .iload_n 2, 1, 0, 0, 0), (47, .if_icmp .ne 13, 3, 0, 0, 0), (50, .aload_n 0, 1, 0, 0, 0), (51, .getfield 34, 3, 9, 9, 0), (54, .iload 4, 2, 0, 0, 0),
  (56, .iaload, 1, 0, 0, 0), (57, .goto 4, 3, 0, 0, 0), (60, .iconst 0, 1, 0, 0, 0), (61, .iadd, 1, 0, 0, 0), (62, .istore_n 3, 1, 0, 0, 0), (63, .iinc 4 1, 3, 0, 0, 0), (66, .goto (-61), 3, 0, 0, 0), (69, .iload_n 3, 1, 0, 0, 0),
  (70, .ireturn, 1, 0, 0, 0)])
def mm59 : ma_M := (⟨RC9, "look", "()V"⟩, prog_11_method_29_code, 2, none, 0, 9, [
  (0, .iconst 0, 1, 0, 0, 0), (1, .istore_n 1, 1, 0, 0, 0), (2, .iload_n 1, 1, 0, 0, 0), (3, .sipush 2000, 3, 0, 0, 0), (6, .if_icmp .ge 16, 3, 0, 0, 0), (9, .aload_n 0, 1, 0, 0, 0), (10, .getfield 49, 3, 9, 18, 0), (13, .iload_n 1, 1, 0, 0, 0),
  (14, .iconst 0, 1, 0, 0, 0), (15, .iastore, 1, 0, 0, 0), (16, .iinc 1 1, 3, 0, 0, 0), (19, .goto (-17), 3, 0, 0, 0), (22, .iconst 0, 1, 0, 0, 0), (23, .istore_n 1, 1, 0, 0, 0), (24, .iload_n 1, 1, 0, 0, 0), (25, .aload_n 0, 1, 0, 0, 0),
  (26, .getfield 7, 3, 9, 1, 0), (29, .iconst 3, 1, 0, 0, 0), (30, .iaload, 1, 0, 0, 0), (31, .if_icmp .ge 50, 3, 0, 0, 0), (34, .aload_n 0, 1, 0, 0, 0), (35, .getfield 25, 3, 9, 6, 0), (38, .iload_n 1, 1, 0, 0, 0), (39, .iaload, 1, 0, 0, 0),
  (40, .iconst 1, 1, 0, 0, 0), (41, .if_icmp .ne 34, 3, 0, 0, 0), (44, .aload_n 0, 1, 0, 0, 0), (45, .getfield 49, 3, 9, 18, 0), (48, .sipush 1000, 3, 0, 0, 0), (51, .aload_n 0, 1, 0, 0, 0), (52, .getfield 16, 3, 9, 3, 0), (55, .iload_n 1, 1, 0, 0, 0),
  (56, .iaload, 1, 0, 0, 0), (57, .imul, 1, 0, 0, 0), (58, .aload_n 0, 1, 0, 0, 0), (59, .getfield 28, 3, 9, 7, 0), (62, .iload_n 1, 1, 0, 0, 0), (63, .iaload, 1, 0, 0, 0), (64, .iadd, 1, 0, 0, 0), (65, .dup2, 1, 0, 0, 0),
  (66, .iaload, 1, 0, 0, 0), (67, .aload_n 0, 1, 0, 0, 0), (68, .getfield 34, 3, 9, 9, 0), (71, .iload_n 1, 1, 0, 0, 0), (72, .iaload, 1, 0, 0, 0), (73, .iadd, 1, 0, 0, 0), (74, .iastore, 1, 0, 0, 0), (75, .iinc 1 1, 3, 0, 0, 0),
  (78, .goto (-54), 3, 0, 0, 0), (81, .return_, 1, 0, 0, 0)])
def mm60 : ma_M := (⟨RC9, "publish", "()V"⟩, prog_11_method_30_code, 2, none, 0, 9, [
  (0, .iconst 0, 1, 0, 0, 0), (1, .istore_n 1, 1, 0, 0, 0), (2, .iload_n 1, 1, 0, 0, 0), (3, .aload_n 0, 1, 0, 0, 0), (4, .getfield 7, 3, 9, 1, 0), (7, .iconst 3, 1, 0, 0, 0), (8, .iaload, 1, 0, 0, 0), (9, .if_icmp .ge 50, 3, 0, 0, 0),
  (12, .aload_n 0, 1, 0, 0, 0), (13, .getfield 25, 3, 9, 6, 0), (16, .iload_n 1, 1, 0, 0, 0), (17, .iaload, 1, 0, 0, 0), (18, .iconst 1, 1, 0, 0, 0), (19, .if_icmp .ne 34, 3, 0, 0, 0), (22, .aload_n 0, 1, 0, 0, 0), (23, .getfield 49, 3, 9, 18, 0),
  (26, .sipush 1000, 3, 0, 0, 0), (29, .aload_n 0, 1, 0, 0, 0), (30, .getfield 16, 3, 9, 3, 0), (33, .iload_n 1, 1, 0, 0, 0), (34, .iaload, 1, 0, 0, 0), (35, .imul, 1, 0, 0, 0), (36, .aload_n 0, 1, 0, 0, 0), (37, .getfield 28, 3, 9, 7, 0),
  (40, .iload_n 1, 1, 0, 0, 0), (41, .iaload, 1, 0, 0, 0), (42, .iadd, 1, 0, 0, 0), (43, .dup2, 1, 0, 0, 0), (44, .iaload, 1, 0, 0, 0), (45, .aload_n 0, 1, 0, 0, 0), (46, .getfield 34, 3, 9, 9, 0), (49, .iload_n 1, 1, 0, 0, 0),
  (50, .iaload, 1, 0, 0, 0), (51, .isub, 1, 0, 0, 0), (52, .iastore, 1, 0, 0, 0), (53, .iinc 1 1, 3, 0, 0, 0), (56, .goto (-54), 3, 0, 0, 0), (59, .iconst 0, 1, 0, 0, 0), (60, .istore_n 1, 1, 0, 0, 0), (61, .iload_n 1, 1, 0, 0, 0),
  (62, .sipush 2000, 3, 0, 0, 0), (65, .if_icmp .ge 67, 3, 0, 0, 0), (68, .aload_n 0, 1, 0, 0, 0), (69, .getfield 49, 3, 9, 18, 0), (72, .iload_n 1, 1, 0, 0, 0), (73, .iaload, 1, 0, 0, 0), (74, .ifCond .eq 52, 3, 0, 0, 0), (77, .aload_n 0, 1, 0, 0, 0),
  (78, .getfield 55, 3, 9, 20, 0), (81, .aload_n 0, 1, 0, 0, 0), (82, .getfield 149, 3, 9, 22, 0), (85, .bipush 64, 2, 0, 0, 0), (87, .irem, 1, 0, 0, 0), (88, .iload_n 1, 1, 0, 0, 0), (89, .iastore, 1, 0, 0, 0), (90, .aload_n 0, 1, 0, 0, 0),
  (91, .getfield 58, 3, 9, 21, 0), (94, .aload_n 0, 1, 0, 0, 0), (95, .getfield 149, 3, 9, 22, 0), (98, .bipush 64, 2, 0, 0, 0), (100, .irem, 1, 0, 0, 0), (101, .aload_n 0, 1, 0, 0, 0), (102, .iload_n 1, 1, 0, 0, 0), (103, .sipush 1000, 3, 0, 0, 0),
  (106, .idiv, 1, 0, 0, 0), (107, .iload_n 1, 1, 0, 0, 0), (108, .sipush 1000, 3, 0, 0, 0), (111, .irem, 1, 0, 0, 0), (112, .invokevirtual 152, 3, 68, 3, 9), (115, .iastore, 1, 0, 0, 0), (116, .aload_n 0, 1, 0, 0, 0), (117, .dup, 1, 0, 0, 0),
  (118, .getfield 149, 3, 9, 22, 0), (121, .iconst 1, 1, 0, 0, 0), (122, .iadd, 1, 0, 0, 0), (123, .putfield 149, 3, 9, 22, 0), (126, .iinc 1 1, 3, 0, 0, 0), (129, .goto (-68), 3, 0, 0, 0), (132, .return_, 1, 0, 0, 0)])
def mm61 : ma_M := (⟨RC9, "begin", "(II)I"⟩, prog_11_method_31_code, 3, some .int, 2, 9, [
  (0, .iload_n 1, 1, 0, 0, 0), (1, .iconst 0, 1, 0, 0, 0), (2, .iconst 3, 1, 0, 0, 0), (3, .invokestatic 155, 3, 44, 3, 0), (6, .ifCond .ne 5, 3, 0, 0, 0), (9, .iconst (-1), 1, 0, 0, 0), (10, .ireturn, 1, 0, 0, 0), (11, .iload_n 2, 1, 0, 0, 0),
  (12, .aload_n 0, 1, 0, 0, 0), (13, .getfield 7, 3, 9, 1, 0), (16, .iconst 4, 1, 0, 0, 0), (17, .iload_n 1, 1, 0, 0, 0), (18, .iadd, 1, 0, 0, 0), (19, .iaload, 1, 0, 0, 0), (20, .if_icmp .eq 23, 3, 0, 0, 0), (23, .iload_n 2, 1, 0, 0, 0),
  (24, .aload_n 0, 1, 0, 0, 0), (25, .getfield 7, 3, 9, 1, 0), (28, .iconst 4, 1, 0, 0, 0), (29, .iload_n 1, 1, 0, 0, 0), (30, .iadd, 1, 0, 0, 0), (31, .iaload, 1, 0, 0, 0), (32, .if_icmp .le 8, 3, 0, 0, 0), (35, .bipush (-2), 2, 0, 0, 0),
  (37, .goto 5, 3, 0, 0, 0), (40, .bipush (-3), 2, 0, 0, 0), (42, .ireturn, 1, 0, 0, 0), (43, .aload_n 0, 1, 0, 0, 0), (44, .getfield 7, 3, 9, 1, 0), (47, .iconst 4, 1, 0, 0, 0), (48, .iload_n 1, 1, 0, 0, 0), (49, .iadd, 1, 0, 0, 0),
  (50, .dup2, 1, 0, 0, 0), (51, .iaload, 1, 0, 0, 0), (52, .iconst 1, 1, 0, 0, 0), (53, .iadd, 1, 0, 0, 0), (54, .iastore, 1, 0, 0, 0), (55, .aload_n 0, 1, 0, 0, 0), (56, .invokevirtual 159, 3, 69, 1, 9), (59, .iconst 0, 1, 0, 0, 0),
  (60, .ireturn, 1, 0, 0, 0)])
def mm62 : ma_M := (⟨RC9, "reject", "(I)I"⟩, prog_11_method_32_code, 2, some .int, 1, 9, [
  (0, .aload_n 0, 1, 0, 0, 0), (1, .iload_n 1, 1, 0, 0, 0), (2, .iconst 4, 1, 0, 0, 0), (3, .iconst (-1), 1, 0, 0, 0), (4, .iconst 0, 1, 0, 0, 0), (5, .iconst 0, 1, 0, 0, 0), (6, .invokevirtual 76, 3, 48, 6, 9), (9, .aload_n 0, 1, 0, 0, 0),
  (10, .bipush (-4), 2, 0, 0, 0), (12, .invokevirtual 162, 3, 73, 2, 9), (15, .ireturn, 1, 0, 0, 0)])
def mm63 : ma_M := (⟨RC9, "end", "(I)I"⟩, prog_11_method_33_code, 2, some .int, 1, 9, [
  (0, .aload_n 0, 1, 0, 0, 0), (1, .invokevirtual 165, 3, 62, 1, 9), (4, .aload_n 0, 1, 0, 0, 0), (5, .invokevirtual 168, 3, 70, 1, 9), (8, .iload_n 1, 1, 0, 0, 0), (9, .ireturn, 1, 0, 0, 0)])
def mm64 : ma_M := (⟨RC9, "extra", "(II)I"⟩, prog_11_method_34_code, 4, some .int, 2, 9, [
  (0, .iload_n 1, 1, 0, 0, 0), (1, .iconst 0, 1, 0, 0, 0), (2, .iconst 3, 1, 0, 0, 0), (3, .invokestatic 155, 3, 44, 3, 0), (6, .ifCond .ne 5, 3, 0, 0, 0), (9, .iconst (-1), 1, 0, 0, 0), (10, .ireturn, 1, 0, 0, 0), (11, .aload_n 0, 1, 0, 0, 0),
  (12, .getfield 7, 3, 9, 1, 0), (15, .bipush 8, 2, 0, 0, 0), (17, .iload_n 1, 1, 0, 0, 0), (18, .iadd, 1, 0, 0, 0), (19, .iaload, 1, 0, 0, 0), (20, .istore_n 3, 1, 0, 0, 0), (21, .aload_n 0, 1, 0, 0, 0), (22, .getfield 7, 3, 9, 1, 0),
  (25, .bipush 8, 2, 0, 0, 0), (27, .iload_n 1, 1, 0, 0, 0), (28, .iadd, 1, 0, 0, 0), (29, .iload_n 2, 1, 0, 0, 0), (30, .iastore, 1, 0, 0, 0), (31, .iload_n 3, 1, 0, 0, 0), (32, .ireturn, 1, 0, 0, 0)])
def mm65 : ma_M := (⟨RC9, "good", "(IIII)Z"⟩, prog_11_method_35_code, 6, some .boolean, 4, 9, [
  (0, .iload_n 1, 1, 0, 0, 0), (1, .iconst 0, 1, 0, 0, 0), (2, .iconst 5, 1, 0, 0, 0), (3, .invokestatic 155, 3, 44, 3, 0), (6, .ifCond .eq 35, 3, 0, 0, 0), (9, .iload_n 2, 1, 0, 0, 0), (10, .iconst 1, 1, 0, 0, 0), (11, .sipush 1000, 3, 0, 0, 0),
  (14, .invokestatic 155, 3, 44, 3, 0), (17, .ifCond .eq 24, 3, 0, 0, 0), (20, .iload_n 1, 1, 0, 0, 0), (21, .iconst 1, 1, 0, 0, 0), (22, .if_icmp .eq 21, 3, 0, 0, 0), (25, .iload_n 1, 1, 0, 0, 0), (26, .iconst 4, 1, 0, 0, 0), (27, .if_icmp .eq 16, 3, 0, 0, 0),
  (30, .iload_n 3, 1, 0, 0, 0), (31, .iconst 1, 1, 0, 0, 0), (32, .sipush 999, 3, 0, 0, 0), (35, .invokestatic 155, 3, 44, 3, 0), (38, .ifCond .ne 5, 3, 0, 0, 0), (41, .iconst 0, 1, 0, 0, 0), (42, .ireturn, 1, 0, 0, 0), (43, .iload_n 1, 1, 0, 0, 0),
  (44, .iconst 4, 1, 0, 0, 0), (45, .if_icmp .ne 15, 3, 0, 0, 0), (48, .iload 4, 2, 0, 0, 0), (50, .iconst 1, 1, 0, 0, 0), (51, .sipush 999, 3, 0, 0, 0), (54, .invokestatic 155, 3, 44, 3, 0), (57, .ifCond .eq 27, 3, 0, 0, 0), (60, .iload_n 1, 1, 0, 0, 0),
  (61, .iconst 5, 1, 0, 0, 0), (62, .if_icmp .ne 24, 3, 0, 0, 0), (65, .iload 4, 2, 0, 0, 0), (67, .iconst 1, 1, 0, 0, 0), (68, .iload_n 2, 1, 0, 0, 0), (69, .invokestatic 155, 3, 44, 3, 0), (72, .ifCond .eq 12, 3, 0, 0, 0), (75, .bipush 10, 2, 0, 0, 0),
  (77, .iload 4, 2, 0, 0, 0), (79, .imul, 1, 0, 0, 0), (80, .iload_n 2, 1, 0, 0, 0), (81, .if_icmp .ge 5, 3, 0, 0, 0), (84, .iconst 0, 1, 0, 0, 0), (85, .ireturn, 1, 0, 0, 0), (86, .iload_n 1, 1, 0, 0, 0), (87, .iconst 1, 1, 0, 0, 0),
  (88, .if_icmp .lt 12, 3, 0, 0, 0), (91, .iload_n 1, 1, 0, 0, 0), (92, .iconst 3, 1, 0, 0, 0), (93, .if_icmp .gt 7, 3, 0, 0, 0), (96, .iconst 1, 1, 0, 0, 0), (97, .goto 4, 3, 0, 0, 0), (100, .iconst 0, 1, 0, 0, 0), (101, .istore 5, 2, 0, 0, 0),
  (103, .aload_n 0, 1, 0, 0, 0), (104, .getfield 7, 3, 9, 1, 0), (107, .iconst 0, 1, 0, 0, 0), (108, .iaload, 1, 0, 0, 0), (109, .ifCond .eq 40, 3, 0, 0, 0), (112, .aload_n 0, 1, 0, 0, 0), (113, .invokevirtual 117, 3, 46, 1, 9), (116, .ifCond .eq 8, 3, 0, 0, 0),
  (119, .iload 5, 2, 0, 0, 0), (121, .ifCond .ne 28, 3, 0, 0, 0), (124, .aload_n 0, 1, 0, 0, 0), (125, .invokevirtual 171, 3, 47, 1, 9), (128, .bipush 40, 2, 0, 0, 0), (130, .if_icmp .ge 19, 3, 0, 0, 0), (133, .aload_n 0, 1, 0, 0, 0), (134, .getfield 7, 3, 9, 1, 0),
  (137, .iconst 3, 1, 0, 0, 0), (138, .iaload, 1, 0, 0, 0), (139, .sipush 200, 3, 0, 0, 0), (142, .if_icmp .ge 7, 3, 0, 0, 0), (145, .iconst 1, 1, 0, 0, 0), (146, .goto 4, 3, 0, 0, 0), (149, .iconst 0, 1, 0, 0, 0), (150, .ireturn, 1, 0, 0, 0)])
def mm66 : ma_M := (⟨RC9, "order", "(IIIII)I"⟩, prog_11_method_36_code, 10, some .int, 5, 9, [
  (0, .aload_n 0, 1, 0, 0, 0), (1, .iload_n 1, 1, 0, 0, 0), (2, .iload_n 2, 1, 0, 0, 0), (3, .invokevirtual 174, 3, 71, 3, 9), (6, .istore 6, 2, 0, 0, 0), (8, .iload 6, 2, 0, 0, 0), (10, .ifCond .eq 6, 3, 0, 0, 0), (13, .iload 6, 2, 0, 0, 0),
  (15, .ireturn, 1, 0, 0, 0), (16, .iload_n 3, 1, 0, 0, 0), (17, .iconst 0, 1, 0, 0, 0), (18, .bipush 11, 2, 0, 0, 0), (20, .invokestatic 155, 3, 44, 3, 0), (23, .ifCond .eq 9, 3, 0, 0, 0), (26, .iload_n 3, 1, 0, 0, 0), (27, .iconst 2, 1, 0, 0, 0),
  (28, .idiv, 1, 0, 0, 0), (29, .goto 4, 3, 0, 0, 0), (32, .iconst (-1), 1, 0, 0, 0), (33, .istore 7, 2, 0, 0, 0), (35, .aload_n 0, 1, 0, 0, 0), (36, .getfield 7, 3, 9, 1, 0), (39, .bipush 8, 2, 0, 0, 0), (41, .iload_n 1, 1, 0, 0, 0),
  (42, .iadd, 1, 0, 0, 0), (43, .iaload, 1, 0, 0, 0), (44, .istore 8, 2, 0, 0, 0), (46, .aload_n 0, 1, 0, 0, 0), (47, .iload 7, 2, 0, 0, 0), (49, .iload 4, 2, 0, 0, 0), (51, .iload 5, 2, 0, 0, 0), (53, .iload 8, 2, 0, 0, 0),
  (55, .invokevirtual 177, 3, 75, 5, 9), (58, .ifCond .ne 9, 3, 0, 0, 0), (61, .aload_n 0, 1, 0, 0, 0), (62, .iload_n 1, 1, 0, 0, 0), (63, .invokevirtual 181, 3, 72, 2, 9), (66, .ireturn, 1, 0, 0, 0), (67, .aload_n 0, 1, 0, 0, 0), (68, .getfield 7, 3, 9, 1, 0),
  (71, .iconst 3, 1, 0, 0, 0), (72, .iaload, 1, 0, 0, 0), (73, .istore 9, 2, 0, 0, 0), (75, .aload_n 0, 1, 0, 0, 0), (76, .getfield 7, 3, 9, 1, 0), (79, .iconst 3, 1, 0, 0, 0), (80, .dup2, 1, 0, 0, 0), (81, .iaload, 1, 0, 0, 0),
  (82, .iconst 1, 1, 0, 0, 0), (83, .iadd, 1, 0, 0, 0), (84, .iastore, 1, 0, 0, 0), (85, .aload_n 0, 1, 0, 0, 0), (86, .getfield 13, 3, 9, 2, 0), (89, .iload 9, 2, 0, 0, 0), (91, .iload_n 1, 1, 0, 0, 0), (92, .iastore, 1, 0, 0, 0),
  (93, .aload_n 0, 1, 0, 0, 0), (94, .getfield 16, 3, 9, 3, 0), (97, .iload 9, 2, 0, 0, 0), (99, .iload_n 3, 1, 0, 0, 0), (100, .iconst 2, 1, 0, 0, 0), (101, .irem, 1, 0, 0, 0), (102, .iastore, 1, 0, 0, 0), (103, .aload_n 0, 1, 0, 0, 0),
  (104, .getfield 19, 3, 9, 4, 0), (107, .iload 9, 2, 0, 0, 0), (109, .iload 7, 2, 0, 0, 0), (111, .iastore, 1, 0, 0, 0), (112, .aload_n 0, 1, 0, 0, 0), (113, .getfield 22, 3, 9, 5, 0), (116, .iload 9, 2, 0, 0, 0), (118, .iload 4, 2, 0, 0, 0),
  (120, .iastore, 1, 0, 0, 0), (121, .aload_n 0, 1, 0, 0, 0), (122, .getfield 25, 3, 9, 6, 0), (125, .iload 9, 2, 0, 0, 0), (127, .iconst 0, 1, 0, 0, 0), (128, .iastore, 1, 0, 0, 0), (129, .aload_n 0, 1, 0, 0, 0), (130, .getfield 28, 3, 9, 7, 0),
  (133, .iload 9, 2, 0, 0, 0), (135, .iload 7, 2, 0, 0, 0), (137, .iconst 4, 1, 0, 0, 0), (138, .if_icmp .ne 8, 3, 0, 0, 0), (141, .iload 8, 2, 0, 0, 0), (143, .goto 5, 3, 0, 0, 0), (146, .iload 5, 2, 0, 0, 0), (148, .iastore, 1, 0, 0, 0),
  (149, .aload_n 0, 1, 0, 0, 0), (150, .getfield 31, 3, 9, 8, 0), (153, .iload 9, 2, 0, 0, 0), (155, .iload 7, 2, 0, 0, 0), (157, .iconst 5, 1, 0, 0, 0), (158, .if_icmp .ne 8, 3, 0, 0, 0), (161, .iload 8, 2, 0, 0, 0), (163, .goto 6, 3, 0, 0, 0),
  (166, .sipush 1000, 3, 0, 0, 0), (169, .iastore, 1, 0, 0, 0), (170, .aload_n 0, 1, 0, 0, 0), (171, .getfield 34, 3, 9, 9, 0), (174, .iload 9, 2, 0, 0, 0), (176, .iconst 0, 1, 0, 0, 0), (177, .iastore, 1, 0, 0, 0), (178, .aload_n 0, 1, 0, 0, 0),
  (179, .iload_n 1, 1, 0, 0, 0), (180, .iconst 1, 1, 0, 0, 0), (181, .iload 9, 2, 0, 0, 0), (183, .iload 4, 2, 0, 0, 0), (185, .aload_n 0, 1, 0, 0, 0), (186, .iload 9, 2, 0, 0, 0), (188, .invokevirtual 73, 3, 49, 2, 9), (191, .invokevirtual 76, 3, 48, 6, 9),
  (194, .aload_n 0, 1, 0, 0, 0), (195, .iload 9, 2, 0, 0, 0), (197, .invokevirtual 184, 3, 60, 2, 9), (200, .aload_n 0, 1, 0, 0, 0), (201, .iload 9, 2, 0, 0, 0), (203, .invokevirtual 162, 3, 73, 2, 9), (206, .ireturn, 1, 0, 0, 0)])
def mm67 : ma_M := (⟨RC9, "isOwn", "(II)Z"⟩, prog_11_method_37_code, 3, some .boolean, 2, 9, [
  (0, .iload_n 2, 1, 0, 0, 0), (1, .iconst 0, 1, 0, 0, 0), (2, .aload_n 0, 1, 0, 0, 0), (3, .getfield 7, 3, 9, 1, 0), (6, .iconst 3, 1, 0, 0, 0), (7, .iaload, 1, 0, 0, 0), (8, .iconst 1, 1, 0, 0, 0), (9, .isub, 1, 0, 0, 0),
  (10, .invokestatic 155, 3, 44, 3, 0), (13, .ifCond .eq 26, 3, 0, 0, 0), (16, .aload_n 0, 1, 0, 0, 0), (17, .getfield 25, 3, 9, 6, 0), (20, .iload_n 2, 1, 0, 0, 0), (21, .iaload, 1, 0, 0, 0), (22, .ifCond .eq 17, 3, 0, 0, 0), (25, .aload_n 0, 1, 0, 0, 0),
  (26, .getfield 13, 3, 9, 2, 0), (29, .iload_n 2, 1, 0, 0, 0), (30, .iaload, 1, 0, 0, 0), (31, .iload_n 1, 1, 0, 0, 0), (32, .if_icmp .ne 7, 3, 0, 0, 0), (35, .iconst 1, 1, 0, 0, 0), (36, .goto 4, 3, 0, 0, 0), (39, .iconst 0, 1, 0, 0, 0),
  (40, .ireturn, 1, 0, 0, 0)])
def mm68 : ma_M := (⟨RC9, "cancel", "(III)I"⟩, prog_11_method_38_code, 5, some .int, 3, 9, [
  (0, .aload_n 0, 1, 0, 0, 0), (1, .iload_n 1, 1, 0, 0, 0), (2, .iload_n 2, 1, 0, 0, 0), (3, .invokevirtual 174, 3, 71, 3, 9), (6, .istore 4, 2, 0, 0, 0), (8, .iload 4, 2, 0, 0, 0), (10, .ifCond .eq 6, 3, 0, 0, 0), (13, .iload 4, 2, 0, 0, 0),
  (15, .ireturn, 1, 0, 0, 0), (16, .aload_n 0, 1, 0, 0, 0), (17, .iload_n 1, 1, 0, 0, 0), (18, .iload_n 3, 1, 0, 0, 0), (19, .invokevirtual 187, 3, 77, 3, 9), (22, .ifCond .ne 9, 3, 0, 0, 0), (25, .aload_n 0, 1, 0, 0, 0), (26, .iload_n 1, 1, 0, 0, 0),
  (27, .invokevirtual 181, 3, 72, 2, 9), (30, .ireturn, 1, 0, 0, 0), (31, .aload_n 0, 1, 0, 0, 0), (32, .iload_n 3, 1, 0, 0, 0), (33, .invokevirtual 111, 3, 51, 2, 9), (36, .aload_n 0, 1, 0, 0, 0), (37, .iconst 0, 1, 0, 0, 0), (38, .invokevirtual 162, 3, 73, 2, 9),
  (41, .ireturn, 1, 0, 0, 0)])
def mm69 : ma_M := (⟨RC9, "replace", "(IIIII)I"⟩, prog_11_method_39_code, 8, some .int, 5, 9, [
  (0, .aload_n 0, 1, 0, 0, 0), (1, .iload_n 1, 1, 0, 0, 0), (2, .iload_n 2, 1, 0, 0, 0), (3, .invokevirtual 174, 3, 71, 3, 9), (6, .istore 6, 2, 0, 0, 0), (8, .iload 6, 2, 0, 0, 0), (10, .ifCond .eq 6, 3, 0, 0, 0), (13, .iload 6, 2, 0, 0, 0),
  (15, .ireturn, 1, 0, 0, 0), (16, .aload_n 0, 1, 0, 0, 0), (17, .iload_n 1, 1, 0, 0, 0), (18, .iload_n 3, 1, 0, 0, 0), (19, .invokevirtual 187, 3, 77, 3, 9), (22, .ifCond .eq 37, 3, 0, 0, 0), (25, .aload_n 0, 1, 0, 0, 0), (26, .getfield 25, 3, 9, 6, 0),
  (29, .iload_n 3, 1, 0, 0, 0), (30, .iaload, 1, 0, 0, 0), (31, .iconst 1, 1, 0, 0, 0), (32, .if_icmp .ne 27, 3, 0, 0, 0), (35, .iload 4, 2, 0, 0, 0), (37, .iconst 1, 1, 0, 0, 0), (38, .sipush 1000, 3, 0, 0, 0), (41, .invokestatic 155, 3, 44, 3, 0),
  (44, .ifCond .eq 15, 3, 0, 0, 0), (47, .iload 5, 2, 0, 0, 0), (49, .iconst 1, 1, 0, 0, 0), (50, .sipush 999, 3, 0, 0, 0), (53, .invokestatic 155, 3, 44, 3, 0), (56, .ifCond .ne 9, 3, 0, 0, 0), (59, .aload_n 0, 1, 0, 0, 0), (60, .iload_n 1, 1, 0, 0, 0),
  (61, .invokevirtual 181, 3, 72, 2, 9), (64, .ireturn, 1, 0, 0, 0), (65, .aload_n 0, 1, 0, 0, 0), (66, .getfield 19, 3, 9, 4, 0), (69, .iload_n 3, 1, 0, 0, 0), (70, .iaload, 1, 0, 0, 0), (71, .iconst 5, 1, 0, 0, 0), (72, .if_icmp .ne 23, 3, 0, 0, 0),
  (75, .bipush 10, 2, 0, 0, 0), (77, .aload_n 0, 1, 0, 0, 0), (78, .getfield 31, 3, 9, 8, 0), (81, .iload_n 3, 1, 0, 0, 0), (82, .iaload, 1, 0, 0, 0), (83, .imul, 1, 0, 0, 0), (84, .iload 4, 2, 0, 0, 0), (86, .if_icmp .ge 9, 3, 0, 0, 0),
  (89, .aload_n 0, 1, 0, 0, 0), (90, .iload_n 1, 1, 0, 0, 0), (91, .invokevirtual 181, 3, 72, 2, 9), (94, .ireturn, 1, 0, 0, 0), (95, .aload_n 0, 1, 0, 0, 0), (96, .iload_n 1, 1, 0, 0, 0), (97, .iconst 5, 1, 0, 0, 0), (98, .iload_n 3, 1, 0, 0, 0),
  (99, .iload 4, 2, 0, 0, 0), (101, .iload 5, 2, 0, 0, 0), (103, .invokevirtual 76, 3, 48, 6, 9), (106, .iload 5, 2, 0, 0, 0), (108, .aload_n 0, 1, 0, 0, 0), (109, .getfield 28, 3, 9, 7, 0), (112, .iload_n 3, 1, 0, 0, 0), (113, .iaload, 1, 0, 0, 0),
  (114, .if_icmp .ne 18, 3, 0, 0, 0), (117, .iload 4, 2, 0, 0, 0), (119, .aload_n 0, 1, 0, 0, 0), (120, .getfield 22, 3, 9, 5, 0), (123, .iload_n 3, 1, 0, 0, 0), (124, .iaload, 1, 0, 0, 0), (125, .if_icmp .gt 7, 3, 0, 0, 0), (128, .iconst 1, 1, 0, 0, 0),
  (129, .goto 4, 3, 0, 0, 0), (132, .iconst 0, 1, 0, 0, 0), (133, .istore 7, 2, 0, 0, 0), (135, .aload_n 0, 1, 0, 0, 0), (136, .getfield 22, 3, 9, 5, 0), (139, .iload_n 3, 1, 0, 0, 0), (140, .iload 4, 2, 0, 0, 0), (142, .iastore, 1, 0, 0, 0),
  (143, .aload_n 0, 1, 0, 0, 0), (144, .getfield 28, 3, 9, 7, 0), (147, .iload_n 3, 1, 0, 0, 0), (148, .iload 5, 2, 0, 0, 0), (150, .iastore, 1, 0, 0, 0), (151, .iload 7, 2, 0, 0, 0), (153, .ifCond .eq 23, 3, 0, 0, 0), (156, .aload_n 0, 1, 0, 0, 0),
  (157, .getfield 34, 3, 9, 9, 0), (160, .iload_n 3, 1, 0, 0, 0), (161, .aload_n 0, 1, 0, 0, 0), (162, .getfield 34, 3, 9, 9, 0), (165, .iload_n 3, 1, 0, 0, 0), (166, .iaload, 1, 0, 0, 0), (167, .iload 4, 2, 0, 0, 0), (169, .invokestatic 88, 3, 43, 2, 0),
  (172, .iastore, 1, 0, 0, 0), (173, .goto 22, 3, 0, 0, 0), (176, .aload_n 0, 1, 0, 0, 0), (177, .getfield 25, 3, 9, 6, 0), (180, .iload_n 3, 1, 0, 0, 0), (181, .iconst 0, 1, 0, 0, 0), (182, .iastore, 1, 0, 0, 0), (183, .aload_n 0, 1, 0, 0, 0),
  (184, .getfield 34, 3, 9, 9, 0), (187, .iload_n 3, 1, 0, 0, 0), (188, .iconst 0, 1, 0, 0, 0), (189, .iastore, 1, 0, 0, 0), (190, .aload_n 0, 1, 0, 0, 0), (191, .iload_n 3, 1, 0, 0, 0), (192, .invokevirtual 184, 3, 60, 2, 9), (195, .aload_n 0, 1, 0, 0, 0),
  (196, .iconst 0, 1, 0, 0, 0), (197, .invokevirtual 162, 3, 73, 2, 9), (200, .ireturn, 1, 0, 0, 0)])
def mm70 : ma_M := (⟨RC9, "isStep", "(II)Z"⟩, prog_11_method_40_code, 2, some .boolean, 2, 99, [
  (0, .iload_n 0, 1, 0, 0, 0), (1, .ifCond .ne 8, 3, 0, 0, 0), (4, .iload_n 1, 1, 0, 0, 0), (5, .iconst 1, 1, 0, 0, 0), (6, .if_icmp .eq 47, 3, 0, 0, 0), (9, .iload_n 0, 1, 0, 0, 0), (10, .iconst 1, 1, 0, 0, 0), (11, .if_icmp .ne 8, 3, 0, 0, 0),
  (14, .iload_n 1, 1, 0, 0, 0), (15, .iconst 2, 1, 0, 0, 0), (16, .if_icmp .eq 37, 3, 0, 0, 0), (19, .iload_n 0, 1, 0, 0, 0), (20, .iconst 2, 1, 0, 0, 0), (21, .if_icmp .ne 13, 3, 0, 0, 0), (24, .iload_n 1, 1, 0, 0, 0), (25, .iconst 3, 1, 0, 0, 0),
  (26, .if_icmp .eq 27, 3, 0, 0, 0), (29, .iload_n 1, 1, 0, 0, 0), (30, .iconst 4, 1, 0, 0, 0), (31, .if_icmp .eq 22, 3, 0, 0, 0), (34, .iload_n 0, 1, 0, 0, 0), (35, .iconst 4, 1, 0, 0, 0), (36, .if_icmp .ne 8, 3, 0, 0, 0), (39, .iload_n 1, 1, 0, 0, 0),
  (40, .iconst 2, 1, 0, 0, 0), (41, .if_icmp .eq 12, 3, 0, 0, 0), (44, .iload_n 0, 1, 0, 0, 0), (45, .iconst 3, 1, 0, 0, 0), (46, .if_icmp .ne 11, 3, 0, 0, 0), (49, .iload_n 1, 1, 0, 0, 0), (50, .ifCond .ne 7, 3, 0, 0, 0), (53, .iconst 1, 1, 0, 0, 0),
  (54, .goto 4, 3, 0, 0, 0), (57, .iconst 0, 1, 0, 0, 0), (58, .ireturn, 1, 0, 0, 0)])
def mm71 : ma_M := (⟨RC9, "phase", "(I)Z"⟩, prog_11_method_41_code, 3, some .boolean, 1, 9, [
  (0, .aload_n 0, 1, 0, 0, 0), (1, .getfield 7, 3, 9, 1, 0), (4, .iconst 0, 1, 0, 0, 0), (5, .iaload, 1, 0, 0, 0), (6, .iload_n 1, 1, 0, 0, 0), (7, .invokestatic 190, 3, 80, 2, 0), (10, .ifCond .ne 5, 3, 0, 0, 0), (13, .iconst 0, 1, 0, 0, 0),
  (14, .ireturn, 1, 0, 0, 0), (15, .aload_n 0, 1, 0, 0, 0), (16, .invokevirtual 159, 3, 69, 1, 9), (19, .aload_n 0, 1, 0, 0, 0), (20, .invokevirtual 117, 3, 46, 1, 9), (23, .ifCond .eq 7, 3, 0, 0, 0), (26, .aload_n 0, 1, 0, 0, 0), (27, .invokevirtual 193, 3, 67, 1, 9),
  (30, .aload_n 0, 1, 0, 0, 0), (31, .getfield 7, 3, 9, 1, 0), (34, .iconst 0, 1, 0, 0, 0), (35, .iload_n 1, 1, 0, 0, 0), (36, .iastore, 1, 0, 0, 0), (37, .iconst 0, 1, 0, 0, 0), (38, .istore_n 2, 1, 0, 0, 0), (39, .iload_n 2, 1, 0, 0, 0),
  (40, .aload_n 0, 1, 0, 0, 0), (41, .getfield 7, 3, 9, 1, 0), (44, .iconst 3, 1, 0, 0, 0), (45, .iaload, 1, 0, 0, 0), (46, .if_icmp .ge 27, 3, 0, 0, 0), (49, .iload_n 1, 1, 0, 0, 0), (50, .ifCond .ne 23, 3, 0, 0, 0), (53, .aload_n 0, 1, 0, 0, 0),
  (54, .getfield 25, 3, 9, 6, 0), (57, .iload_n 2, 1, 0, 0, 0), (58, .iaload, 1, 0, 0, 0), (59, .ifCond .eq 8, 3, 0, 0, 0), (62, .aload_n 0, 1, 0, 0, 0), (63, .iload_n 2, 1, 0, 0, 0), (64, .invokevirtual 111, 3, 51, 2, 9), (67, .iinc 2 1, 3, 0, 0, 0),
  (70, .goto (-31), 3, 0, 0, 0), (73, .aload_n 0, 1, 0, 0, 0), (74, .iconst 0, 1, 0, 0, 0), (75, .invokevirtual 162, 3, 73, 2, 9), (78, .istore_n 2, 1, 0, 0, 0), (79, .iload_n 2, 1, 0, 0, 0), (80, .ifCond .ne 7, 3, 0, 0, 0), (83, .iconst 1, 1, 0, 0, 0),
  (84, .goto 4, 3, 0, 0, 0), (87, .iconst 0, 1, 0, 0, 0), (88, .ireturn, 1, 0, 0, 0)])
def mm72 : ma_M := (⟨RC9, "save", "()I"⟩, prog_11_method_42_code, 1, some .int, 0, 9, [
  (0, .aload_n 0, 1, 0, 0, 0), (1, .iconst 0, 1, 0, 0, 0), (2, .iconst 1, 1, 0, 0, 0), (3, .invokevirtual 69, 3, 45, 3, 9), (6, .aload_n 0, 1, 0, 0, 0), (7, .getfield 7, 3, 9, 1, 0), (10, .iconst 3, 1, 0, 0, 0), (11, .iaload, 1, 0, 0, 0),
  (12, .ireturn, 1, 0, 0, 0)])
def mm73 : ma_M := (⟨RC9, "crash", "()I"⟩, prog_11_method_43_code, 1, some .int, 0, 9, [
  (0, .aload_n 0, 1, 0, 0, 0), (1, .invokevirtual 159, 3, 69, 1, 9), (4, .aload_n 0, 1, 0, 0, 0), (5, .iconst 1, 1, 0, 0, 0), (6, .iconst 0, 1, 0, 0, 0), (7, .invokevirtual 69, 3, 45, 3, 9), (10, .aload_n 0, 1, 0, 0, 0), (11, .invokevirtual 168, 3, 70, 1, 9),
  (14, .aload_n 0, 1, 0, 0, 0), (15, .getfield 7, 3, 9, 1, 0), (18, .iconst 3, 1, 0, 0, 0), (19, .iaload, 1, 0, 0, 0), (20, .ireturn, 1, 0, 0, 0)])
def mm74 : ma_M := (⟨RC9, "market", "(I)I"⟩, prog_11_method_44_code, 2, some .int, 1, 9, [
  (0, .iload_n 1, 1, 0, 0, 0), (1, .iconst 4, 1, 0, 0, 0), (2, .if_icmp .lt 13, 3, 0, 0, 0), (5, .iload_n 1, 1, 0, 0, 0), (6, .bipush 6, 2, 0, 0, 0), (8, .if_icmp .gt 7, 3, 0, 0, 0), (11, .aload_n 0, 1, 0, 0, 0), (12, .invokevirtual 143, 3, 65, 1, 9),
  (15, .iload_n 1, 1, 0, 0, 0), (16, .tableswitch 71 0 6 #[44, 44, 44, 51, 56, 61, 66], 44, 0, 0, 0), (60, .aload_n 0, 1, 0, 0, 0), (61, .getfield 7, 3, 9, 1, 0), (64, .iload_n 1, 1, 0, 0, 0), (65, .iaload, 1, 0, 0, 0), (66, .ireturn, 1, 0, 0, 0), (67, .aload_n 0, 1, 0, 0, 0),
  (68, .invokevirtual 171, 3, 47, 1, 9), (71, .ireturn, 1, 0, 0, 0), (72, .aload_n 0, 1, 0, 0, 0), (73, .getfield 137, 3, 9, 15, 0), (76, .ireturn, 1, 0, 0, 0), (77, .aload_n 0, 1, 0, 0, 0), (78, .getfield 131, 3, 9, 16, 0), (81, .ireturn, 1, 0, 0, 0),
  (82, .aload_n 0, 1, 0, 0, 0), (83, .getfield 134, 3, 9, 17, 0), (86, .ireturn, 1, 0, 0, 0), (87, .iconst (-1), 1, 0, 0, 0), (88, .ireturn, 1, 0, 0, 0)])
def mm75 : ma_M := (⟨RC9, "isLevel", "(II)Z"⟩, prog_11_method_45_code, 2, some .boolean, 2, 99, [
  (0, .iload_n 0, 1, 0, 0, 0), (1, .iconst 0, 1, 0, 0, 0), (2, .iconst 1, 1, 0, 0, 0), (3, .invokestatic 155, 3, 44, 3, 0), (6, .ifCond .eq 18, 3, 0, 0, 0), (9, .iload_n 1, 1, 0, 0, 0), (10, .iconst 1, 1, 0, 0, 0), (11, .sipush 999, 3, 0, 0, 0),
  (14, .invokestatic 155, 3, 44, 3, 0), (17, .ifCond .eq 7, 3, 0, 0, 0), (20, .iconst 1, 1, 0, 0, 0), (21, .goto 4, 3, 0, 0, 0), (24, .iconst 0, 1, 0, 0, 0), (25, .ireturn, 1, 0, 0, 0)])
def mm76 : ma_M := (⟨RC9, "shown", "(II)I"⟩, prog_11_method_46_code, 3, some .int, 2, 9, [
  (0, .iload_n 1, 1, 0, 0, 0), (1, .iload_n 2, 1, 0, 0, 0), (2, .invokestatic 196, 3, 85, 2, 0), (5, .ifCond .eq 12, 3, 0, 0, 0), (8, .aload_n 0, 1, 0, 0, 0), (9, .iload_n 1, 1, 0, 0, 0), (10, .iload_n 2, 1, 0, 0, 0), (11, .invokevirtual 152, 3, 68, 3, 9),
  (14, .goto 4, 3, 0, 0, 0), (17, .iconst 0, 1, 0, 0, 0), (18, .ireturn, 1, 0, 0, 0)])
def mm77 : ma_M := (⟨RC9, "best", "(I)I"⟩, prog_11_method_47_code, 3, some .int, 1, 9, [
  (0, .iload_n 1, 1, 0, 0, 0), (1, .iconst 0, 1, 0, 0, 0), (2, .iconst 1, 1, 0, 0, 0), (3, .invokestatic 155, 3, 44, 3, 0), (6, .ifCond .eq 12, 3, 0, 0, 0), (9, .aload_n 0, 1, 0, 0, 0), (10, .iload_n 1, 1, 0, 0, 0), (11, .iconst (-1), 1, 0, 0, 0),
  (12, .invokevirtual 95, 3, 54, 3, 9), (15, .goto 4, 3, 0, 0, 0), (18, .iconst (-1), 1, 0, 0, 0), (19, .istore_n 2, 1, 0, 0, 0), (20, .iload_n 2, 1, 0, 0, 0), (21, .ifCond .ge 7, 3, 0, 0, 0), (24, .iconst 0, 1, 0, 0, 0), (25, .goto 9, 3, 0, 0, 0),
  (28, .aload_n 0, 1, 0, 0, 0), (29, .getfield 28, 3, 9, 7, 0), (32, .iload_n 2, 1, 0, 0, 0), (33, .iaload, 1, 0, 0, 0), (34, .ireturn, 1, 0, 0, 0)])
def mm78 : ma_M := (⟨RC9, "placeOf", "(I)I"⟩, prog_11_method_48_code, 4, some .int, 1, 9, [
  (0, .iconst 0, 1, 0, 0, 0), (1, .istore_n 2, 1, 0, 0, 0), (2, .iconst 0, 1, 0, 0, 0), (3, .istore_n 3, 1, 0, 0, 0), (4, .iload_n 3, 1, 0, 0, 0), (5, .aload_n 0, 1, 0, 0, 0), (6, .getfield 7, 3, 9, 1, 0), (9, .iconst 3, 1, 0, 0, 0),
  (10, .iaload, 1, 0, 0, 0), (11, .if_icmp .ge 56, 3, 0, 0, 0), (14, .iload_n 2, 1, 0, 0, 0), (15, .aload_n 0, 1, 0, 0, 0), (16, .getfield 25, 3, 9, 6, 0), (19, .iload_n 3, 1, 0, 0, 0), (20, .iaload, 1, 0, 0, 0), (21, .iconst 1, 1, 0, 0, 0),
  (22, .if_icmp .ne 36, 3, 0, 0, 0), (25, .aload_n 0, 1, 0, 0, 0), (26, .getfield 16, 3, 9, 3, 0), (29, .iload_n 3, 1, 0, 0, 0), (30, .iaload, 1, 0, 0, 0), (31, .aload_n 0, 1, 0, 0, 0), (32, .getfield 16, 3, 9, 3, 0), (35, .iload_n 1, 1, 0, 0, 0),
  (36, .iaload, 1, 0, 0, 0), (37, .if_icmp .ne 21, 3, 0, 0, 0), (40, .iload_n 3, 1, 0, 0, 0), (41, .iload_n 1, 1, 0, 0, 0), (42, .if_icmp .eq 16, 3, 0, 0, 0), (45, .aload_n 0, 1, 0, 0, 0), (46, .iload_n 3, 1, 0, 0, 0), (47, .iload_n 1, 1, 0, 0, 0),
  (48, .invokevirtual 84, 3, 53, 3, 9), (51, .ifCond .eq 7, 3, 0, 0, 0), (54, .iconst 1, 1, 0, 0, 0), (55, .goto 4, 3, 0, 0, 0), (58, .iconst 0, 1, 0, 0, 0), (59, .iadd, 1, 0, 0, 0), (60, .istore_n 2, 1, 0, 0, 0), (61, .iinc 3 1, 3, 0, 0, 0),
  (64, .goto (-60), 3, 0, 0, 0), (67, .iload_n 2, 1, 0, 0, 0), (68, .ireturn, 1, 0, 0, 0)])
def mm79 : ma_M := (⟨RC9, "about", "(II)I"⟩, prog_11_method_49_code, 3, some .int, 2, 9, [
  (0, .iload_n 1, 1, 0, 0, 0), (1, .iconst 0, 1, 0, 0, 0), (2, .aload_n 0, 1, 0, 0, 0), (3, .getfield 7, 3, 9, 1, 0), (6, .iconst 3, 1, 0, 0, 0), (7, .iaload, 1, 0, 0, 0), (8, .iconst 1, 1, 0, 0, 0), (9, .isub, 1, 0, 0, 0),
  (10, .invokestatic 155, 3, 44, 3, 0), (13, .ifCond .ne 5, 3, 0, 0, 0), (16, .iconst (-1), 1, 0, 0, 0), (17, .ireturn, 1, 0, 0, 0), (18, .iload_n 2, 1, 0, 0, 0), (19, .tableswitch 105 0 5 #[37, 44, 51, 71, 78, 85], 37, 0, 0, 0), (56, .aload_n 0, 1, 0, 0, 0), (57, .getfield 25, 3, 9, 6, 0),
  (60, .iload_n 1, 1, 0, 0, 0), (61, .iaload, 1, 0, 0, 0), (62, .ireturn, 1, 0, 0, 0), (63, .aload_n 0, 1, 0, 0, 0), (64, .getfield 22, 3, 9, 5, 0), (67, .iload_n 1, 1, 0, 0, 0), (68, .iaload, 1, 0, 0, 0), (69, .ireturn, 1, 0, 0, 0),
  (70, .aload_n 0, 1, 0, 0, 0), (71, .getfield 25, 3, 9, 6, 0), (74, .iload_n 1, 1, 0, 0, 0), (75, .iaload, 1, 0, 0, 0), (76, .ifCond .ne 7, 3, 0, 0, 0), (79, .iconst 0, 1, 0, 0, 0), (80, .goto 9, 3, 0, 0, 0), (83, .aload_n 0, 1, 0, 0, 0),
  (84, .getfield 28, 3, 9, 7, 0), (87, .iload_n 1, 1, 0, 0, 0), (88, .iaload, 1, 0, 0, 0), (89, .ireturn, 1, 0, 0, 0), (90, .aload_n 0, 1, 0, 0, 0), (91, .getfield 34, 3, 9, 9, 0), (94, .iload_n 1, 1, 0, 0, 0), (95, .iaload, 1, 0, 0, 0),
  (96, .ireturn, 1, 0, 0, 0), (97, .aload_n 0, 1, 0, 0, 0), (98, .getfield 13, 3, 9, 2, 0), (101, .iload_n 1, 1, 0, 0, 0), (102, .iaload, 1, 0, 0, 0), (103, .ireturn, 1, 0, 0, 0), (104, .aload_n 0, 1, 0, 0, 0), (105, .getfield 25, 3, 9, 6, 0),
  (108, .iload_n 1, 1, 0, 0, 0), (109, .iaload, 1, 0, 0, 0), (110, .iconst 1, 1, 0, 0, 0), (111, .if_icmp .ne 11, 3, 0, 0, 0), (114, .aload_n 0, 1, 0, 0, 0), (115, .iload_n 1, 1, 0, 0, 0), (116, .invokevirtual 199, 3, 88, 2, 9), (119, .goto 4, 3, 0, 0, 0),
  (122, .iconst (-1), 1, 0, 0, 0), (123, .ireturn, 1, 0, 0, 0), (124, .iconst (-1), 1, 0, 0, 0), (125, .ireturn, 1, 0, 0, 0)])
def mm80 : ma_M := (⟨RC9, "session", "(II)I"⟩, prog_11_method_50_code, 3, some .int, 2, 9, [
  (0, .iload_n 1, 1, 0, 0, 0), (1, .iconst 0, 1, 0, 0, 0), (2, .iconst 3, 1, 0, 0, 0), (3, .invokestatic 155, 3, 44, 3, 0), (6, .ifCond .eq 12, 3, 0, 0, 0), (9, .iload_n 2, 1, 0, 0, 0), (10, .iconst 0, 1, 0, 0, 0), (11, .iconst 1, 1, 0, 0, 0),
  (12, .invokestatic 155, 3, 44, 3, 0), (15, .ifCond .ne 7, 3, 0, 0, 0), (18, .iconst (-1), 1, 0, 0, 0), (19, .goto 20, 3, 0, 0, 0), (22, .aload_n 0, 1, 0, 0, 0), (23, .getfield 7, 3, 9, 1, 0), (26, .iload_n 2, 1, 0, 0, 0), (27, .ifCond .ne 7, 3, 0, 0, 0),
  (30, .iconst 4, 1, 0, 0, 0), (31, .goto 5, 3, 0, 0, 0), (34, .bipush 12, 2, 0, 0, 0), (36, .iload_n 1, 1, 0, 0, 0), (37, .iadd, 1, 0, 0, 0), (38, .iaload, 1, 0, 0, 0), (39, .ireturn, 1, 0, 0, 0)])
def mm81 : ma_M := (⟨RC9, "report", "(III)I"⟩, prog_11_method_51_code, 5, some .int, 3, 9, [
  (0, .iload_n 1, 1, 0, 0, 0), (1, .iconst 0, 1, 0, 0, 0), (2, .iconst 3, 1, 0, 0, 0), (3, .invokestatic 155, 3, 44, 3, 0), (6, .ifCond .eq 35, 3, 0, 0, 0), (9, .iload_n 2, 1, 0, 0, 0), (10, .iconst 0, 1, 0, 0, 0), (11, .bipush 31, 2, 0, 0, 0),
  (13, .invokestatic 155, 3, 44, 3, 0), (16, .ifCond .eq 25, 3, 0, 0, 0), (19, .iload_n 3, 1, 0, 0, 0), (20, .iconst 0, 1, 0, 0, 0), (21, .iconst 3, 1, 0, 0, 0), (22, .invokestatic 155, 3, 44, 3, 0), (25, .ifCond .eq 16, 3, 0, 0, 0), (28, .iload_n 2, 1, 0, 0, 0),
  (29, .aload_n 0, 1, 0, 0, 0), (30, .getfield 7, 3, 9, 1, 0), (33, .bipush 12, 2, 0, 0, 0), (35, .iload_n 1, 1, 0, 0, 0), (36, .iadd, 1, 0, 0, 0), (37, .iaload, 1, 0, 0, 0), (38, .if_icmp .lt 5, 3, 0, 0, 0), (41, .iconst (-1), 1, 0, 0, 0),
  (42, .ireturn, 1, 0, 0, 0), (43, .aload_n 0, 1, 0, 0, 0), (44, .getfield 7, 3, 9, 1, 0), (47, .bipush 12, 2, 0, 0, 0), (49, .iload_n 1, 1, 0, 0, 0), (50, .iadd, 1, 0, 0, 0), (51, .iaload, 1, 0, 0, 0), (52, .iconst 1, 1, 0, 0, 0),
  (53, .isub, 1, 0, 0, 0), (54, .iload_n 2, 1, 0, 0, 0), (55, .isub, 1, 0, 0, 0), (56, .istore 4, 2, 0, 0, 0), (58, .aload_n 0, 1, 0, 0, 0), (59, .getfield 40, 3, 9, 12, 0), (62, .sipush 128, 3, 0, 0, 0), (65, .iload_n 1, 1, 0, 0, 0),
  (66, .imul, 1, 0, 0, 0), (67, .iconst 4, 1, 0, 0, 0), (68, .iload 4, 2, 0, 0, 0), (70, .bipush 32, 2, 0, 0, 0), (72, .irem, 1, 0, 0, 0), (73, .imul, 1, 0, 0, 0), (74, .iadd, 1, 0, 0, 0), (75, .iload_n 3, 1, 0, 0, 0),
  (76, .iadd, 1, 0, 0, 0), (77, .iaload, 1, 0, 0, 0), (78, .ireturn, 1, 0, 0, 0)])
def mm82 : ma_M := (⟨RC9, "feed", "()I"⟩, prog_11_method_52_code, 1, some .int, 0, 9, [
  (0, .aload_n 0, 1, 0, 0, 0), (1, .getfield 149, 3, 9, 22, 0), (4, .ireturn, 1, 0, 0, 0)])
def mm83 : ma_M := (⟨RC9, "take", "(I)I"⟩, prog_11_method_53_code, 2, some .int, 1, 9, [
  (0, .iload_n 1, 1, 0, 0, 0), (1, .ifCond .lt 22, 3, 0, 0, 0), (4, .iload_n 1, 1, 0, 0, 0), (5, .aload_n 0, 1, 0, 0, 0), (6, .getfield 149, 3, 9, 22, 0), (9, .if_icmp .ge 14, 3, 0, 0, 0), (12, .iload_n 1, 1, 0, 0, 0), (13, .aload_n 0, 1, 0, 0, 0),
  (14, .getfield 149, 3, 9, 22, 0), (17, .bipush 64, 2, 0, 0, 0), (19, .isub, 1, 0, 0, 0), (20, .if_icmp .ge 5, 3, 0, 0, 0), (23, .iconst (-1), 1, 0, 0, 0), (24, .ireturn, 1, 0, 0, 0), (25, .iload_n 1, 1, 0, 0, 0), (26, .aload_n 0, 1, 0, 0, 0),
  (27, .getfield 202, 3, 9, 23, 0), (30, .if_icmp .eq 18, 3, 0, 0, 0), (33, .iload_n 1, 1, 0, 0, 0), (34, .aload_n 0, 1, 0, 0, 0), (35, .getfield 202, 3, 9, 23, 0), (38, .if_icmp .ge 7, 3, 0, 0, 0), (41, .iconst 0, 1, 0, 0, 0), (42, .goto 5, 3, 0, 0, 0),
  (45, .bipush (-2), 2, 0, 0, 0), (47, .ireturn, 1, 0, 0, 0), (48, .aload_n 0, 1, 0, 0, 0), (49, .getfield 52, 3, 9, 19, 0), (52, .aload_n 0, 1, 0, 0, 0), (53, .getfield 55, 3, 9, 20, 0), (56, .iload_n 1, 1, 0, 0, 0), (57, .bipush 64, 2, 0, 0, 0),
  (59, .irem, 1, 0, 0, 0), (60, .iaload, 1, 0, 0, 0), (61, .aload_n 0, 1, 0, 0, 0), (62, .getfield 58, 3, 9, 21, 0), (65, .iload_n 1, 1, 0, 0, 0), (66, .bipush 64, 2, 0, 0, 0), (68, .irem, 1, 0, 0, 0), (69, .iaload, 1, 0, 0, 0),
  (70, .iastore, 1, 0, 0, 0), (71, .aload_n 0, 1, 0, 0, 0), (72, .dup, 1, 0, 0, 0), (73, .getfield 202, 3, 9, 23, 0), (76, .iconst 1, 1, 0, 0, 0), (77, .iadd, 1, 0, 0, 0), (78, .putfield 202, 3, 9, 23, 0), (81, .iconst 1, 1, 0, 0, 0),
  (82, .ireturn, 1, 0, 0, 0)])
def mm84 : ma_M := (⟨RC9, "refresh", "()I"⟩, prog_11_method_54_code, 2, some .int, 0, 9, [
  (0, .iconst 0, 1, 0, 0, 0), (1, .istore_n 1, 1, 0, 0, 0), (2, .iload_n 1, 1, 0, 0, 0), (3, .sipush 2000, 3, 0, 0, 0), (6, .if_icmp .ge 16, 3, 0, 0, 0), (9, .aload_n 0, 1, 0, 0, 0), (10, .getfield 52, 3, 9, 19, 0), (13, .iload_n 1, 1, 0, 0, 0),
  (14, .iconst 0, 1, 0, 0, 0), (15, .iastore, 1, 0, 0, 0), (16, .iinc 1 1, 3, 0, 0, 0), (19, .goto (-17), 3, 0, 0, 0), (22, .iconst 0, 1, 0, 0, 0), (23, .istore_n 1, 1, 0, 0, 0), (24, .iload_n 1, 1, 0, 0, 0), (25, .aload_n 0, 1, 0, 0, 0),
  (26, .getfield 7, 3, 9, 1, 0), (29, .iconst 3, 1, 0, 0, 0), (30, .iaload, 1, 0, 0, 0), (31, .if_icmp .ge 50, 3, 0, 0, 0), (34, .aload_n 0, 1, 0, 0, 0), (35, .getfield 25, 3, 9, 6, 0), (38, .iload_n 1, 1, 0, 0, 0), (39, .iaload, 1, 0, 0, 0),
  (40, .iconst 1, 1, 0, 0, 0), (41, .if_icmp .ne 34, 3, 0, 0, 0), (44, .aload_n 0, 1, 0, 0, 0), (45, .getfield 52, 3, 9, 19, 0), (48, .sipush 1000, 3, 0, 0, 0), (51, .aload_n 0, 1, 0, 0, 0), (52, .getfield 16, 3, 9, 3, 0), (55, .iload_n 1, 1, 0, 0, 0),
  (56, .iaload, 1, 0, 0, 0), (57, .imul, 1, 0, 0, 0), (58, .aload_n 0, 1, 0, 0, 0), (59, .getfield 28, 3, 9, 7, 0), (62, .iload_n 1, 1, 0, 0, 0), (63, .iaload, 1, 0, 0, 0), (64, .iadd, 1, 0, 0, 0), (65, .dup2, 1, 0, 0, 0),
  (66, .iaload, 1, 0, 0, 0), (67, .aload_n 0, 1, 0, 0, 0), (68, .getfield 34, 3, 9, 9, 0), (71, .iload_n 1, 1, 0, 0, 0), (72, .iaload, 1, 0, 0, 0), (73, .iadd, 1, 0, 0, 0), (74, .iastore, 1, 0, 0, 0), (75, .iinc 1 1, 3, 0, 0, 0),
  (78, .goto (-54), 3, 0, 0, 0), (81, .aload_n 0, 1, 0, 0, 0), (82, .aload_n 0, 1, 0, 0, 0), (83, .getfield 149, 3, 9, 22, 0), (86, .putfield 202, 3, 9, 23, 0), (89, .aload_n 0, 1, 0, 0, 0), (90, .getfield 202, 3, 9, 23, 0), (93, .ireturn, 1, 0, 0, 0)])
def mm85 : ma_M := (⟨RC9, "seen", "(II)I"⟩, prog_11_method_55_code, 3, some .int, 2, 9, [
  (0, .iload_n 1, 1, 0, 0, 0), (1, .iload_n 2, 1, 0, 0, 0), (2, .invokestatic 196, 3, 85, 2, 0), (5, .ifCond .eq 18, 3, 0, 0, 0), (8, .aload_n 0, 1, 0, 0, 0), (9, .getfield 52, 3, 9, 19, 0), (12, .sipush 1000, 3, 0, 0, 0), (15, .iload_n 1, 1, 0, 0, 0),
  (16, .imul, 1, 0, 0, 0), (17, .iload_n 2, 1, 0, 0, 0), (18, .iadd, 1, 0, 0, 0), (19, .iaload, 1, 0, 0, 0), (20, .goto 4, 3, 0, 0, 0), (23, .iconst 0, 1, 0, 0, 0), (24, .ireturn, 1, 0, 0, 0)])
def mm86 : ma_M := (⟨RC9, "next", "()I"⟩, prog_11_method_56_code, 1, some .int, 0, 9, [
  (0, .aload_n 0, 1, 0, 0, 0), (1, .getfield 202, 3, 9, 23, 0), (4, .ireturn, 1, 0, 0, 0)])
def mm87 : ma_M := (⟨RC1, "<init>", "()V"⟩, prog_2_method_1_code, 1, none, 0, 1, [
  (0, .aload_n 0, 1, 0, 0, 0), (1, .invokespecial 3, 3, 5, 0, 0), (4, .return_, 1, 0, 0, 0)])
def mm88 : ma_M := (⟨RC1, "findPrice", "(LPhaseBook$Book;I)V"⟩, prog_2_method_2_code, 12, none, 2, 1, [
  (0, .aload_n 0, 1, 0, 0, 0), (1, .iconst 0, 1, 0, 0, 0), (2, .putfield 9, 3, 1, 0, 0), (5, .aload_n 0, 1, 0, 0, 0), (6, .iconst 0, 1, 0, 0, 0), (7, .putfield 15, 3, 1, 1, 0), (10, .aload_n 0, 1, 0, 0, 0), (11, .iconst 0, 1, 0, 0, 0),
  (12, .putfield 18, 3, 1, 2, 0), (15, .aload_n 1, 1, 0, 0, 0), (16, .iconst 1, 1, 0, 0, 0), (17, .invokevirtual 21, 3, 107, 2, 2), (20, .istore_n 3, 1, 0, 0, 0), (21, .iload_n 3, 1, 0, 0, 0), (22, .ifCond .ne 4, 3, 0, 0, 0), (25, .return_, 1, 0, 0, 0),
  (26, .aload_n 1, 1, 0, 0, 0), (27, .getfield 27, 3, 2, 9, 0), (30, .iconst 0, 1, 0, 0, 0), (31, .aaload, 1, 0, 0, 0), (32, .astore 4, 2, 0, 0, 0), (34, .aload_n 1, 1, 0, 0, 0), (35, .getfield 27, 3, 2, 9, 0), (38, .iconst 1, 1, 0, 0, 0),
  (39, .aaload, 1, 0, 0, 0), (40, .astore 5, 2, 0, 0, 0), (42, .aload_n 1, 1, 0, 0, 0), (43, .getfield 31, 3, 2, 10, 0), (46, .iconst 0, 1, 0, 0, 0), (47, .iaload, 1, 0, 0, 0), (48, .istore 6, 2, 0, 0, 0), (50, .iconst 0, 1, 0, 0, 0),
  (51, .istore 7, 2, 0, 0, 0), (53, .aload_n 1, 1, 0, 0, 0), (54, .aload 4, 2, 0, 0, 0), (56, .iload 6, 2, 0, 0, 0), (58, .invokestatic 35, 3, 99, 3, 0), (61, .istore 8, 2, 0, 0, 0), (63, .iconst 0, 1, 0, 0, 0), (64, .istore 9, 2, 0, 0, 0),
  (66, .aload_n 1, 1, 0, 0, 0), (67, .iconst 0, 1, 0, 0, 0), (68, .invokevirtual 21, 3, 107, 2, 2), (71, .istore 10, 2, 0, 0, 0), (73, .iload_n 3, 1, 0, 0, 0), (74, .istore 11, 2, 0, 0, 0), (76, .iload 11, 2, 0, 0, 0), (78, .iload 10, 2, 0, 0, 0),
  (80, .if_icmp .gt 110, 3, 0, 0, 0), (83, .iload 6, 2, 0, 0, 0), (85, .ifCond .le 41, 3, 0, 0, 0), (88, .aload_n 1, 1, 0, 0, 0), (89, .getfield 39, 3, 2, 6, 0), (92, .aload 4, 2, 0, 0, 0), (94, .iload 6, 2, 0, 0, 0), (96, .iconst 1, 1, 0, 0, 0),
  (97, .isub, 1, 0, 0, 0), (98, .iaload, 1, 0, 0, 0), (99, .iaload, 1, 0, 0, 0), (100, .iload 11, 2, 0, 0, 0), (102, .if_icmp .ge 24, 3, 0, 0, 0), (105, .iinc 6 (-1), 3, 0, 0, 0), (108, .iload 8, 2, 0, 0, 0), (110, .aload_n 1, 1, 0, 0, 0),
  (111, .getfield 41, 3, 2, 5, 0), (114, .aload 4, 2, 0, 0, 0), (116, .iload 6, 2, 0, 0, 0), (118, .iaload, 1, 0, 0, 0), (119, .iaload, 1, 0, 0, 0), (120, .isub, 1, 0, 0, 0), (121, .istore 8, 2, 0, 0, 0), (123, .goto (-40), 3, 0, 0, 0),
  (126, .iload 7, 2, 0, 0, 0), (128, .aload_n 1, 1, 0, 0, 0), (129, .getfield 31, 3, 2, 10, 0), (132, .iconst 1, 1, 0, 0, 0), (133, .iaload, 1, 0, 0, 0), (134, .if_icmp .ge 39, 3, 0, 0, 0), (137, .aload_n 1, 1, 0, 0, 0), (138, .getfield 39, 3, 2, 6, 0),
  (141, .aload 5, 2, 0, 0, 0), (143, .iload 7, 2, 0, 0, 0), (145, .iaload, 1, 0, 0, 0), (146, .iaload, 1, 0, 0, 0), (147, .iload 11, 2, 0, 0, 0), (149, .if_icmp .gt 24, 3, 0, 0, 0), (152, .iload 9, 2, 0, 0, 0), (154, .aload_n 1, 1, 0, 0, 0),
  (155, .getfield 41, 3, 2, 5, 0), (158, .aload 5, 2, 0, 0, 0), (160, .iload 7, 2, 0, 0, 0), (162, .iaload, 1, 0, 0, 0), (163, .iaload, 1, 0, 0, 0), (164, .iadd, 1, 0, 0, 0), (165, .istore 9, 2, 0, 0, 0), (167, .iinc 7 1, 3, 0, 0, 0),
  (170, .goto (-44), 3, 0, 0, 0), (173, .aload_n 0, 1, 0, 0, 0), (174, .iload 11, 2, 0, 0, 0), (176, .iload 8, 2, 0, 0, 0), (178, .iload 9, 2, 0, 0, 0), (180, .iload_n 2, 1, 0, 0, 0), (181, .invokevirtual 44, 3, 100, 5, 1), (184, .iinc 11 1, 3, 0, 0, 0),
  (187, .goto (-111), 3, 0, 0, 0), (190, .return_, 1, 0, 0, 0)])
def mm89 : ma_M := (⟨RC1, "sumOf", "(LPhaseBook$Book;[II)I"⟩, prog_2_method_3_code, 5, some .int, 3, 99, [
  (0, .iconst 0, 1, 0, 0, 0), (1, .istore_n 3, 1, 0, 0, 0), (2, .iconst 0, 1, 0, 0, 0), (3, .istore 4, 2, 0, 0, 0), (5, .iload 4, 2, 0, 0, 0), (7, .iload_n 2, 1, 0, 0, 0), (8, .if_icmp .ge 21, 3, 0, 0, 0), (11, .iload_n 3, 1, 0, 0, 0),
  (12, .aload_n 0, 1, 0, 0, 0), (13, .getfield 41, 3, 2, 5, 0), (16, .aload_n 1, 1, 0, 0, 0), (17, .iload 4, 2, 0, 0, 0), (19, .iaload, 1, 0, 0, 0), (20, .iaload, 1, 0, 0, 0), (21, .iadd, 1, 0, 0, 0), (22, .istore_n 3, 1, 0, 0, 0),
  (23, .iinc 4 1, 3, 0, 0, 0), (26, .goto (-21), 3, 0, 0, 0), (29, .iload_n 3, 1, 0, 0, 0), (30, .ireturn, 1, 0, 0, 0)])
def mm90 : ma_M := (⟨RC1, "weigh", "(IIII)V"⟩, prog_2_method_4_code, 7, none, 4, 1, [
  (0, .iload_n 2, 1, 0, 0, 0), (1, .iload_n 3, 1, 0, 0, 0), (2, .invokestatic 48, 3, 2, 0, 0), (5, .istore 5, 2, 0, 0, 0), (7, .iload_n 2, 1, 0, 0, 0), (8, .iload_n 3, 1, 0, 0, 0), (9, .isub, 1, 0, 0, 0), (10, .invokestatic 54, 3, 3, 0, 0),
  (13, .istore 6, 2, 0, 0, 0), (15, .aload_n 0, 1, 0, 0, 0), (16, .iload_n 1, 1, 0, 0, 0), (17, .iload 5, 2, 0, 0, 0), (19, .iload 6, 2, 0, 0, 0), (21, .iload 4, 2, 0, 0, 0), (23, .invokevirtual 57, 3, 101, 5, 1), (26, .ifCond .eq 20, 3, 0, 0, 0),
  (29, .aload_n 0, 1, 0, 0, 0), (30, .iload_n 1, 1, 0, 0, 0), (31, .putfield 9, 3, 1, 0, 0), (34, .aload_n 0, 1, 0, 0, 0), (35, .iload 5, 2, 0, 0, 0), (37, .putfield 15, 3, 1, 1, 0), (40, .aload_n 0, 1, 0, 0, 0), (41, .iload 6, 2, 0, 0, 0),
  (43, .putfield 18, 3, 1, 2, 0), (46, .return_, 1, 0, 0, 0)])
def mm91 : ma_M := (⟨RC1, "isBetter", "(IIII)Z"⟩, prog_2_method_5_code, 5, some .boolean, 4, 1, [
  (0, .iload_n 2, 1, 0, 0, 0), (1, .aload_n 0, 1, 0, 0, 0), (2, .getfield 15, 3, 1, 1, 0), (5, .if_icmp .eq 17, 3, 0, 0, 0), (8, .iload_n 2, 1, 0, 0, 0), (9, .aload_n 0, 1, 0, 0, 0), (10, .getfield 15, 3, 1, 1, 0), (13, .if_icmp .le 7, 3, 0, 0, 0),
  (16, .iconst 1, 1, 0, 0, 0), (17, .goto 4, 3, 0, 0, 0), (20, .iconst 0, 1, 0, 0, 0), (21, .ireturn, 1, 0, 0, 0), (22, .iload_n 3, 1, 0, 0, 0), (23, .aload_n 0, 1, 0, 0, 0), (24, .getfield 18, 3, 1, 2, 0), (27, .if_icmp .eq 17, 3, 0, 0, 0),
  (30, .iload_n 3, 1, 0, 0, 0), (31, .aload_n 0, 1, 0, 0, 0), (32, .getfield 18, 3, 1, 2, 0), (35, .if_icmp .ge 7, 3, 0, 0, 0), (38, .iconst 1, 1, 0, 0, 0), (39, .goto 4, 3, 0, 0, 0), (42, .iconst 0, 1, 0, 0, 0), (43, .ireturn, 1, 0, 0, 0),
  (44, .iload_n 1, 1, 0, 0, 0), (45, .iload 4, 2, 0, 0, 0), (47, .isub, 1, 0, 0, 0), (48, .invokestatic 54, 3, 3, 0, 0), (51, .aload_n 0, 1, 0, 0, 0), (52, .getfield 9, 3, 1, 0, 0), (55, .iload 4, 2, 0, 0, 0), (57, .isub, 1, 0, 0, 0),
  (58, .invokestatic 54, 3, 3, 0, 0), (61, .if_icmp .gt 7, 3, 0, 0, 0), (64, .iconst 1, 1, 0, 0, 0), (65, .goto 4, 3, 0, 0, 0), (68, .iconst 0, 1, 0, 0, 0), (69, .ireturn, 1, 0, 0, 0)])
def mm92 : ma_M := (⟨RC2, "<init>", "()V"⟩, prog_3_method_1_code, 1, none, 0, 2, [
  (0, .aload_n 0, 1, 0, 0, 0), (1, .invokespecial 3, 3, 5, 0, 0), (4, .aload_n 0, 1, 0, 0, 0), (5, .sipush 200, 3, 0, 0, 0), (8, .newarray .int, 2, 0, 0, 0), (10, .putfield 9, 3, 2, 1, 0), (13, .aload_n 0, 1, 0, 0, 0), (14, .sipush 200, 3, 0, 0, 0),
  (17, .newarray .int, 2, 0, 0, 0), (19, .putfield 15, 3, 2, 2, 0), (22, .aload_n 0, 1, 0, 0, 0), (23, .sipush 200, 3, 0, 0, 0), (26, .newarray .int, 2, 0, 0, 0), (28, .putfield 18, 3, 2, 3, 0), (31, .aload_n 0, 1, 0, 0, 0), (32, .sipush 200, 3, 0, 0, 0),
  (35, .newarray .int, 2, 0, 0, 0), (37, .putfield 21, 3, 2, 4, 0), (40, .aload_n 0, 1, 0, 0, 0), (41, .sipush 200, 3, 0, 0, 0), (44, .newarray .int, 2, 0, 0, 0), (46, .putfield 24, 3, 2, 5, 0), (49, .aload_n 0, 1, 0, 0, 0), (50, .sipush 200, 3, 0, 0, 0),
  (53, .newarray .int, 2, 0, 0, 0), (55, .putfield 27, 3, 2, 6, 0), (58, .aload_n 0, 1, 0, 0, 0), (59, .sipush 200, 3, 0, 0, 0), (62, .newarray .int, 2, 0, 0, 0), (64, .putfield 30, 3, 2, 7, 0), (67, .aload_n 0, 1, 0, 0, 0), (68, .sipush 200, 3, 0, 0, 0),
  (71, .newarray .int, 2, 0, 0, 0), (73, .putfield 33, 3, 2, 8, 0), (76, .aload_n 0, 1, 0, 0, 0), (77, .iconst 2, 1, 0, 0, 0), (78, .bipush 40, 2, 0, 0, 0), (80, .multianewarray 36 2, 4, 0, 0, 0), (84, .putfield 38, 3, 2, 9, 0), (87, .aload_n 0, 1, 0, 0, 0),
  (88, .iconst 2, 1, 0, 0, 0), (89, .newarray .int, 2, 0, 0, 0), (91, .putfield 41, 3, 2, 10, 0), (94, .return_, 1, 0, 0, 0)])
def mm93 : ma_M := (⟨RC2, "has", "(I)Z"⟩, prog_3_method_2_code, 2, some .boolean, 1, 2, [
  (0, .iload_n 1, 1, 0, 0, 0), (1, .ifCond .lt 15, 3, 0, 0, 0), (4, .iload_n 1, 1, 0, 0, 0), (5, .aload_n 0, 1, 0, 0, 0), (6, .getfield 44, 3, 2, 0, 0), (9, .if_icmp .ge 7, 3, 0, 0, 0), (12, .iconst 1, 1, 0, 0, 0), (13, .goto 4, 3, 0, 0, 0),
  (16, .iconst 0, 1, 0, 0, 0), (17, .ireturn, 1, 0, 0, 0)])
def mm94 : ma_M := (⟨RC2, "isOf", "(II)Z"⟩, prog_3_method_3_code, 3, some .boolean, 2, 2, [
  (0, .aload_n 0, 1, 0, 0, 0), (1, .iload_n 2, 1, 0, 0, 0), (2, .invokevirtual 48, 3, 103, 2, 2), (5, .ifCond .eq 17, 3, 0, 0, 0), (8, .aload_n 0, 1, 0, 0, 0), (9, .getfield 9, 3, 2, 1, 0), (12, .iload_n 2, 1, 0, 0, 0), (13, .iaload, 1, 0, 0, 0),
  (14, .iload_n 1, 1, 0, 0, 0), (15, .if_icmp .ne 7, 3, 0, 0, 0), (18, .iconst 1, 1, 0, 0, 0), (19, .goto 4, 3, 0, 0, 0), (22, .iconst 0, 1, 0, 0, 0), (23, .ireturn, 1, 0, 0, 0)])
def mm95 : ma_M := (⟨RC2, "countOpen", "()I"⟩, prog_3_method_4_code, 3, some .int, 0, 2, [
  (0, .iconst 0, 1, 0, 0, 0), (1, .istore_n 1, 1, 0, 0, 0), (2, .iconst 0, 1, 0, 0, 0), (3, .istore_n 2, 1, 0, 0, 0), (4, .iload_n 2, 1, 0, 0, 0), (5, .aload_n 0, 1, 0, 0, 0), (6, .getfield 44, 3, 2, 0, 0), (9, .if_icmp .ge 21, 3, 0, 0, 0),
  (12, .aload_n 0, 1, 0, 0, 0), (13, .getfield 21, 3, 2, 4, 0), (16, .iload_n 2, 1, 0, 0, 0), (17, .iaload, 1, 0, 0, 0), (18, .ifCond .eq 6, 3, 0, 0, 0), (21, .iinc 1 1, 3, 0, 0, 0), (24, .iinc 2 1, 3, 0, 0, 0), (27, .goto (-23), 3, 0, 0, 0),
  (30, .iload_n 1, 1, 0, 0, 0), (31, .ireturn, 1, 0, 0, 0)])
def mm96 : ma_M := (⟨RC2, "bestOrder", "(I)I"⟩, prog_3_method_5_code, 2, some .int, 1, 2, [
  (0, .aload_n 0, 1, 0, 0, 0), (1, .getfield 41, 3, 2, 10, 0), (4, .iload_n 1, 1, 0, 0, 0), (5, .iaload, 1, 0, 0, 0), (6, .ifCond .ne 7, 3, 0, 0, 0), (9, .iconst (-1), 1, 0, 0, 0), (10, .goto 11, 3, 0, 0, 0), (13, .aload_n 0, 1, 0, 0, 0),
  (14, .getfield 38, 3, 2, 9, 0), (17, .iload_n 1, 1, 0, 0, 0), (18, .aaload, 1, 0, 0, 0), (19, .iconst 0, 1, 0, 0, 0), (20, .iaload, 1, 0, 0, 0), (21, .ireturn, 1, 0, 0, 0)])
def mm97 : ma_M := (⟨RC2, "bestPrice", "(I)I"⟩, prog_3_method_6_code, 3, some .int, 1, 2, [
  (0, .aload_n 0, 1, 0, 0, 0), (1, .iload_n 1, 1, 0, 0, 0), (2, .invokevirtual 52, 3, 106, 2, 2), (5, .istore_n 2, 1, 0, 0, 0), (6, .iload_n 2, 1, 0, 0, 0), (7, .iconst (-1), 1, 0, 0, 0), (8, .if_icmp .ne 7, 3, 0, 0, 0), (11, .iconst 0, 1, 0, 0, 0),
  (12, .goto 9, 3, 0, 0, 0), (15, .aload_n 0, 1, 0, 0, 0), (16, .getfield 27, 3, 2, 6, 0), (19, .iload_n 2, 1, 0, 0, 0), (20, .iaload, 1, 0, 0, 0), (21, .ireturn, 1, 0, 0, 0)])
def mm98 : ma_M := (⟨RC2, "placeOf", "(I)I"⟩, prog_3_method_7_code, 5, some .int, 1, 2, [
  (0, .aload_n 0, 1, 0, 0, 0), (1, .getfield 38, 3, 2, 9, 0), (4, .aload_n 0, 1, 0, 0, 0), (5, .getfield 15, 3, 2, 2, 0), (8, .iload_n 1, 1, 0, 0, 0), (9, .iaload, 1, 0, 0, 0), (10, .aaload, 1, 0, 0, 0), (11, .astore_n 2, 1, 0, 0, 0),
  (12, .aload_n 0, 1, 0, 0, 0), (13, .getfield 41, 3, 2, 10, 0), (16, .aload_n 0, 1, 0, 0, 0), (17, .getfield 15, 3, 2, 2, 0), (20, .iload_n 1, 1, 0, 0, 0), (21, .iaload, 1, 0, 0, 0), (22, .iaload, 1, 0, 0, 0), (23, .istore_n 3, 1, 0, 0, 0),
  (24, .iconst 0, 1, 0, 0, 0), (25, .istore 4, 2, 0, 0, 0), (27, .iload 4, 2, 0, 0, 0), (29, .iload_n 3, 1, 0, 0, 0), (30, .if_icmp .ge 20, 3, 0, 0, 0), (33, .aload_n 2, 1, 0, 0, 0), (34, .iload 4, 2, 0, 0, 0), (36, .iaload, 1, 0, 0, 0),
  (37, .iload_n 1, 1, 0, 0, 0), (38, .if_icmp .ne 6, 3, 0, 0, 0), (41, .iload 4, 2, 0, 0, 0), (43, .ireturn, 1, 0, 0, 0), (44, .iinc 4 1, 3, 0, 0, 0), (47, .goto (-20), 3, 0, 0, 0), (50, .iconst (-1), 1, 0, 0, 0), (51, .ireturn, 1, 0, 0, 0)])
def mm99 : ma_M := (⟨RC2, "joinLine", "(I)V"⟩, prog_3_method_8_code, 7, none, 1, 2, [
  (0, .aload_n 0, 1, 0, 0, 0), (1, .getfield 15, 3, 2, 2, 0), (4, .iload_n 1, 1, 0, 0, 0), (5, .iaload, 1, 0, 0, 0), (6, .istore_n 2, 1, 0, 0, 0), (7, .aload_n 0, 1, 0, 0, 0), (8, .getfield 38, 3, 2, 9, 0), (11, .iload_n 2, 1, 0, 0, 0),
  (12, .aaload, 1, 0, 0, 0), (13, .astore_n 3, 1, 0, 0, 0), (14, .iload_n 2, 1, 0, 0, 0), (15, .ifCond .ne 7, 3, 0, 0, 0), (18, .iconst 1, 1, 0, 0, 0), (19, .goto 4, 3, 0, 0, 0), (22, .iconst (-1), 1, 0, 0, 0), (23, .istore 4, 2, 0, 0, 0),
  (25, .iload 4, 2, 0, 0, 0), (27, .aload_n 0, 1, 0, 0, 0), (28, .getfield 27, 3, 2, 6, 0), (31, .iload_n 1, 1, 0, 0, 0), (32, .iaload, 1, 0, 0, 0), (33, .imul, 1, 0, 0, 0), (34, .istore 5, 2, 0, 0, 0), (36, .aload_n 0, 1, 0, 0, 0),
  (37, .getfield 41, 3, 2, 10, 0), (40, .iload_n 2, 1, 0, 0, 0), (41, .iaload, 1, 0, 0, 0), (42, .istore 6, 2, 0, 0, 0), (44, .iload 6, 2, 0, 0, 0), (46, .ifCond .le 38, 3, 0, 0, 0), (49, .iload 5, 2, 0, 0, 0), (51, .iload 4, 2, 0, 0, 0),
  (53, .aload_n 0, 1, 0, 0, 0), (54, .getfield 27, 3, 2, 6, 0), (57, .aload_n 3, 1, 0, 0, 0), (58, .iload 6, 2, 0, 0, 0), (60, .iconst 1, 1, 0, 0, 0), (61, .isub, 1, 0, 0, 0), (62, .iaload, 1, 0, 0, 0), (63, .iaload, 1, 0, 0, 0),
  (64, .imul, 1, 0, 0, 0), (65, .if_icmp .le 19, 3, 0, 0, 0), (68, .aload_n 3, 1, 0, 0, 0), (69, .iload 6, 2, 0, 0, 0), (71, .aload_n 3, 1, 0, 0, 0), (72, .iload 6, 2, 0, 0, 0), (74, .iconst 1, 1, 0, 0, 0), (75, .isub, 1, 0, 0, 0),
  (76, .iaload, 1, 0, 0, 0), (77, .iastore, 1, 0, 0, 0), (78, .iinc 6 (-1), 3, 0, 0, 0), (81, .goto (-37), 3, 0, 0, 0), (84, .aload_n 3, 1, 0, 0, 0), (85, .iload 6, 2, 0, 0, 0), (87, .iload_n 1, 1, 0, 0, 0), (88, .iastore, 1, 0, 0, 0),
  (89, .aload_n 0, 1, 0, 0, 0), (90, .getfield 41, 3, 2, 10, 0), (93, .iload_n 2, 1, 0, 0, 0), (94, .dup2, 1, 0, 0, 0), (95, .iaload, 1, 0, 0, 0), (96, .iconst 1, 1, 0, 0, 0), (97, .iadd, 1, 0, 0, 0), (98, .iastore, 1, 0, 0, 0),
  (99, .return_, 1, 0, 0, 0)])
def mm100 : ma_M := (⟨RC2, "leaveLine", "(I)V"⟩, prog_3_method_9_code, 6, none, 1, 2, [
  (0, .aload_n 0, 1, 0, 0, 0), (1, .getfield 15, 3, 2, 2, 0), (4, .iload_n 1, 1, 0, 0, 0), (5, .iaload, 1, 0, 0, 0), (6, .istore_n 2, 1, 0, 0, 0), (7, .aload_n 0, 1, 0, 0, 0), (8, .getfield 38, 3, 2, 9, 0), (11, .iload_n 2, 1, 0, 0, 0),
  (12, .aaload, 1, 0, 0, 0), (13, .astore_n 3, 1, 0, 0, 0), (14, .iconst 0, 1, 0, 0, 0), (15, .istore 4, 2, 0, 0, 0), (17, .iconst 0, 1, 0, 0, 0), (18, .istore 5, 2, 0, 0, 0), (20, .iload 5, 2, 0, 0, 0), (22, .aload_n 0, 1, 0, 0, 0),
  (23, .getfield 41, 3, 2, 10, 0), (26, .iload_n 2, 1, 0, 0, 0), (27, .iaload, 1, 0, 0, 0), (28, .if_icmp .ge 28, 3, 0, 0, 0), (31, .aload_n 3, 1, 0, 0, 0), (32, .iload 5, 2, 0, 0, 0), (34, .iaload, 1, 0, 0, 0), (35, .iload_n 1, 1, 0, 0, 0),
  (36, .if_icmp .eq 14, 3, 0, 0, 0), (39, .aload_n 3, 1, 0, 0, 0), (40, .iload 4, 2, 0, 0, 0), (42, .aload_n 3, 1, 0, 0, 0), (43, .iload 5, 2, 0, 0, 0), (45, .iaload, 1, 0, 0, 0), (46, .iastore, 1, 0, 0, 0), (47, .iinc 4 1, 3, 0, 0, 0),
  (50, .iinc 5 1, 3, 0, 0, 0), (53, .goto (-33), 3, 0, 0, 0), (56, .aload_n 0, 1, 0, 0, 0), (57, .getfield 41, 3, 2, 10, 0), (60, .iload_n 2, 1, 0, 0, 0), (61, .iload 4, 2, 0, 0, 0), (63, .iastore, 1, 0, 0, 0), (64, .return_, 1, 0, 0, 0)])
def mm101 : ma_M := (⟨RC2, "copyFrom", "(LPhaseBook$Book;)V"⟩, prog_3_method_10_code, 3, none, 1, 2, [
  (0, .aload_n 0, 1, 0, 0, 0), (1, .aload_n 1, 1, 0, 0, 0), (2, .getfield 44, 3, 2, 0, 0), (5, .putfield 44, 3, 2, 0, 0), (8, .aload_n 1, 1, 0, 0, 0), (9, .getfield 9, 3, 2, 1, 0), (12, .iconst 0, 1, 0, 0, 0), (13, .aload_n 0, 1, 0, 0, 0),
  (14, .getfield 9, 3, 2, 1, 0), (17, .iconst 0, 1, 0, 0, 0), (18, .aload_n 0, 1, 0, 0, 0), (19, .getfield 44, 3, 2, 0, 0), (22, .invokestatic 56, 3, 4, 0, 0), (25, .aload_n 1, 1, 0, 0, 0), (26, .getfield 15, 3, 2, 2, 0), (29, .iconst 0, 1, 0, 0, 0),
  (30, .aload_n 0, 1, 0, 0, 0), (31, .getfield 15, 3, 2, 2, 0), (34, .iconst 0, 1, 0, 0, 0), (35, .aload_n 0, 1, 0, 0, 0), (36, .getfield 44, 3, 2, 0, 0), (39, .invokestatic 56, 3, 4, 0, 0), (42, .aload_n 1, 1, 0, 0, 0), (43, .getfield 18, 3, 2, 3, 0),
  (46, .iconst 0, 1, 0, 0, 0), (47, .aload_n 0, 1, 0, 0, 0), (48, .getfield 18, 3, 2, 3, 0), (51, .iconst 0, 1, 0, 0, 0), (52, .aload_n 0, 1, 0, 0, 0), (53, .getfield 44, 3, 2, 0, 0), (56, .invokestatic 56, 3, 4, 0, 0), (59, .aload_n 1, 1, 0, 0, 0),
  (60, .getfield 21, 3, 2, 4, 0), (63, .iconst 0, 1, 0, 0, 0), (64, .aload_n 0, 1, 0, 0, 0), (65, .getfield 21, 3, 2, 4, 0), (68, .iconst 0, 1, 0, 0, 0), (69, .aload_n 0, 1, 0, 0, 0), (70, .getfield 44, 3, 2, 0, 0), (73, .invokestatic 56, 3, 4, 0, 0),
  (76, .aload_n 1, 1, 0, 0, 0), (77, .getfield 24, 3, 2, 5, 0), (80, .iconst 0, 1, 0, 0, 0), (81, .aload_n 0, 1, 0, 0, 0), (82, .getfield 24, 3, 2, 5, 0), (85, .iconst 0, 1, 0, 0, 0), (86, .aload_n 0, 1, 0, 0, 0), (87, .getfield 44, 3, 2, 0, 0),
  (90, .invokestatic 56, 3, 4, 0, 0), (93, .aload_n 1, 1, 0, 0, 0), (94, .getfield 27, 3, 2, 6, 0), (97, .iconst 0, 1, 0, 0, 0), (98, .aload_n 0, 1, 0, 0, 0), (99, .getfield 27, 3, 2, 6, 0), (102, .iconst 0, 1, 0, 0, 0), (103, .aload_n 0, 1, 0, 0, 0),
  (104, .getfield 44, 3, 2, 0, 0), (107, .invokestatic 56, 3, 4, 0, 0), (110, .aload_n 1, 1, 0, 0, 0), (111, .getfield 30, 3, 2, 7, 0), (114, .iconst 0, 1, 0, 0, 0), (115, .aload_n 0, 1, 0, 0, 0), (116, .getfield 30, 3, 2, 7, 0), (119, .iconst 0, 1, 0, 0, 0),
  (120, .aload_n 0, 1, 0, 0, 0), (121, .getfield 44, 3, 2, 0, 0), (124, .invokestatic 56, 3, 4, 0, 0), (127, .aload_n 1, 1, 0, 0, 0), (128, .getfield 33, 3, 2, 8, 0), (131, .iconst 0, 1, 0, 0, 0), (132, .aload_n 0, 1, 0, 0, 0), (133, .getfield 33, 3, 2, 8, 0),
  (136, .iconst 0, 1, 0, 0, 0), (137, .aload_n 0, 1, 0, 0, 0), (138, .getfield 44, 3, 2, 0, 0), (141, .invokestatic 56, 3, 4, 0, 0), (144, .iconst 0, 1, 0, 0, 0), (145, .istore_n 2, 1, 0, 0, 0), (146, .iload_n 2, 1, 0, 0, 0), (147, .iconst 2, 1, 0, 0, 0),
  (148, .if_icmp .ge 44, 3, 0, 0, 0), (151, .aload_n 0, 1, 0, 0, 0), (152, .getfield 41, 3, 2, 10, 0), (155, .iload_n 2, 1, 0, 0, 0), (156, .aload_n 1, 1, 0, 0, 0), (157, .getfield 41, 3, 2, 10, 0), (160, .iload_n 2, 1, 0, 0, 0), (161, .iaload, 1, 0, 0, 0),
  (162, .iastore, 1, 0, 0, 0), (163, .aload_n 1, 1, 0, 0, 0), (164, .getfield 38, 3, 2, 9, 0), (167, .iload_n 2, 1, 0, 0, 0), (168, .aaload, 1, 0, 0, 0), (169, .iconst 0, 1, 0, 0, 0), (170, .aload_n 0, 1, 0, 0, 0), (171, .getfield 38, 3, 2, 9, 0),
  (174, .iload_n 2, 1, 0, 0, 0), (175, .aaload, 1, 0, 0, 0), (176, .iconst 0, 1, 0, 0, 0), (177, .aload_n 0, 1, 0, 0, 0), (178, .getfield 41, 3, 2, 10, 0), (181, .iload_n 2, 1, 0, 0, 0), (182, .iaload, 1, 0, 0, 0), (183, .invokestatic 56, 3, 4, 0, 0),
  (186, .iinc 2 1, 3, 0, 0, 0), (189, .goto (-43), 3, 0, 0, 0), (192, .return_, 1, 0, 0, 0)])
def mm102 : ma_M := (⟨RC3, "<init>", "()V"⟩, prog_4_method_1_code, 1, none, 0, 3, [
  (0, .aload_n 0, 1, 0, 0, 0), (1, .invokespecial 3, 3, 5, 0, 0), (4, .aload_n 0, 1, 0, 0, 0), (5, .bipush 64, 2, 0, 0, 0), (7, .newarray .int, 2, 0, 0, 0), (9, .putfield 9, 3, 3, 1, 0), (12, .aload_n 0, 1, 0, 0, 0), (13, .bipush 64, 2, 0, 0, 0),
  (15, .newarray .int, 2, 0, 0, 0), (17, .putfield 15, 3, 3, 2, 0), (20, .aload_n 0, 1, 0, 0, 0), (21, .bipush 64, 2, 0, 0, 0), (23, .newarray .int, 2, 0, 0, 0), (25, .putfield 18, 3, 3, 3, 0), (28, .aload_n 0, 1, 0, 0, 0), (29, .iconst 2, 1, 0, 0, 0),
  (30, .sipush 1000, 3, 0, 0, 0), (33, .multianewarray 21 2, 4, 0, 0, 0), (37, .putfield 23, 3, 3, 4, 0), (40, .return_, 1, 0, 0, 0)])
def mm103 : ma_M := (⟨RC3, "keeps", "(I)Z"⟩, prog_4_method_2_code, 2, some .boolean, 1, 3, [
  (0, .iload_n 1, 1, 0, 0, 0), (1, .ifCond .lt 26, 3, 0, 0, 0), (4, .iload_n 1, 1, 0, 0, 0), (5, .aload_n 0, 1, 0, 0, 0), (6, .getfield 26, 3, 3, 0, 0), (9, .if_icmp .ge 18, 3, 0, 0, 0), (12, .iload_n 1, 1, 0, 0, 0), (13, .aload_n 0, 1, 0, 0, 0),
  (14, .getfield 26, 3, 3, 0, 0), (17, .bipush 64, 2, 0, 0, 0), (19, .isub, 1, 0, 0, 0), (20, .if_icmp .lt 7, 3, 0, 0, 0), (23, .iconst 1, 1, 0, 0, 0), (24, .goto 4, 3, 0, 0, 0), (27, .iconst 0, 1, 0, 0, 0), (28, .ireturn, 1, 0, 0, 0)])
def mm104 : ma_M := (⟨RC3, "tellChanges", "(LPhaseBook$Levels;)V"⟩, prog_4_method_3_code, 6, none, 1, 3, [
  (0, .iconst 0, 1, 0, 0, 0), (1, .istore_n 2, 1, 0, 0, 0), (2, .iload_n 2, 1, 0, 0, 0), (3, .iconst 2, 1, 0, 0, 0), (4, .if_icmp .ge 77, 3, 0, 0, 0), (7, .aload_n 1, 1, 0, 0, 0), (8, .getfield 30, 3, 4, 0, 0), (11, .iload_n 2, 1, 0, 0, 0),
  (12, .aaload, 1, 0, 0, 0), (13, .astore_n 3, 1, 0, 0, 0), (14, .aload_n 1, 1, 0, 0, 0), (15, .getfield 35, 3, 4, 2, 0), (18, .iload_n 2, 1, 0, 0, 0), (19, .iaload, 1, 0, 0, 0), (20, .istore 4, 2, 0, 0, 0), (22, .aload_n 1, 1, 0, 0, 0),
  (23, .getfield 38, 3, 4, 1, 0), (26, .iload_n 2, 1, 0, 0, 0), (27, .iaload, 1, 0, 0, 0), (28, .istore 5, 2, 0, 0, 0), (30, .iload 5, 2, 0, 0, 0), (32, .iload 4, 2, 0, 0, 0), (34, .if_icmp .gt 36, 3, 0, 0, 0), (37, .aload_n 3, 1, 0, 0, 0),
  (38, .iload 5, 2, 0, 0, 0), (40, .iaload, 1, 0, 0, 0), (41, .aload_n 0, 1, 0, 0, 0), (42, .getfield 23, 3, 3, 4, 0), (45, .iload_n 2, 1, 0, 0, 0), (46, .aaload, 1, 0, 0, 0), (47, .iload 5, 2, 0, 0, 0), (49, .iaload, 1, 0, 0, 0),
  (50, .if_icmp .eq 14, 3, 0, 0, 0), (53, .aload_n 0, 1, 0, 0, 0), (54, .iload_n 2, 1, 0, 0, 0), (55, .iload 5, 2, 0, 0, 0), (57, .aload_n 3, 1, 0, 0, 0), (58, .iload 5, 2, 0, 0, 0), (60, .iaload, 1, 0, 0, 0), (61, .invokevirtual 41, 3, 115, 4, 3),
  (64, .iinc 5 1, 3, 0, 0, 0), (67, .goto (-37), 3, 0, 0, 0), (70, .aload_n 1, 1, 0, 0, 0), (71, .iload_n 2, 1, 0, 0, 0), (72, .invokevirtual 45, 3, 119, 2, 4), (75, .iinc 2 1, 3, 0, 0, 0), (78, .goto (-76), 3, 0, 0, 0), (81, .return_, 1, 0, 0, 0)])
def mm105 : ma_M := (⟨RC3, "tell", "(III)V"⟩, prog_4_method_4_code, 5, none, 3, 3, [
  (0, .aload_n 0, 1, 0, 0, 0), (1, .getfield 26, 3, 3, 0, 0), (4, .invokestatic 49, 3, 116, 1, 0), (7, .istore 4, 2, 0, 0, 0), (9, .aload_n 0, 1, 0, 0, 0), (10, .getfield 9, 3, 3, 1, 0), (13, .iload 4, 2, 0, 0, 0), (15, .iload_n 1, 1, 0, 0, 0),
  (16, .iastore, 1, 0, 0, 0), (17, .aload_n 0, 1, 0, 0, 0), (18, .getfield 15, 3, 3, 2, 0), (21, .iload 4, 2, 0, 0, 0), (23, .iload_n 2, 1, 0, 0, 0), (24, .iastore, 1, 0, 0, 0), (25, .aload_n 0, 1, 0, 0, 0), (26, .getfield 18, 3, 3, 3, 0),
  (29, .iload 4, 2, 0, 0, 0), (31, .iload_n 3, 1, 0, 0, 0), (32, .iastore, 1, 0, 0, 0), (33, .aload_n 0, 1, 0, 0, 0), (34, .getfield 23, 3, 3, 4, 0), (37, .iload_n 1, 1, 0, 0, 0), (38, .aaload, 1, 0, 0, 0), (39, .iload_n 2, 1, 0, 0, 0),
  (40, .iload_n 3, 1, 0, 0, 0), (41, .iastore, 1, 0, 0, 0), (42, .aload_n 0, 1, 0, 0, 0), (43, .dup, 1, 0, 0, 0), (44, .getfield 26, 3, 3, 0, 0), (47, .iconst 1, 1, 0, 0, 0), (48, .iadd, 1, 0, 0, 0), (49, .putfield 26, 3, 3, 0, 0),
  (52, .return_, 1, 0, 0, 0)])
def mm106 : ma_M := (⟨RC3, "slotOf", "(I)I"⟩, prog_4_method_5_code, 1, some .int, 1, 99, [
  (0, .iload_n 0, 1, 0, 0, 0), (1, .bipush 64, 2, 0, 0, 0), (3, .invokestatic 53, 3, 161, 2, 0), (6, .ireturn, 1, 0, 0, 0)])
def mm107 : ma_M := (⟨RC4, "<init>", "()V"⟩, prog_5_method_1_code, 1, none, 0, 4, [
  (0, .aload_n 0, 1, 0, 0, 0), (1, .invokespecial 3, 3, 5, 0, 0), (4, .aload_n 0, 1, 0, 0, 0), (5, .iconst 2, 1, 0, 0, 0), (6, .sipush 1000, 3, 0, 0, 0), (9, .multianewarray 9 2, 4, 0, 0, 0), (13, .putfield 11, 3, 4, 0, 0), (16, .aload_n 0, 1, 0, 0, 0),
  (17, .iconst 2, 1, 0, 0, 0), (18, .newarray .int, 2, 0, 0, 0), (20, .dup, 1, 0, 0, 0), (21, .iconst 0, 1, 0, 0, 0), (22, .sipush 1000, 3, 0, 0, 0), (25, .iastore, 1, 0, 0, 0), (26, .dup, 1, 0, 0, 0), (27, .iconst 1, 1, 0, 0, 0),
  (28, .sipush 1000, 3, 0, 0, 0), (31, .iastore, 1, 0, 0, 0), (32, .putfield 16, 3, 4, 1, 0), (35, .aload_n 0, 1, 0, 0, 0), (36, .iconst 2, 1, 0, 0, 0), (37, .newarray .int, 2, 0, 0, 0), (39, .putfield 20, 3, 4, 2, 0), (42, .return_, 1, 0, 0, 0)])
def mm108 : ma_M := (⟨RC4, "change", "(III)V"⟩, prog_5_method_2_code, 4, none, 3, 4, [
  (0, .aload_n 0, 1, 0, 0, 0), (1, .getfield 11, 3, 4, 0, 0), (4, .iload_n 1, 1, 0, 0, 0), (5, .aaload, 1, 0, 0, 0), (6, .iload_n 2, 1, 0, 0, 0), (7, .dup2, 1, 0, 0, 0), (8, .iaload, 1, 0, 0, 0), (9, .iload_n 3, 1, 0, 0, 0),
  (10, .iadd, 1, 0, 0, 0), (11, .iastore, 1, 0, 0, 0), (12, .iload_n 2, 1, 0, 0, 0), (13, .aload_n 0, 1, 0, 0, 0), (14, .getfield 16, 3, 4, 1, 0), (17, .iload_n 1, 1, 0, 0, 0), (18, .iaload, 1, 0, 0, 0), (19, .if_icmp .ge 10, 3, 0, 0, 0),
  (22, .aload_n 0, 1, 0, 0, 0), (23, .getfield 16, 3, 4, 1, 0), (26, .iload_n 1, 1, 0, 0, 0), (27, .iload_n 2, 1, 0, 0, 0), (28, .iastore, 1, 0, 0, 0), (29, .iload_n 2, 1, 0, 0, 0), (30, .aload_n 0, 1, 0, 0, 0), (31, .getfield 20, 3, 4, 2, 0),
  (34, .iload_n 1, 1, 0, 0, 0), (35, .iaload, 1, 0, 0, 0), (36, .if_icmp .le 10, 3, 0, 0, 0), (39, .aload_n 0, 1, 0, 0, 0), (40, .getfield 20, 3, 4, 2, 0), (43, .iload_n 1, 1, 0, 0, 0), (44, .iload_n 2, 1, 0, 0, 0), (45, .iastore, 1, 0, 0, 0),
  (46, .return_, 1, 0, 0, 0)])
def mm109 : ma_M := (⟨RC4, "forgetChanges", "(I)V"⟩, prog_5_method_3_code, 2, none, 1, 4, [
  (0, .aload_n 0, 1, 0, 0, 0), (1, .getfield 16, 3, 4, 1, 0), (4, .iload_n 1, 1, 0, 0, 0), (5, .sipush 1000, 3, 0, 0, 0), (8, .iastore, 1, 0, 0, 0), (9, .aload_n 0, 1, 0, 0, 0), (10, .getfield 20, 3, 4, 2, 0), (13, .iload_n 1, 1, 0, 0, 0),
  (14, .iconst 0, 1, 0, 0, 0), (15, .iastore, 1, 0, 0, 0), (16, .return_, 1, 0, 0, 0)])
def mm110 : ma_M := (⟨RC5, "<init>", "(II)V"⟩, prog_6_method_1_code, 3, none, 2, 5, [
  (0, .aload_n 0, 1, 0, 0, 0), (1, .invokespecial 3, 3, 5, 0, 0), (4, .aload_n 0, 1, 0, 0, 0), (5, .new 9, 3, 4, 0, 0), (8, .dup, 1, 0, 0, 0), (9, .invokespecial 11, 3, 117, 1, 100), (12, .putfield 12, 3, 5, 4, 0), (15, .aload_n 0, 1, 0, 0, 0),
  (16, .new 18, 3, 1, 0, 0), (19, .dup, 1, 0, 0, 0), (20, .invokespecial 20, 3, 97, 1, 100), (23, .putfield 21, 3, 5, 5, 0), (26, .aload_n 0, 1, 0, 0, 0), (27, .iload_n 2, 1, 0, 0, 0), (28, .putfield 25, 3, 5, 0, 0), (31, .aload_n 0, 1, 0, 0, 0),
  (32, .new 29, 3, 7, 0, 0), (35, .dup, 1, 0, 0, 0), (36, .iload_n 1, 1, 0, 0, 0), (37, .invokespecial 31, 3, 155, 2, 0), (40, .putfield 34, 3, 5, 1, 0), (43, .aload_n 0, 1, 0, 0, 0), (44, .aload_n 0, 1, 0, 0, 0), (45, .getfield 34, 3, 5, 1, 0),
  (48, .getfield 38, 3, 7, 3, 0), (51, .putfield 42, 3, 5, 2, 0), (54, .aload_n 0, 1, 0, 0, 0), (55, .aload_n 0, 1, 0, 0, 0), (56, .getfield 34, 3, 5, 1, 0), (59, .getfield 43, 3, 7, 4, 0), (62, .putfield 47, 3, 5, 3, 0), (65, .return_, 1, 0, 0, 0)])
def mm111 : ma_M := (⟨RC5, "mayAccept", "(IIII)Z"⟩, prog_6_method_2_code, 6, some .boolean, 4, 5, [
  (0, .iload_n 2, 1, 0, 0, 0), (1, .ifCond .lt 16, 3, 0, 0, 0), (4, .iload_n 2, 1, 0, 0, 0), (5, .bipush 11, 2, 0, 0, 0), (7, .if_icmp .gt 10, 3, 0, 0, 0), (10, .iload_n 3, 1, 0, 0, 0), (11, .invokestatic 48, 3, 34, 1, 100), (14, .ifCond .ne 5, 3, 0, 0, 0),
  (17, .iconst 0, 1, 0, 0, 0), (18, .ireturn, 1, 0, 0, 0), (19, .iload_n 2, 1, 0, 0, 0), (20, .iconst 2, 1, 0, 0, 0), (21, .idiv, 1, 0, 0, 0), (22, .istore 5, 2, 0, 0, 0), (24, .iload 5, 2, 0, 0, 0), (26, .invokestatic 52, 3, 37, 1, 100),
  (29, .ifCond .eq 11, 3, 0, 0, 0), (32, .iload 4, 2, 0, 0, 0), (34, .invokestatic 55, 3, 33, 1, 100), (37, .ifCond .eq 59, 3, 0, 0, 0), (40, .iload 5, 2, 0, 0, 0), (42, .aload_n 0, 1, 0, 0, 0), (43, .getfield 47, 3, 5, 3, 0), (46, .getfield 58, 3, 6, 1, 0),
  (49, .iload_n 1, 1, 0, 0, 0), (50, .iaload, 1, 0, 0, 0), (51, .iload_n 3, 1, 0, 0, 0), (52, .invokestatic 64, 3, 122, 3, 0), (55, .ifCond .eq 41, 3, 0, 0, 0), (58, .aload_n 0, 1, 0, 0, 0), (59, .iload 5, 2, 0, 0, 0), (61, .invokevirtual 68, 3, 123, 2, 5),
  (64, .ifCond .eq 32, 3, 0, 0, 0), (67, .aload_n 0, 1, 0, 0, 0), (68, .getfield 42, 3, 5, 2, 0), (71, .getfield 71, 3, 2, 0, 0), (74, .sipush 200, 3, 0, 0, 0), (77, .if_icmp .ge 19, 3, 0, 0, 0), (80, .aload_n 0, 1, 0, 0, 0), (81, .getfield 42, 3, 5, 2, 0),
  (84, .invokevirtual 76, 3, 105, 1, 2), (87, .bipush 40, 2, 0, 0, 0), (89, .if_icmp .ge 7, 3, 0, 0, 0), (92, .iconst 1, 1, 0, 0, 0), (93, .goto 4, 3, 0, 0, 0), (96, .iconst 0, 1, 0, 0, 0), (97, .ireturn, 1, 0, 0, 0)])
def mm112 : ma_M := (⟨RC5, "isExtraFit", "(III)Z"⟩, prog_6_method_3_code, 3, some .boolean, 3, 99, [
  (0, .iload_n 0, 1, 0, 0, 0), (1, .iconst 4, 1, 0, 0, 0), (2, .if_icmp .ne 8, 3, 0, 0, 0), (5, .iload_n 1, 1, 0, 0, 0), (6, .invokestatic 55, 3, 33, 1, 100), (9, .ireturn, 1, 0, 0, 0), (10, .iload_n 0, 1, 0, 0, 0), (11, .iconst 5, 1, 0, 0, 0),
  (12, .if_icmp .ne 27, 3, 0, 0, 0), (15, .iload_n 1, 1, 0, 0, 0), (16, .iconst 1, 1, 0, 0, 0), (17, .if_icmp .lt 20, 3, 0, 0, 0), (20, .iload_n 1, 1, 0, 0, 0), (21, .iload_n 2, 1, 0, 0, 0), (22, .if_icmp .gt 15, 3, 0, 0, 0), (25, .iload_n 1, 1, 0, 0, 0),
  (26, .iload_n 2, 1, 0, 0, 0), (27, .invokestatic 80, 3, 38, 2, 100), (30, .ifCond .eq 7, 3, 0, 0, 0), (33, .iconst 1, 1, 0, 0, 0), (34, .goto 4, 3, 0, 0, 0), (37, .iconst 0, 1, 0, 0, 0), (38, .ireturn, 1, 0, 0, 0), (39, .iconst 1, 1, 0, 0, 0),
  (40, .ireturn, 1, 0, 0, 0)])
def mm113 : ma_M := (⟨RC5, "isTakenNow", "(I)Z"⟩, prog_6_method_4_code, 2, some .boolean, 1, 5, [
  (0, .aload_n 0, 1, 0, 0, 0), (1, .getfield 34, 3, 5, 1, 0), (4, .getfield 84, 3, 7, 0, 0), (7, .iconst 2, 1, 0, 0, 0), (8, .if_icmp .eq 28, 3, 0, 0, 0), (11, .aload_n 0, 1, 0, 0, 0), (12, .getfield 34, 3, 5, 1, 0), (15, .getfield 84, 3, 7, 0, 0),
  (18, .invokestatic 87, 3, 35, 1, 100), (21, .ifCond .eq 19, 3, 0, 0, 0), (24, .iload_n 1, 1, 0, 0, 0), (25, .invokestatic 90, 3, 36, 1, 100), (28, .ifCond .ne 8, 3, 0, 0, 0), (31, .iload_n 1, 1, 0, 0, 0), (32, .iconst 4, 1, 0, 0, 0), (33, .if_icmp .ne 7, 3, 0, 0, 0),
  (36, .iconst 1, 1, 0, 0, 0), (37, .goto 4, 3, 0, 0, 0), (40, .iconst 0, 1, 0, 0, 0), (41, .ireturn, 1, 0, 0, 0)])
def mm114 : ma_M := (⟨RC5, "accept", "(IIII)I"⟩, prog_6_method_5_code, 8, some .int, 4, 5, [
  (0, .aload_n 0, 1, 0, 0, 0), (1, .getfield 42, 3, 5, 2, 0), (4, .getfield 71, 3, 2, 0, 0), (7, .istore 5, 2, 0, 0, 0), (9, .iload_n 2, 1, 0, 0, 0), (10, .iconst 2, 1, 0, 0, 0), (11, .idiv, 1, 0, 0, 0), (12, .istore 6, 2, 0, 0, 0),
  (14, .aload_n 0, 1, 0, 0, 0), (15, .getfield 47, 3, 5, 3, 0), (18, .getfield 58, 3, 6, 1, 0), (21, .iload_n 1, 1, 0, 0, 0), (22, .iaload, 1, 0, 0, 0), (23, .istore 7, 2, 0, 0, 0), (25, .aload_n 0, 1, 0, 0, 0), (26, .getfield 42, 3, 5, 2, 0),
  (29, .dup, 1, 0, 0, 0), (30, .getfield 71, 3, 2, 0, 0), (33, .iconst 1, 1, 0, 0, 0), (34, .iadd, 1, 0, 0, 0), (35, .putfield 71, 3, 2, 0, 0), (38, .aload_n 0, 1, 0, 0, 0), (39, .getfield 42, 3, 5, 2, 0), (42, .getfield 93, 3, 2, 1, 0),
  (45, .iload 5, 2, 0, 0, 0), (47, .iload_n 1, 1, 0, 0, 0), (48, .iastore, 1, 0, 0, 0), (49, .aload_n 0, 1, 0, 0, 0), (50, .getfield 42, 3, 5, 2, 0), (53, .getfield 96, 3, 2, 2, 0), (56, .iload 5, 2, 0, 0, 0), (58, .iload_n 2, 1, 0, 0, 0),
  (59, .iconst 2, 1, 0, 0, 0), (60, .irem, 1, 0, 0, 0), (61, .iastore, 1, 0, 0, 0), (62, .aload_n 0, 1, 0, 0, 0), (63, .getfield 42, 3, 5, 2, 0), (66, .getfield 99, 3, 2, 3, 0), (69, .iload 5, 2, 0, 0, 0), (71, .iload 6, 2, 0, 0, 0),
  (73, .iastore, 1, 0, 0, 0), (74, .aload_n 0, 1, 0, 0, 0), (75, .getfield 42, 3, 5, 2, 0), (78, .getfield 102, 3, 2, 4, 0), (81, .iload 5, 2, 0, 0, 0), (83, .iconst 0, 1, 0, 0, 0), (84, .iastore, 1, 0, 0, 0), (85, .aload_n 0, 1, 0, 0, 0),
  (86, .getfield 42, 3, 5, 2, 0), (89, .getfield 105, 3, 2, 5, 0), (92, .iload 5, 2, 0, 0, 0), (94, .iload_n 3, 1, 0, 0, 0), (95, .iastore, 1, 0, 0, 0), (96, .aload_n 0, 1, 0, 0, 0), (97, .getfield 42, 3, 5, 2, 0), (100, .getfield 108, 3, 2, 6, 0),
  (103, .iload 5, 2, 0, 0, 0), (105, .iload 6, 2, 0, 0, 0), (107, .iconst 4, 1, 0, 0, 0), (108, .if_icmp .ne 8, 3, 0, 0, 0), (111, .iload 7, 2, 0, 0, 0), (113, .goto 5, 3, 0, 0, 0), (116, .iload 4, 2, 0, 0, 0), (118, .iastore, 1, 0, 0, 0),
  (119, .aload_n 0, 1, 0, 0, 0), (120, .getfield 42, 3, 5, 2, 0), (123, .getfield 111, 3, 2, 7, 0), (126, .iload 5, 2, 0, 0, 0), (128, .iload 6, 2, 0, 0, 0), (130, .iconst 5, 1, 0, 0, 0), (131, .if_icmp .ne 8, 3, 0, 0, 0), (134, .iload 7, 2, 0, 0, 0),
  (136, .goto 6, 3, 0, 0, 0), (139, .sipush 1000, 3, 0, 0, 0), (142, .iastore, 1, 0, 0, 0), (143, .aload_n 0, 1, 0, 0, 0), (144, .getfield 42, 3, 5, 2, 0), (147, .getfield 114, 3, 2, 8, 0), (150, .iload 5, 2, 0, 0, 0), (152, .iconst 0, 1, 0, 0, 0),
  (153, .iastore, 1, 0, 0, 0), (154, .aload_n 0, 1, 0, 0, 0), (155, .iload 5, 2, 0, 0, 0), (157, .iconst 1, 1, 0, 0, 0), (158, .iload_n 3, 1, 0, 0, 0), (159, .aload_n 0, 1, 0, 0, 0), (160, .iload 5, 2, 0, 0, 0), (162, .invokevirtual 117, 3, 149, 2, 5),
  (165, .invokevirtual 121, 3, 150, 5, 5), (168, .aload_n 0, 1, 0, 0, 0), (169, .iload 5, 2, 0, 0, 0), (171, .invokevirtual 125, 3, 133, 2, 5), (174, .iload 5, 2, 0, 0, 0), (176, .ireturn, 1, 0, 0, 0)])
def mm115 : ma_M := (⟨RC5, "mayCancel", "(II)Z"⟩, prog_6_method_6_code, 3, some .boolean, 2, 5, [
  (0, .aload_n 0, 1, 0, 0, 0), (1, .getfield 42, 3, 5, 2, 0), (4, .iload_n 1, 1, 0, 0, 0), (5, .iload_n 2, 1, 0, 0, 0), (6, .invokevirtual 128, 3, 104, 3, 2), (9, .ifCond .eq 19, 3, 0, 0, 0), (12, .aload_n 0, 1, 0, 0, 0), (13, .getfield 42, 3, 5, 2, 0),
  (16, .getfield 102, 3, 2, 4, 0), (19, .iload_n 2, 1, 0, 0, 0), (20, .iaload, 1, 0, 0, 0), (21, .ifCond .eq 7, 3, 0, 0, 0), (24, .iconst 1, 1, 0, 0, 0), (25, .goto 4, 3, 0, 0, 0), (28, .iconst 0, 1, 0, 0, 0), (29, .ireturn, 1, 0, 0, 0)])
def mm116 : ma_M := (⟨RC5, "cancelOrder", "(I)V"⟩, prog_6_method_7_code, 2, none, 1, 5, [
  (0, .aload_n 0, 1, 0, 0, 0), (1, .iload_n 1, 1, 0, 0, 0), (2, .iconst 3, 1, 0, 0, 0), (3, .aload_n 0, 1, 0, 0, 0), (4, .getfield 42, 3, 5, 2, 0), (7, .getfield 105, 3, 2, 5, 0), (10, .iload_n 1, 1, 0, 0, 0), (11, .iaload, 1, 0, 0, 0),
  (12, .aload_n 0, 1, 0, 0, 0), (13, .iload_n 1, 1, 0, 0, 0), (14, .invokevirtual 117, 3, 149, 2, 5), (17, .invokevirtual 121, 3, 150, 5, 5), (20, .aload_n 0, 1, 0, 0, 0), (21, .getfield 42, 3, 5, 2, 0), (24, .getfield 102, 3, 2, 4, 0), (27, .iload_n 1, 1, 0, 0, 0),
  (28, .iaload, 1, 0, 0, 0), (29, .iconst 1, 1, 0, 0, 0), (30, .if_icmp .ne 8, 3, 0, 0, 0), (33, .aload_n 0, 1, 0, 0, 0), (34, .iload_n 1, 1, 0, 0, 0), (35, .invokevirtual 131, 3, 146, 2, 5), (38, .aload_n 0, 1, 0, 0, 0), (39, .getfield 42, 3, 5, 2, 0),
  (42, .getfield 102, 3, 2, 4, 0), (45, .iload_n 1, 1, 0, 0, 0), (46, .iconst 0, 1, 0, 0, 0), (47, .iastore, 1, 0, 0, 0), (48, .aload_n 0, 1, 0, 0, 0), (49, .getfield 42, 3, 5, 2, 0), (52, .getfield 105, 3, 2, 5, 0), (55, .iload_n 1, 1, 0, 0, 0),
  (56, .iconst 0, 1, 0, 0, 0), (57, .iastore, 1, 0, 0, 0), (58, .return_, 1, 0, 0, 0)])
def mm117 : ma_M := (⟨RC5, "mayReplace", "(IIII)Z"⟩, prog_6_method_8_code, 5, some .boolean, 4, 5, [
  (0, .aload_n 0, 1, 0, 0, 0), (1, .getfield 42, 3, 5, 2, 0), (4, .iload_n 1, 1, 0, 0, 0), (5, .iload_n 2, 1, 0, 0, 0), (6, .invokevirtual 128, 3, 104, 3, 2), (9, .ifCond .eq 51, 3, 0, 0, 0), (12, .aload_n 0, 1, 0, 0, 0), (13, .getfield 42, 3, 5, 2, 0),
  (16, .getfield 102, 3, 2, 4, 0), (19, .iload_n 2, 1, 0, 0, 0), (20, .iaload, 1, 0, 0, 0), (21, .iconst 1, 1, 0, 0, 0), (22, .if_icmp .ne 38, 3, 0, 0, 0), (25, .iload_n 3, 1, 0, 0, 0), (26, .invokestatic 48, 3, 34, 1, 100), (29, .ifCond .eq 31, 3, 0, 0, 0),
  (32, .iload 4, 2, 0, 0, 0), (34, .invokestatic 55, 3, 33, 1, 100), (37, .ifCond .eq 23, 3, 0, 0, 0), (40, .aload_n 0, 1, 0, 0, 0), (41, .getfield 42, 3, 5, 2, 0), (44, .getfield 111, 3, 2, 7, 0), (47, .iload_n 2, 1, 0, 0, 0), (48, .iaload, 1, 0, 0, 0),
  (49, .iload_n 3, 1, 0, 0, 0), (50, .invokestatic 80, 3, 38, 2, 100), (53, .ifCond .eq 7, 3, 0, 0, 0), (56, .iconst 1, 1, 0, 0, 0), (57, .goto 4, 3, 0, 0, 0), (60, .iconst 0, 1, 0, 0, 0), (61, .ireturn, 1, 0, 0, 0)])
def mm118 : ma_M := (⟨RC5, "replaceOrder", "(III)V"⟩, prog_6_method_9_code, 4, none, 3, 5, [
  (0, .aload_n 0, 1, 0, 0, 0), (1, .iload_n 1, 1, 0, 0, 0), (2, .iconst 5, 1, 0, 0, 0), (3, .iload_n 2, 1, 0, 0, 0), (4, .iload_n 3, 1, 0, 0, 0), (5, .invokevirtual 121, 3, 150, 5, 5), (8, .iload_n 3, 1, 0, 0, 0), (9, .aload_n 0, 1, 0, 0, 0),
  (10, .getfield 42, 3, 5, 2, 0), (13, .getfield 108, 3, 2, 6, 0), (16, .iload_n 1, 1, 0, 0, 0), (17, .iaload, 1, 0, 0, 0), (18, .if_icmp .ne 45, 3, 0, 0, 0), (21, .iload_n 2, 1, 0, 0, 0), (22, .aload_n 0, 1, 0, 0, 0), (23, .getfield 42, 3, 5, 2, 0),
  (26, .getfield 105, 3, 2, 5, 0), (29, .iload_n 1, 1, 0, 0, 0), (30, .iaload, 1, 0, 0, 0), (31, .if_icmp .gt 32, 3, 0, 0, 0), (34, .aload_n 0, 1, 0, 0, 0), (35, .getfield 42, 3, 5, 2, 0), (38, .getfield 105, 3, 2, 5, 0), (41, .iload_n 1, 1, 0, 0, 0),
  (42, .iload_n 2, 1, 0, 0, 0), (43, .iastore, 1, 0, 0, 0), (44, .aload_n 0, 1, 0, 0, 0), (45, .iload_n 1, 1, 0, 0, 0), (46, .aload_n 0, 1, 0, 0, 0), (47, .getfield 42, 3, 5, 2, 0), (50, .getfield 114, 3, 2, 8, 0), (53, .iload_n 1, 1, 0, 0, 0),
  (54, .iaload, 1, 0, 0, 0), (55, .iload_n 2, 1, 0, 0, 0), (56, .invokestatic 134, 3, 2, 0, 0), (59, .invokevirtual 140, 3, 147, 3, 5), (62, .return_, 1, 0, 0, 0), (63, .aload_n 0, 1, 0, 0, 0), (64, .iload_n 1, 1, 0, 0, 0), (65, .invokevirtual 131, 3, 146, 2, 5),
  (68, .aload_n 0, 1, 0, 0, 0), (69, .getfield 42, 3, 5, 2, 0), (72, .getfield 105, 3, 2, 5, 0), (75, .iload_n 1, 1, 0, 0, 0), (76, .iload_n 2, 1, 0, 0, 0), (77, .iastore, 1, 0, 0, 0), (78, .aload_n 0, 1, 0, 0, 0), (79, .getfield 42, 3, 5, 2, 0),
  (82, .getfield 108, 3, 2, 6, 0), (85, .iload_n 1, 1, 0, 0, 0), (86, .iload_n 3, 1, 0, 0, 0), (87, .iastore, 1, 0, 0, 0), (88, .aload_n 0, 1, 0, 0, 0), (89, .iload_n 1, 1, 0, 0, 0), (90, .invokevirtual 125, 3, 133, 2, 5), (93, .return_, 1, 0, 0, 0)])
def mm119 : ma_M := (⟨RC5, "mayStepTo", "(I)Z"⟩, prog_6_method_10_code, 2, some .boolean, 1, 5, [
  (0, .aload_n 0, 1, 0, 0, 0), (1, .getfield 34, 3, 5, 1, 0), (4, .getfield 84, 3, 7, 0, 0), (7, .tableswitch 66 0 3 #[29, 66, 40, 56], 29, 0, 0, 0), (36, .iload_n 1, 1, 0, 0, 0), (37, .iconst 1, 1, 0, 0, 0), (38, .if_icmp .ne 7, 3, 0, 0, 0), (41, .iconst 1, 1, 0, 0, 0),
  (42, .goto 4, 3, 0, 0, 0), (45, .iconst 0, 1, 0, 0, 0), (46, .ireturn, 1, 0, 0, 0), (47, .iload_n 1, 1, 0, 0, 0), (48, .iconst 3, 1, 0, 0, 0), (49, .if_icmp .eq 8, 3, 0, 0, 0), (52, .iload_n 1, 1, 0, 0, 0), (53, .iconst 4, 1, 0, 0, 0),
  (54, .if_icmp .ne 7, 3, 0, 0, 0), (57, .iconst 1, 1, 0, 0, 0), (58, .goto 4, 3, 0, 0, 0), (61, .iconst 0, 1, 0, 0, 0), (62, .ireturn, 1, 0, 0, 0), (63, .iload_n 1, 1, 0, 0, 0), (64, .ifCond .ne 7, 3, 0, 0, 0), (67, .iconst 1, 1, 0, 0, 0),
  (68, .goto 4, 3, 0, 0, 0), (71, .iconst 0, 1, 0, 0, 0), (72, .ireturn, 1, 0, 0, 0), (73, .iload_n 1, 1, 0, 0, 0), (74, .iconst 2, 1, 0, 0, 0), (75, .if_icmp .ne 7, 3, 0, 0, 0), (78, .iconst 1, 1, 0, 0, 0), (79, .goto 4, 3, 0, 0, 0),
  (82, .iconst 0, 1, 0, 0, 0), (83, .ireturn, 1, 0, 0, 0)])
def mm120 : ma_M := (⟨RC5, "stepTo", "(I)V"⟩, prog_6_method_11_code, 2, none, 1, 5, [
  (0, .aload_n 0, 1, 0, 0, 0), (1, .getfield 34, 3, 5, 1, 0), (4, .getfield 84, 3, 7, 0, 0), (7, .invokestatic 87, 3, 35, 1, 100), (10, .ifCond .eq 7, 3, 0, 0, 0), (13, .aload_n 0, 1, 0, 0, 0), (14, .invokevirtual 144, 3, 138, 1, 5), (17, .aload_n 0, 1, 0, 0, 0),
  (18, .getfield 34, 3, 5, 1, 0), (21, .iload_n 1, 1, 0, 0, 0), (22, .putfield 84, 3, 7, 0, 0), (25, .iload_n 1, 1, 0, 0, 0), (26, .ifCond .ne 7, 3, 0, 0, 0), (29, .aload_n 0, 1, 0, 0, 0), (30, .invokevirtual 147, 3, 140, 1, 5), (33, .return_, 1, 0, 0, 0)])
def mm121 : ma_M := (⟨RC5, "releaseStops", "()V"⟩, prog_6_method_12_code, 3, none, 0, 5, [
  (0, .iconst 0, 1, 0, 0, 0), (1, .istore_n 1, 1, 0, 0, 0), (2, .iload_n 1, 1, 0, 0, 0), (3, .bipush 40, 2, 0, 0, 0), (5, .if_icmp .ge 61, 3, 0, 0, 0), (8, .aload_n 0, 1, 0, 0, 0), (9, .getfield 34, 3, 5, 1, 0), (12, .getfield 84, 3, 7, 0, 0),
  (15, .iconst 2, 1, 0, 0, 0), (16, .if_icmp .ne 50, 3, 0, 0, 0), (19, .aload_n 0, 1, 0, 0, 0), (20, .invokevirtual 150, 3, 141, 1, 5), (23, .istore_n 2, 1, 0, 0, 0), (24, .iload_n 2, 1, 0, 0, 0), (25, .iconst (-1), 1, 0, 0, 0), (26, .if_icmp .ne 4, 3, 0, 0, 0),
  (29, .return_, 1, 0, 0, 0), (30, .aload_n 0, 1, 0, 0, 0), (31, .getfield 42, 3, 5, 2, 0), (34, .getfield 102, 3, 2, 4, 0), (37, .iload_n 2, 1, 0, 0, 0), (38, .iconst 0, 1, 0, 0, 0), (39, .iastore, 1, 0, 0, 0), (40, .aload_n 0, 1, 0, 0, 0),
  (41, .getfield 42, 3, 5, 2, 0), (44, .getfield 99, 3, 2, 3, 0), (47, .iload_n 2, 1, 0, 0, 0), (48, .iconst 1, 1, 0, 0, 0), (49, .iastore, 1, 0, 0, 0), (50, .aload_n 0, 1, 0, 0, 0), (51, .iload_n 2, 1, 0, 0, 0), (52, .invokevirtual 153, 3, 136, 2, 5),
  (55, .aload_n 0, 1, 0, 0, 0), (56, .iload_n 2, 1, 0, 0, 0), (57, .invokevirtual 156, 3, 134, 2, 5), (60, .iinc 1 1, 3, 0, 0, 0), (63, .goto (-61), 3, 0, 0, 0), (66, .return_, 1, 0, 0, 0)])
def mm122 : ma_M := (⟨RC5, "becomeAgain", "(LPhaseBook$State;)V"⟩, prog_6_method_13_code, 2, none, 1, 5, [
  (0, .aload_n 0, 1, 0, 0, 0), (1, .iconst (-1), 1, 0, 0, 0), (2, .invokevirtual 159, 3, 148, 2, 5), (5, .aload_n 0, 1, 0, 0, 0), (6, .getfield 34, 3, 5, 1, 0), (9, .aload_n 1, 1, 0, 0, 0), (10, .invokevirtual 162, 3, 156, 2, 7), (13, .aload_n 0, 1, 0, 0, 0),
  (14, .iconst 1, 1, 0, 0, 0), (15, .invokevirtual 159, 3, 148, 2, 5), (18, .return_, 1, 0, 0, 0)])
def mm123 : ma_M := (⟨RC5, "comeIn", "(I)V"⟩, prog_6_method_14_code, 3, none, 1, 5, [
  (0, .aload_n 0, 1, 0, 0, 0), (1, .getfield 42, 3, 5, 2, 0), (4, .getfield 99, 3, 2, 3, 0), (7, .iload_n 1, 1, 0, 0, 0), (8, .iaload, 1, 0, 0, 0), (9, .istore_n 2, 1, 0, 0, 0), (10, .iload_n 2, 1, 0, 0, 0), (11, .iconst 4, 1, 0, 0, 0),
  (12, .if_icmp .ne 14, 3, 0, 0, 0), (15, .aload_n 0, 1, 0, 0, 0), (16, .getfield 42, 3, 5, 2, 0), (19, .getfield 102, 3, 2, 4, 0), (22, .iload_n 1, 1, 0, 0, 0), (23, .iconst 2, 1, 0, 0, 0), (24, .iastore, 1, 0, 0, 0), (25, .return_, 1, 0, 0, 0),
  (26, .aload_n 0, 1, 0, 0, 0), (27, .getfield 34, 3, 5, 1, 0), (30, .getfield 84, 3, 7, 0, 0), (33, .iconst 2, 1, 0, 0, 0), (34, .if_icmp .ne 21, 3, 0, 0, 0), (37, .iload_n 2, 1, 0, 0, 0), (38, .iconst 3, 1, 0, 0, 0), (39, .if_icmp .ne 11, 3, 0, 0, 0),
  (42, .aload_n 0, 1, 0, 0, 0), (43, .iload_n 1, 1, 0, 0, 0), (44, .invokevirtual 166, 3, 135, 2, 5), (47, .ifCond .eq 8, 3, 0, 0, 0), (50, .aload_n 0, 1, 0, 0, 0), (51, .iload_n 1, 1, 0, 0, 0), (52, .invokevirtual 153, 3, 136, 2, 5), (55, .aload_n 0, 1, 0, 0, 0),
  (56, .iload_n 1, 1, 0, 0, 0), (57, .invokevirtual 156, 3, 134, 2, 5), (60, .return_, 1, 0, 0, 0)])
def mm124 : ma_M := (⟨RC5, "settleRest", "(I)V"⟩, prog_6_method_15_code, 2, none, 1, 5, [
  (0, .aload_n 0, 1, 0, 0, 0), (1, .getfield 42, 3, 5, 2, 0), (4, .getfield 105, 3, 2, 5, 0), (7, .iload_n 1, 1, 0, 0, 0), (8, .iaload, 1, 0, 0, 0), (9, .ifCond .ne 4, 3, 0, 0, 0), (12, .return_, 1, 0, 0, 0), (13, .aload_n 0, 1, 0, 0, 0),
  (14, .getfield 42, 3, 5, 2, 0), (17, .getfield 99, 3, 2, 3, 0), (20, .iload_n 1, 1, 0, 0, 0), (21, .iaload, 1, 0, 0, 0), (22, .invokestatic 90, 3, 36, 1, 100), (25, .ifCond .eq 11, 3, 0, 0, 0), (28, .aload_n 0, 1, 0, 0, 0), (29, .iload_n 1, 1, 0, 0, 0),
  (30, .invokevirtual 169, 3, 145, 2, 5), (33, .goto 8, 3, 0, 0, 0), (36, .aload_n 0, 1, 0, 0, 0), (37, .iload_n 1, 1, 0, 0, 0), (38, .invokevirtual 172, 3, 126, 2, 5), (41, .return_, 1, 0, 0, 0)])
def mm125 : ma_M := (⟨RC5, "isWhollyTradable", "(I)Z"⟩, prog_6_method_16_code, 6, some .boolean, 1, 5, [
  (0, .iconst 1, 1, 0, 0, 0), (1, .aload_n 0, 1, 0, 0, 0), (2, .getfield 42, 3, 5, 2, 0), (5, .getfield 96, 3, 2, 2, 0), (8, .iload_n 1, 1, 0, 0, 0), (9, .iaload, 1, 0, 0, 0), (10, .isub, 1, 0, 0, 0), (11, .istore_n 2, 1, 0, 0, 0),
  (12, .iconst 0, 1, 0, 0, 0), (13, .istore_n 3, 1, 0, 0, 0), (14, .iconst 0, 1, 0, 0, 0), (15, .istore 4, 2, 0, 0, 0), (17, .iload 4, 2, 0, 0, 0), (19, .aload_n 0, 1, 0, 0, 0), (20, .getfield 42, 3, 5, 2, 0), (23, .getfield 175, 3, 2, 10, 0),
  (26, .iload_n 2, 1, 0, 0, 0), (27, .iaload, 1, 0, 0, 0), (28, .if_icmp .ge 96, 3, 0, 0, 0), (31, .aload_n 0, 1, 0, 0, 0), (32, .getfield 42, 3, 5, 2, 0), (35, .getfield 178, 3, 2, 9, 0), (38, .iload_n 2, 1, 0, 0, 0), (39, .aaload, 1, 0, 0, 0),
  (40, .iload 4, 2, 0, 0, 0), (42, .iaload, 1, 0, 0, 0), (43, .istore 5, 2, 0, 0, 0), (45, .aload_n 0, 1, 0, 0, 0), (46, .aload_n 0, 1, 0, 0, 0), (47, .getfield 42, 3, 5, 2, 0), (50, .getfield 108, 3, 2, 6, 0), (53, .iload 5, 2, 0, 0, 0),
  (55, .iaload, 1, 0, 0, 0), (56, .iload_n 1, 1, 0, 0, 0), (57, .invokevirtual 182, 3, 143, 3, 5), (60, .ifCond .eq 64, 3, 0, 0, 0), (63, .aload_n 0, 1, 0, 0, 0), (64, .aload_n 0, 1, 0, 0, 0), (65, .getfield 42, 3, 5, 2, 0), (68, .getfield 108, 3, 2, 6, 0),
  (71, .iload 5, 2, 0, 0, 0), (73, .iaload, 1, 0, 0, 0), (74, .invokevirtual 185, 3, 144, 2, 5), (77, .ifCond .eq 6, 3, 0, 0, 0), (80, .goto 44, 3, 0, 0, 0), (83, .aload_n 0, 1, 0, 0, 0), (84, .getfield 42, 3, 5, 2, 0), (87, .getfield 93, 3, 2, 1, 0),
  (90, .iload 5, 2, 0, 0, 0), (92, .iaload, 1, 0, 0, 0), (93, .aload_n 0, 1, 0, 0, 0), (94, .getfield 42, 3, 5, 2, 0), (97, .getfield 93, 3, 2, 1, 0), (100, .iload_n 1, 1, 0, 0, 0), (101, .iaload, 1, 0, 0, 0), (102, .if_icmp .eq 16, 3, 0, 0, 0),
  (105, .iload_n 3, 1, 0, 0, 0), (106, .aload_n 0, 1, 0, 0, 0), (107, .getfield 42, 3, 5, 2, 0), (110, .getfield 105, 3, 2, 5, 0), (113, .iload 5, 2, 0, 0, 0), (115, .iaload, 1, 0, 0, 0), (116, .iadd, 1, 0, 0, 0), (117, .istore_n 3, 1, 0, 0, 0),
  (118, .iinc 4 1, 3, 0, 0, 0), (121, .goto (-104), 3, 0, 0, 0), (124, .iload_n 3, 1, 0, 0, 0), (125, .aload_n 0, 1, 0, 0, 0), (126, .getfield 42, 3, 5, 2, 0), (129, .getfield 105, 3, 2, 5, 0), (132, .iload_n 1, 1, 0, 0, 0), (133, .iaload, 1, 0, 0, 0),
  (134, .if_icmp .lt 7, 3, 0, 0, 0), (137, .iconst 1, 1, 0, 0, 0), (138, .goto 4, 3, 0, 0, 0), (141, .iconst 0, 1, 0, 0, 0), (142, .ireturn, 1, 0, 0, 0)])
def mm126 : ma_M := (⟨RC5, "match", "(I)V"⟩, prog_6_method_17_code, 5, none, 1, 5, [
  (0, .iconst 1, 1, 0, 0, 0), (1, .aload_n 0, 1, 0, 0, 0), (2, .getfield 42, 3, 5, 2, 0), (5, .getfield 96, 3, 2, 2, 0), (8, .iload_n 1, 1, 0, 0, 0), (9, .iaload, 1, 0, 0, 0), (10, .isub, 1, 0, 0, 0), (11, .istore_n 2, 1, 0, 0, 0),
  (12, .iconst 0, 1, 0, 0, 0), (13, .istore_n 3, 1, 0, 0, 0), (14, .iload_n 3, 1, 0, 0, 0), (15, .sipush 1040, 3, 0, 0, 0), (18, .if_icmp .ge 120, 3, 0, 0, 0), (21, .aload_n 0, 1, 0, 0, 0), (22, .getfield 42, 3, 5, 2, 0), (25, .getfield 105, 3, 2, 5, 0),
  (28, .iload_n 1, 1, 0, 0, 0), (29, .iaload, 1, 0, 0, 0), (30, .ifCond .le 108, 3, 0, 0, 0), (33, .aload_n 0, 1, 0, 0, 0), (34, .getfield 42, 3, 5, 2, 0), (37, .iload_n 2, 1, 0, 0, 0), (38, .invokevirtual 188, 3, 106, 2, 2), (41, .istore 4, 2, 0, 0, 0),
  (43, .iload 4, 2, 0, 0, 0), (45, .iconst (-1), 1, 0, 0, 0), (46, .if_icmp .eq 21, 3, 0, 0, 0), (49, .aload_n 0, 1, 0, 0, 0), (50, .aload_n 0, 1, 0, 0, 0), (51, .getfield 42, 3, 5, 2, 0), (54, .getfield 108, 3, 2, 6, 0), (57, .iload 4, 2, 0, 0, 0),
  (59, .iaload, 1, 0, 0, 0), (60, .iload_n 1, 1, 0, 0, 0), (61, .invokevirtual 182, 3, 143, 3, 5), (64, .ifCond .ne 4, 3, 0, 0, 0), (67, .return_, 1, 0, 0, 0), (68, .aload_n 0, 1, 0, 0, 0), (69, .aload_n 0, 1, 0, 0, 0), (70, .getfield 42, 3, 5, 2, 0),
  (73, .getfield 108, 3, 2, 6, 0), (76, .iload 4, 2, 0, 0, 0), (78, .iaload, 1, 0, 0, 0), (79, .invokevirtual 185, 3, 144, 2, 5), (82, .ifCond .eq 12, 3, 0, 0, 0), (85, .aload_n 0, 1, 0, 0, 0), (86, .getfield 34, 3, 5, 1, 0), (89, .iconst 4, 1, 0, 0, 0),
  (90, .putfield 84, 3, 7, 0, 0), (93, .return_, 1, 0, 0, 0), (94, .aload_n 0, 1, 0, 0, 0), (95, .getfield 42, 3, 5, 2, 0), (98, .getfield 93, 3, 2, 1, 0), (101, .iload 4, 2, 0, 0, 0), (103, .iaload, 1, 0, 0, 0), (104, .aload_n 0, 1, 0, 0, 0),
  (105, .getfield 42, 3, 5, 2, 0), (108, .getfield 93, 3, 2, 1, 0), (111, .iload_n 1, 1, 0, 0, 0), (112, .iaload, 1, 0, 0, 0), (113, .if_icmp .ne 12, 3, 0, 0, 0), (116, .aload_n 0, 1, 0, 0, 0), (117, .iload 4, 2, 0, 0, 0), (119, .invokevirtual 172, 3, 126, 2, 5),
  (122, .goto 10, 3, 0, 0, 0), (125, .aload_n 0, 1, 0, 0, 0), (126, .iload_n 1, 1, 0, 0, 0), (127, .iload 4, 2, 0, 0, 0), (129, .invokevirtual 191, 3, 137, 3, 5), (132, .iinc 3 1, 3, 0, 0, 0), (135, .goto (-121), 3, 0, 0, 0), (138, .return_, 1, 0, 0, 0)])
def mm127 : ma_M := (⟨RC5, "trade", "(II)V"⟩, prog_6_method_18_code, 6, none, 2, 5, [
  (0, .aload_n 0, 1, 0, 0, 0), (1, .getfield 42, 3, 5, 2, 0), (4, .getfield 108, 3, 2, 6, 0), (7, .iload_n 2, 1, 0, 0, 0), (8, .iaload, 1, 0, 0, 0), (9, .istore_n 3, 1, 0, 0, 0), (10, .aload_n 0, 1, 0, 0, 0), (11, .getfield 42, 3, 5, 2, 0),
  (14, .getfield 105, 3, 2, 5, 0), (17, .iload_n 1, 1, 0, 0, 0), (18, .iaload, 1, 0, 0, 0), (19, .aload_n 0, 1, 0, 0, 0), (20, .getfield 42, 3, 5, 2, 0), (23, .getfield 114, 3, 2, 8, 0), (26, .iload_n 2, 1, 0, 0, 0), (27, .iaload, 1, 0, 0, 0),
  (28, .invokestatic 134, 3, 2, 0, 0), (31, .istore 4, 2, 0, 0, 0), (33, .aload_n 0, 1, 0, 0, 0), (34, .getfield 42, 3, 5, 2, 0), (37, .getfield 114, 3, 2, 8, 0), (40, .iload_n 2, 1, 0, 0, 0), (41, .iaload, 1, 0, 0, 0), (42, .iload 4, 2, 0, 0, 0),
  (44, .isub, 1, 0, 0, 0), (45, .istore 5, 2, 0, 0, 0), (47, .aload_n 0, 1, 0, 0, 0), (48, .getfield 34, 3, 5, 1, 0), (51, .iload_n 3, 1, 0, 0, 0), (52, .putfield 194, 3, 7, 1, 0), (55, .aload_n 0, 1, 0, 0, 0), (56, .getfield 42, 3, 5, 2, 0),
  (59, .getfield 105, 3, 2, 5, 0), (62, .iload_n 1, 1, 0, 0, 0), (63, .dup2, 1, 0, 0, 0), (64, .iaload, 1, 0, 0, 0), (65, .iload 4, 2, 0, 0, 0), (67, .isub, 1, 0, 0, 0), (68, .iastore, 1, 0, 0, 0), (69, .aload_n 0, 1, 0, 0, 0),
  (70, .getfield 42, 3, 5, 2, 0), (73, .getfield 105, 3, 2, 5, 0), (76, .iload_n 2, 1, 0, 0, 0), (77, .dup2, 1, 0, 0, 0), (78, .iaload, 1, 0, 0, 0), (79, .iload 4, 2, 0, 0, 0), (81, .isub, 1, 0, 0, 0), (82, .iastore, 1, 0, 0, 0),
  (83, .aload_n 0, 1, 0, 0, 0), (84, .iload_n 2, 1, 0, 0, 0), (85, .iconst 2, 1, 0, 0, 0), (86, .iload 4, 2, 0, 0, 0), (88, .iload_n 3, 1, 0, 0, 0), (89, .invokevirtual 121, 3, 150, 5, 5), (92, .aload_n 0, 1, 0, 0, 0), (93, .iload_n 1, 1, 0, 0, 0),
  (94, .iconst 2, 1, 0, 0, 0), (95, .iload 4, 2, 0, 0, 0), (97, .iload_n 3, 1, 0, 0, 0), (98, .invokevirtual 121, 3, 150, 5, 5), (101, .iload 5, 2, 0, 0, 0), (103, .ifCond .le 11, 3, 0, 0, 0), (106, .aload_n 0, 1, 0, 0, 0), (107, .iload_n 2, 1, 0, 0, 0),
  (108, .iload 5, 2, 0, 0, 0), (110, .invokevirtual 140, 3, 147, 3, 5), (113, .return_, 1, 0, 0, 0), (114, .aload_n 0, 1, 0, 0, 0), (115, .iload_n 2, 1, 0, 0, 0), (116, .invokevirtual 131, 3, 146, 2, 5), (119, .aload_n 0, 1, 0, 0, 0), (120, .getfield 42, 3, 5, 2, 0),
  (123, .getfield 105, 3, 2, 5, 0), (126, .iload_n 2, 1, 0, 0, 0), (127, .iaload, 1, 0, 0, 0), (128, .ifCond .le 8, 3, 0, 0, 0), (131, .aload_n 0, 1, 0, 0, 0), (132, .iload_n 2, 1, 0, 0, 0), (133, .invokevirtual 169, 3, 145, 2, 5), (136, .return_, 1, 0, 0, 0)])
def mm128 : ma_M := (⟨RC5, "holdAuction", "()V"⟩, prog_6_method_19_code, 1, none, 0, 5, [
  (0, .aload_n 0, 1, 0, 0, 0), (1, .getfield 21, 3, 5, 5, 0), (4, .aload_n 0, 1, 0, 0, 0), (5, .getfield 42, 3, 5, 2, 0), (8, .aload_n 0, 1, 0, 0, 0), (9, .getfield 34, 3, 5, 1, 0), (12, .getfield 197, 3, 7, 2, 0), (15, .invokevirtual 200, 3, 98, 3, 1),
  (18, .aload_n 0, 1, 0, 0, 0), (19, .getfield 21, 3, 5, 5, 0), (22, .getfield 204, 3, 1, 1, 0), (25, .ifCond .ne 4, 3, 0, 0, 0), (28, .return_, 1, 0, 0, 0), (29, .aload_n 0, 1, 0, 0, 0), (30, .iconst 0, 1, 0, 0, 0), (31, .invokevirtual 207, 3, 139, 2, 5),
  (34, .aload_n 0, 1, 0, 0, 0), (35, .iconst 1, 1, 0, 0, 0), (36, .invokevirtual 207, 3, 139, 2, 5), (39, .aload_n 0, 1, 0, 0, 0), (40, .getfield 34, 3, 5, 1, 0), (43, .aload_n 0, 1, 0, 0, 0), (44, .getfield 21, 3, 5, 5, 0), (47, .getfield 210, 3, 1, 0, 0),
  (50, .putfield 194, 3, 7, 1, 0), (53, .aload_n 0, 1, 0, 0, 0), (54, .getfield 34, 3, 5, 1, 0), (57, .aload_n 0, 1, 0, 0, 0), (58, .getfield 21, 3, 5, 5, 0), (61, .getfield 210, 3, 1, 0, 0), (64, .putfield 197, 3, 7, 2, 0), (67, .return_, 1, 0, 0, 0)])
def mm129 : ma_M := (⟨RC5, "tradeInAuction", "(I)V"⟩, prog_6_method_20_code, 6, none, 1, 5, [
  (0, .aload_n 0, 1, 0, 0, 0), (1, .getfield 21, 3, 5, 5, 0), (4, .getfield 204, 3, 1, 1, 0), (7, .istore_n 2, 1, 0, 0, 0), (8, .iconst 0, 1, 0, 0, 0), (9, .istore_n 3, 1, 0, 0, 0), (10, .iload_n 3, 1, 0, 0, 0), (11, .bipush 40, 2, 0, 0, 0),
  (13, .if_icmp .ge 133, 3, 0, 0, 0), (16, .iload_n 2, 1, 0, 0, 0), (17, .ifCond .le 129, 3, 0, 0, 0), (20, .aload_n 0, 1, 0, 0, 0), (21, .getfield 42, 3, 5, 2, 0), (24, .iload_n 1, 1, 0, 0, 0), (25, .invokevirtual 188, 3, 106, 2, 2), (28, .istore 4, 2, 0, 0, 0),
  (30, .iload 4, 2, 0, 0, 0), (32, .iconst (-1), 1, 0, 0, 0), (33, .if_icmp .ne 4, 3, 0, 0, 0), (36, .return_, 1, 0, 0, 0), (37, .iload_n 2, 1, 0, 0, 0), (38, .aload_n 0, 1, 0, 0, 0), (39, .getfield 42, 3, 5, 2, 0), (42, .getfield 105, 3, 2, 5, 0),
  (45, .iload 4, 2, 0, 0, 0), (47, .iaload, 1, 0, 0, 0), (48, .invokestatic 134, 3, 2, 0, 0), (51, .istore 5, 2, 0, 0, 0), (53, .iload_n 2, 1, 0, 0, 0), (54, .iload 5, 2, 0, 0, 0), (56, .isub, 1, 0, 0, 0), (57, .istore_n 2, 1, 0, 0, 0),
  (58, .aload_n 0, 1, 0, 0, 0), (59, .getfield 42, 3, 5, 2, 0), (62, .getfield 105, 3, 2, 5, 0), (65, .iload 4, 2, 0, 0, 0), (67, .dup2, 1, 0, 0, 0), (68, .iaload, 1, 0, 0, 0), (69, .iload 5, 2, 0, 0, 0), (71, .isub, 1, 0, 0, 0),
  (72, .iastore, 1, 0, 0, 0), (73, .aload_n 0, 1, 0, 0, 0), (74, .iload 4, 2, 0, 0, 0), (76, .iconst 2, 1, 0, 0, 0), (77, .iload 5, 2, 0, 0, 0), (79, .aload_n 0, 1, 0, 0, 0), (80, .getfield 21, 3, 5, 5, 0), (83, .getfield 210, 3, 1, 0, 0),
  (86, .invokevirtual 121, 3, 150, 5, 5), (89, .aload_n 0, 1, 0, 0, 0), (90, .getfield 42, 3, 5, 2, 0), (93, .getfield 105, 3, 2, 5, 0), (96, .iload 4, 2, 0, 0, 0), (98, .iaload, 1, 0, 0, 0), (99, .ifCond .ne 12, 3, 0, 0, 0), (102, .aload_n 0, 1, 0, 0, 0),
  (103, .iload 4, 2, 0, 0, 0), (105, .invokevirtual 131, 3, 146, 2, 5), (108, .goto 32, 3, 0, 0, 0), (111, .aload_n 0, 1, 0, 0, 0), (112, .iload 4, 2, 0, 0, 0), (114, .aload_n 0, 1, 0, 0, 0), (115, .getfield 42, 3, 5, 2, 0), (118, .getfield 111, 3, 2, 7, 0),
  (121, .iload 4, 2, 0, 0, 0), (123, .iaload, 1, 0, 0, 0), (124, .aload_n 0, 1, 0, 0, 0), (125, .getfield 42, 3, 5, 2, 0), (128, .getfield 105, 3, 2, 5, 0), (131, .iload 4, 2, 0, 0, 0), (133, .iaload, 1, 0, 0, 0), (134, .invokestatic 134, 3, 2, 0, 0),
  (137, .invokevirtual 140, 3, 147, 3, 5), (140, .iinc 3 1, 3, 0, 0, 0), (143, .goto (-133), 3, 0, 0, 0), (146, .return_, 1, 0, 0, 0)])
def mm130 : ma_M := (⟨RC5, "cancelAll", "()V"⟩, prog_6_method_21_code, 2, none, 0, 5, [
  (0, .iconst 0, 1, 0, 0, 0), (1, .istore_n 1, 1, 0, 0, 0), (2, .iload_n 1, 1, 0, 0, 0), (3, .aload_n 0, 1, 0, 0, 0), (4, .getfield 42, 3, 5, 2, 0), (7, .getfield 71, 3, 2, 0, 0), (10, .if_icmp .ge 26, 3, 0, 0, 0), (13, .aload_n 0, 1, 0, 0, 0),
  (14, .getfield 42, 3, 5, 2, 0), (17, .getfield 102, 3, 2, 4, 0), (20, .iload_n 1, 1, 0, 0, 0), (21, .iaload, 1, 0, 0, 0), (22, .ifCond .eq 8, 3, 0, 0, 0), (25, .aload_n 0, 1, 0, 0, 0), (26, .iload_n 1, 1, 0, 0, 0), (27, .invokevirtual 172, 3, 126, 2, 5),
  (30, .iinc 1 1, 3, 0, 0, 0), (33, .goto (-31), 3, 0, 0, 0), (36, .return_, 1, 0, 0, 0)])
def mm131 : ma_M := (⟨RC5, "lowestDueStop", "()I"⟩, prog_6_method_22_code, 2, some .int, 0, 5, [
  (0, .iconst 0, 1, 0, 0, 0), (1, .istore_n 1, 1, 0, 0, 0), (2, .iload_n 1, 1, 0, 0, 0), (3, .aload_n 0, 1, 0, 0, 0), (4, .getfield 42, 3, 5, 2, 0), (7, .getfield 71, 3, 2, 0, 0), (10, .if_icmp .ge 32, 3, 0, 0, 0), (13, .aload_n 0, 1, 0, 0, 0),
  (14, .getfield 42, 3, 5, 2, 0), (17, .getfield 102, 3, 2, 4, 0), (20, .iload_n 1, 1, 0, 0, 0), (21, .iaload, 1, 0, 0, 0), (22, .iconst 2, 1, 0, 0, 0), (23, .if_icmp .ne 13, 3, 0, 0, 0), (26, .aload_n 0, 1, 0, 0, 0), (27, .iload_n 1, 1, 0, 0, 0),
  (28, .invokevirtual 212, 3, 142, 2, 5), (31, .ifCond .eq 5, 3, 0, 0, 0), (34, .iload_n 1, 1, 0, 0, 0), (35, .ireturn, 1, 0, 0, 0), (36, .iinc 1 1, 3, 0, 0, 0), (39, .goto (-37), 3, 0, 0, 0), (42, .iconst (-1), 1, 0, 0, 0), (43, .ireturn, 1, 0, 0, 0)])
def mm132 : ma_M := (⟨RC5, "isDue", "(I)Z"⟩, prog_6_method_23_code, 3, some .boolean, 1, 5, [
  (0, .aload_n 0, 1, 0, 0, 0), (1, .getfield 42, 3, 5, 2, 0), (4, .getfield 108, 3, 2, 6, 0), (7, .iload_n 1, 1, 0, 0, 0), (8, .iaload, 1, 0, 0, 0), (9, .istore_n 2, 1, 0, 0, 0), (10, .aload_n 0, 1, 0, 0, 0), (11, .getfield 42, 3, 5, 2, 0),
  (14, .getfield 96, 3, 2, 2, 0), (17, .iload_n 1, 1, 0, 0, 0), (18, .iaload, 1, 0, 0, 0), (19, .ifCond .ne 22, 3, 0, 0, 0), (22, .iload_n 2, 1, 0, 0, 0), (23, .aload_n 0, 1, 0, 0, 0), (24, .getfield 34, 3, 5, 1, 0), (27, .getfield 194, 3, 7, 1, 0),
  (30, .if_icmp .gt 7, 3, 0, 0, 0), (33, .iconst 1, 1, 0, 0, 0), (34, .goto 23, 3, 0, 0, 0), (37, .iconst 0, 1, 0, 0, 0), (38, .goto 19, 3, 0, 0, 0), (41, .iload_n 2, 1, 0, 0, 0), (42, .aload_n 0, 1, 0, 0, 0), (43, .getfield 34, 3, 5, 1, 0),
  (46, .getfield 194, 3, 7, 1, 0), (49, .if_icmp .lt 7, 3, 0, 0, 0), (52, .iconst 1, 1, 0, 0, 0), (53, .goto 4, 3, 0, 0, 0), (56, .iconst 0, 1, 0, 0, 0), (57, .ireturn, 1, 0, 0, 0)])
def mm133 : ma_M := (⟨RC5, "meets", "(II)Z"⟩, prog_6_method_24_code, 4, some .boolean, 2, 5, [
  (0, .aload_n 0, 1, 0, 0, 0), (1, .getfield 42, 3, 5, 2, 0), (4, .getfield 99, 3, 2, 3, 0), (7, .iload_n 2, 1, 0, 0, 0), (8, .iaload, 1, 0, 0, 0), (9, .invokestatic 52, 3, 37, 1, 100), (12, .ifCond .ne 5, 3, 0, 0, 0), (15, .iconst 1, 1, 0, 0, 0),
  (16, .ireturn, 1, 0, 0, 0), (17, .aload_n 0, 1, 0, 0, 0), (18, .getfield 42, 3, 5, 2, 0), (21, .getfield 108, 3, 2, 6, 0), (24, .iload_n 2, 1, 0, 0, 0), (25, .iaload, 1, 0, 0, 0), (26, .istore_n 3, 1, 0, 0, 0), (27, .aload_n 0, 1, 0, 0, 0),
  (28, .getfield 42, 3, 5, 2, 0), (31, .getfield 96, 3, 2, 2, 0), (34, .iload_n 2, 1, 0, 0, 0), (35, .iaload, 1, 0, 0, 0), (36, .ifCond .ne 16, 3, 0, 0, 0), (39, .iload_n 1, 1, 0, 0, 0), (40, .iload_n 3, 1, 0, 0, 0), (41, .if_icmp .gt 7, 3, 0, 0, 0),
  (44, .iconst 1, 1, 0, 0, 0), (45, .goto 17, 3, 0, 0, 0), (48, .iconst 0, 1, 0, 0, 0), (49, .goto 13, 3, 0, 0, 0), (52, .iload_n 1, 1, 0, 0, 0), (53, .iload_n 3, 1, 0, 0, 0), (54, .if_icmp .lt 7, 3, 0, 0, 0), (57, .iconst 1, 1, 0, 0, 0),
  (58, .goto 4, 3, 0, 0, 0), (61, .iconst 0, 1, 0, 0, 0), (62, .ireturn, 1, 0, 0, 0)])
def mm134 : ma_M := (⟨RC5, "isWild", "(I)Z"⟩, prog_6_method_25_code, 2, some .boolean, 1, 5, [
  (0, .iload_n 1, 1, 0, 0, 0), (1, .aload_n 0, 1, 0, 0, 0), (2, .getfield 34, 3, 5, 1, 0), (5, .getfield 197, 3, 7, 2, 0), (8, .isub, 1, 0, 0, 0), (9, .invokestatic 215, 3, 3, 0, 0), (12, .aload_n 0, 1, 0, 0, 0), (13, .getfield 25, 3, 5, 0, 0),
  (16, .if_icmp .le 7, 3, 0, 0, 0), (19, .iconst 1, 1, 0, 0, 0), (20, .goto 4, 3, 0, 0, 0), (23, .iconst 0, 1, 0, 0, 0), (24, .ireturn, 1, 0, 0, 0)])
def mm135 : ma_M := (⟨RC5, "rest", "(I)V"⟩, prog_6_method_26_code, 3, none, 1, 5, [
  (0, .aload_n 0, 1, 0, 0, 0), (1, .getfield 42, 3, 5, 2, 0), (4, .getfield 111, 3, 2, 7, 0), (7, .iload_n 1, 1, 0, 0, 0), (8, .iaload, 1, 0, 0, 0), (9, .aload_n 0, 1, 0, 0, 0), (10, .getfield 42, 3, 5, 2, 0), (13, .getfield 105, 3, 2, 5, 0),
  (16, .iload_n 1, 1, 0, 0, 0), (17, .iaload, 1, 0, 0, 0), (18, .invokestatic 134, 3, 2, 0, 0), (21, .istore_n 2, 1, 0, 0, 0), (22, .aload_n 0, 1, 0, 0, 0), (23, .getfield 42, 3, 5, 2, 0), (26, .getfield 102, 3, 2, 4, 0), (29, .iload_n 1, 1, 0, 0, 0),
  (30, .iconst 1, 1, 0, 0, 0), (31, .iastore, 1, 0, 0, 0), (32, .aload_n 0, 1, 0, 0, 0), (33, .getfield 42, 3, 5, 2, 0), (36, .getfield 114, 3, 2, 8, 0), (39, .iload_n 1, 1, 0, 0, 0), (40, .iload_n 2, 1, 0, 0, 0), (41, .iastore, 1, 0, 0, 0),
  (42, .aload_n 0, 1, 0, 0, 0), (43, .getfield 42, 3, 5, 2, 0), (46, .iload_n 1, 1, 0, 0, 0), (47, .invokevirtual 218, 3, 109, 2, 2), (50, .aload_n 0, 1, 0, 0, 0), (51, .getfield 12, 3, 5, 4, 0), (54, .aload_n 0, 1, 0, 0, 0), (55, .getfield 42, 3, 5, 2, 0),
  (58, .getfield 96, 3, 2, 2, 0), (61, .iload_n 1, 1, 0, 0, 0), (62, .iaload, 1, 0, 0, 0), (63, .aload_n 0, 1, 0, 0, 0), (64, .getfield 42, 3, 5, 2, 0), (67, .getfield 108, 3, 2, 6, 0), (70, .iload_n 1, 1, 0, 0, 0), (71, .iaload, 1, 0, 0, 0),
  (72, .iload_n 2, 1, 0, 0, 0), (73, .invokevirtual 221, 3, 118, 4, 4), (76, .return_, 1, 0, 0, 0)])
def mm136 : ma_M := (⟨RC5, "takeOut", "(I)V"⟩, prog_6_method_27_code, 2, none, 1, 5, [
  (0, .aload_n 0, 1, 0, 0, 0), (1, .getfield 12, 3, 5, 4, 0), (4, .aload_n 0, 1, 0, 0, 0), (5, .getfield 42, 3, 5, 2, 0), (8, .getfield 96, 3, 2, 2, 0), (11, .iload_n 1, 1, 0, 0, 0), (12, .iaload, 1, 0, 0, 0), (13, .aload_n 0, 1, 0, 0, 0),
  (14, .getfield 42, 3, 5, 2, 0), (17, .getfield 108, 3, 2, 6, 0), (20, .iload_n 1, 1, 0, 0, 0), (21, .iaload, 1, 0, 0, 0), (22, .aload_n 0, 1, 0, 0, 0), (23, .getfield 42, 3, 5, 2, 0), (26, .getfield 114, 3, 2, 8, 0), (29, .iload_n 1, 1, 0, 0, 0),
  (30, .iaload, 1, 0, 0, 0), (31, .ineg, 1, 0, 0, 0), (32, .invokevirtual 221, 3, 118, 4, 4), (35, .aload_n 0, 1, 0, 0, 0), (36, .getfield 42, 3, 5, 2, 0), (39, .iload_n 1, 1, 0, 0, 0), (40, .invokevirtual 225, 3, 110, 2, 2), (43, .aload_n 0, 1, 0, 0, 0),
  (44, .getfield 42, 3, 5, 2, 0), (47, .getfield 114, 3, 2, 8, 0), (50, .iload_n 1, 1, 0, 0, 0), (51, .iconst 0, 1, 0, 0, 0), (52, .iastore, 1, 0, 0, 0), (53, .aload_n 0, 1, 0, 0, 0), (54, .getfield 42, 3, 5, 2, 0), (57, .getfield 102, 3, 2, 4, 0),
  (60, .iload_n 1, 1, 0, 0, 0), (61, .iconst 0, 1, 0, 0, 0), (62, .iastore, 1, 0, 0, 0), (63, .return_, 1, 0, 0, 0)])
def mm137 : ma_M := (⟨RC5, "show", "(II)V"⟩, prog_6_method_28_code, 3, none, 2, 5, [
  (0, .aload_n 0, 1, 0, 0, 0), (1, .getfield 12, 3, 5, 4, 0), (4, .aload_n 0, 1, 0, 0, 0), (5, .getfield 42, 3, 5, 2, 0), (8, .getfield 96, 3, 2, 2, 0), (11, .iload_n 1, 1, 0, 0, 0), (12, .iaload, 1, 0, 0, 0), (13, .aload_n 0, 1, 0, 0, 0),
  (14, .getfield 42, 3, 5, 2, 0), (17, .getfield 108, 3, 2, 6, 0), (20, .iload_n 1, 1, 0, 0, 0), (21, .iaload, 1, 0, 0, 0), (22, .iload_n 2, 1, 0, 0, 0), (23, .aload_n 0, 1, 0, 0, 0), (24, .getfield 42, 3, 5, 2, 0), (27, .getfield 114, 3, 2, 8, 0),
  (30, .iload_n 1, 1, 0, 0, 0), (31, .iaload, 1, 0, 0, 0), (32, .isub, 1, 0, 0, 0), (33, .invokevirtual 221, 3, 118, 4, 4), (36, .aload_n 0, 1, 0, 0, 0), (37, .getfield 42, 3, 5, 2, 0), (40, .getfield 114, 3, 2, 8, 0), (43, .iload_n 1, 1, 0, 0, 0),
  (44, .iload_n 2, 1, 0, 0, 0), (45, .iastore, 1, 0, 0, 0), (46, .return_, 1, 0, 0, 0)])
def mm138 : ma_M := (⟨RC5, "moveLevels", "(I)V"⟩, prog_6_method_29_code, 5, none, 1, 5, [
  (0, .iconst 0, 1, 0, 0, 0), (1, .istore_n 2, 1, 0, 0, 0), (2, .iload_n 2, 1, 0, 0, 0), (3, .iconst 2, 1, 0, 0, 0), (4, .if_icmp .ge 73, 3, 0, 0, 0), (7, .iconst 0, 1, 0, 0, 0), (8, .istore_n 3, 1, 0, 0, 0), (9, .iload_n 3, 1, 0, 0, 0),
  (10, .aload_n 0, 1, 0, 0, 0), (11, .getfield 42, 3, 5, 2, 0), (14, .getfield 175, 3, 2, 10, 0), (17, .iload_n 2, 1, 0, 0, 0), (18, .iaload, 1, 0, 0, 0), (19, .if_icmp .ge 52, 3, 0, 0, 0), (22, .aload_n 0, 1, 0, 0, 0), (23, .getfield 42, 3, 5, 2, 0),
  (26, .getfield 178, 3, 2, 9, 0), (29, .iload_n 2, 1, 0, 0, 0), (30, .aaload, 1, 0, 0, 0), (31, .iload_n 3, 1, 0, 0, 0), (32, .iaload, 1, 0, 0, 0), (33, .istore 4, 2, 0, 0, 0), (35, .aload_n 0, 1, 0, 0, 0), (36, .getfield 12, 3, 5, 4, 0),
  (39, .iload_n 2, 1, 0, 0, 0), (40, .aload_n 0, 1, 0, 0, 0), (41, .getfield 42, 3, 5, 2, 0), (44, .getfield 108, 3, 2, 6, 0), (47, .iload 4, 2, 0, 0, 0), (49, .iaload, 1, 0, 0, 0), (50, .iload_n 1, 1, 0, 0, 0), (51, .aload_n 0, 1, 0, 0, 0),
  (52, .getfield 42, 3, 5, 2, 0), (55, .getfield 114, 3, 2, 8, 0), (58, .iload 4, 2, 0, 0, 0), (60, .iaload, 1, 0, 0, 0), (61, .imul, 1, 0, 0, 0), (62, .invokevirtual 221, 3, 118, 4, 4), (65, .iinc 3 1, 3, 0, 0, 0), (68, .goto (-59), 3, 0, 0, 0),
  (71, .iinc 2 1, 3, 0, 0, 0), (74, .goto (-72), 3, 0, 0, 0), (77, .return_, 1, 0, 0, 0)])
def mm139 : ma_M := (⟨RC5, "priceToTell", "(I)I"⟩, prog_6_method_30_code, 2, some .int, 1, 5, [
  (0, .aload_n 0, 1, 0, 0, 0), (1, .getfield 42, 3, 5, 2, 0), (4, .getfield 99, 3, 2, 3, 0), (7, .iload_n 1, 1, 0, 0, 0), (8, .iaload, 1, 0, 0, 0), (9, .invokestatic 52, 3, 37, 1, 100), (12, .ifCond .eq 15, 3, 0, 0, 0), (15, .aload_n 0, 1, 0, 0, 0),
  (16, .getfield 42, 3, 5, 2, 0), (19, .getfield 108, 3, 2, 6, 0), (22, .iload_n 1, 1, 0, 0, 0), (23, .iaload, 1, 0, 0, 0), (24, .goto 4, 3, 0, 0, 0), (27, .iconst 0, 1, 0, 0, 0), (28, .ireturn, 1, 0, 0, 0)])
def mm140 : ma_M := (⟨RC5, "tellOwner", "(IIII)V"⟩, prog_6_method_31_code, 5, none, 4, 5, [
  (0, .aload_n 0, 1, 0, 0, 0), (1, .getfield 47, 3, 5, 3, 0), (4, .aload_n 0, 1, 0, 0, 0), (5, .getfield 42, 3, 5, 2, 0), (8, .getfield 93, 3, 2, 1, 0), (11, .iload_n 1, 1, 0, 0, 0), (12, .iaload, 1, 0, 0, 0), (13, .iload_n 2, 1, 0, 0, 0),
  (14, .iload_n 1, 1, 0, 0, 0), (15, .iload_n 3, 1, 0, 0, 0), (16, .iload 4, 2, 0, 0, 0), (18, .invokevirtual 228, 3, 152, 6, 6), (21, .return_, 1, 0, 0, 0)])
def mm141 : ma_M := (⟨RC6, "<init>", "()V"⟩, prog_7_method_1_code, 1, none, 0, 6, [
  (0, .aload_n 0, 1, 0, 0, 0), (1, .invokespecial 3, 3, 5, 0, 0), (4, .aload_n 0, 1, 0, 0, 0), (5, .iconst 4, 1, 0, 0, 0), (6, .newarray .int, 2, 0, 0, 0), (8, .dup, 1, 0, 0, 0), (9, .iconst 0, 1, 0, 0, 0), (10, .iconst 1, 1, 0, 0, 0),
  (11, .iastore, 1, 0, 0, 0), (12, .dup, 1, 0, 0, 0), (13, .iconst 1, 1, 0, 0, 0), (14, .iconst 1, 1, 0, 0, 0), (15, .iastore, 1, 0, 0, 0), (16, .dup, 1, 0, 0, 0), (17, .iconst 2, 1, 0, 0, 0), (18, .iconst 1, 1, 0, 0, 0),
  (19, .iastore, 1, 0, 0, 0), (20, .dup, 1, 0, 0, 0), (21, .iconst 3, 1, 0, 0, 0), (22, .iconst 1, 1, 0, 0, 0), (23, .iastore, 1, 0, 0, 0), (24, .putfield 9, 3, 6, 0, 0), (27, .aload_n 0, 1, 0, 0, 0), (28, .iconst 4, 1, 0, 0, 0),
  (29, .newarray .int, 2, 0, 0, 0), (31, .putfield 15, 3, 6, 1, 0), (34, .aload_n 0, 1, 0, 0, 0), (35, .iconst 4, 1, 0, 0, 0), (36, .newarray .int, 2, 0, 0, 0), (38, .putfield 18, 3, 6, 2, 0), (41, .aload_n 0, 1, 0, 0, 0), (42, .iconst 4, 1, 0, 0, 0),
  (43, .sipush 128, 3, 0, 0, 0), (46, .multianewarray 21 2, 4, 0, 0, 0), (50, .putfield 23, 3, 6, 3, 0), (53, .return_, 1, 0, 0, 0)])
def mm142 : ma_M := (⟨RC6, "addReport", "(IIIII)V"⟩, prog_7_method_2_code, 8, none, 5, 6, [
  (0, .aload_n 0, 1, 0, 0, 0), (1, .getfield 23, 3, 6, 3, 0), (4, .iload_n 1, 1, 0, 0, 0), (5, .aaload, 1, 0, 0, 0), (6, .astore 6, 2, 0, 0, 0), (8, .aload_n 0, 1, 0, 0, 0), (9, .getfield 18, 3, 6, 2, 0), (12, .iload_n 1, 1, 0, 0, 0),
  (13, .iaload, 1, 0, 0, 0), (14, .bipush 31, 2, 0, 0, 0), (16, .iand, 1, 0, 0, 0), (17, .iconst 4, 1, 0, 0, 0), (18, .imul, 1, 0, 0, 0), (19, .istore 7, 2, 0, 0, 0), (21, .aload 6, 2, 0, 0, 0), (23, .iload 7, 2, 0, 0, 0),
  (25, .iload_n 2, 1, 0, 0, 0), (26, .iastore, 1, 0, 0, 0), (27, .aload 6, 2, 0, 0, 0), (29, .iload 7, 2, 0, 0, 0), (31, .iconst 1, 1, 0, 0, 0), (32, .iadd, 1, 0, 0, 0), (33, .iload_n 3, 1, 0, 0, 0), (34, .iastore, 1, 0, 0, 0),
  (35, .aload 6, 2, 0, 0, 0), (37, .iload 7, 2, 0, 0, 0), (39, .iconst 2, 1, 0, 0, 0), (40, .iadd, 1, 0, 0, 0), (41, .iload 4, 2, 0, 0, 0), (43, .iastore, 1, 0, 0, 0), (44, .aload 6, 2, 0, 0, 0), (46, .iload 7, 2, 0, 0, 0),
  (48, .iconst 3, 1, 0, 0, 0), (49, .iadd, 1, 0, 0, 0), (50, .iload 5, 2, 0, 0, 0), (52, .iastore, 1, 0, 0, 0), (53, .aload_n 0, 1, 0, 0, 0), (54, .getfield 18, 3, 6, 2, 0), (57, .iload_n 1, 1, 0, 0, 0), (58, .dup2, 1, 0, 0, 0),
  (59, .iaload, 1, 0, 0, 0), (60, .iconst 1, 1, 0, 0, 0), (61, .iadd, 1, 0, 0, 0), (62, .iastore, 1, 0, 0, 0), (63, .return_, 1, 0, 0, 0)])
def mm143 : ma_M := (⟨RC6, "lookBack", "(III)I"⟩, prog_7_method_3_code, 5, some .int, 3, 6, [
  (0, .iload_n 2, 1, 0, 0, 0), (1, .ifCond .lt 19, 3, 0, 0, 0), (4, .iload_n 2, 1, 0, 0, 0), (5, .bipush 32, 2, 0, 0, 0), (7, .if_icmp .ge 13, 3, 0, 0, 0), (10, .iload_n 2, 1, 0, 0, 0), (11, .aload_n 0, 1, 0, 0, 0), (12, .getfield 18, 3, 6, 2, 0),
  (15, .iload_n 1, 1, 0, 0, 0), (16, .iaload, 1, 0, 0, 0), (17, .if_icmp .lt 5, 3, 0, 0, 0), (20, .iconst (-1), 1, 0, 0, 0), (21, .ireturn, 1, 0, 0, 0), (22, .aload_n 0, 1, 0, 0, 0), (23, .getfield 18, 3, 6, 2, 0), (26, .iload_n 1, 1, 0, 0, 0),
  (27, .iaload, 1, 0, 0, 0), (28, .iconst 1, 1, 0, 0, 0), (29, .isub, 1, 0, 0, 0), (30, .iload_n 2, 1, 0, 0, 0), (31, .isub, 1, 0, 0, 0), (32, .bipush 31, 2, 0, 0, 0), (34, .iand, 1, 0, 0, 0), (35, .iconst 4, 1, 0, 0, 0),
  (36, .imul, 1, 0, 0, 0), (37, .istore 4, 2, 0, 0, 0), (39, .aload_n 0, 1, 0, 0, 0), (40, .getfield 23, 3, 6, 3, 0), (43, .iload_n 1, 1, 0, 0, 0), (44, .aaload, 1, 0, 0, 0), (45, .iload 4, 2, 0, 0, 0), (47, .iload_n 3, 1, 0, 0, 0),
  (48, .iadd, 1, 0, 0, 0), (49, .iaload, 1, 0, 0, 0), (50, .ireturn, 1, 0, 0, 0)])
def mm144 : ma_M := (⟨RC6, "copyFrom", "(LPhaseBook$Sessions;)V"⟩, prog_7_method_4_code, 3, none, 1, 6, [
  (0, .aload_n 1, 1, 0, 0, 0), (1, .getfield 9, 3, 6, 0, 0), (4, .iconst 0, 1, 0, 0, 0), (5, .aload_n 0, 1, 0, 0, 0), (6, .getfield 9, 3, 6, 0, 0), (9, .iconst 0, 1, 0, 0, 0), (10, .iconst 4, 1, 0, 0, 0), (11, .invokestatic 26, 3, 4, 0, 0),
  (14, .aload_n 1, 1, 0, 0, 0), (15, .getfield 15, 3, 6, 1, 0), (18, .iconst 0, 1, 0, 0, 0), (19, .aload_n 0, 1, 0, 0, 0), (20, .getfield 15, 3, 6, 1, 0), (23, .iconst 0, 1, 0, 0, 0), (24, .iconst 4, 1, 0, 0, 0), (25, .invokestatic 26, 3, 4, 0, 0),
  (28, .aload_n 1, 1, 0, 0, 0), (29, .getfield 18, 3, 6, 2, 0), (32, .iconst 0, 1, 0, 0, 0), (33, .aload_n 0, 1, 0, 0, 0), (34, .getfield 18, 3, 6, 2, 0), (37, .iconst 0, 1, 0, 0, 0), (38, .iconst 4, 1, 0, 0, 0), (39, .invokestatic 26, 3, 4, 0, 0),
  (42, .iconst 0, 1, 0, 0, 0), (43, .istore_n 2, 1, 0, 0, 0), (44, .iload_n 2, 1, 0, 0, 0), (45, .iconst 4, 1, 0, 0, 0), (46, .if_icmp .ge 29, 3, 0, 0, 0), (49, .aload_n 1, 1, 0, 0, 0), (50, .getfield 23, 3, 6, 3, 0), (53, .iload_n 2, 1, 0, 0, 0),
  (54, .aaload, 1, 0, 0, 0), (55, .iconst 0, 1, 0, 0, 0), (56, .aload_n 0, 1, 0, 0, 0), (57, .getfield 23, 3, 6, 3, 0), (60, .iload_n 2, 1, 0, 0, 0), (61, .aaload, 1, 0, 0, 0), (62, .iconst 0, 1, 0, 0, 0), (63, .sipush 128, 3, 0, 0, 0),
  (66, .invokestatic 26, 3, 4, 0, 0), (69, .iinc 2 1, 3, 0, 0, 0), (72, .goto (-28), 3, 0, 0, 0), (75, .return_, 1, 0, 0, 0)])
def mm145 : ma_M := (⟨RC7, "<init>", "(I)V"⟩, prog_8_method_1_code, 2, none, 1, 7, [
  (0, .aload_n 0, 1, 0, 0, 0), (1, .invokespecial 3, 3, 5, 0, 0), (4, .aload_n 0, 1, 0, 0, 0), (5, .iconst 0, 1, 0, 0, 0), (6, .putfield 9, 3, 7, 0, 0), (9, .aload_n 0, 1, 0, 0, 0), (10, .new 15, 3, 2, 0, 0), (13, .dup, 1, 0, 0, 0),
  (14, .invokespecial 17, 3, 102, 1, 100), (17, .putfield 18, 3, 7, 3, 0), (20, .aload_n 0, 1, 0, 0, 0), (21, .new 22, 3, 6, 0, 0), (24, .dup, 1, 0, 0, 0), (25, .invokespecial 24, 3, 151, 1, 100), (28, .putfield 25, 3, 7, 4, 0), (31, .aload_n 0, 1, 0, 0, 0),
  (32, .iload_n 1, 1, 0, 0, 0), (33, .putfield 29, 3, 7, 1, 0), (36, .aload_n 0, 1, 0, 0, 0), (37, .iload_n 1, 1, 0, 0, 0), (38, .putfield 32, 3, 7, 2, 0), (41, .return_, 1, 0, 0, 0)])
def mm146 : ma_M := (⟨RC7, "copyFrom", "(LPhaseBook$State;)V"⟩, prog_8_method_2_code, 2, none, 1, 7, [
  (0, .aload_n 0, 1, 0, 0, 0), (1, .aload_n 1, 1, 0, 0, 0), (2, .getfield 9, 3, 7, 0, 0), (5, .putfield 9, 3, 7, 0, 0), (8, .aload_n 0, 1, 0, 0, 0), (9, .aload_n 1, 1, 0, 0, 0), (10, .getfield 29, 3, 7, 1, 0), (13, .putfield 29, 3, 7, 1, 0),
  (16, .aload_n 0, 1, 0, 0, 0), (17, .aload_n 1, 1, 0, 0, 0), (18, .getfield 32, 3, 7, 2, 0), (21, .putfield 32, 3, 7, 2, 0), (24, .aload_n 0, 1, 0, 0, 0), (25, .getfield 18, 3, 7, 3, 0), (28, .aload_n 1, 1, 0, 0, 0), (29, .getfield 18, 3, 7, 3, 0),
  (32, .invokevirtual 35, 3, 111, 2, 2), (35, .aload_n 0, 1, 0, 0, 0), (36, .getfield 25, 3, 7, 4, 0), (39, .aload_n 1, 1, 0, 0, 0), (40, .getfield 25, 3, 7, 4, 0), (43, .invokevirtual 39, 3, 154, 2, 6), (46, .return_, 1, 0, 0, 0)])
def mm147 : ma_M := (⟨RC8, "<init>", "()V"⟩, prog_9_method_1_code, 1, none, 0, 8, [
  (0, .aload_n 0, 1, 0, 0, 0), (1, .invokespecial 3, 3, 5, 0, 0), (4, .aload_n 0, 1, 0, 0, 0), (5, .iconst 2, 1, 0, 0, 0), (6, .sipush 1000, 3, 0, 0, 0), (9, .multianewarray 9 2, 4, 0, 0, 0), (13, .putfield 11, 3, 8, 1, 0), (16, .return_, 1, 0, 0, 0)])
def mm148 : ma_M := (⟨RC8, "receive", "(LPhaseBook$Feed;I)I"⟩, prog_9_method_2_code, 4, some .int, 2, 8, [
  (0, .aload_n 1, 1, 0, 0, 0), (1, .iload_n 2, 1, 0, 0, 0), (2, .invokevirtual 16, 3, 113, 2, 3), (5, .ifCond .ne 5, 3, 0, 0, 0), (8, .iconst (-1), 1, 0, 0, 0), (9, .ireturn, 1, 0, 0, 0), (10, .iload_n 2, 1, 0, 0, 0), (11, .aload_n 0, 1, 0, 0, 0),
  (12, .getfield 22, 3, 8, 0, 0), (15, .if_icmp .eq 18, 3, 0, 0, 0), (18, .iload_n 2, 1, 0, 0, 0), (19, .aload_n 0, 1, 0, 0, 0), (20, .getfield 22, 3, 8, 0, 0), (23, .if_icmp .le 8, 3, 0, 0, 0), (26, .bipush (-2), 2, 0, 0, 0), (28, .goto 4, 3, 0, 0, 0),
  (31, .iconst 0, 1, 0, 0, 0), (32, .ireturn, 1, 0, 0, 0), (33, .iload_n 2, 1, 0, 0, 0), (34, .invokestatic 26, 3, 116, 1, 0), (37, .istore_n 3, 1, 0, 0, 0), (38, .aload_n 0, 1, 0, 0, 0), (39, .getfield 11, 3, 8, 1, 0), (42, .aload_n 1, 1, 0, 0, 0),
  (43, .getfield 30, 3, 3, 1, 0), (46, .iload_n 3, 1, 0, 0, 0), (47, .iaload, 1, 0, 0, 0), (48, .aaload, 1, 0, 0, 0), (49, .aload_n 1, 1, 0, 0, 0), (50, .getfield 34, 3, 3, 2, 0), (53, .iload_n 3, 1, 0, 0, 0), (54, .iaload, 1, 0, 0, 0),
  (55, .aload_n 1, 1, 0, 0, 0), (56, .getfield 37, 3, 3, 3, 0), (59, .iload_n 3, 1, 0, 0, 0), (60, .iaload, 1, 0, 0, 0), (61, .iastore, 1, 0, 0, 0), (62, .aload_n 0, 1, 0, 0, 0), (63, .dup, 1, 0, 0, 0), (64, .getfield 22, 3, 8, 0, 0),
  (67, .iconst 1, 1, 0, 0, 0), (68, .iadd, 1, 0, 0, 0), (69, .putfield 22, 3, 8, 0, 0), (72, .iconst 1, 1, 0, 0, 0), (73, .ireturn, 1, 0, 0, 0)])
def mm149 : ma_M := (⟨RC8, "lookAt", "(LPhaseBook$Levels;I)V"⟩, prog_9_method_3_code, 4, none, 2, 8, [
  (0, .iconst 0, 1, 0, 0, 0), (1, .istore_n 3, 1, 0, 0, 0), (2, .iload_n 3, 1, 0, 0, 0), (3, .iconst 2, 1, 0, 0, 0), (4, .if_icmp .ge 29, 3, 0, 0, 0), (7, .aload_n 1, 1, 0, 0, 0), (8, .getfield 40, 3, 4, 0, 0), (11, .iload_n 3, 1, 0, 0, 0),
  (12, .aaload, 1, 0, 0, 0), (13, .iconst 0, 1, 0, 0, 0), (14, .aload_n 0, 1, 0, 0, 0), (15, .getfield 11, 3, 8, 1, 0), (18, .iload_n 3, 1, 0, 0, 0), (19, .aaload, 1, 0, 0, 0), (20, .iconst 0, 1, 0, 0, 0), (21, .sipush 1000, 3, 0, 0, 0),
  (24, .invokestatic 45, 3, 4, 0, 0), (27, .iinc 3 1, 3, 0, 0, 0), (30, .goto (-28), 3, 0, 0, 0), (33, .aload_n 0, 1, 0, 0, 0), (34, .iload_n 2, 1, 0, 0, 0), (35, .putfield 22, 3, 8, 0, 0), (38, .return_, 1, 0, 0, 0)])
def mm150 : ma_M := (⟨"PhaseBookLaw", "cell", "([II)I"⟩, method_2_code, 2, some .int, 2, 99, [
  (0, .iload_n 1, 1, 0, 0, 0), (1, .aload_n 0, 1, 0, 0, 0), (2, .arraylength, 1, 0, 0, 0), (3, .if_icmp .ge 9, 3, 0, 0, 0), (6, .aload_n 0, 1, 0, 0, 0), (7, .iload_n 1, 1, 0, 0, 0), (8, .iaload, 1, 0, 0, 0), (9, .goto 4, 3, 0, 0, 0),
  (12, .iconst 0, 1, 0, 0, 0), (13, .ireturn, 1, 0, 0, 0)])
def mm151 : ma_M := (⟨"java/lang/Math", "floorMod", "(II)I"⟩, prog_12_method_50_code, 3, some .int, 2, 99, [
  (0, .iload_n 0, 1, 0, 0, 0), (1, .iload_n 1, 1, 0, 0, 0), (2, .irem, 1, 0, 0, 0), (3, .istore_n 2, 1, 0, 0, 0), (4, .iload_n 2, 1, 0, 0, 0), (5, .iload_n 1, 1, 0, 0, 0), (6, .ixor, 1, 0, 0, 0), (7, .ifCond .ge 11, 3, 0, 0, 0),
  (10, .iload_n 2, 1, 0, 0, 0), (11, .ifCond .eq 7, 3, 0, 0, 0), (14, .iload_n 2, 1, 0, 0, 0), (15, .iload_n 1, 1, 0, 0, 0), (16, .iadd, 1, 0, 0, 0), (17, .istore_n 2, 1, 0, 0, 0), (18, .iload_n 2, 1, 0, 0, 0), (19, .ireturn, 1, 0, 0, 0)])
def PP : List ma_M := [mm0, mm1, mm2, mm3, mm4, mm5, mm6, mm7, mm8, mm9, mm10, mm11, mm12, mm13, mm14, mm15, mm16, mm17, mm18, mm19, mm20, mm21, mm22, mm23, mm24, mm25, mm26, mm27, mm28, mm29, mm30, mm31, mm32, mm33, mm34, mm35, mm36, mm37, mm38, mm39, mm40, mm41, mm42, mm43, mm44, mm45, mm46, mm47, mm48, mm49, mm50, mm51, mm52, mm53, mm54, mm55, mm56, mm57, mm58, mm59, mm60, mm61, mm62, mm63, mm64, mm65, mm66, mm67, mm68, mm69, mm70, mm71, mm72, mm73, mm74, mm75, mm76, mm77, mm78, mm79, mm80, mm81, mm82, mm83, mm84, mm85, mm86, mm87, mm88, mm89, mm90, mm91, mm92, mm93, mm94, mm95, mm96, mm97, mm98, mm99, mm100, mm101, mm102, mm103, mm104, mm105, mm106, mm107, mm108, mm109, mm110, mm111, mm112, mm113, mm114, mm115, mm116, mm117, mm118, mm119, mm120, mm121, mm122, mm123, mm124, mm125, mm126, mm127, mm128, mm129, mm130, mm131, mm132, mm133, mm134, mm135, mm136, mm137, mm138, mm139, mm140, mm141, mm142, mm143, mm144, mm145, mm146, mm147, mm148, mm149, mm150, mm151]
end
section
/-! 54.words: the words that the table wants are among the tables' (written by gen2b.py) -/
def Ts : List Cond := (CLS.flatMap fun q => u_ws q.1 q.2.1 q.2.2) ++ (PP.flatMap (ma_wm CLS PP) ++ (PP.drop 1).flatMap fun my => [Cond.code my.1 my.2.1 my.2.2.1 my.2.2.2.1, Cond.initialized my.1.cls])
def NS : List Cond := PP.flatMap (ma_wnm "PhaseBook" CLS PP)
theorem wd_in {big ws : List Cond} (ps : List Nat) (h : ws = ps.filterMap (fun i => big[i]?)) : ∀ w ∈ ws, w ∈ big := by
  intro w hw
  rw [h] at hw
  obtain ⟨i, -, hi⟩ := List.mem_filterMap.mp hw
  exact List.mem_of_getElem? hi
set_option maxRecDepth 100000 in
theorem wd_0 : ∀ w ∈ ma_wm CLS PP mm0, w ∈ lw_tbl := wd_in [68, 69, 56, 681, 680, 681, 680, 71, 70, 683, 684, 66, 681, 680, 681, 680, 686, 685, 336, 337, 335, 770, 771, 769, 343, 344, 342, 777, 778, 776, 499, 500, 498, 880, 881, 879, 516, 517, 515, 888, 889, 887, 528, 529, 527, 892, 893, 891, 574, 575, 573, 918, 919, 917, 594, 595, 593, 922, 923, 921, 607, 608, 606, 926, 927, 925, 613, 614, 612, 930, 931, 929, 621, 622, 620, 937, 938, 936, 626, 627, 625, 941, 942, 940, 635, 636, 634, 949, 950, 948, 639, 640, 638, 953, 954, 952, 647, 648, 646, 957, 958, 956, 651, 652, 650, 961, 962, 960, 664, 665, 663, 965, 966, 964, 673, 674, 672, 969, 970, 968, 677, 678, 676, 973, 974, 972] rfl
set_option maxRecDepth 100000 in
theorem wn_0 : ∀ w ∈ ma_wnm "PhaseBook" CLS PP mm0, w ∈ lw_tbl := wd_in [] rfl
set_option maxRecDepth 100000 in
theorem wd_1 : ∀ w ∈ ma_wm CLS PP mm1, w ∈ lw_tbl := wd_in [73, 74, 75, 77, 76, 85, 86, 58, 77, 76, 88, 87, 322, 277, 137, 61, 139, 278, 323, 279, 280, 64, 282, 324, 306, 307, 65, 309, 325] rfl
set_option maxRecDepth 100000 in
theorem wn_1 : ∀ w ∈ ma_wnm "PhaseBook" CLS PP mm1, w ∈ lw_tbl := wd_in [281, 308] rfl
set_option maxRecDepth 100000 in
theorem wc_1 : ∀ w ∈ [Cond.code mm1.1 mm1.2.1 mm1.2.2.1 mm1.2.2.2.1, Cond.initialized mm1.1.cls], w ∈ lw_tbl := wd_in [72, 56] rfl
set_option maxRecDepth 100000 in
theorem wd_2 : ∀ w ∈ ma_wm CLS PP mm2, w ∈ lw_tbl := wd_in [340, 339, 322, 259, 214] rfl
set_option maxRecDepth 100000 in
theorem wn_2 : ∀ w ∈ ma_wnm "PhaseBook" CLS PP mm2, w ∈ lw_tbl := wd_in [] rfl
set_option maxRecDepth 100000 in
theorem wc_2 : ∀ w ∈ [Cond.code mm2.1 mm2.2.1 mm2.2.2.1 mm2.2.2.2.1, Cond.initialized mm2.1.cls], w ∈ lw_tbl := wd_in [338, 56] rfl
set_option maxRecDepth 100000 in
theorem wd_3 : ∀ w ∈ ma_wm CLS PP mm3, w ∈ lw_tbl := wd_in [348, 0, 346, 322, 351, 352, 350, 322, 384, 385, 383, 465, 14, 463] rfl
set_option maxRecDepth 100000 in
theorem wn_3 : ∀ w ∈ ma_wnm "PhaseBook" CLS PP mm3, w ∈ lw_tbl := wd_in [] rfl
set_option maxRecDepth 100000 in
theorem wc_3 : ∀ w ∈ [Cond.code mm3.1 mm3.2.1 mm3.2.2.1 mm3.2.2.2.1, Cond.initialized mm3.1.cls], w ∈ lw_tbl := wd_in [345, 56] rfl
set_option maxRecDepth 100000 in
theorem wd_4 : ∀ w ∈ ma_wm CLS PP mm4, w ∈ lw_tbl := wd_in [348, 0, 346, 322, 503, 504, 502, 322, 427, 428, 514, 465, 14, 463] rfl
set_option maxRecDepth 100000 in
theorem wn_4 : ∀ w ∈ ma_wnm "PhaseBook" CLS PP mm4, w ∈ lw_tbl := wd_in [] rfl
set_option maxRecDepth 100000 in
theorem wc_4 : ∀ w ∈ [Cond.code mm4.1 mm4.2.1 mm4.2.2.1 mm4.2.2.2.1, Cond.initialized mm4.1.cls], w ∈ lw_tbl := wd_in [501, 56] rfl
set_option maxRecDepth 100000 in
theorem wd_5 : ∀ w ∈ ma_wm CLS PP mm5, w ∈ lw_tbl := wd_in [348, 0, 346, 322, 520, 521, 519, 322, 524, 525, 523, 465, 14, 463] rfl
set_option maxRecDepth 100000 in
theorem wn_5 : ∀ w ∈ ma_wnm "PhaseBook" CLS PP mm5, w ∈ lw_tbl := wd_in [] rfl
set_option maxRecDepth 100000 in
theorem wc_5 : ∀ w ∈ [Cond.code mm5.1 mm5.2.1 mm5.2.2.1 mm5.2.2.2.1, Cond.initialized mm5.1.cls], w ∈ lw_tbl := wd_in [518, 56] rfl
set_option maxRecDepth 100000 in
theorem wd_6 : ∀ w ∈ ma_wm CLS PP mm6, w ∈ lw_tbl := wd_in [322, 532, 533, 531, 322, 536, 537, 535, 322, 469, 470, 468, 324, 322, 261, 481, 482, 480] rfl
set_option maxRecDepth 100000 in
theorem wn_6 : ∀ w ∈ ma_wnm "PhaseBook" CLS PP mm6, w ∈ lw_tbl := wd_in [] rfl
set_option maxRecDepth 100000 in
theorem wc_6 : ∀ w ∈ [Cond.code mm6.1 mm6.2.1 mm6.2.2.1 mm6.2.2.2.1, Cond.initialized mm6.1.cls], w ∈ lw_tbl := wd_in [530, 56] rfl
set_option maxRecDepth 100000 in
theorem wd_7 : ∀ w ∈ ma_wm CLS PP mm7, w ∈ lw_tbl := wd_in [323, 322, 255, 578, 579, 577, 323, 239, 151] rfl
set_option maxRecDepth 100000 in
theorem wn_7 : ∀ w ∈ ma_wnm "PhaseBook" CLS PP mm7, w ∈ lw_tbl := wd_in [] rfl
set_option maxRecDepth 100000 in
theorem wc_7 : ∀ w ∈ [Cond.code mm7.1 mm7.2.1 mm7.2.2.1 mm7.2.2.2.1, Cond.initialized mm7.1.cls], w ∈ lw_tbl := wd_in [576, 56] rfl
set_option maxRecDepth 100000 in
theorem wd_8 : ∀ w ∈ ma_wm CLS PP mm8, w ∈ lw_tbl := wd_in [322, 323, 598, 599, 597, 324, 322, 261, 481, 482, 480, 322, 257, 151] rfl
set_option maxRecDepth 100000 in
theorem wn_8 : ∀ w ∈ ma_wnm "PhaseBook" CLS PP mm8, w ∈ lw_tbl := wd_in [] rfl
set_option maxRecDepth 100000 in
theorem wc_8 : ∀ w ∈ [Cond.code mm8.1 mm8.2.1 mm8.2.2.1 mm8.2.2.2.1, Cond.initialized mm8.1.cls], w ∈ lw_tbl := wd_in [596, 56] rfl
set_option maxRecDepth 100000 in
theorem wd_9 : ∀ w ∈ ma_wm CLS PP mm9, w ∈ lw_tbl := wd_in [322, 263, 322, 255, 230, 322, 255, 232, 322, 255, 235, 322, 257, 380, 381, 610, 322, 257, 322, 255, 235, 544, 545, 611, 122, 322, 257, 322, 255, 235, 544, 545, 611, 125, 322, 257, 322, 255, 235, 544, 545, 611, 128] rfl
set_option maxRecDepth 100000 in
theorem wn_9 : ∀ w ∈ ma_wnm "PhaseBook" CLS PP mm9, w ∈ lw_tbl := wd_in [] rfl
set_option maxRecDepth 100000 in
theorem wc_9 : ∀ w ∈ [Cond.code mm9.1 mm9.2.1 mm9.2.2.1 mm9.2.2.2.1, Cond.initialized mm9.1.cls], w ∈ lw_tbl := wd_in [609, 56] rfl
set_option maxRecDepth 100000 in
theorem wd_10 : ∀ w ∈ ma_wm CLS PP mm10, w ∈ lw_tbl := wd_in [617, 616, 361, 619, 322, 261, 102] rfl
set_option maxRecDepth 100000 in
theorem wn_10 : ∀ w ∈ ma_wnm "PhaseBook" CLS PP mm10, w ∈ lw_tbl := wd_in [] rfl
set_option maxRecDepth 100000 in
theorem wc_10 : ∀ w ∈ [Cond.code mm10.1 mm10.2.1 mm10.2.2.1 mm10.2.2.2.1, Cond.initialized mm10.1.cls], w ∈ lw_tbl := wd_in [615, 56] rfl
set_option maxRecDepth 100000 in
theorem wd_11 : ∀ w ∈ ma_wm CLS PP mm11, w ∈ lw_tbl := wd_in [617, 616, 322, 257, 548, 549, 624] rfl
set_option maxRecDepth 100000 in
theorem wn_11 : ∀ w ∈ ma_wnm "PhaseBook" CLS PP mm11, w ∈ lw_tbl := wd_in [] rfl
set_option maxRecDepth 100000 in
theorem wc_11 : ∀ w ∈ [Cond.code mm11.1 mm11.2.1 mm11.2.2.1 mm11.2.2.2.1, Cond.initialized mm11.1.cls], w ∈ lw_tbl := wd_in [623, 56] rfl
set_option maxRecDepth 100000 in
theorem wd_12 : ∀ w ∈ ma_wm CLS PP mm12, w ∈ lw_tbl := wd_in [322, 257, 511, 512, 629, 161, 165, 169, 174, 154, 631, 632, 630] rfl
set_option maxRecDepth 100000 in
theorem wn_12 : ∀ w ∈ ma_wnm "PhaseBook" CLS PP mm12, w ∈ lw_tbl := wd_in [] rfl
set_option maxRecDepth 100000 in
theorem wc_12 : ∀ w ∈ [Cond.code mm12.1 mm12.2.1 mm12.2.2.1 mm12.2.2.2.1, Cond.initialized mm12.1.cls], w ∈ lw_tbl := wd_in [628, 56] rfl
set_option maxRecDepth 100000 in
theorem wd_13 : ∀ w ∈ ma_wm CLS PP mm13, w ∈ lw_tbl := wd_in [340, 339, 322, 259, 212, 322, 259, 217] rfl
set_option maxRecDepth 100000 in
theorem wn_13 : ∀ w ∈ ma_wnm "PhaseBook" CLS PP mm13, w ∈ lw_tbl := wd_in [] rfl
set_option maxRecDepth 100000 in
theorem wc_13 : ∀ w ∈ [Cond.code mm13.1 mm13.2.1 mm13.2.2.1 mm13.2.2.2.1, Cond.initialized mm13.1.cls], w ∈ lw_tbl := wd_in [637, 56] rfl
set_option maxRecDepth 100000 in
theorem wd_14 : ∀ w ∈ ma_wm CLS PP mm14, w ∈ lw_tbl := wd_in [340, 339, 322, 259, 643, 644, 642] rfl
set_option maxRecDepth 100000 in
theorem wn_14 : ∀ w ∈ ma_wnm "PhaseBook" CLS PP mm14, w ∈ lw_tbl := wd_in [] rfl
set_option maxRecDepth 100000 in
theorem wc_14 : ∀ w ∈ [Cond.code mm14.1 mm14.2.1 mm14.2.2.1 mm14.2.2.2.1, Cond.initialized mm14.1.cls], w ∈ lw_tbl := wd_in [641, 56] rfl
set_option maxRecDepth 100000 in
theorem wd_15 : ∀ w ∈ ma_wm CLS PP mm15, w ∈ lw_tbl := wd_in [324, 287] rfl
set_option maxRecDepth 100000 in
theorem wn_15 : ∀ w ∈ ma_wnm "PhaseBook" CLS PP mm15, w ∈ lw_tbl := wd_in [] rfl
set_option maxRecDepth 100000 in
theorem wc_15 : ∀ w ∈ [Cond.code mm15.1 mm15.2.1 mm15.2.2.1 mm15.2.2.2.1, Cond.initialized mm15.1.cls], w ∈ lw_tbl := wd_in [649, 56] rfl
set_option maxRecDepth 100000 in
theorem wd_16 : ∀ w ∈ ma_wm CLS PP mm16, w ∈ lw_tbl := wd_in [325, 324, 655, 656, 654] rfl
set_option maxRecDepth 100000 in
theorem wn_16 : ∀ w ∈ ma_wnm "PhaseBook" CLS PP mm16, w ∈ lw_tbl := wd_in [] rfl
set_option maxRecDepth 100000 in
theorem wc_16 : ∀ w ∈ [Cond.code mm16.1 mm16.2.1 mm16.2.2.1 mm16.2.2.2.1, Cond.initialized mm16.1.cls], w ∈ lw_tbl := wd_in [653, 56] rfl
set_option maxRecDepth 100000 in
theorem wd_17 : ∀ w ∈ ma_wm CLS PP mm17, w ∈ lw_tbl := wd_in [325, 322, 261, 324, 287, 668, 669, 667, 325, 314] rfl
set_option maxRecDepth 100000 in
theorem wn_17 : ∀ w ∈ ma_wnm "PhaseBook" CLS PP mm17, w ∈ lw_tbl := wd_in [] rfl
set_option maxRecDepth 100000 in
theorem wc_17 : ∀ w ∈ [Cond.code mm17.1 mm17.2.1 mm17.2.2.1 mm17.2.2.2.1, Cond.initialized mm17.1.cls], w ∈ lw_tbl := wd_in [666, 56] rfl
set_option maxRecDepth 100000 in
theorem wd_18 : ∀ w ∈ ma_wm CLS PP mm18, w ∈ lw_tbl := wd_in [617, 616, 361, 619, 325, 316] rfl
set_option maxRecDepth 100000 in
theorem wn_18 : ∀ w ∈ ma_wnm "PhaseBook" CLS PP mm18, w ∈ lw_tbl := wd_in [] rfl
set_option maxRecDepth 100000 in
theorem wc_18 : ∀ w ∈ [Cond.code mm18.1 mm18.2.1 mm18.2.2.1 mm18.2.2.2.1, Cond.initialized mm18.1.cls], w ∈ lw_tbl := wd_in [675, 56] rfl
set_option maxRecDepth 100000 in
theorem wd_19 : ∀ w ∈ ma_wm CLS PP mm19, w ∈ lw_tbl := wd_in [325, 314] rfl
set_option maxRecDepth 100000 in
theorem wn_19 : ∀ w ∈ ma_wnm "PhaseBook" CLS PP mm19, w ∈ lw_tbl := wd_in [] rfl
set_option maxRecDepth 100000 in
theorem wc_19 : ∀ w ∈ [Cond.code mm19.1 mm19.2.1 mm19.2.2.1 mm19.2.2.2.1, Cond.initialized mm19.1.cls], w ∈ lw_tbl := wd_in [679, 56] rfl
set_option maxRecDepth 100000 in
theorem wd_20 : ∀ w ∈ ma_wm CLS PP mm20, w ∈ lw_tbl := wd_in [79, 80, 57, 81, 82, 83, 57, 84] rfl
set_option maxRecDepth 100000 in
theorem wn_20 : ∀ w ∈ ma_wnm "PhaseBook" CLS PP mm20, w ∈ lw_tbl := wd_in [] rfl
set_option maxRecDepth 100000 in
theorem wc_20 : ∀ w ∈ [Cond.code mm20.1 mm20.2.1 mm20.2.2.1 mm20.2.2.2.1, Cond.initialized mm20.1.cls], w ∈ lw_tbl := wd_in [78, 56] rfl
set_option maxRecDepth 100000 in
theorem wd_21 : ∀ w ∈ ma_wm CLS PP mm21, w ∈ lw_tbl := wd_in [] rfl
set_option maxRecDepth 100000 in
theorem wn_21 : ∀ w ∈ ma_wnm "PhaseBook" CLS PP mm21, w ∈ lw_tbl := wd_in [] rfl
set_option maxRecDepth 100000 in
theorem wc_21 : ∀ w ∈ [Cond.code mm21.1 mm21.2.1 mm21.2.2.1 mm21.2.2.2.1, Cond.initialized mm21.1.cls], w ∈ lw_tbl := wd_in [341, 56] rfl
set_option maxRecDepth 100000 in
theorem wd_22 : ∀ w ∈ ma_wm CLS PP mm22, w ∈ lw_tbl := wd_in [] rfl
set_option maxRecDepth 100000 in
theorem wn_22 : ∀ w ∈ ma_wnm "PhaseBook" CLS PP mm22, w ∈ lw_tbl := wd_in [] rfl
set_option maxRecDepth 100000 in
theorem wc_22 : ∀ w ∈ [Cond.code mm22.1 mm22.2.1 mm22.2.2.1 mm22.2.2.2.1, Cond.initialized mm22.1.cls], w ∈ lw_tbl := wd_in [618, 56] rfl
set_option maxRecDepth 100000 in
theorem wd_23 : ∀ w ∈ ma_wm CLS PP mm23, w ∈ lw_tbl := wd_in [] rfl
set_option maxRecDepth 100000 in
theorem wn_23 : ∀ w ∈ ma_wnm "PhaseBook" CLS PP mm23, w ∈ lw_tbl := wd_in [] rfl
set_option maxRecDepth 100000 in
theorem wc_23 : ∀ w ∈ [Cond.code mm23.1 mm23.2.1 mm23.2.2.1 mm23.2.2.2.1, Cond.initialized mm23.1.cls], w ∈ lw_tbl := wd_in [362, 56] rfl
set_option maxRecDepth 100000 in
theorem wd_24 : ∀ w ∈ ma_wm CLS PP mm24, w ∈ lw_tbl := wd_in [] rfl
set_option maxRecDepth 100000 in
theorem wn_24 : ∀ w ∈ ma_wnm "PhaseBook" CLS PP mm24, w ∈ lw_tbl := wd_in [] rfl
set_option maxRecDepth 100000 in
theorem wc_24 : ∀ w ∈ [Cond.code mm24.1 mm24.2.1 mm24.2.2.1 mm24.2.2.2.1, Cond.initialized mm24.1.cls], w ∈ lw_tbl := wd_in [356, 56] rfl
set_option maxRecDepth 100000 in
theorem wd_25 : ∀ w ∈ ma_wm CLS PP mm25, w ∈ lw_tbl := wd_in [] rfl
set_option maxRecDepth 100000 in
theorem wn_25 : ∀ w ∈ ma_wnm "PhaseBook" CLS PP mm25, w ∈ lw_tbl := wd_in [] rfl
set_option maxRecDepth 100000 in
theorem wc_25 : ∀ w ∈ [Cond.code mm25.1 mm25.2.1 mm25.2.2.1 mm25.2.2.2.1, Cond.initialized mm25.1.cls], w ∈ lw_tbl := wd_in [375, 56] rfl
set_option maxRecDepth 100000 in
theorem wd_26 : ∀ w ∈ ma_wm CLS PP mm26, w ∈ lw_tbl := wd_in [] rfl
set_option maxRecDepth 100000 in
theorem wn_26 : ∀ w ∈ ma_wnm "PhaseBook" CLS PP mm26, w ∈ lw_tbl := wd_in [] rfl
set_option maxRecDepth 100000 in
theorem wc_26 : ∀ w ∈ [Cond.code mm26.1 mm26.2.1 mm26.2.2.1 mm26.2.2.2.1, Cond.initialized mm26.1.cls], w ∈ lw_tbl := wd_in [378, 56] rfl
set_option maxRecDepth 100000 in
theorem wd_27 : ∀ w ∈ ma_wm CLS PP mm27, w ∈ lw_tbl := wd_in [] rfl
set_option maxRecDepth 100000 in
theorem wn_27 : ∀ w ∈ ma_wnm "PhaseBook" CLS PP mm27, w ∈ lw_tbl := wd_in [] rfl
set_option maxRecDepth 100000 in
theorem wc_27 : ∀ w ∈ [Cond.code mm27.1 mm27.2.1 mm27.2.2.1 mm27.2.2.2.1, Cond.initialized mm27.1.cls], w ∈ lw_tbl := wd_in [359, 56] rfl
set_option maxRecDepth 100000 in
theorem wd_28 : ∀ w ∈ ma_wm CLS PP mm28, w ∈ lw_tbl := wd_in [] rfl
set_option maxRecDepth 100000 in
theorem wn_28 : ∀ w ∈ ma_wnm "PhaseBook" CLS PP mm28, w ∈ lw_tbl := wd_in [] rfl
set_option maxRecDepth 100000 in
theorem wc_28 : ∀ w ∈ [Cond.code mm28.1 mm28.2.1 mm28.2.2.1 mm28.2.2.2.1, Cond.initialized mm28.1.cls], w ∈ lw_tbl := wd_in [368, 56] rfl
set_option maxRecDepth 100000 in
theorem wd_29 : ∀ w ∈ ma_wm CLS PP mm29, w ∈ lw_tbl := wd_in [340, 339, 322, 259, 212] rfl
set_option maxRecDepth 100000 in
theorem wn_29 : ∀ w ∈ ma_wnm "PhaseBook" CLS PP mm29, w ∈ lw_tbl := wd_in [] rfl
set_option maxRecDepth 100000 in
theorem wc_29 : ∀ w ∈ [Cond.code mm29.1 mm29.2.1 mm29.2.2.1 mm29.2.2.2.1, Cond.initialized mm29.1.cls], w ∈ lw_tbl := wd_in [349, 56] rfl
set_option maxRecDepth 100000 in
theorem wd_30 : ∀ w ∈ ma_wm CLS PP mm30, w ∈ lw_tbl := wd_in [322, 259, 396, 397, 467, 322, 469, 470, 468, 324, 322, 261, 481, 482, 480] rfl
set_option maxRecDepth 100000 in
theorem wn_30 : ∀ w ∈ ma_wnm "PhaseBook" CLS PP mm30, w ∈ lw_tbl := wd_in [] rfl
set_option maxRecDepth 100000 in
theorem wc_30 : ∀ w ∈ [Cond.code mm30.1 mm30.2.1 mm30.2.2.1 mm30.2.2.2.1, Cond.initialized mm30.1.cls], w ∈ lw_tbl := wd_in [466, 56] rfl
set_option maxRecDepth 100000 in
theorem wd_31 : ∀ w ∈ ma_wm CLS PP mm31, w ∈ lw_tbl := wd_in [688, 74, 75, 114, 697, 114, 698, 114, 699, 114, 700, 114, 701, 114, 702, 114, 703, 114, 704, 114, 705, 114, 706, 114, 708, 114, 709, 114, 710, 114, 714, 114, 715, 114, 716, 114, 717, 690, 689, 696, 697, 690, 689, 697, 697, 697, 694, 24, 692] rfl
set_option maxRecDepth 100000 in
theorem wn_31 : ∀ w ∈ ma_wnm "PhaseBook" CLS PP mm31, w ∈ lw_tbl := wd_in [] rfl
set_option maxRecDepth 100000 in
theorem wc_31 : ∀ w ∈ [Cond.code mm31.1 mm31.2.1 mm31.2.2.1 mm31.2.2.2.1, Cond.initialized mm31.1.cls], w ∈ lw_tbl := wd_in [687, 66] rfl
set_option maxRecDepth 100000 in
theorem wd_32 : ∀ w ∈ ma_wm CLS PP mm32, w ∈ lw_tbl := wd_in [] rfl
set_option maxRecDepth 100000 in
theorem wn_32 : ∀ w ∈ ma_wnm "PhaseBook" CLS PP mm32, w ∈ lw_tbl := wd_in [] rfl
set_option maxRecDepth 100000 in
theorem wc_32 : ∀ w ∈ [Cond.code mm32.1 mm32.2.1 mm32.2.2.1 mm32.2.2.2.1, Cond.initialized mm32.1.cls], w ∈ lw_tbl := wd_in [691, 66] rfl
set_option maxRecDepth 100000 in
theorem wd_33 : ∀ w ∈ ma_wm CLS PP mm33, w ∈ lw_tbl := wd_in [] rfl
set_option maxRecDepth 100000 in
theorem wn_33 : ∀ w ∈ ma_wnm "PhaseBook" CLS PP mm33, w ∈ lw_tbl := wd_in [] rfl
set_option maxRecDepth 100000 in
theorem wc_33 : ∀ w ∈ [Cond.code mm33.1 mm33.2.1 mm33.2.2.1 mm33.2.2.2.1, Cond.initialized mm33.1.cls], w ∈ lw_tbl := wd_in [862, 66] rfl
set_option maxRecDepth 100000 in
theorem wd_34 : ∀ w ∈ ma_wm CLS PP mm34, w ∈ lw_tbl := wd_in [] rfl
set_option maxRecDepth 100000 in
theorem wn_34 : ∀ w ∈ ma_wnm "PhaseBook" CLS PP mm34, w ∈ lw_tbl := wd_in [] rfl
set_option maxRecDepth 100000 in
theorem wc_34 : ∀ w ∈ [Cond.code mm34.1 mm34.2.1 mm34.2.2.1 mm34.2.2.2.1, Cond.initialized mm34.1.cls], w ∈ lw_tbl := wd_in [775, 66] rfl
set_option maxRecDepth 100000 in
theorem wd_35 : ∀ w ∈ ma_wm CLS PP mm35, w ∈ lw_tbl := wd_in [697, 697, 698, 698, 699, 699, 700, 700, 701, 701, 702, 702, 703, 703, 704, 704, 705, 705, 706, 706, 708, 708] rfl
set_option maxRecDepth 100000 in
theorem wn_35 : ∀ w ∈ ma_wnm "PhaseBook" CLS PP mm35, w ∈ lw_tbl := wd_in [] rfl
set_option maxRecDepth 100000 in
theorem wc_35 : ∀ w ∈ [Cond.code mm35.1 mm35.2.1 mm35.2.2.1 mm35.2.2.2.1, Cond.initialized mm35.1.cls], w ∈ lw_tbl := wd_in [695, 66] rfl
set_option maxRecDepth 100000 in
theorem wd_36 : ∀ w ∈ ma_wm CLS PP mm36, w ∈ lw_tbl := wd_in [697, 697, 697] rfl
set_option maxRecDepth 100000 in
theorem wn_36 : ∀ w ∈ ma_wnm "PhaseBook" CLS PP mm36, w ∈ lw_tbl := wd_in [] rfl
set_option maxRecDepth 100000 in
theorem wc_36 : ∀ w ∈ [Cond.code mm36.1 mm36.2.1 mm36.2.2.1 mm36.2.2.2.1, Cond.initialized mm36.1.cls], w ∈ lw_tbl := wd_in [795, 66] rfl
set_option maxRecDepth 100000 in
theorem wd_37 : ∀ w ∈ ma_wm CLS PP mm37, w ∈ lw_tbl := wd_in [697, 702] rfl
set_option maxRecDepth 100000 in
theorem wn_37 : ∀ w ∈ ma_wnm "PhaseBook" CLS PP mm37, w ∈ lw_tbl := wd_in [] rfl
set_option maxRecDepth 100000 in
theorem wc_37 : ∀ w ∈ [Cond.code mm37.1 mm37.2.1 mm37.2.2.1 mm37.2.2.2.1, Cond.initialized mm37.1.cls], w ∈ lw_tbl := wd_in [799, 66] rfl
set_option maxRecDepth 100000 in
theorem wd_38 : ∀ w ∈ ma_wm CLS PP mm38, w ∈ lw_tbl := wd_in [697, 708, 708, 708, 708, 697] rfl
set_option maxRecDepth 100000 in
theorem wn_38 : ∀ w ∈ ma_wnm "PhaseBook" CLS PP mm38, w ∈ lw_tbl := wd_in [] rfl
set_option maxRecDepth 100000 in
theorem wc_38 : ∀ w ∈ [Cond.code mm38.1 mm38.2.1 mm38.2.2.1 mm38.2.2.2.1, Cond.initialized mm38.1.cls], w ∈ lw_tbl := wd_in [807, 66] rfl
set_option maxRecDepth 100000 in
theorem wd_39 : ∀ w ∈ ma_wm CLS PP mm39, w ∈ lw_tbl := wd_in [700, 700, 703] rfl
set_option maxRecDepth 100000 in
theorem wn_39 : ∀ w ∈ ma_wnm "PhaseBook" CLS PP mm39, w ∈ lw_tbl := wd_in [] rfl
set_option maxRecDepth 100000 in
theorem wc_39 : ∀ w ∈ [Cond.code mm39.1 mm39.2.1 mm39.2.2.1 mm39.2.2.2.1, Cond.initialized mm39.1.cls], w ∈ lw_tbl := wd_in [843, 66] rfl
set_option maxRecDepth 100000 in
theorem wd_40 : ∀ w ∈ ma_wm CLS PP mm40, w ∈ lw_tbl := wd_in [702, 705, 701] rfl
set_option maxRecDepth 100000 in
theorem wn_40 : ∀ w ∈ ma_wnm "PhaseBook" CLS PP mm40, w ∈ lw_tbl := wd_in [] rfl
set_option maxRecDepth 100000 in
theorem wc_40 : ∀ w ∈ [Cond.code mm40.1 mm40.2.1 mm40.2.2.1 mm40.2.2.2.1, Cond.initialized mm40.1.cls], w ∈ lw_tbl := wd_in [855, 66] rfl
set_option maxRecDepth 100000 in
theorem wd_41 : ∀ w ∈ ma_wm CLS PP mm41, w ∈ lw_tbl := wd_in [698, 701, 842, 40, 840, 806, 31, 804, 854, 43, 852] rfl
set_option maxRecDepth 100000 in
theorem wn_41 : ∀ w ∈ ma_wnm "PhaseBook" CLS PP mm41, w ∈ lw_tbl := wd_in [] rfl
set_option maxRecDepth 100000 in
theorem wc_41 : ∀ w ∈ [Cond.code mm41.1 mm41.2.1 mm41.2.2.1 mm41.2.2.2.1, Cond.initialized mm41.1.cls], w ∈ lw_tbl := wd_in [851, 66] rfl
set_option maxRecDepth 100000 in
theorem wd_42 : ∀ w ∈ ma_wm CLS PP mm42, w ∈ lw_tbl := wd_in [697, 696, 696] rfl
set_option maxRecDepth 100000 in
theorem wn_42 : ∀ w ∈ ma_wnm "PhaseBook" CLS PP mm42, w ∈ lw_tbl := wd_in [] rfl
set_option maxRecDepth 100000 in
theorem wc_42 : ∀ w ∈ [Cond.code mm42.1 mm42.2.1 mm42.2.2.1 mm42.2.2.2.1, Cond.initialized mm42.1.cls], w ∈ lw_tbl := wd_in [847, 66] rfl
set_option maxRecDepth 100000 in
theorem wd_43 : ∀ w ∈ ma_wm CLS PP mm43, w ∈ lw_tbl := wd_in [703, 703, 699, 703, 703, 703, 703, 706, 706] rfl
set_option maxRecDepth 100000 in
theorem wn_43 : ∀ w ∈ ma_wnm "PhaseBook" CLS PP mm43, w ∈ lw_tbl := wd_in [] rfl
set_option maxRecDepth 100000 in
theorem wc_43 : ∀ w ∈ [Cond.code mm43.1 mm43.2.1 mm43.2.2.1 mm43.2.2.2.1, Cond.initialized mm43.1.cls], w ∈ lw_tbl := wd_in [835, 66] rfl
set_option maxRecDepth 100000 in
theorem wd_44 : ∀ w ∈ ma_wm CLS PP mm44, w ∈ lw_tbl := wd_in [697, 702, 699, 834, 38, 832, 834, 38, 832] rfl
set_option maxRecDepth 100000 in
theorem wn_44 : ∀ w ∈ ma_wnm "PhaseBook" CLS PP mm44, w ∈ lw_tbl := wd_in [] rfl
set_option maxRecDepth 100000 in
theorem wc_44 : ∀ w ∈ [Cond.code mm44.1 mm44.2.1 mm44.2.2.1 mm44.2.2.2.1, Cond.initialized mm44.1.cls], w ∈ lw_tbl := wd_in [831, 66] rfl
set_option maxRecDepth 100000 in
theorem wd_45 : ∀ w ∈ ma_wm CLS PP mm45, w ∈ lw_tbl := wd_in [842, 40, 840, 699, 703, 703, 703, 703] rfl
set_option maxRecDepth 100000 in
theorem wn_45 : ∀ w ∈ ma_wnm "PhaseBook" CLS PP mm45, w ∈ lw_tbl := wd_in [] rfl
set_option maxRecDepth 100000 in
theorem wc_45 : ∀ w ∈ [Cond.code mm45.1 mm45.2.1 mm45.2.2.1 mm45.2.2.2.1, Cond.initialized mm45.1.cls], w ∈ lw_tbl := wd_in [839, 66] rfl
set_option maxRecDepth 100000 in
theorem wd_46 : ∀ w ∈ ma_wm CLS PP mm46, w ∈ lw_tbl := wd_in [702, 705, 704, 701, 861, 860, 707, 707, 706, 707] rfl
set_option maxRecDepth 100000 in
theorem wn_46 : ∀ w ∈ ma_wnm "PhaseBook" CLS PP mm46, w ∈ lw_tbl := wd_in [] rfl
set_option maxRecDepth 100000 in
theorem wc_46 : ∀ w ∈ [Cond.code mm46.1 mm46.2.1 mm46.2.2.1 mm46.2.2.2.1, Cond.initialized mm46.1.cls], w ∈ lw_tbl := wd_in [866, 66] rfl
set_option maxRecDepth 100000 in
theorem wd_47 : ∀ w ∈ ma_wm CLS PP mm47, w ∈ lw_tbl := wd_in [699, 830, 37, 828, 838, 39, 836, 703, 846, 41, 844, 698, 698, 701, 699, 830, 37, 828, 701] rfl
set_option maxRecDepth 100000 in
theorem wn_47 : ∀ w ∈ ma_wnm "PhaseBook" CLS PP mm47, w ∈ lw_tbl := wd_in [] rfl
set_option maxRecDepth 100000 in
theorem wc_47 : ∀ w ∈ [Cond.code mm47.1 mm47.2.1 mm47.2.2.1 mm47.2.2.2.1, Cond.initialized mm47.1.cls], w ∈ lw_tbl := wd_in [827, 66] rfl
set_option maxRecDepth 100000 in
theorem wd_48 : ∀ w ∈ ma_wm CLS PP mm48, w ∈ lw_tbl := wd_in [701, 705, 861, 860, 703, 697, 698, 806, 31, 804, 698, 806, 31, 804, 701, 701, 705, 701, 854, 43, 852, 705, 865, 45, 863] rfl
set_option maxRecDepth 100000 in
theorem wn_48 : ∀ w ∈ ma_wnm "PhaseBook" CLS PP mm48, w ∈ lw_tbl := wd_in [] rfl
set_option maxRecDepth 100000 in
theorem wc_48 : ∀ w ∈ [Cond.code mm48.1 mm48.2.1 mm48.2.2.1 mm48.2.2.2.1, Cond.initialized mm48.1.cls], w ∈ lw_tbl := wd_in [859, 66] rfl
set_option maxRecDepth 100000 in
theorem wd_49 : ∀ w ∈ ma_wm CLS PP mm49, w ∈ lw_tbl := wd_in [700, 826, 36, 824, 701, 699, 830, 37, 828, 838, 39, 836, 703, 846, 41, 844, 697, 698, 698, 850, 42, 848, 858, 44, 856, 701, 854, 43, 852, 700, 700, 865, 45, 863, 850, 42, 848] rfl
set_option maxRecDepth 100000 in
theorem wn_49 : ∀ w ∈ ma_wnm "PhaseBook" CLS PP mm49, w ∈ lw_tbl := wd_in [] rfl
set_option maxRecDepth 100000 in
theorem wc_49 : ∀ w ∈ [Cond.code mm49.1 mm49.2.1 mm49.2.2.1 mm49.2.2.2.1, Cond.initialized mm49.1.cls], w ∈ lw_tbl := wd_in [823, 66] rfl
set_option maxRecDepth 100000 in
theorem wd_50 : ∀ w ∈ ma_wm CLS PP mm50, w ∈ lw_tbl := wd_in [700, 702, 794, 28, 792, 865, 45, 863, 822, 35, 820] rfl
set_option maxRecDepth 100000 in
theorem wn_50 : ∀ w ∈ ma_wnm "PhaseBook" CLS PP mm50, w ∈ lw_tbl := wd_in [] rfl
set_option maxRecDepth 100000 in
theorem wc_50 : ∀ w ∈ [Cond.code mm50.1 mm50.2.1 mm50.2.2.1 mm50.2.2.2.1, Cond.initialized mm50.1.cls], w ∈ lw_tbl := wd_in [878, 66] rfl
set_option maxRecDepth 100000 in
theorem wd_51 : ∀ w ∈ ma_wm CLS PP mm51, w ∈ lw_tbl := wd_in [697, 702, 699, 703, 697, 703, 697] rfl
set_option maxRecDepth 100000 in
theorem wn_51 : ∀ w ∈ ma_wnm "PhaseBook" CLS PP mm51, w ∈ lw_tbl := wd_in [] rfl
set_option maxRecDepth 100000 in
theorem wc_51 : ∀ w ∈ [Cond.code mm51.1 mm51.2.1 mm51.2.2.1 mm51.2.2.2.1, Cond.initialized mm51.1.cls], w ∈ lw_tbl := wd_in [819, 66] rfl
set_option maxRecDepth 100000 in
theorem wd_52 : ∀ w ∈ ma_wm CLS PP mm52, w ∈ lw_tbl := wd_in [697, 818, 34, 816, 700, 702, 822, 35, 820, 697, 818, 34, 816] rfl
set_option maxRecDepth 100000 in
theorem wn_52 : ∀ w ∈ ma_wnm "PhaseBook" CLS PP mm52, w ∈ lw_tbl := wd_in [] rfl
set_option maxRecDepth 100000 in
theorem wc_52 : ∀ w ∈ [Cond.code mm52.1 mm52.2.1 mm52.2.2.1 mm52.2.2.2.1, Cond.initialized mm52.1.cls], w ∈ lw_tbl := wd_in [815, 66] rfl
set_option maxRecDepth 100000 in
theorem wd_53 : ∀ w ∈ ma_wm CLS PP mm53, w ∈ lw_tbl := wd_in [709, 710, 697, 702, 709, 703, 699, 701, 710, 703, 699, 701, 710, 710, 709, 709] rfl
set_option maxRecDepth 100000 in
theorem wn_53 : ∀ w ∈ ma_wnm "PhaseBook" CLS PP mm53, w ∈ lw_tbl := wd_in [] rfl
set_option maxRecDepth 100000 in
theorem wc_53 : ∀ w ∈ [Cond.code mm53.1 mm53.2.1 mm53.2.2.1 mm53.2.2.2.1, Cond.initialized mm53.1.cls], w ∈ lw_tbl := wd_in [909, 66] rfl
set_option maxRecDepth 100000 in
theorem wd_54 : ∀ w ∈ ma_wm CLS PP mm54, w ∈ lw_tbl := wd_in [] rfl
set_option maxRecDepth 100000 in
theorem wn_54 : ∀ w ∈ ma_wnm "PhaseBook" CLS PP mm54, w ∈ lw_tbl := wd_in [] rfl
set_option maxRecDepth 100000 in
theorem wc_54 : ∀ w ∈ [Cond.code mm54.1 mm54.2.1 mm54.2.2.1 mm54.2.2.2.1, Cond.initialized mm54.1.cls], w ∈ lw_tbl := wd_in [912, 66] rfl
set_option maxRecDepth 100000 in
theorem wd_55 : ∀ w ∈ ma_wm CLS PP mm55, w ∈ lw_tbl := wd_in [908, 52, 906, 712, 713, 711, 709, 710, 861, 860, 709, 710, 911, 910, 697, 911, 910, 712, 712, 713, 713, 711, 697, 911, 910, 711, 712, 713] rfl
set_option maxRecDepth 100000 in
theorem wn_55 : ∀ w ∈ ma_wnm "PhaseBook" CLS PP mm55, w ∈ lw_tbl := wd_in [] rfl
set_option maxRecDepth 100000 in
theorem wc_55 : ∀ w ∈ [Cond.code mm55.1 mm55.2.1 mm55.2.2.1 mm55.2.2.2.1, Cond.initialized mm55.1.cls], w ∈ lw_tbl := wd_in [905, 66] rfl
set_option maxRecDepth 100000 in
theorem wd_56 : ∀ w ∈ ma_wm CLS PP mm56, w ∈ lw_tbl := wd_in [712, 830, 37, 828, 830, 37, 828, 701, 861, 860, 698, 711, 806, 31, 804, 701, 701, 854, 43, 852, 705, 704, 701, 861, 860] rfl
set_option maxRecDepth 100000 in
theorem wn_56 : ∀ w ∈ ma_wnm "PhaseBook" CLS PP mm56, w ∈ lw_tbl := wd_in [] rfl
set_option maxRecDepth 100000 in
theorem wc_56 : ∀ w ∈ [Cond.code mm56.1 mm56.2.1 mm56.2.2.1 mm56.2.2.2.1, Cond.initialized mm56.1.cls], w ∈ lw_tbl := wd_in [916, 66] rfl
set_option maxRecDepth 100000 in
theorem wd_57 : ∀ w ∈ ma_wm CLS PP mm57, w ∈ lw_tbl := wd_in [904, 51, 902, 712, 915, 53, 913, 915, 53, 913, 697, 711, 697, 711] rfl
set_option maxRecDepth 100000 in
theorem wn_57 : ∀ w ∈ ma_wnm "PhaseBook" CLS PP mm57, w ∈ lw_tbl := wd_in [] rfl
set_option maxRecDepth 100000 in
theorem wc_57 : ∀ w ∈ [Cond.code mm57.1 mm57.2.1 mm57.2.2.1 mm57.2.2.2.1, Cond.initialized mm57.1.cls], w ∈ lw_tbl := wd_in [901, 66] rfl
set_option maxRecDepth 100000 in
theorem wd_58 : ∀ w ∈ ma_wm CLS PP mm58, w ∈ lw_tbl := wd_in [697, 702, 699, 703, 705] rfl
set_option maxRecDepth 100000 in
theorem wn_58 : ∀ w ∈ ma_wnm "PhaseBook" CLS PP mm58, w ∈ lw_tbl := wd_in [] rfl
set_option maxRecDepth 100000 in
theorem wc_58 : ∀ w ∈ [Cond.code mm58.1 mm58.2.1 mm58.2.2.1 mm58.2.2.2.1, Cond.initialized mm58.1.cls], w ∈ lw_tbl := wd_in [874, 66] rfl
set_option maxRecDepth 100000 in
theorem wd_59 : ∀ w ∈ ma_wm CLS PP mm59, w ∈ lw_tbl := wd_in [714, 697, 702, 714, 699, 703, 705] rfl
set_option maxRecDepth 100000 in
theorem wn_59 : ∀ w ∈ ma_wnm "PhaseBook" CLS PP mm59, w ∈ lw_tbl := wd_in [] rfl
set_option maxRecDepth 100000 in
theorem wc_59 : ∀ w ∈ [Cond.code mm59.1 mm59.2.1 mm59.2.2.1 mm59.2.2.2.1, Cond.initialized mm59.1.cls], w ∈ lw_tbl := wd_in [787, 66] rfl
set_option maxRecDepth 100000 in
theorem wd_60 : ∀ w ∈ ma_wm CLS PP mm60, w ∈ lw_tbl := wd_in [697, 702, 714, 699, 703, 705, 714, 716, 718, 717, 718, 873, 47, 871, 718, 718] rfl
set_option maxRecDepth 100000 in
theorem wn_60 : ∀ w ∈ ma_wnm "PhaseBook" CLS PP mm60, w ∈ lw_tbl := wd_in [] rfl
set_option maxRecDepth 100000 in
theorem wc_60 : ∀ w ∈ [Cond.code mm60.1 mm60.2.1 mm60.2.2.1 mm60.2.2.2.1, Cond.initialized mm60.1.cls], w ∈ lw_tbl := wd_in [870, 66] rfl
set_option maxRecDepth 100000 in
theorem wd_61 : ∀ w ∈ ma_wm CLS PP mm61, w ∈ lw_tbl := wd_in [774, 773, 697, 697, 697, 786, 26, 784] rfl
set_option maxRecDepth 100000 in
theorem wn_61 : ∀ w ∈ ma_wnm "PhaseBook" CLS PP mm61, w ∈ lw_tbl := wd_in [] rfl
set_option maxRecDepth 100000 in
theorem wc_61 : ∀ w ∈ [Cond.code mm61.1 mm61.2.1 mm61.2.2.1 mm61.2.2.2.1, Cond.initialized mm61.1.cls], w ∈ lw_tbl := wd_in [783, 66] rfl
set_option maxRecDepth 100000 in
theorem wd_62 : ∀ w ∈ ma_wm CLS PP mm62, w ∈ lw_tbl := wd_in [806, 31, 804, 810, 32, 808] rfl
set_option maxRecDepth 100000 in
theorem wn_62 : ∀ w ∈ ma_wnm "PhaseBook" CLS PP mm62, w ∈ lw_tbl := wd_in [] rfl
set_option maxRecDepth 100000 in
theorem wc_62 : ∀ w ∈ [Cond.code mm62.1 mm62.2.1 mm62.2.2.1 mm62.2.2.2.1, Cond.initialized mm62.1.cls], w ∈ lw_tbl := wd_in [803, 66] rfl
set_option maxRecDepth 100000 in
theorem wd_63 : ∀ w ∈ ma_wm CLS PP mm63, w ∈ lw_tbl := wd_in [814, 33, 812, 869, 46, 867] rfl
set_option maxRecDepth 100000 in
theorem wn_63 : ∀ w ∈ ma_wnm "PhaseBook" CLS PP mm63, w ∈ lw_tbl := wd_in [] rfl
set_option maxRecDepth 100000 in
theorem wc_63 : ∀ w ∈ [Cond.code mm63.1 mm63.2.1 mm63.2.2.1 mm63.2.2.2.1, Cond.initialized mm63.1.cls], w ∈ lw_tbl := wd_in [811, 66] rfl
set_option maxRecDepth 100000 in
theorem wd_64 : ∀ w ∈ ma_wm CLS PP mm64, w ∈ lw_tbl := wd_in [774, 773, 697, 697] rfl
set_option maxRecDepth 100000 in
theorem wn_64 : ∀ w ∈ ma_wnm "PhaseBook" CLS PP mm64, w ∈ lw_tbl := wd_in [] rfl
set_option maxRecDepth 100000 in
theorem wc_64 : ∀ w ∈ [Cond.code mm64.1 mm64.2.1 mm64.2.2.1 mm64.2.2.2.1, Cond.initialized mm64.1.cls], w ∈ lw_tbl := wd_in [772, 66] rfl
set_option maxRecDepth 100000 in
theorem wd_65 : ∀ w ∈ ma_wm CLS PP mm65, w ∈ lw_tbl := wd_in [774, 773, 774, 773, 774, 773, 774, 773, 774, 773, 697, 794, 28, 792, 798, 29, 796, 697] rfl
set_option maxRecDepth 100000 in
theorem wn_65 : ∀ w ∈ ma_wnm "PhaseBook" CLS PP mm65, w ∈ lw_tbl := wd_in [] rfl
set_option maxRecDepth 100000 in
theorem wc_65 : ∀ w ∈ [Cond.code mm65.1 mm65.2.1 mm65.2.2.1 mm65.2.2.2.1, Cond.initialized mm65.1.cls], w ∈ lw_tbl := wd_in [791, 66] rfl
set_option maxRecDepth 100000 in
theorem wd_66 : ∀ w ∈ ma_wm CLS PP mm66, w ∈ lw_tbl := wd_in [782, 25, 780, 774, 773, 697, 790, 27, 788, 802, 30, 800, 697, 697, 698, 699, 700, 701, 702, 703, 704, 705, 842, 40, 840, 806, 31, 804, 877, 48, 875, 810, 32, 808] rfl
set_option maxRecDepth 100000 in
theorem wn_66 : ∀ w ∈ ma_wnm "PhaseBook" CLS PP mm66, w ∈ lw_tbl := wd_in [] rfl
set_option maxRecDepth 100000 in
theorem wc_66 : ∀ w ∈ [Cond.code mm66.1 mm66.2.1 mm66.2.2.1 mm66.2.2.2.1, Cond.initialized mm66.1.cls], w ∈ lw_tbl := wd_in [779, 66] rfl
set_option maxRecDepth 100000 in
theorem wd_67 : ∀ w ∈ ma_wm CLS PP mm67, w ∈ lw_tbl := wd_in [697, 774, 773, 702, 698] rfl
set_option maxRecDepth 100000 in
theorem wn_67 : ∀ w ∈ ma_wnm "PhaseBook" CLS PP mm67, w ∈ lw_tbl := wd_in [] rfl
set_option maxRecDepth 100000 in
theorem wc_67 : ∀ w ∈ [Cond.code mm67.1 mm67.2.1 mm67.2.2.1 mm67.2.2.2.1, Cond.initialized mm67.1.cls], w ∈ lw_tbl := wd_in [886, 66] rfl
set_option maxRecDepth 100000 in
theorem wd_68 : ∀ w ∈ ma_wm CLS PP mm68, w ∈ lw_tbl := wd_in [782, 25, 780, 885, 49, 883, 802, 30, 800, 850, 42, 848, 810, 32, 808] rfl
set_option maxRecDepth 100000 in
theorem wn_68 : ∀ w ∈ ma_wnm "PhaseBook" CLS PP mm68, w ∈ lw_tbl := wd_in [] rfl
set_option maxRecDepth 100000 in
theorem wc_68 : ∀ w ∈ [Cond.code mm68.1 mm68.2.1 mm68.2.2.1 mm68.2.2.2.1, Cond.initialized mm68.1.cls], w ∈ lw_tbl := wd_in [882, 66] rfl
set_option maxRecDepth 100000 in
theorem wd_69 : ∀ w ∈ ma_wm CLS PP mm69, w ∈ lw_tbl := wd_in [782, 25, 780, 885, 49, 883, 702, 774, 773, 774, 773, 802, 30, 800, 700, 704, 802, 30, 800, 806, 31, 804, 703, 701, 701, 703, 705, 705, 861, 860, 702, 705, 877, 48, 875, 810, 32, 808] rfl
set_option maxRecDepth 100000 in
theorem wn_69 : ∀ w ∈ ma_wnm "PhaseBook" CLS PP mm69, w ∈ lw_tbl := wd_in [] rfl
set_option maxRecDepth 100000 in
theorem wc_69 : ∀ w ∈ [Cond.code mm69.1 mm69.2.1 mm69.2.2.1 mm69.2.2.2.1, Cond.initialized mm69.1.cls], w ∈ lw_tbl := wd_in [890, 66] rfl
set_option maxRecDepth 100000 in
theorem wd_70 : ∀ w ∈ ma_wm CLS PP mm70, w ∈ lw_tbl := wd_in [] rfl
set_option maxRecDepth 100000 in
theorem wn_70 : ∀ w ∈ ma_wnm "PhaseBook" CLS PP mm70, w ∈ lw_tbl := wd_in [] rfl
set_option maxRecDepth 100000 in
theorem wc_70 : ∀ w ∈ [Cond.code mm70.1 mm70.2.1 mm70.2.2.1 mm70.2.2.2.1, Cond.initialized mm70.1.cls], w ∈ lw_tbl := wd_in [897, 66] rfl
set_option maxRecDepth 100000 in
theorem wd_71 : ∀ w ∈ ma_wm CLS PP mm71, w ∈ lw_tbl := wd_in [697, 896, 895, 786, 26, 784, 794, 28, 792, 900, 50, 898, 697, 697, 702, 850, 42, 848, 810, 32, 808] rfl
set_option maxRecDepth 100000 in
theorem wn_71 : ∀ w ∈ ma_wnm "PhaseBook" CLS PP mm71, w ∈ lw_tbl := wd_in [] rfl
set_option maxRecDepth 100000 in
theorem wc_71 : ∀ w ∈ [Cond.code mm71.1 mm71.2.1 mm71.2.2.1 mm71.2.2.2.1, Cond.initialized mm71.1.cls], w ∈ lw_tbl := wd_in [894, 66] rfl
set_option maxRecDepth 100000 in
theorem wd_72 : ∀ w ∈ ma_wm CLS PP mm72, w ∈ lw_tbl := wd_in [694, 24, 692, 697] rfl
set_option maxRecDepth 100000 in
theorem wn_72 : ∀ w ∈ ma_wnm "PhaseBook" CLS PP mm72, w ∈ lw_tbl := wd_in [] rfl
set_option maxRecDepth 100000 in
theorem wc_72 : ∀ w ∈ [Cond.code mm72.1 mm72.2.1 mm72.2.2.1 mm72.2.2.2.1, Cond.initialized mm72.1.cls], w ∈ lw_tbl := wd_in [920, 66] rfl
set_option maxRecDepth 100000 in
theorem wd_73 : ∀ w ∈ ma_wm CLS PP mm73, w ∈ lw_tbl := wd_in [786, 26, 784, 694, 24, 692, 869, 46, 867, 697] rfl
set_option maxRecDepth 100000 in
theorem wn_73 : ∀ w ∈ ma_wnm "PhaseBook" CLS PP mm73, w ∈ lw_tbl := wd_in [] rfl
set_option maxRecDepth 100000 in
theorem wc_73 : ∀ w ∈ [Cond.code mm73.1 mm73.2.1 mm73.2.2.1 mm73.2.2.2.1, Cond.initialized mm73.1.cls], w ∈ lw_tbl := wd_in [924, 66] rfl
set_option maxRecDepth 100000 in
theorem wd_74 : ∀ w ∈ ma_wm CLS PP mm74, w ∈ lw_tbl := wd_in [904, 51, 902, 697, 798, 29, 796, 711, 712, 713] rfl
set_option maxRecDepth 100000 in
theorem wn_74 : ∀ w ∈ ma_wnm "PhaseBook" CLS PP mm74, w ∈ lw_tbl := wd_in [] rfl
set_option maxRecDepth 100000 in
theorem wc_74 : ∀ w ∈ [Cond.code mm74.1 mm74.2.1 mm74.2.2.1 mm74.2.2.2.1, Cond.initialized mm74.1.cls], w ∈ lw_tbl := wd_in [928, 66] rfl
set_option maxRecDepth 100000 in
theorem wd_75 : ∀ w ∈ ma_wm CLS PP mm75, w ∈ lw_tbl := wd_in [774, 773, 774, 773] rfl
set_option maxRecDepth 100000 in
theorem wn_75 : ∀ w ∈ ma_wnm "PhaseBook" CLS PP mm75, w ∈ lw_tbl := wd_in [] rfl
set_option maxRecDepth 100000 in
theorem wc_75 : ∀ w ∈ [Cond.code mm75.1 mm75.2.1 mm75.2.2.1 mm75.2.2.2.1, Cond.initialized mm75.1.cls], w ∈ lw_tbl := wd_in [935, 66] rfl
set_option maxRecDepth 100000 in
theorem wd_76 : ∀ w ∈ ma_wm CLS PP mm76, w ∈ lw_tbl := wd_in [934, 933, 873, 47, 871] rfl
set_option maxRecDepth 100000 in
theorem wn_76 : ∀ w ∈ ma_wnm "PhaseBook" CLS PP mm76, w ∈ lw_tbl := wd_in [] rfl
set_option maxRecDepth 100000 in
theorem wc_76 : ∀ w ∈ [Cond.code mm76.1 mm76.2.1 mm76.2.2.1 mm76.2.2.2.1, Cond.initialized mm76.1.cls], w ∈ lw_tbl := wd_in [932, 66] rfl
set_option maxRecDepth 100000 in
theorem wd_77 : ∀ w ∈ ma_wm CLS PP mm77, w ∈ lw_tbl := wd_in [774, 773, 830, 37, 828, 703] rfl
set_option maxRecDepth 100000 in
theorem wn_77 : ∀ w ∈ ma_wnm "PhaseBook" CLS PP mm77, w ∈ lw_tbl := wd_in [] rfl
set_option maxRecDepth 100000 in
theorem wc_77 : ∀ w ∈ [Cond.code mm77.1 mm77.2.1 mm77.2.2.1 mm77.2.2.2.1, Cond.initialized mm77.1.cls], w ∈ lw_tbl := wd_in [939, 66] rfl
set_option maxRecDepth 100000 in
theorem wd_78 : ∀ w ∈ ma_wm CLS PP mm78, w ∈ lw_tbl := wd_in [697, 702, 699, 699, 834, 38, 832] rfl
set_option maxRecDepth 100000 in
theorem wn_78 : ∀ w ∈ ma_wnm "PhaseBook" CLS PP mm78, w ∈ lw_tbl := wd_in [] rfl
set_option maxRecDepth 100000 in
theorem wc_78 : ∀ w ∈ [Cond.code mm78.1 mm78.2.1 mm78.2.2.1 mm78.2.2.2.1, Cond.initialized mm78.1.cls], w ∈ lw_tbl := wd_in [947, 66] rfl
set_option maxRecDepth 100000 in
theorem wd_79 : ∀ w ∈ ma_wm CLS PP mm79, w ∈ lw_tbl := wd_in [697, 774, 773, 702, 701, 702, 703, 705, 698, 702, 946, 54, 944] rfl
set_option maxRecDepth 100000 in
theorem wn_79 : ∀ w ∈ ma_wnm "PhaseBook" CLS PP mm79, w ∈ lw_tbl := wd_in [] rfl
set_option maxRecDepth 100000 in
theorem wc_79 : ∀ w ∈ [Cond.code mm79.1 mm79.2.1 mm79.2.2.1 mm79.2.2.2.1, Cond.initialized mm79.1.cls], w ∈ lw_tbl := wd_in [943, 66] rfl
set_option maxRecDepth 100000 in
theorem wd_80 : ∀ w ∈ ma_wm CLS PP mm80, w ∈ lw_tbl := wd_in [774, 773, 774, 773, 697] rfl
set_option maxRecDepth 100000 in
theorem wn_80 : ∀ w ∈ ma_wnm "PhaseBook" CLS PP mm80, w ∈ lw_tbl := wd_in [] rfl
set_option maxRecDepth 100000 in
theorem wc_80 : ∀ w ∈ [Cond.code mm80.1 mm80.2.1 mm80.2.2.1 mm80.2.2.2.1, Cond.initialized mm80.1.cls], w ∈ lw_tbl := wd_in [951, 66] rfl
set_option maxRecDepth 100000 in
theorem wd_81 : ∀ w ∈ ma_wm CLS PP mm81, w ∈ lw_tbl := wd_in [774, 773, 774, 773, 774, 773, 697, 697, 708] rfl
set_option maxRecDepth 100000 in
theorem wn_81 : ∀ w ∈ ma_wnm "PhaseBook" CLS PP mm81, w ∈ lw_tbl := wd_in [] rfl
set_option maxRecDepth 100000 in
theorem wc_81 : ∀ w ∈ [Cond.code mm81.1 mm81.2.1 mm81.2.2.1 mm81.2.2.2.1, Cond.initialized mm81.1.cls], w ∈ lw_tbl := wd_in [955, 66] rfl
set_option maxRecDepth 100000 in
theorem wd_82 : ∀ w ∈ ma_wm CLS PP mm82, w ∈ lw_tbl := wd_in [718] rfl
set_option maxRecDepth 100000 in
theorem wn_82 : ∀ w ∈ ma_wnm "PhaseBook" CLS PP mm82, w ∈ lw_tbl := wd_in [] rfl
set_option maxRecDepth 100000 in
theorem wc_82 : ∀ w ∈ [Cond.code mm82.1 mm82.2.1 mm82.2.2.1 mm82.2.2.2.1, Cond.initialized mm82.1.cls], w ∈ lw_tbl := wd_in [959, 66] rfl
set_option maxRecDepth 100000 in
theorem wd_83 : ∀ w ∈ ma_wm CLS PP mm83, w ∈ lw_tbl := wd_in [718, 718, 719, 719, 715, 716, 717, 719, 719] rfl
set_option maxRecDepth 100000 in
theorem wn_83 : ∀ w ∈ ma_wnm "PhaseBook" CLS PP mm83, w ∈ lw_tbl := wd_in [] rfl
set_option maxRecDepth 100000 in
theorem wc_83 : ∀ w ∈ [Cond.code mm83.1 mm83.2.1 mm83.2.2.1 mm83.2.2.2.1, Cond.initialized mm83.1.cls], w ∈ lw_tbl := wd_in [963, 66] rfl
set_option maxRecDepth 100000 in
theorem wd_84 : ∀ w ∈ ma_wm CLS PP mm84, w ∈ lw_tbl := wd_in [715, 697, 702, 715, 699, 703, 705, 718, 719, 719] rfl
set_option maxRecDepth 100000 in
theorem wn_84 : ∀ w ∈ ma_wnm "PhaseBook" CLS PP mm84, w ∈ lw_tbl := wd_in [] rfl
set_option maxRecDepth 100000 in
theorem wc_84 : ∀ w ∈ [Cond.code mm84.1 mm84.2.1 mm84.2.2.1 mm84.2.2.2.1, Cond.initialized mm84.1.cls], w ∈ lw_tbl := wd_in [967, 66] rfl
set_option maxRecDepth 100000 in
theorem wd_85 : ∀ w ∈ ma_wm CLS PP mm85, w ∈ lw_tbl := wd_in [934, 933, 715] rfl
set_option maxRecDepth 100000 in
theorem wn_85 : ∀ w ∈ ma_wnm "PhaseBook" CLS PP mm85, w ∈ lw_tbl := wd_in [] rfl
set_option maxRecDepth 100000 in
theorem wc_85 : ∀ w ∈ [Cond.code mm85.1 mm85.2.1 mm85.2.2.1 mm85.2.2.2.1, Cond.initialized mm85.1.cls], w ∈ lw_tbl := wd_in [971, 66] rfl
set_option maxRecDepth 100000 in
theorem wd_86 : ∀ w ∈ ma_wm CLS PP mm86, w ∈ lw_tbl := wd_in [719] rfl
set_option maxRecDepth 100000 in
theorem wn_86 : ∀ w ∈ ma_wnm "PhaseBook" CLS PP mm86, w ∈ lw_tbl := wd_in [] rfl
set_option maxRecDepth 100000 in
theorem wc_86 : ∀ w ∈ [Cond.code mm86.1 mm86.2.1 mm86.2.2.1 mm86.2.2.2.1, Cond.initialized mm86.1.cls], w ∈ lw_tbl := wd_in [975, 66] rfl
set_option maxRecDepth 100000 in
theorem wd_87 : ∀ w ∈ ma_wm CLS PP mm87, w ∈ lw_tbl := wd_in [120, 74, 75] rfl
set_option maxRecDepth 100000 in
theorem wn_87 : ∀ w ∈ ma_wnm "PhaseBook" CLS PP mm87, w ∈ lw_tbl := wd_in [] rfl
set_option maxRecDepth 100000 in
theorem wc_87 : ∀ w ∈ [Cond.code mm87.1 mm87.2.1 mm87.2.2.1 mm87.2.2.2.1, Cond.initialized mm87.1.cls], w ∈ lw_tbl := wd_in [119, 60] rfl
set_option maxRecDepth 100000 in
theorem wd_88 : ∀ w ∈ ma_wm CLS PP mm88, w ∈ lw_tbl := wd_in [121, 124, 127, 548, 549, 547, 176, 176, 179, 553, 552, 548, 549, 547, 167, 163, 179, 167, 163, 557, 19, 555] rfl
set_option maxRecDepth 100000 in
theorem wn_88 : ∀ w ∈ ma_wnm "PhaseBook" CLS PP mm88, w ∈ lw_tbl := wd_in [] rfl
set_option maxRecDepth 100000 in
theorem wc_88 : ∀ w ∈ [Cond.code mm88.1 mm88.2.1 mm88.2.2.1 mm88.2.2.2.1, Cond.initialized mm88.1.cls], w ∈ lw_tbl := wd_in [546, 60] rfl
set_option maxRecDepth 100000 in
theorem wd_89 : ∀ w ∈ ma_wm CLS PP mm89, w ∈ lw_tbl := wd_in [163] rfl
set_option maxRecDepth 100000 in
theorem wn_89 : ∀ w ∈ ma_wnm "PhaseBook" CLS PP mm89, w ∈ lw_tbl := wd_in [] rfl
set_option maxRecDepth 100000 in
theorem wc_89 : ∀ w ∈ [Cond.code mm89.1 mm89.2.1 mm89.2.2.1 mm89.2.2.2.1, Cond.initialized mm89.1.cls], w ∈ lw_tbl := wd_in [554, 60] rfl
set_option maxRecDepth 100000 in
theorem wd_90 : ∀ w ∈ ma_wm CLS PP mm90, w ∈ lw_tbl := wd_in [559, 80, 57, 81, 560, 416, 57, 417, 563, 20, 561, 121, 124, 127] rfl
set_option maxRecDepth 100000 in
theorem wn_90 : ∀ w ∈ ma_wnm "PhaseBook" CLS PP mm90, w ∈ lw_tbl := wd_in [] rfl
set_option maxRecDepth 100000 in
theorem wc_90 : ∀ w ∈ [Cond.code mm90.1 mm90.2.1 mm90.2.2.1 mm90.2.2.2.1, Cond.initialized mm90.1.cls], w ∈ lw_tbl := wd_in [558, 60] rfl
set_option maxRecDepth 100000 in
theorem wd_91 : ∀ w ∈ ma_wm CLS PP mm91, w ∈ lw_tbl := wd_in [124, 124, 127, 127, 560, 416, 57, 417, 121, 560, 416, 57, 417] rfl
set_option maxRecDepth 100000 in
theorem wn_91 : ∀ w ∈ ma_wnm "PhaseBook" CLS PP mm91, w ∈ lw_tbl := wd_in [] rfl
set_option maxRecDepth 100000 in
theorem wc_91 : ∀ w ∈ [Cond.code mm91.1 mm91.2.1 mm91.2.2.1 mm91.2.2.2.1, Cond.initialized mm91.1.cls], w ∈ lw_tbl := wd_in [564, 60] rfl
set_option maxRecDepth 100000 in
theorem wd_92 : ∀ w ∈ ma_wm CLS PP mm92, w ∈ lw_tbl := wd_in [147, 74, 75, 114, 152, 114, 155, 114, 157, 114, 159, 114, 162, 114, 166, 114, 170, 114, 172, 148, 114, 175, 114, 178] rfl
set_option maxRecDepth 100000 in
theorem wn_92 : ∀ w ∈ ma_wnm "PhaseBook" CLS PP mm92, w ∈ lw_tbl := wd_in [] rfl
set_option maxRecDepth 100000 in
theorem wc_92 : ∀ w ∈ [Cond.code mm92.1 mm92.2.1 mm92.2.2.1 mm92.2.2.2.1, Cond.initialized mm92.1.cls], w ∈ lw_tbl := wd_in [146, 62] rfl
set_option maxRecDepth 100000 in
theorem wd_93 : ∀ w ∈ ma_wm CLS PP mm93, w ∈ lw_tbl := wd_in [149] rfl
set_option maxRecDepth 100000 in
theorem wn_93 : ∀ w ∈ ma_wnm "PhaseBook" CLS PP mm93, w ∈ lw_tbl := wd_in [] rfl
set_option maxRecDepth 100000 in
theorem wc_93 : ∀ w ∈ [Cond.code mm93.1 mm93.2.1 mm93.2.2.1 mm93.2.2.2.1, Cond.initialized mm93.1.cls], w ∈ lw_tbl := wd_in [513, 62] rfl
set_option maxRecDepth 100000 in
theorem wd_94 : ∀ w ∈ ma_wm CLS PP mm94, w ∈ lw_tbl := wd_in [511, 512, 510, 152] rfl
set_option maxRecDepth 100000 in
theorem wn_94 : ∀ w ∈ ma_wnm "PhaseBook" CLS PP mm94, w ∈ lw_tbl := wd_in [] rfl
set_option maxRecDepth 100000 in
theorem wc_94 : ∀ w ∈ [Cond.code mm94.1 mm94.2.1 mm94.2.2.1 mm94.2.2.2.1, Cond.initialized mm94.1.cls], w ∈ lw_tbl := wd_in [509, 62] rfl
set_option maxRecDepth 100000 in
theorem wd_95 : ∀ w ∈ ma_wm CLS PP mm95, w ∈ lw_tbl := wd_in [149, 159] rfl
set_option maxRecDepth 100000 in
theorem wn_95 : ∀ w ∈ ma_wnm "PhaseBook" CLS PP mm95, w ∈ lw_tbl := wd_in [] rfl
set_option maxRecDepth 100000 in
theorem wc_95 : ∀ w ∈ [Cond.code mm95.1 mm95.2.1 mm95.2.2.1 mm95.2.2.2.1, Cond.initialized mm95.1.cls], w ∈ lw_tbl := wd_in [382, 62] rfl
set_option maxRecDepth 100000 in
theorem wd_96 : ∀ w ∈ ma_wm CLS PP mm96, w ∈ lw_tbl := wd_in [178, 175] rfl
set_option maxRecDepth 100000 in
theorem wn_96 : ∀ w ∈ ma_wnm "PhaseBook" CLS PP mm96, w ∈ lw_tbl := wd_in [] rfl
set_option maxRecDepth 100000 in
theorem wc_96 : ∀ w ∈ [Cond.code mm96.1 mm96.2.1 mm96.2.2.1 mm96.2.2.2.1, Cond.initialized mm96.1.cls], w ∈ lw_tbl := wd_in [425, 62] rfl
set_option maxRecDepth 100000 in
theorem wd_97 : ∀ w ∈ ma_wm CLS PP mm97, w ∈ lw_tbl := wd_in [423, 424, 551, 166] rfl
set_option maxRecDepth 100000 in
theorem wn_97 : ∀ w ∈ ma_wnm "PhaseBook" CLS PP mm97, w ∈ lw_tbl := wd_in [] rfl
set_option maxRecDepth 100000 in
theorem wc_97 : ∀ w ∈ [Cond.code mm97.1 mm97.2.1 mm97.2.2.1 mm97.2.2.2.1, Cond.initialized mm97.1.cls], w ∈ lw_tbl := wd_in [550, 62] rfl
set_option maxRecDepth 100000 in
theorem wd_98 : ∀ w ∈ ma_wm CLS PP mm98, w ∈ lw_tbl := wd_in [175, 155, 178, 155] rfl
set_option maxRecDepth 100000 in
theorem wn_98 : ∀ w ∈ ma_wnm "PhaseBook" CLS PP mm98, w ∈ lw_tbl := wd_in [] rfl
set_option maxRecDepth 100000 in
theorem wc_98 : ∀ w ∈ [Cond.code mm98.1 mm98.2.1 mm98.2.2.1 mm98.2.2.2.1, Cond.initialized mm98.1.cls], w ∈ lw_tbl := wd_in [633, 62] rfl
set_option maxRecDepth 100000 in
theorem wd_99 : ∀ w ∈ ma_wm CLS PP mm99, w ∈ lw_tbl := wd_in [155, 175, 166, 178, 166, 178] rfl
set_option maxRecDepth 100000 in
theorem wn_99 : ∀ w ∈ ma_wnm "PhaseBook" CLS PP mm99, w ∈ lw_tbl := wd_in [] rfl
set_option maxRecDepth 100000 in
theorem wc_99 : ∀ w ∈ [Cond.code mm99.1 mm99.2.1 mm99.2.2.1 mm99.2.2.2.1, Cond.initialized mm99.1.cls], w ∈ lw_tbl := wd_in [458, 62] rfl
set_option maxRecDepth 100000 in
theorem wd_100 : ∀ w ∈ ma_wm CLS PP mm100, w ∈ lw_tbl := wd_in [155, 175, 178, 178] rfl
set_option maxRecDepth 100000 in
theorem wn_100 : ∀ w ∈ ma_wnm "PhaseBook" CLS PP mm100, w ∈ lw_tbl := wd_in [] rfl
set_option maxRecDepth 100000 in
theorem wc_100 : ∀ w ∈ [Cond.code mm100.1 mm100.2.1 mm100.2.2.1 mm100.2.2.2.1, Cond.initialized mm100.1.cls], w ∈ lw_tbl := wd_in [441, 62] rfl
set_option maxRecDepth 100000 in
theorem wd_101 : ∀ w ∈ ma_wm CLS PP mm101, w ∈ lw_tbl := wd_in [149, 149, 152, 152, 149, 585, 587, 586, 67, 155, 155, 149, 585, 587, 586, 67, 157, 157, 149, 585, 587, 586, 67, 159, 159, 149, 585, 587, 586, 67, 162, 162, 149, 585, 587, 586, 67, 166, 166, 149, 585, 587, 586, 67, 170, 170, 149, 585, 587, 586, 67, 172, 172, 149, 585, 587, 586, 67, 178, 178, 175, 175, 178, 585, 587, 586, 67] rfl
set_option maxRecDepth 100000 in
theorem wn_101 : ∀ w ∈ ma_wnm "PhaseBook" CLS PP mm101, w ∈ lw_tbl := wd_in [] rfl
set_option maxRecDepth 100000 in
theorem wc_101 : ∀ w ∈ [Cond.code mm101.1 mm101.2.1 mm101.2.2.1 mm101.2.2.2.1, Cond.initialized mm101.1.cls], w ∈ lw_tbl := wd_in [584, 62] rfl
set_option maxRecDepth 100000 in
theorem wd_102 : ∀ w ∈ ma_wm CLS PP mm102, w ∈ lw_tbl := wd_in [284, 74, 75, 114, 288, 114, 290, 114, 292, 285, 114, 294] rfl
set_option maxRecDepth 100000 in
theorem wn_102 : ∀ w ∈ ma_wnm "PhaseBook" CLS PP mm102, w ∈ lw_tbl := wd_in [] rfl
set_option maxRecDepth 100000 in
theorem wc_102 : ∀ w ∈ [Cond.code mm102.1 mm102.2.1 mm102.2.2.1 mm102.2.2.2.1, Cond.initialized mm102.1.cls], w ∈ lw_tbl := wd_in [283, 64] rfl
set_option maxRecDepth 100000 in
theorem wd_103 : ∀ w ∈ ma_wm CLS PP mm103, w ∈ lw_tbl := wd_in [286, 286] rfl
set_option maxRecDepth 100000 in
theorem wn_103 : ∀ w ∈ ma_wnm "PhaseBook" CLS PP mm103, w ∈ lw_tbl := wd_in [] rfl
set_option maxRecDepth 100000 in
theorem wc_103 : ∀ w ∈ [Cond.code mm103.1 mm103.2.1 mm103.2.2.1 mm103.2.2.2.1, Cond.initialized mm103.1.cls], w ∈ lw_tbl := wd_in [661, 64] rfl
set_option maxRecDepth 100000 in
theorem wd_104 : ∀ w ∈ ma_wm CLS PP mm104, w ∈ lw_tbl := wd_in [100, 106, 104, 294, 486, 17, 484, 495, 496, 494] rfl
set_option maxRecDepth 100000 in
theorem wn_104 : ∀ w ∈ ma_wnm "PhaseBook" CLS PP mm104, w ∈ lw_tbl := wd_in [] rfl
set_option maxRecDepth 100000 in
theorem wc_104 : ∀ w ∈ [Cond.code mm104.1 mm104.2.1 mm104.2.2.1 mm104.2.2.2.1, Cond.initialized mm104.1.cls], w ∈ lw_tbl := wd_in [483, 64] rfl
set_option maxRecDepth 100000 in
theorem wd_105 : ∀ w ∈ ma_wm CLS PP mm105, w ∈ lw_tbl := wd_in [286, 489, 488, 288, 290, 292, 294, 286, 286] rfl
set_option maxRecDepth 100000 in
theorem wn_105 : ∀ w ∈ ma_wnm "PhaseBook" CLS PP mm105, w ∈ lw_tbl := wd_in [] rfl
set_option maxRecDepth 100000 in
theorem wc_105 : ∀ w ∈ [Cond.code mm105.1 mm105.2.1 mm105.2.2.1 mm105.2.2.2.1, Cond.initialized mm105.1.cls], w ∈ lw_tbl := wd_in [487, 64] rfl
set_option maxRecDepth 100000 in
theorem wd_106 : ∀ w ∈ ma_wm CLS PP mm106, w ∈ lw_tbl := wd_in [492, 491] rfl
set_option maxRecDepth 100000 in
theorem wn_106 : ∀ w ∈ ma_wnm "PhaseBook" CLS PP mm106, w ∈ lw_tbl := wd_in [] rfl
set_option maxRecDepth 100000 in
theorem wc_106 : ∀ w ∈ [Cond.code mm106.1 mm106.2.1 mm106.2.2.1 mm106.2.2.2.1, Cond.initialized mm106.1.cls], w ∈ lw_tbl := wd_in [490, 64] rfl
set_option maxRecDepth 100000 in
theorem wd_107 : ∀ w ∈ ma_wm CLS PP mm107, w ∈ lw_tbl := wd_in [96, 74, 75, 97, 114, 99, 114, 103, 114, 105] rfl
set_option maxRecDepth 100000 in
theorem wn_107 : ∀ w ∈ ma_wnm "PhaseBook" CLS PP mm107, w ∈ lw_tbl := wd_in [] rfl
set_option maxRecDepth 100000 in
theorem wc_107 : ∀ w ∈ [Cond.code mm107.1 mm107.2.1 mm107.2.2.1 mm107.2.2.2.1, Cond.initialized mm107.1.cls], w ∈ lw_tbl := wd_in [95, 59] rfl
set_option maxRecDepth 100000 in
theorem wd_108 : ∀ w ∈ ma_wm CLS PP mm108, w ∈ lw_tbl := wd_in [99, 103, 103, 105, 105] rfl
set_option maxRecDepth 100000 in
theorem wn_108 : ∀ w ∈ ma_wnm "PhaseBook" CLS PP mm108, w ∈ lw_tbl := wd_in [] rfl
set_option maxRecDepth 100000 in
theorem wc_108 : ∀ w ∈ [Cond.code mm108.1 mm108.2.1 mm108.2.2.1 mm108.2.2.2.1, Cond.initialized mm108.1.cls], w ∈ lw_tbl := wd_in [437, 59] rfl
set_option maxRecDepth 100000 in
theorem wd_109 : ∀ w ∈ ma_wm CLS PP mm109, w ∈ lw_tbl := wd_in [103, 105] rfl
set_option maxRecDepth 100000 in
theorem wn_109 : ∀ w ∈ ma_wnm "PhaseBook" CLS PP mm109, w ∈ lw_tbl := wd_in [] rfl
set_option maxRecDepth 100000 in
theorem wc_109 : ∀ w ∈ [Cond.code mm109.1 mm109.2.1 mm109.2.2.1 mm109.2.2.2.1, Cond.initialized mm109.1.cls], w ∈ lw_tbl := wd_in [497, 59] rfl
set_option maxRecDepth 100000 in
theorem wd_110 : ∀ w ∈ ma_wm CLS PP mm110, w ∈ lw_tbl := wd_in [90, 74, 75, 91, 92, 59, 94, 260, 115, 116, 60, 118, 262, 253, 136, 137, 61, 139, 138, 254, 254, 238, 256, 254, 241, 258] rfl
set_option maxRecDepth 100000 in
theorem wn_110 : ∀ w ∈ ma_wnm "PhaseBook" CLS PP mm110, w ∈ lw_tbl := wd_in [93, 117] rfl
set_option maxRecDepth 100000 in
theorem wc_110 : ∀ w ∈ [Cond.code mm110.1 mm110.2.1 mm110.2.2.1 mm110.2.2.2.1, Cond.initialized mm110.1.cls], w ∈ lw_tbl := wd_in [89, 58] rfl
set_option maxRecDepth 100000 in
theorem wd_111 : ∀ w ∈ ma_wm CLS PP mm111, w ∈ lw_tbl := wd_in [355, 358, 361, 258, 215, 364, 363, 371, 1, 369, 256, 150, 256, 380, 381, 379] rfl
set_option maxRecDepth 100000 in
theorem wn_111 : ∀ w ∈ ma_wnm "PhaseBook" CLS PP mm111, w ∈ lw_tbl := wd_in [354, 357, 360] rfl
set_option maxRecDepth 100000 in
theorem wc_111 : ∀ w ∈ [Cond.code mm111.1 mm111.2.1 mm111.2.2.1 mm111.2.2.2.1, Cond.initialized mm111.1.cls], w ∈ lw_tbl := wd_in [353, 58] rfl
set_option maxRecDepth 100000 in
theorem wd_112 : ∀ w ∈ ma_wm CLS PP mm112, w ∈ lw_tbl := wd_in [361, 367] rfl
set_option maxRecDepth 100000 in
theorem wn_112 : ∀ w ∈ ma_wnm "PhaseBook" CLS PP mm112, w ∈ lw_tbl := wd_in [360, 366] rfl
set_option maxRecDepth 100000 in
theorem wc_112 : ∀ w ∈ [Cond.code mm112.1 mm112.2.1 mm112.2.2.1 mm112.2.2.2.1, Cond.initialized mm112.1.cls], w ∈ lw_tbl := wd_in [365, 58] rfl
set_option maxRecDepth 100000 in
theorem wd_113 : ∀ w ∈ ma_wm CLS PP mm113, w ∈ lw_tbl := wd_in [254, 229, 254, 229, 374, 377] rfl
set_option maxRecDepth 100000 in
theorem wn_113 : ∀ w ∈ ma_wnm "PhaseBook" CLS PP mm113, w ∈ lw_tbl := wd_in [373, 376] rfl
set_option maxRecDepth 100000 in
theorem wc_113 : ∀ w ∈ [Cond.code mm113.1 mm113.2.1 mm113.2.2.1 mm113.2.2.2.1, Cond.initialized mm113.1.cls], w ∈ lw_tbl := wd_in [372, 58] rfl
set_option maxRecDepth 100000 in
theorem wd_114 : ∀ w ∈ ma_wm CLS PP mm114, w ∈ lw_tbl := wd_in [256, 150, 258, 215, 256, 150, 150, 256, 153, 256, 156, 256, 158, 256, 160, 256, 164, 256, 168, 256, 171, 256, 173, 389, 2, 387, 393, 3, 391, 401, 4, 399] rfl
set_option maxRecDepth 100000 in
theorem wn_114 : ∀ w ∈ ma_wnm "PhaseBook" CLS PP mm114, w ∈ lw_tbl := wd_in [] rfl
set_option maxRecDepth 100000 in
theorem wc_114 : ∀ w ∈ [Cond.code mm114.1 mm114.2.1 mm114.2.2.1 mm114.2.2.2.1, Cond.initialized mm114.1.cls], w ∈ lw_tbl := wd_in [386, 58] rfl
set_option maxRecDepth 100000 in
theorem wd_115 : ∀ w ∈ ma_wm CLS PP mm115, w ∈ lw_tbl := wd_in [256, 507, 508, 506, 256, 160] rfl
set_option maxRecDepth 100000 in
theorem wn_115 : ∀ w ∈ ma_wnm "PhaseBook" CLS PP mm115, w ∈ lw_tbl := wd_in [] rfl
set_option maxRecDepth 100000 in
theorem wc_115 : ∀ w ∈ [Cond.code mm115.1 mm115.2.1 mm115.2.2.1 mm115.2.2.2.1, Cond.initialized mm115.1.cls], w ∈ lw_tbl := wd_in [505, 58] rfl
set_option maxRecDepth 100000 in
theorem wd_116 : ∀ w ∈ ma_wm CLS PP mm116, w ∈ lw_tbl := wd_in [256, 164, 389, 2, 387, 393, 3, 391, 256, 160, 432, 9, 430, 256, 160, 256, 164] rfl
set_option maxRecDepth 100000 in
theorem wn_116 : ∀ w ∈ ma_wnm "PhaseBook" CLS PP mm116, w ∈ lw_tbl := wd_in [] rfl
set_option maxRecDepth 100000 in
theorem wc_116 : ∀ w ∈ [Cond.code mm116.1 mm116.2.1 mm116.2.2.1 mm116.2.2.2.1, Cond.initialized mm116.1.cls], w ∈ lw_tbl := wd_in [429, 58] rfl
set_option maxRecDepth 100000 in
theorem wd_117 : ∀ w ∈ ma_wm CLS PP mm117, w ∈ lw_tbl := wd_in [256, 507, 508, 506, 256, 160, 355, 361, 256, 171, 367] rfl
set_option maxRecDepth 100000 in
theorem wn_117 : ∀ w ∈ ma_wnm "PhaseBook" CLS PP mm117, w ∈ lw_tbl := wd_in [354, 360, 366] rfl
set_option maxRecDepth 100000 in
theorem wc_117 : ∀ w ∈ [Cond.code mm117.1 mm117.2.1 mm117.2.2.1 mm117.2.2.2.1, Cond.initialized mm117.1.cls], w ∈ lw_tbl := wd_in [522, 58] rfl
set_option maxRecDepth 100000 in
theorem wd_118 : ∀ w ∈ ma_wm CLS PP mm118, w ∈ lw_tbl := wd_in [393, 3, 391, 256, 168, 256, 164, 256, 164, 256, 173, 446, 80, 57, 81, 449, 11, 447, 432, 9, 430, 256, 164, 256, 168, 401, 4, 399] rfl
set_option maxRecDepth 100000 in
theorem wn_118 : ∀ w ∈ ma_wnm "PhaseBook" CLS PP mm118, w ∈ lw_tbl := wd_in [] rfl
set_option maxRecDepth 100000 in
theorem wc_118 : ∀ w ∈ [Cond.code mm118.1 mm118.2.1 mm118.2.2.1 mm118.2.2.2.1, Cond.initialized mm118.1.cls], w ∈ lw_tbl := wd_in [526, 58] rfl
set_option maxRecDepth 100000 in
theorem wd_119 : ∀ w ∈ ma_wm CLS PP mm119, w ∈ lw_tbl := wd_in [254, 229] rfl
set_option maxRecDepth 100000 in
theorem wn_119 : ∀ w ∈ ma_wnm "PhaseBook" CLS PP mm119, w ∈ lw_tbl := wd_in [] rfl
set_option maxRecDepth 100000 in
theorem wc_119 : ∀ w ∈ [Cond.code mm119.1 mm119.2.1 mm119.2.2.1 mm119.2.2.2.1, Cond.initialized mm119.1.cls], w ∈ lw_tbl := wd_in [534, 58] rfl
set_option maxRecDepth 100000 in
theorem wd_120 : ∀ w ∈ ma_wm CLS PP mm120, w ∈ lw_tbl := wd_in [254, 229, 374, 541, 18, 539, 254, 229, 571, 22, 569] rfl
set_option maxRecDepth 100000 in
theorem wn_120 : ∀ w ∈ ma_wnm "PhaseBook" CLS PP mm120, w ∈ lw_tbl := wd_in [373] rfl
set_option maxRecDepth 100000 in
theorem wc_120 : ∀ w ∈ [Cond.code mm120.1 mm120.2.1 mm120.2.2.1 mm120.2.2.2.1, Cond.initialized mm120.1.cls], w ∈ lw_tbl := wd_in [538, 58] rfl
set_option maxRecDepth 100000 in
theorem wd_121 : ∀ w ∈ ma_wm CLS PP mm121, w ∈ lw_tbl := wd_in [254, 229, 474, 15, 472, 256, 160, 256, 158, 420, 8, 418, 461, 13, 459] rfl
set_option maxRecDepth 100000 in
theorem wn_121 : ∀ w ∈ ma_wnm "PhaseBook" CLS PP mm121, w ∈ lw_tbl := wd_in [] rfl
set_option maxRecDepth 100000 in
theorem wc_121 : ∀ w ∈ [Cond.code mm121.1 mm121.2.1 mm121.2.2.1 mm121.2.2.2.1, Cond.initialized mm121.1.cls], w ∈ lw_tbl := wd_in [471, 58] rfl
set_option maxRecDepth 100000 in
theorem wd_122 : ∀ w ∈ ma_wm CLS PP mm122, w ∈ lw_tbl := wd_in [603, 23, 601, 254, 578, 579, 605, 603, 23, 601] rfl
set_option maxRecDepth 100000 in
theorem wn_122 : ∀ w ∈ ma_wnm "PhaseBook" CLS PP mm122, w ∈ lw_tbl := wd_in [] rfl
set_option maxRecDepth 100000 in
theorem wc_122 : ∀ w ∈ [Cond.code mm122.1 mm122.2.1 mm122.2.2.1 mm122.2.2.2.1, Cond.initialized mm122.1.cls], w ∈ lw_tbl := wd_in [600, 58] rfl
set_option maxRecDepth 100000 in
theorem wd_123 : ∀ w ∈ ma_wm CLS PP mm123, w ∈ lw_tbl := wd_in [256, 158, 256, 160, 254, 229, 405, 5, 403, 420, 8, 418, 461, 13, 459] rfl
set_option maxRecDepth 100000 in
theorem wn_123 : ∀ w ∈ ma_wnm "PhaseBook" CLS PP mm123, w ∈ lw_tbl := wd_in [] rfl
set_option maxRecDepth 100000 in
theorem wc_123 : ∀ w ∈ [Cond.code mm123.1 mm123.2.1 mm123.2.2.1 mm123.2.2.2.1, Cond.initialized mm123.1.cls], w ∈ lw_tbl := wd_in [402, 58] rfl
set_option maxRecDepth 100000 in
theorem wd_124 : ∀ w ∈ ma_wm CLS PP mm124, w ∈ lw_tbl := wd_in [256, 164, 256, 158, 377, 453, 12, 451, 427, 428, 426] rfl
set_option maxRecDepth 100000 in
theorem wn_124 : ∀ w ∈ ma_wnm "PhaseBook" CLS PP mm124, w ∈ lw_tbl := wd_in [376] rfl
set_option maxRecDepth 100000 in
theorem wc_124 : ∀ w ∈ [Cond.code mm124.1 mm124.2.1 mm124.2.2.1 mm124.2.2.2.1, Cond.initialized mm124.1.cls], w ∈ lw_tbl := wd_in [462, 58] rfl
set_option maxRecDepth 100000 in
theorem wd_125 : ∀ w ∈ ma_wm CLS PP mm125, w ∈ lw_tbl := wd_in [256, 156, 256, 180, 256, 177, 256, 168, 409, 6, 407, 256, 168, 413, 7, 411, 256, 153, 256, 153, 256, 164, 256, 164] rfl
set_option maxRecDepth 100000 in
theorem wn_125 : ∀ w ∈ ma_wnm "PhaseBook" CLS PP mm125, w ∈ lw_tbl := wd_in [] rfl
set_option maxRecDepth 100000 in
theorem wc_125 : ∀ w ∈ [Cond.code mm125.1 mm125.2.1 mm125.2.2.1 mm125.2.2.2.1, Cond.initialized mm125.1.cls], w ∈ lw_tbl := wd_in [406, 58] rfl
set_option maxRecDepth 100000 in
theorem wd_126 : ∀ w ∈ ma_wm CLS PP mm126, w ∈ lw_tbl := wd_in [256, 156, 256, 164, 256, 423, 424, 422, 256, 168, 409, 6, 407, 256, 168, 413, 7, 411, 254, 229, 256, 153, 256, 153, 427, 428, 426, 444, 10, 442] rfl
set_option maxRecDepth 100000 in
theorem wn_126 : ∀ w ∈ ma_wnm "PhaseBook" CLS PP mm126, w ∈ lw_tbl := wd_in [] rfl
set_option maxRecDepth 100000 in
theorem wc_126 : ∀ w ∈ [Cond.code mm126.1 mm126.2.1 mm126.2.2.1 mm126.2.2.2.1, Cond.initialized mm126.1.cls], w ∈ lw_tbl := wd_in [421, 58] rfl
set_option maxRecDepth 100000 in
theorem wd_127 : ∀ w ∈ ma_wm CLS PP mm127, w ∈ lw_tbl := wd_in [256, 168, 256, 164, 256, 173, 446, 80, 57, 81, 256, 173, 254, 233, 256, 164, 256, 164, 393, 3, 391, 393, 3, 391, 449, 11, 447, 432, 9, 430, 256, 164, 453, 12, 451] rfl
set_option maxRecDepth 100000 in
theorem wn_127 : ∀ w ∈ ma_wnm "PhaseBook" CLS PP mm127, w ∈ lw_tbl := wd_in [] rfl
set_option maxRecDepth 100000 in
theorem wc_127 : ∀ w ∈ [Cond.code mm127.1 mm127.2.1 mm127.2.2.1 mm127.2.2.2.1, Cond.initialized mm127.1.cls], w ∈ lw_tbl := wd_in [445, 58] rfl
set_option maxRecDepth 100000 in
theorem wd_128 : ∀ w ∈ ma_wm CLS PP mm128, w ∈ lw_tbl := wd_in [262, 256, 254, 236, 544, 545, 543, 262, 126, 567, 21, 565, 567, 21, 565, 254, 262, 123, 233, 254, 262, 123, 236] rfl
set_option maxRecDepth 100000 in
theorem wn_128 : ∀ w ∈ ma_wnm "PhaseBook" CLS PP mm128, w ∈ lw_tbl := wd_in [] rfl
set_option maxRecDepth 100000 in
theorem wc_128 : ∀ w ∈ [Cond.code mm128.1 mm128.2.1 mm128.2.2.1 mm128.2.2.2.1, Cond.initialized mm128.1.cls], w ∈ lw_tbl := wd_in [542, 58] rfl
set_option maxRecDepth 100000 in
theorem wd_129 : ∀ w ∈ ma_wm CLS PP mm129, w ∈ lw_tbl := wd_in [262, 126, 256, 423, 424, 422, 256, 164, 446, 80, 57, 81, 256, 164, 262, 123, 393, 3, 391, 256, 164, 432, 9, 430, 256, 171, 256, 164, 446, 80, 57, 81, 449, 11, 447] rfl
set_option maxRecDepth 100000 in
theorem wn_129 : ∀ w ∈ ma_wnm "PhaseBook" CLS PP mm129, w ∈ lw_tbl := wd_in [] rfl
set_option maxRecDepth 100000 in
theorem wc_129 : ∀ w ∈ [Cond.code mm129.1 mm129.2.1 mm129.2.2.1 mm129.2.2.2.1, Cond.initialized mm129.1.cls], w ∈ lw_tbl := wd_in [568, 58] rfl
set_option maxRecDepth 100000 in
theorem wd_130 : ∀ w ∈ ma_wm CLS PP mm130, w ∈ lw_tbl := wd_in [256, 150, 256, 160, 427, 428, 426] rfl
set_option maxRecDepth 100000 in
theorem wn_130 : ∀ w ∈ ma_wnm "PhaseBook" CLS PP mm130, w ∈ lw_tbl := wd_in [] rfl
set_option maxRecDepth 100000 in
theorem wc_130 : ∀ w ∈ [Cond.code mm130.1 mm130.2.1 mm130.2.2.1 mm130.2.2.2.1, Cond.initialized mm130.1.cls], w ∈ lw_tbl := wd_in [572, 58] rfl
set_option maxRecDepth 100000 in
theorem wd_131 : ∀ w ∈ ma_wm CLS PP mm131, w ∈ lw_tbl := wd_in [256, 150, 256, 160, 478, 16, 476] rfl
set_option maxRecDepth 100000 in
theorem wn_131 : ∀ w ∈ ma_wnm "PhaseBook" CLS PP mm131, w ∈ lw_tbl := wd_in [] rfl
set_option maxRecDepth 100000 in
theorem wc_131 : ∀ w ∈ [Cond.code mm131.1 mm131.2.1 mm131.2.2.1 mm131.2.2.2.1, Cond.initialized mm131.1.cls], w ∈ lw_tbl := wd_in [475, 58] rfl
set_option maxRecDepth 100000 in
theorem wd_132 : ∀ w ∈ ma_wm CLS PP mm132, w ∈ lw_tbl := wd_in [256, 168, 256, 156, 254, 233, 254, 233] rfl
set_option maxRecDepth 100000 in
theorem wn_132 : ∀ w ∈ ma_wnm "PhaseBook" CLS PP mm132, w ∈ lw_tbl := wd_in [] rfl
set_option maxRecDepth 100000 in
theorem wc_132 : ∀ w ∈ [Cond.code mm132.1 mm132.2.1 mm132.2.2.1 mm132.2.2.2.1, Cond.initialized mm132.1.cls], w ∈ lw_tbl := wd_in [479, 58] rfl
set_option maxRecDepth 100000 in
theorem wd_133 : ∀ w ∈ ma_wm CLS PP mm133, w ∈ lw_tbl := wd_in [256, 158, 358, 256, 168, 256, 156] rfl
set_option maxRecDepth 100000 in
theorem wn_133 : ∀ w ∈ ma_wnm "PhaseBook" CLS PP mm133, w ∈ lw_tbl := wd_in [357] rfl
set_option maxRecDepth 100000 in
theorem wc_133 : ∀ w ∈ [Cond.code mm133.1 mm133.2.1 mm133.2.2.1 mm133.2.2.2.1, Cond.initialized mm133.1.cls], w ∈ lw_tbl := wd_in [410, 58] rfl
set_option maxRecDepth 100000 in
theorem wd_134 : ∀ w ∈ ma_wm CLS PP mm134, w ∈ lw_tbl := wd_in [254, 236, 415, 416, 57, 417, 253] rfl
set_option maxRecDepth 100000 in
theorem wn_134 : ∀ w ∈ ma_wnm "PhaseBook" CLS PP mm134, w ∈ lw_tbl := wd_in [] rfl
set_option maxRecDepth 100000 in
theorem wc_134 : ∀ w ∈ [Cond.code mm134.1 mm134.2.1 mm134.2.2.1 mm134.2.2.2.1, Cond.initialized mm134.1.cls], w ∈ lw_tbl := wd_in [414, 58] rfl
set_option maxRecDepth 100000 in
theorem wd_135 : ∀ w ∈ ma_wm CLS PP mm135, w ∈ lw_tbl := wd_in [256, 171, 256, 164, 446, 80, 57, 81, 256, 160, 256, 173, 256, 456, 457, 455, 260, 256, 156, 256, 168, 435, 436, 434] rfl
set_option maxRecDepth 100000 in
theorem wn_135 : ∀ w ∈ ma_wnm "PhaseBook" CLS PP mm135, w ∈ lw_tbl := wd_in [] rfl
set_option maxRecDepth 100000 in
theorem wc_135 : ∀ w ∈ [Cond.code mm135.1 mm135.2.1 mm135.2.2.1 mm135.2.2.2.1, Cond.initialized mm135.1.cls], w ∈ lw_tbl := wd_in [454, 58] rfl
set_option maxRecDepth 100000 in
theorem wd_136 : ∀ w ∈ ma_wm CLS PP mm136, w ∈ lw_tbl := wd_in [260, 256, 156, 256, 168, 256, 173, 435, 436, 434, 256, 439, 440, 438, 256, 173, 256, 160] rfl
set_option maxRecDepth 100000 in
theorem wn_136 : ∀ w ∈ ma_wnm "PhaseBook" CLS PP mm136, w ∈ lw_tbl := wd_in [] rfl
set_option maxRecDepth 100000 in
theorem wc_136 : ∀ w ∈ [Cond.code mm136.1 mm136.2.1 mm136.2.2.1 mm136.2.2.2.1, Cond.initialized mm136.1.cls], w ∈ lw_tbl := wd_in [433, 58] rfl
set_option maxRecDepth 100000 in
theorem wd_137 : ∀ w ∈ ma_wm CLS PP mm137, w ∈ lw_tbl := wd_in [260, 256, 156, 256, 168, 256, 173, 435, 436, 434, 256, 173] rfl
set_option maxRecDepth 100000 in
theorem wn_137 : ∀ w ∈ ma_wnm "PhaseBook" CLS PP mm137, w ∈ lw_tbl := wd_in [] rfl
set_option maxRecDepth 100000 in
theorem wc_137 : ∀ w ∈ [Cond.code mm137.1 mm137.2.1 mm137.2.2.1 mm137.2.2.2.1, Cond.initialized mm137.1.cls], w ∈ lw_tbl := wd_in [450, 58] rfl
set_option maxRecDepth 100000 in
theorem wd_138 : ∀ w ∈ ma_wm CLS PP mm138, w ∈ lw_tbl := wd_in [256, 180, 256, 177, 260, 256, 168, 256, 173, 435, 436, 434] rfl
set_option maxRecDepth 100000 in
theorem wn_138 : ∀ w ∈ ma_wnm "PhaseBook" CLS PP mm138, w ∈ lw_tbl := wd_in [] rfl
set_option maxRecDepth 100000 in
theorem wc_138 : ∀ w ∈ [Cond.code mm138.1 mm138.2.1 mm138.2.2.1 mm138.2.2.2.1, Cond.initialized mm138.1.cls], w ∈ lw_tbl := wd_in [604, 58] rfl
set_option maxRecDepth 100000 in
theorem wd_139 : ∀ w ∈ ma_wm CLS PP mm139, w ∈ lw_tbl := wd_in [256, 158, 358, 256, 168] rfl
set_option maxRecDepth 100000 in
theorem wn_139 : ∀ w ∈ ma_wnm "PhaseBook" CLS PP mm139, w ∈ lw_tbl := wd_in [357] rfl
set_option maxRecDepth 100000 in
theorem wc_139 : ∀ w ∈ [Cond.code mm139.1 mm139.2.1 mm139.2.2.1 mm139.2.2.2.1, Cond.initialized mm139.1.cls], w ∈ lw_tbl := wd_in [390, 58] rfl
set_option maxRecDepth 100000 in
theorem wd_140 : ∀ w ∈ ma_wm CLS PP mm140, w ∈ lw_tbl := wd_in [258, 256, 153, 396, 397, 395] rfl
set_option maxRecDepth 100000 in
theorem wn_140 : ∀ w ∈ ma_wnm "PhaseBook" CLS PP mm140, w ∈ lw_tbl := wd_in [] rfl
set_option maxRecDepth 100000 in
theorem wc_140 : ∀ w ∈ [Cond.code mm140.1 mm140.2.1 mm140.2.2.1 mm140.2.2.2.1, Cond.initialized mm140.1.cls], w ∈ lw_tbl := wd_in [394, 58] rfl
set_option maxRecDepth 100000 in
theorem wd_141 : ∀ w ∈ ma_wm CLS PP mm141, w ∈ lw_tbl := wd_in [209, 74, 75, 114, 211, 114, 213, 114, 216, 210, 114, 218] rfl
set_option maxRecDepth 100000 in
theorem wn_141 : ∀ w ∈ ma_wnm "PhaseBook" CLS PP mm141, w ∈ lw_tbl := wd_in [] rfl
set_option maxRecDepth 100000 in
theorem wc_141 : ∀ w ∈ [Cond.code mm141.1 mm141.2.1 mm141.2.2.1 mm141.2.2.2.1, Cond.initialized mm141.1.cls], w ∈ lw_tbl := wd_in [208, 63] rfl
set_option maxRecDepth 100000 in
theorem wd_142 : ∀ w ∈ ma_wm CLS PP mm142, w ∈ lw_tbl := wd_in [218, 216, 216] rfl
set_option maxRecDepth 100000 in
theorem wn_142 : ∀ w ∈ ma_wnm "PhaseBook" CLS PP mm142, w ∈ lw_tbl := wd_in [] rfl
set_option maxRecDepth 100000 in
theorem wc_142 : ∀ w ∈ [Cond.code mm142.1 mm142.2.1 mm142.2.2.1 mm142.2.2.2.1, Cond.initialized mm142.1.cls], w ∈ lw_tbl := wd_in [398, 63] rfl
set_option maxRecDepth 100000 in
theorem wd_143 : ∀ w ∈ ma_wm CLS PP mm143, w ∈ lw_tbl := wd_in [216, 216, 218] rfl
set_option maxRecDepth 100000 in
theorem wn_143 : ∀ w ∈ ma_wnm "PhaseBook" CLS PP mm143, w ∈ lw_tbl := wd_in [] rfl
set_option maxRecDepth 100000 in
theorem wc_143 : ∀ w ∈ [Cond.code mm143.1 mm143.2.1 mm143.2.2.1 mm143.2.2.2.1, Cond.initialized mm143.1.cls], w ∈ lw_tbl := wd_in [645, 63] rfl
set_option maxRecDepth 100000 in
theorem wd_144 : ∀ w ∈ ma_wm CLS PP mm144, w ∈ lw_tbl := wd_in [211, 211, 592, 587, 586, 67, 213, 213, 592, 587, 586, 67, 216, 216, 592, 587, 586, 67, 218, 218, 592, 587, 586, 67] rfl
set_option maxRecDepth 100000 in
theorem wn_144 : ∀ w ∈ ma_wnm "PhaseBook" CLS PP mm144, w ∈ lw_tbl := wd_in [] rfl
set_option maxRecDepth 100000 in
theorem wc_144 : ∀ w ∈ [Cond.code mm144.1 mm144.2.1 mm144.2.2.1 mm144.2.2.2.1, Cond.initialized mm144.1.cls], w ∈ lw_tbl := wd_in [591, 63] rfl
set_option maxRecDepth 100000 in
theorem wd_145 : ∀ w ∈ ma_wm CLS PP mm145, w ∈ lw_tbl := wd_in [141, 74, 75, 228, 142, 143, 62, 145, 237, 204, 205, 63, 207, 240, 231, 234] rfl
set_option maxRecDepth 100000 in
theorem wn_145 : ∀ w ∈ ma_wnm "PhaseBook" CLS PP mm145, w ∈ lw_tbl := wd_in [144, 206] rfl
set_option maxRecDepth 100000 in
theorem wc_145 : ∀ w ∈ [Cond.code mm145.1 mm145.2.1 mm145.2.2.1 mm145.2.2.2.1, Cond.initialized mm145.1.cls], w ∈ lw_tbl := wd_in [140, 61] rfl
set_option maxRecDepth 100000 in
theorem wd_146 : ∀ w ∈ ma_wm CLS PP mm146, w ∈ lw_tbl := wd_in [228, 228, 231, 231, 234, 234, 237, 237, 582, 583, 581, 240, 240, 589, 590, 588] rfl
set_option maxRecDepth 100000 in
theorem wn_146 : ∀ w ∈ ma_wnm "PhaseBook" CLS PP mm146, w ∈ lw_tbl := wd_in [] rfl
set_option maxRecDepth 100000 in
theorem wc_146 : ∀ w ∈ [Cond.code mm146.1 mm146.2.1 mm146.2.2.1 mm146.2.2.2.1, Cond.initialized mm146.1.cls], w ∈ lw_tbl := wd_in [580, 61] rfl
set_option maxRecDepth 100000 in
theorem wd_147 : ∀ w ∈ ma_wm CLS PP mm147, w ∈ lw_tbl := wd_in [311, 74, 75, 312, 114, 315] rfl
set_option maxRecDepth 100000 in
theorem wn_147 : ∀ w ∈ ma_wnm "PhaseBook" CLS PP mm147, w ∈ lw_tbl := wd_in [] rfl
set_option maxRecDepth 100000 in
theorem wc_147 : ∀ w ∈ [Cond.code mm147.1 mm147.2.1 mm147.2.2.1 mm147.2.2.2.1, Cond.initialized mm147.1.cls], w ∈ lw_tbl := wd_in [310, 65] rfl
set_option maxRecDepth 100000 in
theorem wd_148 : ∀ w ∈ ma_wm CLS PP mm148, w ∈ lw_tbl := wd_in [659, 660, 658, 313, 313, 489, 662, 315, 289, 291, 293, 313, 313] rfl
set_option maxRecDepth 100000 in
theorem wn_148 : ∀ w ∈ ma_wnm "PhaseBook" CLS PP mm148, w ∈ lw_tbl := wd_in [] rfl
set_option maxRecDepth 100000 in
theorem wc_148 : ∀ w ∈ [Cond.code mm148.1 mm148.2.1 mm148.2.2.1 mm148.2.2.2.1, Cond.initialized mm148.1.cls], w ∈ lw_tbl := wd_in [657, 65] rfl
set_option maxRecDepth 100000 in
theorem wd_149 : ∀ w ∈ ma_wm CLS PP mm149, w ∈ lw_tbl := wd_in [101, 315, 671, 587, 586, 67, 313] rfl
set_option maxRecDepth 100000 in
theorem wn_149 : ∀ w ∈ ma_wnm "PhaseBook" CLS PP mm149, w ∈ lw_tbl := wd_in [] rfl
set_option maxRecDepth 100000 in
theorem wc_149 : ∀ w ∈ [Cond.code mm149.1 mm149.2.1 mm149.2.2.1 mm149.2.2.2.1, Cond.initialized mm149.1.cls], w ∈ lw_tbl := wd_in [670, 65] rfl
set_option maxRecDepth 100000 in
theorem wd_150 : ∀ w ∈ ma_wm CLS PP mm150, w ∈ lw_tbl := wd_in [] rfl
set_option maxRecDepth 100000 in
theorem wn_150 : ∀ w ∈ ma_wnm "PhaseBook" CLS PP mm150, w ∈ lw_tbl := wd_in [] rfl
set_option maxRecDepth 100000 in
theorem wc_150 : ∀ w ∈ [Cond.code mm150.1 mm150.2.1 mm150.2.2.1 mm150.2.2.2.1, Cond.initialized mm150.1.cls], w ∈ lw_tbl := wd_in [682, 55] rfl
set_option maxRecDepth 100000 in
theorem wd_151 : ∀ w ∈ ma_wm CLS PP mm151, w ∈ lw_tbl := wd_in [] rfl
set_option maxRecDepth 100000 in
theorem wn_151 : ∀ w ∈ ma_wnm "PhaseBook" CLS PP mm151, w ∈ lw_tbl := wd_in [] rfl
set_option maxRecDepth 100000 in
theorem wc_151 : ∀ w ∈ [Cond.code mm151.1 mm151.2.1 mm151.2.2.1 mm151.2.2.2.1, Cond.initialized mm151.1.cls], w ∈ lw_tbl := wd_in [493, 57] rfl
set_option maxRecDepth 100000 in
theorem wf_0 : ∀ w ∈ u_ws RC0 TC0 4, w ∈ lw_tbl := wd_in [326, 328, 330, 332] rfl
set_option maxRecDepth 100000 in
theorem wf_1 : ∀ w ∈ u_ws RC1 TC1 3, w ∈ lw_tbl := wd_in [129, 131, 133] rfl
set_option maxRecDepth 100000 in
theorem wf_2 : ∀ w ∈ u_ws RC2 TC2 11, w ∈ lw_tbl := wd_in [181, 183, 185, 187, 189, 191, 193, 195, 197, 199, 201] rfl
set_option maxRecDepth 100000 in
theorem wf_3 : ∀ w ∈ u_ws RC3 TC3 5, w ∈ lw_tbl := wd_in [295, 297, 299, 301, 303] rfl
set_option maxRecDepth 100000 in
theorem wf_4 : ∀ w ∈ u_ws RC4 TC4 3, w ∈ lw_tbl := wd_in [107, 109, 111] rfl
set_option maxRecDepth 100000 in
theorem wf_5 : ∀ w ∈ u_ws RC5 TC5 6, w ∈ lw_tbl := wd_in [264, 266, 268, 270, 272, 274] rfl
set_option maxRecDepth 100000 in
theorem wf_6 : ∀ w ∈ u_ws RC6 TC6 4, w ∈ lw_tbl := wd_in [219, 221, 223, 225] rfl
set_option maxRecDepth 100000 in
theorem wf_7 : ∀ w ∈ u_ws RC7 TC7 5, w ∈ lw_tbl := wd_in [242, 244, 246, 248, 250] rfl
set_option maxRecDepth 100000 in
theorem wf_8 : ∀ w ∈ u_ws RC8 TC8 2, w ∈ lw_tbl := wd_in [317, 319] rfl
set_option maxRecDepth 100000 in
theorem wf_9 : ∀ w ∈ u_ws RC9 TC9 24, w ∈ lw_tbl := wd_in [720, 722, 724, 726, 728, 730, 732, 734, 736, 738, 740, 742, 744, 746, 748, 750, 752, 754, 756, 758, 760, 762, 764, 766] rfl
theorem Ts_good : Ts.all goodWord = true := by decide +kernel
theorem NS_nest : NS.all ma_nest = true := by decide +kernel
end
