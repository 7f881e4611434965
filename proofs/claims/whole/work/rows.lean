section
-- ===== PART A: goes FIRST, ahead of the names: the tables' words, and 'selects' of the private methods out of them =====
/-- a private method of a class that the tables say can be made, by its rows of tables_1 -/
def lw_okq (q : MethodName × Nat) : Prop := (q.1.cls ≠ "java/lang/invoke/MethodHandle" ∧ q.1.cls ≠ "java/lang/invoke/VarHandle") ∧ Cond.instantiable q.1.cls q.2 ∈ tables_1 ∧ Cond.privateMethod q.1 ∈ tables_1 ∧ Cond.instanceMethod q.1 ∈ tables_1
theorem lw_p0 : lw_okq (⟨"BidMarket", "shownWorth", "(II)I"⟩, 8) := ⟨⟨by decide +kernel, by decide +kernel⟩, List.mem_of_getElem? (i := 14) (by decide +kernel), List.mem_of_getElem? (i := 248) (by decide +kernel), List.mem_of_getElem? (i := 249) (by decide +kernel)⟩
theorem lw_p1 : lw_okq (⟨"BidMarket$Text", "findClause", "(I)V"⟩, 8) := ⟨⟨by decide +kernel, by decide +kernel⟩, List.mem_of_getElem? (i := 128) (by decide +kernel), List.mem_of_getElem? (i := 287) (by decide +kernel), List.mem_of_getElem? (i := 288) (by decide +kernel)⟩
theorem lw_p2 : lw_okq (⟨"BidMarket$Text", "findNumber", "(III)I"⟩, 8) := ⟨⟨by decide +kernel, by decide +kernel⟩, List.mem_of_getElem? (i := 128) (by decide +kernel), List.mem_of_getElem? (i := 291) (by decide +kernel), List.mem_of_getElem? (i := 292) (by decide +kernel)⟩
theorem lw_p3 : lw_okq (⟨"BidMarket$Text", "sign", "()I"⟩, 8) := ⟨⟨by decide +kernel, by decide +kernel⟩, List.mem_of_getElem? (i := 128) (by decide +kernel), List.mem_of_getElem? (i := 295) (by decide +kernel), List.mem_of_getElem? (i := 296) (by decide +kernel)⟩
theorem lw_p4 : lw_okq (⟨"BidMarket$Text", "findWorth", "()I"⟩, 8) := ⟨⟨by decide +kernel, by decide +kernel⟩, List.mem_of_getElem? (i := 128) (by decide +kernel), List.mem_of_getElem? (i := 299) (by decide +kernel), List.mem_of_getElem? (i := 300) (by decide +kernel)⟩
theorem lw_p5 : lw_okq (⟨"BidMarket$Text", "findDigits", "()I"⟩, 8) := ⟨⟨by decide +kernel, by decide +kernel⟩, List.mem_of_getElem? (i := 128) (by decide +kernel), List.mem_of_getElem? (i := 306) (by decide +kernel), List.mem_of_getElem? (i := 307) (by decide +kernel)⟩
theorem lw_p6 : lw_okq (⟨"BidMarket$Text", "passBetween", "()V"⟩, 8) := ⟨⟨by decide +kernel, by decide +kernel⟩, List.mem_of_getElem? (i := 128) (by decide +kernel), List.mem_of_getElem? (i := 310) (by decide +kernel), List.mem_of_getElem? (i := 311) (by decide +kernel)⟩
theorem lw_p7 : lw_okq (⟨"BidMarket$Market", "hasBest", "(I)Z"⟩, 7) := ⟨⟨by decide +kernel, by decide +kernel⟩, List.mem_of_getElem? (i := 28) (by decide +kernel), List.mem_of_getElem? (i := 387) (by decide +kernel), List.mem_of_getElem? (i := 388) (by decide +kernel)⟩
theorem lw_p8 : lw_okq (⟨"BidMarket", "reported", "(I)I"⟩, 8) := ⟨⟨by decide +kernel, by decide +kernel⟩, List.mem_of_getElem? (i := 14) (by decide +kernel), List.mem_of_getElem? (i := 405) (by decide +kernel), List.mem_of_getElem? (i := 406) (by decide +kernel)⟩
theorem lw_p9 : lw_okq (⟨"BidMarket$Optimum", "mostOfSet", "(LBidMarket$Market;I)I"⟩, 1) := ⟨⟨by decide +kernel, by decide +kernel⟩, List.mem_of_getElem? (i := 118) (by decide +kernel), List.mem_of_getElem? (i := 450) (by decide +kernel), List.mem_of_getElem? (i := 451) (by decide +kernel)⟩
theorem lw_p10 : lw_okq (⟨"BidMarket$Optimum", "allowedToSome", "(LBidMarket$Market;I)I"⟩, 1) := ⟨⟨by decide +kernel, by decide +kernel⟩, List.mem_of_getElem? (i := 118) (by decide +kernel), List.mem_of_getElem? (i := 467) (by decide +kernel), List.mem_of_getElem? (i := 468) (by decide +kernel)⟩
theorem lw_p11 : lw_okq (⟨"BidMarket", "goesAsSeen", "(LBidMarket$Market;)Z"⟩, 8) := ⟨⟨by decide +kernel, by decide +kernel⟩, List.mem_of_getElem? (i := 14) (by decide +kernel), List.mem_of_getElem? (i := 504) (by decide +kernel), List.mem_of_getElem? (i := 505) (by decide +kernel)⟩
theorem lw_p12 : lw_okq (⟨"BidMarketModel", "empties", "()I"⟩, 36) := ⟨⟨by decide +kernel, by decide +kernel⟩, List.mem_of_getElem? (i := 609) (by decide +kernel), List.mem_of_getElem? (i := 617) (by decide +kernel), List.mem_of_getElem? (i := 618) (by decide +kernel)⟩
theorem lw_p13 : lw_okq (⟨"BidMarketModel", "passesAll", "(Z)I"⟩, 36) := ⟨⟨by decide +kernel, by decide +kernel⟩, List.mem_of_getElem? (i := 609) (by decide +kernel), List.mem_of_getElem? (i := 734) (by decide +kernel), List.mem_of_getElem? (i := 735) (by decide +kernel)⟩
theorem lw_p14 : lw_okq (⟨"BidMarketModel", "passes", "(I)I"⟩, 36) := ⟨⟨by decide +kernel, by decide +kernel⟩, List.mem_of_getElem? (i := 609) (by decide +kernel), List.mem_of_getElem? (i := 738) (by decide +kernel), List.mem_of_getElem? (i := 739) (by decide +kernel)⟩
theorem lw_p15 : lw_okq (⟨"BidMarketModel", "passesRow", "([I)V"⟩, 36) := ⟨⟨by decide +kernel, by decide +kernel⟩, List.mem_of_getElem? (i := 609) (by decide +kernel), List.mem_of_getElem? (i := 742) (by decide +kernel), List.mem_of_getElem? (i := 743) (by decide +kernel)⟩
def lw_privs_1 : List (MethodName × Nat) := [(⟨"BidMarket", "shownWorth", "(II)I"⟩, 8), (⟨"BidMarket$Text", "findClause", "(I)V"⟩, 8), (⟨"BidMarket$Text", "findNumber", "(III)I"⟩, 8), (⟨"BidMarket$Text", "sign", "()I"⟩, 8), (⟨"BidMarket$Text", "findWorth", "()I"⟩, 8), (⟨"BidMarket$Text", "findDigits", "()I"⟩, 8), (⟨"BidMarket$Text", "passBetween", "()V"⟩, 8), (⟨"BidMarket$Market", "hasBest", "(I)Z"⟩, 7), (⟨"BidMarket", "reported", "(I)I"⟩, 8), (⟨"BidMarket$Optimum", "mostOfSet", "(LBidMarket$Market;I)I"⟩, 1), (⟨"BidMarket$Optimum", "allowedToSome", "(LBidMarket$Market;I)I"⟩, 1), (⟨"BidMarket", "goesAsSeen", "(LBidMarket$Market;)Z"⟩, 8), (⟨"BidMarketModel", "empties", "()I"⟩, 36), (⟨"BidMarketModel", "passesAll", "(Z)I"⟩, 36), (⟨"BidMarketModel", "passes", "(I)I"⟩, 36), (⟨"BidMarketModel", "passesRow", "([I)V"⟩, 36)]
theorem lw_r1 : ∀ q ∈ lw_privs_1, lw_okq q := List.forall_mem_cons.mpr ⟨lw_p0, List.forall_mem_cons.mpr ⟨lw_p1, List.forall_mem_cons.mpr ⟨lw_p2, List.forall_mem_cons.mpr ⟨lw_p3, List.forall_mem_cons.mpr ⟨lw_p4, List.forall_mem_cons.mpr ⟨lw_p5, List.forall_mem_cons.mpr ⟨lw_p6, List.forall_mem_cons.mpr ⟨lw_p7, List.forall_mem_cons.mpr ⟨lw_p8, List.forall_mem_cons.mpr ⟨lw_p9, List.forall_mem_cons.mpr ⟨lw_p10, List.forall_mem_cons.mpr ⟨lw_p11, List.forall_mem_cons.mpr ⟨lw_p12, List.forall_mem_cons.mpr ⟨lw_p13, List.forall_mem_cons.mpr ⟨lw_p14, List.forall_mem_cons.mpr ⟨lw_p15, fun _ h => absurd h List.not_mem_nil⟩⟩⟩⟩⟩⟩⟩⟩⟩⟩⟩⟩⟩⟩⟩⟩
theorem lw_p16 : lw_okq (⟨"BidMarketModel", "free", "()V"⟩, 36) := ⟨⟨by decide +kernel, by decide +kernel⟩, List.mem_of_getElem? (i := 609) (by decide +kernel), List.mem_of_getElem? (i := 758) (by decide +kernel), List.mem_of_getElem? (i := 759) (by decide +kernel)⟩
theorem lw_p17 : lw_okq (⟨"BidMarketModel", "isPair", "(II)Z"⟩, 36) := ⟨⟨by decide +kernel, by decide +kernel⟩, List.mem_of_getElem? (i := 609) (by decide +kernel), List.mem_of_getElem? (i := 766) (by decide +kernel), List.mem_of_getElem? (i := 767) (by decide +kernel)⟩
theorem lw_p18 : lw_okq (⟨"BidMarketModel", "isOne", "(I)Z"⟩, 36) := ⟨⟨by decide +kernel, by decide +kernel⟩, List.mem_of_getElem? (i := 609) (by decide +kernel), List.mem_of_getElem? (i := 770) (by decide +kernel), List.mem_of_getElem? (i := 771) (by decide +kernel)⟩
theorem lw_p19 : lw_okq (⟨"BidMarketModel", "becomes", "(III)I"⟩, 36) := ⟨⟨by decide +kernel, by decide +kernel⟩, List.mem_of_getElem? (i := 609) (by decide +kernel), List.mem_of_getElem? (i := 776) (by decide +kernel), List.mem_of_getElem? (i := 777) (by decide +kernel)⟩
theorem lw_p20 : lw_okq (⟨"BidMarketModel", "loses", "(I)V"⟩, 36) := ⟨⟨by decide +kernel, by decide +kernel⟩, List.mem_of_getElem? (i := 609) (by decide +kernel), List.mem_of_getElem? (i := 780) (by decide +kernel), List.mem_of_getElem? (i := 781) (by decide +kernel)⟩
theorem lw_p21 : lw_okq (⟨"BidMarketModel", "goesThrough", "(Z)V"⟩, 36) := ⟨⟨by decide +kernel, by decide +kernel⟩, List.mem_of_getElem? (i := 609) (by decide +kernel), List.mem_of_getElem? (i := 798) (by decide +kernel), List.mem_of_getElem? (i := 799) (by decide +kernel)⟩
theorem lw_p22 : lw_okq (⟨"BidMarketModel", "clause", "(Z)V"⟩, 36) := ⟨⟨by decide +kernel, by decide +kernel⟩, List.mem_of_getElem? (i := 609) (by decide +kernel), List.mem_of_getElem? (i := 802) (by decide +kernel), List.mem_of_getElem? (i := 803) (by decide +kernel)⟩
theorem lw_p23 : lw_okq (⟨"BidMarketModel", "takesOne", "(III)I"⟩, 36) := ⟨⟨by decide +kernel, by decide +kernel⟩, List.mem_of_getElem? (i := 609) (by decide +kernel), List.mem_of_getElem? (i := 806) (by decide +kernel), List.mem_of_getElem? (i := 807) (by decide +kernel)⟩
theorem lw_p24 : lw_okq (⟨"BidMarketModel", "takes", "(II)I"⟩, 36) := ⟨⟨by decide +kernel, by decide +kernel⟩, List.mem_of_getElem? (i := 609) (by decide +kernel), List.mem_of_getElem? (i := 810) (by decide +kernel), List.mem_of_getElem? (i := 811) (by decide +kernel)⟩
theorem lw_p25 : lw_okq (⟨"BidMarketModel", "here", "()I"⟩, 36) := ⟨⟨by decide +kernel, by decide +kernel⟩, List.mem_of_getElem? (i := 609) (by decide +kernel), List.mem_of_getElem? (i := 814) (by decide +kernel), List.mem_of_getElem? (i := 815) (by decide +kernel)⟩
theorem lw_p26 : lw_okq (⟨"BidMarketModel", "takesWorth", "()I"⟩, 36) := ⟨⟨by decide +kernel, by decide +kernel⟩, List.mem_of_getElem? (i := 609) (by decide +kernel), List.mem_of_getElem? (i := 818) (by decide +kernel), List.mem_of_getElem? (i := 819) (by decide +kernel)⟩
theorem lw_p27 : lw_okq (⟨"BidMarketModel", "tellsWrong", "(III)V"⟩, 36) := ⟨⟨by decide +kernel, by decide +kernel⟩, List.mem_of_getElem? (i := 609) (by decide +kernel), List.mem_of_getElem? (i := 824) (by decide +kernel), List.mem_of_getElem? (i := 825) (by decide +kernel)⟩
theorem lw_p28 : lw_okq (⟨"BidMarketModel", "next", "()I"⟩, 36) := ⟨⟨by decide +kernel, by decide +kernel⟩, List.mem_of_getElem? (i := 609) (by decide +kernel), List.mem_of_getElem? (i := 836) (by decide +kernel), List.mem_of_getElem? (i := 837) (by decide +kernel)⟩
theorem lw_p29 : lw_okq (⟨"BidMarketModel", "best", "(I)I"⟩, 36) := ⟨⟨by decide +kernel, by decide +kernel⟩, List.mem_of_getElem? (i := 609) (by decide +kernel), List.mem_of_getElem? (i := 840) (by decide +kernel), List.mem_of_getElem? (i := 841) (by decide +kernel)⟩
theorem lw_p30 : lw_okq (⟨"BidMarketModel", "may", "(II)Z"⟩, 36) := ⟨⟨by decide +kernel, by decide +kernel⟩, List.mem_of_getElem? (i := 609) (by decide +kernel), List.mem_of_getElem? (i := 844) (by decide +kernel), List.mem_of_getElem? (i := 845) (by decide +kernel)⟩
theorem lw_p31 : lw_okq (⟨"BidMarketModel", "gain", "(II)I"⟩, 36) := ⟨⟨by decide +kernel, by decide +kernel⟩, List.mem_of_getElem? (i := 609) (by decide +kernel), List.mem_of_getElem? (i := 848) (by decide +kernel), List.mem_of_getElem? (i := 849) (by decide +kernel)⟩
def lw_privs_2 : List (MethodName × Nat) := [(⟨"BidMarketModel", "free", "()V"⟩, 36), (⟨"BidMarketModel", "isPair", "(II)Z"⟩, 36), (⟨"BidMarketModel", "isOne", "(I)Z"⟩, 36), (⟨"BidMarketModel", "becomes", "(III)I"⟩, 36), (⟨"BidMarketModel", "loses", "(I)V"⟩, 36), (⟨"BidMarketModel", "goesThrough", "(Z)V"⟩, 36), (⟨"BidMarketModel", "clause", "(Z)V"⟩, 36), (⟨"BidMarketModel", "takesOne", "(III)I"⟩, 36), (⟨"BidMarketModel", "takes", "(II)I"⟩, 36), (⟨"BidMarketModel", "here", "()I"⟩, 36), (⟨"BidMarketModel", "takesWorth", "()I"⟩, 36), (⟨"BidMarketModel", "tellsWrong", "(III)V"⟩, 36), (⟨"BidMarketModel", "next", "()I"⟩, 36), (⟨"BidMarketModel", "best", "(I)I"⟩, 36), (⟨"BidMarketModel", "may", "(II)Z"⟩, 36), (⟨"BidMarketModel", "gain", "(II)I"⟩, 36)]
theorem lw_r2 : ∀ q ∈ lw_privs_2, lw_okq q := List.forall_mem_cons.mpr ⟨lw_p16, List.forall_mem_cons.mpr ⟨lw_p17, List.forall_mem_cons.mpr ⟨lw_p18, List.forall_mem_cons.mpr ⟨lw_p19, List.forall_mem_cons.mpr ⟨lw_p20, List.forall_mem_cons.mpr ⟨lw_p21, List.forall_mem_cons.mpr ⟨lw_p22, List.forall_mem_cons.mpr ⟨lw_p23, List.forall_mem_cons.mpr ⟨lw_p24, List.forall_mem_cons.mpr ⟨lw_p25, List.forall_mem_cons.mpr ⟨lw_p26, List.forall_mem_cons.mpr ⟨lw_p27, List.forall_mem_cons.mpr ⟨lw_p28, List.forall_mem_cons.mpr ⟨lw_p29, List.forall_mem_cons.mpr ⟨lw_p30, List.forall_mem_cons.mpr ⟨lw_p31, fun _ h => absurd h List.not_mem_nil⟩⟩⟩⟩⟩⟩⟩⟩⟩⟩⟩⟩⟩⟩⟩⟩
theorem lw_p32 : lw_okq (⟨"BidMarketModel", "bids", "(I)I"⟩, 36) := ⟨⟨by decide +kernel, by decide +kernel⟩, List.mem_of_getElem? (i := 609) (by decide +kernel), List.mem_of_getElem? (i := 852) (by decide +kernel), List.mem_of_getElem? (i := 853) (by decide +kernel)⟩
theorem lw_p33 : lw_okq (⟨"BidMarketModel", "offer", "(I)I"⟩, 36) := ⟨⟨by decide +kernel, by decide +kernel⟩, List.mem_of_getElem? (i := 609) (by decide +kernel), List.mem_of_getElem? (i := 856) (by decide +kernel), List.mem_of_getElem? (i := 857) (by decide +kernel)⟩
theorem lw_p34 : lw_okq (⟨"BidMarketModel", "second", "(II)I"⟩, 36) := ⟨⟨by decide +kernel, by decide +kernel⟩, List.mem_of_getElem? (i := 609) (by decide +kernel), List.mem_of_getElem? (i := 860) (by decide +kernel), List.mem_of_getElem? (i := 861) (by decide +kernel)⟩
theorem lw_p35 : lw_okq (⟨"BidMarketModel", "bidsAll", "()I"⟩, 36) := ⟨⟨by decide +kernel, by decide +kernel⟩, List.mem_of_getElem? (i := 609) (by decide +kernel), List.mem_of_getElem? (i := 868) (by decide +kernel), List.mem_of_getElem? (i := 869) (by decide +kernel)⟩
theorem lw_p36 : lw_okq (⟨"BidMarketModel", "tellsLeft", "()V"⟩, 36) := ⟨⟨by decide +kernel, by decide +kernel⟩, List.mem_of_getElem? (i := 609) (by decide +kernel), List.mem_of_getElem? (i := 872) (by decide +kernel), List.mem_of_getElem? (i := 873) (by decide +kernel)⟩
theorem lw_p37 : lw_okq (⟨"BidMarketModel", "envy", "(I)I"⟩, 36) := ⟨⟨by decide +kernel, by decide +kernel⟩, List.mem_of_getElem? (i := 609) (by decide +kernel), List.mem_of_getElem? (i := 898) (by decide +kernel), List.mem_of_getElem? (i := 899) (by decide +kernel)⟩
theorem lw_p38 : lw_okq (⟨"BidMarketModel", "open", "(I)I"⟩, 36) := ⟨⟨by decide +kernel, by decide +kernel⟩, List.mem_of_getElem? (i := 609) (by decide +kernel), List.mem_of_getElem? (i := 902) (by decide +kernel), List.mem_of_getElem? (i := 903) (by decide +kernel)⟩
theorem lw_p39 : lw_okq (⟨"BidMarketModel", "wanted", "(I)I"⟩, 36) := ⟨⟨by decide +kernel, by decide +kernel⟩, List.mem_of_getElem? (i := 609) (by decide +kernel), List.mem_of_getElem? (i := 913) (by decide +kernel), List.mem_of_getElem? (i := 914) (by decide +kernel)⟩
theorem lw_p40 : lw_okq (⟨"BidMarketModel", "sum", "()I"⟩, 36) := ⟨⟨by decide +kernel, by decide +kernel⟩, List.mem_of_getElem? (i := 609) (by decide +kernel), List.mem_of_getElem? (i := 921) (by decide +kernel), List.mem_of_getElem? (i := 922) (by decide +kernel)⟩
theorem lw_p41 : lw_okq (⟨"BidMarketModel", "most", "()I"⟩, 36) := ⟨⟨by decide +kernel, by decide +kernel⟩, List.mem_of_getElem? (i := 609) (by decide +kernel), List.mem_of_getElem? (i := 925) (by decide +kernel), List.mem_of_getElem? (i := 926) (by decide +kernel)⟩
theorem lw_p42 : lw_okq (⟨"BidMarketModel", "sure", "()I"⟩, 36) := ⟨⟨by decide +kernel, by decide +kernel⟩, List.mem_of_getElem? (i := 609) (by decide +kernel), List.mem_of_getElem? (i := 930) (by decide +kernel), List.mem_of_getElem? (i := 931) (by decide +kernel)⟩
theorem lw_p43 : lw_okq (⟨"BidMarketModel", "lack", "()I"⟩, 36) := ⟨⟨by decide +kernel, by decide +kernel⟩, List.mem_of_getElem? (i := 609) (by decide +kernel), List.mem_of_getElem? (i := 934) (by decide +kernel), List.mem_of_getElem? (i := 935) (by decide +kernel)⟩
theorem lw_p44 : lw_okq (⟨"BidMarketModel", "havers", "()I"⟩, 36) := ⟨⟨by decide +kernel, by decide +kernel⟩, List.mem_of_getElem? (i := 609) (by decide +kernel), List.mem_of_getElem? (i := 938) (by decide +kernel), List.mem_of_getElem? (i := 939) (by decide +kernel)⟩
theorem lw_p45 : lw_okq (⟨"BidMarketModel", "prices", "()I"⟩, 36) := ⟨⟨by decide +kernel, by decide +kernel⟩, List.mem_of_getElem? (i := 609) (by decide +kernel), List.mem_of_getElem? (i := 942) (by decide +kernel), List.mem_of_getElem? (i := 943) (by decide +kernel)⟩
theorem lw_p46 : lw_okq (⟨"BidMarketModel", "minds", "()V"⟩, 36) := ⟨⟨by decide +kernel, by decide +kernel⟩, List.mem_of_getElem? (i := 609) (by decide +kernel), List.mem_of_getElem? (i := 954) (by decide +kernel), List.mem_of_getElem? (i := 955) (by decide +kernel)⟩
theorem lw_p47 : lw_okq (⟨"BidMarketModel", "triesAuction", "()V"⟩, 36) := ⟨⟨by decide +kernel, by decide +kernel⟩, List.mem_of_getElem? (i := 609) (by decide +kernel), List.mem_of_getElem? (i := 961) (by decide +kernel), List.mem_of_getElem? (i := 962) (by decide +kernel)⟩
def lw_privs_3 : List (MethodName × Nat) := [(⟨"BidMarketModel", "bids", "(I)I"⟩, 36), (⟨"BidMarketModel", "offer", "(I)I"⟩, 36), (⟨"BidMarketModel", "second", "(II)I"⟩, 36), (⟨"BidMarketModel", "bidsAll", "()I"⟩, 36), (⟨"BidMarketModel", "tellsLeft", "()V"⟩, 36), (⟨"BidMarketModel", "envy", "(I)I"⟩, 36), (⟨"BidMarketModel", "open", "(I)I"⟩, 36), (⟨"BidMarketModel", "wanted", "(I)I"⟩, 36), (⟨"BidMarketModel", "sum", "()I"⟩, 36), (⟨"BidMarketModel", "most", "()I"⟩, 36), (⟨"BidMarketModel", "sure", "()I"⟩, 36), (⟨"BidMarketModel", "lack", "()I"⟩, 36), (⟨"BidMarketModel", "havers", "()I"⟩, 36), (⟨"BidMarketModel", "prices", "()I"⟩, 36), (⟨"BidMarketModel", "minds", "()V"⟩, 36), (⟨"BidMarketModel", "triesAuction", "()V"⟩, 36)]
theorem lw_r3 : ∀ q ∈ lw_privs_3, lw_okq q := List.forall_mem_cons.mpr ⟨lw_p32, List.forall_mem_cons.mpr ⟨lw_p33, List.forall_mem_cons.mpr ⟨lw_p34, List.forall_mem_cons.mpr ⟨lw_p35, List.forall_mem_cons.mpr ⟨lw_p36, List.forall_mem_cons.mpr ⟨lw_p37, List.forall_mem_cons.mpr ⟨lw_p38, List.forall_mem_cons.mpr ⟨lw_p39, List.forall_mem_cons.mpr ⟨lw_p40, List.forall_mem_cons.mpr ⟨lw_p41, List.forall_mem_cons.mpr ⟨lw_p42, List.forall_mem_cons.mpr ⟨lw_p43, List.forall_mem_cons.mpr ⟨lw_p44, List.forall_mem_cons.mpr ⟨lw_p45, List.forall_mem_cons.mpr ⟨lw_p46, List.forall_mem_cons.mpr ⟨lw_p47, fun _ h => absurd h List.not_mem_nil⟩⟩⟩⟩⟩⟩⟩⟩⟩⟩⟩⟩⟩⟩⟩⟩
theorem lw_p48 : lw_okq (⟨"BidMarketModel", "isAllSeen", "()Z"⟩, 36) := ⟨⟨by decide +kernel, by decide +kernel⟩, List.mem_of_getElem? (i := 609) (by decide +kernel), List.mem_of_getElem? (i := 965) (by decide +kernel), List.mem_of_getElem? (i := 966) (by decide +kernel)⟩
theorem lw_p49 : lw_okq (⟨"BidMarketModel", "forgets", "()V"⟩, 36) := ⟨⟨by decide +kernel, by decide +kernel⟩, List.mem_of_getElem? (i := 609) (by decide +kernel), List.mem_of_getElem? (i := 969) (by decide +kernel), List.mem_of_getElem? (i := 970) (by decide +kernel)⟩
theorem lw_p50 : lw_okq (⟨"BidMarketModel", "forbidden", "()I"⟩, 36) := ⟨⟨by decide +kernel, by decide +kernel⟩, List.mem_of_getElem? (i := 609) (by decide +kernel), List.mem_of_getElem? (i := 1016) (by decide +kernel), List.mem_of_getElem? (i := 1017) (by decide +kernel)⟩
def lw_privs_4 : List (MethodName × Nat) := [(⟨"BidMarketModel", "isAllSeen", "()Z"⟩, 36), (⟨"BidMarketModel", "forgets", "()V"⟩, 36), (⟨"BidMarketModel", "forbidden", "()I"⟩, 36)]
theorem lw_r4 : ∀ q ∈ lw_privs_4, lw_okq q := List.forall_mem_cons.mpr ⟨lw_p48, List.forall_mem_cons.mpr ⟨lw_p49, List.forall_mem_cons.mpr ⟨lw_p50, fun _ h => absurd h List.not_mem_nil⟩⟩⟩
def lw_privs : List (MethodName × Nat) := lw_privs_1 ++ (lw_privs_2 ++ (lw_privs_3 ++ (lw_privs_4)))
def lw_tbl : List Cond := k2_sels lw_privs ++ tables_1
theorem lw_privs_ok : ∀ q ∈ lw_privs, lw_okq q := by
  show ∀ q ∈ lw_privs_1 ++ (lw_privs_2 ++ (lw_privs_3 ++ (lw_privs_4))), lw_okq q
  exact List.forall_mem_append.mpr ⟨lw_r1, List.forall_mem_append.mpr ⟨lw_r2, List.forall_mem_append.mpr ⟨lw_r3, lw_r4⟩⟩⟩
end
section
/-! ===== BEGIN words of one list among another's, by their places ===== -/
theorem goodIn_r {big : List Cond} (ws : List Cond) (ps : List Nat) (hp : ws = ps.filterMap (fun i => big[i]?)) (h : ws.all goodWord = true) : GoodIn big ws := by
  intro w hw
  have h1 := List.all_eq_true.mp h w hw
  rw [hp] at hw
  obtain ⟨i, -, hi⟩ := List.mem_filterMap.mp hw
  have hm : w ∈ big := by first | exact List.mem_of_getElem? hi | exact List.getElem?_mem hi
  exact ⟨hm, good_of_word h1⟩
theorem goodIn_app {big a b : List Cond} (ha : GoodIn big a) (hb : GoodIn big b) : GoodIn big (a ++ b) := fun w h => (List.mem_append.mp h).elim (ha w) (hb w)
theorem goodIn_ca {big a b : List Cond} {c : Cond} (ha : GoodIn big (c :: a)) (hb : GoodIn big b) : GoodIn big (c :: (a ++ b)) := fun w h => (List.mem_cons.mp h).elim (fun e => ha w (List.mem_cons.mpr (Or.inl e))) (fun h => (List.mem_append.mp h).elim (fun h => ha w (List.mem_cons.mpr (Or.inr h))) (hb w))
theorem goodIn_sub {big ws : List Cond} (hm : ∀ w ∈ ws, w ∈ big) (h : ws.all goodWord = true) : GoodIn big ws := fun w hw => ⟨hm w hw, good_of_word (List.all_eq_true.mp h w hw)⟩
/-! ===== END ===== -/

/-! ===== BEGIN new T[n][m]: the outer array a place, the inner ones among the pooled ===== -/
/-- f, but v at every address of l -/
def vr_up {α : Type} (f : Nat → α) (l : List Nat) (v : α) : Nat → α := fun a => if a ∈ l then v else f a
theorem vr_up_in {α : Type} {f : Nat → α} {l : List Nat} {v : α} {a : Nat} (h : a ∈ l) : vr_up f l v a = v := if_pos h
theorem vr_up_ne {α : Type} {f : Nat → α} {l : List Nat} {v : α} {a : Nat} (h : a ∉ l) : vr_up f l v a = f a := if_neg h
theorem vr_rows {L l : List Nat} {f : Nat → va_E} {e : va_E} (h : ∀ a, a ∈ l → a ∉ L) : va_pl L f ++ l.map (fun a => (a, e)) = va_pl (L ++ l) (vr_up f l e) := by
  unfold va_pl
  rw [List.map_append]
  congr 1
  · apply List.map_congr_left
    intro a ha
    rw [vr_up_ne (fun q => h a q ha)]
  · apply List.map_congr_left
    intro a ha
    rw [vr_up_in ha]
theorem vr_lay {X rows : va_W} {x : Nat × va_E} {pl : va_W} {D : va_G} {cl : List vw_C} {H : Heap} (hP : va_P D cl (((X ++ pl) ++ [x]) ++ rows) H) : va_P D cl ((X ++ [x]) ++ (pl ++ rows)) H := by
  rw [List.append_assoc (X ++ pl)] at hP
  have h := va_P.swap hP
  rw [← List.append_assoc X] at h
  have h2 := va_P.swap h
  rw [List.append_assoc (X ++ [x])] at h2
  exact h2
theorem vr_layD {X rows : va_W} {x : Nat × va_E} {pl : va_W} {A : Nat → Prop} (hD : va_D A (((X ++ pl) ++ [x]) ++ rows)) : va_D A ((X ++ [x]) ++ (pl ++ rows)) := by
  rw [List.append_assoc (X ++ pl)] at hD
  have h := va_D.swap hD
  rw [← List.append_assoc X] at h
  have h2 := va_D.swap h
  rw [List.append_assoc (X ++ [x])] at h2
  exact h2
theorem vr_outer (c : ClassId) (N h0 : Nat) : ∀ i : Nat, Jvm.Free.Multi.outerC c N h0 i = arrV c N (fun j => va_rf (if j < i then some (h0 + 1 + j) else none))
  | 0 => by
    show ({ cls := c, slots := Array.replicate N .null, vm := .none } : Cell) = _
    rw [arrV_new]
    refine congrArg (arrV c N) (funext fun j => ?_)
    simp [va_rf]
  | i + 1 => by
    show (Jvm.Free.Multi.outerC c N h0 i).setSlot i (.ref (h0 + 1 + i)) = _
    rw [vr_outer c N h0 i, arrV_store]
    refine congrArg (arrV c N) (funext fun j => ?_)
    by_cases e : j = i
    · subst e
      simp [updV, va_rf]
    · by_cases h : j < i
      · simp [updV, e, h, Nat.lt_succ_of_lt h]
      · simp [updV, e, h, show ¬ j < i + 1 by omega]

/-! ===== END ===== -/

/-! ===== BEGIN printed: names, fields, word lists, decode rows ===== -/
def RX0 : String := "BidMarket$Complaint"
def TX0 : u_T := fun k => match k with
  | 0 => ("BidMarket$Complaint", "kind", "I", false)
  | 1 => ("BidMarket$Complaint", "cause", "I", false)
  | _ => ("BidMarket$Complaint", "causeOfCause", "I", false)
def tyX0 : Nat → FieldType := fun k => match k with
  | 0 => .int
  | 1 => .int
  | _ => .int
abbrev wsX00 : List Cond := u_ws RX0 TX0 3
theorem nmX0 : ∀ a, a < 3 → ∀ b, b < 3 → a ≠ b → (TX0 a).2.1 ≠ (TX0 b).2.1 := by decide +kernel
theorem tyX0_ok : ∀ k, k < 3 → parseFieldDescriptor (TX0 k).2.2.1 = some (tyX0 k) := by decide +kernel
abbrev cX0_init : ByteArray := prog_2_method_1_code
def yX0_init : MethodName := ⟨RX0, "<init>", "()V"⟩
abbrev cX0_tell : ByteArray := prog_2_method_2_code
def yX0_tell : MethodName := ⟨RX0, "tell", "(III)V"⟩
def RX1 : String := "BidMarket$Holdings"
def TX1 : u_T := fun k => match k with
  | 0 => ("BidMarket$Holdings", "market", "LBidMarket$Market;", true)
  | 1 => ("BidMarket$Holdings", "seen", "LBidMarket$Rows;", true)
  | 2 => ("BidMarket$Holdings", "plan", "LBidMarket$Rows;", true)
  | _ => ("BidMarket$Holdings", "book", "LBidMarket$Rows;", true)
def tyX1 : Nat → FieldType := fun k => match k with
  | 0 => .object "BidMarket$Market"
  | 1 => .object "BidMarket$Rows"
  | 2 => .object "BidMarket$Rows"
  | _ => .object "BidMarket$Rows"
abbrev wsX10 : List Cond := u_ws RX1 TX1 4
theorem nmX1 : ∀ a, a < 4 → ∀ b, b < 4 → a ≠ b → (TX1 a).2.1 ≠ (TX1 b).2.1 := by decide +kernel
theorem tyX1_ok : ∀ k, k < 4 → parseFieldDescriptor (TX1 k).2.2.1 = some (tyX1 k) := by decide +kernel
abbrev cX1_init : ByteArray := prog_3_method_1_code
def yX1_init : MethodName := ⟨RX1, "<init>", "()V"⟩
abbrev cX1_become : ByteArray := prog_3_method_2_code
def yX1_become : MethodName := ⟨RX1, "become", "(LBidMarket$Holdings;)V"⟩
def RX2 : String := "BidMarket$Market"
def TX2 : u_T := fun k => match k with
  | 0 => ("BidMarket$Market", "worths", "[[I", true)
  | 1 => ("BidMarket$Market", "thingOf", "[I", true)
  | 2 => ("BidMarket$Market", "personOf", "[I", true)
  | 3 => ("BidMarket$Market", "prices", "[I", true)
  | 4 => ("BidMarket$Market", "n", "I", false)
  | 5 => ("BidMarket$Market", "pace", "I", false)
  | _ => ("BidMarket$Market", "breaker", "I", false)
def tyX2 : Nat → FieldType := fun k => match k with
  | 0 => .array (.array .int)
  | 1 => .array .int
  | 2 => .array .int
  | 3 => .array .int
  | 4 => .int
  | 5 => .int
  | _ => .int
abbrev wsX20 : List Cond := u_ws RX2 TX2 7
theorem nmX2 : ∀ a, a < 7 → ∀ b, b < 7 → a ≠ b → (TX2 a).2.1 ≠ (TX2 b).2.1 := by decide +kernel
theorem tyX2_ok : ∀ k, k < 7 → parseFieldDescriptor (TX2 k).2.2.1 = some (tyX2 k) := by decide +kernel
abbrev cX2_init : ByteArray := prog_4_method_1_code
def yX2_init : MethodName := ⟨RX2, "<init>", "()V"⟩
abbrev cX2_becomeEmpty : ByteArray := prog_4_method_2_code
def yX2_becomeEmpty : MethodName := ⟨RX2, "becomeEmpty", "(I)V"⟩
abbrev cX2_become : ByteArray := prog_4_method_3_code
def yX2_become : MethodName := ⟨RX2, "become", "(LBidMarket$Market;)V"⟩
abbrev cX2_startAnew : ByteArray := prog_4_method_4_code
def yX2_startAnew : MethodName := ⟨RX2, "startAnew", "()V"⟩
abbrev cX2_takeAllAway : ByteArray := prog_4_method_5_code
def yX2_takeAllAway : MethodName := ⟨RX2, "takeAllAway", "()V"⟩
abbrev cX2_giveUp : ByteArray := prog_4_method_6_code
def yX2_giveUp : MethodName := ⟨RX2, "giveUp", "(I)V"⟩
abbrev cX2_becomeWorth : ByteArray := prog_4_method_7_code
def yX2_becomeWorth : MethodName := ⟨RX2, "becomeWorth", "(III)V"⟩
abbrev cX2_has : ByteArray := prog_4_method_8_code
def yX2_has : MethodName := ⟨RX2, "has", "(I)Z"⟩
abbrev cX2_allows : ByteArray := prog_4_method_9_code
def yX2_allows : MethodName := ⟨RX2, "allows", "(II)Z"⟩
abbrev cX2_gainOf : ByteArray := prog_4_method_10_code
def yX2_gainOf : MethodName := ⟨RX2, "gainOf", "(II)I"⟩
abbrev cX2_bestOf : ByteArray := prog_4_method_11_code
def yX2_bestOf : MethodName := ⟨RX2, "bestOf", "(I)I"⟩
abbrev cX2_bestBut : ByteArray := prog_4_method_12_code
def yX2_bestBut : MethodName := ⟨RX2, "bestBut", "(II)I"⟩
abbrev cX2_offerFor : ByteArray := prog_4_method_13_code
def yX2_offerFor : MethodName := ⟨RX2, "offerFor", "(II)I"⟩
abbrev cX2_nextBidder : ByteArray := prog_4_method_14_code
def yX2_nextBidder : MethodName := ⟨RX2, "nextBidder", "()I"⟩
abbrev cX2_nextOffer : ByteArray := prog_4_method_15_code
def yX2_nextOffer : MethodName := ⟨RX2, "nextOffer", "()I"⟩
abbrev cX2_letNextBid : ByteArray := prog_4_method_16_code
def yX2_letNextBid : MethodName := ⟨RX2, "letNextBid", "()I"⟩
abbrev cX2_runAuction : ByteArray := prog_4_method_17_code
def yX2_runAuction : MethodName := ⟨RX2, "runAuction", "()I"⟩
abbrev cX2_runScaled : ByteArray := prog_4_method_18_code
def yX2_runScaled : MethodName := ⟨RX2, "runScaled", "()I"⟩
abbrev cX2_hasBest : ByteArray := prog_4_method_19_code
def yX2_hasBest : MethodName := ⟨RX2, "hasBest", "(I)Z"⟩
abbrev cX2_allowedTo : ByteArray := prog_4_method_20_code
def yX2_allowedTo : MethodName := ⟨RX2, "allowedTo", "(I)I"⟩
abbrev cX2_wantersOf : ByteArray := prog_4_method_21_code
def yX2_wantersOf : MethodName := ⟨RX2, "wantersOf", "(I)I"⟩
abbrev cX2_ownGain : ByteArray := prog_4_method_22_code
def yX2_ownGain : MethodName := ⟨RX2, "ownGain", "(I)I"⟩
abbrev cX2_envyOf : ByteArray := prog_4_method_23_code
def yX2_envyOf : MethodName := ⟨RX2, "envyOf", "(I)I"⟩
abbrev cX2_isSure : ByteArray := prog_4_method_24_code
def yX2_isSure : MethodName := ⟨RX2, "isSure", "()Z"⟩
abbrev cX2_leastWithout : ByteArray := prog_4_method_25_code
def yX2_leastWithout : MethodName := ⟨RX2, "leastWithout", "()I"⟩
abbrev cX2_ownersCounted : ByteArray := prog_4_method_26_code
def yX2_ownersCounted : MethodName := ⟨RX2, "ownersCounted", "()I"⟩
abbrev cX2_worthTogether : ByteArray := prog_4_method_27_code
def yX2_worthTogether : MethodName := ⟨RX2, "worthTogether", "()I"⟩
abbrev cX2_pricesTogether : ByteArray := prog_4_method_28_code
def yX2_pricesTogether : MethodName := ⟨RX2, "pricesTogether", "()I"⟩
abbrev cX2_forbiddenCounted : ByteArray := prog_4_method_29_code
def yX2_forbiddenCounted : MethodName := ⟨RX2, "forbiddenCounted", "()I"⟩
def RX3 : String := "BidMarket$Optimum"
def TX3 : u_T := fun k => match k with
  | _ => ("BidMarket$Optimum", "sums", "[I", true)
def tyX3 : Nat → FieldType := fun k => match k with
  | _ => .array .int
abbrev wsX30 : List Cond := u_ws RX3 TX3 1
theorem nmX3 : ∀ a, a < 1 → ∀ b, b < 1 → a ≠ b → (TX3 a).2.1 ≠ (TX3 b).2.1 := by decide +kernel
theorem tyX3_ok : ∀ k, k < 1 → parseFieldDescriptor (TX3 k).2.2.1 = some (tyX3 k) := by decide +kernel
abbrev cX3_init : ByteArray := prog_5_method_1_code
def yX3_init : MethodName := ⟨RX3, "<init>", "()V"⟩
abbrev cX3_mostWorth : ByteArray := prog_5_method_2_code
def yX3_mostWorth : MethodName := ⟨RX3, "mostWorth", "(LBidMarket$Market;)I"⟩
abbrev cX3_mostOfSet : ByteArray := prog_5_method_3_code
def yX3_mostOfSet : MethodName := ⟨RX3, "mostOfSet", "(LBidMarket$Market;I)I"⟩
abbrev cX3_leastLacking : ByteArray := prog_5_method_4_code
def yX3_leastLacking : MethodName := ⟨RX3, "leastLacking", "(LBidMarket$Market;)I"⟩
abbrev cX3_allowedToSome : ByteArray := prog_5_method_5_code
def yX3_allowedToSome : MethodName := ⟨RX3, "allowedToSome", "(LBidMarket$Market;I)I"⟩
def RX4 : String := "BidMarket$Rows"
def TX4 : u_T := fun k => match k with
  | 0 => ("BidMarket$Rows", "left", "[I", true)
  | 1 => ("BidMarket$Rows", "right", "[I", true)
  | _ => ("BidMarket$Rows", "used", "I", false)
def tyX4 : Nat → FieldType := fun k => match k with
  | 0 => .array .int
  | 1 => .array .int
  | _ => .int
abbrev wsX40 : List Cond := u_ws RX4 TX4 3
theorem nmX4 : ∀ a, a < 3 → ∀ b, b < 3 → a ≠ b → (TX4 a).2.1 ≠ (TX4 b).2.1 := by decide +kernel
theorem tyX4_ok : ∀ k, k < 3 → parseFieldDescriptor (TX4 k).2.2.1 = some (tyX4 k) := by decide +kernel
abbrev cX4_init : ByteArray := prog_6_method_1_code
def yX4_init : MethodName := ⟨RX4, "<init>", "(I)V"⟩
abbrev cX4_empty : ByteArray := prog_6_method_2_code
def yX4_empty : MethodName := ⟨RX4, "empty", "()I"⟩
abbrev cX4_append : ByteArray := prog_6_method_3_code
def yX4_append : MethodName := ⟨RX4, "append", "(II)I"⟩
abbrev cX4_become : ByteArray := prog_6_method_4_code
def yX4_become : MethodName := ⟨RX4, "become", "(LBidMarket$Rows;)V"⟩
def RX5 : String := "BidMarket$Tape"
def TX5 : u_T := fun k => match k with
  | 0 => ("BidMarket$Tape", "items", "[J", true)
  | 1 => ("BidMarket$Tape", "sort", "I", false)
  | _ => ("BidMarket$Tape", "length", "I", false)
def tyX5 : Nat → FieldType := fun k => match k with
  | 0 => .array .long
  | 1 => .int
  | _ => .int
abbrev wsX50 : List Cond := u_ws RX5 TX5 3
theorem nmX5 : ∀ a, a < 3 → ∀ b, b < 3 → a ≠ b → (TX5 a).2.1 ≠ (TX5 b).2.1 := by decide +kernel
theorem tyX5_ok : ∀ k, k < 3 → parseFieldDescriptor (TX5 k).2.2.1 = some (tyX5 k) := by decide +kernel
abbrev cX5_init : ByteArray := prog_7_method_1_code
def yX5_init : MethodName := ⟨RX5, "<init>", "()V"⟩
abbrev cX5_becomeRow : ByteArray := prog_7_method_2_code
def yX5_becomeRow : MethodName := ⟨RX5, "becomeRow", "(II)V"⟩
abbrev cX5_hasPlace : ByteArray := prog_7_method_3_code
def yX5_hasPlace : MethodName := ⟨RX5, "hasPlace", "(I)Z"⟩
abbrev cX5_hasRun : ByteArray := prog_7_method_4_code
def yX5_hasRun : MethodName := ⟨RX5, "hasRun", "(II)Z"⟩
abbrev cX5_asItem : ByteArray := prog_7_method_5_code
def yX5_asItem : MethodName := ⟨RX5, "asItem", "(J)J"⟩
def RX6 : String := "BidMarket$Text"
def TX6 : u_T := fun k => match k with
  | 0 => ("BidMarket$Text", "bytes", "[I", true)
  | 1 => ("BidMarket$Text", "length", "I", false)
  | 2 => ("BidMarket$Text", "persons", "[I", true)
  | 3 => ("BidMarket$Text", "things", "[I", true)
  | 4 => ("BidMarket$Text", "worths", "[I", true)
  | 5 => ("BidMarket$Text", "clauses", "I", false)
  | 6 => ("BidMarket$Text", "at", "I", false)
  | _ => ("BidMarket$Text", "kind", "I", false)
def tyX6 : Nat → FieldType := fun k => match k with
  | 0 => .array .int
  | 1 => .int
  | 2 => .array .int
  | 3 => .array .int
  | 4 => .array .int
  | 5 => .int
  | 6 => .int
  | _ => .int
abbrev wsX60 : List Cond := u_ws RX6 TX6 8
theorem nmX6 : ∀ a, a < 8 → ∀ b, b < 8 → a ≠ b → (TX6 a).2.1 ≠ (TX6 b).2.1 := by decide +kernel
theorem tyX6_ok : ∀ k, k < 8 → parseFieldDescriptor (TX6 k).2.2.1 = some (tyX6 k) := by decide +kernel
abbrev cX6_init : ByteArray := prog_8_method_1_code
def yX6_init : MethodName := ⟨RX6, "<init>", "()V"⟩
abbrev cX6_empty : ByteArray := prog_8_method_2_code
def yX6_empty : MethodName := ⟨RX6, "empty", "()V"⟩
abbrev cX6_append : ByteArray := prog_8_method_3_code
def yX6_append : MethodName := ⟨RX6, "append", "(I)I"⟩
abbrev cX6_findClauses : ByteArray := prog_8_method_4_code
def yX6_findClauses : MethodName := ⟨RX6, "findClauses", "(I)V"⟩
abbrev cX6_passBetween : ByteArray := prog_8_method_5_code
def yX6_passBetween : MethodName := ⟨RX6, "passBetween", "()V"⟩
abbrev cX6_findClause : ByteArray := prog_8_method_6_code
def yX6_findClause : MethodName := ⟨RX6, "findClause", "(I)V"⟩
abbrev cX6_findNumber : ByteArray := prog_8_method_7_code
def yX6_findNumber : MethodName := ⟨RX6, "findNumber", "(III)I"⟩
abbrev cX6_findWorth : ByteArray := prog_8_method_8_code
def yX6_findWorth : MethodName := ⟨RX6, "findWorth", "()I"⟩
abbrev cX6_findDigits : ByteArray := prog_8_method_9_code
def yX6_findDigits : MethodName := ⟨RX6, "findDigits", "()I"⟩
abbrev cX6_isDigit : ByteArray := prog_8_method_10_code
def yX6_isDigit : MethodName := ⟨RX6, "isDigit", "(I)Z"⟩
abbrev cX6_sign : ByteArray := prog_8_method_11_code
def yX6_sign : MethodName := ⟨RX6, "sign", "()I"⟩
def RX7 : String := "BidMarket"
def TX7 : u_T := fun k => match k with
  | 0 => ("BidMarket", "held", "LBidMarket$Holdings;", true)
  | 1 => ("BidMarket", "kept", "LBidMarket$Holdings;", true)
  | 2 => ("BidMarket", "trial", "LBidMarket$Market;", true)
  | 3 => ("BidMarket", "optimum", "LBidMarket$Optimum;", true)
  | 4 => ("BidMarket", "text", "LBidMarket$Text;", true)
  | 5 => ("BidMarket", "complaint", "LBidMarket$Complaint;", true)
  | 6 => ("BidMarket", "tapes", "[LBidMarket$Tape;", true)
  | _ => ("BidMarket", "imaged", "Z", false)
def tyX7 : Nat → FieldType := fun k => match k with
  | 0 => .object "BidMarket$Holdings"
  | 1 => .object "BidMarket$Holdings"
  | 2 => .object "BidMarket$Market"
  | 3 => .object "BidMarket$Optimum"
  | 4 => .object "BidMarket$Text"
  | 5 => .object "BidMarket$Complaint"
  | 6 => .array (.object "BidMarket$Tape")
  | _ => .boolean
abbrev wsX70 : List Cond := u_ws RX7 TX7 8
theorem nmX7 : ∀ a, a < 8 → ∀ b, b < 8 → a ≠ b → (TX7 a).2.1 ≠ (TX7 b).2.1 := by decide +kernel
theorem tyX7_ok : ∀ k, k < 8 → parseFieldDescriptor (TX7 k).2.2.1 = some (tyX7 k) := by decide +kernel
abbrev cX7_init : ByteArray := prog_1_method_1_code
def yX7_init : MethodName := ⟨RX7, "<init>", "()V"⟩
abbrev cX7_size : ByteArray := prog_1_method_2_code
def yX7_size : MethodName := ⟨RX7, "size", "(I)I"⟩
abbrev cX7_worth : ByteArray := prog_1_method_3_code
def yX7_worth : MethodName := ⟨RX7, "worth", "(III)I"⟩
abbrev cX7_step : ByteArray := prog_1_method_4_code
def yX7_step : MethodName := ⟨RX7, "step", "(I)I"⟩
abbrev cX7_feed : ByteArray := prog_1_method_5_code
def yX7_feed : MethodName := ⟨RX7, "feed", "(I)I"⟩
abbrev cX7_read : ByteArray := prog_1_method_6_code
def yX7_read : MethodName := ⟨RX7, "read", "()I"⟩
abbrev cX7_of : ByteArray := prog_1_method_7_code
def yX7_of : MethodName := ⟨RX7, "of", "(III)J"⟩
abbrev cX7_person : ByteArray := prog_1_method_8_code
def yX7_person : MethodName := ⟨RX7, "person", "(II)I"⟩
abbrev cX7_thing : ByteArray := prog_1_method_9_code
def yX7_thing : MethodName := ⟨RX7, "thing", "(II)I"⟩
abbrev cX7_bid : ByteArray := prog_1_method_10_code
def yX7_bid : MethodName := ⟨RX7, "bid", "()I"⟩
abbrev cX7_auction : ByteArray := prog_1_method_11_code
def yX7_auction : MethodName := ⟨RX7, "auction", "()I"⟩
abbrev cX7_scaled : ByteArray := prog_1_method_12_code
def yX7_scaled : MethodName := ⟨RX7, "scaled", "()I"⟩
abbrev cX7_fresh : ByteArray := prog_1_method_13_code
def yX7_fresh : MethodName := ⟨RX7, "fresh", "()I"⟩
abbrev cX7_leave : ByteArray := prog_1_method_14_code
def yX7_leave : MethodName := ⟨RX7, "leave", "(I)I"⟩
abbrev cX7_told : ByteArray := prog_1_method_15_code
def yX7_told : MethodName := ⟨RX7, "told", "(I)I"⟩
abbrev cX7_wrong : ByteArray := prog_1_method_16_code
def yX7_wrong : MethodName := ⟨RX7, "wrong", "(I)I"⟩
abbrev cX7_see : ByteArray := prog_1_method_17_code
def yX7_see : MethodName := ⟨RX7, "see", "(II)I"⟩
abbrev cX7_fits : ByteArray := prog_1_method_18_code
def yX7_fits : MethodName := ⟨RX7, "fits", "(III)I"⟩
abbrev cX7_odds : ByteArray := prog_1_method_19_code
def yX7_odds : MethodName := ⟨RX7, "odds", "(II)J"⟩
abbrev cX7_mean : ByteArray := prog_1_method_20_code
def yX7_mean : MethodName := ⟨RX7, "mean", "(I)J"⟩
abbrev cX7_plan : ByteArray := prog_1_method_21_code
def yX7_plan : MethodName := ⟨RX7, "plan", "(II)I"⟩
abbrev cX7_ends : ByteArray := prog_1_method_22_code
def yX7_ends : MethodName := ⟨RX7, "ends", "(I)I"⟩
abbrev cX7_book : ByteArray := prog_1_method_23_code
def yX7_book : MethodName := ⟨RX7, "book", "(II)I"⟩
abbrev cX7_looked : ByteArray := prog_1_method_24_code
def yX7_looked : MethodName := ⟨RX7, "looked", "()I"⟩
abbrev cX7_judge : ByteArray := prog_1_method_25_code
def yX7_judge : MethodName := ⟨RX7, "judge", "(II)I"⟩
abbrev cX7_image : ByteArray := prog_1_method_26_code
def yX7_image : MethodName := ⟨RX7, "image", "()I"⟩
abbrev cX7_undo : ByteArray := prog_1_method_27_code
def yX7_undo : MethodName := ⟨RX7, "undo", "()I"⟩
abbrev cX7_count : ByteArray := prog_1_method_28_code
def yX7_count : MethodName := ⟨RX7, "count", "(I)I"⟩
abbrev cX7_tape : ByteArray := prog_1_method_29_code
def yX7_tape : MethodName := ⟨RX7, "tape", "(III)I"⟩
abbrev cX7_item : ByteArray := prog_1_method_30_code
def yX7_item : MethodName := ⟨RX7, "item", "(IIJ)I"⟩
abbrev cX7_peek : ByteArray := prog_1_method_31_code
def yX7_peek : MethodName := ⟨RX7, "peek", "(II)J"⟩
abbrev cX7_shift : ByteArray := prog_1_method_32_code
def yX7_shift : MethodName := ⟨RX7, "shift", "(IIIII)I"⟩
abbrev cX7_isStep : ByteArray := prog_1_method_33_code
def yX7_isStep : MethodName := ⟨RX7, "isStep", "(I)Z"⟩
abbrev cX7_isTape : ByteArray := prog_1_method_34_code
def yX7_isTape : MethodName := ⟨RX7, "isTape", "(I)Z"⟩
abbrev cX7_shownNumber : ByteArray := prog_1_method_35_code
def yX7_shownNumber : MethodName := ⟨RX7, "shownNumber", "(I)I"⟩
abbrev cX7_shownWorth : ByteArray := prog_1_method_36_code
def yX7_shownWorth : MethodName := ⟨RX7, "shownWorth", "(II)I"⟩
abbrev cX7_reported : ByteArray := prog_1_method_37_code
def yX7_reported : MethodName := ⟨RX7, "reported", "(I)I"⟩
abbrev cX7_goesAsSeen : ByteArray := prog_1_method_38_code
def yX7_goesAsSeen : MethodName := ⟨RX7, "goesAsSeen", "(LBidMarket$Market;)Z"⟩
abbrev cX7_goOn : ByteArray := prog_1_method_39_code
def yX7_goOn : MethodName := ⟨RX7, "goOn", "(LBidMarket$Market;II)V"⟩
abbrev cX7_lowestTerms : ByteArray := prog_1_method_40_code
def yX7_lowestTerms : MethodName := ⟨RX7, "lowestTerms", "(III)J"⟩
def RX8 : String := "BidMarketModel"
def TX8 : u_T := fun k => match k with
  | 0 => ("BidMarketModel", "n", "I", false)
  | 1 => ("BidMarketModel", "step", "I", false)
  | 2 => ("BidMarketModel", "worth", "[I", true)
  | 3 => ("BidMarketModel", "has", "[I", true)
  | 4 => ("BidMarketModel", "owner", "[I", true)
  | 5 => ("BidMarketModel", "price", "[I", true)
  | 6 => ("BidMarketModel", "seenWho", "[I", true)
  | 7 => ("BidMarketModel", "seenWhat", "[I", true)
  | 8 => ("BidMarketModel", "planWhat", "[I", true)
  | 9 => ("BidMarketModel", "planN", "[I", true)
  | 10 => ("BidMarketModel", "bookThing", "[I", true)
  | 11 => ("BidMarketModel", "bookPrice", "[I", true)
  | 12 => ("BidMarketModel", "seen", "I", false)
  | 13 => ("BidMarketModel", "plans", "I", false)
  | 14 => ("BidMarketModel", "books", "I", false)
  | 15 => ("BidMarketModel", "wrong", "[I", true)
  | 16 => ("BidMarketModel", "text", "[I", true)
  | 17 => ("BidMarketModel", "texted", "I", false)
  | 18 => ("BidMarketModel", "imaged", "[I", true)
  | 19 => ("BidMarketModel", "isKept", "Z", false)
  | 20 => ("BidMarketModel", "spot", "I", false)
  | 21 => ("BidMarketModel", "keeps", "Z", false)
  | 22 => ("BidMarketModel", "mindHas", "[I", true)
  | 23 => ("BidMarketModel", "mindOwner", "[I", true)
  | 24 => ("BidMarketModel", "mindPrice", "[I", true)
  | 25 => ("BidMarketModel", "mindWrong", "[I", true)
  | 26 => ("BidMarketModel", "mindStep", "I", false)
  | 27 => ("BidMarketModel", "at", "I", false)
  | 28 => ("BidMarketModel", "what", "I", false)
  | 29 => ("BidMarketModel", "whole", "I", false)
  | 30 => ("BidMarketModel", "isBroken", "Z", false)
  | 31 => ("BidMarketModel", "mostBy", "[I", true)
  | 32 => ("BidMarketModel", "tapes", "[[J", true)
  | 33 => ("BidMarketModel", "tapeSort", "[I", true)
  | 34 => ("BidMarketModel", "tapeSize", "[I", true)
  | _ => ("BidMarketModel", "moved", "[J", true)
def tyX8 : Nat → FieldType := fun k => match k with
  | 0 => .int
  | 1 => .int
  | 2 => .array .int
  | 3 => .array .int
  | 4 => .array .int
  | 5 => .array .int
  | 6 => .array .int
  | 7 => .array .int
  | 8 => .array .int
  | 9 => .array .int
  | 10 => .array .int
  | 11 => .array .int
  | 12 => .int
  | 13 => .int
  | 14 => .int
  | 15 => .array .int
  | 16 => .array .int
  | 17 => .int
  | 18 => .array .int
  | 19 => .boolean
  | 20 => .int
  | 21 => .boolean
  | 22 => .array .int
  | 23 => .array .int
  | 24 => .array .int
  | 25 => .array .int
  | 26 => .int
  | 27 => .int
  | 28 => .int
  | 29 => .int
  | 30 => .boolean
  | 31 => .array .int
  | 32 => .array (.array .long)
  | 33 => .array .int
  | 34 => .array .int
  | _ => .array .long
abbrev wsX80 : List Cond := u_ws RX8 TX8 36
theorem nmX8 : ∀ a, a < 36 → ∀ b, b < 36 → a ≠ b → (TX8 a).2.1 ≠ (TX8 b).2.1 := by decide +kernel
theorem tyX8_ok : ∀ k, k < 36 → parseFieldDescriptor (TX8 k).2.2.1 = some (tyX8 k) := by decide +kernel
abbrev cX8_init : ByteArray := prog_10_method_1_code
def yX8_init : MethodName := ⟨RX8, "<init>", "()V"⟩
abbrev cX8_in : ByteArray := prog_10_method_2_code
def yX8_in : MethodName := ⟨RX8, "in", "(JJJ)Z"⟩
abbrev cX8_isOne : ByteArray := prog_10_method_3_code
def yX8_isOne : MethodName := ⟨RX8, "isOne", "(I)Z"⟩
abbrev cX8_isPair : ByteArray := prog_10_method_4_code
def yX8_isPair : MethodName := ⟨RX8, "isPair", "(II)Z"⟩
abbrev cX8_empties : ByteArray := prog_10_method_5_code
def yX8_empties : MethodName := ⟨RX8, "empties", "()I"⟩
abbrev cX8_free : ByteArray := prog_10_method_6_code
def yX8_free : MethodName := ⟨RX8, "free", "()V"⟩
abbrev cX8_passes : ByteArray := prog_10_method_7_code
def yX8_passes : MethodName := ⟨RX8, "passes", "(I)I"⟩
abbrev cX8_passesRow : ByteArray := prog_10_method_8_code
def yX8_passesRow : MethodName := ⟨RX8, "passesRow", "([I)V"⟩
abbrev cX8_passesAll : ByteArray := prog_10_method_9_code
def yX8_passesAll : MethodName := ⟨RX8, "passesAll", "(Z)I"⟩
abbrev cX8_image : ByteArray := prog_10_method_10_code
def yX8_image : MethodName := ⟨RX8, "image", "()I"⟩
abbrev cX8_undo : ByteArray := prog_10_method_11_code
def yX8_undo : MethodName := ⟨RX8, "undo", "()I"⟩
abbrev cX8_lays : ByteArray := prog_10_method_12_code
def yX8_lays : MethodName := ⟨RX8, "lays", "([I[I)V"⟩
abbrev cX8_minds : ByteArray := prog_10_method_13_code
def yX8_minds : MethodName := ⟨RX8, "minds", "()V"⟩
abbrev cX8_forgets : ByteArray := prog_10_method_14_code
def yX8_forgets : MethodName := ⟨RX8, "forgets", "()V"⟩
abbrev cX8_may : ByteArray := prog_10_method_15_code
def yX8_may : MethodName := ⟨RX8, "may", "(II)Z"⟩
abbrev cX8_gain : ByteArray := prog_10_method_16_code
def yX8_gain : MethodName := ⟨RX8, "gain", "(II)I"⟩
abbrev cX8_best : ByteArray := prog_10_method_17_code
def yX8_best : MethodName := ⟨RX8, "best", "(I)I"⟩
abbrev cX8_second : ByteArray := prog_10_method_18_code
def yX8_second : MethodName := ⟨RX8, "second", "(II)I"⟩
abbrev cX8_offer : ByteArray := prog_10_method_19_code
def yX8_offer : MethodName := ⟨RX8, "offer", "(I)I"⟩
abbrev cX8_next : ByteArray := prog_10_method_20_code
def yX8_next : MethodName := ⟨RX8, "next", "()I"⟩
abbrev cX8_loses : ByteArray := prog_10_method_21_code
def yX8_loses : MethodName := ⟨RX8, "loses", "(I)V"⟩
abbrev cX8_bids : ByteArray := prog_10_method_22_code
def yX8_bids : MethodName := ⟨RX8, "bids", "(I)I"⟩
abbrev cX8_size : ByteArray := prog_10_method_23_code
def yX8_size : MethodName := ⟨RX8, "size", "(I)I"⟩
abbrev cX8_becomes : ByteArray := prog_10_method_24_code
def yX8_becomes : MethodName := ⟨RX8, "becomes", "(III)I"⟩
abbrev cX8_worth : ByteArray := prog_10_method_25_code
def yX8_worth : MethodName := ⟨RX8, "worth", "(III)I"⟩
abbrev cX8_step : ByteArray := prog_10_method_26_code
def yX8_step : MethodName := ⟨RX8, "step", "(I)I"⟩
abbrev cX8_here : ByteArray := prog_10_method_27_code
def yX8_here : MethodName := ⟨RX8, "here", "()I"⟩
abbrev cX8_takes : ByteArray := prog_10_method_28_code
def yX8_takes : MethodName := ⟨RX8, "takes", "(II)I"⟩
abbrev cX8_takesOne : ByteArray := prog_10_method_29_code
def yX8_takesOne : MethodName := ⟨RX8, "takesOne", "(III)I"⟩
abbrev cX8_takesWorth : ByteArray := prog_10_method_30_code
def yX8_takesWorth : MethodName := ⟨RX8, "takesWorth", "()I"⟩
abbrev cX8_clause : ByteArray := prog_10_method_31_code
def yX8_clause : MethodName := ⟨RX8, "clause", "(Z)V"⟩
abbrev cX8_goesThrough : ByteArray := prog_10_method_32_code
def yX8_goesThrough : MethodName := ⟨RX8, "goesThrough", "(Z)V"⟩
abbrev cX8_feed : ByteArray := prog_10_method_33_code
def yX8_feed : MethodName := ⟨RX8, "feed", "(I)I"⟩
abbrev cX8_read : ByteArray := prog_10_method_34_code
def yX8_read : MethodName := ⟨RX8, "read", "()I"⟩
abbrev cX8_tellsWrong : ByteArray := prog_10_method_35_code
def yX8_tellsWrong : MethodName := ⟨RX8, "tellsWrong", "(III)V"⟩
abbrev cX8_wrong : ByteArray := prog_10_method_36_code
def yX8_wrong : MethodName := ⟨RX8, "wrong", "(I)I"⟩
abbrev cX8_bidsAll : ByteArray := prog_10_method_37_code
def yX8_bidsAll : MethodName := ⟨RX8, "bidsAll", "()I"⟩
abbrev cX8_tellsLeft : ByteArray := prog_10_method_38_code
def yX8_tellsLeft : MethodName := ⟨RX8, "tellsLeft", "()V"⟩
abbrev cX8_bid : ByteArray := prog_10_method_39_code
def yX8_bid : MethodName := ⟨RX8, "bid", "()I"⟩
abbrev cX8_auction : ByteArray := prog_10_method_40_code
def yX8_auction : MethodName := ⟨RX8, "auction", "()I"⟩
abbrev cX8_scaled : ByteArray := prog_10_method_41_code
def yX8_scaled : MethodName := ⟨RX8, "scaled", "()I"⟩
abbrev cX8_fresh : ByteArray := prog_10_method_42_code
def yX8_fresh : MethodName := ⟨RX8, "fresh", "()I"⟩
abbrev cX8_leave : ByteArray := prog_10_method_43_code
def yX8_leave : MethodName := ⟨RX8, "leave", "(I)I"⟩
abbrev cX8_of : ByteArray := prog_10_method_44_code
def yX8_of : MethodName := ⟨RX8, "of", "(III)J"⟩
abbrev cX8_envy : ByteArray := prog_10_method_45_code
def yX8_envy : MethodName := ⟨RX8, "envy", "(I)I"⟩
abbrev cX8_open : ByteArray := prog_10_method_46_code
def yX8_open : MethodName := ⟨RX8, "open", "(I)I"⟩
abbrev cX8_bits : ByteArray := prog_10_method_47_code
def yX8_bits : MethodName := ⟨RX8, "bits", "(I)I"⟩
abbrev cX8_person : ByteArray := prog_10_method_48_code
def yX8_person : MethodName := ⟨RX8, "person", "(II)I"⟩
abbrev cX8_wanted : ByteArray := prog_10_method_49_code
def yX8_wanted : MethodName := ⟨RX8, "wanted", "(I)I"⟩
abbrev cX8_thing : ByteArray := prog_10_method_50_code
def yX8_thing : MethodName := ⟨RX8, "thing", "(II)I"⟩
abbrev cX8_sum : ByteArray := prog_10_method_51_code
def yX8_sum : MethodName := ⟨RX8, "sum", "()I"⟩
abbrev cX8_prices : ByteArray := prog_10_method_52_code
def yX8_prices : MethodName := ⟨RX8, "prices", "()I"⟩
abbrev cX8_most : ByteArray := prog_10_method_53_code
def yX8_most : MethodName := ⟨RX8, "most", "()I"⟩
abbrev cX8_sure : ByteArray := prog_10_method_54_code
def yX8_sure : MethodName := ⟨RX8, "sure", "()I"⟩
abbrev cX8_lack : ByteArray := prog_10_method_55_code
def yX8_lack : MethodName := ⟨RX8, "lack", "()I"⟩
abbrev cX8_havers : ByteArray := prog_10_method_56_code
def yX8_havers : MethodName := ⟨RX8, "havers", "()I"⟩
abbrev cX8_told : ByteArray := prog_10_method_57_code
def yX8_told : MethodName := ⟨RX8, "told", "(I)I"⟩
abbrev cX8_see : ByteArray := prog_10_method_58_code
def yX8_see : MethodName := ⟨RX8, "see", "(II)I"⟩
abbrev cX8_isAllSeen : ByteArray := prog_10_method_59_code
def yX8_isAllSeen : MethodName := ⟨RX8, "isAllSeen", "()Z"⟩
abbrev cX8_triesAuction : ByteArray := prog_10_method_60_code
def yX8_triesAuction : MethodName := ⟨RX8, "triesAuction", "()V"⟩
abbrev cX8_fits : ByteArray := prog_10_method_61_code
def yX8_fits : MethodName := ⟨RX8, "fits", "(III)I"⟩
abbrev cX8_lowest : ByteArray := prog_10_method_62_code
def yX8_lowest : MethodName := ⟨RX8, "lowest", "(JJI)J"⟩
abbrev cX8_odds : ByteArray := prog_10_method_63_code
def yX8_odds : MethodName := ⟨RX8, "odds", "(II)J"⟩
abbrev cX8_mean : ByteArray := prog_10_method_64_code
def yX8_mean : MethodName := ⟨RX8, "mean", "(I)J"⟩
abbrev cX8_plan : ByteArray := prog_10_method_65_code
def yX8_plan : MethodName := ⟨RX8, "plan", "(II)I"⟩
abbrev cX8_ends : ByteArray := prog_10_method_66_code
def yX8_ends : MethodName := ⟨RX8, "ends", "(I)I"⟩
abbrev cX8_book : ByteArray := prog_10_method_67_code
def yX8_book : MethodName := ⟨RX8, "book", "(II)I"⟩
abbrev cX8_looked : ByteArray := prog_10_method_68_code
def yX8_looked : MethodName := ⟨RX8, "looked", "()I"⟩
abbrev cX8_isTape : ByteArray := prog_10_method_69_code
def yX8_isTape : MethodName := ⟨RX8, "isTape", "(I)Z"⟩
abbrev cX8_judge : ByteArray := prog_10_method_70_code
def yX8_judge : MethodName := ⟨RX8, "judge", "(II)I"⟩
abbrev cX8_count : ByteArray := prog_10_method_71_code
def yX8_count : MethodName := ⟨RX8, "count", "(I)I"⟩
abbrev cX8_forbidden : ByteArray := prog_10_method_72_code
def yX8_forbidden : MethodName := ⟨RX8, "forbidden", "()I"⟩
abbrev cX8_tape : ByteArray := prog_10_method_73_code
def yX8_tape : MethodName := ⟨RX8, "tape", "(III)I"⟩
abbrev cX8_fit : ByteArray := prog_10_method_74_code
def yX8_fit : MethodName := ⟨RX8, "fit", "(IJ)J"⟩
abbrev cX8_item : ByteArray := prog_10_method_75_code
def yX8_item : MethodName := ⟨RX8, "item", "(IIJ)I"⟩
abbrev cX8_peek : ByteArray := prog_10_method_76_code
def yX8_peek : MethodName := ⟨RX8, "peek", "(II)J"⟩
abbrev cX8_shift : ByteArray := prog_10_method_77_code
def yX8_shift : MethodName := ⟨RX8, "shift", "(IIIII)I"⟩
def RJ6 : String := "java/lang/Integer"
def TJ6 : u_T := fun k => match k with
  | _ => ("", "", "", false)
def tyJ6 : Nat → FieldType := fun k => match k with
  | _ => .int
abbrev wsJ60 : List Cond := u_ws RJ6 TJ6 0
theorem nmJ6 : ∀ a, a < 0 → ∀ b, b < 0 → a ≠ b → (TJ6 a).2.1 ≠ (TJ6 b).2.1 := by decide +kernel
theorem tyJ6_ok : ∀ k, k < 0 → parseFieldDescriptor (TJ6 k).2.2.1 = some (tyJ6 k) := by decide +kernel
abbrev cJ6_bitCount_0f7a4 : ByteArray := prog_11_method_49_code
def yJ6_bitCount_0f7a4 : MethodName := ⟨RJ6, "bitCount", "(I)I"⟩
def RJ9 : String := "java/lang/Math"
def TJ9 : u_T := fun k => match k with
  | _ => ("", "", "", false)
def tyJ9 : Nat → FieldType := fun k => match k with
  | _ => .int
abbrev wsJ90 : List Cond := u_ws RJ9 TJ9 0
theorem nmJ9 : ∀ a, a < 0 → ∀ b, b < 0 → a ≠ b → (TJ9 a).2.1 ≠ (TJ9 b).2.1 := by decide +kernel
theorem tyJ9_ok : ∀ k, k < 0 → parseFieldDescriptor (TJ9 k).2.2.1 = some (tyJ9 k) := by decide +kernel
abbrev cJ9_max_7cf53 : ByteArray := prog_12_method_65_code
def yJ9_max_7cf53 : MethodName := ⟨RJ9, "max", "(II)I"⟩
abbrev cJ9_min_7cf53 : ByteArray := prog_12_method_69_code
def yJ9_min_7cf53 : MethodName := ⟨RJ9, "min", "(II)I"⟩
def RJ10 : String := "java/lang/System"
def TJ10 : u_T := fun k => match k with
  | _ => ("", "", "", false)
def tyJ10 : Nat → FieldType := fun k => match k with
  | _ => .int
abbrev wsJ100 : List Cond := u_ws RJ10 TJ10 0
theorem nmJ10 : ∀ a, a < 0 → ∀ b, b < 0 → a ≠ b → (TJ10 a).2.1 ≠ (TJ10 b).2.1 := by decide +kernel
theorem tyJ10_ok : ∀ k, k < 0 → parseFieldDescriptor (TJ10 k).2.2.1 = some (tyJ10 k) := by decide +kernel
def RL : String := "BidMarketLaw"
abbrev cL_law : ByteArray := code
def yL_law : MethodName := ⟨RL, "law", "([I)Z"⟩
def wsX0_init : List Cond := .code yX0_init cX0_init 1 none :: ([.methodLink RX0 3 objectInit, .instanceMethod objectInit, .code objectInit ⟨#[0xb1]⟩ 1 none, .fieldLink RX0 9 "BidMarket$Complaint" "kind" "I", .fieldLink RX0 15 "BidMarket$Complaint" "cause" "I", .fieldLink RX0 18 "BidMarket$Complaint" "causeOfCause" "I"] ++ wsX00)
def wsX0_tell : List Cond := .code yX0_tell cX0_tell 4 none :: ([.fieldLink RX0 9 "BidMarket$Complaint" "kind" "I", .fieldLink RX0 15 "BidMarket$Complaint" "cause" "I", .fieldLink RX0 18 "BidMarket$Complaint" "causeOfCause" "I"] ++ wsX00)
def wsX2_takeAllAway : List Cond := .code yX2_takeAllAway cX2_takeAllAway 2 none :: ([.fieldLink RX2 16 "BidMarket$Market" "thingOf" "[I", .fieldLink RX2 20 "BidMarket$Market" "personOf" "[I"] ++ wsX20)
def wsX2_startAnew : List Cond := .code yX2_startAnew cX2_startAnew 2 none :: ([.fieldLink RX2 23 "BidMarket$Market" "prices" "[I", .methodLink RX2 49 yX2_takeAllAway, .instanceMethod yX2_takeAllAway, .selects RX2 yX2_takeAllAway yX2_takeAllAway, .initialized RX2, .code yX2_takeAllAway cX2_takeAllAway 2 none, .fieldLink RX2 16 "BidMarket$Market" "thingOf" "[I", .fieldLink RX2 20 "BidMarket$Market" "personOf" "[I"] ++ wsX20)
def wsX2_becomeEmpty : List Cond := .code yX2_becomeEmpty cX2_becomeEmpty 4 none :: ([.fieldLink RX2 26 "BidMarket$Market" "n" "I", .fieldLink RX2 11 "BidMarket$Market" "worths" "[[I", .methodLink RX2 40 yX2_startAnew, .instanceMethod yX2_startAnew, .selects RX2 yX2_startAnew yX2_startAnew, .initialized RX2, .code yX2_startAnew cX2_startAnew 2 none, .fieldLink RX2 23 "BidMarket$Market" "prices" "[I", .methodLink RX2 49 yX2_takeAllAway, .instanceMethod yX2_takeAllAway, .selects RX2 yX2_takeAllAway yX2_takeAllAway, .code yX2_takeAllAway cX2_takeAllAway 2 none, .fieldLink RX2 16 "BidMarket$Market" "thingOf" "[I", .fieldLink RX2 20 "BidMarket$Market" "personOf" "[I"] ++ wsX20)
def wsX2_init_r1 : List Cond := [Cond.methodLink RX2 3 objectInit, Cond.instanceMethod objectInit, Cond.code objectInit ⟨#[0xb1]⟩ 1 none, Cond.classLink RX2 9 "[[I", Cond.arrayClass .int, Cond.fieldLink RX2 11 "BidMarket$Market" "worths" "[[I", Cond.fieldLink RX2 16 "BidMarket$Market" "thingOf" "[I", Cond.fieldLink RX2 20 "BidMarket$Market" "personOf" "[I", Cond.fieldLink RX2 23 "BidMarket$Market" "prices" "[I", Cond.fieldLink RX2 26 "BidMarket$Market" "n" "I", Cond.fieldLink RX2 30 "BidMarket$Market" "pace" "I", Cond.fieldLink RX2 33 "BidMarket$Market" "breaker" "I", Cond.methodLink RX2 36 yX2_becomeEmpty, Cond.instanceMethod yX2_becomeEmpty, Cond.selects RX2 yX2_becomeEmpty yX2_becomeEmpty, Cond.initialized RX2, Cond.code yX2_becomeEmpty cX2_becomeEmpty 4 none, Cond.methodLink RX2 40 yX2_startAnew, Cond.instanceMethod yX2_startAnew, Cond.selects RX2 yX2_startAnew yX2_startAnew, Cond.code yX2_startAnew cX2_startAnew 2 none, Cond.methodLink RX2 49 yX2_takeAllAway, Cond.instanceMethod yX2_takeAllAway, Cond.selects RX2 yX2_takeAllAway yX2_takeAllAway]
def wsX2_init_r2 : List Cond := [Cond.code yX2_takeAllAway cX2_takeAllAway 2 none]
def wsX2_init : List Cond := .code yX2_init cX2_init 1 none :: ((wsX2_init_r1 ++ wsX2_init_r2) ++ wsX20)
def wsX4_init : List Cond := .code yX4_init cX4_init 2 none :: ([.methodLink RX4 3 objectInit, .instanceMethod objectInit, .code objectInit ⟨#[0xb1]⟩ 1 none, .fieldLink RX4 9 "BidMarket$Rows" "used" "I", .arrayClass .int, .fieldLink RX4 15 "BidMarket$Rows" "left" "[I", .fieldLink RX4 19 "BidMarket$Rows" "right" "[I"] ++ wsX40)
def wsX1_init_r1 : List Cond := [Cond.methodLink RX1 1 objectInit, Cond.instanceMethod objectInit, Cond.code objectInit ⟨#[0xb1]⟩ 1 none, Cond.classLink RX1 7 RX2, Cond.instantiable RX2 7, Cond.initialized RX2, Cond.fieldLink RX1 10 "BidMarket$Holdings" "market" "LBidMarket$Market;", Cond.classLink RX1 16 RX4, Cond.instantiable RX4 3, Cond.initialized RX4, Cond.fieldLink RX1 21 "BidMarket$Holdings" "seen" "LBidMarket$Rows;", Cond.fieldLink RX1 25 "BidMarket$Holdings" "plan" "LBidMarket$Rows;", Cond.fieldLink RX1 28 "BidMarket$Holdings" "book" "LBidMarket$Rows;", Cond.methodLink RX1 9 yX2_init, Cond.instanceMethod yX2_init, Cond.code yX2_init cX2_init 1 none, Cond.methodLink RX2 3 objectInit, Cond.classLink RX2 9 "[[I", Cond.arrayClass .int, Cond.fieldLink RX2 11 "BidMarket$Market" "worths" "[[I", Cond.fieldLink RX2 16 "BidMarket$Market" "thingOf" "[I", Cond.fieldLink RX2 20 "BidMarket$Market" "personOf" "[I", Cond.fieldLink RX2 23 "BidMarket$Market" "prices" "[I", Cond.fieldLink RX2 26 "BidMarket$Market" "n" "I"]
def wsX1_init_r2 : List Cond := [Cond.fieldLink RX2 30 "BidMarket$Market" "pace" "I", Cond.fieldLink RX2 33 "BidMarket$Market" "breaker" "I", Cond.methodLink RX2 36 yX2_becomeEmpty, Cond.instanceMethod yX2_becomeEmpty, Cond.selects RX2 yX2_becomeEmpty yX2_becomeEmpty, Cond.code yX2_becomeEmpty cX2_becomeEmpty 4 none, Cond.methodLink RX2 40 yX2_startAnew, Cond.instanceMethod yX2_startAnew, Cond.selects RX2 yX2_startAnew yX2_startAnew, Cond.code yX2_startAnew cX2_startAnew 2 none, Cond.methodLink RX2 49 yX2_takeAllAway, Cond.instanceMethod yX2_takeAllAway, Cond.selects RX2 yX2_takeAllAway yX2_takeAllAway, Cond.code yX2_takeAllAway cX2_takeAllAway 2 none, Cond.methodLink RX1 18 yX4_init, Cond.instanceMethod yX4_init, Cond.code yX4_init cX4_init 2 none, Cond.methodLink RX4 3 objectInit, Cond.fieldLink RX4 9 "BidMarket$Rows" "used" "I", Cond.fieldLink RX4 15 "BidMarket$Rows" "left" "[I", Cond.fieldLink RX4 19 "BidMarket$Rows" "right" "[I"]
def wsX1_init : List Cond := .code yX1_init cX1_init 1 none :: ((wsX1_init_r1 ++ wsX1_init_r2) ++ wsX20 ++ wsX10 ++ wsX40)
def wsX2_become : List Cond := .code yX2_become cX2_become 3 none :: ([.fieldLink RX2 26 "BidMarket$Market" "n" "I", .fieldLink RX2 30 "BidMarket$Market" "pace" "I", .fieldLink RX2 11 "BidMarket$Market" "worths" "[[I", .methodLink RX2 43 arraycopyName, .native arraycopyName, .static arraycopyName, .initialized "java/lang/System", .fieldLink RX2 16 "BidMarket$Market" "thingOf" "[I", .fieldLink RX2 20 "BidMarket$Market" "personOf" "[I", .fieldLink RX2 23 "BidMarket$Market" "prices" "[I"] ++ wsX20)
def wsX4_become : List Cond := .code yX4_become cX4_become 2 none :: ([.fieldLink RX4 9 "BidMarket$Rows" "used" "I", .fieldLink RX4 15 "BidMarket$Rows" "left" "[I", .methodLink RX4 22 Lib.Math.min.name, .static Lib.Math.min.name, .initialized "java/lang/Math", .code Lib.Math.min.name Lib.Math.min.code 2 (some .int), .methodLink RX4 28 arraycopyName, .native arraycopyName, .static arraycopyName, .initialized "java/lang/System", .fieldLink RX4 19 "BidMarket$Rows" "right" "[I"] ++ wsX40)
def wsX1_become_r1 : List Cond := [Cond.fieldLink RX1 10 "BidMarket$Holdings" "market" "LBidMarket$Market;", Cond.fieldLink RX1 21 "BidMarket$Holdings" "seen" "LBidMarket$Rows;", Cond.fieldLink RX1 25 "BidMarket$Holdings" "plan" "LBidMarket$Rows;", Cond.fieldLink RX1 28 "BidMarket$Holdings" "book" "LBidMarket$Rows;", Cond.methodLink RX1 31 yX2_become, Cond.instanceMethod yX2_become, Cond.selects RX2 yX2_become yX2_become, Cond.initialized RX2, Cond.code yX2_become cX2_become 3 none, Cond.fieldLink RX2 26 "BidMarket$Market" "n" "I", Cond.fieldLink RX2 30 "BidMarket$Market" "pace" "I", Cond.fieldLink RX2 11 "BidMarket$Market" "worths" "[[I", Cond.methodLink RX2 43 arraycopyName, Cond.native arraycopyName, Cond.static arraycopyName, Cond.initialized "java/lang/System", Cond.fieldLink RX2 16 "BidMarket$Market" "thingOf" "[I", Cond.fieldLink RX2 20 "BidMarket$Market" "personOf" "[I", Cond.fieldLink RX2 23 "BidMarket$Market" "prices" "[I", Cond.methodLink RX1 35 yX4_become, Cond.instanceMethod yX4_become, Cond.selects RX4 yX4_become yX4_become, Cond.initialized RX4, Cond.code yX4_become cX4_become 2 none]
def wsX1_become_r2 : List Cond := [Cond.fieldLink RX4 9 "BidMarket$Rows" "used" "I", Cond.fieldLink RX4 15 "BidMarket$Rows" "left" "[I", Cond.methodLink RX4 22 Lib.Math.min.name, Cond.static Lib.Math.min.name, Cond.initialized "java/lang/Math", Cond.code Lib.Math.min.name Lib.Math.min.code 2 (some .int), Cond.methodLink RX4 28 arraycopyName, Cond.fieldLink RX4 19 "BidMarket$Rows" "right" "[I"]
def wsX1_become : List Cond := .code yX1_become cX1_become 2 none :: ((wsX1_become_r1 ++ wsX1_become_r2) ++ wsX10 ++ wsX20 ++ wsX40)
def wsX2_giveUp : List Cond := .code yX2_giveUp cX2_giveUp 3 none :: ([.fieldLink RX2 16 "BidMarket$Market" "thingOf" "[I", .fieldLink RX2 20 "BidMarket$Market" "personOf" "[I"] ++ wsX20)
def wsX2_becomeWorth : List Cond := .code yX2_becomeWorth cX2_becomeWorth 4 none :: ([.fieldLink RX2 11 "BidMarket$Market" "worths" "[[I", .methodLink RX2 52 yX2_giveUp, .instanceMethod yX2_giveUp, .selects RX2 yX2_giveUp yX2_giveUp, .initialized RX2, .code yX2_giveUp cX2_giveUp 3 none, .fieldLink RX2 16 "BidMarket$Market" "thingOf" "[I", .fieldLink RX2 20 "BidMarket$Market" "personOf" "[I"] ++ wsX20)
def wsX2_has : List Cond := .code yX2_has cX2_has 2 (some .boolean) :: ([.fieldLink RX2 26 "BidMarket$Market" "n" "I"] ++ wsX20)
def wsX2_allows : List Cond := .code yX2_allows cX2_allows 3 (some .boolean) :: ([.fieldLink RX2 11 "BidMarket$Market" "worths" "[[I"] ++ wsX20)
def wsX2_gainOf : List Cond := .code yX2_gainOf cX2_gainOf 3 (some .int) :: ([.fieldLink RX2 26 "BidMarket$Market" "n" "I", .fieldLink RX2 11 "BidMarket$Market" "worths" "[[I", .fieldLink RX2 23 "BidMarket$Market" "prices" "[I"] ++ wsX20)
def wsX2_bestBut : List Cond := .code yX2_bestBut cX2_bestBut 7 (some .int) :: ([.fieldLink RX2 26 "BidMarket$Market" "n" "I", .methodLink RX2 59 yX2_allows, .instanceMethod yX2_allows, .selects RX2 yX2_allows yX2_allows, .initialized RX2, .code yX2_allows cX2_allows 3 (some .boolean), .fieldLink RX2 11 "BidMarket$Market" "worths" "[[I", .methodLink RX2 63 yX2_gainOf, .instanceMethod yX2_gainOf, .selects RX2 yX2_gainOf yX2_gainOf, .code yX2_gainOf cX2_gainOf 3 (some .int), .fieldLink RX2 23 "BidMarket$Market" "prices" "[I"] ++ wsX20)
def wsX2_bestOf : List Cond := .code yX2_bestOf cX2_bestOf 2 (some .int) :: ([.methodLink RX2 55 yX2_bestBut, .instanceMethod yX2_bestBut, .selects RX2 yX2_bestBut yX2_bestBut, .initialized RX2, .code yX2_bestBut cX2_bestBut 7 (some .int), .fieldLink RX2 26 "BidMarket$Market" "n" "I", .methodLink RX2 59 yX2_allows, .instanceMethod yX2_allows, .selects RX2 yX2_allows yX2_allows, .code yX2_allows cX2_allows 3 (some .boolean), .fieldLink RX2 11 "BidMarket$Market" "worths" "[[I", .methodLink RX2 63 yX2_gainOf, .instanceMethod yX2_gainOf, .selects RX2 yX2_gainOf yX2_gainOf, .code yX2_gainOf cX2_gainOf 3 (some .int), .fieldLink RX2 23 "BidMarket$Market" "prices" "[I"] ++ wsX20)
def wsX2_offerFor : List Cond := .code yX2_offerFor cX2_offerFor 5 (some .int) :: ([.fieldLink RX2 23 "BidMarket$Market" "prices" "[I", .fieldLink RX2 30 "BidMarket$Market" "pace" "I", .methodLink RX2 55 yX2_bestBut, .instanceMethod yX2_bestBut, .selects RX2 yX2_bestBut yX2_bestBut, .initialized RX2, .code yX2_bestBut cX2_bestBut 7 (some .int), .fieldLink RX2 26 "BidMarket$Market" "n" "I", .methodLink RX2 59 yX2_allows, .instanceMethod yX2_allows, .selects RX2 yX2_allows yX2_allows, .code yX2_allows cX2_allows 3 (some .boolean), .fieldLink RX2 11 "BidMarket$Market" "worths" "[[I", .methodLink RX2 63 yX2_gainOf, .instanceMethod yX2_gainOf, .selects RX2 yX2_gainOf yX2_gainOf, .code yX2_gainOf cX2_gainOf 3 (some .int)] ++ wsX20)
def wsX2_hasBest : List Cond := .code yX2_hasBest cX2_hasBest 3 (some .boolean) :: ([.fieldLink RX2 26 "BidMarket$Market" "n" "I", .methodLink RX2 59 yX2_allows, .instanceMethod yX2_allows, .selects RX2 yX2_allows yX2_allows, .initialized RX2, .code yX2_allows cX2_allows 3 (some .boolean), .fieldLink RX2 11 "BidMarket$Market" "worths" "[[I"] ++ wsX20)
def wsX2_nextBidder : List Cond := .code yX2_nextBidder cX2_nextBidder 2 (some .int) :: ([.fieldLink RX2 26 "BidMarket$Market" "n" "I", .fieldLink RX2 16 "BidMarket$Market" "thingOf" "[I", .methodLink RX2 66 yX2_hasBest, .instanceMethod yX2_hasBest, .selects RX2 yX2_hasBest yX2_hasBest, .initialized RX2, .code yX2_hasBest cX2_hasBest 3 (some .boolean), .methodLink RX2 59 yX2_allows, .instanceMethod yX2_allows, .selects RX2 yX2_allows yX2_allows, .code yX2_allows cX2_allows 3 (some .boolean), .fieldLink RX2 11 "BidMarket$Market" "worths" "[[I"] ++ wsX20)
def wsX2_nextOffer_r1 : List Cond := [Cond.methodLink RX2 70 yX2_nextBidder, Cond.instanceMethod yX2_nextBidder, Cond.selects RX2 yX2_nextBidder yX2_nextBidder, Cond.initialized RX2, Cond.code yX2_nextBidder cX2_nextBidder 2 (some .int), Cond.fieldLink RX2 26 "BidMarket$Market" "n" "I", Cond.fieldLink RX2 16 "BidMarket$Market" "thingOf" "[I", Cond.methodLink RX2 66 yX2_hasBest, Cond.instanceMethod yX2_hasBest, Cond.selects RX2 yX2_hasBest yX2_hasBest, Cond.code yX2_hasBest cX2_hasBest 3 (some .boolean), Cond.methodLink RX2 59 yX2_allows, Cond.instanceMethod yX2_allows, Cond.selects RX2 yX2_allows yX2_allows, Cond.code yX2_allows cX2_allows 3 (some .boolean), Cond.fieldLink RX2 11 "BidMarket$Market" "worths" "[[I", Cond.methodLink RX2 74 yX2_bestOf, Cond.instanceMethod yX2_bestOf, Cond.selects RX2 yX2_bestOf yX2_bestOf, Cond.code yX2_bestOf cX2_bestOf 2 (some .int), Cond.methodLink RX2 55 yX2_bestBut, Cond.instanceMethod yX2_bestBut, Cond.selects RX2 yX2_bestBut yX2_bestBut, Cond.code yX2_bestBut cX2_bestBut 7 (some .int)]
def wsX2_nextOffer_r2 : List Cond := [Cond.methodLink RX2 63 yX2_gainOf, Cond.instanceMethod yX2_gainOf, Cond.selects RX2 yX2_gainOf yX2_gainOf, Cond.code yX2_gainOf cX2_gainOf 3 (some .int), Cond.fieldLink RX2 23 "BidMarket$Market" "prices" "[I", Cond.methodLink RX2 78 yX2_offerFor, Cond.instanceMethod yX2_offerFor, Cond.selects RX2 yX2_offerFor yX2_offerFor, Cond.code yX2_offerFor cX2_offerFor 5 (some .int), Cond.fieldLink RX2 30 "BidMarket$Market" "pace" "I"]
def wsX2_nextOffer : List Cond := .code yX2_nextOffer cX2_nextOffer 3 (some .int) :: ((wsX2_nextOffer_r1 ++ wsX2_nextOffer_r2) ++ wsX20)
def wsX2_letNextBid_r1 : List Cond := [Cond.fieldLink RX2 23 "BidMarket$Market" "prices" "[I", Cond.fieldLink RX2 20 "BidMarket$Market" "personOf" "[I", Cond.fieldLink RX2 16 "BidMarket$Market" "thingOf" "[I", Cond.methodLink RX2 70 yX2_nextBidder, Cond.instanceMethod yX2_nextBidder, Cond.selects RX2 yX2_nextBidder yX2_nextBidder, Cond.initialized RX2, Cond.code yX2_nextBidder cX2_nextBidder 2 (some .int), Cond.fieldLink RX2 26 "BidMarket$Market" "n" "I", Cond.methodLink RX2 66 yX2_hasBest, Cond.instanceMethod yX2_hasBest, Cond.selects RX2 yX2_hasBest yX2_hasBest, Cond.code yX2_hasBest cX2_hasBest 3 (some .boolean), Cond.methodLink RX2 59 yX2_allows, Cond.instanceMethod yX2_allows, Cond.selects RX2 yX2_allows yX2_allows, Cond.code yX2_allows cX2_allows 3 (some .boolean), Cond.fieldLink RX2 11 "BidMarket$Market" "worths" "[[I", Cond.methodLink RX2 74 yX2_bestOf, Cond.instanceMethod yX2_bestOf, Cond.selects RX2 yX2_bestOf yX2_bestOf, Cond.code yX2_bestOf cX2_bestOf 2 (some .int), Cond.methodLink RX2 55 yX2_bestBut, Cond.instanceMethod yX2_bestBut]
def wsX2_letNextBid_r2 : List Cond := [Cond.selects RX2 yX2_bestBut yX2_bestBut, Cond.code yX2_bestBut cX2_bestBut 7 (some .int), Cond.methodLink RX2 63 yX2_gainOf, Cond.instanceMethod yX2_gainOf, Cond.selects RX2 yX2_gainOf yX2_gainOf, Cond.code yX2_gainOf cX2_gainOf 3 (some .int), Cond.methodLink RX2 78 yX2_offerFor, Cond.instanceMethod yX2_offerFor, Cond.selects RX2 yX2_offerFor yX2_offerFor, Cond.code yX2_offerFor cX2_offerFor 5 (some .int), Cond.fieldLink RX2 30 "BidMarket$Market" "pace" "I"]
def wsX2_letNextBid : List Cond := .code yX2_letNextBid cX2_letNextBid 4 (some .int) :: ((wsX2_letNextBid_r1 ++ wsX2_letNextBid_r2) ++ wsX20)
def wsX2_runAuction_r1 : List Cond := [Cond.fieldLink RX2 33 "BidMarket$Market" "breaker" "I", Cond.constant RX2 84 (1000000), Cond.fieldLink RX2 23 "BidMarket$Market" "prices" "[I", Cond.fieldLink RX2 20 "BidMarket$Market" "personOf" "[I", Cond.methodLink RX2 81 yX2_letNextBid, Cond.instanceMethod yX2_letNextBid, Cond.selects RX2 yX2_letNextBid yX2_letNextBid, Cond.initialized RX2, Cond.code yX2_letNextBid cX2_letNextBid 4 (some .int), Cond.fieldLink RX2 16 "BidMarket$Market" "thingOf" "[I", Cond.methodLink RX2 70 yX2_nextBidder, Cond.instanceMethod yX2_nextBidder, Cond.selects RX2 yX2_nextBidder yX2_nextBidder, Cond.code yX2_nextBidder cX2_nextBidder 2 (some .int), Cond.fieldLink RX2 26 "BidMarket$Market" "n" "I", Cond.methodLink RX2 66 yX2_hasBest, Cond.instanceMethod yX2_hasBest, Cond.selects RX2 yX2_hasBest yX2_hasBest, Cond.code yX2_hasBest cX2_hasBest 3 (some .boolean), Cond.methodLink RX2 59 yX2_allows, Cond.instanceMethod yX2_allows, Cond.selects RX2 yX2_allows yX2_allows, Cond.code yX2_allows cX2_allows 3 (some .boolean), Cond.fieldLink RX2 11 "BidMarket$Market" "worths" "[[I"]
def wsX2_runAuction_r2 : List Cond := [Cond.methodLink RX2 74 yX2_bestOf, Cond.instanceMethod yX2_bestOf, Cond.selects RX2 yX2_bestOf yX2_bestOf, Cond.code yX2_bestOf cX2_bestOf 2 (some .int), Cond.methodLink RX2 55 yX2_bestBut, Cond.instanceMethod yX2_bestBut, Cond.selects RX2 yX2_bestBut yX2_bestBut, Cond.code yX2_bestBut cX2_bestBut 7 (some .int), Cond.methodLink RX2 63 yX2_gainOf, Cond.instanceMethod yX2_gainOf, Cond.selects RX2 yX2_gainOf yX2_gainOf, Cond.code yX2_gainOf cX2_gainOf 3 (some .int), Cond.methodLink RX2 78 yX2_offerFor, Cond.instanceMethod yX2_offerFor, Cond.selects RX2 yX2_offerFor yX2_offerFor, Cond.code yX2_offerFor cX2_offerFor 5 (some .int), Cond.fieldLink RX2 30 "BidMarket$Market" "pace" "I"]
def wsX2_runAuction : List Cond := .code yX2_runAuction cX2_runAuction 3 (some .int) :: ((wsX2_runAuction_r1 ++ wsX2_runAuction_r2) ++ wsX20)
def wsX2_runScaled_r1 : List Cond := [Cond.fieldLink RX2 30 "BidMarket$Market" "pace" "I", Cond.fieldLink RX2 33 "BidMarket$Market" "breaker" "I", Cond.fieldLink RX2 85 "BidMarket$Market" "SCALE" "[I", Cond.methodLink RX2 49 yX2_takeAllAway, Cond.instanceMethod yX2_takeAllAway, Cond.selects RX2 yX2_takeAllAway yX2_takeAllAway, Cond.initialized RX2, Cond.code yX2_takeAllAway cX2_takeAllAway 2 none, Cond.fieldLink RX2 16 "BidMarket$Market" "thingOf" "[I", Cond.fieldLink RX2 20 "BidMarket$Market" "personOf" "[I", Cond.methodLink RX2 88 yX2_runAuction, Cond.instanceMethod yX2_runAuction, Cond.selects RX2 yX2_runAuction yX2_runAuction, Cond.code yX2_runAuction cX2_runAuction 3 (some .int), Cond.constant RX2 84 (1000000), Cond.fieldLink RX2 23 "BidMarket$Market" "prices" "[I", Cond.methodLink RX2 81 yX2_letNextBid, Cond.instanceMethod yX2_letNextBid, Cond.selects RX2 yX2_letNextBid yX2_letNextBid, Cond.code yX2_letNextBid cX2_letNextBid 4 (some .int), Cond.methodLink RX2 70 yX2_nextBidder, Cond.instanceMethod yX2_nextBidder, Cond.selects RX2 yX2_nextBidder yX2_nextBidder, Cond.code yX2_nextBidder cX2_nextBidder 2 (some .int)]
def wsX2_runScaled_r2 : List Cond := [Cond.fieldLink RX2 26 "BidMarket$Market" "n" "I", Cond.methodLink RX2 66 yX2_hasBest, Cond.instanceMethod yX2_hasBest, Cond.selects RX2 yX2_hasBest yX2_hasBest, Cond.code yX2_hasBest cX2_hasBest 3 (some .boolean), Cond.methodLink RX2 59 yX2_allows, Cond.instanceMethod yX2_allows, Cond.selects RX2 yX2_allows yX2_allows, Cond.code yX2_allows cX2_allows 3 (some .boolean), Cond.fieldLink RX2 11 "BidMarket$Market" "worths" "[[I", Cond.methodLink RX2 74 yX2_bestOf, Cond.instanceMethod yX2_bestOf, Cond.selects RX2 yX2_bestOf yX2_bestOf, Cond.code yX2_bestOf cX2_bestOf 2 (some .int), Cond.methodLink RX2 55 yX2_bestBut, Cond.instanceMethod yX2_bestBut, Cond.selects RX2 yX2_bestBut yX2_bestBut, Cond.code yX2_bestBut cX2_bestBut 7 (some .int), Cond.methodLink RX2 63 yX2_gainOf, Cond.instanceMethod yX2_gainOf, Cond.selects RX2 yX2_gainOf yX2_gainOf, Cond.code yX2_gainOf cX2_gainOf 3 (some .int), Cond.methodLink RX2 78 yX2_offerFor, Cond.instanceMethod yX2_offerFor]
def wsX2_runScaled_r3 : List Cond := [Cond.selects RX2 yX2_offerFor yX2_offerFor, Cond.code yX2_offerFor cX2_offerFor 5 (some .int)]
def wsX2_runScaled : List Cond := .code yX2_runScaled cX2_runScaled 4 (some .int) :: ((wsX2_runScaled_r1 ++ (wsX2_runScaled_r2 ++ wsX2_runScaled_r3)) ++ wsX20)
def wsX2_allowedTo : List Cond := .code yX2_allowedTo cX2_allowedTo 4 (some .int) :: ([.fieldLink RX2 26 "BidMarket$Market" "n" "I", .methodLink RX2 59 yX2_allows, .instanceMethod yX2_allows, .selects RX2 yX2_allows yX2_allows, .initialized RX2, .code yX2_allows cX2_allows 3 (some .boolean), .fieldLink RX2 11 "BidMarket$Market" "worths" "[[I"] ++ wsX20)
def wsX2_wantersOf : List Cond := .code yX2_wantersOf cX2_wantersOf 4 (some .int) :: ([.fieldLink RX2 26 "BidMarket$Market" "n" "I", .methodLink RX2 74 yX2_bestOf, .instanceMethod yX2_bestOf, .selects RX2 yX2_bestOf yX2_bestOf, .initialized RX2, .code yX2_bestOf cX2_bestOf 2 (some .int), .methodLink RX2 55 yX2_bestBut, .instanceMethod yX2_bestBut, .selects RX2 yX2_bestBut yX2_bestBut, .code yX2_bestBut cX2_bestBut 7 (some .int), .methodLink RX2 59 yX2_allows, .instanceMethod yX2_allows, .selects RX2 yX2_allows yX2_allows, .code yX2_allows cX2_allows 3 (some .boolean), .fieldLink RX2 11 "BidMarket$Market" "worths" "[[I", .methodLink RX2 63 yX2_gainOf, .instanceMethod yX2_gainOf, .selects RX2 yX2_gainOf yX2_gainOf, .code yX2_gainOf cX2_gainOf 3 (some .int), .fieldLink RX2 23 "BidMarket$Market" "prices" "[I"] ++ wsX20)
def wsX2_ownGain : List Cond := .code yX2_ownGain cX2_ownGain 3 (some .int) :: ([.fieldLink RX2 16 "BidMarket$Market" "thingOf" "[I", .methodLink RX2 63 yX2_gainOf, .instanceMethod yX2_gainOf, .selects RX2 yX2_gainOf yX2_gainOf, .initialized RX2, .code yX2_gainOf cX2_gainOf 3 (some .int), .fieldLink RX2 26 "BidMarket$Market" "n" "I", .fieldLink RX2 11 "BidMarket$Market" "worths" "[[I", .fieldLink RX2 23 "BidMarket$Market" "prices" "[I"] ++ wsX20)
def wsX2_envyOf : List Cond := .code yX2_envyOf cX2_envyOf 4 (some .int) :: ([.fieldLink RX2 26 "BidMarket$Market" "n" "I", .methodLink RX2 59 yX2_allows, .instanceMethod yX2_allows, .selects RX2 yX2_allows yX2_allows, .initialized RX2, .code yX2_allows cX2_allows 3 (some .boolean), .fieldLink RX2 11 "BidMarket$Market" "worths" "[[I", .methodLink RX2 63 yX2_gainOf, .instanceMethod yX2_gainOf, .selects RX2 yX2_gainOf yX2_gainOf, .code yX2_gainOf cX2_gainOf 3 (some .int), .fieldLink RX2 23 "BidMarket$Market" "prices" "[I", .methodLink RX2 91 yX2_ownGain, .instanceMethod yX2_ownGain, .selects RX2 yX2_ownGain yX2_ownGain, .code yX2_ownGain cX2_ownGain 3 (some .int), .fieldLink RX2 16 "BidMarket$Market" "thingOf" "[I"] ++ wsX20)
def wsX2_isSure_r1 : List Cond := [Cond.fieldLink RX2 26 "BidMarket$Market" "n" "I", Cond.fieldLink RX2 16 "BidMarket$Market" "thingOf" "[I", Cond.fieldLink RX2 30 "BidMarket$Market" "pace" "I", Cond.methodLink RX2 74 yX2_bestOf, Cond.instanceMethod yX2_bestOf, Cond.selects RX2 yX2_bestOf yX2_bestOf, Cond.initialized RX2, Cond.code yX2_bestOf cX2_bestOf 2 (some .int), Cond.methodLink RX2 55 yX2_bestBut, Cond.instanceMethod yX2_bestBut, Cond.selects RX2 yX2_bestBut yX2_bestBut, Cond.code yX2_bestBut cX2_bestBut 7 (some .int), Cond.methodLink RX2 59 yX2_allows, Cond.instanceMethod yX2_allows, Cond.selects RX2 yX2_allows yX2_allows, Cond.code yX2_allows cX2_allows 3 (some .boolean), Cond.fieldLink RX2 11 "BidMarket$Market" "worths" "[[I", Cond.methodLink RX2 63 yX2_gainOf, Cond.instanceMethod yX2_gainOf, Cond.selects RX2 yX2_gainOf yX2_gainOf, Cond.code yX2_gainOf cX2_gainOf 3 (some .int), Cond.fieldLink RX2 23 "BidMarket$Market" "prices" "[I", Cond.methodLink RX2 91 yX2_ownGain, Cond.instanceMethod yX2_ownGain]
def wsX2_isSure_r2 : List Cond := [Cond.selects RX2 yX2_ownGain yX2_ownGain, Cond.code yX2_ownGain cX2_ownGain 3 (some .int)]
def wsX2_isSure : List Cond := .code yX2_isSure cX2_isSure 3 (some .boolean) :: ((wsX2_isSure_r1 ++ wsX2_isSure_r2) ++ wsX20)
def wsX2_leastWithout : List Cond := .code yX2_leastWithout cX2_leastWithout 2 (some .int) :: ([.fieldLink RX2 26 "BidMarket$Market" "n" "I", .fieldLink RX2 16 "BidMarket$Market" "thingOf" "[I"] ++ wsX20)
def wsX2_ownersCounted : List Cond := .code yX2_ownersCounted cX2_ownersCounted 3 (some .int) :: ([.fieldLink RX2 26 "BidMarket$Market" "n" "I", .fieldLink RX2 16 "BidMarket$Market" "thingOf" "[I"] ++ wsX20)
def wsX2_worthTogether : List Cond := .code yX2_worthTogether cX2_worthTogether 3 (some .int) :: ([.fieldLink RX2 26 "BidMarket$Market" "n" "I", .fieldLink RX2 16 "BidMarket$Market" "thingOf" "[I", .fieldLink RX2 11 "BidMarket$Market" "worths" "[[I"] ++ wsX20)
def wsX2_pricesTogether : List Cond := .code yX2_pricesTogether cX2_pricesTogether 3 (some .int) :: ([.fieldLink RX2 26 "BidMarket$Market" "n" "I", .fieldLink RX2 23 "BidMarket$Market" "prices" "[I"] ++ wsX20)
def wsJ6_bitCount_0f7a4 : List Cond := .code yJ6_bitCount_0f7a4 cJ6_bitCount_0f7a4 1 (some .int) :: ([.constant RJ6 265 (1431655765), .constant RJ6 266 (858993459), .constant RJ6 267 (252645135)])
def wsX2_forbiddenCounted : List Cond := .code yX2_forbiddenCounted cX2_forbiddenCounted 3 (some .int) :: ([.fieldLink RX2 26 "BidMarket$Market" "n" "I", .methodLink RX2 94 yX2_allowedTo, .instanceMethod yX2_allowedTo, .selects RX2 yX2_allowedTo yX2_allowedTo, .initialized RX2, .code yX2_allowedTo cX2_allowedTo 4 (some .int), .methodLink RX2 59 yX2_allows, .instanceMethod yX2_allows, .selects RX2 yX2_allows yX2_allows, .code yX2_allows cX2_allows 3 (some .boolean), .fieldLink RX2 11 "BidMarket$Market" "worths" "[[I", .methodLink RX2 97 yJ6_bitCount_0f7a4, .static yJ6_bitCount_0f7a4, .initialized RJ6, .code yJ6_bitCount_0f7a4 cJ6_bitCount_0f7a4 1 (some .int), .constant RJ6 265 (1431655765), .constant RJ6 266 (858993459), .constant RJ6 267 (252645135)] ++ wsX20)
def wsX3_init : List Cond := .code yX3_init cX3_init 1 none :: ([.methodLink RX3 3 objectInit, .instanceMethod objectInit, .code objectInit ⟨#[0xb1]⟩ 1 none, .arrayClass .int, .fieldLink RX3 9 "BidMarket$Optimum" "sums" "[I"] ++ wsX30)
def wsX3_mostOfSet : List Cond := .code yX3_mostOfSet cX3_mostOfSet 7 (some .int) :: ([.fieldLink RX3 15 "BidMarket$Market" "n" "I", .fieldLink RX3 9 "BidMarket$Optimum" "sums" "[I", .fieldLink RX3 35 "BidMarket$Market" "worths" "[[I", .methodLink RX3 39 Lib.Math.max.name, .static Lib.Math.max.name, .initialized "java/lang/Math", .code Lib.Math.max.name Lib.Math.max.code 2 (some .int), .methodLink RX3 25 yJ6_bitCount_0f7a4, .static yJ6_bitCount_0f7a4, .initialized RJ6, .code yJ6_bitCount_0f7a4 cJ6_bitCount_0f7a4 1 (some .int), .constant RJ6 265 (1431655765), .constant RJ6 266 (858993459), .constant RJ6 267 (252645135), .methodLink RX3 31 yX2_allows, .instanceMethod yX2_allows, .selects RX2 yX2_allows yX2_allows, .initialized RX2, .code yX2_allows cX2_allows 3 (some .boolean), .fieldLink RX2 11 "BidMarket$Market" "worths" "[[I"] ++ wsX20 ++ wsX30)
def wsX3_mostWorth_r1 : List Cond := [Cond.fieldLink RX3 15 "BidMarket$Market" "n" "I", Cond.fieldLink RX3 9 "BidMarket$Optimum" "sums" "[I", Cond.methodLink RX3 21 yX3_mostOfSet, Cond.instanceMethod yX3_mostOfSet, Cond.selects RX3 yX3_mostOfSet yX3_mostOfSet, Cond.initialized RX3, Cond.code yX3_mostOfSet cX3_mostOfSet 7 (some .int), Cond.fieldLink RX3 35 "BidMarket$Market" "worths" "[[I", Cond.methodLink RX3 39 Lib.Math.max.name, Cond.static Lib.Math.max.name, Cond.initialized "java/lang/Math", Cond.code Lib.Math.max.name Lib.Math.max.code 2 (some .int), Cond.methodLink RX3 25 yJ6_bitCount_0f7a4, Cond.static yJ6_bitCount_0f7a4, Cond.initialized RJ6, Cond.code yJ6_bitCount_0f7a4 cJ6_bitCount_0f7a4 1 (some .int), Cond.constant RJ6 265 (1431655765), Cond.constant RJ6 266 (858993459), Cond.constant RJ6 267 (252645135), Cond.methodLink RX3 31 yX2_allows, Cond.instanceMethod yX2_allows, Cond.selects RX2 yX2_allows yX2_allows, Cond.initialized RX2, Cond.code yX2_allows cX2_allows 3 (some .boolean)]
def wsX3_mostWorth_r2 : List Cond := [Cond.fieldLink RX2 11 "BidMarket$Market" "worths" "[[I"]
def wsX3_mostWorth : List Cond := .code yX3_mostWorth cX3_mostWorth 4 (some .int) :: ((wsX3_mostWorth_r1 ++ wsX3_mostWorth_r2) ++ wsX20 ++ wsX30)
def wsX3_allowedToSome : List Cond := .code yX3_allowedToSome cX3_allowedToSome 5 (some .int) :: ([.fieldLink RX3 15 "BidMarket$Market" "n" "I", .methodLink RX3 48 yX2_allowedTo, .instanceMethod yX2_allowedTo, .selects RX2 yX2_allowedTo yX2_allowedTo, .initialized RX2, .code yX2_allowedTo cX2_allowedTo 4 (some .int), .fieldLink RX2 26 "BidMarket$Market" "n" "I", .methodLink RX2 59 yX2_allows, .instanceMethod yX2_allows, .selects RX2 yX2_allows yX2_allows, .code yX2_allows cX2_allows 3 (some .boolean), .fieldLink RX2 11 "BidMarket$Market" "worths" "[[I"] ++ wsX20)
def wsX3_leastLacking : List Cond := .code yX3_leastLacking cX3_leastLacking 7 (some .int) :: ([.fieldLink RX3 15 "BidMarket$Market" "n" "I", .methodLink RX3 25 yJ6_bitCount_0f7a4, .static yJ6_bitCount_0f7a4, .initialized RJ6, .code yJ6_bitCount_0f7a4 cJ6_bitCount_0f7a4 1 (some .int), .constant RJ6 265 (1431655765), .constant RJ6 266 (858993459), .constant RJ6 267 (252645135), .methodLink RX3 45 yX3_allowedToSome, .instanceMethod yX3_allowedToSome, .selects RX3 yX3_allowedToSome yX3_allowedToSome, .initialized RX3, .code yX3_allowedToSome cX3_allowedToSome 5 (some .int), .methodLink RX3 48 yX2_allowedTo, .instanceMethod yX2_allowedTo, .selects RX2 yX2_allowedTo yX2_allowedTo, .initialized RX2, .code yX2_allowedTo cX2_allowedTo 4 (some .int), .fieldLink RX2 26 "BidMarket$Market" "n" "I", .methodLink RX2 59 yX2_allows, .instanceMethod yX2_allows, .selects RX2 yX2_allows yX2_allows, .code yX2_allows cX2_allows 3 (some .boolean), .fieldLink RX2 11 "BidMarket$Market" "worths" "[[I"] ++ wsX20)
def wsX4_empty : List Cond := .code yX4_empty cX4_empty 1 (some .int) :: ([.fieldLink RX4 9 "BidMarket$Rows" "used" "I"] ++ wsX40)
def wsX4_append : List Cond := .code yX4_append cX4_append 3 (some .int) :: ([.fieldLink RX4 9 "BidMarket$Rows" "used" "I", .fieldLink RX4 15 "BidMarket$Rows" "left" "[I", .fieldLink RX4 19 "BidMarket$Rows" "right" "[I"] ++ wsX40)
def wsX5_init : List Cond := .code yX5_init cX5_init 1 none :: ([.methodLink RX5 1 objectInit, .instanceMethod objectInit, .code objectInit ⟨#[0xb1]⟩ 1 none, .arrayClass .long, .fieldLink RX5 9 "BidMarket$Tape" "items" "[J", .fieldLink RX5 13 "BidMarket$Tape" "sort" "I", .fieldLink RX5 17 "BidMarket$Tape" "length" "I"] ++ wsX50)
def wsX5_becomeRow : List Cond := .code yX5_becomeRow cX5_becomeRow 4 none :: ([.fieldLink RX5 13 "BidMarket$Tape" "sort" "I", .fieldLink RX5 17 "BidMarket$Tape" "length" "I", .fieldLink RX5 9 "BidMarket$Tape" "items" "[J"] ++ wsX50)
def wsX5_hasPlace : List Cond := .code yX5_hasPlace cX5_hasPlace 2 (some .boolean) :: ([.fieldLink RX5 17 "BidMarket$Tape" "length" "I"] ++ wsX50)
def wsX5_hasRun : List Cond := .code yX5_hasRun cX5_hasRun 3 (some .boolean) :: ([.fieldLink RX5 17 "BidMarket$Tape" "length" "I"] ++ wsX50)
def wsX5_asItem : List Cond := .code yX5_asItem cX5_asItem 3 (some .long) :: ([.fieldLink RX5 13 "BidMarket$Tape" "sort" "I"] ++ wsX50)
def wsX6_init : List Cond := .code yX6_init cX6_init 1 none :: ([.methodLink RX6 3 objectInit, .instanceMethod objectInit, .code objectInit ⟨#[0xb1]⟩ 1 none, .arrayClass .int, .fieldLink RX6 11 "BidMarket$Text" "bytes" "[I", .fieldLink RX6 15 "BidMarket$Text" "length" "I", .fieldLink RX6 19 "BidMarket$Text" "persons" "[I", .fieldLink RX6 22 "BidMarket$Text" "things" "[I", .fieldLink RX6 25 "BidMarket$Text" "worths" "[I", .fieldLink RX6 28 "BidMarket$Text" "clauses" "I", .fieldLink RX6 31 "BidMarket$Text" "at" "I", .fieldLink RX6 34 "BidMarket$Text" "kind" "I"] ++ wsX60)
def wsX6_empty : List Cond := .code yX6_empty cX6_empty 1 none :: ([.fieldLink RX6 15 "BidMarket$Text" "length" "I"] ++ wsX60)
def wsX6_append : List Cond := .code yX6_append cX6_append 2 (some .int) :: ([.fieldLink RX6 15 "BidMarket$Text" "length" "I", .fieldLink RX6 11 "BidMarket$Text" "bytes" "[I"] ++ wsX60)
def wsX6_sign : List Cond := .code yX6_sign cX6_sign 1 (some .int) :: ([.fieldLink RX6 31 "BidMarket$Text" "at" "I", .fieldLink RX6 15 "BidMarket$Text" "length" "I", .fieldLink RX6 11 "BidMarket$Text" "bytes" "[I"] ++ wsX60)
def wsX6_findNumber : List Cond := .code yX6_findNumber cX6_findNumber 5 (some .int) :: ([.fieldLink RX6 34 "BidMarket$Text" "kind" "I", .fieldLink RX6 31 "BidMarket$Text" "at" "I", .methodLink RX6 44 yX6_sign, .instanceMethod yX6_sign, .selects RX6 yX6_sign yX6_sign, .initialized RX6, .code yX6_sign cX6_sign 1 (some .int), .fieldLink RX6 15 "BidMarket$Text" "length" "I", .fieldLink RX6 11 "BidMarket$Text" "bytes" "[I"] ++ wsX60)
def wsX6_isDigit : List Cond := .code yX6_isDigit cX6_isDigit 1 (some .boolean) :: ([])
def wsX6_findDigits : List Cond := .code yX6_findDigits cX6_findDigits 2 (some .int) :: ([.fieldLink RX6 31 "BidMarket$Text" "at" "I", .methodLink RX6 44 yX6_sign, .instanceMethod yX6_sign, .selects RX6 yX6_sign yX6_sign, .initialized RX6, .code yX6_sign cX6_sign 1 (some .int), .fieldLink RX6 15 "BidMarket$Text" "length" "I", .fieldLink RX6 11 "BidMarket$Text" "bytes" "[I", .methodLink RX6 57 yX6_isDigit, .static yX6_isDigit, .code yX6_isDigit cX6_isDigit 1 (some .boolean)] ++ wsX60)
def wsX6_findWorth : List Cond := .code yX6_findWorth cX6_findWorth 1 (some .int) :: ([.fieldLink RX6 31 "BidMarket$Text" "at" "I", .fieldLink RX6 34 "BidMarket$Text" "kind" "I", .methodLink RX6 44 yX6_sign, .instanceMethod yX6_sign, .selects RX6 yX6_sign yX6_sign, .initialized RX6, .code yX6_sign cX6_sign 1 (some .int), .fieldLink RX6 15 "BidMarket$Text" "length" "I", .fieldLink RX6 11 "BidMarket$Text" "bytes" "[I", .methodLink RX6 57 yX6_isDigit, .static yX6_isDigit, .code yX6_isDigit cX6_isDigit 1 (some .boolean), .methodLink RX6 61 yX6_findDigits, .instanceMethod yX6_findDigits, .selects RX6 yX6_findDigits yX6_findDigits, .code yX6_findDigits cX6_findDigits 2 (some .int)] ++ wsX60)
def wsX6_findClause_r1 : List Cond := [Cond.fieldLink RX6 34 "BidMarket$Text" "kind" "I", Cond.fieldLink RX6 28 "BidMarket$Text" "clauses" "I", Cond.fieldLink RX6 19 "BidMarket$Text" "persons" "[I", Cond.fieldLink RX6 22 "BidMarket$Text" "things" "[I", Cond.fieldLink RX6 25 "BidMarket$Text" "worths" "[I", Cond.methodLink RX6 50 yX6_findNumber, Cond.instanceMethod yX6_findNumber, Cond.selects RX6 yX6_findNumber yX6_findNumber, Cond.initialized RX6, Cond.code yX6_findNumber cX6_findNumber 5 (some .int), Cond.fieldLink RX6 31 "BidMarket$Text" "at" "I", Cond.methodLink RX6 44 yX6_sign, Cond.instanceMethod yX6_sign, Cond.selects RX6 yX6_sign yX6_sign, Cond.code yX6_sign cX6_sign 1 (some .int), Cond.fieldLink RX6 15 "BidMarket$Text" "length" "I", Cond.fieldLink RX6 11 "BidMarket$Text" "bytes" "[I", Cond.methodLink RX6 54 yX6_findWorth, Cond.instanceMethod yX6_findWorth, Cond.selects RX6 yX6_findWorth yX6_findWorth, Cond.code yX6_findWorth cX6_findWorth 1 (some .int), Cond.methodLink RX6 57 yX6_isDigit, Cond.static yX6_isDigit, Cond.code yX6_isDigit cX6_isDigit 1 (some .boolean)]
def wsX6_findClause_r2 : List Cond := [Cond.methodLink RX6 61 yX6_findDigits, Cond.instanceMethod yX6_findDigits, Cond.selects RX6 yX6_findDigits yX6_findDigits, Cond.code yX6_findDigits cX6_findDigits 2 (some .int)]
def wsX6_findClause : List Cond := .code yX6_findClause cX6_findClause 5 none :: ((wsX6_findClause_r1 ++ wsX6_findClause_r2) ++ wsX60)
def wsX6_passBetween : List Cond := .code yX6_passBetween cX6_passBetween 1 none :: ([.fieldLink RX6 28 "BidMarket$Text" "clauses" "I", .fieldLink RX6 31 "BidMarket$Text" "at" "I", .fieldLink RX6 34 "BidMarket$Text" "kind" "I", .methodLink RX6 44 yX6_sign, .instanceMethod yX6_sign, .selects RX6 yX6_sign yX6_sign, .initialized RX6, .code yX6_sign cX6_sign 1 (some .int), .fieldLink RX6 15 "BidMarket$Text" "length" "I", .fieldLink RX6 11 "BidMarket$Text" "bytes" "[I"] ++ wsX60)
def wsX6_findClauses_r1 : List Cond := [Cond.fieldLink RX6 31 "BidMarket$Text" "at" "I", Cond.fieldLink RX6 34 "BidMarket$Text" "kind" "I", Cond.fieldLink RX6 28 "BidMarket$Text" "clauses" "I", Cond.fieldLink RX6 15 "BidMarket$Text" "length" "I", Cond.methodLink RX6 37 yX6_findClause, Cond.instanceMethod yX6_findClause, Cond.selects RX6 yX6_findClause yX6_findClause, Cond.initialized RX6, Cond.code yX6_findClause cX6_findClause 5 none, Cond.fieldLink RX6 19 "BidMarket$Text" "persons" "[I", Cond.fieldLink RX6 22 "BidMarket$Text" "things" "[I", Cond.fieldLink RX6 25 "BidMarket$Text" "worths" "[I", Cond.methodLink RX6 50 yX6_findNumber, Cond.instanceMethod yX6_findNumber, Cond.selects RX6 yX6_findNumber yX6_findNumber, Cond.code yX6_findNumber cX6_findNumber 5 (some .int), Cond.methodLink RX6 44 yX6_sign, Cond.instanceMethod yX6_sign, Cond.selects RX6 yX6_sign yX6_sign, Cond.code yX6_sign cX6_sign 1 (some .int), Cond.fieldLink RX6 11 "BidMarket$Text" "bytes" "[I", Cond.methodLink RX6 54 yX6_findWorth, Cond.instanceMethod yX6_findWorth, Cond.selects RX6 yX6_findWorth yX6_findWorth]
def wsX6_findClauses_r2 : List Cond := [Cond.code yX6_findWorth cX6_findWorth 1 (some .int), Cond.methodLink RX6 57 yX6_isDigit, Cond.static yX6_isDigit, Cond.code yX6_isDigit cX6_isDigit 1 (some .boolean), Cond.methodLink RX6 61 yX6_findDigits, Cond.instanceMethod yX6_findDigits, Cond.selects RX6 yX6_findDigits yX6_findDigits, Cond.code yX6_findDigits cX6_findDigits 2 (some .int), Cond.methodLink RX6 41 yX6_passBetween, Cond.instanceMethod yX6_passBetween, Cond.selects RX6 yX6_passBetween yX6_passBetween, Cond.code yX6_passBetween cX6_passBetween 1 none]
def wsX6_findClauses : List Cond := .code yX6_findClauses cX6_findClauses 3 none :: ((wsX6_findClauses_r1 ++ wsX6_findClauses_r2) ++ wsX60)
def wsX7_init_r1 : List Cond := [Cond.methodLink RX7 3 objectInit, Cond.instanceMethod objectInit, Cond.code objectInit ⟨#[0xb1]⟩ 1 none, Cond.classLink RX7 9 RX1, Cond.instantiable RX1 4, Cond.initialized RX1, Cond.fieldLink RX7 12 "BidMarket" "held" "LBidMarket$Holdings;", Cond.fieldLink RX7 18 "BidMarket" "kept" "LBidMarket$Holdings;", Cond.classLink RX7 21 RX2, Cond.instantiable RX2 7, Cond.initialized RX2, Cond.fieldLink RX7 24 "BidMarket" "trial" "LBidMarket$Market;", Cond.classLink RX7 28 RX3, Cond.instantiable RX3 1, Cond.initialized RX3, Cond.fieldLink RX7 31 "BidMarket" "optimum" "LBidMarket$Optimum;", Cond.classLink RX7 35 RX6, Cond.instantiable RX6 8, Cond.initialized RX6, Cond.fieldLink RX7 38 "BidMarket" "text" "LBidMarket$Text;", Cond.classLink RX7 42 RX0, Cond.instantiable RX0 3, Cond.initialized RX0, Cond.fieldLink RX7 45 "BidMarket" "complaint" "LBidMarket$Complaint;"]
def wsX7_init_r2 : List Cond := [Cond.classLink RX7 49 RX5, Cond.fieldLink RX7 51 "BidMarket" "tapes" "[LBidMarket$Tape;", Cond.fieldLink RX7 55 "BidMarket" "imaged" "Z", Cond.instantiable RX5 3, Cond.initialized RX5, Cond.instanceMethod yX1_init, Cond.code yX1_init cX1_init 1 none, Cond.methodLink RX1 1 objectInit, Cond.classLink RX1 7 RX2, Cond.fieldLink RX1 10 "BidMarket$Holdings" "market" "LBidMarket$Market;", Cond.classLink RX1 16 RX4, Cond.instantiable RX4 3, Cond.initialized RX4, Cond.fieldLink RX1 21 "BidMarket$Holdings" "seen" "LBidMarket$Rows;", Cond.fieldLink RX1 25 "BidMarket$Holdings" "plan" "LBidMarket$Rows;", Cond.fieldLink RX1 28 "BidMarket$Holdings" "book" "LBidMarket$Rows;", Cond.methodLink RX1 9 yX2_init, Cond.instanceMethod yX2_init, Cond.code yX2_init cX2_init 1 none, Cond.methodLink RX2 3 objectInit, Cond.classLink RX2 9 "[[I", Cond.arrayClass .int, Cond.fieldLink RX2 11 "BidMarket$Market" "worths" "[[I", Cond.fieldLink RX2 16 "BidMarket$Market" "thingOf" "[I"]
def wsX7_init_r3 : List Cond := [Cond.fieldLink RX2 20 "BidMarket$Market" "personOf" "[I", Cond.fieldLink RX2 23 "BidMarket$Market" "prices" "[I", Cond.fieldLink RX2 26 "BidMarket$Market" "n" "I", Cond.fieldLink RX2 30 "BidMarket$Market" "pace" "I", Cond.fieldLink RX2 33 "BidMarket$Market" "breaker" "I", Cond.methodLink RX2 36 yX2_becomeEmpty, Cond.instanceMethod yX2_becomeEmpty, Cond.selects RX2 yX2_becomeEmpty yX2_becomeEmpty, Cond.code yX2_becomeEmpty cX2_becomeEmpty 4 none, Cond.methodLink RX2 40 yX2_startAnew, Cond.instanceMethod yX2_startAnew, Cond.selects RX2 yX2_startAnew yX2_startAnew, Cond.code yX2_startAnew cX2_startAnew 2 none, Cond.methodLink RX2 49 yX2_takeAllAway, Cond.instanceMethod yX2_takeAllAway, Cond.selects RX2 yX2_takeAllAway yX2_takeAllAway, Cond.code yX2_takeAllAway cX2_takeAllAway 2 none, Cond.methodLink RX1 18 yX4_init, Cond.instanceMethod yX4_init, Cond.code yX4_init cX4_init 2 none, Cond.methodLink RX4 3 objectInit, Cond.fieldLink RX4 9 "BidMarket$Rows" "used" "I", Cond.fieldLink RX4 15 "BidMarket$Rows" "left" "[I", Cond.fieldLink RX4 19 "BidMarket$Rows" "right" "[I"]
def wsX7_init_r4 : List Cond := [Cond.methodLink RX7 23 yX2_init, Cond.instanceMethod yX3_init, Cond.code yX3_init cX3_init 1 none, Cond.methodLink RX3 3 objectInit, Cond.fieldLink RX3 9 "BidMarket$Optimum" "sums" "[I", Cond.instanceMethod yX6_init, Cond.code yX6_init cX6_init 1 none, Cond.methodLink RX6 3 objectInit, Cond.fieldLink RX6 11 "BidMarket$Text" "bytes" "[I", Cond.fieldLink RX6 15 "BidMarket$Text" "length" "I", Cond.fieldLink RX6 19 "BidMarket$Text" "persons" "[I", Cond.fieldLink RX6 22 "BidMarket$Text" "things" "[I", Cond.fieldLink RX6 25 "BidMarket$Text" "worths" "[I", Cond.fieldLink RX6 28 "BidMarket$Text" "clauses" "I", Cond.fieldLink RX6 31 "BidMarket$Text" "at" "I", Cond.fieldLink RX6 34 "BidMarket$Text" "kind" "I", Cond.instanceMethod yX0_init, Cond.code yX0_init cX0_init 1 none, Cond.methodLink RX0 3 objectInit, Cond.fieldLink RX0 9 "BidMarket$Complaint" "kind" "I", Cond.fieldLink RX0 15 "BidMarket$Complaint" "cause" "I", Cond.fieldLink RX0 18 "BidMarket$Complaint" "causeOfCause" "I", Cond.instanceMethod yX5_init, Cond.code yX5_init cX5_init 1 none]
def wsX7_init_r5 : List Cond := [Cond.methodLink RX5 1 objectInit, Cond.arrayClass .long, Cond.fieldLink RX5 9 "BidMarket$Tape" "items" "[J", Cond.fieldLink RX5 13 "BidMarket$Tape" "sort" "I", Cond.fieldLink RX5 17 "BidMarket$Tape" "length" "I"]
def wsX7_init : List Cond := .code yX7_init cX7_init 2 none :: ((wsX7_init_r1 ++ (wsX7_init_r2 ++ (wsX7_init_r3 ++ (wsX7_init_r4 ++ wsX7_init_r5)))) ++ wsX10 ++ wsX70 ++ wsX20 ++ wsX30 ++ wsX60 ++ wsX00 ++ wsX50 ++ wsX40)
def wsX7_size_r1 : List Cond := [Cond.fieldLink RX7 12 "BidMarket" "held" "LBidMarket$Holdings;", Cond.fieldLink RX7 60 "BidMarket$Holdings" "market" "LBidMarket$Market;", Cond.fieldLink RX7 63 "BidMarket$Market" "n" "I", Cond.fieldLink RX7 71 "BidMarket$Holdings" "seen" "LBidMarket$Rows;", Cond.fieldLink RX7 81 "BidMarket$Holdings" "plan" "LBidMarket$Rows;", Cond.fieldLink RX7 84 "BidMarket$Holdings" "book" "LBidMarket$Rows;", Cond.methodLink RX7 67 yX2_becomeEmpty, Cond.instanceMethod yX2_becomeEmpty, Cond.selects RX2 yX2_becomeEmpty yX2_becomeEmpty, Cond.initialized RX2, Cond.code yX2_becomeEmpty cX2_becomeEmpty 4 none, Cond.fieldLink RX2 26 "BidMarket$Market" "n" "I", Cond.fieldLink RX2 11 "BidMarket$Market" "worths" "[[I", Cond.methodLink RX2 40 yX2_startAnew, Cond.instanceMethod yX2_startAnew, Cond.selects RX2 yX2_startAnew yX2_startAnew, Cond.code yX2_startAnew cX2_startAnew 2 none, Cond.fieldLink RX2 23 "BidMarket$Market" "prices" "[I", Cond.methodLink RX2 49 yX2_takeAllAway, Cond.instanceMethod yX2_takeAllAway, Cond.selects RX2 yX2_takeAllAway yX2_takeAllAway, Cond.code yX2_takeAllAway cX2_takeAllAway 2 none, Cond.fieldLink RX2 16 "BidMarket$Market" "thingOf" "[I", Cond.fieldLink RX2 20 "BidMarket$Market" "personOf" "[I"]
def wsX7_size_r2 : List Cond := [Cond.methodLink RX7 75 yX4_empty, Cond.instanceMethod yX4_empty, Cond.selects RX4 yX4_empty yX4_empty, Cond.initialized RX4, Cond.code yX4_empty cX4_empty 1 (some .int), Cond.fieldLink RX4 9 "BidMarket$Rows" "used" "I"]
def wsX7_size : List Cond := .code yX7_size cX7_size 3 (some .int) :: ((wsX7_size_r1 ++ wsX7_size_r2) ++ wsX70 ++ wsX10 ++ wsX20 ++ wsX40)
def wsX7_shownWorth : List Cond := .code yX7_shownWorth cX7_shownWorth 3 (some .int) :: ([.fieldLink RX7 12 "BidMarket" "held" "LBidMarket$Holdings;", .fieldLink RX7 60 "BidMarket$Holdings" "market" "LBidMarket$Market;", .fieldLink RX7 292 "BidMarket$Market" "worths" "[[I", .methodLink RX7 138 yX2_allows, .instanceMethod yX2_allows, .selects RX2 yX2_allows yX2_allows, .initialized RX2, .code yX2_allows cX2_allows 3 (some .boolean), .fieldLink RX2 11 "BidMarket$Market" "worths" "[[I"] ++ wsX70 ++ wsX10 ++ wsX20)
def wsX7_worth_r1 : List Cond := [Cond.fieldLink RX7 12 "BidMarket" "held" "LBidMarket$Holdings;", Cond.fieldLink RX7 60 "BidMarket$Holdings" "market" "LBidMarket$Market;", Cond.methodLink RX7 87 yX2_has, Cond.instanceMethod yX2_has, Cond.selects RX2 yX2_has yX2_has, Cond.initialized RX2, Cond.code yX2_has cX2_has 2 (some .boolean), Cond.fieldLink RX2 26 "BidMarket$Market" "n" "I", Cond.methodLink RX7 91 yX7_shownWorth, Cond.instanceMethod yX7_shownWorth, Cond.selects RX7 yX7_shownWorth yX7_shownWorth, Cond.initialized RX7, Cond.code yX7_shownWorth cX7_shownWorth 3 (some .int), Cond.fieldLink RX7 292 "BidMarket$Market" "worths" "[[I", Cond.methodLink RX7 138 yX2_allows, Cond.instanceMethod yX2_allows, Cond.selects RX2 yX2_allows yX2_allows, Cond.code yX2_allows cX2_allows 3 (some .boolean), Cond.fieldLink RX2 11 "BidMarket$Market" "worths" "[[I", Cond.methodLink RX7 95 yX2_becomeWorth, Cond.instanceMethod yX2_becomeWorth, Cond.selects RX2 yX2_becomeWorth yX2_becomeWorth, Cond.code yX2_becomeWorth cX2_becomeWorth 4 none, Cond.methodLink RX2 52 yX2_giveUp]
def wsX7_worth_r2 : List Cond := [Cond.instanceMethod yX2_giveUp, Cond.selects RX2 yX2_giveUp yX2_giveUp, Cond.code yX2_giveUp cX2_giveUp 3 none, Cond.fieldLink RX2 16 "BidMarket$Market" "thingOf" "[I", Cond.fieldLink RX2 20 "BidMarket$Market" "personOf" "[I"]
def wsX7_worth : List Cond := .code yX7_worth cX7_worth 5 (some .int) :: ((wsX7_worth_r1 ++ wsX7_worth_r2) ++ wsX70 ++ wsX10 ++ wsX20)
def wsX7_isStep : List Cond := .code yX7_isStep cX7_isStep 1 (some .boolean) :: ([])
def wsX7_step : List Cond := .code yX7_step cX7_step 3 (some .int) :: ([.fieldLink RX7 12 "BidMarket" "held" "LBidMarket$Holdings;", .fieldLink RX7 60 "BidMarket$Holdings" "market" "LBidMarket$Market;", .fieldLink RX7 102 "BidMarket$Market" "pace" "I", .methodLink RX7 99 yX7_isStep, .static yX7_isStep, .initialized RX7, .code yX7_isStep cX7_isStep 1 (some .boolean)] ++ wsX70 ++ wsX10 ++ wsX20)
def wsX7_feed : List Cond := .code yX7_feed cX7_feed 2 (some .int) :: ([.fieldLink RX7 38 "BidMarket" "text" "LBidMarket$Text;", .methodLink RX7 105 yX6_append, .instanceMethod yX6_append, .selects RX6 yX6_append yX6_append, .initialized RX6, .code yX6_append cX6_append 2 (some .int), .fieldLink RX6 15 "BidMarket$Text" "length" "I", .fieldLink RX6 11 "BidMarket$Text" "bytes" "[I"] ++ wsX70 ++ wsX60)
def wsX7_read_r1 : List Cond := [Cond.fieldLink RX7 38 "BidMarket" "text" "LBidMarket$Text;", Cond.fieldLink RX7 12 "BidMarket" "held" "LBidMarket$Holdings;", Cond.fieldLink RX7 60 "BidMarket$Holdings" "market" "LBidMarket$Market;", Cond.fieldLink RX7 63 "BidMarket$Market" "n" "I", Cond.fieldLink RX7 112 "BidMarket$Text" "clauses" "I", Cond.fieldLink RX7 115 "BidMarket$Text" "at" "I", Cond.fieldLink RX7 118 "BidMarket$Text" "kind" "I", Cond.fieldLink RX7 45 "BidMarket" "complaint" "LBidMarket$Complaint;", Cond.fieldLink RX7 124 "BidMarket$Text" "persons" "[I", Cond.fieldLink RX7 128 "BidMarket$Text" "things" "[I", Cond.fieldLink RX7 131 "BidMarket$Text" "worths" "[I", Cond.methodLink RX7 109 yX6_findClauses, Cond.instanceMethod yX6_findClauses, Cond.selects RX6 yX6_findClauses yX6_findClauses, Cond.initialized RX6, Cond.code yX6_findClauses cX6_findClauses 3 none, Cond.fieldLink RX6 31 "BidMarket$Text" "at" "I", Cond.fieldLink RX6 34 "BidMarket$Text" "kind" "I", Cond.fieldLink RX6 28 "BidMarket$Text" "clauses" "I", Cond.fieldLink RX6 15 "BidMarket$Text" "length" "I", Cond.methodLink RX6 37 yX6_findClause, Cond.instanceMethod yX6_findClause, Cond.selects RX6 yX6_findClause yX6_findClause, Cond.code yX6_findClause cX6_findClause 5 none]
def wsX7_read_r2 : List Cond := [Cond.fieldLink RX6 19 "BidMarket$Text" "persons" "[I", Cond.fieldLink RX6 22 "BidMarket$Text" "things" "[I", Cond.fieldLink RX6 25 "BidMarket$Text" "worths" "[I", Cond.methodLink RX6 50 yX6_findNumber, Cond.instanceMethod yX6_findNumber, Cond.selects RX6 yX6_findNumber yX6_findNumber, Cond.code yX6_findNumber cX6_findNumber 5 (some .int), Cond.methodLink RX6 44 yX6_sign, Cond.instanceMethod yX6_sign, Cond.selects RX6 yX6_sign yX6_sign, Cond.code yX6_sign cX6_sign 1 (some .int), Cond.fieldLink RX6 11 "BidMarket$Text" "bytes" "[I", Cond.methodLink RX6 54 yX6_findWorth, Cond.instanceMethod yX6_findWorth, Cond.selects RX6 yX6_findWorth yX6_findWorth, Cond.code yX6_findWorth cX6_findWorth 1 (some .int), Cond.methodLink RX6 57 yX6_isDigit, Cond.static yX6_isDigit, Cond.code yX6_isDigit cX6_isDigit 1 (some .boolean), Cond.methodLink RX6 61 yX6_findDigits, Cond.instanceMethod yX6_findDigits, Cond.selects RX6 yX6_findDigits yX6_findDigits, Cond.code yX6_findDigits cX6_findDigits 2 (some .int), Cond.methodLink RX6 41 yX6_passBetween]
def wsX7_read_r3 : List Cond := [Cond.instanceMethod yX6_passBetween, Cond.selects RX6 yX6_passBetween yX6_passBetween, Cond.code yX6_passBetween cX6_passBetween 1 none, Cond.methodLink RX7 121 yX0_tell, Cond.instanceMethod yX0_tell, Cond.selects RX0 yX0_tell yX0_tell, Cond.initialized RX0, Cond.code yX0_tell cX0_tell 4 none, Cond.fieldLink RX0 9 "BidMarket$Complaint" "kind" "I", Cond.fieldLink RX0 15 "BidMarket$Complaint" "cause" "I", Cond.fieldLink RX0 18 "BidMarket$Complaint" "causeOfCause" "I", Cond.methodLink RX7 95 yX2_becomeWorth, Cond.instanceMethod yX2_becomeWorth, Cond.selects RX2 yX2_becomeWorth yX2_becomeWorth, Cond.initialized RX2, Cond.code yX2_becomeWorth cX2_becomeWorth 4 none, Cond.fieldLink RX2 11 "BidMarket$Market" "worths" "[[I", Cond.methodLink RX2 52 yX2_giveUp, Cond.instanceMethod yX2_giveUp, Cond.selects RX2 yX2_giveUp yX2_giveUp, Cond.code yX2_giveUp cX2_giveUp 3 none, Cond.fieldLink RX2 16 "BidMarket$Market" "thingOf" "[I", Cond.fieldLink RX2 20 "BidMarket$Market" "personOf" "[I", Cond.methodLink RX7 134 yX6_empty]
def wsX7_read_r4 : List Cond := [Cond.instanceMethod yX6_empty, Cond.selects RX6 yX6_empty yX6_empty, Cond.code yX6_empty cX6_empty 1 none]
def wsX7_read : List Cond := .code yX7_read cX7_read 5 (some .int) :: ((wsX7_read_r1 ++ (wsX7_read_r2 ++ (wsX7_read_r3 ++ wsX7_read_r4))) ++ wsX70 ++ wsX10 ++ wsX20 ++ wsX60 ++ wsX00)
def wsX7_of_r1 : List Cond := [Cond.fieldLink RX7 12 "BidMarket" "held" "LBidMarket$Holdings;", Cond.fieldLink RX7 60 "BidMarket$Holdings" "market" "LBidMarket$Market;", Cond.constantLong RX7 136 (-9223372036854775808), Cond.methodLink RX7 87 yX2_has, Cond.instanceMethod yX2_has, Cond.selects RX2 yX2_has yX2_has, Cond.initialized RX2, Cond.code yX2_has cX2_has 2 (some .boolean), Cond.fieldLink RX2 26 "BidMarket$Market" "n" "I", Cond.methodLink RX7 91 yX7_shownWorth, Cond.instanceMethod yX7_shownWorth, Cond.selects RX7 yX7_shownWorth yX7_shownWorth, Cond.initialized RX7, Cond.code yX7_shownWorth cX7_shownWorth 3 (some .int), Cond.fieldLink RX7 292 "BidMarket$Market" "worths" "[[I", Cond.methodLink RX7 138 yX2_allows, Cond.instanceMethod yX2_allows, Cond.selects RX2 yX2_allows yX2_allows, Cond.code yX2_allows cX2_allows 3 (some .boolean), Cond.fieldLink RX2 11 "BidMarket$Market" "worths" "[[I", Cond.methodLink RX7 142 yX2_gainOf, Cond.instanceMethod yX2_gainOf, Cond.selects RX2 yX2_gainOf yX2_gainOf, Cond.code yX2_gainOf cX2_gainOf 3 (some .int)]
def wsX7_of_r2 : List Cond := [Cond.fieldLink RX2 23 "BidMarket$Market" "prices" "[I"]
def wsX7_of : List Cond := .code yX7_of cX7_of 4 (some .long) :: ((wsX7_of_r1 ++ wsX7_of_r2) ++ wsX70 ++ wsX10 ++ wsX20)
def wsX7_shownNumber : List Cond := .code yX7_shownNumber cX7_shownNumber 1 (some .int) :: ([])
def wsX7_person_r1 : List Cond := [Cond.fieldLink RX7 12 "BidMarket" "held" "LBidMarket$Holdings;", Cond.fieldLink RX7 60 "BidMarket$Holdings" "market" "LBidMarket$Market;", Cond.fieldLink RX7 145 "BidMarket$Market" "thingOf" "[I", Cond.methodLink RX7 87 yX2_has, Cond.instanceMethod yX2_has, Cond.selects RX2 yX2_has yX2_has, Cond.initialized RX2, Cond.code yX2_has cX2_has 2 (some .boolean), Cond.fieldLink RX2 26 "BidMarket$Market" "n" "I", Cond.methodLink RX7 148 yX7_shownNumber, Cond.static yX7_shownNumber, Cond.initialized RX7, Cond.code yX7_shownNumber cX7_shownNumber 1 (some .int), Cond.methodLink RX7 151 yX2_bestOf, Cond.instanceMethod yX2_bestOf, Cond.selects RX2 yX2_bestOf yX2_bestOf, Cond.code yX2_bestOf cX2_bestOf 2 (some .int), Cond.methodLink RX2 55 yX2_bestBut, Cond.instanceMethod yX2_bestBut, Cond.selects RX2 yX2_bestBut yX2_bestBut, Cond.code yX2_bestBut cX2_bestBut 7 (some .int), Cond.methodLink RX2 59 yX2_allows, Cond.instanceMethod yX2_allows, Cond.selects RX2 yX2_allows yX2_allows]
def wsX7_person_r2 : List Cond := [Cond.code yX2_allows cX2_allows 3 (some .boolean), Cond.fieldLink RX2 11 "BidMarket$Market" "worths" "[[I", Cond.methodLink RX2 63 yX2_gainOf, Cond.instanceMethod yX2_gainOf, Cond.selects RX2 yX2_gainOf yX2_gainOf, Cond.code yX2_gainOf cX2_gainOf 3 (some .int), Cond.fieldLink RX2 23 "BidMarket$Market" "prices" "[I", Cond.methodLink RX7 154 yX2_envyOf, Cond.instanceMethod yX2_envyOf, Cond.selects RX2 yX2_envyOf yX2_envyOf, Cond.code yX2_envyOf cX2_envyOf 4 (some .int), Cond.methodLink RX2 91 yX2_ownGain, Cond.instanceMethod yX2_ownGain, Cond.selects RX2 yX2_ownGain yX2_ownGain, Cond.code yX2_ownGain cX2_ownGain 3 (some .int), Cond.fieldLink RX2 16 "BidMarket$Market" "thingOf" "[I", Cond.methodLink RX7 157 yX2_allowedTo, Cond.instanceMethod yX2_allowedTo, Cond.selects RX2 yX2_allowedTo yX2_allowedTo, Cond.code yX2_allowedTo cX2_allowedTo 4 (some .int), Cond.methodLink RX7 160 yJ6_bitCount_0f7a4, Cond.static yJ6_bitCount_0f7a4, Cond.initialized RJ6, Cond.code yJ6_bitCount_0f7a4 cJ6_bitCount_0f7a4 1 (some .int)]
def wsX7_person_r3 : List Cond := [Cond.constant RJ6 265 (1431655765), Cond.constant RJ6 266 (858993459), Cond.constant RJ6 267 (252645135)]
def wsX7_person : List Cond := .code yX7_person cX7_person 3 (some .int) :: ((wsX7_person_r1 ++ (wsX7_person_r2 ++ wsX7_person_r3)) ++ wsX70 ++ wsX10 ++ wsX20)
def wsX7_thing_r1 : List Cond := [Cond.fieldLink RX7 12 "BidMarket" "held" "LBidMarket$Holdings;", Cond.fieldLink RX7 60 "BidMarket$Holdings" "market" "LBidMarket$Market;", Cond.fieldLink RX7 165 "BidMarket$Market" "prices" "[I", Cond.fieldLink RX7 168 "BidMarket$Market" "personOf" "[I", Cond.methodLink RX7 87 yX2_has, Cond.instanceMethod yX2_has, Cond.selects RX2 yX2_has yX2_has, Cond.initialized RX2, Cond.code yX2_has cX2_has 2 (some .boolean), Cond.fieldLink RX2 26 "BidMarket$Market" "n" "I", Cond.methodLink RX7 148 yX7_shownNumber, Cond.static yX7_shownNumber, Cond.initialized RX7, Cond.code yX7_shownNumber cX7_shownNumber 1 (some .int), Cond.methodLink RX7 171 yX2_wantersOf, Cond.instanceMethod yX2_wantersOf, Cond.selects RX2 yX2_wantersOf yX2_wantersOf, Cond.code yX2_wantersOf cX2_wantersOf 4 (some .int), Cond.methodLink RX2 74 yX2_bestOf, Cond.instanceMethod yX2_bestOf, Cond.selects RX2 yX2_bestOf yX2_bestOf, Cond.code yX2_bestOf cX2_bestOf 2 (some .int), Cond.methodLink RX2 55 yX2_bestBut, Cond.instanceMethod yX2_bestBut]
def wsX7_thing_r2 : List Cond := [Cond.selects RX2 yX2_bestBut yX2_bestBut, Cond.code yX2_bestBut cX2_bestBut 7 (some .int), Cond.methodLink RX2 59 yX2_allows, Cond.instanceMethod yX2_allows, Cond.selects RX2 yX2_allows yX2_allows, Cond.code yX2_allows cX2_allows 3 (some .boolean), Cond.fieldLink RX2 11 "BidMarket$Market" "worths" "[[I", Cond.methodLink RX2 63 yX2_gainOf, Cond.instanceMethod yX2_gainOf, Cond.selects RX2 yX2_gainOf yX2_gainOf, Cond.code yX2_gainOf cX2_gainOf 3 (some .int), Cond.fieldLink RX2 23 "BidMarket$Market" "prices" "[I"]
def wsX7_thing : List Cond := .code yX7_thing cX7_thing 3 (some .int) :: ((wsX7_thing_r1 ++ wsX7_thing_r2) ++ wsX70 ++ wsX10 ++ wsX20)
def wsX7_bid_r1 : List Cond := [Cond.fieldLink RX7 12 "BidMarket" "held" "LBidMarket$Holdings;", Cond.fieldLink RX7 60 "BidMarket$Holdings" "market" "LBidMarket$Market;", Cond.methodLink RX7 174 yX2_letNextBid, Cond.instanceMethod yX2_letNextBid, Cond.selects RX2 yX2_letNextBid yX2_letNextBid, Cond.initialized RX2, Cond.code yX2_letNextBid cX2_letNextBid 4 (some .int), Cond.fieldLink RX2 23 "BidMarket$Market" "prices" "[I", Cond.fieldLink RX2 20 "BidMarket$Market" "personOf" "[I", Cond.fieldLink RX2 16 "BidMarket$Market" "thingOf" "[I", Cond.methodLink RX2 70 yX2_nextBidder, Cond.instanceMethod yX2_nextBidder, Cond.selects RX2 yX2_nextBidder yX2_nextBidder, Cond.code yX2_nextBidder cX2_nextBidder 2 (some .int), Cond.fieldLink RX2 26 "BidMarket$Market" "n" "I", Cond.methodLink RX2 66 yX2_hasBest, Cond.instanceMethod yX2_hasBest, Cond.selects RX2 yX2_hasBest yX2_hasBest, Cond.code yX2_hasBest cX2_hasBest 3 (some .boolean), Cond.methodLink RX2 59 yX2_allows, Cond.instanceMethod yX2_allows, Cond.selects RX2 yX2_allows yX2_allows, Cond.code yX2_allows cX2_allows 3 (some .boolean), Cond.fieldLink RX2 11 "BidMarket$Market" "worths" "[[I"]
def wsX7_bid_r2 : List Cond := [Cond.methodLink RX2 74 yX2_bestOf, Cond.instanceMethod yX2_bestOf, Cond.selects RX2 yX2_bestOf yX2_bestOf, Cond.code yX2_bestOf cX2_bestOf 2 (some .int), Cond.methodLink RX2 55 yX2_bestBut, Cond.instanceMethod yX2_bestBut, Cond.selects RX2 yX2_bestBut yX2_bestBut, Cond.code yX2_bestBut cX2_bestBut 7 (some .int), Cond.methodLink RX2 63 yX2_gainOf, Cond.instanceMethod yX2_gainOf, Cond.selects RX2 yX2_gainOf yX2_gainOf, Cond.code yX2_gainOf cX2_gainOf 3 (some .int), Cond.methodLink RX2 78 yX2_offerFor, Cond.instanceMethod yX2_offerFor, Cond.selects RX2 yX2_offerFor yX2_offerFor, Cond.code yX2_offerFor cX2_offerFor 5 (some .int), Cond.fieldLink RX2 30 "BidMarket$Market" "pace" "I", Cond.methodLink RX7 148 yX7_shownNumber, Cond.static yX7_shownNumber, Cond.initialized RX7, Cond.code yX7_shownNumber cX7_shownNumber 1 (some .int)]
def wsX7_bid : List Cond := .code yX7_bid cX7_bid 1 (some .int) :: ((wsX7_bid_r1 ++ wsX7_bid_r2) ++ wsX70 ++ wsX10 ++ wsX20)
def wsX7_reported : List Cond := .code yX7_reported cX7_reported 5 (some .int) :: ([.fieldLink RX7 12 "BidMarket" "held" "LBidMarket$Holdings;", .fieldLink RX7 60 "BidMarket$Holdings" "market" "LBidMarket$Market;", .fieldLink RX7 295 "BidMarket$Market" "breaker" "I", .fieldLink RX7 45 "BidMarket" "complaint" "LBidMarket$Complaint;", .fieldLink RX7 63 "BidMarket$Market" "n" "I", .methodLink RX7 121 yX0_tell, .instanceMethod yX0_tell, .selects RX0 yX0_tell yX0_tell, .initialized RX0, .code yX0_tell cX0_tell 4 none, .fieldLink RX0 9 "BidMarket$Complaint" "kind" "I", .fieldLink RX0 15 "BidMarket$Complaint" "cause" "I", .fieldLink RX0 18 "BidMarket$Complaint" "causeOfCause" "I", .methodLink RX7 298 yX2_leastWithout, .instanceMethod yX2_leastWithout, .selects RX2 yX2_leastWithout yX2_leastWithout, .initialized RX2, .code yX2_leastWithout cX2_leastWithout 2 (some .int), .fieldLink RX2 26 "BidMarket$Market" "n" "I", .fieldLink RX2 16 "BidMarket$Market" "thingOf" "[I", .methodLink RX7 186 yX2_ownersCounted, .instanceMethod yX2_ownersCounted, .selects RX2 yX2_ownersCounted yX2_ownersCounted, .code yX2_ownersCounted cX2_ownersCounted 3 (some .int)] ++ wsX70 ++ wsX10 ++ wsX20 ++ wsX00)
def wsX7_auction_r1 : List Cond := [Cond.fieldLink RX7 12 "BidMarket" "held" "LBidMarket$Holdings;", Cond.fieldLink RX7 60 "BidMarket$Holdings" "market" "LBidMarket$Market;", Cond.methodLink RX7 177 yX2_runAuction, Cond.instanceMethod yX2_runAuction, Cond.selects RX2 yX2_runAuction yX2_runAuction, Cond.initialized RX2, Cond.code yX2_runAuction cX2_runAuction 3 (some .int), Cond.fieldLink RX2 33 "BidMarket$Market" "breaker" "I", Cond.constant RX2 84 (1000000), Cond.fieldLink RX2 23 "BidMarket$Market" "prices" "[I", Cond.fieldLink RX2 20 "BidMarket$Market" "personOf" "[I", Cond.methodLink RX2 81 yX2_letNextBid, Cond.instanceMethod yX2_letNextBid, Cond.selects RX2 yX2_letNextBid yX2_letNextBid, Cond.code yX2_letNextBid cX2_letNextBid 4 (some .int), Cond.fieldLink RX2 16 "BidMarket$Market" "thingOf" "[I", Cond.methodLink RX2 70 yX2_nextBidder, Cond.instanceMethod yX2_nextBidder, Cond.selects RX2 yX2_nextBidder yX2_nextBidder, Cond.code yX2_nextBidder cX2_nextBidder 2 (some .int), Cond.fieldLink RX2 26 "BidMarket$Market" "n" "I", Cond.methodLink RX2 66 yX2_hasBest, Cond.instanceMethod yX2_hasBest, Cond.selects RX2 yX2_hasBest yX2_hasBest]
def wsX7_auction_r2 : List Cond := [Cond.code yX2_hasBest cX2_hasBest 3 (some .boolean), Cond.methodLink RX2 59 yX2_allows, Cond.instanceMethod yX2_allows, Cond.selects RX2 yX2_allows yX2_allows, Cond.code yX2_allows cX2_allows 3 (some .boolean), Cond.fieldLink RX2 11 "BidMarket$Market" "worths" "[[I", Cond.methodLink RX2 74 yX2_bestOf, Cond.instanceMethod yX2_bestOf, Cond.selects RX2 yX2_bestOf yX2_bestOf, Cond.code yX2_bestOf cX2_bestOf 2 (some .int), Cond.methodLink RX2 55 yX2_bestBut, Cond.instanceMethod yX2_bestBut, Cond.selects RX2 yX2_bestBut yX2_bestBut, Cond.code yX2_bestBut cX2_bestBut 7 (some .int), Cond.methodLink RX2 63 yX2_gainOf, Cond.instanceMethod yX2_gainOf, Cond.selects RX2 yX2_gainOf yX2_gainOf, Cond.code yX2_gainOf cX2_gainOf 3 (some .int), Cond.methodLink RX2 78 yX2_offerFor, Cond.instanceMethod yX2_offerFor, Cond.selects RX2 yX2_offerFor yX2_offerFor, Cond.code yX2_offerFor cX2_offerFor 5 (some .int), Cond.fieldLink RX2 30 "BidMarket$Market" "pace" "I", Cond.methodLink RX7 180 yX7_reported]
def wsX7_auction_r3 : List Cond := [Cond.instanceMethod yX7_reported, Cond.selects RX7 yX7_reported yX7_reported, Cond.initialized RX7, Cond.code yX7_reported cX7_reported 5 (some .int), Cond.fieldLink RX7 295 "BidMarket$Market" "breaker" "I", Cond.fieldLink RX7 45 "BidMarket" "complaint" "LBidMarket$Complaint;", Cond.fieldLink RX7 63 "BidMarket$Market" "n" "I", Cond.methodLink RX7 121 yX0_tell, Cond.instanceMethod yX0_tell, Cond.selects RX0 yX0_tell yX0_tell, Cond.initialized RX0, Cond.code yX0_tell cX0_tell 4 none, Cond.fieldLink RX0 9 "BidMarket$Complaint" "kind" "I", Cond.fieldLink RX0 15 "BidMarket$Complaint" "cause" "I", Cond.fieldLink RX0 18 "BidMarket$Complaint" "causeOfCause" "I", Cond.methodLink RX7 298 yX2_leastWithout, Cond.instanceMethod yX2_leastWithout, Cond.selects RX2 yX2_leastWithout yX2_leastWithout, Cond.code yX2_leastWithout cX2_leastWithout 2 (some .int), Cond.methodLink RX7 186 yX2_ownersCounted, Cond.instanceMethod yX2_ownersCounted, Cond.selects RX2 yX2_ownersCounted yX2_ownersCounted, Cond.code yX2_ownersCounted cX2_ownersCounted 3 (some .int)]
def wsX7_auction : List Cond := .code yX7_auction cX7_auction 1 (some .int) :: ((wsX7_auction_r1 ++ (wsX7_auction_r2 ++ wsX7_auction_r3)) ++ wsX70 ++ wsX10 ++ wsX20 ++ wsX00)
def wsX7_scaled_r1 : List Cond := [Cond.fieldLink RX7 12 "BidMarket" "held" "LBidMarket$Holdings;", Cond.fieldLink RX7 60 "BidMarket$Holdings" "market" "LBidMarket$Market;", Cond.methodLink RX7 183 yX2_runScaled, Cond.instanceMethod yX2_runScaled, Cond.selects RX2 yX2_runScaled yX2_runScaled, Cond.initialized RX2, Cond.code yX2_runScaled cX2_runScaled 4 (some .int), Cond.fieldLink RX2 30 "BidMarket$Market" "pace" "I", Cond.fieldLink RX2 33 "BidMarket$Market" "breaker" "I", Cond.fieldLink RX2 85 "BidMarket$Market" "SCALE" "[I", Cond.methodLink RX2 49 yX2_takeAllAway, Cond.instanceMethod yX2_takeAllAway, Cond.selects RX2 yX2_takeAllAway yX2_takeAllAway, Cond.code yX2_takeAllAway cX2_takeAllAway 2 none, Cond.fieldLink RX2 16 "BidMarket$Market" "thingOf" "[I", Cond.fieldLink RX2 20 "BidMarket$Market" "personOf" "[I", Cond.methodLink RX2 88 yX2_runAuction, Cond.instanceMethod yX2_runAuction, Cond.selects RX2 yX2_runAuction yX2_runAuction, Cond.code yX2_runAuction cX2_runAuction 3 (some .int), Cond.constant RX2 84 (1000000), Cond.fieldLink RX2 23 "BidMarket$Market" "prices" "[I", Cond.methodLink RX2 81 yX2_letNextBid, Cond.instanceMethod yX2_letNextBid]
def wsX7_scaled_r2 : List Cond := [Cond.selects RX2 yX2_letNextBid yX2_letNextBid, Cond.code yX2_letNextBid cX2_letNextBid 4 (some .int), Cond.methodLink RX2 70 yX2_nextBidder, Cond.instanceMethod yX2_nextBidder, Cond.selects RX2 yX2_nextBidder yX2_nextBidder, Cond.code yX2_nextBidder cX2_nextBidder 2 (some .int), Cond.fieldLink RX2 26 "BidMarket$Market" "n" "I", Cond.methodLink RX2 66 yX2_hasBest, Cond.instanceMethod yX2_hasBest, Cond.selects RX2 yX2_hasBest yX2_hasBest, Cond.code yX2_hasBest cX2_hasBest 3 (some .boolean), Cond.methodLink RX2 59 yX2_allows, Cond.instanceMethod yX2_allows, Cond.selects RX2 yX2_allows yX2_allows, Cond.code yX2_allows cX2_allows 3 (some .boolean), Cond.fieldLink RX2 11 "BidMarket$Market" "worths" "[[I", Cond.methodLink RX2 74 yX2_bestOf, Cond.instanceMethod yX2_bestOf, Cond.selects RX2 yX2_bestOf yX2_bestOf, Cond.code yX2_bestOf cX2_bestOf 2 (some .int), Cond.methodLink RX2 55 yX2_bestBut, Cond.instanceMethod yX2_bestBut, Cond.selects RX2 yX2_bestBut yX2_bestBut, Cond.code yX2_bestBut cX2_bestBut 7 (some .int)]
def wsX7_scaled_r3 : List Cond := [Cond.methodLink RX2 63 yX2_gainOf, Cond.instanceMethod yX2_gainOf, Cond.selects RX2 yX2_gainOf yX2_gainOf, Cond.code yX2_gainOf cX2_gainOf 3 (some .int), Cond.methodLink RX2 78 yX2_offerFor, Cond.instanceMethod yX2_offerFor, Cond.selects RX2 yX2_offerFor yX2_offerFor, Cond.code yX2_offerFor cX2_offerFor 5 (some .int), Cond.methodLink RX7 180 yX7_reported, Cond.instanceMethod yX7_reported, Cond.selects RX7 yX7_reported yX7_reported, Cond.initialized RX7, Cond.code yX7_reported cX7_reported 5 (some .int), Cond.fieldLink RX7 295 "BidMarket$Market" "breaker" "I", Cond.fieldLink RX7 45 "BidMarket" "complaint" "LBidMarket$Complaint;", Cond.fieldLink RX7 63 "BidMarket$Market" "n" "I", Cond.methodLink RX7 121 yX0_tell, Cond.instanceMethod yX0_tell, Cond.selects RX0 yX0_tell yX0_tell, Cond.initialized RX0, Cond.code yX0_tell cX0_tell 4 none, Cond.fieldLink RX0 9 "BidMarket$Complaint" "kind" "I", Cond.fieldLink RX0 15 "BidMarket$Complaint" "cause" "I", Cond.fieldLink RX0 18 "BidMarket$Complaint" "causeOfCause" "I"]
def wsX7_scaled_r4 : List Cond := [Cond.methodLink RX7 298 yX2_leastWithout, Cond.instanceMethod yX2_leastWithout, Cond.selects RX2 yX2_leastWithout yX2_leastWithout, Cond.code yX2_leastWithout cX2_leastWithout 2 (some .int), Cond.methodLink RX7 186 yX2_ownersCounted, Cond.instanceMethod yX2_ownersCounted, Cond.selects RX2 yX2_ownersCounted yX2_ownersCounted, Cond.code yX2_ownersCounted cX2_ownersCounted 3 (some .int)]
def wsX7_scaled : List Cond := .code yX7_scaled cX7_scaled 1 (some .int) :: ((wsX7_scaled_r1 ++ (wsX7_scaled_r2 ++ (wsX7_scaled_r3 ++ wsX7_scaled_r4))) ++ wsX70 ++ wsX10 ++ wsX20 ++ wsX00)
def wsX7_fresh : List Cond := .code yX7_fresh cX7_fresh 2 (some .int) :: ([.fieldLink RX7 12 "BidMarket" "held" "LBidMarket$Holdings;", .fieldLink RX7 60 "BidMarket$Holdings" "market" "LBidMarket$Market;", .methodLink RX7 186 yX2_ownersCounted, .instanceMethod yX2_ownersCounted, .selects RX2 yX2_ownersCounted yX2_ownersCounted, .initialized RX2, .code yX2_ownersCounted cX2_ownersCounted 3 (some .int), .fieldLink RX2 26 "BidMarket$Market" "n" "I", .fieldLink RX2 16 "BidMarket$Market" "thingOf" "[I", .methodLink RX7 189 yX2_startAnew, .instanceMethod yX2_startAnew, .selects RX2 yX2_startAnew yX2_startAnew, .code yX2_startAnew cX2_startAnew 2 none, .fieldLink RX2 23 "BidMarket$Market" "prices" "[I", .methodLink RX2 49 yX2_takeAllAway, .instanceMethod yX2_takeAllAway, .selects RX2 yX2_takeAllAway yX2_takeAllAway, .code yX2_takeAllAway cX2_takeAllAway 2 none, .fieldLink RX2 20 "BidMarket$Market" "personOf" "[I"] ++ wsX70 ++ wsX10 ++ wsX20)
def wsX7_leave : List Cond := .code yX7_leave cX7_leave 3 (some .int) :: ([.fieldLink RX7 12 "BidMarket" "held" "LBidMarket$Holdings;", .fieldLink RX7 60 "BidMarket$Holdings" "market" "LBidMarket$Market;", .fieldLink RX7 145 "BidMarket$Market" "thingOf" "[I", .methodLink RX7 87 yX2_has, .instanceMethod yX2_has, .selects RX2 yX2_has yX2_has, .initialized RX2, .code yX2_has cX2_has 2 (some .boolean), .fieldLink RX2 26 "BidMarket$Market" "n" "I", .methodLink RX7 192 yX2_giveUp, .instanceMethod yX2_giveUp, .selects RX2 yX2_giveUp yX2_giveUp, .code yX2_giveUp cX2_giveUp 3 none, .fieldLink RX2 16 "BidMarket$Market" "thingOf" "[I", .fieldLink RX2 20 "BidMarket$Market" "personOf" "[I"] ++ wsX70 ++ wsX10 ++ wsX20)
def wsX7_told_r1 : List Cond := [Cond.fieldLink RX7 12 "BidMarket" "held" "LBidMarket$Holdings;", Cond.fieldLink RX7 60 "BidMarket$Holdings" "market" "LBidMarket$Market;", Cond.fieldLink RX7 63 "BidMarket$Market" "n" "I", Cond.fieldLink RX7 102 "BidMarket$Market" "pace" "I", Cond.fieldLink RX7 31 "BidMarket" "optimum" "LBidMarket$Optimum;", Cond.methodLink RX7 195 yX2_worthTogether, Cond.instanceMethod yX2_worthTogether, Cond.selects RX2 yX2_worthTogether yX2_worthTogether, Cond.initialized RX2, Cond.code yX2_worthTogether cX2_worthTogether 3 (some .int), Cond.fieldLink RX2 26 "BidMarket$Market" "n" "I", Cond.fieldLink RX2 16 "BidMarket$Market" "thingOf" "[I", Cond.fieldLink RX2 11 "BidMarket$Market" "worths" "[[I", Cond.methodLink RX7 198 yX3_mostWorth, Cond.instanceMethod yX3_mostWorth, Cond.selects RX3 yX3_mostWorth yX3_mostWorth, Cond.initialized RX3, Cond.code yX3_mostWorth cX3_mostWorth 4 (some .int), Cond.fieldLink RX3 15 "BidMarket$Market" "n" "I", Cond.fieldLink RX3 9 "BidMarket$Optimum" "sums" "[I", Cond.methodLink RX3 21 yX3_mostOfSet, Cond.instanceMethod yX3_mostOfSet, Cond.selects RX3 yX3_mostOfSet yX3_mostOfSet, Cond.code yX3_mostOfSet cX3_mostOfSet 7 (some .int)]
def wsX7_told_r2 : List Cond := [Cond.fieldLink RX3 35 "BidMarket$Market" "worths" "[[I", Cond.methodLink RX3 39 Lib.Math.max.name, Cond.static Lib.Math.max.name, Cond.initialized "java/lang/Math", Cond.code Lib.Math.max.name Lib.Math.max.code 2 (some .int), Cond.methodLink RX3 25 yJ6_bitCount_0f7a4, Cond.static yJ6_bitCount_0f7a4, Cond.initialized RJ6, Cond.code yJ6_bitCount_0f7a4 cJ6_bitCount_0f7a4 1 (some .int), Cond.constant RJ6 265 (1431655765), Cond.constant RJ6 266 (858993459), Cond.constant RJ6 267 (252645135), Cond.methodLink RX3 31 yX2_allows, Cond.instanceMethod yX2_allows, Cond.selects RX2 yX2_allows yX2_allows, Cond.code yX2_allows cX2_allows 3 (some .boolean), Cond.methodLink RX7 202 yX2_isSure, Cond.instanceMethod yX2_isSure, Cond.selects RX2 yX2_isSure yX2_isSure, Cond.code yX2_isSure cX2_isSure 3 (some .boolean), Cond.fieldLink RX2 30 "BidMarket$Market" "pace" "I", Cond.methodLink RX2 74 yX2_bestOf, Cond.instanceMethod yX2_bestOf, Cond.selects RX2 yX2_bestOf yX2_bestOf]
def wsX7_told_r3 : List Cond := [Cond.code yX2_bestOf cX2_bestOf 2 (some .int), Cond.methodLink RX2 55 yX2_bestBut, Cond.instanceMethod yX2_bestBut, Cond.selects RX2 yX2_bestBut yX2_bestBut, Cond.code yX2_bestBut cX2_bestBut 7 (some .int), Cond.methodLink RX2 59 yX2_allows, Cond.methodLink RX2 63 yX2_gainOf, Cond.instanceMethod yX2_gainOf, Cond.selects RX2 yX2_gainOf yX2_gainOf, Cond.code yX2_gainOf cX2_gainOf 3 (some .int), Cond.fieldLink RX2 23 "BidMarket$Market" "prices" "[I", Cond.methodLink RX2 91 yX2_ownGain, Cond.instanceMethod yX2_ownGain, Cond.selects RX2 yX2_ownGain yX2_ownGain, Cond.code yX2_ownGain cX2_ownGain 3 (some .int), Cond.methodLink RX7 206 yX3_leastLacking, Cond.instanceMethod yX3_leastLacking, Cond.selects RX3 yX3_leastLacking yX3_leastLacking, Cond.code yX3_leastLacking cX3_leastLacking 7 (some .int), Cond.methodLink RX3 45 yX3_allowedToSome, Cond.instanceMethod yX3_allowedToSome, Cond.selects RX3 yX3_allowedToSome yX3_allowedToSome, Cond.code yX3_allowedToSome cX3_allowedToSome 5 (some .int), Cond.methodLink RX3 48 yX2_allowedTo]
def wsX7_told_r4 : List Cond := [Cond.instanceMethod yX2_allowedTo, Cond.selects RX2 yX2_allowedTo yX2_allowedTo, Cond.code yX2_allowedTo cX2_allowedTo 4 (some .int), Cond.methodLink RX7 209 yX2_nextBidder, Cond.instanceMethod yX2_nextBidder, Cond.selects RX2 yX2_nextBidder yX2_nextBidder, Cond.code yX2_nextBidder cX2_nextBidder 2 (some .int), Cond.methodLink RX2 66 yX2_hasBest, Cond.instanceMethod yX2_hasBest, Cond.selects RX2 yX2_hasBest yX2_hasBest, Cond.code yX2_hasBest cX2_hasBest 3 (some .boolean), Cond.methodLink RX7 148 yX7_shownNumber, Cond.static yX7_shownNumber, Cond.initialized RX7, Cond.code yX7_shownNumber cX7_shownNumber 1 (some .int), Cond.methodLink RX7 212 yX2_nextOffer, Cond.instanceMethod yX2_nextOffer, Cond.selects RX2 yX2_nextOffer yX2_nextOffer, Cond.code yX2_nextOffer cX2_nextOffer 3 (some .int), Cond.methodLink RX2 70 yX2_nextBidder, Cond.methodLink RX2 78 yX2_offerFor, Cond.instanceMethod yX2_offerFor, Cond.selects RX2 yX2_offerFor yX2_offerFor, Cond.code yX2_offerFor cX2_offerFor 5 (some .int)]
def wsX7_told_r5 : List Cond := [Cond.methodLink RX7 186 yX2_ownersCounted, Cond.instanceMethod yX2_ownersCounted, Cond.selects RX2 yX2_ownersCounted yX2_ownersCounted, Cond.code yX2_ownersCounted cX2_ownersCounted 3 (some .int), Cond.methodLink RX7 215 yX2_pricesTogether, Cond.instanceMethod yX2_pricesTogether, Cond.selects RX2 yX2_pricesTogether yX2_pricesTogether, Cond.code yX2_pricesTogether cX2_pricesTogether 3 (some .int)]
def wsX7_told : List Cond := .code yX7_told cX7_told 2 (some .int) :: ((wsX7_told_r1 ++ (wsX7_told_r2 ++ (wsX7_told_r3 ++ (wsX7_told_r4 ++ wsX7_told_r5)))) ++ wsX70 ++ wsX10 ++ wsX20 ++ wsX30)
def wsX7_wrong : List Cond := .code yX7_wrong cX7_wrong 2 (some .int) :: ([.fieldLink RX7 45 "BidMarket" "complaint" "LBidMarket$Complaint;", .fieldLink RX7 218 "BidMarket$Complaint" "kind" "I", .fieldLink RX7 219 "BidMarket$Complaint" "cause" "I", .fieldLink RX7 222 "BidMarket$Complaint" "causeOfCause" "I"] ++ wsX70 ++ wsX00)
def wsX7_see : List Cond := .code yX7_see cX7_see 3 (some .int) :: ([.fieldLink RX7 12 "BidMarket" "held" "LBidMarket$Holdings;", .fieldLink RX7 71 "BidMarket$Holdings" "seen" "LBidMarket$Rows;", .fieldLink RX7 60 "BidMarket$Holdings" "market" "LBidMarket$Market;", .methodLink RX7 75 yX4_empty, .instanceMethod yX4_empty, .selects RX4 yX4_empty yX4_empty, .initialized RX4, .code yX4_empty cX4_empty 1 (some .int), .fieldLink RX4 9 "BidMarket$Rows" "used" "I", .methodLink RX7 87 yX2_has, .instanceMethod yX2_has, .selects RX2 yX2_has yX2_has, .initialized RX2, .code yX2_has cX2_has 2 (some .boolean), .fieldLink RX2 26 "BidMarket$Market" "n" "I", .methodLink RX7 225 yX4_append, .instanceMethod yX4_append, .selects RX4 yX4_append yX4_append, .code yX4_append cX4_append 3 (some .int), .fieldLink RX4 15 "BidMarket$Rows" "left" "[I", .fieldLink RX4 19 "BidMarket$Rows" "right" "[I"] ++ wsX70 ++ wsX10 ++ wsX40 ++ wsX20)
def wsX7_goesAsSeen : List Cond := .code yX7_goesAsSeen cX7_goesAsSeen 4 (some .boolean) :: ([.fieldLink RX7 12 "BidMarket" "held" "LBidMarket$Holdings;", .fieldLink RX7 71 "BidMarket$Holdings" "seen" "LBidMarket$Rows;", .fieldLink RX7 239 "BidMarket$Rows" "used" "I", .fieldLink RX7 242 "BidMarket$Rows" "left" "[I", .fieldLink RX7 145 "BidMarket$Market" "thingOf" "[I", .fieldLink RX7 245 "BidMarket$Rows" "right" "[I", .methodLink RX7 87 yX2_has, .instanceMethod yX2_has, .selects RX2 yX2_has yX2_has, .initialized RX2, .code yX2_has cX2_has 2 (some .boolean), .fieldLink RX2 26 "BidMarket$Market" "n" "I"] ++ wsX70 ++ wsX10 ++ wsX40 ++ wsX20)
def wsX7_fits_r1 : List Cond := [Cond.fieldLink RX7 12 "BidMarket" "held" "LBidMarket$Holdings;", Cond.fieldLink RX7 60 "BidMarket$Holdings" "market" "LBidMarket$Market;", Cond.fieldLink RX7 24 "BidMarket" "trial" "LBidMarket$Market;", Cond.methodLink RX7 87 yX2_has, Cond.instanceMethod yX2_has, Cond.selects RX2 yX2_has yX2_has, Cond.initialized RX2, Cond.code yX2_has cX2_has 2 (some .boolean), Cond.fieldLink RX2 26 "BidMarket$Market" "n" "I", Cond.methodLink RX7 227 yX2_become, Cond.instanceMethod yX2_become, Cond.selects RX2 yX2_become yX2_become, Cond.code yX2_become cX2_become 3 none, Cond.fieldLink RX2 30 "BidMarket$Market" "pace" "I", Cond.fieldLink RX2 11 "BidMarket$Market" "worths" "[[I", Cond.methodLink RX2 43 arraycopyName, Cond.native arraycopyName, Cond.static arraycopyName, Cond.initialized "java/lang/System", Cond.fieldLink RX2 16 "BidMarket$Market" "thingOf" "[I", Cond.fieldLink RX2 20 "BidMarket$Market" "personOf" "[I", Cond.fieldLink RX2 23 "BidMarket$Market" "prices" "[I", Cond.methodLink RX7 95 yX2_becomeWorth, Cond.instanceMethod yX2_becomeWorth]
def wsX7_fits_r2 : List Cond := [Cond.selects RX2 yX2_becomeWorth yX2_becomeWorth, Cond.code yX2_becomeWorth cX2_becomeWorth 4 none, Cond.methodLink RX2 52 yX2_giveUp, Cond.instanceMethod yX2_giveUp, Cond.selects RX2 yX2_giveUp yX2_giveUp, Cond.code yX2_giveUp cX2_giveUp 3 none, Cond.methodLink RX7 189 yX2_startAnew, Cond.instanceMethod yX2_startAnew, Cond.selects RX2 yX2_startAnew yX2_startAnew, Cond.code yX2_startAnew cX2_startAnew 2 none, Cond.methodLink RX2 49 yX2_takeAllAway, Cond.instanceMethod yX2_takeAllAway, Cond.selects RX2 yX2_takeAllAway yX2_takeAllAway, Cond.code yX2_takeAllAway cX2_takeAllAway 2 none, Cond.methodLink RX7 177 yX2_runAuction, Cond.instanceMethod yX2_runAuction, Cond.selects RX2 yX2_runAuction yX2_runAuction, Cond.code yX2_runAuction cX2_runAuction 3 (some .int), Cond.fieldLink RX2 33 "BidMarket$Market" "breaker" "I", Cond.constant RX2 84 (1000000), Cond.methodLink RX2 81 yX2_letNextBid, Cond.instanceMethod yX2_letNextBid, Cond.selects RX2 yX2_letNextBid yX2_letNextBid, Cond.code yX2_letNextBid cX2_letNextBid 4 (some .int)]
def wsX7_fits_r3 : List Cond := [Cond.methodLink RX2 70 yX2_nextBidder, Cond.instanceMethod yX2_nextBidder, Cond.selects RX2 yX2_nextBidder yX2_nextBidder, Cond.code yX2_nextBidder cX2_nextBidder 2 (some .int), Cond.methodLink RX2 66 yX2_hasBest, Cond.instanceMethod yX2_hasBest, Cond.selects RX2 yX2_hasBest yX2_hasBest, Cond.code yX2_hasBest cX2_hasBest 3 (some .boolean), Cond.methodLink RX2 59 yX2_allows, Cond.instanceMethod yX2_allows, Cond.selects RX2 yX2_allows yX2_allows, Cond.code yX2_allows cX2_allows 3 (some .boolean), Cond.methodLink RX2 74 yX2_bestOf, Cond.instanceMethod yX2_bestOf, Cond.selects RX2 yX2_bestOf yX2_bestOf, Cond.code yX2_bestOf cX2_bestOf 2 (some .int), Cond.methodLink RX2 55 yX2_bestBut, Cond.instanceMethod yX2_bestBut, Cond.selects RX2 yX2_bestBut yX2_bestBut, Cond.code yX2_bestBut cX2_bestBut 7 (some .int), Cond.methodLink RX2 63 yX2_gainOf, Cond.instanceMethod yX2_gainOf, Cond.selects RX2 yX2_gainOf yX2_gainOf, Cond.code yX2_gainOf cX2_gainOf 3 (some .int)]
def wsX7_fits_r4 : List Cond := [Cond.methodLink RX2 78 yX2_offerFor, Cond.instanceMethod yX2_offerFor, Cond.selects RX2 yX2_offerFor yX2_offerFor, Cond.code yX2_offerFor cX2_offerFor 5 (some .int), Cond.methodLink RX7 231 yX7_goesAsSeen, Cond.instanceMethod yX7_goesAsSeen, Cond.selects RX7 yX7_goesAsSeen yX7_goesAsSeen, Cond.initialized RX7, Cond.code yX7_goesAsSeen cX7_goesAsSeen 4 (some .boolean), Cond.fieldLink RX7 71 "BidMarket$Holdings" "seen" "LBidMarket$Rows;", Cond.fieldLink RX7 239 "BidMarket$Rows" "used" "I", Cond.fieldLink RX7 242 "BidMarket$Rows" "left" "[I", Cond.fieldLink RX7 145 "BidMarket$Market" "thingOf" "[I", Cond.fieldLink RX7 245 "BidMarket$Rows" "right" "[I"]
def wsX7_fits : List Cond := .code yX7_fits cX7_fits 7 (some .int) :: ((wsX7_fits_r1 ++ (wsX7_fits_r2 ++ (wsX7_fits_r3 ++ wsX7_fits_r4))) ++ wsX70 ++ wsX10 ++ wsX20 ++ wsX40)
def wsX7_lowestTerms : List Cond := .code yX7_lowestTerms cX7_lowestTerms 5 (some .long) :: ([.constantLong RX7 136 (-9223372036854775808)])
def wsX7_odds_r1 : List Cond := [Cond.fieldLink RX7 12 "BidMarket" "held" "LBidMarket$Holdings;", Cond.fieldLink RX7 60 "BidMarket$Holdings" "market" "LBidMarket$Market;", Cond.constantLong RX7 136 (-9223372036854775808), Cond.fieldLink RX7 24 "BidMarket" "trial" "LBidMarket$Market;", Cond.fieldLink RX7 102 "BidMarket$Market" "pace" "I", Cond.fieldLink RX7 145 "BidMarket$Market" "thingOf" "[I", Cond.methodLink RX7 87 yX2_has, Cond.instanceMethod yX2_has, Cond.selects RX2 yX2_has yX2_has, Cond.initialized RX2, Cond.code yX2_has cX2_has 2 (some .boolean), Cond.fieldLink RX2 26 "BidMarket$Market" "n" "I", Cond.methodLink RX7 227 yX2_become, Cond.instanceMethod yX2_become, Cond.selects RX2 yX2_become yX2_become, Cond.code yX2_become cX2_become 3 none, Cond.fieldLink RX2 30 "BidMarket$Market" "pace" "I", Cond.fieldLink RX2 11 "BidMarket$Market" "worths" "[[I", Cond.methodLink RX2 43 arraycopyName, Cond.native arraycopyName, Cond.static arraycopyName, Cond.initialized "java/lang/System", Cond.fieldLink RX2 16 "BidMarket$Market" "thingOf" "[I", Cond.fieldLink RX2 20 "BidMarket$Market" "personOf" "[I"]
def wsX7_odds_r2 : List Cond := [Cond.fieldLink RX2 23 "BidMarket$Market" "prices" "[I", Cond.methodLink RX7 189 yX2_startAnew, Cond.instanceMethod yX2_startAnew, Cond.selects RX2 yX2_startAnew yX2_startAnew, Cond.code yX2_startAnew cX2_startAnew 2 none, Cond.methodLink RX2 49 yX2_takeAllAway, Cond.instanceMethod yX2_takeAllAway, Cond.selects RX2 yX2_takeAllAway yX2_takeAllAway, Cond.code yX2_takeAllAway cX2_takeAllAway 2 none, Cond.methodLink RX7 177 yX2_runAuction, Cond.instanceMethod yX2_runAuction, Cond.selects RX2 yX2_runAuction yX2_runAuction, Cond.code yX2_runAuction cX2_runAuction 3 (some .int), Cond.fieldLink RX2 33 "BidMarket$Market" "breaker" "I", Cond.constant RX2 84 (1000000), Cond.methodLink RX2 81 yX2_letNextBid, Cond.instanceMethod yX2_letNextBid, Cond.selects RX2 yX2_letNextBid yX2_letNextBid, Cond.code yX2_letNextBid cX2_letNextBid 4 (some .int), Cond.methodLink RX2 70 yX2_nextBidder, Cond.instanceMethod yX2_nextBidder, Cond.selects RX2 yX2_nextBidder yX2_nextBidder, Cond.code yX2_nextBidder cX2_nextBidder 2 (some .int), Cond.methodLink RX2 66 yX2_hasBest]
def wsX7_odds_r3 : List Cond := [Cond.instanceMethod yX2_hasBest, Cond.selects RX2 yX2_hasBest yX2_hasBest, Cond.code yX2_hasBest cX2_hasBest 3 (some .boolean), Cond.methodLink RX2 59 yX2_allows, Cond.instanceMethod yX2_allows, Cond.selects RX2 yX2_allows yX2_allows, Cond.code yX2_allows cX2_allows 3 (some .boolean), Cond.methodLink RX2 74 yX2_bestOf, Cond.instanceMethod yX2_bestOf, Cond.selects RX2 yX2_bestOf yX2_bestOf, Cond.code yX2_bestOf cX2_bestOf 2 (some .int), Cond.methodLink RX2 55 yX2_bestBut, Cond.instanceMethod yX2_bestBut, Cond.selects RX2 yX2_bestBut yX2_bestBut, Cond.code yX2_bestBut cX2_bestBut 7 (some .int), Cond.methodLink RX2 63 yX2_gainOf, Cond.instanceMethod yX2_gainOf, Cond.selects RX2 yX2_gainOf yX2_gainOf, Cond.code yX2_gainOf cX2_gainOf 3 (some .int), Cond.methodLink RX2 78 yX2_offerFor, Cond.instanceMethod yX2_offerFor, Cond.selects RX2 yX2_offerFor yX2_offerFor, Cond.code yX2_offerFor cX2_offerFor 5 (some .int), Cond.methodLink RX7 235 yX7_lowestTerms]
def wsX7_odds_r4 : List Cond := [Cond.static yX7_lowestTerms, Cond.initialized RX7, Cond.code yX7_lowestTerms cX7_lowestTerms 5 (some .long)]
def wsX7_odds : List Cond := .code yX7_odds cX7_odds 6 (some .long) :: ((wsX7_odds_r1 ++ (wsX7_odds_r2 ++ (wsX7_odds_r3 ++ wsX7_odds_r4))) ++ wsX70 ++ wsX10 ++ wsX20)
def wsX7_mean : List Cond := .code yX7_mean cX7_mean 2 (some .long) :: ([.fieldLink RX7 12 "BidMarket" "held" "LBidMarket$Holdings;", .fieldLink RX7 60 "BidMarket$Holdings" "market" "LBidMarket$Market;", .fieldLink RX7 63 "BidMarket$Market" "n" "I", .methodLink RX7 215 yX2_pricesTogether, .instanceMethod yX2_pricesTogether, .selects RX2 yX2_pricesTogether yX2_pricesTogether, .initialized RX2, .code yX2_pricesTogether cX2_pricesTogether 3 (some .int), .fieldLink RX2 26 "BidMarket$Market" "n" "I", .fieldLink RX2 23 "BidMarket$Market" "prices" "[I", .methodLink RX7 235 yX7_lowestTerms, .static yX7_lowestTerms, .initialized RX7, .code yX7_lowestTerms cX7_lowestTerms 5 (some .long), .constantLong RX7 136 (-9223372036854775808)] ++ wsX70 ++ wsX10 ++ wsX20)
def wsX7_plan_r1 : List Cond := [Cond.fieldLink RX7 12 "BidMarket" "held" "LBidMarket$Holdings;", Cond.fieldLink RX7 81 "BidMarket$Holdings" "plan" "LBidMarket$Rows;", Cond.fieldLink RX7 60 "BidMarket$Holdings" "market" "LBidMarket$Market;", Cond.methodLink RX7 75 yX4_empty, Cond.instanceMethod yX4_empty, Cond.selects RX4 yX4_empty yX4_empty, Cond.initialized RX4, Cond.code yX4_empty cX4_empty 1 (some .int), Cond.fieldLink RX4 9 "BidMarket$Rows" "used" "I", Cond.methodLink RX7 87 yX2_has, Cond.instanceMethod yX2_has, Cond.selects RX2 yX2_has yX2_has, Cond.initialized RX2, Cond.code yX2_has cX2_has 2 (some .boolean), Cond.fieldLink RX2 26 "BidMarket$Market" "n" "I", Cond.methodLink RX7 99 yX7_isStep, Cond.static yX7_isStep, Cond.initialized RX7, Cond.code yX7_isStep cX7_isStep 1 (some .boolean), Cond.methodLink RX7 225 yX4_append, Cond.instanceMethod yX4_append, Cond.selects RX4 yX4_append yX4_append, Cond.code yX4_append cX4_append 3 (some .int), Cond.fieldLink RX4 15 "BidMarket$Rows" "left" "[I"]
def wsX7_plan_r2 : List Cond := [Cond.fieldLink RX4 19 "BidMarket$Rows" "right" "[I"]
def wsX7_plan : List Cond := .code yX7_plan cX7_plan 3 (some .int) :: ((wsX7_plan_r1 ++ wsX7_plan_r2) ++ wsX70 ++ wsX10 ++ wsX40 ++ wsX20)
def wsX7_goOn_r1 : List Cond := [Cond.fieldLink RX7 102 "BidMarket$Market" "pace" "I", Cond.methodLink RX7 174 yX2_letNextBid, Cond.instanceMethod yX2_letNextBid, Cond.selects RX2 yX2_letNextBid yX2_letNextBid, Cond.initialized RX2, Cond.code yX2_letNextBid cX2_letNextBid 4 (some .int), Cond.fieldLink RX2 23 "BidMarket$Market" "prices" "[I", Cond.fieldLink RX2 20 "BidMarket$Market" "personOf" "[I", Cond.fieldLink RX2 16 "BidMarket$Market" "thingOf" "[I", Cond.methodLink RX2 70 yX2_nextBidder, Cond.instanceMethod yX2_nextBidder, Cond.selects RX2 yX2_nextBidder yX2_nextBidder, Cond.code yX2_nextBidder cX2_nextBidder 2 (some .int), Cond.fieldLink RX2 26 "BidMarket$Market" "n" "I", Cond.methodLink RX2 66 yX2_hasBest, Cond.instanceMethod yX2_hasBest, Cond.selects RX2 yX2_hasBest yX2_hasBest, Cond.code yX2_hasBest cX2_hasBest 3 (some .boolean), Cond.methodLink RX2 59 yX2_allows, Cond.instanceMethod yX2_allows, Cond.selects RX2 yX2_allows yX2_allows, Cond.code yX2_allows cX2_allows 3 (some .boolean), Cond.fieldLink RX2 11 "BidMarket$Market" "worths" "[[I", Cond.methodLink RX2 74 yX2_bestOf]
def wsX7_goOn_r2 : List Cond := [Cond.instanceMethod yX2_bestOf, Cond.selects RX2 yX2_bestOf yX2_bestOf, Cond.code yX2_bestOf cX2_bestOf 2 (some .int), Cond.methodLink RX2 55 yX2_bestBut, Cond.instanceMethod yX2_bestBut, Cond.selects RX2 yX2_bestBut yX2_bestBut, Cond.code yX2_bestBut cX2_bestBut 7 (some .int), Cond.methodLink RX2 63 yX2_gainOf, Cond.instanceMethod yX2_gainOf, Cond.selects RX2 yX2_gainOf yX2_gainOf, Cond.code yX2_gainOf cX2_gainOf 3 (some .int), Cond.methodLink RX2 78 yX2_offerFor, Cond.instanceMethod yX2_offerFor, Cond.selects RX2 yX2_offerFor yX2_offerFor, Cond.code yX2_offerFor cX2_offerFor 5 (some .int), Cond.fieldLink RX2 30 "BidMarket$Market" "pace" "I", Cond.methodLink RX7 87 yX2_has, Cond.instanceMethod yX2_has, Cond.selects RX2 yX2_has yX2_has, Cond.code yX2_has cX2_has 2 (some .boolean), Cond.methodLink RX7 192 yX2_giveUp, Cond.instanceMethod yX2_giveUp, Cond.selects RX2 yX2_giveUp yX2_giveUp, Cond.code yX2_giveUp cX2_giveUp 3 none]
def wsX7_goOn : List Cond := .code yX7_goOn cX7_goOn 3 none :: ((wsX7_goOn_r1 ++ wsX7_goOn_r2) ++ wsX20)
def wsX7_ends_r1 : List Cond := [Cond.fieldLink RX7 24 "BidMarket" "trial" "LBidMarket$Market;", Cond.fieldLink RX7 12 "BidMarket" "held" "LBidMarket$Holdings;", Cond.fieldLink RX7 60 "BidMarket$Holdings" "market" "LBidMarket$Market;", Cond.fieldLink RX7 81 "BidMarket$Holdings" "plan" "LBidMarket$Rows;", Cond.fieldLink RX7 239 "BidMarket$Rows" "used" "I", Cond.fieldLink RX7 242 "BidMarket$Rows" "left" "[I", Cond.fieldLink RX7 245 "BidMarket$Rows" "right" "[I", Cond.methodLink RX7 227 yX2_become, Cond.instanceMethod yX2_become, Cond.selects RX2 yX2_become yX2_become, Cond.initialized RX2, Cond.code yX2_become cX2_become 3 none, Cond.fieldLink RX2 26 "BidMarket$Market" "n" "I", Cond.fieldLink RX2 30 "BidMarket$Market" "pace" "I", Cond.fieldLink RX2 11 "BidMarket$Market" "worths" "[[I", Cond.methodLink RX2 43 arraycopyName, Cond.native arraycopyName, Cond.static arraycopyName, Cond.initialized "java/lang/System", Cond.fieldLink RX2 16 "BidMarket$Market" "thingOf" "[I", Cond.fieldLink RX2 20 "BidMarket$Market" "personOf" "[I", Cond.fieldLink RX2 23 "BidMarket$Market" "prices" "[I", Cond.methodLink RX7 248 yX7_goOn, Cond.static yX7_goOn]
def wsX7_ends_r2 : List Cond := [Cond.initialized RX7, Cond.code yX7_goOn cX7_goOn 3 none, Cond.fieldLink RX7 102 "BidMarket$Market" "pace" "I", Cond.methodLink RX7 174 yX2_letNextBid, Cond.instanceMethod yX2_letNextBid, Cond.selects RX2 yX2_letNextBid yX2_letNextBid, Cond.code yX2_letNextBid cX2_letNextBid 4 (some .int), Cond.methodLink RX2 70 yX2_nextBidder, Cond.instanceMethod yX2_nextBidder, Cond.selects RX2 yX2_nextBidder yX2_nextBidder, Cond.code yX2_nextBidder cX2_nextBidder 2 (some .int), Cond.methodLink RX2 66 yX2_hasBest, Cond.instanceMethod yX2_hasBest, Cond.selects RX2 yX2_hasBest yX2_hasBest, Cond.code yX2_hasBest cX2_hasBest 3 (some .boolean), Cond.methodLink RX2 59 yX2_allows, Cond.instanceMethod yX2_allows, Cond.selects RX2 yX2_allows yX2_allows, Cond.code yX2_allows cX2_allows 3 (some .boolean), Cond.methodLink RX2 74 yX2_bestOf, Cond.instanceMethod yX2_bestOf, Cond.selects RX2 yX2_bestOf yX2_bestOf, Cond.code yX2_bestOf cX2_bestOf 2 (some .int), Cond.methodLink RX2 55 yX2_bestBut]
def wsX7_ends_r3 : List Cond := [Cond.instanceMethod yX2_bestBut, Cond.selects RX2 yX2_bestBut yX2_bestBut, Cond.code yX2_bestBut cX2_bestBut 7 (some .int), Cond.methodLink RX2 63 yX2_gainOf, Cond.instanceMethod yX2_gainOf, Cond.selects RX2 yX2_gainOf yX2_gainOf, Cond.code yX2_gainOf cX2_gainOf 3 (some .int), Cond.methodLink RX2 78 yX2_offerFor, Cond.instanceMethod yX2_offerFor, Cond.selects RX2 yX2_offerFor yX2_offerFor, Cond.code yX2_offerFor cX2_offerFor 5 (some .int), Cond.methodLink RX7 87 yX2_has, Cond.instanceMethod yX2_has, Cond.selects RX2 yX2_has yX2_has, Cond.code yX2_has cX2_has 2 (some .boolean), Cond.methodLink RX7 192 yX2_giveUp, Cond.instanceMethod yX2_giveUp, Cond.selects RX2 yX2_giveUp yX2_giveUp, Cond.code yX2_giveUp cX2_giveUp 3 none, Cond.methodLink RX7 195 yX2_worthTogether, Cond.instanceMethod yX2_worthTogether, Cond.selects RX2 yX2_worthTogether yX2_worthTogether, Cond.code yX2_worthTogether cX2_worthTogether 3 (some .int), Cond.methodLink RX7 215 yX2_pricesTogether]
def wsX7_ends_r4 : List Cond := [Cond.instanceMethod yX2_pricesTogether, Cond.selects RX2 yX2_pricesTogether yX2_pricesTogether, Cond.code yX2_pricesTogether cX2_pricesTogether 3 (some .int)]
def wsX7_ends : List Cond := .code yX7_ends cX7_ends 3 (some .int) :: ((wsX7_ends_r1 ++ (wsX7_ends_r2 ++ (wsX7_ends_r3 ++ wsX7_ends_r4))) ++ wsX70 ++ wsX10 ++ wsX40 ++ wsX20)
def wsX7_book : List Cond := .code yX7_book cX7_book 3 (some .int) :: ([.fieldLink RX7 12 "BidMarket" "held" "LBidMarket$Holdings;", .fieldLink RX7 84 "BidMarket$Holdings" "book" "LBidMarket$Rows;", .fieldLink RX7 60 "BidMarket$Holdings" "market" "LBidMarket$Market;", .methodLink RX7 75 yX4_empty, .instanceMethod yX4_empty, .selects RX4 yX4_empty yX4_empty, .initialized RX4, .code yX4_empty cX4_empty 1 (some .int), .fieldLink RX4 9 "BidMarket$Rows" "used" "I", .methodLink RX7 87 yX2_has, .instanceMethod yX2_has, .selects RX2 yX2_has yX2_has, .initialized RX2, .code yX2_has cX2_has 2 (some .boolean), .fieldLink RX2 26 "BidMarket$Market" "n" "I", .methodLink RX7 225 yX4_append, .instanceMethod yX4_append, .selects RX4 yX4_append yX4_append, .code yX4_append cX4_append 3 (some .int), .fieldLink RX4 15 "BidMarket$Rows" "left" "[I", .fieldLink RX4 19 "BidMarket$Rows" "right" "[I"] ++ wsX70 ++ wsX10 ++ wsX40 ++ wsX20)
def wsX7_looked : List Cond := .code yX7_looked cX7_looked 3 (some .int) :: ([.fieldLink RX7 12 "BidMarket" "held" "LBidMarket$Holdings;", .fieldLink RX7 84 "BidMarket$Holdings" "book" "LBidMarket$Rows;", .fieldLink RX7 239 "BidMarket$Rows" "used" "I", .fieldLink RX7 242 "BidMarket$Rows" "left" "[I", .fieldLink RX7 60 "BidMarket$Holdings" "market" "LBidMarket$Market;", .fieldLink RX7 165 "BidMarket$Market" "prices" "[I", .fieldLink RX7 245 "BidMarket$Rows" "right" "[I", .methodLink RX7 87 yX2_has, .instanceMethod yX2_has, .selects RX2 yX2_has yX2_has, .initialized RX2, .code yX2_has cX2_has 2 (some .boolean), .fieldLink RX2 26 "BidMarket$Market" "n" "I"] ++ wsX70 ++ wsX10 ++ wsX40 ++ wsX20)
def wsX7_isTape : List Cond := .code yX7_isTape cX7_isTape 1 (some .boolean) :: ([])
def wsX7_judge : List Cond := .code yX7_judge cX7_judge 5 (some .int) :: ([.fieldLink RX7 51 "BidMarket" "tapes" "[LBidMarket$Tape;", .fieldLink RX7 255 "BidMarket$Tape" "sort" "I", .fieldLink RX7 12 "BidMarket" "held" "LBidMarket$Holdings;", .fieldLink RX7 60 "BidMarket$Holdings" "market" "LBidMarket$Market;", .fieldLink RX7 63 "BidMarket$Market" "n" "I", .fieldLink RX7 258 "BidMarket$Tape" "length" "I", .fieldLink RX7 261 "BidMarket$Tape" "items" "[J", .fieldLink RX7 165 "BidMarket$Market" "prices" "[I", .methodLink RX7 252 yX7_isTape, .static yX7_isTape, .initialized RX7, .code yX7_isTape cX7_isTape 1 (some .boolean)] ++ wsX70 ++ wsX50 ++ wsX10 ++ wsX20)
def wsX7_image_r1 : List Cond := [Cond.fieldLink RX7 18 "BidMarket" "kept" "LBidMarket$Holdings;", Cond.fieldLink RX7 12 "BidMarket" "held" "LBidMarket$Holdings;", Cond.fieldLink RX7 55 "BidMarket" "imaged" "Z", Cond.fieldLink RX7 60 "BidMarket$Holdings" "market" "LBidMarket$Market;", Cond.fieldLink RX7 63 "BidMarket$Market" "n" "I", Cond.methodLink RX7 265 yX1_become, Cond.instanceMethod yX1_become, Cond.selects RX1 yX1_become yX1_become, Cond.initialized RX1, Cond.code yX1_become cX1_become 2 none, Cond.fieldLink RX1 10 "BidMarket$Holdings" "market" "LBidMarket$Market;", Cond.fieldLink RX1 21 "BidMarket$Holdings" "seen" "LBidMarket$Rows;", Cond.fieldLink RX1 25 "BidMarket$Holdings" "plan" "LBidMarket$Rows;", Cond.fieldLink RX1 28 "BidMarket$Holdings" "book" "LBidMarket$Rows;", Cond.methodLink RX1 31 yX2_become, Cond.instanceMethod yX2_become, Cond.selects RX2 yX2_become yX2_become, Cond.initialized RX2, Cond.code yX2_become cX2_become 3 none, Cond.fieldLink RX2 26 "BidMarket$Market" "n" "I", Cond.fieldLink RX2 30 "BidMarket$Market" "pace" "I", Cond.fieldLink RX2 11 "BidMarket$Market" "worths" "[[I", Cond.methodLink RX2 43 arraycopyName, Cond.native arraycopyName]
def wsX7_image_r2 : List Cond := [Cond.static arraycopyName, Cond.initialized "java/lang/System", Cond.fieldLink RX2 16 "BidMarket$Market" "thingOf" "[I", Cond.fieldLink RX2 20 "BidMarket$Market" "personOf" "[I", Cond.fieldLink RX2 23 "BidMarket$Market" "prices" "[I", Cond.methodLink RX1 35 yX4_become, Cond.instanceMethod yX4_become, Cond.selects RX4 yX4_become yX4_become, Cond.initialized RX4, Cond.code yX4_become cX4_become 2 none, Cond.fieldLink RX4 9 "BidMarket$Rows" "used" "I", Cond.fieldLink RX4 15 "BidMarket$Rows" "left" "[I", Cond.methodLink RX4 22 Lib.Math.min.name, Cond.static Lib.Math.min.name, Cond.initialized "java/lang/Math", Cond.code Lib.Math.min.name Lib.Math.min.code 2 (some .int), Cond.methodLink RX4 28 arraycopyName, Cond.fieldLink RX4 19 "BidMarket$Rows" "right" "[I"]
def wsX7_image : List Cond := .code yX7_image cX7_image 1 (some .int) :: ((wsX7_image_r1 ++ wsX7_image_r2) ++ wsX70 ++ wsX10 ++ wsX20 ++ wsX40)
def wsX7_undo_r1 : List Cond := [Cond.fieldLink RX7 55 "BidMarket" "imaged" "Z", Cond.fieldLink RX7 12 "BidMarket" "held" "LBidMarket$Holdings;", Cond.fieldLink RX7 18 "BidMarket" "kept" "LBidMarket$Holdings;", Cond.fieldLink RX7 60 "BidMarket$Holdings" "market" "LBidMarket$Market;", Cond.fieldLink RX7 63 "BidMarket$Market" "n" "I", Cond.methodLink RX7 265 yX1_become, Cond.instanceMethod yX1_become, Cond.selects RX1 yX1_become yX1_become, Cond.initialized RX1, Cond.code yX1_become cX1_become 2 none, Cond.fieldLink RX1 10 "BidMarket$Holdings" "market" "LBidMarket$Market;", Cond.fieldLink RX1 21 "BidMarket$Holdings" "seen" "LBidMarket$Rows;", Cond.fieldLink RX1 25 "BidMarket$Holdings" "plan" "LBidMarket$Rows;", Cond.fieldLink RX1 28 "BidMarket$Holdings" "book" "LBidMarket$Rows;", Cond.methodLink RX1 31 yX2_become, Cond.instanceMethod yX2_become, Cond.selects RX2 yX2_become yX2_become, Cond.initialized RX2, Cond.code yX2_become cX2_become 3 none, Cond.fieldLink RX2 26 "BidMarket$Market" "n" "I", Cond.fieldLink RX2 30 "BidMarket$Market" "pace" "I", Cond.fieldLink RX2 11 "BidMarket$Market" "worths" "[[I", Cond.methodLink RX2 43 arraycopyName, Cond.native arraycopyName]
def wsX7_undo_r2 : List Cond := [Cond.static arraycopyName, Cond.initialized "java/lang/System", Cond.fieldLink RX2 16 "BidMarket$Market" "thingOf" "[I", Cond.fieldLink RX2 20 "BidMarket$Market" "personOf" "[I", Cond.fieldLink RX2 23 "BidMarket$Market" "prices" "[I", Cond.methodLink RX1 35 yX4_become, Cond.instanceMethod yX4_become, Cond.selects RX4 yX4_become yX4_become, Cond.initialized RX4, Cond.code yX4_become cX4_become 2 none, Cond.fieldLink RX4 9 "BidMarket$Rows" "used" "I", Cond.fieldLink RX4 15 "BidMarket$Rows" "left" "[I", Cond.methodLink RX4 22 Lib.Math.min.name, Cond.static Lib.Math.min.name, Cond.initialized "java/lang/Math", Cond.code Lib.Math.min.name Lib.Math.min.code 2 (some .int), Cond.methodLink RX4 28 arraycopyName, Cond.fieldLink RX4 19 "BidMarket$Rows" "right" "[I"]
def wsX7_undo : List Cond := .code yX7_undo cX7_undo 1 (some .int) :: ((wsX7_undo_r1 ++ wsX7_undo_r2) ++ wsX70 ++ wsX10 ++ wsX20 ++ wsX40)
def wsX7_count_r1 : List Cond := [Cond.fieldLink RX7 12 "BidMarket" "held" "LBidMarket$Holdings;", Cond.fieldLink RX7 60 "BidMarket$Holdings" "market" "LBidMarket$Market;", Cond.fieldLink RX7 63 "BidMarket$Market" "n" "I", Cond.fieldLink RX7 71 "BidMarket$Holdings" "seen" "LBidMarket$Rows;", Cond.fieldLink RX7 239 "BidMarket$Rows" "used" "I", Cond.fieldLink RX7 81 "BidMarket$Holdings" "plan" "LBidMarket$Rows;", Cond.fieldLink RX7 84 "BidMarket$Holdings" "book" "LBidMarket$Rows;", Cond.fieldLink RX7 38 "BidMarket" "text" "LBidMarket$Text;", Cond.fieldLink RX7 268 "BidMarket$Text" "length" "I", Cond.methodLink RX7 269 yX2_forbiddenCounted, Cond.instanceMethod yX2_forbiddenCounted, Cond.selects RX2 yX2_forbiddenCounted yX2_forbiddenCounted, Cond.initialized RX2, Cond.code yX2_forbiddenCounted cX2_forbiddenCounted 3 (some .int), Cond.fieldLink RX2 26 "BidMarket$Market" "n" "I", Cond.methodLink RX2 94 yX2_allowedTo, Cond.instanceMethod yX2_allowedTo, Cond.selects RX2 yX2_allowedTo yX2_allowedTo, Cond.code yX2_allowedTo cX2_allowedTo 4 (some .int), Cond.methodLink RX2 59 yX2_allows, Cond.instanceMethod yX2_allows, Cond.selects RX2 yX2_allows yX2_allows, Cond.code yX2_allows cX2_allows 3 (some .boolean), Cond.fieldLink RX2 11 "BidMarket$Market" "worths" "[[I"]
def wsX7_count_r2 : List Cond := [Cond.methodLink RX2 97 yJ6_bitCount_0f7a4, Cond.static yJ6_bitCount_0f7a4, Cond.initialized RJ6, Cond.code yJ6_bitCount_0f7a4 cJ6_bitCount_0f7a4 1 (some .int), Cond.constant RJ6 265 (1431655765), Cond.constant RJ6 266 (858993459), Cond.constant RJ6 267 (252645135)]
def wsX7_count : List Cond := .code yX7_count cX7_count 2 (some .int) :: ((wsX7_count_r1 ++ wsX7_count_r2) ++ wsX70 ++ wsX10 ++ wsX20 ++ wsX40 ++ wsX60)
def wsX7_tape : List Cond := .code yX7_tape cX7_tape 4 (some .int) :: ([.fieldLink RX7 51 "BidMarket" "tapes" "[LBidMarket$Tape;", .methodLink RX7 252 yX7_isTape, .static yX7_isTape, .initialized RX7, .code yX7_isTape cX7_isTape 1 (some .boolean), .methodLink RX7 272 yX5_becomeRow, .instanceMethod yX5_becomeRow, .selects RX5 yX5_becomeRow yX5_becomeRow, .initialized RX5, .code yX5_becomeRow cX5_becomeRow 4 none, .fieldLink RX5 13 "BidMarket$Tape" "sort" "I", .fieldLink RX5 17 "BidMarket$Tape" "length" "I", .fieldLink RX5 9 "BidMarket$Tape" "items" "[J"] ++ wsX70 ++ wsX50)
def wsX7_item : List Cond := .code yX7_item cX7_item 5 (some .int) :: ([.fieldLink RX7 51 "BidMarket" "tapes" "[LBidMarket$Tape;", .fieldLink RX7 255 "BidMarket$Tape" "sort" "I", .fieldLink RX7 261 "BidMarket$Tape" "items" "[J", .methodLink RX7 252 yX7_isTape, .static yX7_isTape, .initialized RX7, .code yX7_isTape cX7_isTape 1 (some .boolean), .methodLink RX7 276 yX5_hasPlace, .instanceMethod yX5_hasPlace, .selects RX5 yX5_hasPlace yX5_hasPlace, .initialized RX5, .code yX5_hasPlace cX5_hasPlace 2 (some .boolean), .fieldLink RX5 17 "BidMarket$Tape" "length" "I", .methodLink RX7 279 yX5_asItem, .instanceMethod yX5_asItem, .selects RX5 yX5_asItem yX5_asItem, .code yX5_asItem cX5_asItem 3 (some .long), .fieldLink RX5 13 "BidMarket$Tape" "sort" "I"] ++ wsX70 ++ wsX50)
def wsX7_peek : List Cond := .code yX7_peek cX7_peek 3 (some .long) :: ([.fieldLink RX7 51 "BidMarket" "tapes" "[LBidMarket$Tape;", .constantLong RX7 136 (-9223372036854775808), .fieldLink RX7 261 "BidMarket$Tape" "items" "[J", .methodLink RX7 252 yX7_isTape, .static yX7_isTape, .initialized RX7, .code yX7_isTape cX7_isTape 1 (some .boolean), .methodLink RX7 276 yX5_hasPlace, .instanceMethod yX5_hasPlace, .selects RX5 yX5_hasPlace yX5_hasPlace, .initialized RX5, .code yX5_hasPlace cX5_hasPlace 2 (some .boolean), .fieldLink RX5 17 "BidMarket$Tape" "length" "I"] ++ wsX70 ++ wsX50)
def wsX7_shift : List Cond := .code yX7_shift cX7_shift 8 (some .int) :: ([.fieldLink RX7 51 "BidMarket" "tapes" "[LBidMarket$Tape;", .fieldLink RX7 255 "BidMarket$Tape" "sort" "I", .fieldLink RX7 261 "BidMarket$Tape" "items" "[J", .methodLink RX7 286 arraycopyName, .native arraycopyName, .static arraycopyName, .initialized "java/lang/System", .methodLink RX7 252 yX7_isTape, .static yX7_isTape, .initialized RX7, .code yX7_isTape cX7_isTape 1 (some .boolean), .methodLink RX7 283 yX5_hasRun, .instanceMethod yX5_hasRun, .selects RX5 yX5_hasRun yX5_hasRun, .initialized RX5, .code yX5_hasRun cX5_hasRun 3 (some .boolean), .fieldLink RX5 17 "BidMarket$Tape" "length" "I"] ++ wsX70 ++ wsX50)
def wsX8_empties : List Cond := .code yX8_empties cX8_empties 3 (some .int) :: ([.fieldLink RX8 22 "BidMarketModel" "has" "[I", .fieldLink RX8 9 "BidMarketModel" "n" "I", .fieldLink RX8 25 "BidMarketModel" "owner" "[I"] ++ wsX80)
def wsX8_init_r1 : List Cond := [Cond.methodLink RX8 3 objectInit, Cond.instanceMethod objectInit, Cond.code objectInit ⟨#[0xb1]⟩ 1 none, Cond.fieldLink RX8 9 "BidMarketModel" "n" "I", Cond.fieldLink RX8 15 "BidMarketModel" "step" "I", Cond.arrayClass .int, Cond.fieldLink RX8 18 "BidMarketModel" "worth" "[I", Cond.fieldLink RX8 22 "BidMarketModel" "has" "[I", Cond.fieldLink RX8 25 "BidMarketModel" "owner" "[I", Cond.fieldLink RX8 28 "BidMarketModel" "price" "[I", Cond.fieldLink RX8 31 "BidMarketModel" "seenWho" "[I", Cond.fieldLink RX8 34 "BidMarketModel" "seenWhat" "[I", Cond.fieldLink RX8 37 "BidMarketModel" "planWhat" "[I", Cond.fieldLink RX8 40 "BidMarketModel" "planN" "[I", Cond.fieldLink RX8 43 "BidMarketModel" "bookThing" "[I", Cond.fieldLink RX8 46 "BidMarketModel" "bookPrice" "[I", Cond.fieldLink RX8 49 "BidMarketModel" "wrong" "[I", Cond.fieldLink RX8 52 "BidMarketModel" "text" "[I", Cond.fieldLink RX8 55 "BidMarketModel" "imaged" "[I", Cond.fieldLink RX8 58 "BidMarketModel" "mindHas" "[I", Cond.fieldLink RX8 61 "BidMarketModel" "mindOwner" "[I", Cond.fieldLink RX8 64 "BidMarketModel" "mindPrice" "[I", Cond.fieldLink RX8 67 "BidMarketModel" "mindWrong" "[I", Cond.fieldLink RX8 70 "BidMarketModel" "mostBy" "[I"]
def wsX8_init_r2 : List Cond := [Cond.classLink RX8 73 "[[J", Cond.arrayClass .long, Cond.fieldLink RX8 75 "BidMarketModel" "tapes" "[[J", Cond.fieldLink RX8 78 "BidMarketModel" "tapeSort" "[I", Cond.fieldLink RX8 81 "BidMarketModel" "tapeSize" "[I", Cond.fieldLink RX8 84 "BidMarketModel" "moved" "[J", Cond.methodLink RX8 88 yX8_empties, Cond.instanceMethod yX8_empties, Cond.selects RX8 yX8_empties yX8_empties, Cond.initialized RX8, Cond.code yX8_empties cX8_empties 3 (some .int)]
def wsX8_init : List Cond := .code yX8_init cX8_init 1 none :: ((wsX8_init_r1 ++ wsX8_init_r2) ++ wsX80)
def wsX8_in : List Cond := .code yX8_in cX8_in 6 (some .boolean) :: ([])
def wsX8_isOne : List Cond := .code yX8_isOne cX8_isOne 2 (some .boolean) :: ([.fieldLink RX8 9 "BidMarketModel" "n" "I", .methodLink RX8 92 yX8_in, .static yX8_in, .initialized RX8, .code yX8_in cX8_in 6 (some .boolean)] ++ wsX80)
def wsX8_isPair : List Cond := .code yX8_isPair cX8_isPair 3 (some .boolean) :: ([.methodLink RX8 96 yX8_isOne, .instanceMethod yX8_isOne, .selects RX8 yX8_isOne yX8_isOne, .initialized RX8, .code yX8_isOne cX8_isOne 2 (some .boolean), .fieldLink RX8 9 "BidMarketModel" "n" "I", .methodLink RX8 92 yX8_in, .static yX8_in, .code yX8_in cX8_in 6 (some .boolean)] ++ wsX80)
def wsX8_free : List Cond := .code yX8_free cX8_free 2 none :: ([.fieldLink RX8 28 "BidMarketModel" "price" "[I"] ++ wsX80)
def wsX8_passes : List Cond := .code yX8_passes cX8_passes 3 (some .int) :: ([.fieldLink RX8 100 "BidMarketModel" "keeps" "Z", .fieldLink RX8 55 "BidMarketModel" "imaged" "[I", .fieldLink RX8 104 "BidMarketModel" "spot" "I"] ++ wsX80)
def wsX8_passesRow : List Cond := .code yX8_passesRow cX8_passesRow 3 none :: ([.methodLink RX8 107 yX8_passes, .instanceMethod yX8_passes, .selects RX8 yX8_passes yX8_passes, .initialized RX8, .code yX8_passes cX8_passes 3 (some .int), .fieldLink RX8 100 "BidMarketModel" "keeps" "Z", .fieldLink RX8 55 "BidMarketModel" "imaged" "[I", .fieldLink RX8 104 "BidMarketModel" "spot" "I"] ++ wsX80)
def wsX8_passesAll_r1 : List Cond := [Cond.fieldLink RX8 100 "BidMarketModel" "keeps" "Z", Cond.fieldLink RX8 104 "BidMarketModel" "spot" "I", Cond.fieldLink RX8 9 "BidMarketModel" "n" "I", Cond.fieldLink RX8 15 "BidMarketModel" "step" "I", Cond.fieldLink RX8 111 "BidMarketModel" "seen" "I", Cond.fieldLink RX8 114 "BidMarketModel" "plans" "I", Cond.fieldLink RX8 117 "BidMarketModel" "books" "I", Cond.fieldLink RX8 18 "BidMarketModel" "worth" "[I", Cond.fieldLink RX8 22 "BidMarketModel" "has" "[I", Cond.fieldLink RX8 25 "BidMarketModel" "owner" "[I", Cond.fieldLink RX8 28 "BidMarketModel" "price" "[I", Cond.fieldLink RX8 31 "BidMarketModel" "seenWho" "[I", Cond.fieldLink RX8 34 "BidMarketModel" "seenWhat" "[I", Cond.fieldLink RX8 37 "BidMarketModel" "planWhat" "[I", Cond.fieldLink RX8 40 "BidMarketModel" "planN" "[I", Cond.fieldLink RX8 43 "BidMarketModel" "bookThing" "[I", Cond.fieldLink RX8 46 "BidMarketModel" "bookPrice" "[I", Cond.methodLink RX8 107 yX8_passes, Cond.instanceMethod yX8_passes, Cond.selects RX8 yX8_passes yX8_passes, Cond.initialized RX8, Cond.code yX8_passes cX8_passes 3 (some .int), Cond.fieldLink RX8 55 "BidMarketModel" "imaged" "[I", Cond.methodLink RX8 120 yX8_passesRow]
def wsX8_passesAll_r2 : List Cond := [Cond.instanceMethod yX8_passesRow, Cond.selects RX8 yX8_passesRow yX8_passesRow, Cond.code yX8_passesRow cX8_passesRow 3 none]
def wsX8_passesAll : List Cond := .code yX8_passesAll cX8_passesAll 2 (some .int) :: ((wsX8_passesAll_r1 ++ wsX8_passesAll_r2) ++ wsX80)
def wsX8_image_r1 : List Cond := [Cond.fieldLink RX8 124 "BidMarketModel" "isKept" "Z", Cond.methodLink RX8 127 yX8_passesAll, Cond.instanceMethod yX8_passesAll, Cond.selects RX8 yX8_passesAll yX8_passesAll, Cond.initialized RX8, Cond.code yX8_passesAll cX8_passesAll 2 (some .int), Cond.fieldLink RX8 100 "BidMarketModel" "keeps" "Z", Cond.fieldLink RX8 104 "BidMarketModel" "spot" "I", Cond.fieldLink RX8 9 "BidMarketModel" "n" "I", Cond.fieldLink RX8 15 "BidMarketModel" "step" "I", Cond.fieldLink RX8 111 "BidMarketModel" "seen" "I", Cond.fieldLink RX8 114 "BidMarketModel" "plans" "I", Cond.fieldLink RX8 117 "BidMarketModel" "books" "I", Cond.fieldLink RX8 18 "BidMarketModel" "worth" "[I", Cond.fieldLink RX8 22 "BidMarketModel" "has" "[I", Cond.fieldLink RX8 25 "BidMarketModel" "owner" "[I", Cond.fieldLink RX8 28 "BidMarketModel" "price" "[I", Cond.fieldLink RX8 31 "BidMarketModel" "seenWho" "[I", Cond.fieldLink RX8 34 "BidMarketModel" "seenWhat" "[I", Cond.fieldLink RX8 37 "BidMarketModel" "planWhat" "[I", Cond.fieldLink RX8 40 "BidMarketModel" "planN" "[I", Cond.fieldLink RX8 43 "BidMarketModel" "bookThing" "[I", Cond.fieldLink RX8 46 "BidMarketModel" "bookPrice" "[I", Cond.methodLink RX8 107 yX8_passes]
def wsX8_image_r2 : List Cond := [Cond.instanceMethod yX8_passes, Cond.selects RX8 yX8_passes yX8_passes, Cond.code yX8_passes cX8_passes 3 (some .int), Cond.fieldLink RX8 55 "BidMarketModel" "imaged" "[I", Cond.methodLink RX8 120 yX8_passesRow, Cond.instanceMethod yX8_passesRow, Cond.selects RX8 yX8_passesRow yX8_passesRow, Cond.code yX8_passesRow cX8_passesRow 3 none]
def wsX8_image : List Cond := .code yX8_image cX8_image 1 (some .int) :: ((wsX8_image_r1 ++ wsX8_image_r2) ++ wsX80)
def wsX8_undo_r1 : List Cond := [Cond.fieldLink RX8 124 "BidMarketModel" "isKept" "Z", Cond.methodLink RX8 127 yX8_passesAll, Cond.instanceMethod yX8_passesAll, Cond.selects RX8 yX8_passesAll yX8_passesAll, Cond.initialized RX8, Cond.code yX8_passesAll cX8_passesAll 2 (some .int), Cond.fieldLink RX8 100 "BidMarketModel" "keeps" "Z", Cond.fieldLink RX8 104 "BidMarketModel" "spot" "I", Cond.fieldLink RX8 9 "BidMarketModel" "n" "I", Cond.fieldLink RX8 15 "BidMarketModel" "step" "I", Cond.fieldLink RX8 111 "BidMarketModel" "seen" "I", Cond.fieldLink RX8 114 "BidMarketModel" "plans" "I", Cond.fieldLink RX8 117 "BidMarketModel" "books" "I", Cond.fieldLink RX8 18 "BidMarketModel" "worth" "[I", Cond.fieldLink RX8 22 "BidMarketModel" "has" "[I", Cond.fieldLink RX8 25 "BidMarketModel" "owner" "[I", Cond.fieldLink RX8 28 "BidMarketModel" "price" "[I", Cond.fieldLink RX8 31 "BidMarketModel" "seenWho" "[I", Cond.fieldLink RX8 34 "BidMarketModel" "seenWhat" "[I", Cond.fieldLink RX8 37 "BidMarketModel" "planWhat" "[I", Cond.fieldLink RX8 40 "BidMarketModel" "planN" "[I", Cond.fieldLink RX8 43 "BidMarketModel" "bookThing" "[I", Cond.fieldLink RX8 46 "BidMarketModel" "bookPrice" "[I", Cond.methodLink RX8 107 yX8_passes]
def wsX8_undo_r2 : List Cond := [Cond.instanceMethod yX8_passes, Cond.selects RX8 yX8_passes yX8_passes, Cond.code yX8_passes cX8_passes 3 (some .int), Cond.fieldLink RX8 55 "BidMarketModel" "imaged" "[I", Cond.methodLink RX8 120 yX8_passesRow, Cond.instanceMethod yX8_passesRow, Cond.selects RX8 yX8_passesRow yX8_passesRow, Cond.code yX8_passesRow cX8_passesRow 3 none]
def wsX8_undo : List Cond := .code yX8_undo cX8_undo 1 (some .int) :: ((wsX8_undo_r1 ++ wsX8_undo_r2) ++ wsX80)
def wsX8_lays : List Cond := .code yX8_lays cX8_lays 3 none :: ([])
def wsX8_minds : List Cond := .code yX8_minds cX8_minds 1 none :: ([.fieldLink RX8 22 "BidMarketModel" "has" "[I", .fieldLink RX8 58 "BidMarketModel" "mindHas" "[I", .fieldLink RX8 25 "BidMarketModel" "owner" "[I", .fieldLink RX8 61 "BidMarketModel" "mindOwner" "[I", .fieldLink RX8 28 "BidMarketModel" "price" "[I", .fieldLink RX8 64 "BidMarketModel" "mindPrice" "[I", .fieldLink RX8 49 "BidMarketModel" "wrong" "[I", .fieldLink RX8 67 "BidMarketModel" "mindWrong" "[I", .fieldLink RX8 15 "BidMarketModel" "step" "I", .fieldLink RX8 135 "BidMarketModel" "mindStep" "I", .methodLink RX8 131 yX8_lays, .static yX8_lays, .initialized RX8, .code yX8_lays cX8_lays 3 none] ++ wsX80)
def wsX8_forgets : List Cond := .code yX8_forgets cX8_forgets 1 none :: ([.fieldLink RX8 58 "BidMarketModel" "mindHas" "[I", .fieldLink RX8 22 "BidMarketModel" "has" "[I", .fieldLink RX8 61 "BidMarketModel" "mindOwner" "[I", .fieldLink RX8 25 "BidMarketModel" "owner" "[I", .fieldLink RX8 64 "BidMarketModel" "mindPrice" "[I", .fieldLink RX8 28 "BidMarketModel" "price" "[I", .fieldLink RX8 67 "BidMarketModel" "mindWrong" "[I", .fieldLink RX8 49 "BidMarketModel" "wrong" "[I", .fieldLink RX8 135 "BidMarketModel" "mindStep" "I", .fieldLink RX8 15 "BidMarketModel" "step" "I", .methodLink RX8 131 yX8_lays, .static yX8_lays, .initialized RX8, .code yX8_lays cX8_lays 3 none] ++ wsX80)
def wsX8_may : List Cond := .code yX8_may cX8_may 3 (some .boolean) :: ([.fieldLink RX8 18 "BidMarketModel" "worth" "[I"] ++ wsX80)
def wsX8_gain : List Cond := .code yX8_gain cX8_gain 3 (some .int) :: ([.fieldLink RX8 9 "BidMarketModel" "n" "I", .fieldLink RX8 18 "BidMarketModel" "worth" "[I", .fieldLink RX8 28 "BidMarketModel" "price" "[I"] ++ wsX80)
def wsX8_best : List Cond := .code yX8_best cX8_best 4 (some .int) :: ([.fieldLink RX8 9 "BidMarketModel" "n" "I", .methodLink RX8 138 yX8_may, .instanceMethod yX8_may, .selects RX8 yX8_may yX8_may, .initialized RX8, .code yX8_may cX8_may 3 (some .boolean), .fieldLink RX8 18 "BidMarketModel" "worth" "[I", .methodLink RX8 142 yX8_gain, .instanceMethod yX8_gain, .selects RX8 yX8_gain yX8_gain, .code yX8_gain cX8_gain 3 (some .int), .fieldLink RX8 28 "BidMarketModel" "price" "[I"] ++ wsX80)
def wsX8_second : List Cond := .code yX8_second cX8_second 5 (some .int) :: ([.fieldLink RX8 9 "BidMarketModel" "n" "I", .methodLink RX8 138 yX8_may, .instanceMethod yX8_may, .selects RX8 yX8_may yX8_may, .initialized RX8, .code yX8_may cX8_may 3 (some .boolean), .fieldLink RX8 18 "BidMarketModel" "worth" "[I", .methodLink RX8 142 yX8_gain, .instanceMethod yX8_gain, .selects RX8 yX8_gain yX8_gain, .code yX8_gain cX8_gain 3 (some .int), .fieldLink RX8 28 "BidMarketModel" "price" "[I"] ++ wsX80)
def wsX8_offer : List Cond := .code yX8_offer cX8_offer 3 (some .int) :: ([.fieldLink RX8 28 "BidMarketModel" "price" "[I", .fieldLink RX8 15 "BidMarketModel" "step" "I", .methodLink RX8 146 yX8_best, .instanceMethod yX8_best, .selects RX8 yX8_best yX8_best, .initialized RX8, .code yX8_best cX8_best 4 (some .int), .fieldLink RX8 9 "BidMarketModel" "n" "I", .methodLink RX8 138 yX8_may, .instanceMethod yX8_may, .selects RX8 yX8_may yX8_may, .code yX8_may cX8_may 3 (some .boolean), .fieldLink RX8 18 "BidMarketModel" "worth" "[I", .methodLink RX8 142 yX8_gain, .instanceMethod yX8_gain, .selects RX8 yX8_gain yX8_gain, .code yX8_gain cX8_gain 3 (some .int), .methodLink RX8 149 yX8_second, .instanceMethod yX8_second, .selects RX8 yX8_second yX8_second, .code yX8_second cX8_second 5 (some .int)] ++ wsX80)
def wsX8_next : List Cond := .code yX8_next cX8_next 2 (some .int) :: ([.fieldLink RX8 9 "BidMarketModel" "n" "I", .fieldLink RX8 22 "BidMarketModel" "has" "[I", .methodLink RX8 146 yX8_best, .instanceMethod yX8_best, .selects RX8 yX8_best yX8_best, .initialized RX8, .code yX8_best cX8_best 4 (some .int), .methodLink RX8 138 yX8_may, .instanceMethod yX8_may, .selects RX8 yX8_may yX8_may, .code yX8_may cX8_may 3 (some .boolean), .fieldLink RX8 18 "BidMarketModel" "worth" "[I", .methodLink RX8 142 yX8_gain, .instanceMethod yX8_gain, .selects RX8 yX8_gain yX8_gain, .code yX8_gain cX8_gain 3 (some .int), .fieldLink RX8 28 "BidMarketModel" "price" "[I"] ++ wsX80)
def wsX8_loses : List Cond := .code yX8_loses cX8_loses 2 none :: ([.fieldLink RX8 22 "BidMarketModel" "has" "[I", .fieldLink RX8 25 "BidMarketModel" "owner" "[I"] ++ wsX80)
def wsX8_bids_r1 : List Cond := [Cond.fieldLink RX8 28 "BidMarketModel" "price" "[I", Cond.fieldLink RX8 25 "BidMarketModel" "owner" "[I", Cond.fieldLink RX8 22 "BidMarketModel" "has" "[I", Cond.methodLink RX8 146 yX8_best, Cond.instanceMethod yX8_best, Cond.selects RX8 yX8_best yX8_best, Cond.initialized RX8, Cond.code yX8_best cX8_best 4 (some .int), Cond.fieldLink RX8 9 "BidMarketModel" "n" "I", Cond.methodLink RX8 138 yX8_may, Cond.instanceMethod yX8_may, Cond.selects RX8 yX8_may yX8_may, Cond.code yX8_may cX8_may 3 (some .boolean), Cond.fieldLink RX8 18 "BidMarketModel" "worth" "[I", Cond.methodLink RX8 142 yX8_gain, Cond.instanceMethod yX8_gain, Cond.selects RX8 yX8_gain yX8_gain, Cond.code yX8_gain cX8_gain 3 (some .int), Cond.methodLink RX8 152 yX8_offer, Cond.instanceMethod yX8_offer, Cond.selects RX8 yX8_offer yX8_offer, Cond.code yX8_offer cX8_offer 3 (some .int), Cond.fieldLink RX8 15 "BidMarketModel" "step" "I", Cond.methodLink RX8 149 yX8_second]
def wsX8_bids_r2 : List Cond := [Cond.instanceMethod yX8_second, Cond.selects RX8 yX8_second yX8_second, Cond.code yX8_second cX8_second 5 (some .int), Cond.methodLink RX8 155 yX8_loses, Cond.instanceMethod yX8_loses, Cond.selects RX8 yX8_loses yX8_loses, Cond.code yX8_loses cX8_loses 2 none]
def wsX8_bids : List Cond := .code yX8_bids cX8_bids 3 (some .int) :: ((wsX8_bids_r1 ++ wsX8_bids_r2) ++ wsX80)
def wsX8_size : List Cond := .code yX8_size cX8_size 4 (some .int) :: ([.constantLong RX8 159 (8), .fieldLink RX8 9 "BidMarketModel" "n" "I", .fieldLink RX8 18 "BidMarketModel" "worth" "[I", .fieldLink RX8 111 "BidMarketModel" "seen" "I", .fieldLink RX8 114 "BidMarketModel" "plans" "I", .fieldLink RX8 117 "BidMarketModel" "books" "I", .methodLink RX8 92 yX8_in, .static yX8_in, .initialized RX8, .code yX8_in cX8_in 6 (some .boolean), .methodLink RX8 88 yX8_empties, .instanceMethod yX8_empties, .selects RX8 yX8_empties yX8_empties, .code yX8_empties cX8_empties 3 (some .int), .fieldLink RX8 22 "BidMarketModel" "has" "[I", .fieldLink RX8 25 "BidMarketModel" "owner" "[I", .methodLink RX8 161 yX8_free, .instanceMethod yX8_free, .selects RX8 yX8_free yX8_free, .code yX8_free cX8_free 2 none, .fieldLink RX8 28 "BidMarketModel" "price" "[I"] ++ wsX80)
def wsX8_becomes : List Cond := .code yX8_becomes cX8_becomes 5 (some .int) :: ([.fieldLink RX8 18 "BidMarketModel" "worth" "[I", .methodLink RX8 155 yX8_loses, .instanceMethod yX8_loses, .selects RX8 yX8_loses yX8_loses, .initialized RX8, .code yX8_loses cX8_loses 2 none, .fieldLink RX8 22 "BidMarketModel" "has" "[I", .fieldLink RX8 25 "BidMarketModel" "owner" "[I"] ++ wsX80)
def wsX8_worth_r1 : List Cond := [Cond.constantLong RX8 167 (-1), Cond.constantLong RX8 169 (99), Cond.methodLink RX8 164 yX8_isPair, Cond.instanceMethod yX8_isPair, Cond.selects RX8 yX8_isPair yX8_isPair, Cond.initialized RX8, Cond.code yX8_isPair cX8_isPair 3 (some .boolean), Cond.methodLink RX8 96 yX8_isOne, Cond.instanceMethod yX8_isOne, Cond.selects RX8 yX8_isOne yX8_isOne, Cond.code yX8_isOne cX8_isOne 2 (some .boolean), Cond.fieldLink RX8 9 "BidMarketModel" "n" "I", Cond.methodLink RX8 92 yX8_in, Cond.static yX8_in, Cond.code yX8_in cX8_in 6 (some .boolean), Cond.methodLink RX8 171 yX8_becomes, Cond.instanceMethod yX8_becomes, Cond.selects RX8 yX8_becomes yX8_becomes, Cond.code yX8_becomes cX8_becomes 5 (some .int), Cond.fieldLink RX8 18 "BidMarketModel" "worth" "[I", Cond.methodLink RX8 155 yX8_loses, Cond.instanceMethod yX8_loses, Cond.selects RX8 yX8_loses yX8_loses, Cond.code yX8_loses cX8_loses 2 none]
def wsX8_worth_r2 : List Cond := [Cond.fieldLink RX8 22 "BidMarketModel" "has" "[I", Cond.fieldLink RX8 25 "BidMarketModel" "owner" "[I"]
def wsX8_worth : List Cond := .code yX8_worth cX8_worth 4 (some .int) :: ((wsX8_worth_r1 ++ wsX8_worth_r2) ++ wsX80)
def wsX8_step : List Cond := .code yX8_step cX8_step 3 (some .int) :: ([.constantLong RX8 175 (50), .fieldLink RX8 15 "BidMarketModel" "step" "I", .methodLink RX8 92 yX8_in, .static yX8_in, .initialized RX8, .code yX8_in cX8_in 6 (some .boolean)] ++ wsX80)
def wsX8_here : List Cond := .code yX8_here cX8_here 1 (some .int) :: ([.fieldLink RX8 177 "BidMarketModel" "at" "I", .fieldLink RX8 180 "BidMarketModel" "texted" "I", .fieldLink RX8 52 "BidMarketModel" "text" "[I"] ++ wsX80)
def wsX8_takes : List Cond := .code yX8_takes cX8_takes 4 (some .int) :: ([.fieldLink RX8 186 "BidMarketModel" "what" "I", .fieldLink RX8 177 "BidMarketModel" "at" "I", .methodLink RX8 183 yX8_here, .instanceMethod yX8_here, .selects RX8 yX8_here yX8_here, .initialized RX8, .code yX8_here cX8_here 1 (some .int), .fieldLink RX8 180 "BidMarketModel" "texted" "I", .fieldLink RX8 52 "BidMarketModel" "text" "[I", .methodLink RX8 92 yX8_in, .static yX8_in, .code yX8_in cX8_in 6 (some .boolean)] ++ wsX80)
def wsX8_takesOne : List Cond := .code yX8_takesOne cX8_takesOne 5 (some .int) :: ([.fieldLink RX8 186 "BidMarketModel" "what" "I", .fieldLink RX8 9 "BidMarketModel" "n" "I", .fieldLink RX8 177 "BidMarketModel" "at" "I", .methodLink RX8 189 yX8_takes, .instanceMethod yX8_takes, .selects RX8 yX8_takes yX8_takes, .initialized RX8, .code yX8_takes cX8_takes 4 (some .int), .methodLink RX8 183 yX8_here, .instanceMethod yX8_here, .selects RX8 yX8_here yX8_here, .code yX8_here cX8_here 1 (some .int), .fieldLink RX8 180 "BidMarketModel" "texted" "I", .fieldLink RX8 52 "BidMarketModel" "text" "[I", .methodLink RX8 92 yX8_in, .static yX8_in, .code yX8_in cX8_in 6 (some .boolean)] ++ wsX80)
def wsX8_takesWorth : List Cond := .code yX8_takesWorth cX8_takesWorth 2 (some .int) :: ([.fieldLink RX8 177 "BidMarketModel" "at" "I", .fieldLink RX8 186 "BidMarketModel" "what" "I", .constantLong RX8 192 (48), .constantLong RX8 194 (57), .methodLink RX8 183 yX8_here, .instanceMethod yX8_here, .selects RX8 yX8_here yX8_here, .initialized RX8, .code yX8_here cX8_here 1 (some .int), .fieldLink RX8 180 "BidMarketModel" "texted" "I", .fieldLink RX8 52 "BidMarketModel" "text" "[I", .methodLink RX8 189 yX8_takes, .instanceMethod yX8_takes, .selects RX8 yX8_takes yX8_takes, .code yX8_takes cX8_takes 4 (some .int), .methodLink RX8 92 yX8_in, .static yX8_in, .code yX8_in cX8_in 6 (some .boolean)] ++ wsX80)
def wsX8_clause_r1 : List Cond := [Cond.fieldLink RX8 186 "BidMarketModel" "what" "I", Cond.fieldLink RX8 202 "BidMarketModel" "whole" "I", Cond.methodLink RX8 196 yX8_takesOne, Cond.instanceMethod yX8_takesOne, Cond.selects RX8 yX8_takesOne yX8_takesOne, Cond.initialized RX8, Cond.code yX8_takesOne cX8_takesOne 5 (some .int), Cond.fieldLink RX8 9 "BidMarketModel" "n" "I", Cond.fieldLink RX8 177 "BidMarketModel" "at" "I", Cond.methodLink RX8 189 yX8_takes, Cond.instanceMethod yX8_takes, Cond.selects RX8 yX8_takes yX8_takes, Cond.code yX8_takes cX8_takes 4 (some .int), Cond.methodLink RX8 183 yX8_here, Cond.instanceMethod yX8_here, Cond.selects RX8 yX8_here yX8_here, Cond.code yX8_here cX8_here 1 (some .int), Cond.fieldLink RX8 180 "BidMarketModel" "texted" "I", Cond.fieldLink RX8 52 "BidMarketModel" "text" "[I", Cond.methodLink RX8 92 yX8_in, Cond.static yX8_in, Cond.code yX8_in cX8_in 6 (some .boolean), Cond.methodLink RX8 199 yX8_takesWorth, Cond.instanceMethod yX8_takesWorth]
def wsX8_clause_r2 : List Cond := [Cond.selects RX8 yX8_takesWorth yX8_takesWorth, Cond.code yX8_takesWorth cX8_takesWorth 2 (some .int), Cond.constantLong RX8 192 (48), Cond.constantLong RX8 194 (57), Cond.methodLink RX8 171 yX8_becomes, Cond.instanceMethod yX8_becomes, Cond.selects RX8 yX8_becomes yX8_becomes, Cond.code yX8_becomes cX8_becomes 5 (some .int), Cond.fieldLink RX8 18 "BidMarketModel" "worth" "[I", Cond.methodLink RX8 155 yX8_loses, Cond.instanceMethod yX8_loses, Cond.selects RX8 yX8_loses yX8_loses, Cond.code yX8_loses cX8_loses 2 none, Cond.fieldLink RX8 22 "BidMarketModel" "has" "[I", Cond.fieldLink RX8 25 "BidMarketModel" "owner" "[I"]
def wsX8_clause : List Cond := .code yX8_clause cX8_clause 5 none :: ((wsX8_clause_r1 ++ wsX8_clause_r2) ++ wsX80)
def wsX8_goesThrough_r1 : List Cond := [Cond.fieldLink RX8 177 "BidMarketModel" "at" "I", Cond.fieldLink RX8 186 "BidMarketModel" "what" "I", Cond.fieldLink RX8 202 "BidMarketModel" "whole" "I", Cond.fieldLink RX8 180 "BidMarketModel" "texted" "I", Cond.methodLink RX8 205 yX8_clause, Cond.instanceMethod yX8_clause, Cond.selects RX8 yX8_clause yX8_clause, Cond.initialized RX8, Cond.code yX8_clause cX8_clause 5 none, Cond.methodLink RX8 196 yX8_takesOne, Cond.instanceMethod yX8_takesOne, Cond.selects RX8 yX8_takesOne yX8_takesOne, Cond.code yX8_takesOne cX8_takesOne 5 (some .int), Cond.fieldLink RX8 9 "BidMarketModel" "n" "I", Cond.methodLink RX8 189 yX8_takes, Cond.instanceMethod yX8_takes, Cond.selects RX8 yX8_takes yX8_takes, Cond.code yX8_takes cX8_takes 4 (some .int), Cond.methodLink RX8 183 yX8_here, Cond.instanceMethod yX8_here, Cond.selects RX8 yX8_here yX8_here, Cond.code yX8_here cX8_here 1 (some .int), Cond.fieldLink RX8 52 "BidMarketModel" "text" "[I", Cond.methodLink RX8 92 yX8_in]
def wsX8_goesThrough_r2 : List Cond := [Cond.static yX8_in, Cond.code yX8_in cX8_in 6 (some .boolean), Cond.methodLink RX8 199 yX8_takesWorth, Cond.instanceMethod yX8_takesWorth, Cond.selects RX8 yX8_takesWorth yX8_takesWorth, Cond.code yX8_takesWorth cX8_takesWorth 2 (some .int), Cond.constantLong RX8 192 (48), Cond.constantLong RX8 194 (57), Cond.methodLink RX8 171 yX8_becomes, Cond.instanceMethod yX8_becomes, Cond.selects RX8 yX8_becomes yX8_becomes, Cond.code yX8_becomes cX8_becomes 5 (some .int), Cond.fieldLink RX8 18 "BidMarketModel" "worth" "[I", Cond.methodLink RX8 155 yX8_loses, Cond.instanceMethod yX8_loses, Cond.selects RX8 yX8_loses yX8_loses, Cond.code yX8_loses cX8_loses 2 none, Cond.fieldLink RX8 22 "BidMarketModel" "has" "[I", Cond.fieldLink RX8 25 "BidMarketModel" "owner" "[I"]
def wsX8_goesThrough : List Cond := .code yX8_goesThrough cX8_goesThrough 2 none :: ((wsX8_goesThrough_r1 ++ wsX8_goesThrough_r2) ++ wsX80)
def wsX8_feed : List Cond := .code yX8_feed cX8_feed 2 (some .int) :: ([.constantLong RX8 209 (127), .fieldLink RX8 180 "BidMarketModel" "texted" "I", .fieldLink RX8 52 "BidMarketModel" "text" "[I", .methodLink RX8 92 yX8_in, .static yX8_in, .initialized RX8, .code yX8_in cX8_in 6 (some .boolean)] ++ wsX80)
def wsX8_tellsWrong : List Cond := .code yX8_tellsWrong cX8_tellsWrong 4 none :: ([.fieldLink RX8 49 "BidMarketModel" "wrong" "[I"] ++ wsX80)
def wsX8_read_r1 : List Cond := [Cond.fieldLink RX8 186 "BidMarketModel" "what" "I", Cond.fieldLink RX8 180 "BidMarketModel" "texted" "I", Cond.fieldLink RX8 202 "BidMarketModel" "whole" "I", Cond.fieldLink RX8 177 "BidMarketModel" "at" "I", Cond.methodLink RX8 211 yX8_goesThrough, Cond.instanceMethod yX8_goesThrough, Cond.selects RX8 yX8_goesThrough yX8_goesThrough, Cond.initialized RX8, Cond.code yX8_goesThrough cX8_goesThrough 2 none, Cond.methodLink RX8 205 yX8_clause, Cond.instanceMethod yX8_clause, Cond.selects RX8 yX8_clause yX8_clause, Cond.code yX8_clause cX8_clause 5 none, Cond.methodLink RX8 196 yX8_takesOne, Cond.instanceMethod yX8_takesOne, Cond.selects RX8 yX8_takesOne yX8_takesOne, Cond.code yX8_takesOne cX8_takesOne 5 (some .int), Cond.fieldLink RX8 9 "BidMarketModel" "n" "I", Cond.methodLink RX8 189 yX8_takes, Cond.instanceMethod yX8_takes, Cond.selects RX8 yX8_takes yX8_takes, Cond.code yX8_takes cX8_takes 4 (some .int), Cond.methodLink RX8 183 yX8_here, Cond.instanceMethod yX8_here]
def wsX8_read_r2 : List Cond := [Cond.selects RX8 yX8_here yX8_here, Cond.code yX8_here cX8_here 1 (some .int), Cond.fieldLink RX8 52 "BidMarketModel" "text" "[I", Cond.methodLink RX8 92 yX8_in, Cond.static yX8_in, Cond.code yX8_in cX8_in 6 (some .boolean), Cond.methodLink RX8 199 yX8_takesWorth, Cond.instanceMethod yX8_takesWorth, Cond.selects RX8 yX8_takesWorth yX8_takesWorth, Cond.code yX8_takesWorth cX8_takesWorth 2 (some .int), Cond.constantLong RX8 192 (48), Cond.constantLong RX8 194 (57), Cond.methodLink RX8 171 yX8_becomes, Cond.instanceMethod yX8_becomes, Cond.selects RX8 yX8_becomes yX8_becomes, Cond.code yX8_becomes cX8_becomes 5 (some .int), Cond.fieldLink RX8 18 "BidMarketModel" "worth" "[I", Cond.methodLink RX8 155 yX8_loses, Cond.instanceMethod yX8_loses, Cond.selects RX8 yX8_loses yX8_loses, Cond.code yX8_loses cX8_loses 2 none, Cond.fieldLink RX8 22 "BidMarketModel" "has" "[I", Cond.fieldLink RX8 25 "BidMarketModel" "owner" "[I", Cond.methodLink RX8 214 yX8_tellsWrong]
def wsX8_read_r3 : List Cond := [Cond.instanceMethod yX8_tellsWrong, Cond.selects RX8 yX8_tellsWrong yX8_tellsWrong, Cond.code yX8_tellsWrong cX8_tellsWrong 4 none, Cond.fieldLink RX8 49 "BidMarketModel" "wrong" "[I"]
def wsX8_read : List Cond := .code yX8_read cX8_read 1 (some .int) :: ((wsX8_read_r1 ++ (wsX8_read_r2 ++ wsX8_read_r3)) ++ wsX80)
def wsX8_wrong : List Cond := .code yX8_wrong cX8_wrong 2 (some .int) :: ([.fieldLink RX8 49 "BidMarketModel" "wrong" "[I"] ++ wsX80)
def wsX8_tellsLeft : List Cond := .code yX8_tellsLeft cX8_tellsLeft 4 none :: ([.fieldLink RX8 9 "BidMarketModel" "n" "I", .fieldLink RX8 22 "BidMarketModel" "has" "[I", .methodLink RX8 214 yX8_tellsWrong, .instanceMethod yX8_tellsWrong, .selects RX8 yX8_tellsWrong yX8_tellsWrong, .initialized RX8, .code yX8_tellsWrong cX8_tellsWrong 4 none, .fieldLink RX8 49 "BidMarketModel" "wrong" "[I"] ++ wsX80)
def wsX8_bidsAll_r1 : List Cond := [Cond.fieldLink RX8 218 "BidMarketModel" "isBroken" "Z", Cond.fieldLink RX8 28 "BidMarketModel" "price" "[I", Cond.methodLink RX8 221 yX8_next, Cond.instanceMethod yX8_next, Cond.selects RX8 yX8_next yX8_next, Cond.initialized RX8, Cond.code yX8_next cX8_next 2 (some .int), Cond.fieldLink RX8 9 "BidMarketModel" "n" "I", Cond.fieldLink RX8 22 "BidMarketModel" "has" "[I", Cond.methodLink RX8 146 yX8_best, Cond.instanceMethod yX8_best, Cond.selects RX8 yX8_best yX8_best, Cond.code yX8_best cX8_best 4 (some .int), Cond.methodLink RX8 138 yX8_may, Cond.instanceMethod yX8_may, Cond.selects RX8 yX8_may yX8_may, Cond.code yX8_may cX8_may 3 (some .boolean), Cond.fieldLink RX8 18 "BidMarketModel" "worth" "[I", Cond.methodLink RX8 142 yX8_gain, Cond.instanceMethod yX8_gain, Cond.selects RX8 yX8_gain yX8_gain, Cond.code yX8_gain cX8_gain 3 (some .int), Cond.methodLink RX8 224 yX8_bids, Cond.instanceMethod yX8_bids]
def wsX8_bidsAll_r2 : List Cond := [Cond.selects RX8 yX8_bids yX8_bids, Cond.code yX8_bids cX8_bids 3 (some .int), Cond.fieldLink RX8 25 "BidMarketModel" "owner" "[I", Cond.methodLink RX8 152 yX8_offer, Cond.instanceMethod yX8_offer, Cond.selects RX8 yX8_offer yX8_offer, Cond.code yX8_offer cX8_offer 3 (some .int), Cond.fieldLink RX8 15 "BidMarketModel" "step" "I", Cond.methodLink RX8 149 yX8_second, Cond.instanceMethod yX8_second, Cond.selects RX8 yX8_second yX8_second, Cond.code yX8_second cX8_second 5 (some .int), Cond.methodLink RX8 155 yX8_loses, Cond.instanceMethod yX8_loses, Cond.selects RX8 yX8_loses yX8_loses, Cond.code yX8_loses cX8_loses 2 none, Cond.methodLink RX8 214 yX8_tellsWrong, Cond.instanceMethod yX8_tellsWrong, Cond.selects RX8 yX8_tellsWrong yX8_tellsWrong, Cond.code yX8_tellsWrong cX8_tellsWrong 4 none, Cond.fieldLink RX8 49 "BidMarketModel" "wrong" "[I", Cond.methodLink RX8 227 yX8_tellsLeft, Cond.instanceMethod yX8_tellsLeft, Cond.selects RX8 yX8_tellsLeft yX8_tellsLeft]
def wsX8_bidsAll_r3 : List Cond := [Cond.code yX8_tellsLeft cX8_tellsLeft 4 none]
def wsX8_bidsAll : List Cond := .code yX8_bidsAll cX8_bidsAll 4 (some .int) :: ((wsX8_bidsAll_r1 ++ (wsX8_bidsAll_r2 ++ wsX8_bidsAll_r3)) ++ wsX80)
def wsX8_bid_r1 : List Cond := [Cond.methodLink RX8 221 yX8_next, Cond.instanceMethod yX8_next, Cond.selects RX8 yX8_next yX8_next, Cond.initialized RX8, Cond.code yX8_next cX8_next 2 (some .int), Cond.fieldLink RX8 9 "BidMarketModel" "n" "I", Cond.fieldLink RX8 22 "BidMarketModel" "has" "[I", Cond.methodLink RX8 146 yX8_best, Cond.instanceMethod yX8_best, Cond.selects RX8 yX8_best yX8_best, Cond.code yX8_best cX8_best 4 (some .int), Cond.methodLink RX8 138 yX8_may, Cond.instanceMethod yX8_may, Cond.selects RX8 yX8_may yX8_may, Cond.code yX8_may cX8_may 3 (some .boolean), Cond.fieldLink RX8 18 "BidMarketModel" "worth" "[I", Cond.methodLink RX8 142 yX8_gain, Cond.instanceMethod yX8_gain, Cond.selects RX8 yX8_gain yX8_gain, Cond.code yX8_gain cX8_gain 3 (some .int), Cond.fieldLink RX8 28 "BidMarketModel" "price" "[I", Cond.methodLink RX8 224 yX8_bids, Cond.instanceMethod yX8_bids, Cond.selects RX8 yX8_bids yX8_bids]
def wsX8_bid_r2 : List Cond := [Cond.code yX8_bids cX8_bids 3 (some .int), Cond.fieldLink RX8 25 "BidMarketModel" "owner" "[I", Cond.methodLink RX8 152 yX8_offer, Cond.instanceMethod yX8_offer, Cond.selects RX8 yX8_offer yX8_offer, Cond.code yX8_offer cX8_offer 3 (some .int), Cond.fieldLink RX8 15 "BidMarketModel" "step" "I", Cond.methodLink RX8 149 yX8_second, Cond.instanceMethod yX8_second, Cond.selects RX8 yX8_second yX8_second, Cond.code yX8_second cX8_second 5 (some .int), Cond.methodLink RX8 155 yX8_loses, Cond.instanceMethod yX8_loses, Cond.selects RX8 yX8_loses yX8_loses, Cond.code yX8_loses cX8_loses 2 none]
def wsX8_bid : List Cond := .code yX8_bid cX8_bid 2 (some .int) :: ((wsX8_bid_r1 ++ wsX8_bid_r2) ++ wsX80)
def wsX8_auction_r1 : List Cond := [Cond.fieldLink RX8 218 "BidMarketModel" "isBroken" "Z", Cond.methodLink RX8 230 yX8_bidsAll, Cond.instanceMethod yX8_bidsAll, Cond.selects RX8 yX8_bidsAll yX8_bidsAll, Cond.initialized RX8, Cond.code yX8_bidsAll cX8_bidsAll 4 (some .int), Cond.fieldLink RX8 28 "BidMarketModel" "price" "[I", Cond.methodLink RX8 221 yX8_next, Cond.instanceMethod yX8_next, Cond.selects RX8 yX8_next yX8_next, Cond.code yX8_next cX8_next 2 (some .int), Cond.fieldLink RX8 9 "BidMarketModel" "n" "I", Cond.fieldLink RX8 22 "BidMarketModel" "has" "[I", Cond.methodLink RX8 146 yX8_best, Cond.instanceMethod yX8_best, Cond.selects RX8 yX8_best yX8_best, Cond.code yX8_best cX8_best 4 (some .int), Cond.methodLink RX8 138 yX8_may, Cond.instanceMethod yX8_may, Cond.selects RX8 yX8_may yX8_may, Cond.code yX8_may cX8_may 3 (some .boolean), Cond.fieldLink RX8 18 "BidMarketModel" "worth" "[I", Cond.methodLink RX8 142 yX8_gain, Cond.instanceMethod yX8_gain]
def wsX8_auction_r2 : List Cond := [Cond.selects RX8 yX8_gain yX8_gain, Cond.code yX8_gain cX8_gain 3 (some .int), Cond.methodLink RX8 224 yX8_bids, Cond.instanceMethod yX8_bids, Cond.selects RX8 yX8_bids yX8_bids, Cond.code yX8_bids cX8_bids 3 (some .int), Cond.fieldLink RX8 25 "BidMarketModel" "owner" "[I", Cond.methodLink RX8 152 yX8_offer, Cond.instanceMethod yX8_offer, Cond.selects RX8 yX8_offer yX8_offer, Cond.code yX8_offer cX8_offer 3 (some .int), Cond.fieldLink RX8 15 "BidMarketModel" "step" "I", Cond.methodLink RX8 149 yX8_second, Cond.instanceMethod yX8_second, Cond.selects RX8 yX8_second yX8_second, Cond.code yX8_second cX8_second 5 (some .int), Cond.methodLink RX8 155 yX8_loses, Cond.instanceMethod yX8_loses, Cond.selects RX8 yX8_loses yX8_loses, Cond.code yX8_loses cX8_loses 2 none, Cond.methodLink RX8 214 yX8_tellsWrong, Cond.instanceMethod yX8_tellsWrong, Cond.selects RX8 yX8_tellsWrong yX8_tellsWrong, Cond.code yX8_tellsWrong cX8_tellsWrong 4 none]
def wsX8_auction_r3 : List Cond := [Cond.fieldLink RX8 49 "BidMarketModel" "wrong" "[I", Cond.methodLink RX8 227 yX8_tellsLeft, Cond.instanceMethod yX8_tellsLeft, Cond.selects RX8 yX8_tellsLeft yX8_tellsLeft, Cond.code yX8_tellsLeft cX8_tellsLeft 4 none]
def wsX8_auction : List Cond := .code yX8_auction cX8_auction 2 (some .int) :: ((wsX8_auction_r1 ++ (wsX8_auction_r2 ++ wsX8_auction_r3)) ++ wsX80)
def wsX8_scaled_r1 : List Cond := [Cond.fieldLink RX8 15 "BidMarketModel" "step" "I", Cond.fieldLink RX8 218 "BidMarketModel" "isBroken" "Z", Cond.methodLink RX8 88 yX8_empties, Cond.instanceMethod yX8_empties, Cond.selects RX8 yX8_empties yX8_empties, Cond.initialized RX8, Cond.code yX8_empties cX8_empties 3 (some .int), Cond.fieldLink RX8 22 "BidMarketModel" "has" "[I", Cond.fieldLink RX8 9 "BidMarketModel" "n" "I", Cond.fieldLink RX8 25 "BidMarketModel" "owner" "[I", Cond.methodLink RX8 230 yX8_bidsAll, Cond.instanceMethod yX8_bidsAll, Cond.selects RX8 yX8_bidsAll yX8_bidsAll, Cond.code yX8_bidsAll cX8_bidsAll 4 (some .int), Cond.fieldLink RX8 28 "BidMarketModel" "price" "[I", Cond.methodLink RX8 221 yX8_next, Cond.instanceMethod yX8_next, Cond.selects RX8 yX8_next yX8_next, Cond.code yX8_next cX8_next 2 (some .int), Cond.methodLink RX8 146 yX8_best, Cond.instanceMethod yX8_best, Cond.selects RX8 yX8_best yX8_best, Cond.code yX8_best cX8_best 4 (some .int), Cond.methodLink RX8 138 yX8_may]
def wsX8_scaled_r2 : List Cond := [Cond.instanceMethod yX8_may, Cond.selects RX8 yX8_may yX8_may, Cond.code yX8_may cX8_may 3 (some .boolean), Cond.fieldLink RX8 18 "BidMarketModel" "worth" "[I", Cond.methodLink RX8 142 yX8_gain, Cond.instanceMethod yX8_gain, Cond.selects RX8 yX8_gain yX8_gain, Cond.code yX8_gain cX8_gain 3 (some .int), Cond.methodLink RX8 224 yX8_bids, Cond.instanceMethod yX8_bids, Cond.selects RX8 yX8_bids yX8_bids, Cond.code yX8_bids cX8_bids 3 (some .int), Cond.methodLink RX8 152 yX8_offer, Cond.instanceMethod yX8_offer, Cond.selects RX8 yX8_offer yX8_offer, Cond.code yX8_offer cX8_offer 3 (some .int), Cond.methodLink RX8 149 yX8_second, Cond.instanceMethod yX8_second, Cond.selects RX8 yX8_second yX8_second, Cond.code yX8_second cX8_second 5 (some .int), Cond.methodLink RX8 155 yX8_loses, Cond.instanceMethod yX8_loses, Cond.selects RX8 yX8_loses yX8_loses, Cond.code yX8_loses cX8_loses 2 none]
def wsX8_scaled_r3 : List Cond := [Cond.methodLink RX8 214 yX8_tellsWrong, Cond.instanceMethod yX8_tellsWrong, Cond.selects RX8 yX8_tellsWrong yX8_tellsWrong, Cond.code yX8_tellsWrong cX8_tellsWrong 4 none, Cond.fieldLink RX8 49 "BidMarketModel" "wrong" "[I", Cond.methodLink RX8 227 yX8_tellsLeft, Cond.instanceMethod yX8_tellsLeft, Cond.selects RX8 yX8_tellsLeft yX8_tellsLeft, Cond.code yX8_tellsLeft cX8_tellsLeft 4 none]
def wsX8_scaled : List Cond := .code yX8_scaled cX8_scaled 5 (some .int) :: ((wsX8_scaled_r1 ++ (wsX8_scaled_r2 ++ wsX8_scaled_r3)) ++ wsX80)
def wsX8_fresh : List Cond := .code yX8_fresh cX8_fresh 1 (some .int) :: ([.methodLink RX8 161 yX8_free, .instanceMethod yX8_free, .selects RX8 yX8_free yX8_free, .initialized RX8, .code yX8_free cX8_free 2 none, .fieldLink RX8 28 "BidMarketModel" "price" "[I", .methodLink RX8 88 yX8_empties, .instanceMethod yX8_empties, .selects RX8 yX8_empties yX8_empties, .code yX8_empties cX8_empties 3 (some .int), .fieldLink RX8 22 "BidMarketModel" "has" "[I", .fieldLink RX8 9 "BidMarketModel" "n" "I", .fieldLink RX8 25 "BidMarketModel" "owner" "[I"] ++ wsX80)
def wsX8_leave : List Cond := .code yX8_leave cX8_leave 3 (some .int) :: ([.fieldLink RX8 22 "BidMarketModel" "has" "[I", .methodLink RX8 96 yX8_isOne, .instanceMethod yX8_isOne, .selects RX8 yX8_isOne yX8_isOne, .initialized RX8, .code yX8_isOne cX8_isOne 2 (some .boolean), .fieldLink RX8 9 "BidMarketModel" "n" "I", .methodLink RX8 92 yX8_in, .static yX8_in, .code yX8_in cX8_in 6 (some .boolean), .methodLink RX8 155 yX8_loses, .instanceMethod yX8_loses, .selects RX8 yX8_loses yX8_loses, .code yX8_loses cX8_loses 2 none, .fieldLink RX8 25 "BidMarketModel" "owner" "[I"] ++ wsX80)
def wsX8_of_r1 : List Cond := [Cond.constantLong RX8 233 (-9223372036854775808), Cond.constantLong RX8 235 (-5), Cond.fieldLink RX8 18 "BidMarketModel" "worth" "[I", Cond.methodLink RX8 164 yX8_isPair, Cond.instanceMethod yX8_isPair, Cond.selects RX8 yX8_isPair yX8_isPair, Cond.initialized RX8, Cond.code yX8_isPair cX8_isPair 3 (some .boolean), Cond.methodLink RX8 96 yX8_isOne, Cond.instanceMethod yX8_isOne, Cond.selects RX8 yX8_isOne yX8_isOne, Cond.code yX8_isOne cX8_isOne 2 (some .boolean), Cond.fieldLink RX8 9 "BidMarketModel" "n" "I", Cond.methodLink RX8 92 yX8_in, Cond.static yX8_in, Cond.code yX8_in cX8_in 6 (some .boolean), Cond.methodLink RX8 138 yX8_may, Cond.instanceMethod yX8_may, Cond.selects RX8 yX8_may yX8_may, Cond.code yX8_may cX8_may 3 (some .boolean), Cond.methodLink RX8 142 yX8_gain, Cond.instanceMethod yX8_gain, Cond.selects RX8 yX8_gain yX8_gain, Cond.code yX8_gain cX8_gain 3 (some .int)]
def wsX8_of_r2 : List Cond := [Cond.fieldLink RX8 28 "BidMarketModel" "price" "[I"]
def wsX8_of : List Cond := .code yX8_of cX8_of 4 (some .long) :: ((wsX8_of_r1 ++ wsX8_of_r2) ++ wsX80)
def wsX8_envy : List Cond := .code yX8_envy cX8_envy 5 (some .int) :: ([.fieldLink RX8 22 "BidMarketModel" "has" "[I", .fieldLink RX8 9 "BidMarketModel" "n" "I", .methodLink RX8 142 yX8_gain, .instanceMethod yX8_gain, .selects RX8 yX8_gain yX8_gain, .initialized RX8, .code yX8_gain cX8_gain 3 (some .int), .fieldLink RX8 18 "BidMarketModel" "worth" "[I", .fieldLink RX8 28 "BidMarketModel" "price" "[I", .methodLink RX8 138 yX8_may, .instanceMethod yX8_may, .selects RX8 yX8_may yX8_may, .code yX8_may cX8_may 3 (some .boolean)] ++ wsX80)
def wsX8_open : List Cond := .code yX8_open cX8_open 4 (some .int) :: ([.fieldLink RX8 9 "BidMarketModel" "n" "I", .methodLink RX8 138 yX8_may, .instanceMethod yX8_may, .selects RX8 yX8_may yX8_may, .initialized RX8, .code yX8_may cX8_may 3 (some .boolean), .fieldLink RX8 18 "BidMarketModel" "worth" "[I"] ++ wsX80)
def wsX8_bits : List Cond := .code yX8_bits cX8_bits 3 (some .int) :: ([])
def wsX8_person_r1 : List Cond := [Cond.fieldLink RX8 22 "BidMarketModel" "has" "[I", Cond.methodLink RX8 96 yX8_isOne, Cond.instanceMethod yX8_isOne, Cond.selects RX8 yX8_isOne yX8_isOne, Cond.initialized RX8, Cond.code yX8_isOne cX8_isOne 2 (some .boolean), Cond.fieldLink RX8 9 "BidMarketModel" "n" "I", Cond.methodLink RX8 92 yX8_in, Cond.static yX8_in, Cond.code yX8_in cX8_in 6 (some .boolean), Cond.methodLink RX8 146 yX8_best, Cond.instanceMethod yX8_best, Cond.selects RX8 yX8_best yX8_best, Cond.code yX8_best cX8_best 4 (some .int), Cond.methodLink RX8 138 yX8_may, Cond.instanceMethod yX8_may, Cond.selects RX8 yX8_may yX8_may, Cond.code yX8_may cX8_may 3 (some .boolean), Cond.fieldLink RX8 18 "BidMarketModel" "worth" "[I", Cond.methodLink RX8 142 yX8_gain, Cond.instanceMethod yX8_gain, Cond.selects RX8 yX8_gain yX8_gain, Cond.code yX8_gain cX8_gain 3 (some .int), Cond.fieldLink RX8 28 "BidMarketModel" "price" "[I"]
def wsX8_person_r2 : List Cond := [Cond.methodLink RX8 237 yX8_envy, Cond.instanceMethod yX8_envy, Cond.selects RX8 yX8_envy yX8_envy, Cond.code yX8_envy cX8_envy 5 (some .int), Cond.methodLink RX8 240 yX8_open, Cond.instanceMethod yX8_open, Cond.selects RX8 yX8_open yX8_open, Cond.code yX8_open cX8_open 4 (some .int), Cond.methodLink RX8 243 yX8_bits, Cond.static yX8_bits, Cond.code yX8_bits cX8_bits 3 (some .int)]
def wsX8_person : List Cond := .code yX8_person cX8_person 3 (some .int) :: ((wsX8_person_r1 ++ wsX8_person_r2) ++ wsX80)
def wsX8_wanted : List Cond := .code yX8_wanted cX8_wanted 4 (some .int) :: ([.fieldLink RX8 9 "BidMarketModel" "n" "I", .methodLink RX8 146 yX8_best, .instanceMethod yX8_best, .selects RX8 yX8_best yX8_best, .initialized RX8, .code yX8_best cX8_best 4 (some .int), .methodLink RX8 138 yX8_may, .instanceMethod yX8_may, .selects RX8 yX8_may yX8_may, .code yX8_may cX8_may 3 (some .boolean), .fieldLink RX8 18 "BidMarketModel" "worth" "[I", .methodLink RX8 142 yX8_gain, .instanceMethod yX8_gain, .selects RX8 yX8_gain yX8_gain, .code yX8_gain cX8_gain 3 (some .int), .fieldLink RX8 28 "BidMarketModel" "price" "[I"] ++ wsX80)
def wsX8_thing_r1 : List Cond := [Cond.fieldLink RX8 28 "BidMarketModel" "price" "[I", Cond.fieldLink RX8 25 "BidMarketModel" "owner" "[I", Cond.methodLink RX8 96 yX8_isOne, Cond.instanceMethod yX8_isOne, Cond.selects RX8 yX8_isOne yX8_isOne, Cond.initialized RX8, Cond.code yX8_isOne cX8_isOne 2 (some .boolean), Cond.fieldLink RX8 9 "BidMarketModel" "n" "I", Cond.methodLink RX8 92 yX8_in, Cond.static yX8_in, Cond.code yX8_in cX8_in 6 (some .boolean), Cond.methodLink RX8 246 yX8_wanted, Cond.instanceMethod yX8_wanted, Cond.selects RX8 yX8_wanted yX8_wanted, Cond.code yX8_wanted cX8_wanted 4 (some .int), Cond.methodLink RX8 146 yX8_best, Cond.instanceMethod yX8_best, Cond.selects RX8 yX8_best yX8_best, Cond.code yX8_best cX8_best 4 (some .int), Cond.methodLink RX8 138 yX8_may, Cond.instanceMethod yX8_may, Cond.selects RX8 yX8_may yX8_may, Cond.code yX8_may cX8_may 3 (some .boolean), Cond.fieldLink RX8 18 "BidMarketModel" "worth" "[I"]
def wsX8_thing_r2 : List Cond := [Cond.methodLink RX8 142 yX8_gain, Cond.instanceMethod yX8_gain, Cond.selects RX8 yX8_gain yX8_gain, Cond.code yX8_gain cX8_gain 3 (some .int)]
def wsX8_thing : List Cond := .code yX8_thing cX8_thing 3 (some .int) :: ((wsX8_thing_r1 ++ wsX8_thing_r2) ++ wsX80)
def wsX8_sum : List Cond := .code yX8_sum cX8_sum 3 (some .int) :: ([.fieldLink RX8 9 "BidMarketModel" "n" "I", .fieldLink RX8 22 "BidMarketModel" "has" "[I", .fieldLink RX8 18 "BidMarketModel" "worth" "[I"] ++ wsX80)
def wsX8_prices : List Cond := .code yX8_prices cX8_prices 3 (some .int) :: ([.fieldLink RX8 9 "BidMarketModel" "n" "I", .fieldLink RX8 28 "BidMarketModel" "price" "[I"] ++ wsX80)
def wsX8_most : List Cond := .code yX8_most cX8_most 5 (some .int) :: ([.fieldLink RX8 9 "BidMarketModel" "n" "I", .fieldLink RX8 70 "BidMarketModel" "mostBy" "[I", .fieldLink RX8 18 "BidMarketModel" "worth" "[I", .methodLink RX8 249 Lib.Math.max.name, .static Lib.Math.max.name, .initialized "java/lang/Math", .code Lib.Math.max.name Lib.Math.max.code 2 (some .int), .methodLink RX8 243 yX8_bits, .static yX8_bits, .initialized RX8, .code yX8_bits cX8_bits 3 (some .int), .methodLink RX8 138 yX8_may, .instanceMethod yX8_may, .selects RX8 yX8_may yX8_may, .code yX8_may cX8_may 3 (some .boolean)] ++ wsX80)
def wsX8_sure : List Cond := .code yX8_sure cX8_sure 2 (some .int) :: ([.fieldLink RX8 9 "BidMarketModel" "n" "I", .fieldLink RX8 22 "BidMarketModel" "has" "[I", .fieldLink RX8 15 "BidMarketModel" "step" "I", .methodLink RX8 146 yX8_best, .instanceMethod yX8_best, .selects RX8 yX8_best yX8_best, .initialized RX8, .code yX8_best cX8_best 4 (some .int), .methodLink RX8 138 yX8_may, .instanceMethod yX8_may, .selects RX8 yX8_may yX8_may, .code yX8_may cX8_may 3 (some .boolean), .fieldLink RX8 18 "BidMarketModel" "worth" "[I", .methodLink RX8 142 yX8_gain, .instanceMethod yX8_gain, .selects RX8 yX8_gain yX8_gain, .code yX8_gain cX8_gain 3 (some .int), .fieldLink RX8 28 "BidMarketModel" "price" "[I"] ++ wsX80)
def wsX8_lack : List Cond := .code yX8_lack cX8_lack 5 (some .int) :: ([.fieldLink RX8 9 "BidMarketModel" "n" "I", .methodLink RX8 240 yX8_open, .instanceMethod yX8_open, .selects RX8 yX8_open yX8_open, .initialized RX8, .code yX8_open cX8_open 4 (some .int), .methodLink RX8 138 yX8_may, .instanceMethod yX8_may, .selects RX8 yX8_may yX8_may, .code yX8_may cX8_may 3 (some .boolean), .fieldLink RX8 18 "BidMarketModel" "worth" "[I", .methodLink RX8 243 yX8_bits, .static yX8_bits, .code yX8_bits cX8_bits 3 (some .int)] ++ wsX80)
def wsX8_havers : List Cond := .code yX8_havers cX8_havers 3 (some .int) :: ([.fieldLink RX8 9 "BidMarketModel" "n" "I", .fieldLink RX8 22 "BidMarketModel" "has" "[I"] ++ wsX80)
def wsX8_told_r1 : List Cond := [Cond.fieldLink RX8 9 "BidMarketModel" "n" "I", Cond.fieldLink RX8 15 "BidMarketModel" "step" "I", Cond.methodLink RX8 254 yX8_sum, Cond.instanceMethod yX8_sum, Cond.selects RX8 yX8_sum yX8_sum, Cond.initialized RX8, Cond.code yX8_sum cX8_sum 3 (some .int), Cond.fieldLink RX8 22 "BidMarketModel" "has" "[I", Cond.fieldLink RX8 18 "BidMarketModel" "worth" "[I", Cond.methodLink RX8 257 yX8_most, Cond.instanceMethod yX8_most, Cond.selects RX8 yX8_most yX8_most, Cond.code yX8_most cX8_most 5 (some .int), Cond.fieldLink RX8 70 "BidMarketModel" "mostBy" "[I", Cond.methodLink RX8 249 Lib.Math.max.name, Cond.static Lib.Math.max.name, Cond.initialized "java/lang/Math", Cond.code Lib.Math.max.name Lib.Math.max.code 2 (some .int), Cond.methodLink RX8 243 yX8_bits, Cond.static yX8_bits, Cond.code yX8_bits cX8_bits 3 (some .int), Cond.methodLink RX8 138 yX8_may, Cond.instanceMethod yX8_may, Cond.selects RX8 yX8_may yX8_may]
def wsX8_told_r2 : List Cond := [Cond.code yX8_may cX8_may 3 (some .boolean), Cond.methodLink RX8 260 yX8_sure, Cond.instanceMethod yX8_sure, Cond.selects RX8 yX8_sure yX8_sure, Cond.code yX8_sure cX8_sure 2 (some .int), Cond.methodLink RX8 146 yX8_best, Cond.instanceMethod yX8_best, Cond.selects RX8 yX8_best yX8_best, Cond.code yX8_best cX8_best 4 (some .int), Cond.methodLink RX8 142 yX8_gain, Cond.instanceMethod yX8_gain, Cond.selects RX8 yX8_gain yX8_gain, Cond.code yX8_gain cX8_gain 3 (some .int), Cond.fieldLink RX8 28 "BidMarketModel" "price" "[I", Cond.methodLink RX8 263 yX8_lack, Cond.instanceMethod yX8_lack, Cond.selects RX8 yX8_lack yX8_lack, Cond.code yX8_lack cX8_lack 5 (some .int), Cond.methodLink RX8 240 yX8_open, Cond.instanceMethod yX8_open, Cond.selects RX8 yX8_open yX8_open, Cond.code yX8_open cX8_open 4 (some .int), Cond.methodLink RX8 221 yX8_next, Cond.instanceMethod yX8_next]
def wsX8_told_r3 : List Cond := [Cond.selects RX8 yX8_next yX8_next, Cond.code yX8_next cX8_next 2 (some .int), Cond.methodLink RX8 152 yX8_offer, Cond.instanceMethod yX8_offer, Cond.selects RX8 yX8_offer yX8_offer, Cond.code yX8_offer cX8_offer 3 (some .int), Cond.methodLink RX8 149 yX8_second, Cond.instanceMethod yX8_second, Cond.selects RX8 yX8_second yX8_second, Cond.code yX8_second cX8_second 5 (some .int), Cond.methodLink RX8 266 yX8_havers, Cond.instanceMethod yX8_havers, Cond.selects RX8 yX8_havers yX8_havers, Cond.code yX8_havers cX8_havers 3 (some .int), Cond.methodLink RX8 269 yX8_prices, Cond.instanceMethod yX8_prices, Cond.selects RX8 yX8_prices yX8_prices, Cond.code yX8_prices cX8_prices 3 (some .int)]
def wsX8_told : List Cond := .code yX8_told cX8_told 2 (some .int) :: ((wsX8_told_r1 ++ (wsX8_told_r2 ++ wsX8_told_r3)) ++ wsX80)
def wsX8_see : List Cond := .code yX8_see cX8_see 3 (some .int) :: ([.fieldLink RX8 111 "BidMarketModel" "seen" "I", .fieldLink RX8 31 "BidMarketModel" "seenWho" "[I", .fieldLink RX8 34 "BidMarketModel" "seenWhat" "[I", .methodLink RX8 164 yX8_isPair, .instanceMethod yX8_isPair, .selects RX8 yX8_isPair yX8_isPair, .initialized RX8, .code yX8_isPair cX8_isPair 3 (some .boolean), .methodLink RX8 96 yX8_isOne, .instanceMethod yX8_isOne, .selects RX8 yX8_isOne yX8_isOne, .code yX8_isOne cX8_isOne 2 (some .boolean), .fieldLink RX8 9 "BidMarketModel" "n" "I", .methodLink RX8 92 yX8_in, .static yX8_in, .code yX8_in cX8_in 6 (some .boolean)] ++ wsX80)
def wsX8_isAllSeen : List Cond := .code yX8_isAllSeen cX8_isAllSeen 2 (some .boolean) :: ([.fieldLink RX8 111 "BidMarketModel" "seen" "I", .fieldLink RX8 22 "BidMarketModel" "has" "[I", .fieldLink RX8 31 "BidMarketModel" "seenWho" "[I", .fieldLink RX8 34 "BidMarketModel" "seenWhat" "[I"] ++ wsX80)
def wsX8_triesAuction_r1 : List Cond := [Cond.methodLink RX8 88 yX8_empties, Cond.instanceMethod yX8_empties, Cond.selects RX8 yX8_empties yX8_empties, Cond.initialized RX8, Cond.code yX8_empties cX8_empties 3 (some .int), Cond.fieldLink RX8 22 "BidMarketModel" "has" "[I", Cond.fieldLink RX8 9 "BidMarketModel" "n" "I", Cond.fieldLink RX8 25 "BidMarketModel" "owner" "[I", Cond.methodLink RX8 161 yX8_free, Cond.instanceMethod yX8_free, Cond.selects RX8 yX8_free yX8_free, Cond.code yX8_free cX8_free 2 none, Cond.fieldLink RX8 28 "BidMarketModel" "price" "[I", Cond.methodLink RX8 230 yX8_bidsAll, Cond.instanceMethod yX8_bidsAll, Cond.selects RX8 yX8_bidsAll yX8_bidsAll, Cond.code yX8_bidsAll cX8_bidsAll 4 (some .int), Cond.fieldLink RX8 218 "BidMarketModel" "isBroken" "Z", Cond.methodLink RX8 221 yX8_next, Cond.instanceMethod yX8_next, Cond.selects RX8 yX8_next yX8_next, Cond.code yX8_next cX8_next 2 (some .int), Cond.methodLink RX8 146 yX8_best, Cond.instanceMethod yX8_best]
def wsX8_triesAuction_r2 : List Cond := [Cond.selects RX8 yX8_best yX8_best, Cond.code yX8_best cX8_best 4 (some .int), Cond.methodLink RX8 138 yX8_may, Cond.instanceMethod yX8_may, Cond.selects RX8 yX8_may yX8_may, Cond.code yX8_may cX8_may 3 (some .boolean), Cond.fieldLink RX8 18 "BidMarketModel" "worth" "[I", Cond.methodLink RX8 142 yX8_gain, Cond.instanceMethod yX8_gain, Cond.selects RX8 yX8_gain yX8_gain, Cond.code yX8_gain cX8_gain 3 (some .int), Cond.methodLink RX8 224 yX8_bids, Cond.instanceMethod yX8_bids, Cond.selects RX8 yX8_bids yX8_bids, Cond.code yX8_bids cX8_bids 3 (some .int), Cond.methodLink RX8 152 yX8_offer, Cond.instanceMethod yX8_offer, Cond.selects RX8 yX8_offer yX8_offer, Cond.code yX8_offer cX8_offer 3 (some .int), Cond.fieldLink RX8 15 "BidMarketModel" "step" "I", Cond.methodLink RX8 149 yX8_second, Cond.instanceMethod yX8_second, Cond.selects RX8 yX8_second yX8_second, Cond.code yX8_second cX8_second 5 (some .int)]
def wsX8_triesAuction_r3 : List Cond := [Cond.methodLink RX8 155 yX8_loses, Cond.instanceMethod yX8_loses, Cond.selects RX8 yX8_loses yX8_loses, Cond.code yX8_loses cX8_loses 2 none, Cond.methodLink RX8 214 yX8_tellsWrong, Cond.instanceMethod yX8_tellsWrong, Cond.selects RX8 yX8_tellsWrong yX8_tellsWrong, Cond.code yX8_tellsWrong cX8_tellsWrong 4 none, Cond.fieldLink RX8 49 "BidMarketModel" "wrong" "[I", Cond.methodLink RX8 227 yX8_tellsLeft, Cond.instanceMethod yX8_tellsLeft, Cond.selects RX8 yX8_tellsLeft yX8_tellsLeft, Cond.code yX8_tellsLeft cX8_tellsLeft 4 none]
def wsX8_triesAuction : List Cond := .code yX8_triesAuction cX8_triesAuction 1 none :: ((wsX8_triesAuction_r1 ++ (wsX8_triesAuction_r2 ++ wsX8_triesAuction_r3)) ++ wsX80)
def wsX8_fits_r1 : List Cond := [Cond.fieldLink RX8 18 "BidMarketModel" "worth" "[I", Cond.methodLink RX8 164 yX8_isPair, Cond.instanceMethod yX8_isPair, Cond.selects RX8 yX8_isPair yX8_isPair, Cond.initialized RX8, Cond.code yX8_isPair cX8_isPair 3 (some .boolean), Cond.methodLink RX8 96 yX8_isOne, Cond.instanceMethod yX8_isOne, Cond.selects RX8 yX8_isOne yX8_isOne, Cond.code yX8_isOne cX8_isOne 2 (some .boolean), Cond.fieldLink RX8 9 "BidMarketModel" "n" "I", Cond.methodLink RX8 92 yX8_in, Cond.static yX8_in, Cond.code yX8_in cX8_in 6 (some .boolean), Cond.methodLink RX8 272 yX8_minds, Cond.instanceMethod yX8_minds, Cond.selects RX8 yX8_minds yX8_minds, Cond.code yX8_minds cX8_minds 1 none, Cond.fieldLink RX8 22 "BidMarketModel" "has" "[I", Cond.fieldLink RX8 58 "BidMarketModel" "mindHas" "[I", Cond.fieldLink RX8 25 "BidMarketModel" "owner" "[I", Cond.fieldLink RX8 61 "BidMarketModel" "mindOwner" "[I", Cond.fieldLink RX8 28 "BidMarketModel" "price" "[I", Cond.fieldLink RX8 64 "BidMarketModel" "mindPrice" "[I"]
def wsX8_fits_r2 : List Cond := [Cond.fieldLink RX8 49 "BidMarketModel" "wrong" "[I", Cond.fieldLink RX8 67 "BidMarketModel" "mindWrong" "[I", Cond.fieldLink RX8 15 "BidMarketModel" "step" "I", Cond.fieldLink RX8 135 "BidMarketModel" "mindStep" "I", Cond.methodLink RX8 131 yX8_lays, Cond.static yX8_lays, Cond.code yX8_lays cX8_lays 3 none, Cond.methodLink RX8 275 yX8_triesAuction, Cond.instanceMethod yX8_triesAuction, Cond.selects RX8 yX8_triesAuction yX8_triesAuction, Cond.code yX8_triesAuction cX8_triesAuction 1 none, Cond.methodLink RX8 88 yX8_empties, Cond.instanceMethod yX8_empties, Cond.selects RX8 yX8_empties yX8_empties, Cond.code yX8_empties cX8_empties 3 (some .int), Cond.methodLink RX8 161 yX8_free, Cond.instanceMethod yX8_free, Cond.selects RX8 yX8_free yX8_free, Cond.code yX8_free cX8_free 2 none, Cond.methodLink RX8 230 yX8_bidsAll, Cond.instanceMethod yX8_bidsAll, Cond.selects RX8 yX8_bidsAll yX8_bidsAll, Cond.code yX8_bidsAll cX8_bidsAll 4 (some .int), Cond.fieldLink RX8 218 "BidMarketModel" "isBroken" "Z"]
def wsX8_fits_r3 : List Cond := [Cond.methodLink RX8 221 yX8_next, Cond.instanceMethod yX8_next, Cond.selects RX8 yX8_next yX8_next, Cond.code yX8_next cX8_next 2 (some .int), Cond.methodLink RX8 146 yX8_best, Cond.instanceMethod yX8_best, Cond.selects RX8 yX8_best yX8_best, Cond.code yX8_best cX8_best 4 (some .int), Cond.methodLink RX8 138 yX8_may, Cond.instanceMethod yX8_may, Cond.selects RX8 yX8_may yX8_may, Cond.code yX8_may cX8_may 3 (some .boolean), Cond.methodLink RX8 142 yX8_gain, Cond.instanceMethod yX8_gain, Cond.selects RX8 yX8_gain yX8_gain, Cond.code yX8_gain cX8_gain 3 (some .int), Cond.methodLink RX8 224 yX8_bids, Cond.instanceMethod yX8_bids, Cond.selects RX8 yX8_bids yX8_bids, Cond.code yX8_bids cX8_bids 3 (some .int), Cond.methodLink RX8 152 yX8_offer, Cond.instanceMethod yX8_offer, Cond.selects RX8 yX8_offer yX8_offer, Cond.code yX8_offer cX8_offer 3 (some .int)]
def wsX8_fits_r4 : List Cond := [Cond.methodLink RX8 149 yX8_second, Cond.instanceMethod yX8_second, Cond.selects RX8 yX8_second yX8_second, Cond.code yX8_second cX8_second 5 (some .int), Cond.methodLink RX8 155 yX8_loses, Cond.instanceMethod yX8_loses, Cond.selects RX8 yX8_loses yX8_loses, Cond.code yX8_loses cX8_loses 2 none, Cond.methodLink RX8 214 yX8_tellsWrong, Cond.instanceMethod yX8_tellsWrong, Cond.selects RX8 yX8_tellsWrong yX8_tellsWrong, Cond.code yX8_tellsWrong cX8_tellsWrong 4 none, Cond.methodLink RX8 227 yX8_tellsLeft, Cond.instanceMethod yX8_tellsLeft, Cond.selects RX8 yX8_tellsLeft yX8_tellsLeft, Cond.code yX8_tellsLeft cX8_tellsLeft 4 none, Cond.methodLink RX8 278 yX8_isAllSeen, Cond.instanceMethod yX8_isAllSeen, Cond.selects RX8 yX8_isAllSeen yX8_isAllSeen, Cond.code yX8_isAllSeen cX8_isAllSeen 2 (some .boolean), Cond.fieldLink RX8 111 "BidMarketModel" "seen" "I", Cond.fieldLink RX8 31 "BidMarketModel" "seenWho" "[I", Cond.fieldLink RX8 34 "BidMarketModel" "seenWhat" "[I", Cond.methodLink RX8 282 yX8_forgets]
def wsX8_fits_r5 : List Cond := [Cond.instanceMethod yX8_forgets, Cond.selects RX8 yX8_forgets yX8_forgets, Cond.code yX8_forgets cX8_forgets 1 none]
def wsX8_fits : List Cond := .code yX8_fits cX8_fits 8 (some .int) :: ((wsX8_fits_r1 ++ (wsX8_fits_r2 ++ (wsX8_fits_r3 ++ (wsX8_fits_r4 ++ wsX8_fits_r5)))) ++ wsX80)
def wsX8_lowest : List Cond := .code yX8_lowest cX8_lowest 11 (some .long) :: ([])
def wsX8_odds_r1 : List Cond := [Cond.constantLong RX8 233 (-9223372036854775808), Cond.fieldLink RX8 22 "BidMarketModel" "has" "[I", Cond.fieldLink RX8 15 "BidMarketModel" "step" "I", Cond.constantLong RX8 285 (10), Cond.methodLink RX8 96 yX8_isOne, Cond.instanceMethod yX8_isOne, Cond.selects RX8 yX8_isOne yX8_isOne, Cond.initialized RX8, Cond.code yX8_isOne cX8_isOne 2 (some .boolean), Cond.fieldLink RX8 9 "BidMarketModel" "n" "I", Cond.methodLink RX8 92 yX8_in, Cond.static yX8_in, Cond.code yX8_in cX8_in 6 (some .boolean), Cond.methodLink RX8 272 yX8_minds, Cond.instanceMethod yX8_minds, Cond.selects RX8 yX8_minds yX8_minds, Cond.code yX8_minds cX8_minds 1 none, Cond.fieldLink RX8 58 "BidMarketModel" "mindHas" "[I", Cond.fieldLink RX8 25 "BidMarketModel" "owner" "[I", Cond.fieldLink RX8 61 "BidMarketModel" "mindOwner" "[I", Cond.fieldLink RX8 28 "BidMarketModel" "price" "[I", Cond.fieldLink RX8 64 "BidMarketModel" "mindPrice" "[I", Cond.fieldLink RX8 49 "BidMarketModel" "wrong" "[I", Cond.fieldLink RX8 67 "BidMarketModel" "mindWrong" "[I"]
def wsX8_odds_r2 : List Cond := [Cond.fieldLink RX8 135 "BidMarketModel" "mindStep" "I", Cond.methodLink RX8 131 yX8_lays, Cond.static yX8_lays, Cond.code yX8_lays cX8_lays 3 none, Cond.methodLink RX8 275 yX8_triesAuction, Cond.instanceMethod yX8_triesAuction, Cond.selects RX8 yX8_triesAuction yX8_triesAuction, Cond.code yX8_triesAuction cX8_triesAuction 1 none, Cond.methodLink RX8 88 yX8_empties, Cond.instanceMethod yX8_empties, Cond.selects RX8 yX8_empties yX8_empties, Cond.code yX8_empties cX8_empties 3 (some .int), Cond.methodLink RX8 161 yX8_free, Cond.instanceMethod yX8_free, Cond.selects RX8 yX8_free yX8_free, Cond.code yX8_free cX8_free 2 none, Cond.methodLink RX8 230 yX8_bidsAll, Cond.instanceMethod yX8_bidsAll, Cond.selects RX8 yX8_bidsAll yX8_bidsAll, Cond.code yX8_bidsAll cX8_bidsAll 4 (some .int), Cond.fieldLink RX8 218 "BidMarketModel" "isBroken" "Z", Cond.methodLink RX8 221 yX8_next, Cond.instanceMethod yX8_next, Cond.selects RX8 yX8_next yX8_next]
def wsX8_odds_r3 : List Cond := [Cond.code yX8_next cX8_next 2 (some .int), Cond.methodLink RX8 146 yX8_best, Cond.instanceMethod yX8_best, Cond.selects RX8 yX8_best yX8_best, Cond.code yX8_best cX8_best 4 (some .int), Cond.methodLink RX8 138 yX8_may, Cond.instanceMethod yX8_may, Cond.selects RX8 yX8_may yX8_may, Cond.code yX8_may cX8_may 3 (some .boolean), Cond.fieldLink RX8 18 "BidMarketModel" "worth" "[I", Cond.methodLink RX8 142 yX8_gain, Cond.instanceMethod yX8_gain, Cond.selects RX8 yX8_gain yX8_gain, Cond.code yX8_gain cX8_gain 3 (some .int), Cond.methodLink RX8 224 yX8_bids, Cond.instanceMethod yX8_bids, Cond.selects RX8 yX8_bids yX8_bids, Cond.code yX8_bids cX8_bids 3 (some .int), Cond.methodLink RX8 152 yX8_offer, Cond.instanceMethod yX8_offer, Cond.selects RX8 yX8_offer yX8_offer, Cond.code yX8_offer cX8_offer 3 (some .int), Cond.methodLink RX8 149 yX8_second, Cond.instanceMethod yX8_second]
def wsX8_odds_r4 : List Cond := [Cond.selects RX8 yX8_second yX8_second, Cond.code yX8_second cX8_second 5 (some .int), Cond.methodLink RX8 155 yX8_loses, Cond.instanceMethod yX8_loses, Cond.selects RX8 yX8_loses yX8_loses, Cond.code yX8_loses cX8_loses 2 none, Cond.methodLink RX8 214 yX8_tellsWrong, Cond.instanceMethod yX8_tellsWrong, Cond.selects RX8 yX8_tellsWrong yX8_tellsWrong, Cond.code yX8_tellsWrong cX8_tellsWrong 4 none, Cond.methodLink RX8 227 yX8_tellsLeft, Cond.instanceMethod yX8_tellsLeft, Cond.selects RX8 yX8_tellsLeft yX8_tellsLeft, Cond.code yX8_tellsLeft cX8_tellsLeft 4 none, Cond.methodLink RX8 282 yX8_forgets, Cond.instanceMethod yX8_forgets, Cond.selects RX8 yX8_forgets yX8_forgets, Cond.code yX8_forgets cX8_forgets 1 none, Cond.methodLink RX8 287 yX8_lowest, Cond.static yX8_lowest, Cond.code yX8_lowest cX8_lowest 11 (some .long)]
def wsX8_odds : List Cond := .code yX8_odds cX8_odds 6 (some .long) :: ((wsX8_odds_r1 ++ (wsX8_odds_r2 ++ (wsX8_odds_r3 ++ wsX8_odds_r4))) ++ wsX80)
def wsX8_mean : List Cond := .code yX8_mean cX8_mean 2 (some .long) :: ([.fieldLink RX8 9 "BidMarketModel" "n" "I", .constantLong RX8 233 (-9223372036854775808), .methodLink RX8 92 yX8_in, .static yX8_in, .initialized RX8, .code yX8_in cX8_in 6 (some .boolean), .methodLink RX8 269 yX8_prices, .instanceMethod yX8_prices, .selects RX8 yX8_prices yX8_prices, .code yX8_prices cX8_prices 3 (some .int), .fieldLink RX8 28 "BidMarketModel" "price" "[I", .methodLink RX8 287 yX8_lowest, .static yX8_lowest, .code yX8_lowest cX8_lowest 11 (some .long)] ++ wsX80)
def wsX8_plan : List Cond := .code yX8_plan cX8_plan 3 (some .int) :: ([.fieldLink RX8 114 "BidMarketModel" "plans" "I", .constantLong RX8 291 (2), .constantLong RX8 175 (50), .fieldLink RX8 37 "BidMarketModel" "planWhat" "[I", .fieldLink RX8 40 "BidMarketModel" "planN" "[I", .methodLink RX8 92 yX8_in, .static yX8_in, .initialized RX8, .code yX8_in cX8_in 6 (some .boolean), .methodLink RX8 96 yX8_isOne, .instanceMethod yX8_isOne, .selects RX8 yX8_isOne yX8_isOne, .code yX8_isOne cX8_isOne 2 (some .boolean), .fieldLink RX8 9 "BidMarketModel" "n" "I"] ++ wsX80)
def wsX8_ends_r1 : List Cond := [Cond.fieldLink RX8 114 "BidMarketModel" "plans" "I", Cond.fieldLink RX8 37 "BidMarketModel" "planWhat" "[I", Cond.fieldLink RX8 40 "BidMarketModel" "planN" "[I", Cond.fieldLink RX8 15 "BidMarketModel" "step" "I", Cond.methodLink RX8 92 yX8_in, Cond.static yX8_in, Cond.initialized RX8, Cond.code yX8_in cX8_in 6 (some .boolean), Cond.methodLink RX8 272 yX8_minds, Cond.instanceMethod yX8_minds, Cond.selects RX8 yX8_minds yX8_minds, Cond.code yX8_minds cX8_minds 1 none, Cond.fieldLink RX8 22 "BidMarketModel" "has" "[I", Cond.fieldLink RX8 58 "BidMarketModel" "mindHas" "[I", Cond.fieldLink RX8 25 "BidMarketModel" "owner" "[I", Cond.fieldLink RX8 61 "BidMarketModel" "mindOwner" "[I", Cond.fieldLink RX8 28 "BidMarketModel" "price" "[I", Cond.fieldLink RX8 64 "BidMarketModel" "mindPrice" "[I", Cond.fieldLink RX8 49 "BidMarketModel" "wrong" "[I", Cond.fieldLink RX8 67 "BidMarketModel" "mindWrong" "[I", Cond.fieldLink RX8 135 "BidMarketModel" "mindStep" "I", Cond.methodLink RX8 131 yX8_lays, Cond.static yX8_lays, Cond.code yX8_lays cX8_lays 3 none]
def wsX8_ends_r2 : List Cond := [Cond.methodLink RX8 293 yX8_bid, Cond.instanceMethod yX8_bid, Cond.selects RX8 yX8_bid yX8_bid, Cond.code yX8_bid cX8_bid 2 (some .int), Cond.methodLink RX8 221 yX8_next, Cond.instanceMethod yX8_next, Cond.selects RX8 yX8_next yX8_next, Cond.code yX8_next cX8_next 2 (some .int), Cond.fieldLink RX8 9 "BidMarketModel" "n" "I", Cond.methodLink RX8 146 yX8_best, Cond.instanceMethod yX8_best, Cond.selects RX8 yX8_best yX8_best, Cond.code yX8_best cX8_best 4 (some .int), Cond.methodLink RX8 138 yX8_may, Cond.instanceMethod yX8_may, Cond.selects RX8 yX8_may yX8_may, Cond.code yX8_may cX8_may 3 (some .boolean), Cond.fieldLink RX8 18 "BidMarketModel" "worth" "[I", Cond.methodLink RX8 142 yX8_gain, Cond.instanceMethod yX8_gain, Cond.selects RX8 yX8_gain yX8_gain, Cond.code yX8_gain cX8_gain 3 (some .int), Cond.methodLink RX8 224 yX8_bids, Cond.instanceMethod yX8_bids]
def wsX8_ends_r3 : List Cond := [Cond.selects RX8 yX8_bids yX8_bids, Cond.code yX8_bids cX8_bids 3 (some .int), Cond.methodLink RX8 152 yX8_offer, Cond.instanceMethod yX8_offer, Cond.selects RX8 yX8_offer yX8_offer, Cond.code yX8_offer cX8_offer 3 (some .int), Cond.methodLink RX8 149 yX8_second, Cond.instanceMethod yX8_second, Cond.selects RX8 yX8_second yX8_second, Cond.code yX8_second cX8_second 5 (some .int), Cond.methodLink RX8 155 yX8_loses, Cond.instanceMethod yX8_loses, Cond.selects RX8 yX8_loses yX8_loses, Cond.code yX8_loses cX8_loses 2 none, Cond.methodLink RX8 254 yX8_sum, Cond.instanceMethod yX8_sum, Cond.selects RX8 yX8_sum yX8_sum, Cond.code yX8_sum cX8_sum 3 (some .int), Cond.methodLink RX8 269 yX8_prices, Cond.instanceMethod yX8_prices, Cond.selects RX8 yX8_prices yX8_prices, Cond.code yX8_prices cX8_prices 3 (some .int), Cond.methodLink RX8 282 yX8_forgets, Cond.instanceMethod yX8_forgets]
def wsX8_ends_r4 : List Cond := [Cond.selects RX8 yX8_forgets yX8_forgets, Cond.code yX8_forgets cX8_forgets 1 none]
def wsX8_ends : List Cond := .code yX8_ends cX8_ends 3 (some .int) :: ((wsX8_ends_r1 ++ (wsX8_ends_r2 ++ (wsX8_ends_r3 ++ wsX8_ends_r4))) ++ wsX80)
def wsX8_book : List Cond := .code yX8_book cX8_book 3 (some .int) :: ([.fieldLink RX8 117 "BidMarketModel" "books" "I", .constantLong RX8 296 (9999), .fieldLink RX8 43 "BidMarketModel" "bookThing" "[I", .fieldLink RX8 46 "BidMarketModel" "bookPrice" "[I", .methodLink RX8 96 yX8_isOne, .instanceMethod yX8_isOne, .selects RX8 yX8_isOne yX8_isOne, .initialized RX8, .code yX8_isOne cX8_isOne 2 (some .boolean), .fieldLink RX8 9 "BidMarketModel" "n" "I", .methodLink RX8 92 yX8_in, .static yX8_in, .code yX8_in cX8_in 6 (some .boolean)] ++ wsX80)
def wsX8_looked : List Cond := .code yX8_looked cX8_looked 2 (some .int) :: ([.fieldLink RX8 117 "BidMarketModel" "books" "I", .fieldLink RX8 28 "BidMarketModel" "price" "[I", .fieldLink RX8 43 "BidMarketModel" "bookThing" "[I", .fieldLink RX8 46 "BidMarketModel" "bookPrice" "[I"] ++ wsX80)
def wsX8_isTape : List Cond := .code yX8_isTape cX8_isTape 1 (some .boolean) :: ([.constantLong RX8 298 (5), .methodLink RX8 92 yX8_in, .static yX8_in, .initialized RX8, .code yX8_in cX8_in 6 (some .boolean)])
def wsX8_judge : List Cond := .code yX8_judge cX8_judge 4 (some .int) :: ([.fieldLink RX8 78 "BidMarketModel" "tapeSort" "[I", .fieldLink RX8 9 "BidMarketModel" "n" "I", .fieldLink RX8 81 "BidMarketModel" "tapeSize" "[I", .fieldLink RX8 75 "BidMarketModel" "tapes" "[[J", .fieldLink RX8 28 "BidMarketModel" "price" "[I", .methodLink RX8 300 yX8_isTape, .static yX8_isTape, .initialized RX8, .code yX8_isTape cX8_isTape 1 (some .boolean), .constantLong RX8 298 (5), .methodLink RX8 92 yX8_in, .static yX8_in, .code yX8_in cX8_in 6 (some .boolean)] ++ wsX80)
def wsX8_forbidden : List Cond := .code yX8_forbidden cX8_forbidden 3 (some .int) :: ([.fieldLink RX8 9 "BidMarketModel" "n" "I", .methodLink RX8 240 yX8_open, .instanceMethod yX8_open, .selects RX8 yX8_open yX8_open, .initialized RX8, .code yX8_open cX8_open 4 (some .int), .methodLink RX8 138 yX8_may, .instanceMethod yX8_may, .selects RX8 yX8_may yX8_may, .code yX8_may cX8_may 3 (some .boolean), .fieldLink RX8 18 "BidMarketModel" "worth" "[I", .methodLink RX8 243 yX8_bits, .static yX8_bits, .code yX8_bits cX8_bits 3 (some .int)] ++ wsX80)
def wsX8_count : List Cond := .code yX8_count cX8_count 2 (some .int) :: ([.fieldLink RX8 9 "BidMarketModel" "n" "I", .fieldLink RX8 111 "BidMarketModel" "seen" "I", .fieldLink RX8 114 "BidMarketModel" "plans" "I", .fieldLink RX8 117 "BidMarketModel" "books" "I", .fieldLink RX8 180 "BidMarketModel" "texted" "I", .methodLink RX8 303 yX8_forbidden, .instanceMethod yX8_forbidden, .selects RX8 yX8_forbidden yX8_forbidden, .initialized RX8, .code yX8_forbidden cX8_forbidden 3 (some .int), .methodLink RX8 240 yX8_open, .instanceMethod yX8_open, .selects RX8 yX8_open yX8_open, .code yX8_open cX8_open 4 (some .int), .methodLink RX8 138 yX8_may, .instanceMethod yX8_may, .selects RX8 yX8_may yX8_may, .code yX8_may cX8_may 3 (some .boolean), .fieldLink RX8 18 "BidMarketModel" "worth" "[I", .methodLink RX8 243 yX8_bits, .static yX8_bits, .code yX8_bits cX8_bits 3 (some .int)] ++ wsX80)
def wsX8_tape : List Cond := .code yX8_tape cX8_tape 5 (some .int) :: ([.constantLong RX8 167 (-1), .constantLong RX8 306 (4), .fieldLink RX8 78 "BidMarketModel" "tapeSort" "[I", .fieldLink RX8 81 "BidMarketModel" "tapeSize" "[I", .fieldLink RX8 75 "BidMarketModel" "tapes" "[[J", .methodLink RX8 300 yX8_isTape, .static yX8_isTape, .initialized RX8, .code yX8_isTape cX8_isTape 1 (some .boolean), .constantLong RX8 298 (5), .methodLink RX8 92 yX8_in, .static yX8_in, .code yX8_in cX8_in 6 (some .boolean)] ++ wsX80)
def wsX8_fit : List Cond := .code yX8_fit cX8_fit 3 (some .long) :: ([])
def wsX8_item : List Cond := .code yX8_item cX8_item 5 (some .int) :: ([.fieldLink RX8 78 "BidMarketModel" "tapeSort" "[I", .fieldLink RX8 81 "BidMarketModel" "tapeSize" "[I", .fieldLink RX8 75 "BidMarketModel" "tapes" "[[J", .methodLink RX8 300 yX8_isTape, .static yX8_isTape, .initialized RX8, .code yX8_isTape cX8_isTape 1 (some .boolean), .constantLong RX8 298 (5), .methodLink RX8 92 yX8_in, .static yX8_in, .code yX8_in cX8_in 6 (some .boolean), .methodLink RX8 308 yX8_fit, .static yX8_fit, .code yX8_fit cX8_fit 3 (some .long)] ++ wsX80)
def wsX8_peek : List Cond := .code yX8_peek cX8_peek 3 (some .long) :: ([.fieldLink RX8 78 "BidMarketModel" "tapeSort" "[I", .fieldLink RX8 81 "BidMarketModel" "tapeSize" "[I", .fieldLink RX8 75 "BidMarketModel" "tapes" "[[J", .constantLong RX8 233 (-9223372036854775808), .methodLink RX8 300 yX8_isTape, .static yX8_isTape, .initialized RX8, .code yX8_isTape cX8_isTape 1 (some .boolean), .constantLong RX8 298 (5), .methodLink RX8 92 yX8_in, .static yX8_in, .code yX8_in cX8_in 6 (some .boolean)] ++ wsX80)
def wsX8_shift : List Cond := .code yX8_shift cX8_shift 7 (some .int) :: ([.fieldLink RX8 78 "BidMarketModel" "tapeSort" "[I", .fieldLink RX8 81 "BidMarketModel" "tapeSize" "[I", .fieldLink RX8 84 "BidMarketModel" "moved" "[J", .fieldLink RX8 75 "BidMarketModel" "tapes" "[[J", .methodLink RX8 300 yX8_isTape, .static yX8_isTape, .initialized RX8, .code yX8_isTape cX8_isTape 1 (some .boolean), .constantLong RX8 298 (5), .methodLink RX8 92 yX8_in, .static yX8_in, .code yX8_in cX8_in 6 (some .boolean)] ++ wsX80)
def wsJ9_max_7cf53 : List Cond := .code yJ9_max_7cf53 cJ9_max_7cf53 2 (some .int) :: ([])
def wsJ9_min_7cf53 : List Cond := .code yJ9_min_7cf53 cJ9_min_7cf53 2 (some .int) :: ([])
def wsL_law_r1 : List Cond := [Cond.classLink RL 7 RX7, Cond.instantiable RX7 8, Cond.initialized RX7, Cond.classLink RL 10 RX8, Cond.instantiable RX8 36, Cond.initialized RX8, Cond.constantLong RL 132 (4294967295), Cond.methodLink RL 9 yX7_init, Cond.instanceMethod yX7_init, Cond.code yX7_init cX7_init 2 none, Cond.methodLink RX7 3 objectInit, Cond.instanceMethod objectInit, Cond.code objectInit ⟨#[0xb1]⟩ 1 none, Cond.classLink RX7 9 RX1, Cond.instantiable RX1 4, Cond.initialized RX1, Cond.fieldLink RX7 12 "BidMarket" "held" "LBidMarket$Holdings;", Cond.fieldLink RX7 18 "BidMarket" "kept" "LBidMarket$Holdings;", Cond.classLink RX7 21 RX2, Cond.instantiable RX2 7, Cond.initialized RX2, Cond.fieldLink RX7 24 "BidMarket" "trial" "LBidMarket$Market;", Cond.classLink RX7 28 RX3, Cond.instantiable RX3 1]
def wsL_law_r2 : List Cond := [Cond.initialized RX3, Cond.fieldLink RX7 31 "BidMarket" "optimum" "LBidMarket$Optimum;", Cond.classLink RX7 35 RX6, Cond.instantiable RX6 8, Cond.initialized RX6, Cond.fieldLink RX7 38 "BidMarket" "text" "LBidMarket$Text;", Cond.classLink RX7 42 RX0, Cond.instantiable RX0 3, Cond.initialized RX0, Cond.fieldLink RX7 45 "BidMarket" "complaint" "LBidMarket$Complaint;", Cond.classLink RX7 49 RX5, Cond.fieldLink RX7 51 "BidMarket" "tapes" "[LBidMarket$Tape;", Cond.fieldLink RX7 55 "BidMarket" "imaged" "Z", Cond.instantiable RX5 3, Cond.initialized RX5, Cond.instanceMethod yX1_init, Cond.code yX1_init cX1_init 1 none, Cond.methodLink RX1 1 objectInit, Cond.classLink RX1 7 RX2, Cond.fieldLink RX1 10 "BidMarket$Holdings" "market" "LBidMarket$Market;", Cond.classLink RX1 16 RX4, Cond.instantiable RX4 3, Cond.initialized RX4, Cond.fieldLink RX1 21 "BidMarket$Holdings" "seen" "LBidMarket$Rows;"]
def wsL_law_r3 : List Cond := [Cond.fieldLink RX1 25 "BidMarket$Holdings" "plan" "LBidMarket$Rows;", Cond.fieldLink RX1 28 "BidMarket$Holdings" "book" "LBidMarket$Rows;", Cond.methodLink RX1 9 yX2_init, Cond.instanceMethod yX2_init, Cond.code yX2_init cX2_init 1 none, Cond.methodLink RX2 3 objectInit, Cond.classLink RX2 9 "[[I", Cond.arrayClass .int, Cond.fieldLink RX2 11 "BidMarket$Market" "worths" "[[I", Cond.fieldLink RX2 16 "BidMarket$Market" "thingOf" "[I", Cond.fieldLink RX2 20 "BidMarket$Market" "personOf" "[I", Cond.fieldLink RX2 23 "BidMarket$Market" "prices" "[I", Cond.fieldLink RX2 26 "BidMarket$Market" "n" "I", Cond.fieldLink RX2 30 "BidMarket$Market" "pace" "I", Cond.fieldLink RX2 33 "BidMarket$Market" "breaker" "I", Cond.methodLink RX2 36 yX2_becomeEmpty, Cond.instanceMethod yX2_becomeEmpty, Cond.selects RX2 yX2_becomeEmpty yX2_becomeEmpty, Cond.code yX2_becomeEmpty cX2_becomeEmpty 4 none, Cond.methodLink RX2 40 yX2_startAnew, Cond.instanceMethod yX2_startAnew, Cond.selects RX2 yX2_startAnew yX2_startAnew, Cond.code yX2_startAnew cX2_startAnew 2 none, Cond.methodLink RX2 49 yX2_takeAllAway]
def wsL_law_r4 : List Cond := [Cond.instanceMethod yX2_takeAllAway, Cond.selects RX2 yX2_takeAllAway yX2_takeAllAway, Cond.code yX2_takeAllAway cX2_takeAllAway 2 none, Cond.methodLink RX1 18 yX4_init, Cond.instanceMethod yX4_init, Cond.code yX4_init cX4_init 2 none, Cond.methodLink RX4 3 objectInit, Cond.fieldLink RX4 9 "BidMarket$Rows" "used" "I", Cond.fieldLink RX4 15 "BidMarket$Rows" "left" "[I", Cond.fieldLink RX4 19 "BidMarket$Rows" "right" "[I", Cond.methodLink RX7 23 yX2_init, Cond.instanceMethod yX3_init, Cond.code yX3_init cX3_init 1 none, Cond.methodLink RX3 3 objectInit, Cond.fieldLink RX3 9 "BidMarket$Optimum" "sums" "[I", Cond.instanceMethod yX6_init, Cond.code yX6_init cX6_init 1 none, Cond.methodLink RX6 3 objectInit, Cond.fieldLink RX6 11 "BidMarket$Text" "bytes" "[I", Cond.fieldLink RX6 15 "BidMarket$Text" "length" "I", Cond.fieldLink RX6 19 "BidMarket$Text" "persons" "[I", Cond.fieldLink RX6 22 "BidMarket$Text" "things" "[I", Cond.fieldLink RX6 25 "BidMarket$Text" "worths" "[I", Cond.fieldLink RX6 28 "BidMarket$Text" "clauses" "I"]
def wsL_law_r5 : List Cond := [Cond.fieldLink RX6 31 "BidMarket$Text" "at" "I", Cond.fieldLink RX6 34 "BidMarket$Text" "kind" "I", Cond.instanceMethod yX0_init, Cond.code yX0_init cX0_init 1 none, Cond.methodLink RX0 3 objectInit, Cond.fieldLink RX0 9 "BidMarket$Complaint" "kind" "I", Cond.fieldLink RX0 15 "BidMarket$Complaint" "cause" "I", Cond.fieldLink RX0 18 "BidMarket$Complaint" "causeOfCause" "I", Cond.instanceMethod yX5_init, Cond.code yX5_init cX5_init 1 none, Cond.methodLink RX5 1 objectInit, Cond.arrayClass .long, Cond.fieldLink RX5 9 "BidMarket$Tape" "items" "[J", Cond.fieldLink RX5 13 "BidMarket$Tape" "sort" "I", Cond.fieldLink RX5 17 "BidMarket$Tape" "length" "I", Cond.methodLink RL 12 yX8_init, Cond.instanceMethod yX8_init, Cond.code yX8_init cX8_init 1 none, Cond.methodLink RX8 3 objectInit, Cond.fieldLink RX8 9 "BidMarketModel" "n" "I", Cond.fieldLink RX8 15 "BidMarketModel" "step" "I", Cond.fieldLink RX8 18 "BidMarketModel" "worth" "[I", Cond.fieldLink RX8 22 "BidMarketModel" "has" "[I", Cond.fieldLink RX8 25 "BidMarketModel" "owner" "[I"]
def wsL_law_r6 : List Cond := [Cond.fieldLink RX8 28 "BidMarketModel" "price" "[I", Cond.fieldLink RX8 31 "BidMarketModel" "seenWho" "[I", Cond.fieldLink RX8 34 "BidMarketModel" "seenWhat" "[I", Cond.fieldLink RX8 37 "BidMarketModel" "planWhat" "[I", Cond.fieldLink RX8 40 "BidMarketModel" "planN" "[I", Cond.fieldLink RX8 43 "BidMarketModel" "bookThing" "[I", Cond.fieldLink RX8 46 "BidMarketModel" "bookPrice" "[I", Cond.fieldLink RX8 49 "BidMarketModel" "wrong" "[I", Cond.fieldLink RX8 52 "BidMarketModel" "text" "[I", Cond.fieldLink RX8 55 "BidMarketModel" "imaged" "[I", Cond.fieldLink RX8 58 "BidMarketModel" "mindHas" "[I", Cond.fieldLink RX8 61 "BidMarketModel" "mindOwner" "[I", Cond.fieldLink RX8 64 "BidMarketModel" "mindPrice" "[I", Cond.fieldLink RX8 67 "BidMarketModel" "mindWrong" "[I", Cond.fieldLink RX8 70 "BidMarketModel" "mostBy" "[I", Cond.classLink RX8 73 "[[J", Cond.fieldLink RX8 75 "BidMarketModel" "tapes" "[[J", Cond.fieldLink RX8 78 "BidMarketModel" "tapeSort" "[I", Cond.fieldLink RX8 81 "BidMarketModel" "tapeSize" "[I", Cond.fieldLink RX8 84 "BidMarketModel" "moved" "[J", Cond.methodLink RX8 88 yX8_empties, Cond.instanceMethod yX8_empties, Cond.selects RX8 yX8_empties yX8_empties, Cond.code yX8_empties cX8_empties 3 (some .int)]
def wsL_law_r7 : List Cond := [Cond.methodLink RL 13 yX7_size, Cond.instanceMethod yX7_size, Cond.selects RX7 yX7_size yX7_size, Cond.code yX7_size cX7_size 3 (some .int), Cond.fieldLink RX7 60 "BidMarket$Holdings" "market" "LBidMarket$Market;", Cond.fieldLink RX7 63 "BidMarket$Market" "n" "I", Cond.fieldLink RX7 71 "BidMarket$Holdings" "seen" "LBidMarket$Rows;", Cond.fieldLink RX7 81 "BidMarket$Holdings" "plan" "LBidMarket$Rows;", Cond.fieldLink RX7 84 "BidMarket$Holdings" "book" "LBidMarket$Rows;", Cond.methodLink RX7 67 yX2_becomeEmpty, Cond.methodLink RX7 75 yX4_empty, Cond.instanceMethod yX4_empty, Cond.selects RX4 yX4_empty yX4_empty, Cond.code yX4_empty cX4_empty 1 (some .int), Cond.methodLink RL 17 yX8_size, Cond.instanceMethod yX8_size, Cond.selects RX8 yX8_size yX8_size, Cond.code yX8_size cX8_size 4 (some .int), Cond.constantLong RX8 159 (8), Cond.fieldLink RX8 111 "BidMarketModel" "seen" "I", Cond.fieldLink RX8 114 "BidMarketModel" "plans" "I", Cond.fieldLink RX8 117 "BidMarketModel" "books" "I", Cond.methodLink RX8 92 yX8_in, Cond.static yX8_in]
def wsL_law_r8 : List Cond := [Cond.code yX8_in cX8_in 6 (some .boolean), Cond.methodLink RX8 161 yX8_free, Cond.instanceMethod yX8_free, Cond.selects RX8 yX8_free yX8_free, Cond.code yX8_free cX8_free 2 none, Cond.methodLink RL 18 yX7_worth, Cond.instanceMethod yX7_worth, Cond.selects RX7 yX7_worth yX7_worth, Cond.code yX7_worth cX7_worth 5 (some .int), Cond.methodLink RX7 87 yX2_has, Cond.instanceMethod yX2_has, Cond.selects RX2 yX2_has yX2_has, Cond.code yX2_has cX2_has 2 (some .boolean), Cond.methodLink RX7 91 yX7_shownWorth, Cond.instanceMethod yX7_shownWorth, Cond.selects RX7 yX7_shownWorth yX7_shownWorth, Cond.code yX7_shownWorth cX7_shownWorth 3 (some .int), Cond.fieldLink RX7 292 "BidMarket$Market" "worths" "[[I", Cond.methodLink RX7 138 yX2_allows, Cond.instanceMethod yX2_allows, Cond.selects RX2 yX2_allows yX2_allows, Cond.code yX2_allows cX2_allows 3 (some .boolean), Cond.methodLink RX7 95 yX2_becomeWorth, Cond.instanceMethod yX2_becomeWorth]
def wsL_law_r9 : List Cond := [Cond.selects RX2 yX2_becomeWorth yX2_becomeWorth, Cond.code yX2_becomeWorth cX2_becomeWorth 4 none, Cond.methodLink RX2 52 yX2_giveUp, Cond.instanceMethod yX2_giveUp, Cond.selects RX2 yX2_giveUp yX2_giveUp, Cond.code yX2_giveUp cX2_giveUp 3 none, Cond.methodLink RL 22 yX8_worth, Cond.instanceMethod yX8_worth, Cond.selects RX8 yX8_worth yX8_worth, Cond.code yX8_worth cX8_worth 4 (some .int), Cond.constantLong RX8 167 (-1), Cond.constantLong RX8 169 (99), Cond.methodLink RX8 164 yX8_isPair, Cond.instanceMethod yX8_isPair, Cond.selects RX8 yX8_isPair yX8_isPair, Cond.code yX8_isPair cX8_isPair 3 (some .boolean), Cond.methodLink RX8 96 yX8_isOne, Cond.instanceMethod yX8_isOne, Cond.selects RX8 yX8_isOne yX8_isOne, Cond.code yX8_isOne cX8_isOne 2 (some .boolean), Cond.methodLink RX8 171 yX8_becomes, Cond.instanceMethod yX8_becomes, Cond.selects RX8 yX8_becomes yX8_becomes, Cond.code yX8_becomes cX8_becomes 5 (some .int)]
def wsL_law_r10 : List Cond := [Cond.methodLink RX8 155 yX8_loses, Cond.instanceMethod yX8_loses, Cond.selects RX8 yX8_loses yX8_loses, Cond.code yX8_loses cX8_loses 2 none, Cond.methodLink RL 23 yX7_step, Cond.instanceMethod yX7_step, Cond.selects RX7 yX7_step yX7_step, Cond.code yX7_step cX7_step 3 (some .int), Cond.fieldLink RX7 102 "BidMarket$Market" "pace" "I", Cond.methodLink RX7 99 yX7_isStep, Cond.static yX7_isStep, Cond.code yX7_isStep cX7_isStep 1 (some .boolean), Cond.methodLink RL 26 yX8_step, Cond.instanceMethod yX8_step, Cond.selects RX8 yX8_step yX8_step, Cond.code yX8_step cX8_step 3 (some .int), Cond.constantLong RX8 175 (50), Cond.methodLink RL 27 yX7_feed, Cond.instanceMethod yX7_feed, Cond.selects RX7 yX7_feed yX7_feed, Cond.code yX7_feed cX7_feed 2 (some .int), Cond.methodLink RX7 105 yX6_append, Cond.instanceMethod yX6_append, Cond.selects RX6 yX6_append yX6_append]
def wsL_law_r11 : List Cond := [Cond.code yX6_append cX6_append 2 (some .int), Cond.methodLink RL 30 yX8_feed, Cond.instanceMethod yX8_feed, Cond.selects RX8 yX8_feed yX8_feed, Cond.code yX8_feed cX8_feed 2 (some .int), Cond.constantLong RX8 209 (127), Cond.fieldLink RX8 180 "BidMarketModel" "texted" "I", Cond.methodLink RL 31 yX7_read, Cond.instanceMethod yX7_read, Cond.selects RX7 yX7_read yX7_read, Cond.code yX7_read cX7_read 5 (some .int), Cond.fieldLink RX7 112 "BidMarket$Text" "clauses" "I", Cond.fieldLink RX7 115 "BidMarket$Text" "at" "I", Cond.fieldLink RX7 118 "BidMarket$Text" "kind" "I", Cond.fieldLink RX7 124 "BidMarket$Text" "persons" "[I", Cond.fieldLink RX7 128 "BidMarket$Text" "things" "[I", Cond.fieldLink RX7 131 "BidMarket$Text" "worths" "[I", Cond.methodLink RX7 109 yX6_findClauses, Cond.instanceMethod yX6_findClauses, Cond.selects RX6 yX6_findClauses yX6_findClauses, Cond.code yX6_findClauses cX6_findClauses 3 none, Cond.methodLink RX6 37 yX6_findClause, Cond.instanceMethod yX6_findClause, Cond.selects RX6 yX6_findClause yX6_findClause]
def wsL_law_r12 : List Cond := [Cond.code yX6_findClause cX6_findClause 5 none, Cond.methodLink RX6 50 yX6_findNumber, Cond.instanceMethod yX6_findNumber, Cond.selects RX6 yX6_findNumber yX6_findNumber, Cond.code yX6_findNumber cX6_findNumber 5 (some .int), Cond.methodLink RX6 44 yX6_sign, Cond.instanceMethod yX6_sign, Cond.selects RX6 yX6_sign yX6_sign, Cond.code yX6_sign cX6_sign 1 (some .int), Cond.methodLink RX6 54 yX6_findWorth, Cond.instanceMethod yX6_findWorth, Cond.selects RX6 yX6_findWorth yX6_findWorth, Cond.code yX6_findWorth cX6_findWorth 1 (some .int), Cond.methodLink RX6 57 yX6_isDigit, Cond.static yX6_isDigit, Cond.code yX6_isDigit cX6_isDigit 1 (some .boolean), Cond.methodLink RX6 61 yX6_findDigits, Cond.instanceMethod yX6_findDigits, Cond.selects RX6 yX6_findDigits yX6_findDigits, Cond.code yX6_findDigits cX6_findDigits 2 (some .int), Cond.methodLink RX6 41 yX6_passBetween, Cond.instanceMethod yX6_passBetween, Cond.selects RX6 yX6_passBetween yX6_passBetween, Cond.code yX6_passBetween cX6_passBetween 1 none]
def wsL_law_r13 : List Cond := [Cond.methodLink RX7 121 yX0_tell, Cond.instanceMethod yX0_tell, Cond.selects RX0 yX0_tell yX0_tell, Cond.code yX0_tell cX0_tell 4 none, Cond.methodLink RX7 134 yX6_empty, Cond.instanceMethod yX6_empty, Cond.selects RX6 yX6_empty yX6_empty, Cond.code yX6_empty cX6_empty 1 none, Cond.methodLink RL 35 yX8_read, Cond.instanceMethod yX8_read, Cond.selects RX8 yX8_read yX8_read, Cond.code yX8_read cX8_read 1 (some .int), Cond.fieldLink RX8 186 "BidMarketModel" "what" "I", Cond.fieldLink RX8 202 "BidMarketModel" "whole" "I", Cond.fieldLink RX8 177 "BidMarketModel" "at" "I", Cond.methodLink RX8 211 yX8_goesThrough, Cond.instanceMethod yX8_goesThrough, Cond.selects RX8 yX8_goesThrough yX8_goesThrough, Cond.code yX8_goesThrough cX8_goesThrough 2 none, Cond.methodLink RX8 205 yX8_clause, Cond.instanceMethod yX8_clause, Cond.selects RX8 yX8_clause yX8_clause, Cond.code yX8_clause cX8_clause 5 none, Cond.methodLink RX8 196 yX8_takesOne]
def wsL_law_r14 : List Cond := [Cond.instanceMethod yX8_takesOne, Cond.selects RX8 yX8_takesOne yX8_takesOne, Cond.code yX8_takesOne cX8_takesOne 5 (some .int), Cond.methodLink RX8 189 yX8_takes, Cond.instanceMethod yX8_takes, Cond.selects RX8 yX8_takes yX8_takes, Cond.code yX8_takes cX8_takes 4 (some .int), Cond.methodLink RX8 183 yX8_here, Cond.instanceMethod yX8_here, Cond.selects RX8 yX8_here yX8_here, Cond.code yX8_here cX8_here 1 (some .int), Cond.methodLink RX8 199 yX8_takesWorth, Cond.instanceMethod yX8_takesWorth, Cond.selects RX8 yX8_takesWorth yX8_takesWorth, Cond.code yX8_takesWorth cX8_takesWorth 2 (some .int), Cond.constantLong RX8 192 (48), Cond.constantLong RX8 194 (57), Cond.methodLink RX8 214 yX8_tellsWrong, Cond.instanceMethod yX8_tellsWrong, Cond.selects RX8 yX8_tellsWrong yX8_tellsWrong, Cond.code yX8_tellsWrong cX8_tellsWrong 4 none, Cond.methodLink RL 36 yX7_of, Cond.instanceMethod yX7_of, Cond.selects RX7 yX7_of yX7_of]
def wsL_law_r15 : List Cond := [Cond.code yX7_of cX7_of 4 (some .long), Cond.constantLong RX7 136 (-9223372036854775808), Cond.methodLink RX7 142 yX2_gainOf, Cond.instanceMethod yX2_gainOf, Cond.selects RX2 yX2_gainOf yX2_gainOf, Cond.code yX2_gainOf cX2_gainOf 3 (some .int), Cond.methodLink RL 40 yX8_of, Cond.instanceMethod yX8_of, Cond.selects RX8 yX8_of yX8_of, Cond.code yX8_of cX8_of 4 (some .long), Cond.constantLong RX8 233 (-9223372036854775808), Cond.constantLong RX8 235 (-5), Cond.methodLink RX8 138 yX8_may, Cond.instanceMethod yX8_may, Cond.selects RX8 yX8_may yX8_may, Cond.code yX8_may cX8_may 3 (some .boolean), Cond.methodLink RX8 142 yX8_gain, Cond.instanceMethod yX8_gain, Cond.selects RX8 yX8_gain yX8_gain, Cond.code yX8_gain cX8_gain 3 (some .int), Cond.methodLink RL 41 yX7_person, Cond.instanceMethod yX7_person, Cond.selects RX7 yX7_person yX7_person, Cond.code yX7_person cX7_person 3 (some .int)]
def wsL_law_r16 : List Cond := [Cond.fieldLink RX7 145 "BidMarket$Market" "thingOf" "[I", Cond.methodLink RX7 148 yX7_shownNumber, Cond.static yX7_shownNumber, Cond.code yX7_shownNumber cX7_shownNumber 1 (some .int), Cond.methodLink RX7 151 yX2_bestOf, Cond.instanceMethod yX2_bestOf, Cond.selects RX2 yX2_bestOf yX2_bestOf, Cond.code yX2_bestOf cX2_bestOf 2 (some .int), Cond.methodLink RX2 55 yX2_bestBut, Cond.instanceMethod yX2_bestBut, Cond.selects RX2 yX2_bestBut yX2_bestBut, Cond.code yX2_bestBut cX2_bestBut 7 (some .int), Cond.methodLink RX2 59 yX2_allows, Cond.methodLink RX2 63 yX2_gainOf, Cond.methodLink RX7 154 yX2_envyOf, Cond.instanceMethod yX2_envyOf, Cond.selects RX2 yX2_envyOf yX2_envyOf, Cond.code yX2_envyOf cX2_envyOf 4 (some .int), Cond.methodLink RX2 91 yX2_ownGain, Cond.instanceMethod yX2_ownGain, Cond.selects RX2 yX2_ownGain yX2_ownGain, Cond.code yX2_ownGain cX2_ownGain 3 (some .int), Cond.methodLink RX7 157 yX2_allowedTo, Cond.instanceMethod yX2_allowedTo]
def wsL_law_r17 : List Cond := [Cond.selects RX2 yX2_allowedTo yX2_allowedTo, Cond.code yX2_allowedTo cX2_allowedTo 4 (some .int), Cond.methodLink RX7 160 yJ6_bitCount_0f7a4, Cond.static yJ6_bitCount_0f7a4, Cond.initialized RJ6, Cond.code yJ6_bitCount_0f7a4 cJ6_bitCount_0f7a4 1 (some .int), Cond.constant RJ6 265 (1431655765), Cond.constant RJ6 266 (858993459), Cond.constant RJ6 267 (252645135), Cond.methodLink RL 45 yX8_person, Cond.instanceMethod yX8_person, Cond.selects RX8 yX8_person yX8_person, Cond.code yX8_person cX8_person 3 (some .int), Cond.methodLink RX8 146 yX8_best, Cond.instanceMethod yX8_best, Cond.selects RX8 yX8_best yX8_best, Cond.code yX8_best cX8_best 4 (some .int), Cond.methodLink RX8 237 yX8_envy, Cond.instanceMethod yX8_envy, Cond.selects RX8 yX8_envy yX8_envy, Cond.code yX8_envy cX8_envy 5 (some .int), Cond.methodLink RX8 240 yX8_open, Cond.instanceMethod yX8_open, Cond.selects RX8 yX8_open yX8_open]
def wsL_law_r18 : List Cond := [Cond.code yX8_open cX8_open 4 (some .int), Cond.methodLink RX8 243 yX8_bits, Cond.static yX8_bits, Cond.code yX8_bits cX8_bits 3 (some .int), Cond.methodLink RL 46 yX7_thing, Cond.instanceMethod yX7_thing, Cond.selects RX7 yX7_thing yX7_thing, Cond.code yX7_thing cX7_thing 3 (some .int), Cond.fieldLink RX7 165 "BidMarket$Market" "prices" "[I", Cond.fieldLink RX7 168 "BidMarket$Market" "personOf" "[I", Cond.methodLink RX7 171 yX2_wantersOf, Cond.instanceMethod yX2_wantersOf, Cond.selects RX2 yX2_wantersOf yX2_wantersOf, Cond.code yX2_wantersOf cX2_wantersOf 4 (some .int), Cond.methodLink RX2 74 yX2_bestOf, Cond.methodLink RL 49 yX8_thing, Cond.instanceMethod yX8_thing, Cond.selects RX8 yX8_thing yX8_thing, Cond.code yX8_thing cX8_thing 3 (some .int), Cond.methodLink RX8 246 yX8_wanted, Cond.instanceMethod yX8_wanted, Cond.selects RX8 yX8_wanted yX8_wanted, Cond.code yX8_wanted cX8_wanted 4 (some .int), Cond.methodLink RL 50 yX7_bid]
def wsL_law_r19 : List Cond := [Cond.instanceMethod yX7_bid, Cond.selects RX7 yX7_bid yX7_bid, Cond.code yX7_bid cX7_bid 1 (some .int), Cond.methodLink RX7 174 yX2_letNextBid, Cond.instanceMethod yX2_letNextBid, Cond.selects RX2 yX2_letNextBid yX2_letNextBid, Cond.code yX2_letNextBid cX2_letNextBid 4 (some .int), Cond.methodLink RX2 70 yX2_nextBidder, Cond.instanceMethod yX2_nextBidder, Cond.selects RX2 yX2_nextBidder yX2_nextBidder, Cond.code yX2_nextBidder cX2_nextBidder 2 (some .int), Cond.methodLink RX2 66 yX2_hasBest, Cond.instanceMethod yX2_hasBest, Cond.selects RX2 yX2_hasBest yX2_hasBest, Cond.code yX2_hasBest cX2_hasBest 3 (some .boolean), Cond.methodLink RX2 78 yX2_offerFor, Cond.instanceMethod yX2_offerFor, Cond.selects RX2 yX2_offerFor yX2_offerFor, Cond.code yX2_offerFor cX2_offerFor 5 (some .int), Cond.methodLink RL 53 yX8_bid, Cond.instanceMethod yX8_bid, Cond.selects RX8 yX8_bid yX8_bid, Cond.code yX8_bid cX8_bid 2 (some .int), Cond.methodLink RX8 221 yX8_next]
def wsL_law_r20 : List Cond := [Cond.instanceMethod yX8_next, Cond.selects RX8 yX8_next yX8_next, Cond.code yX8_next cX8_next 2 (some .int), Cond.methodLink RX8 224 yX8_bids, Cond.instanceMethod yX8_bids, Cond.selects RX8 yX8_bids yX8_bids, Cond.code yX8_bids cX8_bids 3 (some .int), Cond.methodLink RX8 152 yX8_offer, Cond.instanceMethod yX8_offer, Cond.selects RX8 yX8_offer yX8_offer, Cond.code yX8_offer cX8_offer 3 (some .int), Cond.methodLink RX8 149 yX8_second, Cond.instanceMethod yX8_second, Cond.selects RX8 yX8_second yX8_second, Cond.code yX8_second cX8_second 5 (some .int), Cond.methodLink RL 54 yX7_auction, Cond.instanceMethod yX7_auction, Cond.selects RX7 yX7_auction yX7_auction, Cond.code yX7_auction cX7_auction 1 (some .int), Cond.methodLink RX7 177 yX2_runAuction, Cond.instanceMethod yX2_runAuction, Cond.selects RX2 yX2_runAuction yX2_runAuction, Cond.code yX2_runAuction cX2_runAuction 3 (some .int), Cond.constant RX2 84 (1000000)]
def wsL_law_r21 : List Cond := [Cond.methodLink RX2 81 yX2_letNextBid, Cond.methodLink RX7 180 yX7_reported, Cond.instanceMethod yX7_reported, Cond.selects RX7 yX7_reported yX7_reported, Cond.code yX7_reported cX7_reported 5 (some .int), Cond.fieldLink RX7 295 "BidMarket$Market" "breaker" "I", Cond.methodLink RX7 298 yX2_leastWithout, Cond.instanceMethod yX2_leastWithout, Cond.selects RX2 yX2_leastWithout yX2_leastWithout, Cond.code yX2_leastWithout cX2_leastWithout 2 (some .int), Cond.methodLink RX7 186 yX2_ownersCounted, Cond.instanceMethod yX2_ownersCounted, Cond.selects RX2 yX2_ownersCounted yX2_ownersCounted, Cond.code yX2_ownersCounted cX2_ownersCounted 3 (some .int), Cond.methodLink RL 57 yX8_auction, Cond.instanceMethod yX8_auction, Cond.selects RX8 yX8_auction yX8_auction, Cond.code yX8_auction cX8_auction 2 (some .int), Cond.fieldLink RX8 218 "BidMarketModel" "isBroken" "Z", Cond.methodLink RX8 230 yX8_bidsAll, Cond.instanceMethod yX8_bidsAll, Cond.selects RX8 yX8_bidsAll yX8_bidsAll, Cond.code yX8_bidsAll cX8_bidsAll 4 (some .int), Cond.methodLink RX8 227 yX8_tellsLeft]
def wsL_law_r22 : List Cond := [Cond.instanceMethod yX8_tellsLeft, Cond.selects RX8 yX8_tellsLeft yX8_tellsLeft, Cond.code yX8_tellsLeft cX8_tellsLeft 4 none, Cond.methodLink RL 58 yX7_scaled, Cond.instanceMethod yX7_scaled, Cond.selects RX7 yX7_scaled yX7_scaled, Cond.code yX7_scaled cX7_scaled 1 (some .int), Cond.methodLink RX7 183 yX2_runScaled, Cond.instanceMethod yX2_runScaled, Cond.selects RX2 yX2_runScaled yX2_runScaled, Cond.code yX2_runScaled cX2_runScaled 4 (some .int), Cond.fieldLink RX2 85 "BidMarket$Market" "SCALE" "[I", Cond.methodLink RX2 88 yX2_runAuction, Cond.methodLink RL 61 yX8_scaled, Cond.instanceMethod yX8_scaled, Cond.selects RX8 yX8_scaled yX8_scaled, Cond.code yX8_scaled cX8_scaled 5 (some .int), Cond.methodLink RL 62 yX7_fresh, Cond.instanceMethod yX7_fresh, Cond.selects RX7 yX7_fresh yX7_fresh, Cond.code yX7_fresh cX7_fresh 2 (some .int), Cond.methodLink RX7 189 yX2_startAnew, Cond.methodLink RL 65 yX8_fresh, Cond.instanceMethod yX8_fresh]
def wsL_law_r23 : List Cond := [Cond.selects RX8 yX8_fresh yX8_fresh, Cond.code yX8_fresh cX8_fresh 1 (some .int), Cond.methodLink RL 66 yX7_leave, Cond.instanceMethod yX7_leave, Cond.selects RX7 yX7_leave yX7_leave, Cond.code yX7_leave cX7_leave 3 (some .int), Cond.methodLink RX7 192 yX2_giveUp, Cond.methodLink RL 69 yX8_leave, Cond.instanceMethod yX8_leave, Cond.selects RX8 yX8_leave yX8_leave, Cond.code yX8_leave cX8_leave 3 (some .int), Cond.methodLink RL 70 yX7_told, Cond.instanceMethod yX7_told, Cond.selects RX7 yX7_told yX7_told, Cond.code yX7_told cX7_told 2 (some .int), Cond.methodLink RX7 195 yX2_worthTogether, Cond.instanceMethod yX2_worthTogether, Cond.selects RX2 yX2_worthTogether yX2_worthTogether, Cond.code yX2_worthTogether cX2_worthTogether 3 (some .int), Cond.methodLink RX7 198 yX3_mostWorth, Cond.instanceMethod yX3_mostWorth, Cond.selects RX3 yX3_mostWorth yX3_mostWorth, Cond.code yX3_mostWorth cX3_mostWorth 4 (some .int), Cond.fieldLink RX3 15 "BidMarket$Market" "n" "I"]
def wsL_law_r24 : List Cond := [Cond.methodLink RX3 21 yX3_mostOfSet, Cond.instanceMethod yX3_mostOfSet, Cond.selects RX3 yX3_mostOfSet yX3_mostOfSet, Cond.code yX3_mostOfSet cX3_mostOfSet 7 (some .int), Cond.fieldLink RX3 35 "BidMarket$Market" "worths" "[[I", Cond.methodLink RX3 39 Lib.Math.max.name, Cond.static Lib.Math.max.name, Cond.initialized "java/lang/Math", Cond.code Lib.Math.max.name Lib.Math.max.code 2 (some .int), Cond.methodLink RX3 25 yJ6_bitCount_0f7a4, Cond.methodLink RX3 31 yX2_allows, Cond.methodLink RX7 202 yX2_isSure, Cond.instanceMethod yX2_isSure, Cond.selects RX2 yX2_isSure yX2_isSure, Cond.code yX2_isSure cX2_isSure 3 (some .boolean), Cond.methodLink RX7 206 yX3_leastLacking, Cond.instanceMethod yX3_leastLacking, Cond.selects RX3 yX3_leastLacking yX3_leastLacking, Cond.code yX3_leastLacking cX3_leastLacking 7 (some .int), Cond.methodLink RX3 45 yX3_allowedToSome, Cond.instanceMethod yX3_allowedToSome, Cond.selects RX3 yX3_allowedToSome yX3_allowedToSome, Cond.code yX3_allowedToSome cX3_allowedToSome 5 (some .int), Cond.methodLink RX3 48 yX2_allowedTo]
def wsL_law_r25 : List Cond := [Cond.methodLink RX7 209 yX2_nextBidder, Cond.methodLink RX7 212 yX2_nextOffer, Cond.instanceMethod yX2_nextOffer, Cond.selects RX2 yX2_nextOffer yX2_nextOffer, Cond.code yX2_nextOffer cX2_nextOffer 3 (some .int), Cond.methodLink RX7 215 yX2_pricesTogether, Cond.instanceMethod yX2_pricesTogether, Cond.selects RX2 yX2_pricesTogether yX2_pricesTogether, Cond.code yX2_pricesTogether cX2_pricesTogether 3 (some .int), Cond.methodLink RL 73 yX8_told, Cond.instanceMethod yX8_told, Cond.selects RX8 yX8_told yX8_told, Cond.code yX8_told cX8_told 2 (some .int), Cond.methodLink RX8 254 yX8_sum, Cond.instanceMethod yX8_sum, Cond.selects RX8 yX8_sum yX8_sum, Cond.code yX8_sum cX8_sum 3 (some .int), Cond.methodLink RX8 257 yX8_most, Cond.instanceMethod yX8_most, Cond.selects RX8 yX8_most yX8_most, Cond.code yX8_most cX8_most 5 (some .int), Cond.methodLink RX8 249 Lib.Math.max.name, Cond.methodLink RX8 260 yX8_sure, Cond.instanceMethod yX8_sure]
def wsL_law_r26 : List Cond := [Cond.selects RX8 yX8_sure yX8_sure, Cond.code yX8_sure cX8_sure 2 (some .int), Cond.methodLink RX8 263 yX8_lack, Cond.instanceMethod yX8_lack, Cond.selects RX8 yX8_lack yX8_lack, Cond.code yX8_lack cX8_lack 5 (some .int), Cond.methodLink RX8 266 yX8_havers, Cond.instanceMethod yX8_havers, Cond.selects RX8 yX8_havers yX8_havers, Cond.code yX8_havers cX8_havers 3 (some .int), Cond.methodLink RX8 269 yX8_prices, Cond.instanceMethod yX8_prices, Cond.selects RX8 yX8_prices yX8_prices, Cond.code yX8_prices cX8_prices 3 (some .int), Cond.methodLink RL 74 yX7_wrong, Cond.instanceMethod yX7_wrong, Cond.selects RX7 yX7_wrong yX7_wrong, Cond.code yX7_wrong cX7_wrong 2 (some .int), Cond.fieldLink RX7 218 "BidMarket$Complaint" "kind" "I", Cond.fieldLink RX7 219 "BidMarket$Complaint" "cause" "I", Cond.fieldLink RX7 222 "BidMarket$Complaint" "causeOfCause" "I", Cond.methodLink RL 77 yX8_wrong, Cond.instanceMethod yX8_wrong, Cond.selects RX8 yX8_wrong yX8_wrong]
def wsL_law_r27 : List Cond := [Cond.code yX8_wrong cX8_wrong 2 (some .int), Cond.methodLink RL 78 yX7_see, Cond.instanceMethod yX7_see, Cond.selects RX7 yX7_see yX7_see, Cond.code yX7_see cX7_see 3 (some .int), Cond.methodLink RX7 225 yX4_append, Cond.instanceMethod yX4_append, Cond.selects RX4 yX4_append yX4_append, Cond.code yX4_append cX4_append 3 (some .int), Cond.methodLink RL 81 yX8_see, Cond.instanceMethod yX8_see, Cond.selects RX8 yX8_see yX8_see, Cond.code yX8_see cX8_see 3 (some .int), Cond.methodLink RL 82 yX7_fits, Cond.instanceMethod yX7_fits, Cond.selects RX7 yX7_fits yX7_fits, Cond.code yX7_fits cX7_fits 7 (some .int), Cond.methodLink RX7 227 yX2_become, Cond.instanceMethod yX2_become, Cond.selects RX2 yX2_become yX2_become, Cond.code yX2_become cX2_become 3 none, Cond.methodLink RX2 43 arraycopyName, Cond.native arraycopyName, Cond.static arraycopyName]
def wsL_law_r28 : List Cond := [Cond.initialized "java/lang/System", Cond.methodLink RX7 231 yX7_goesAsSeen, Cond.instanceMethod yX7_goesAsSeen, Cond.selects RX7 yX7_goesAsSeen yX7_goesAsSeen, Cond.code yX7_goesAsSeen cX7_goesAsSeen 4 (some .boolean), Cond.fieldLink RX7 239 "BidMarket$Rows" "used" "I", Cond.fieldLink RX7 242 "BidMarket$Rows" "left" "[I", Cond.fieldLink RX7 245 "BidMarket$Rows" "right" "[I", Cond.methodLink RL 85 yX8_fits, Cond.instanceMethod yX8_fits, Cond.selects RX8 yX8_fits yX8_fits, Cond.code yX8_fits cX8_fits 8 (some .int), Cond.methodLink RX8 272 yX8_minds, Cond.instanceMethod yX8_minds, Cond.selects RX8 yX8_minds yX8_minds, Cond.code yX8_minds cX8_minds 1 none, Cond.fieldLink RX8 135 "BidMarketModel" "mindStep" "I", Cond.methodLink RX8 131 yX8_lays, Cond.static yX8_lays, Cond.code yX8_lays cX8_lays 3 none, Cond.methodLink RX8 275 yX8_triesAuction, Cond.instanceMethod yX8_triesAuction, Cond.selects RX8 yX8_triesAuction yX8_triesAuction, Cond.code yX8_triesAuction cX8_triesAuction 1 none]
def wsL_law_r29 : List Cond := [Cond.methodLink RX8 278 yX8_isAllSeen, Cond.instanceMethod yX8_isAllSeen, Cond.selects RX8 yX8_isAllSeen yX8_isAllSeen, Cond.code yX8_isAllSeen cX8_isAllSeen 2 (some .boolean), Cond.methodLink RX8 282 yX8_forgets, Cond.instanceMethod yX8_forgets, Cond.selects RX8 yX8_forgets yX8_forgets, Cond.code yX8_forgets cX8_forgets 1 none, Cond.methodLink RL 86 yX7_odds, Cond.instanceMethod yX7_odds, Cond.selects RX7 yX7_odds yX7_odds, Cond.code yX7_odds cX7_odds 6 (some .long), Cond.methodLink RX7 235 yX7_lowestTerms, Cond.static yX7_lowestTerms, Cond.code yX7_lowestTerms cX7_lowestTerms 5 (some .long), Cond.methodLink RL 90 yX8_odds, Cond.instanceMethod yX8_odds, Cond.selects RX8 yX8_odds yX8_odds, Cond.code yX8_odds cX8_odds 6 (some .long), Cond.constantLong RX8 285 (10), Cond.methodLink RX8 287 yX8_lowest, Cond.static yX8_lowest, Cond.code yX8_lowest cX8_lowest 11 (some .long), Cond.methodLink RL 91 yX7_mean]
def wsL_law_r30 : List Cond := [Cond.instanceMethod yX7_mean, Cond.selects RX7 yX7_mean yX7_mean, Cond.code yX7_mean cX7_mean 2 (some .long), Cond.methodLink RL 95 yX8_mean, Cond.instanceMethod yX8_mean, Cond.selects RX8 yX8_mean yX8_mean, Cond.code yX8_mean cX8_mean 2 (some .long), Cond.methodLink RL 96 yX7_plan, Cond.instanceMethod yX7_plan, Cond.selects RX7 yX7_plan yX7_plan, Cond.code yX7_plan cX7_plan 3 (some .int), Cond.methodLink RL 99 yX8_plan, Cond.instanceMethod yX8_plan, Cond.selects RX8 yX8_plan yX8_plan, Cond.code yX8_plan cX8_plan 3 (some .int), Cond.constantLong RX8 291 (2), Cond.methodLink RL 100 yX7_ends, Cond.instanceMethod yX7_ends, Cond.selects RX7 yX7_ends yX7_ends, Cond.code yX7_ends cX7_ends 3 (some .int), Cond.methodLink RX7 248 yX7_goOn, Cond.static yX7_goOn, Cond.code yX7_goOn cX7_goOn 3 none, Cond.methodLink RL 103 yX8_ends]
def wsL_law_r31 : List Cond := [Cond.instanceMethod yX8_ends, Cond.selects RX8 yX8_ends yX8_ends, Cond.code yX8_ends cX8_ends 3 (some .int), Cond.methodLink RX8 293 yX8_bid, Cond.methodLink RL 104 yX7_book, Cond.instanceMethod yX7_book, Cond.selects RX7 yX7_book yX7_book, Cond.code yX7_book cX7_book 3 (some .int), Cond.methodLink RL 107 yX8_book, Cond.instanceMethod yX8_book, Cond.selects RX8 yX8_book yX8_book, Cond.code yX8_book cX8_book 3 (some .int), Cond.constantLong RX8 296 (9999), Cond.methodLink RL 108 yX7_looked, Cond.instanceMethod yX7_looked, Cond.selects RX7 yX7_looked yX7_looked, Cond.code yX7_looked cX7_looked 3 (some .int), Cond.methodLink RL 111 yX8_looked, Cond.instanceMethod yX8_looked, Cond.selects RX8 yX8_looked yX8_looked, Cond.code yX8_looked cX8_looked 2 (some .int), Cond.methodLink RL 112 yX7_judge, Cond.instanceMethod yX7_judge, Cond.selects RX7 yX7_judge yX7_judge]
def wsL_law_r32 : List Cond := [Cond.code yX7_judge cX7_judge 5 (some .int), Cond.fieldLink RX7 255 "BidMarket$Tape" "sort" "I", Cond.fieldLink RX7 258 "BidMarket$Tape" "length" "I", Cond.fieldLink RX7 261 "BidMarket$Tape" "items" "[J", Cond.methodLink RX7 252 yX7_isTape, Cond.static yX7_isTape, Cond.code yX7_isTape cX7_isTape 1 (some .boolean), Cond.methodLink RL 115 yX8_judge, Cond.instanceMethod yX8_judge, Cond.selects RX8 yX8_judge yX8_judge, Cond.code yX8_judge cX8_judge 4 (some .int), Cond.methodLink RX8 300 yX8_isTape, Cond.static yX8_isTape, Cond.code yX8_isTape cX8_isTape 1 (some .boolean), Cond.constantLong RX8 298 (5), Cond.methodLink RL 116 yX7_image, Cond.instanceMethod yX7_image, Cond.selects RX7 yX7_image yX7_image, Cond.code yX7_image cX7_image 1 (some .int), Cond.methodLink RX7 265 yX1_become, Cond.instanceMethod yX1_become, Cond.selects RX1 yX1_become yX1_become, Cond.code yX1_become cX1_become 2 none, Cond.methodLink RX1 31 yX2_become]
def wsL_law_r33 : List Cond := [Cond.methodLink RX1 35 yX4_become, Cond.instanceMethod yX4_become, Cond.selects RX4 yX4_become yX4_become, Cond.code yX4_become cX4_become 2 none, Cond.methodLink RX4 22 Lib.Math.min.name, Cond.static Lib.Math.min.name, Cond.code Lib.Math.min.name Lib.Math.min.code 2 (some .int), Cond.methodLink RX4 28 arraycopyName, Cond.methodLink RL 119 yX8_image, Cond.instanceMethod yX8_image, Cond.selects RX8 yX8_image yX8_image, Cond.code yX8_image cX8_image 1 (some .int), Cond.fieldLink RX8 124 "BidMarketModel" "isKept" "Z", Cond.methodLink RX8 127 yX8_passesAll, Cond.instanceMethod yX8_passesAll, Cond.selects RX8 yX8_passesAll yX8_passesAll, Cond.code yX8_passesAll cX8_passesAll 2 (some .int), Cond.fieldLink RX8 100 "BidMarketModel" "keeps" "Z", Cond.fieldLink RX8 104 "BidMarketModel" "spot" "I", Cond.methodLink RX8 107 yX8_passes, Cond.instanceMethod yX8_passes, Cond.selects RX8 yX8_passes yX8_passes, Cond.code yX8_passes cX8_passes 3 (some .int), Cond.methodLink RX8 120 yX8_passesRow]
def wsL_law_r34 : List Cond := [Cond.instanceMethod yX8_passesRow, Cond.selects RX8 yX8_passesRow yX8_passesRow, Cond.code yX8_passesRow cX8_passesRow 3 none, Cond.methodLink RL 120 yX7_undo, Cond.instanceMethod yX7_undo, Cond.selects RX7 yX7_undo yX7_undo, Cond.code yX7_undo cX7_undo 1 (some .int), Cond.methodLink RL 123 yX8_undo, Cond.instanceMethod yX8_undo, Cond.selects RX8 yX8_undo yX8_undo, Cond.code yX8_undo cX8_undo 1 (some .int), Cond.methodLink RL 124 yX7_count, Cond.instanceMethod yX7_count, Cond.selects RX7 yX7_count yX7_count, Cond.code yX7_count cX7_count 2 (some .int), Cond.fieldLink RX7 268 "BidMarket$Text" "length" "I", Cond.methodLink RX7 269 yX2_forbiddenCounted, Cond.instanceMethod yX2_forbiddenCounted, Cond.selects RX2 yX2_forbiddenCounted yX2_forbiddenCounted, Cond.code yX2_forbiddenCounted cX2_forbiddenCounted 3 (some .int), Cond.methodLink RX2 94 yX2_allowedTo, Cond.methodLink RX2 97 yJ6_bitCount_0f7a4, Cond.methodLink RL 127 yX8_count, Cond.instanceMethod yX8_count]
def wsL_law_r35 : List Cond := [Cond.selects RX8 yX8_count yX8_count, Cond.code yX8_count cX8_count 2 (some .int), Cond.methodLink RX8 303 yX8_forbidden, Cond.instanceMethod yX8_forbidden, Cond.selects RX8 yX8_forbidden yX8_forbidden, Cond.code yX8_forbidden cX8_forbidden 3 (some .int), Cond.methodLink RL 128 yX7_tape, Cond.instanceMethod yX7_tape, Cond.selects RX7 yX7_tape yX7_tape, Cond.code yX7_tape cX7_tape 4 (some .int), Cond.methodLink RX7 272 yX5_becomeRow, Cond.instanceMethod yX5_becomeRow, Cond.selects RX5 yX5_becomeRow yX5_becomeRow, Cond.code yX5_becomeRow cX5_becomeRow 4 none, Cond.methodLink RL 131 yX8_tape, Cond.instanceMethod yX8_tape, Cond.selects RX8 yX8_tape yX8_tape, Cond.code yX8_tape cX8_tape 5 (some .int), Cond.constantLong RX8 306 (4), Cond.methodLink RL 134 yX7_item, Cond.instanceMethod yX7_item, Cond.selects RX7 yX7_item yX7_item, Cond.code yX7_item cX7_item 5 (some .int), Cond.methodLink RX7 276 yX5_hasPlace]
def wsL_law_r36 : List Cond := [Cond.instanceMethod yX5_hasPlace, Cond.selects RX5 yX5_hasPlace yX5_hasPlace, Cond.code yX5_hasPlace cX5_hasPlace 2 (some .boolean), Cond.methodLink RX7 279 yX5_asItem, Cond.instanceMethod yX5_asItem, Cond.selects RX5 yX5_asItem yX5_asItem, Cond.code yX5_asItem cX5_asItem 3 (some .long), Cond.methodLink RL 138 yX8_item, Cond.instanceMethod yX8_item, Cond.selects RX8 yX8_item yX8_item, Cond.code yX8_item cX8_item 5 (some .int), Cond.methodLink RX8 308 yX8_fit, Cond.static yX8_fit, Cond.code yX8_fit cX8_fit 3 (some .long), Cond.methodLink RL 139 yX7_peek, Cond.instanceMethod yX7_peek, Cond.selects RX7 yX7_peek yX7_peek, Cond.code yX7_peek cX7_peek 3 (some .long), Cond.methodLink RL 142 yX8_peek, Cond.instanceMethod yX8_peek, Cond.selects RX8 yX8_peek yX8_peek, Cond.code yX8_peek cX8_peek 3 (some .long), Cond.methodLink RL 143 yX7_shift, Cond.instanceMethod yX7_shift]
def wsL_law_r37 : List Cond := [Cond.selects RX7 yX7_shift yX7_shift, Cond.code yX7_shift cX7_shift 8 (some .int), Cond.methodLink RX7 286 arraycopyName, Cond.methodLink RX7 283 yX5_hasRun, Cond.instanceMethod yX5_hasRun, Cond.selects RX5 yX5_hasRun yX5_hasRun, Cond.code yX5_hasRun cX5_hasRun 3 (some .boolean), Cond.methodLink RL 147 yX8_shift, Cond.instanceMethod yX8_shift, Cond.selects RX8 yX8_shift yX8_shift, Cond.code yX8_shift cX8_shift 7 (some .int)]
def wsL_law : List Cond := (wsL_law_r1 ++ (wsL_law_r2 ++ (wsL_law_r3 ++ (wsL_law_r4 ++ (wsL_law_r5 ++ (wsL_law_r6 ++ (wsL_law_r7 ++ (wsL_law_r8 ++ (wsL_law_r9 ++ (wsL_law_r10 ++ (wsL_law_r11 ++ (wsL_law_r12 ++ (wsL_law_r13 ++ (wsL_law_r14 ++ (wsL_law_r15 ++ (wsL_law_r16 ++ (wsL_law_r17 ++ (wsL_law_r18 ++ (wsL_law_r19 ++ (wsL_law_r20 ++ (wsL_law_r21 ++ (wsL_law_r22 ++ (wsL_law_r23 ++ (wsL_law_r24 ++ (wsL_law_r25 ++ (wsL_law_r26 ++ (wsL_law_r27 ++ (wsL_law_r28 ++ (wsL_law_r29 ++ (wsL_law_r30 ++ (wsL_law_r31 ++ (wsL_law_r32 ++ (wsL_law_r33 ++ (wsL_law_r34 ++ (wsL_law_r35 ++ (wsL_law_r36 ++ wsL_law_r37)))))))))))))))))))))))))))))))))))) ++ wsX70 ++ wsX80 ++ wsX10 ++ wsX20 ++ wsX30 ++ wsX60 ++ wsX00 ++ wsX50 ++ wsX40 ++ ([] : List Cond)
theorem inlX0 : ∀ w ∈ wsX00, w ∈ wsL_law := fun _ h => List.mem_append_left _ (List.mem_append_left _ (List.mem_append_left _ (List.mem_append_right _ h)))
theorem inlX1 : ∀ w ∈ wsX10, w ∈ wsL_law := fun _ h => List.mem_append_left _ (List.mem_append_left _ (List.mem_append_left _ (List.mem_append_left _ (List.mem_append_left _ (List.mem_append_left _ (List.mem_append_left _ (List.mem_append_right _ h)))))))
theorem inlX2 : ∀ w ∈ wsX20, w ∈ wsL_law := fun _ h => List.mem_append_left _ (List.mem_append_left _ (List.mem_append_left _ (List.mem_append_left _ (List.mem_append_left _ (List.mem_append_left _ (List.mem_append_right _ h))))))
theorem inlX3 : ∀ w ∈ wsX30, w ∈ wsL_law := fun _ h => List.mem_append_left _ (List.mem_append_left _ (List.mem_append_left _ (List.mem_append_left _ (List.mem_append_left _ (List.mem_append_right _ h)))))
theorem inlX4 : ∀ w ∈ wsX40, w ∈ wsL_law := fun _ h => List.mem_append_left _ (List.mem_append_right _ h)
theorem inlX5 : ∀ w ∈ wsX50, w ∈ wsL_law := fun _ h => List.mem_append_left _ (List.mem_append_left _ (List.mem_append_right _ h))
theorem inlX6 : ∀ w ∈ wsX60, w ∈ wsL_law := fun _ h => List.mem_append_left _ (List.mem_append_left _ (List.mem_append_left _ (List.mem_append_left _ (List.mem_append_right _ h))))
theorem inlX7 : ∀ w ∈ wsX70, w ∈ wsL_law := fun _ h => List.mem_append_left _ (List.mem_append_left _ (List.mem_append_left _ (List.mem_append_left _ (List.mem_append_left _ (List.mem_append_left _ (List.mem_append_left _ (List.mem_append_left _ (List.mem_append_left _ (List.mem_append_right _ h)))))))))
theorem inlX8 : ∀ w ∈ wsX80, w ∈ wsL_law := fun _ h => List.mem_append_left _ (List.mem_append_left _ (List.mem_append_left _ (List.mem_append_left _ (List.mem_append_left _ (List.mem_append_left _ (List.mem_append_left _ (List.mem_append_left _ (List.mem_append_right _ h))))))))
theorem inJ6 : ∀ w ∈ wsJ60, w ∈ lw_tbl := by decide +kernel
theorem inJ9 : ∀ w ∈ wsJ90, w ∈ lw_tbl := by decide +kernel
theorem inJ10 : ∀ w ∈ wsJ100, w ∈ lw_tbl := by decide +kernel
abbrev vwCl : List vw_C := [(RX0, TX0, 3), (RX1, TX1, 4), (RX2, TX2, 7), (RX3, TX3, 1), (RX4, TX4, 3), (RX5, TX5, 3), (RX6, TX6, 8), (RX7, TX7, 8), (RX8, TX8, 36)]
end
section
set_option maxRecDepth 20000 in
theorem ggX1_init_X2_init : GoodIn wsX1_init wsX2_init := goodIn_r _ [16, 17, 2, 3, 18, 19, 20, 21, 22, 23, 24, 25, 26, 27, 28, 29, 6, 30, 31, 32, 33, 34, 35, 36, 37, 38, 46, 47, 48, 49, 50, 51, 52] (by decide +kernel) (by decide +kernel)
set_option maxRecDepth 20000 in
theorem gX1_init_X2_init : GoodIn wsX1_init (wsX2_init) := ggX1_init_X2_init
set_option maxRecDepth 20000 in
theorem ggX1_init_X4_init : GoodIn wsX1_init wsX4_init := goodIn_r _ [41, 42, 2, 3, 43, 19, 44, 45, 57, 58, 59] (by decide +kernel) (by decide +kernel)
set_option maxRecDepth 20000 in
theorem gX1_init_X4_init : GoodIn wsX1_init (wsX4_init) := ggX1_init_X4_init
set_option maxRecDepth 20000 in
theorem ggX1_become_X2_become : GoodIn wsX1_become wsX2_become := goodIn_r _ [9, 10, 11, 12, 13, 14, 15, 16, 17, 18, 19, 37, 38, 39, 40, 41, 42, 43] (by decide +kernel) (by decide +kernel)
set_option maxRecDepth 20000 in
theorem gX1_become_X2_become : GoodIn wsX1_become (wsV RX1 31 RX2 yX2_become wsX2_become) := goodIn_app (goodIn_of _ (by decide +kernel)) ggX1_become_X2_become
set_option maxRecDepth 20000 in
theorem ggX1_become_X4_become : GoodIn wsX1_become wsX4_become := goodIn_r _ [24, 25, 26, 27, 28, 29, 30, 31, 14, 15, 16, 32, 44, 45, 46] (by decide +kernel) (by decide +kernel)
set_option maxRecDepth 20000 in
theorem gX1_become_X4_become : GoodIn wsX1_become (wsV RX1 35 RX4 yX4_become wsX4_become) := goodIn_app (goodIn_of _ (by decide +kernel)) ggX1_become_X4_become
set_option maxRecDepth 20000 in
theorem ggX2_init_X2_becomeEmpty : GoodIn wsX2_init wsX2_becomeEmpty := goodIn_r _ [17, 10, 6, 18, 19, 20, 16, 21, 9, 22, 23, 24, 25, 7, 8, 26, 27, 28, 29, 30, 31, 32] (by decide +kernel) (by decide +kernel)
set_option maxRecDepth 20000 in
theorem gX2_init_X2_becomeEmpty : GoodIn wsX2_init (wsV RX2 36 RX2 yX2_becomeEmpty wsX2_becomeEmpty) := goodIn_app (goodIn_of _ (by decide +kernel)) ggX2_init_X2_becomeEmpty
set_option maxRecDepth 20000 in
theorem ggX2_becomeEmpty_X2_startAnew : GoodIn wsX2_becomeEmpty wsX2_startAnew := goodIn_r _ [7, 8, 9, 10, 11, 6, 12, 13, 14, 15, 16, 17, 18, 19, 20, 21] (by decide +kernel) (by decide +kernel)
set_option maxRecDepth 20000 in
theorem gX2_becomeEmpty_X2_startAnew : GoodIn wsX2_becomeEmpty (wsV RX2 40 RX2 yX2_startAnew wsX2_startAnew) := goodIn_app (goodIn_of _ (by decide +kernel)) ggX2_becomeEmpty_X2_startAnew
set_option maxRecDepth 20000 in
theorem ggX2_startAnew_X2_takeAllAway : GoodIn wsX2_startAnew wsX2_takeAllAway := goodIn_r _ [6, 7, 8, 9, 10, 11, 12, 13, 14, 15] (by decide +kernel) (by decide +kernel)
set_option maxRecDepth 20000 in
theorem gX2_startAnew_X2_takeAllAway : GoodIn wsX2_startAnew (wsV RX2 49 RX2 yX2_takeAllAway wsX2_takeAllAway) := goodIn_app (goodIn_of _ (by decide +kernel)) ggX2_startAnew_X2_takeAllAway
set_option maxRecDepth 20000 in
theorem ggX2_becomeWorth_X2_giveUp : GoodIn wsX2_becomeWorth wsX2_giveUp := goodIn_r _ [6, 7, 8, 9, 10, 11, 12, 13, 14, 15] (by decide +kernel) (by decide +kernel)
set_option maxRecDepth 20000 in
theorem gX2_becomeWorth_X2_giveUp : GoodIn wsX2_becomeWorth (wsV RX2 52 RX2 yX2_giveUp wsX2_giveUp) := goodIn_app (goodIn_of _ (by decide +kernel)) ggX2_becomeWorth_X2_giveUp
set_option maxRecDepth 20000 in
theorem ggX2_bestOf_X2_bestBut : GoodIn wsX2_bestOf wsX2_bestBut := goodIn_r _ [5, 6, 7, 8, 9, 4, 10, 11, 12, 13, 14, 15, 16, 17, 18, 19, 20, 21, 22, 23] (by decide +kernel) (by decide +kernel)
set_option maxRecDepth 20000 in
theorem gX2_bestOf_X2_bestBut : GoodIn wsX2_bestOf (wsV RX2 55 RX2 yX2_bestBut wsX2_bestBut) := goodIn_app (goodIn_of _ (by decide +kernel)) ggX2_bestOf_X2_bestBut
set_option maxRecDepth 20000 in
theorem ggX2_bestBut_X2_allows : GoodIn wsX2_bestBut wsX2_allows := goodIn_r _ [6, 7, 13, 14, 15, 16, 17, 18, 19] (by decide +kernel) (by decide +kernel)
set_option maxRecDepth 20000 in
theorem gX2_bestBut_X2_allows : GoodIn wsX2_bestBut (wsV RX2 59 RX2 yX2_allows wsX2_allows) := goodIn_app (goodIn_of _ (by decide +kernel)) ggX2_bestBut_X2_allows
set_option maxRecDepth 20000 in
theorem ggX2_bestBut_X2_gainOf : GoodIn wsX2_bestBut wsX2_gainOf := goodIn_r _ [11, 1, 7, 12, 13, 14, 15, 16, 17, 18, 19] (by decide +kernel) (by decide +kernel)
set_option maxRecDepth 20000 in
theorem gX2_bestBut_X2_gainOf : GoodIn wsX2_bestBut (wsV RX2 63 RX2 yX2_gainOf wsX2_gainOf) := goodIn_app (goodIn_of _ (by decide +kernel)) ggX2_bestBut_X2_gainOf
set_option maxRecDepth 20000 in
theorem ggX2_offerFor_X2_bestBut : GoodIn wsX2_offerFor wsX2_bestBut := goodIn_r _ [7, 8, 9, 10, 11, 6, 12, 13, 14, 15, 16, 17, 1, 18, 19, 20, 21, 22, 23, 24] (by decide +kernel) (by decide +kernel)
set_option maxRecDepth 20000 in
theorem gX2_offerFor_X2_bestBut : GoodIn wsX2_offerFor (wsV RX2 55 RX2 yX2_bestBut wsX2_bestBut) := goodIn_app (goodIn_of _ (by decide +kernel)) ggX2_offerFor_X2_bestBut
set_option maxRecDepth 20000 in
theorem ggX2_offerFor_X2_gainOf : GoodIn wsX2_offerFor wsX2_gainOf := goodIn_r _ [17, 8, 13, 1, 18, 19, 20, 21, 22, 23, 24] (by decide +kernel) (by decide +kernel)
set_option maxRecDepth 20000 in
theorem gX2_offerFor_X2_gainOf : GoodIn wsX2_offerFor (wsV RX2 63 RX2 yX2_gainOf wsX2_gainOf) := goodIn_app (goodIn_of _ (by decide +kernel)) ggX2_offerFor_X2_gainOf
set_option maxRecDepth 20000 in
theorem ggX2_nextBidder_X2_hasBest : GoodIn wsX2_nextBidder wsX2_hasBest := goodIn_r _ [7, 1, 8, 9, 10, 6, 11, 12, 13, 14, 15, 16, 17, 18, 19] (by decide +kernel) (by decide +kernel)
set_option maxRecDepth 20000 in
theorem gX2_nextBidder_X2_hasBest : GoodIn wsX2_nextBidder (wsV RX2 66 RX2 yX2_hasBest wsX2_hasBest) := goodIn_app (goodIn_of _ (by decide +kernel)) ggX2_nextBidder_X2_hasBest
set_option maxRecDepth 20000 in
theorem ggX2_nextOffer_X2_nextBidder : GoodIn wsX2_nextOffer wsX2_nextBidder := goodIn_r _ [5, 6, 7, 8, 9, 10, 4, 11, 12, 13, 14, 15, 16, 35, 36, 37, 38, 39, 40, 41] (by decide +kernel) (by decide +kernel)
set_option maxRecDepth 20000 in
theorem gX2_nextOffer_X2_nextBidder : GoodIn wsX2_nextOffer (wsV RX2 70 RX2 yX2_nextBidder wsX2_nextBidder) := goodIn_app (goodIn_of _ (by decide +kernel)) ggX2_nextOffer_X2_nextBidder
set_option maxRecDepth 20000 in
theorem ggX2_nextOffer_X2_bestOf : GoodIn wsX2_nextOffer wsX2_bestOf := goodIn_r _ [20, 21, 22, 23, 4, 24, 6, 12, 13, 14, 15, 16, 25, 26, 27, 28, 29, 35, 36, 37, 38, 39, 40, 41] (by decide +kernel) (by decide +kernel)
set_option maxRecDepth 20000 in
theorem gX2_nextOffer_X2_bestOf : GoodIn wsX2_nextOffer (wsV RX2 74 RX2 yX2_bestOf wsX2_bestOf) := goodIn_app (goodIn_of _ (by decide +kernel)) ggX2_nextOffer_X2_bestOf
set_option maxRecDepth 20000 in
theorem ggX2_nextOffer_X2_offerFor : GoodIn wsX2_nextOffer wsX2_offerFor := goodIn_r _ [33, 29, 34, 21, 22, 23, 4, 24, 6, 12, 13, 14, 15, 16, 25, 26, 27, 28, 35, 36, 37, 38, 39, 40, 41] (by decide +kernel) (by decide +kernel)
set_option maxRecDepth 20000 in
theorem gX2_nextOffer_X2_offerFor : GoodIn wsX2_nextOffer (wsV RX2 78 RX2 yX2_offerFor wsX2_offerFor) := goodIn_app (goodIn_of _ (by decide +kernel)) ggX2_nextOffer_X2_offerFor
set_option maxRecDepth 20000 in
theorem ggX2_letNextBid_X2_nextBidder : GoodIn wsX2_letNextBid wsX2_nextBidder := goodIn_r _ [8, 9, 3, 10, 11, 12, 7, 13, 14, 15, 16, 17, 18, 36, 37, 38, 39, 40, 41, 42] (by decide +kernel) (by decide +kernel)
set_option maxRecDepth 20000 in
theorem gX2_letNextBid_X2_nextBidder : GoodIn wsX2_letNextBid (wsV RX2 70 RX2 yX2_nextBidder wsX2_nextBidder) := goodIn_app (goodIn_of _ (by decide +kernel)) ggX2_letNextBid_X2_nextBidder
set_option maxRecDepth 20000 in
theorem ggX2_letNextBid_X2_bestOf : GoodIn wsX2_letNextBid wsX2_bestOf := goodIn_r _ [22, 23, 24, 25, 7, 26, 9, 14, 15, 16, 17, 18, 27, 28, 29, 30, 1, 36, 37, 38, 39, 40, 41, 42] (by decide +kernel) (by decide +kernel)
set_option maxRecDepth 20000 in
theorem gX2_letNextBid_X2_bestOf : GoodIn wsX2_letNextBid (wsV RX2 74 RX2 yX2_bestOf wsX2_bestOf) := goodIn_app (goodIn_of _ (by decide +kernel)) ggX2_letNextBid_X2_bestOf
set_option maxRecDepth 20000 in
theorem ggX2_letNextBid_X2_offerFor : GoodIn wsX2_letNextBid wsX2_offerFor := goodIn_r _ [34, 1, 35, 23, 24, 25, 7, 26, 9, 14, 15, 16, 17, 18, 27, 28, 29, 30, 36, 37, 38, 39, 40, 41, 42] (by decide +kernel) (by decide +kernel)
set_option maxRecDepth 20000 in
theorem gX2_letNextBid_X2_offerFor : GoodIn wsX2_letNextBid (wsV RX2 78 RX2 yX2_offerFor wsX2_offerFor) := goodIn_app (goodIn_of _ (by decide +kernel)) ggX2_letNextBid_X2_offerFor
set_option maxRecDepth 20000 in
theorem ggX2_runAuction_X2_letNextBid : GoodIn wsX2_runAuction wsX2_letNextBid := goodIn_r _ [9, 3, 4, 10, 11, 12, 13, 8, 14, 15, 16, 17, 18, 19, 20, 21, 22, 23, 24, 25, 26, 27, 28, 29, 30, 31, 32, 33, 34, 35, 36, 37, 38, 39, 40, 41, 42, 43, 44, 45, 46, 47, 48] (by decide +kernel) (by decide +kernel)
set_option maxRecDepth 20000 in
theorem gX2_runAuction_X2_letNextBid : GoodIn wsX2_runAuction (wsV RX2 81 RX2 yX2_letNextBid wsX2_letNextBid) := goodIn_app (goodIn_of _ (by decide +kernel)) ggX2_runAuction_X2_letNextBid
set_option maxRecDepth 20000 in
theorem ggX2_runScaled_X2_takeAllAway : GoodIn wsX2_runScaled wsX2_takeAllAway := goodIn_r _ [8, 9, 10, 51, 52, 53, 54, 55, 56, 57] (by decide +kernel) (by decide +kernel)
set_option maxRecDepth 20000 in
theorem gX2_runScaled_X2_takeAllAway : GoodIn wsX2_runScaled (wsV RX2 49 RX2 yX2_takeAllAway wsX2_takeAllAway) := goodIn_app (goodIn_of _ (by decide +kernel)) ggX2_runScaled_X2_takeAllAway
set_option maxRecDepth 20000 in
theorem ggX2_runScaled_X2_runAuction : GoodIn wsX2_runScaled wsX2_runAuction := goodIn_r _ [14, 2, 15, 16, 10, 17, 18, 19, 7, 20, 9, 21, 22, 23, 24, 25, 26, 27, 28, 29, 30, 31, 32, 33, 34, 35, 36, 37, 38, 39, 40, 41, 42, 43, 44, 45, 46, 47, 48, 49, 50, 1, 51, 52, 53, 54, 55, 56, 57] (by decide +kernel) (by decide +kernel)
set_option maxRecDepth 20000 in
theorem gX2_runScaled_X2_runAuction : GoodIn wsX2_runScaled (wsV RX2 88 RX2 yX2_runAuction wsX2_runAuction) := goodIn_app (goodIn_of _ (by decide +kernel)) ggX2_runScaled_X2_runAuction
set_option maxRecDepth 20000 in
theorem ggX2_hasBest_X2_allows : GoodIn wsX2_hasBest wsX2_allows := goodIn_r _ [6, 7, 8, 9, 10, 11, 12, 13, 14] (by decide +kernel) (by decide +kernel)
set_option maxRecDepth 20000 in
theorem gX2_hasBest_X2_allows : GoodIn wsX2_hasBest (wsV RX2 59 RX2 yX2_allows wsX2_allows) := goodIn_app (goodIn_of _ (by decide +kernel)) ggX2_hasBest_X2_allows
set_option maxRecDepth 20000 in
theorem ggX2_allowedTo_X2_allows : GoodIn wsX2_allowedTo wsX2_allows := goodIn_r _ [6, 7, 8, 9, 10, 11, 12, 13, 14] (by decide +kernel) (by decide +kernel)
set_option maxRecDepth 20000 in
theorem gX2_allowedTo_X2_allows : GoodIn wsX2_allowedTo (wsV RX2 59 RX2 yX2_allows wsX2_allows) := goodIn_app (goodIn_of _ (by decide +kernel)) ggX2_allowedTo_X2_allows
set_option maxRecDepth 20000 in
theorem ggX2_wantersOf_X2_bestOf : GoodIn wsX2_wantersOf wsX2_bestOf := goodIn_r _ [6, 7, 8, 9, 5, 10, 1, 11, 12, 13, 14, 15, 16, 17, 18, 19, 20, 21, 22, 23, 24, 25, 26, 27] (by decide +kernel) (by decide +kernel)
set_option maxRecDepth 20000 in
theorem gX2_wantersOf_X2_bestOf : GoodIn wsX2_wantersOf (wsV RX2 74 RX2 yX2_bestOf wsX2_bestOf) := goodIn_app (goodIn_of _ (by decide +kernel)) ggX2_wantersOf_X2_bestOf
set_option maxRecDepth 20000 in
theorem ggX2_ownGain_X2_gainOf : GoodIn wsX2_ownGain wsX2_gainOf := goodIn_r _ [6, 7, 8, 9, 10, 11, 12, 13, 14, 15, 16] (by decide +kernel) (by decide +kernel)
set_option maxRecDepth 20000 in
theorem gX2_ownGain_X2_gainOf : GoodIn wsX2_ownGain (wsV RX2 63 RX2 yX2_gainOf wsX2_gainOf) := goodIn_app (goodIn_of _ (by decide +kernel)) ggX2_ownGain_X2_gainOf
set_option maxRecDepth 20000 in
theorem ggX2_envyOf_X2_allows : GoodIn wsX2_envyOf wsX2_allows := goodIn_r _ [6, 7, 18, 19, 20, 21, 22, 23, 24] (by decide +kernel) (by decide +kernel)
set_option maxRecDepth 20000 in
theorem gX2_envyOf_X2_allows : GoodIn wsX2_envyOf (wsV RX2 59 RX2 yX2_allows wsX2_allows) := goodIn_app (goodIn_of _ (by decide +kernel)) ggX2_envyOf_X2_allows
set_option maxRecDepth 20000 in
theorem ggX2_envyOf_X2_gainOf : GoodIn wsX2_envyOf wsX2_gainOf := goodIn_r _ [11, 1, 7, 12, 18, 19, 20, 21, 22, 23, 24] (by decide +kernel) (by decide +kernel)
set_option maxRecDepth 20000 in
theorem gX2_envyOf_X2_gainOf : GoodIn wsX2_envyOf (wsV RX2 63 RX2 yX2_gainOf wsX2_gainOf) := goodIn_app (goodIn_of _ (by decide +kernel)) ggX2_envyOf_X2_gainOf
set_option maxRecDepth 20000 in
theorem ggX2_envyOf_X2_ownGain : GoodIn wsX2_envyOf wsX2_ownGain := goodIn_r _ [16, 17, 8, 9, 10, 5, 11, 1, 7, 12, 18, 19, 20, 21, 22, 23, 24] (by decide +kernel) (by decide +kernel)
set_option maxRecDepth 20000 in
theorem gX2_envyOf_X2_ownGain : GoodIn wsX2_envyOf (wsV RX2 91 RX2 yX2_ownGain wsX2_ownGain) := goodIn_app (goodIn_of _ (by decide +kernel)) ggX2_envyOf_X2_ownGain
set_option maxRecDepth 20000 in
theorem ggX2_isSure_X2_bestOf : GoodIn wsX2_isSure wsX2_bestOf := goodIn_r _ [8, 9, 10, 11, 7, 12, 1, 13, 14, 15, 16, 17, 18, 19, 20, 21, 22, 27, 28, 29, 30, 31, 32, 33] (by decide +kernel) (by decide +kernel)
set_option maxRecDepth 20000 in
theorem gX2_isSure_X2_bestOf : GoodIn wsX2_isSure (wsV RX2 74 RX2 yX2_bestOf wsX2_bestOf) := goodIn_app (goodIn_of _ (by decide +kernel)) ggX2_isSure_X2_bestOf
set_option maxRecDepth 20000 in
theorem ggX2_isSure_X2_gainOf : GoodIn wsX2_isSure wsX2_gainOf := goodIn_r _ [21, 1, 17, 22, 27, 28, 29, 30, 31, 32, 33] (by decide +kernel) (by decide +kernel)
set_option maxRecDepth 20000 in
theorem gX2_isSure_X2_gainOf : GoodIn wsX2_isSure (wsV RX2 63 RX2 yX2_gainOf wsX2_gainOf) := goodIn_app (goodIn_of _ (by decide +kernel)) ggX2_isSure_X2_gainOf
set_option maxRecDepth 20000 in
theorem ggX2_isSure_X2_ownGain : GoodIn wsX2_isSure wsX2_ownGain := goodIn_r _ [26, 2, 18, 19, 20, 7, 21, 1, 17, 22, 27, 28, 29, 30, 31, 32, 33] (by decide +kernel) (by decide +kernel)
set_option maxRecDepth 20000 in
theorem gX2_isSure_X2_ownGain : GoodIn wsX2_isSure (wsV RX2 91 RX2 yX2_ownGain wsX2_ownGain) := goodIn_app (goodIn_of _ (by decide +kernel)) ggX2_isSure_X2_ownGain
set_option maxRecDepth 20000 in
theorem ggX2_forbiddenCounted_X2_allowedTo : GoodIn wsX2_forbiddenCounted wsX2_allowedTo := goodIn_r _ [6, 1, 7, 8, 9, 5, 10, 11, 19, 20, 21, 22, 23, 24, 25] (by decide +kernel) (by decide +kernel)
set_option maxRecDepth 20000 in
theorem gX2_forbiddenCounted_X2_allowedTo : GoodIn wsX2_forbiddenCounted (wsV RX2 94 RX2 yX2_allowedTo wsX2_allowedTo) := goodIn_app (goodIn_of _ (by decide +kernel)) ggX2_forbiddenCounted_X2_allowedTo
set_option maxRecDepth 20000 in
theorem ggX2_forbiddenCounted_J6_bitCount_0f7a4 : GoodIn wsX2_forbiddenCounted wsJ6_bitCount_0f7a4 := goodIn_r _ [15, 16, 17, 18] (by decide +kernel) (by decide +kernel)
set_option maxRecDepth 20000 in
theorem gX2_forbiddenCounted_J6_bitCount_0f7a4 : GoodIn wsX2_forbiddenCounted (va_wsS RX2 97 yJ6_bitCount_0f7a4 wsJ6_bitCount_0f7a4) := goodIn_app (goodIn_of _ (by decide +kernel)) ggX2_forbiddenCounted_J6_bitCount_0f7a4
set_option maxRecDepth 20000 in
theorem ggX3_mostWorth_X3_mostOfSet : GoodIn wsX3_mostWorth wsX3_mostOfSet := goodIn_r _ [7, 1, 2, 8, 9, 10, 11, 12, 13, 14, 15, 16, 17, 18, 19, 20, 21, 22, 23, 24, 25, 26, 27, 28, 29, 30, 31, 32, 33] (by decide +kernel) (by decide +kernel)
set_option maxRecDepth 20000 in
theorem gX3_mostWorth_X3_mostOfSet : GoodIn wsX3_mostWorth (wsV RX3 21 RX3 yX3_mostOfSet wsX3_mostOfSet) := goodIn_app (goodIn_of _ (by decide +kernel)) ggX3_mostWorth_X3_mostOfSet
set_option maxRecDepth 20000 in
theorem ggX3_mostOfSet_J6_bitCount_0f7a4 : GoodIn wsX3_mostOfSet wsJ6_bitCount_0f7a4 := goodIn_r _ [11, 12, 13, 14] (by decide +kernel) (by decide +kernel)
set_option maxRecDepth 20000 in
theorem gX3_mostOfSet_J6_bitCount_0f7a4 : GoodIn wsX3_mostOfSet (va_wsS RX3 25 yJ6_bitCount_0f7a4 wsJ6_bitCount_0f7a4) := goodIn_app (goodIn_of _ (by decide +kernel)) ggX3_mostOfSet_J6_bitCount_0f7a4
set_option maxRecDepth 20000 in
theorem ggX3_mostOfSet_X2_allows : GoodIn wsX3_mostOfSet wsX2_allows := goodIn_r _ [19, 20, 21, 22, 23, 24, 25, 26, 27] (by decide +kernel) (by decide +kernel)
set_option maxRecDepth 20000 in
theorem gX3_mostOfSet_X2_allows : GoodIn wsX3_mostOfSet (wsV RX3 31 RX2 yX2_allows wsX2_allows) := goodIn_app (goodIn_of _ (by decide +kernel)) ggX3_mostOfSet_X2_allows
set_option maxRecDepth 20000 in
theorem ggX3_leastLacking_J6_bitCount_0f7a4 : GoodIn wsX3_leastLacking wsJ6_bitCount_0f7a4 := goodIn_r _ [5, 6, 7, 8] (by decide +kernel) (by decide +kernel)
set_option maxRecDepth 20000 in
theorem gX3_leastLacking_J6_bitCount_0f7a4 : GoodIn wsX3_leastLacking (va_wsS RX3 25 yJ6_bitCount_0f7a4 wsJ6_bitCount_0f7a4) := goodIn_app (goodIn_of _ (by decide +kernel)) ggX3_leastLacking_J6_bitCount_0f7a4
set_option maxRecDepth 20000 in
theorem ggX3_leastLacking_X3_allowedToSome : GoodIn wsX3_leastLacking wsX3_allowedToSome := goodIn_r _ [13, 1, 14, 15, 16, 17, 18, 19, 20, 21, 22, 23, 24, 25, 26, 27, 28, 29, 30, 31] (by decide +kernel) (by decide +kernel)
set_option maxRecDepth 20000 in
theorem gX3_leastLacking_X3_allowedToSome : GoodIn wsX3_leastLacking (wsV RX3 45 RX3 yX3_allowedToSome wsX3_allowedToSome) := goodIn_app (goodIn_of _ (by decide +kernel)) ggX3_leastLacking_X3_allowedToSome
set_option maxRecDepth 20000 in
theorem ggX3_allowedToSome_X2_allowedTo : GoodIn wsX3_allowedToSome wsX2_allowedTo := goodIn_r _ [6, 7, 8, 9, 10, 5, 11, 12, 13, 14, 15, 16, 17, 18, 19] (by decide +kernel) (by decide +kernel)
set_option maxRecDepth 20000 in
theorem gX3_allowedToSome_X2_allowedTo : GoodIn wsX3_allowedToSome (wsV RX3 48 RX2 yX2_allowedTo wsX2_allowedTo) := goodIn_app (goodIn_of _ (by decide +kernel)) ggX3_allowedToSome_X2_allowedTo
set_option maxRecDepth 20000 in
theorem ggX6_findClauses_X6_findClause : GoodIn wsX6_findClauses wsX6_findClause := goodIn_r _ [9, 2, 3, 10, 11, 12, 13, 14, 15, 8, 16, 1, 17, 18, 19, 20, 4, 21, 22, 23, 24, 25, 26, 27, 28, 29, 30, 31, 32, 37, 38, 39, 40, 41, 42, 43, 44] (by decide +kernel) (by decide +kernel)
set_option maxRecDepth 20000 in
theorem gX6_findClauses_X6_findClause : GoodIn wsX6_findClauses (wsV RX6 37 RX6 yX6_findClause wsX6_findClause) := goodIn_app (goodIn_of _ (by decide +kernel)) ggX6_findClauses_X6_findClause
set_option maxRecDepth 20000 in
theorem ggX6_findClauses_X6_passBetween : GoodIn wsX6_findClauses wsX6_passBetween := goodIn_r _ [36, 3, 1, 2, 17, 18, 19, 8, 20, 4, 21, 37, 38, 39, 40, 41, 42, 43, 44] (by decide +kernel) (by decide +kernel)
set_option maxRecDepth 20000 in
theorem gX6_findClauses_X6_passBetween : GoodIn wsX6_findClauses (wsV RX6 41 RX6 yX6_passBetween wsX6_passBetween) := goodIn_app (goodIn_of _ (by decide +kernel)) ggX6_findClauses_X6_passBetween
set_option maxRecDepth 20000 in
theorem ggX6_passBetween_X6_sign : GoodIn wsX6_passBetween wsX6_sign := goodIn_r _ [8, 2, 9, 10, 11, 12, 13, 14, 15, 16, 17, 18] (by decide +kernel) (by decide +kernel)
set_option maxRecDepth 20000 in
theorem gX6_passBetween_X6_sign : GoodIn wsX6_passBetween (wsV RX6 44 RX6 yX6_sign wsX6_sign) := goodIn_app (goodIn_of _ (by decide +kernel)) ggX6_passBetween_X6_sign
set_option maxRecDepth 20000 in
theorem ggX6_findClause_X6_findNumber : GoodIn wsX6_findClause wsX6_findNumber := goodIn_r _ [10, 1, 11, 12, 13, 14, 9, 15, 16, 17, 29, 30, 31, 32, 33, 34, 35, 36] (by decide +kernel) (by decide +kernel)
set_option maxRecDepth 20000 in
theorem gX6_findClause_X6_findNumber : GoodIn wsX6_findClause (wsV RX6 50 RX6 yX6_findNumber wsX6_findNumber) := goodIn_app (goodIn_of _ (by decide +kernel)) ggX6_findClause_X6_findNumber
set_option maxRecDepth 20000 in
theorem ggX6_findClause_X6_findWorth : GoodIn wsX6_findClause wsX6_findWorth := goodIn_r _ [21, 11, 1, 12, 13, 14, 9, 15, 16, 17, 22, 23, 24, 25, 26, 27, 28, 29, 30, 31, 32, 33, 34, 35, 36] (by decide +kernel) (by decide +kernel)
set_option maxRecDepth 20000 in
theorem gX6_findClause_X6_findWorth : GoodIn wsX6_findClause (wsV RX6 54 RX6 yX6_findWorth wsX6_findWorth) := goodIn_app (goodIn_of _ (by decide +kernel)) ggX6_findClause_X6_findWorth
set_option maxRecDepth 20000 in
theorem ggX6_findNumber_X6_sign : GoodIn wsX6_findNumber wsX6_sign := goodIn_r _ [7, 2, 8, 9, 10, 11, 12, 13, 14, 15, 16, 17] (by decide +kernel) (by decide +kernel)
set_option maxRecDepth 20000 in
theorem gX6_findNumber_X6_sign : GoodIn wsX6_findNumber (wsV RX6 44 RX6 yX6_sign wsX6_sign) := goodIn_app (goodIn_of _ (by decide +kernel)) ggX6_findNumber_X6_sign
set_option maxRecDepth 20000 in
theorem ggX6_findWorth_X6_sign : GoodIn wsX6_findWorth wsX6_sign := goodIn_r _ [7, 1, 8, 9, 17, 18, 19, 20, 21, 22, 23, 24] (by decide +kernel) (by decide +kernel)
set_option maxRecDepth 20000 in
theorem gX6_findWorth_X6_sign : GoodIn wsX6_findWorth (wsV RX6 44 RX6 yX6_sign wsX6_sign) := goodIn_app (goodIn_of _ (by decide +kernel)) ggX6_findWorth_X6_sign
set_option maxRecDepth 20000 in
theorem ggX6_findWorth_X6_isDigit : GoodIn wsX6_findWorth wsX6_isDigit := goodIn_r _ [12] (by decide +kernel) (by decide +kernel)
set_option maxRecDepth 20000 in
theorem gX6_findWorth_X6_isDigit : GoodIn wsX6_findWorth (va_wsS RX6 57 yX6_isDigit wsX6_isDigit) := goodIn_app (goodIn_of _ (by decide +kernel)) ggX6_findWorth_X6_isDigit
set_option maxRecDepth 20000 in
theorem ggX6_findWorth_X6_findDigits : GoodIn wsX6_findWorth wsX6_findDigits := goodIn_r _ [16, 1, 3, 4, 5, 6, 7, 8, 9, 10, 11, 12, 17, 18, 19, 20, 21, 22, 23, 24] (by decide +kernel) (by decide +kernel)
set_option maxRecDepth 20000 in
theorem gX6_findWorth_X6_findDigits : GoodIn wsX6_findWorth (wsV RX6 61 RX6 yX6_findDigits wsX6_findDigits) := goodIn_app (goodIn_of _ (by decide +kernel)) ggX6_findWorth_X6_findDigits
set_option maxRecDepth 20000 in
theorem ggX6_findDigits_X6_sign : GoodIn wsX6_findDigits wsX6_sign := goodIn_r _ [6, 1, 7, 8, 12, 13, 14, 15, 16, 17, 18, 19] (by decide +kernel) (by decide +kernel)
set_option maxRecDepth 20000 in
theorem gX6_findDigits_X6_sign : GoodIn wsX6_findDigits (wsV RX6 44 RX6 yX6_sign wsX6_sign) := goodIn_app (goodIn_of _ (by decide +kernel)) ggX6_findDigits_X6_sign
set_option maxRecDepth 20000 in
theorem ggX6_findDigits_X6_isDigit : GoodIn wsX6_findDigits wsX6_isDigit := goodIn_r _ [11] (by decide +kernel) (by decide +kernel)
set_option maxRecDepth 20000 in
theorem gX6_findDigits_X6_isDigit : GoodIn wsX6_findDigits (va_wsS RX6 57 yX6_isDigit wsX6_isDigit) := goodIn_app (goodIn_of _ (by decide +kernel)) ggX6_findDigits_X6_isDigit
set_option maxRecDepth 20000 in
theorem ggX7_init_X1_init : GoodIn wsX7_init wsX1_init := goodIn_r _ [31, 32, 2, 3, 33, 10, 11, 34, 35, 36, 37, 38, 39, 40, 41, 42, 43, 44, 45, 46, 47, 48, 49, 50, 51, 52, 53, 54, 55, 56, 57, 58, 59, 60, 61, 62, 63, 64, 65, 66, 67, 68, 69, 70, 71, 72, 114, 115, 116, 117, 118, 119, 120, 102, 103, 104, 105, 136, 137, 138] (by decide +kernel) (by decide +kernel)
set_option maxRecDepth 20000 in
theorem gX7_init_X1_init_n11 : GoodIn wsX7_init (wsX1_init) := ggX7_init_X1_init
set_option maxRecDepth 20000 in
theorem ggX7_init_X2_init : GoodIn wsX7_init wsX2_init := goodIn_r _ [43, 44, 2, 3, 45, 46, 47, 48, 49, 50, 51, 52, 53, 54, 55, 56, 11, 57, 58, 59, 60, 61, 62, 63, 64, 65, 114, 115, 116, 117, 118, 119, 120] (by decide +kernel) (by decide +kernel)
set_option maxRecDepth 20000 in
theorem gX7_init_X2_init : GoodIn wsX7_init (wsX2_init) := ggX7_init_X2_init
set_option maxRecDepth 20000 in
theorem ggX7_init_X3_init : GoodIn wsX7_init wsX3_init := goodIn_r _ [75, 76, 2, 3, 46, 77, 121] (by decide +kernel) (by decide +kernel)
set_option maxRecDepth 20000 in
theorem gX7_init_X3_init_n30 : GoodIn wsX7_init (wsX3_init) := ggX7_init_X3_init
set_option maxRecDepth 20000 in
theorem ggX7_init_X6_init : GoodIn wsX7_init wsX6_init := goodIn_r _ [79, 80, 2, 3, 46, 81, 82, 83, 84, 85, 86, 87, 88, 122, 123, 124, 125, 126, 127, 128, 129] (by decide +kernel) (by decide +kernel)
set_option maxRecDepth 20000 in
theorem gX7_init_X6_init_n37 : GoodIn wsX7_init (wsX6_init) := ggX7_init_X6_init
set_option maxRecDepth 20000 in
theorem ggX7_init_X0_init : GoodIn wsX7_init wsX0_init := goodIn_r _ [90, 91, 2, 3, 92, 93, 94, 130, 131, 132] (by decide +kernel) (by decide +kernel)
set_option maxRecDepth 20000 in
theorem gX7_init_X0_init_n44 : GoodIn wsX7_init (wsX0_init) := ggX7_init_X0_init
set_option maxRecDepth 20000 in
theorem ggX7_init_X5_init : GoodIn wsX7_init wsX5_init := goodIn_r _ [96, 97, 2, 3, 98, 99, 100, 101, 133, 134, 135] (by decide +kernel) (by decide +kernel)
set_option maxRecDepth 20000 in
theorem gX7_init_X5_init_n59 : GoodIn wsX7_init (wsX5_init) := ggX7_init_X5_init
set_option maxRecDepth 20000 in
theorem ggX7_size_X2_becomeEmpty : GoodIn wsX7_size wsX2_becomeEmpty := goodIn_r _ [11, 12, 13, 14, 15, 16, 10, 17, 18, 19, 20, 21, 22, 23, 24, 43, 44, 45, 46, 47, 48, 49] (by decide +kernel) (by decide +kernel)
set_option maxRecDepth 20000 in
theorem gX7_size_X2_becomeEmpty : GoodIn wsX7_size (wsV RX7 67 RX2 yX2_becomeEmpty wsX2_becomeEmpty) := goodIn_app (goodIn_of _ (by decide +kernel)) ggX7_size_X2_becomeEmpty
set_option maxRecDepth 20000 in
theorem ggX7_size_X4_empty : GoodIn wsX7_size wsX4_empty := goodIn_r _ [29, 30, 50, 51, 52] (by decide +kernel) (by decide +kernel)
set_option maxRecDepth 20000 in
theorem gX7_size_X4_empty : GoodIn wsX7_size (wsV RX7 75 RX4 yX4_empty wsX4_empty) := goodIn_app (goodIn_of _ (by decide +kernel)) ggX7_size_X4_empty
set_option maxRecDepth 20000 in
theorem ggX7_worth_X2_has : GoodIn wsX7_worth wsX2_has := goodIn_r _ [7, 8, 42, 43, 44, 45, 46, 47, 48] (by decide +kernel) (by decide +kernel)
set_option maxRecDepth 20000 in
theorem gX7_worth_X2_has : GoodIn wsX7_worth (wsV RX7 87 RX2 yX2_has wsX2_has) := goodIn_app (goodIn_of _ (by decide +kernel)) ggX7_worth_X2_has
set_option maxRecDepth 20000 in
theorem ggX7_worth_X7_shownWorth : GoodIn wsX7_worth wsX7_shownWorth := goodIn_r _ [13, 1, 2, 14, 15, 16, 17, 6, 18, 19, 30, 31, 32, 33, 34, 35, 36, 37, 38, 39, 40, 41, 42, 43, 44, 45, 46, 47, 48] (by decide +kernel) (by decide +kernel)
set_option maxRecDepth 20000 in
theorem gX7_worth_X7_shownWorth : GoodIn wsX7_worth (wsV RX7 91 RX7 yX7_shownWorth wsX7_shownWorth) := goodIn_app (goodIn_of _ (by decide +kernel)) ggX7_worth_X7_shownWorth
set_option maxRecDepth 20000 in
theorem ggX7_worth_X2_becomeWorth : GoodIn wsX7_worth wsX2_becomeWorth := goodIn_r _ [23, 19, 24, 25, 26, 6, 27, 28, 29, 42, 43, 44, 45, 46, 47, 48] (by decide +kernel) (by decide +kernel)
set_option maxRecDepth 20000 in
theorem gX7_worth_X2_becomeWorth : GoodIn wsX7_worth (wsV RX7 95 RX2 yX2_becomeWorth wsX2_becomeWorth) := goodIn_app (goodIn_of _ (by decide +kernel)) ggX7_worth_X2_becomeWorth
set_option maxRecDepth 20000 in
theorem ggX7_step_X7_isStep : GoodIn wsX7_step wsX7_isStep := goodIn_r _ [7] (by decide +kernel) (by decide +kernel)
set_option maxRecDepth 20000 in
theorem gX7_step_X7_isStep : GoodIn wsX7_step (va_wsS RX7 99 yX7_isStep wsX7_isStep) := goodIn_app (goodIn_of _ (by decide +kernel)) ggX7_step_X7_isStep
set_option maxRecDepth 20000 in
theorem ggX7_feed_X6_append : GoodIn wsX7_feed wsX6_append := goodIn_r _ [6, 7, 8, 17, 18, 19, 20, 21, 22, 23, 24] (by decide +kernel) (by decide +kernel)
set_option maxRecDepth 20000 in
theorem gX7_feed_X6_append : GoodIn wsX7_feed (wsV RX7 105 RX6 yX6_append wsX6_append) := goodIn_app (goodIn_of _ (by decide +kernel)) ggX7_feed_X6_append
set_option maxRecDepth 20000 in
theorem ggX7_read_X6_findClauses : GoodIn wsX7_read wsX6_findClauses := goodIn_r _ [16, 17, 18, 19, 20, 21, 22, 23, 15, 24, 25, 26, 27, 28, 29, 30, 31, 32, 33, 34, 35, 36, 37, 38, 39, 40, 41, 42, 43, 44, 45, 46, 47, 48, 49, 50, 51, 95, 96, 97, 98, 99, 100, 101, 102] (by decide +kernel) (by decide +kernel)
set_option maxRecDepth 20000 in
theorem gX7_read_X6_findClauses : GoodIn wsX7_read (wsV RX7 109 RX6 yX6_findClauses wsX6_findClauses) := goodIn_app (goodIn_of _ (by decide +kernel)) ggX7_read_X6_findClauses
set_option maxRecDepth 20000 in
theorem ggX7_read_X0_tell : GoodIn wsX7_read wsX0_tell := goodIn_r _ [56, 57, 58, 59, 103, 104, 105] (by decide +kernel) (by decide +kernel)
set_option maxRecDepth 20000 in
theorem gX7_read_X0_tell : GoodIn wsX7_read (wsV RX7 121 RX0 yX0_tell wsX0_tell) := goodIn_app (goodIn_of _ (by decide +kernel)) ggX7_read_X0_tell
set_option maxRecDepth 20000 in
theorem ggX7_read_X2_becomeWorth : GoodIn wsX7_read wsX2_becomeWorth := goodIn_r _ [64, 65, 66, 67, 68, 63, 69, 70, 71, 88, 89, 90, 91, 92, 93, 94] (by decide +kernel) (by decide +kernel)
set_option maxRecDepth 20000 in
theorem gX7_read_X2_becomeWorth : GoodIn wsX7_read (wsV RX7 95 RX2 yX2_becomeWorth wsX2_becomeWorth) := goodIn_app (goodIn_of _ (by decide +kernel)) ggX7_read_X2_becomeWorth
set_option maxRecDepth 20000 in
theorem ggX7_read_X6_empty : GoodIn wsX7_read wsX6_empty := goodIn_r _ [75, 20, 95, 96, 97, 98, 99, 100, 101, 102] (by decide +kernel) (by decide +kernel)
set_option maxRecDepth 20000 in
theorem gX7_read_X6_empty : GoodIn wsX7_read (wsV RX7 134 RX6 yX6_empty wsX6_empty) := goodIn_app (goodIn_of _ (by decide +kernel)) ggX7_read_X6_empty
set_option maxRecDepth 20000 in
theorem ggX7_of_X2_has : GoodIn wsX7_of wsX2_has := goodIn_r _ [8, 9, 38, 39, 40, 41, 42, 43, 44] (by decide +kernel) (by decide +kernel)
set_option maxRecDepth 20000 in
theorem gX7_of_X2_has : GoodIn wsX7_of (wsV RX7 87 RX2 yX2_has wsX2_has) := goodIn_app (goodIn_of _ (by decide +kernel)) ggX7_of_X2_has
set_option maxRecDepth 20000 in
theorem ggX7_of_X7_shownWorth : GoodIn wsX7_of wsX7_shownWorth := goodIn_r _ [14, 1, 2, 15, 16, 17, 18, 7, 19, 20, 26, 27, 28, 29, 30, 31, 32, 33, 34, 35, 36, 37, 38, 39, 40, 41, 42, 43, 44] (by decide +kernel) (by decide +kernel)
set_option maxRecDepth 20000 in
theorem gX7_of_X7_shownWorth : GoodIn wsX7_of (wsV RX7 91 RX7 yX7_shownWorth wsX7_shownWorth) := goodIn_app (goodIn_of _ (by decide +kernel)) ggX7_of_X7_shownWorth
set_option maxRecDepth 20000 in
theorem ggX7_of_X2_allows : GoodIn wsX7_of wsX2_allows := goodIn_r _ [19, 20, 38, 39, 40, 41, 42, 43, 44] (by decide +kernel) (by decide +kernel)
set_option maxRecDepth 20000 in
theorem gX7_of_X2_allows : GoodIn wsX7_of (wsV RX7 138 RX2 yX2_allows wsX2_allows) := goodIn_app (goodIn_of _ (by decide +kernel)) ggX7_of_X2_allows
set_option maxRecDepth 20000 in
theorem ggX7_of_X2_gainOf : GoodIn wsX7_of wsX2_gainOf := goodIn_r _ [24, 9, 20, 25, 38, 39, 40, 41, 42, 43, 44] (by decide +kernel) (by decide +kernel)
set_option maxRecDepth 20000 in
theorem gX7_of_X2_gainOf : GoodIn wsX7_of (wsV RX7 142 RX2 yX2_gainOf wsX2_gainOf) := goodIn_app (goodIn_of _ (by decide +kernel)) ggX7_of_X2_gainOf
set_option maxRecDepth 20000 in
theorem ggX7_person_X2_has : GoodIn wsX7_person wsX2_has := goodIn_r _ [8, 9, 64, 65, 66, 67, 68, 69, 70] (by decide +kernel) (by decide +kernel)
set_option maxRecDepth 20000 in
theorem gX7_person_X2_has : GoodIn wsX7_person (wsV RX7 87 RX2 yX2_has wsX2_has) := goodIn_app (goodIn_of _ (by decide +kernel)) ggX7_person_X2_has
set_option maxRecDepth 20000 in
theorem ggX7_person_X7_shownNumber : GoodIn wsX7_person wsX7_shownNumber := goodIn_r _ [13] (by decide +kernel) (by decide +kernel)
set_option maxRecDepth 20000 in
theorem gX7_person_X7_shownNumber : GoodIn wsX7_person (va_wsS RX7 148 yX7_shownNumber wsX7_shownNumber) := goodIn_app (goodIn_of _ (by decide +kernel)) ggX7_person_X7_shownNumber
set_option maxRecDepth 20000 in
theorem ggX7_person_X2_bestOf : GoodIn wsX7_person wsX2_bestOf := goodIn_r _ [17, 18, 19, 20, 7, 21, 9, 22, 23, 24, 25, 26, 27, 28, 29, 30, 31, 64, 65, 66, 67, 68, 69, 70] (by decide +kernel) (by decide +kernel)
set_option maxRecDepth 20000 in
theorem gX7_person_X2_bestOf : GoodIn wsX7_person (wsV RX7 151 RX2 yX2_bestOf wsX2_bestOf) := goodIn_app (goodIn_of _ (by decide +kernel)) ggX7_person_X2_bestOf
set_option maxRecDepth 20000 in
theorem ggX7_person_X2_envyOf : GoodIn wsX7_person wsX2_envyOf := goodIn_r _ [35, 9, 22, 23, 24, 7, 25, 26, 27, 28, 29, 30, 31, 36, 37, 38, 39, 40, 64, 65, 66, 67, 68, 69, 70] (by decide +kernel) (by decide +kernel)
set_option maxRecDepth 20000 in
theorem gX7_person_X2_envyOf : GoodIn wsX7_person (wsV RX7 154 RX2 yX2_envyOf wsX2_envyOf) := goodIn_app (goodIn_of _ (by decide +kernel)) ggX7_person_X2_envyOf
set_option maxRecDepth 20000 in
theorem ggX7_person_X2_allowedTo : GoodIn wsX7_person wsX2_allowedTo := goodIn_r _ [44, 9, 22, 23, 24, 7, 25, 26, 64, 65, 66, 67, 68, 69, 70] (by decide +kernel) (by decide +kernel)
set_option maxRecDepth 20000 in
theorem gX7_person_X2_allowedTo : GoodIn wsX7_person (wsV RX7 157 RX2 yX2_allowedTo wsX2_allowedTo) := goodIn_app (goodIn_of _ (by decide +kernel)) ggX7_person_X2_allowedTo
set_option maxRecDepth 20000 in
theorem ggX7_person_J6_bitCount_0f7a4 : GoodIn wsX7_person wsJ6_bitCount_0f7a4 := goodIn_r _ [48, 49, 50, 51] (by decide +kernel) (by decide +kernel)
set_option maxRecDepth 20000 in
theorem gX7_person_J6_bitCount_0f7a4 : GoodIn wsX7_person (va_wsS RX7 160 yJ6_bitCount_0f7a4 wsJ6_bitCount_0f7a4) := goodIn_app (goodIn_of _ (by decide +kernel)) ggX7_person_J6_bitCount_0f7a4
set_option maxRecDepth 20000 in
theorem ggX7_thing_X2_has : GoodIn wsX7_thing wsX2_has := goodIn_r _ [9, 10, 49, 50, 51, 52, 53, 54, 55] (by decide +kernel) (by decide +kernel)
set_option maxRecDepth 20000 in
theorem gX7_thing_X2_has : GoodIn wsX7_thing (wsV RX7 87 RX2 yX2_has wsX2_has) := goodIn_app (goodIn_of _ (by decide +kernel)) ggX7_thing_X2_has
set_option maxRecDepth 20000 in
theorem ggX7_thing_X7_shownNumber : GoodIn wsX7_thing wsX7_shownNumber := goodIn_r _ [14] (by decide +kernel) (by decide +kernel)
set_option maxRecDepth 20000 in
theorem gX7_thing_X7_shownNumber : GoodIn wsX7_thing (va_wsS RX7 148 yX7_shownNumber wsX7_shownNumber) := goodIn_app (goodIn_of _ (by decide +kernel)) ggX7_thing_X7_shownNumber
set_option maxRecDepth 20000 in
theorem ggX7_thing_X2_wantersOf : GoodIn wsX7_thing wsX2_wantersOf := goodIn_r _ [18, 10, 19, 20, 21, 8, 22, 23, 24, 25, 26, 27, 28, 29, 30, 31, 32, 33, 34, 35, 36, 49, 50, 51, 52, 53, 54, 55] (by decide +kernel) (by decide +kernel)
set_option maxRecDepth 20000 in
theorem gX7_thing_X2_wantersOf : GoodIn wsX7_thing (wsV RX7 171 RX2 yX2_wantersOf wsX2_wantersOf) := goodIn_app (goodIn_of _ (by decide +kernel)) ggX7_thing_X2_wantersOf
set_option maxRecDepth 20000 in
theorem ggX7_bid_X2_letNextBid : GoodIn wsX7_bid wsX2_letNextBid := goodIn_r _ [7, 8, 9, 10, 11, 12, 13, 6, 14, 15, 16, 17, 18, 19, 20, 21, 22, 23, 24, 25, 26, 27, 28, 29, 30, 31, 32, 33, 34, 35, 36, 37, 38, 39, 40, 41, 58, 59, 60, 61, 62, 63, 64] (by decide +kernel) (by decide +kernel)
set_option maxRecDepth 20000 in
theorem gX7_bid_X2_letNextBid : GoodIn wsX7_bid (wsV RX7 174 RX2 yX2_letNextBid wsX2_letNextBid) := goodIn_app (goodIn_of _ (by decide +kernel)) ggX7_bid_X2_letNextBid
set_option maxRecDepth 20000 in
theorem ggX7_bid_X7_shownNumber : GoodIn wsX7_bid wsX7_shownNumber := goodIn_r _ [45] (by decide +kernel) (by decide +kernel)
set_option maxRecDepth 20000 in
theorem gX7_bid_X7_shownNumber : GoodIn wsX7_bid (va_wsS RX7 148 yX7_shownNumber wsX7_shownNumber) := goodIn_app (goodIn_of _ (by decide +kernel)) ggX7_bid_X7_shownNumber
set_option maxRecDepth 20000 in
theorem ggX7_auction_X2_runAuction : GoodIn wsX7_auction wsX2_runAuction := goodIn_r _ [7, 8, 9, 10, 11, 12, 13, 14, 6, 15, 16, 17, 18, 19, 20, 21, 22, 23, 24, 25, 26, 27, 28, 29, 30, 31, 32, 33, 34, 35, 36, 37, 38, 39, 40, 41, 42, 43, 44, 45, 46, 47, 84, 85, 86, 87, 88, 89, 90] (by decide +kernel) (by decide +kernel)
set_option maxRecDepth 20000 in
theorem gX7_auction_X2_runAuction : GoodIn wsX7_auction (wsV RX7 177 RX2 yX2_runAuction wsX2_runAuction) := goodIn_app (goodIn_of _ (by decide +kernel)) ggX7_auction_X2_runAuction
set_option maxRecDepth 20000 in
theorem ggX7_auction_X7_reported : GoodIn wsX7_auction wsX7_reported := goodIn_r _ [52, 1, 2, 53, 54, 55, 56, 57, 58, 59, 60, 61, 62, 63, 64, 65, 66, 6, 67, 21, 16, 68, 69, 70, 71, 72, 73, 74, 75, 76, 77, 78, 79, 80, 81, 82, 83, 84, 85, 86, 87, 88, 89, 90, 91, 92, 93] (by decide +kernel) (by decide +kernel)
set_option maxRecDepth 20000 in
theorem gX7_auction_X7_reported : GoodIn wsX7_auction (wsV RX7 180 RX7 yX7_reported wsX7_reported) := goodIn_app (goodIn_of _ (by decide +kernel)) ggX7_auction_X7_reported
set_option maxRecDepth 20000 in
theorem ggX7_scaled_X2_runScaled : GoodIn wsX7_scaled wsX2_runScaled := goodIn_r _ [7, 8, 9, 10, 11, 12, 13, 6, 14, 15, 16, 17, 18, 19, 20, 21, 22, 23, 24, 25, 26, 27, 28, 29, 30, 31, 32, 33, 34, 35, 36, 37, 38, 39, 40, 41, 42, 43, 44, 45, 46, 47, 48, 49, 50, 51, 52, 53, 54, 55, 56, 93, 94, 95, 96, 97, 98, 99] (by decide +kernel) (by decide +kernel)
set_option maxRecDepth 20000 in
theorem gX7_scaled_X2_runScaled : GoodIn wsX7_scaled (wsV RX7 183 RX2 yX2_runScaled wsX2_runScaled) := goodIn_app (goodIn_of _ (by decide +kernel)) ggX7_scaled_X2_runScaled
set_option maxRecDepth 20000 in
theorem ggX7_scaled_X7_reported : GoodIn wsX7_scaled wsX7_reported := goodIn_r _ [61, 1, 2, 62, 63, 64, 65, 66, 67, 68, 69, 70, 71, 72, 73, 74, 75, 6, 76, 31, 15, 77, 78, 79, 80, 81, 82, 83, 84, 85, 86, 87, 88, 89, 90, 91, 92, 93, 94, 95, 96, 97, 98, 99, 100, 101, 102] (by decide +kernel) (by decide +kernel)
set_option maxRecDepth 20000 in
theorem gX7_scaled_X7_reported : GoodIn wsX7_scaled (wsV RX7 180 RX7 yX7_reported wsX7_reported) := goodIn_app (goodIn_of _ (by decide +kernel)) ggX7_scaled_X7_reported
set_option maxRecDepth 20000 in
theorem ggX7_fresh_X2_ownersCounted : GoodIn wsX7_fresh wsX2_ownersCounted := goodIn_r _ [7, 8, 9, 32, 33, 34, 35, 36, 37, 38] (by decide +kernel) (by decide +kernel)
set_option maxRecDepth 20000 in
theorem gX7_fresh_X2_ownersCounted : GoodIn wsX7_fresh (wsV RX7 186 RX2 yX2_ownersCounted wsX2_ownersCounted) := goodIn_app (goodIn_of _ (by decide +kernel)) ggX7_fresh_X2_ownersCounted
set_option maxRecDepth 20000 in
theorem ggX7_fresh_X2_startAnew : GoodIn wsX7_fresh wsX2_startAnew := goodIn_r _ [13, 14, 15, 16, 17, 6, 18, 9, 19, 32, 33, 34, 35, 36, 37, 38] (by decide +kernel) (by decide +kernel)
set_option maxRecDepth 20000 in
theorem gX7_fresh_X2_startAnew : GoodIn wsX7_fresh (wsV RX7 189 RX2 yX2_startAnew wsX2_startAnew) := goodIn_app (goodIn_of _ (by decide +kernel)) ggX7_fresh_X2_startAnew
set_option maxRecDepth 20000 in
theorem ggX7_leave_X2_has : GoodIn wsX7_leave wsX2_has := goodIn_r _ [8, 9, 28, 29, 30, 31, 32, 33, 34] (by decide +kernel) (by decide +kernel)
set_option maxRecDepth 20000 in
theorem gX7_leave_X2_has : GoodIn wsX7_leave (wsV RX7 87 RX2 yX2_has wsX2_has) := goodIn_app (goodIn_of _ (by decide +kernel)) ggX7_leave_X2_has
set_option maxRecDepth 20000 in
theorem ggX7_leave_X2_giveUp : GoodIn wsX7_leave wsX2_giveUp := goodIn_r _ [13, 14, 15, 28, 29, 30, 31, 32, 33, 34] (by decide +kernel) (by decide +kernel)
set_option maxRecDepth 20000 in
theorem gX7_leave_X2_giveUp : GoodIn wsX7_leave (wsV RX7 192 RX2 yX2_giveUp wsX2_giveUp) := goodIn_app (goodIn_of _ (by decide +kernel)) ggX7_leave_X2_giveUp
set_option maxRecDepth 20000 in
theorem ggX7_told_X2_worthTogether : GoodIn wsX7_told wsX2_worthTogether := goodIn_r _ [10, 11, 12, 13, 117, 118, 119, 120, 121, 122, 123] (by decide +kernel) (by decide +kernel)
set_option maxRecDepth 20000 in
theorem gX7_told_X2_worthTogether : GoodIn wsX7_told (wsV RX7 195 RX2 yX2_worthTogether wsX2_worthTogether) := goodIn_app (goodIn_of _ (by decide +kernel)) ggX7_told_X2_worthTogether
set_option maxRecDepth 20000 in
theorem ggX7_told_X3_mostWorth : GoodIn wsX7_told wsX3_mostWorth := goodIn_r _ [18, 19, 20, 21, 22, 23, 17, 24, 25, 26, 27, 28, 29, 30, 31, 32, 33, 34, 35, 36, 37, 38, 39, 9, 40, 13, 117, 118, 119, 120, 121, 122, 123, 124] (by decide +kernel) (by decide +kernel)
set_option maxRecDepth 20000 in
theorem gX7_told_X3_mostWorth : GoodIn wsX7_told (wsV RX7 198 RX3 yX3_mostWorth wsX3_mostWorth) := goodIn_app (goodIn_of _ (by decide +kernel)) ggX7_told_X3_mostWorth
set_option maxRecDepth 20000 in
theorem ggX7_told_X2_isSure : GoodIn wsX7_told wsX2_isSure := goodIn_r _ [44, 11, 12, 45, 46, 47, 48, 9, 49, 50, 51, 52, 53, 54, 38, 39, 40, 13, 55, 56, 57, 58, 59, 60, 61, 62, 63, 117, 118, 119, 120, 121, 122, 123] (by decide +kernel) (by decide +kernel)
set_option maxRecDepth 20000 in
theorem gX7_told_X2_isSure : GoodIn wsX7_told (wsV RX7 202 RX2 yX2_isSure wsX2_isSure) := goodIn_app (goodIn_of _ (by decide +kernel)) ggX7_told_X2_isSure
set_option maxRecDepth 20000 in
theorem ggX7_told_X3_leastLacking : GoodIn wsX7_told wsX3_leastLacking := goodIn_r _ [67, 19, 30, 31, 32, 33, 34, 35, 36, 68, 69, 70, 17, 71, 72, 73, 74, 9, 75, 11, 54, 38, 39, 40, 13, 117, 118, 119, 120, 121, 122, 123] (by decide +kernel) (by decide +kernel)
set_option maxRecDepth 20000 in
theorem gX7_told_X3_leastLacking : GoodIn wsX7_told (wsV RX7 206 RX3 yX3_leastLacking wsX3_leastLacking) := goodIn_app (goodIn_of _ (by decide +kernel)) ggX7_told_X3_leastLacking
set_option maxRecDepth 20000 in
theorem ggX7_told_X2_nextBidder : GoodIn wsX7_told wsX2_nextBidder := goodIn_r _ [79, 11, 12, 80, 81, 82, 9, 83, 54, 38, 39, 40, 13, 117, 118, 119, 120, 121, 122, 123] (by decide +kernel) (by decide +kernel)
set_option maxRecDepth 20000 in
theorem gX7_told_X2_nextBidder : GoodIn wsX7_told (wsV RX7 209 RX2 yX2_nextBidder wsX2_nextBidder) := goodIn_app (goodIn_of _ (by decide +kernel)) ggX7_told_X2_nextBidder
set_option maxRecDepth 20000 in
theorem ggX7_told_X7_shownNumber : GoodIn wsX7_told wsX7_shownNumber := goodIn_r _ [87] (by decide +kernel) (by decide +kernel)
set_option maxRecDepth 20000 in
theorem gX7_told_X7_shownNumber : GoodIn wsX7_told (va_wsS RX7 148 yX7_shownNumber wsX7_shownNumber) := goodIn_app (goodIn_of _ (by decide +kernel)) ggX7_told_X7_shownNumber
set_option maxRecDepth 20000 in
theorem ggX7_told_X2_nextOffer : GoodIn wsX7_told wsX2_nextOffer := goodIn_r _ [91, 92, 77, 78, 9, 79, 11, 12, 80, 81, 82, 83, 54, 38, 39, 40, 13, 46, 47, 48, 49, 50, 51, 52, 53, 55, 56, 57, 58, 59, 93, 94, 95, 96, 45, 117, 118, 119, 120, 121, 122, 123] (by decide +kernel) (by decide +kernel)
set_option maxRecDepth 20000 in
theorem gX7_told_X2_nextOffer : GoodIn wsX7_told (wsV RX7 212 RX2 yX2_nextOffer wsX2_nextOffer) := goodIn_app (goodIn_of _ (by decide +kernel)) ggX7_told_X2_nextOffer
set_option maxRecDepth 20000 in
theorem ggX7_told_X2_ownersCounted : GoodIn wsX7_told wsX2_ownersCounted := goodIn_r _ [100, 11, 12, 117, 118, 119, 120, 121, 122, 123] (by decide +kernel) (by decide +kernel)
set_option maxRecDepth 20000 in
theorem gX7_told_X2_ownersCounted : GoodIn wsX7_told (wsV RX7 186 RX2 yX2_ownersCounted wsX2_ownersCounted) := goodIn_app (goodIn_of _ (by decide +kernel)) ggX7_told_X2_ownersCounted
set_option maxRecDepth 20000 in
theorem ggX7_told_X2_pricesTogether : GoodIn wsX7_told wsX2_pricesTogether := goodIn_r _ [104, 11, 59, 117, 118, 119, 120, 121, 122, 123] (by decide +kernel) (by decide +kernel)
set_option maxRecDepth 20000 in
theorem gX7_told_X2_pricesTogether : GoodIn wsX7_told (wsV RX7 215 RX2 yX2_pricesTogether wsX2_pricesTogether) := goodIn_app (goodIn_of _ (by decide +kernel)) ggX7_told_X2_pricesTogether
set_option maxRecDepth 20000 in
theorem ggX7_see_X4_empty : GoodIn wsX7_see wsX4_empty := goodIn_r _ [8, 9, 34, 35, 36] (by decide +kernel) (by decide +kernel)
set_option maxRecDepth 20000 in
theorem gX7_see_X4_empty : GoodIn wsX7_see (wsV RX7 75 RX4 yX4_empty wsX4_empty) := goodIn_app (goodIn_of _ (by decide +kernel)) ggX7_see_X4_empty
set_option maxRecDepth 20000 in
theorem ggX7_see_X2_has : GoodIn wsX7_see wsX2_has := goodIn_r _ [14, 15, 37, 38, 39, 40, 41, 42, 43] (by decide +kernel) (by decide +kernel)
set_option maxRecDepth 20000 in
theorem gX7_see_X2_has : GoodIn wsX7_see (wsV RX7 87 RX2 yX2_has wsX2_has) := goodIn_app (goodIn_of _ (by decide +kernel)) ggX7_see_X2_has
set_option maxRecDepth 20000 in
theorem ggX7_see_X4_append : GoodIn wsX7_see wsX4_append := goodIn_r _ [19, 9, 20, 21, 34, 35, 36] (by decide +kernel) (by decide +kernel)
set_option maxRecDepth 20000 in
theorem gX7_see_X4_append : GoodIn wsX7_see (wsV RX7 225 RX4 yX4_append wsX4_append) := goodIn_app (goodIn_of _ (by decide +kernel)) ggX7_see_X4_append
set_option maxRecDepth 20000 in
theorem ggX7_fits_X2_has : GoodIn wsX7_fits wsX2_has := goodIn_r _ [8, 9, 99, 100, 101, 102, 103, 104, 105] (by decide +kernel) (by decide +kernel)
set_option maxRecDepth 20000 in
theorem gX7_fits_X2_has : GoodIn wsX7_fits (wsV RX7 87 RX2 yX2_has wsX2_has) := goodIn_app (goodIn_of _ (by decide +kernel)) ggX7_fits_X2_has
set_option maxRecDepth 20000 in
theorem ggX7_fits_X2_become : GoodIn wsX7_fits wsX2_become := goodIn_r _ [13, 9, 14, 15, 16, 17, 18, 19, 20, 21, 22, 99, 100, 101, 102, 103, 104, 105] (by decide +kernel) (by decide +kernel)
set_option maxRecDepth 20000 in
theorem gX7_fits_X2_become : GoodIn wsX7_fits (wsV RX7 227 RX2 yX2_become wsX2_become) := goodIn_app (goodIn_of _ (by decide +kernel)) ggX7_fits_X2_become
set_option maxRecDepth 20000 in
theorem ggX7_fits_X2_becomeWorth : GoodIn wsX7_fits wsX2_becomeWorth := goodIn_r _ [26, 15, 27, 28, 29, 7, 30, 20, 21, 99, 100, 101, 102, 103, 104, 105] (by decide +kernel) (by decide +kernel)
set_option maxRecDepth 20000 in
theorem gX7_fits_X2_becomeWorth : GoodIn wsX7_fits (wsV RX7 95 RX2 yX2_becomeWorth wsX2_becomeWorth) := goodIn_app (goodIn_of _ (by decide +kernel)) ggX7_fits_X2_becomeWorth
set_option maxRecDepth 20000 in
theorem ggX7_fits_X2_startAnew : GoodIn wsX7_fits wsX2_startAnew := goodIn_r _ [34, 22, 35, 36, 37, 7, 38, 20, 21, 99, 100, 101, 102, 103, 104, 105] (by decide +kernel) (by decide +kernel)
set_option maxRecDepth 20000 in
theorem gX7_fits_X2_startAnew : GoodIn wsX7_fits (wsV RX7 189 RX2 yX2_startAnew wsX2_startAnew) := goodIn_app (goodIn_of _ (by decide +kernel)) ggX7_fits_X2_startAnew
set_option maxRecDepth 20000 in
theorem ggX7_fits_X2_runAuction : GoodIn wsX7_fits wsX2_runAuction := goodIn_r _ [42, 43, 44, 22, 21, 45, 46, 47, 7, 48, 20, 49, 50, 51, 52, 9, 53, 54, 55, 56, 57, 58, 59, 60, 15, 61, 62, 63, 64, 65, 66, 67, 68, 69, 70, 71, 72, 73, 74, 75, 76, 14, 99, 100, 101, 102, 103, 104, 105] (by decide +kernel) (by decide +kernel)
set_option maxRecDepth 20000 in
theorem gX7_fits_X2_runAuction : GoodIn wsX7_fits (wsV RX7 177 RX2 yX2_runAuction wsX2_runAuction) := goodIn_app (goodIn_of _ (by decide +kernel)) ggX7_fits_X2_runAuction
set_option maxRecDepth 20000 in
theorem ggX7_fits_X7_goesAsSeen : GoodIn wsX7_fits wsX7_goesAsSeen := goodIn_r _ [81, 1, 82, 83, 84, 85, 86, 4, 5, 6, 7, 8, 9, 87, 88, 89, 90, 91, 92, 93, 94, 95, 96, 97, 98, 106, 107, 108, 99, 100, 101, 102, 103, 104, 105] (by decide +kernel) (by decide +kernel)
set_option maxRecDepth 20000 in
theorem gX7_fits_X7_goesAsSeen : GoodIn wsX7_fits (wsV RX7 231 RX7 yX7_goesAsSeen wsX7_goesAsSeen) := goodIn_app (goodIn_of _ (by decide +kernel)) ggX7_fits_X7_goesAsSeen
set_option maxRecDepth 20000 in
theorem ggX7_odds_X2_has : GoodIn wsX7_odds wsX2_has := goodIn_r _ [11, 12, 88, 89, 90, 91, 92, 93, 94] (by decide +kernel) (by decide +kernel)
set_option maxRecDepth 20000 in
theorem gX7_odds_X2_has : GoodIn wsX7_odds (wsV RX7 87 RX2 yX2_has wsX2_has) := goodIn_app (goodIn_of _ (by decide +kernel)) ggX7_odds_X2_has
set_option maxRecDepth 20000 in
theorem ggX7_odds_X2_become : GoodIn wsX7_odds wsX2_become := goodIn_r _ [16, 12, 17, 18, 19, 20, 21, 22, 23, 24, 25, 88, 89, 90, 91, 92, 93, 94] (by decide +kernel) (by decide +kernel)
set_option maxRecDepth 20000 in
theorem gX7_odds_X2_become : GoodIn wsX7_odds (wsV RX7 227 RX2 yX2_become wsX2_become) := goodIn_app (goodIn_of _ (by decide +kernel)) ggX7_odds_X2_become
set_option maxRecDepth 20000 in
theorem ggX7_odds_X2_startAnew : GoodIn wsX7_odds wsX2_startAnew := goodIn_r _ [29, 25, 30, 31, 32, 10, 33, 23, 24, 88, 89, 90, 91, 92, 93, 94] (by decide +kernel) (by decide +kernel)
set_option maxRecDepth 20000 in
theorem gX7_odds_X2_startAnew : GoodIn wsX7_odds (wsV RX7 189 RX2 yX2_startAnew wsX2_startAnew) := goodIn_app (goodIn_of _ (by decide +kernel)) ggX7_odds_X2_startAnew
set_option maxRecDepth 20000 in
theorem ggX7_odds_X2_runAuction : GoodIn wsX7_odds wsX2_runAuction := goodIn_r _ [37, 38, 39, 25, 24, 40, 41, 42, 10, 43, 23, 44, 45, 46, 47, 12, 48, 49, 50, 51, 52, 53, 54, 55, 18, 56, 57, 58, 59, 60, 61, 62, 63, 64, 65, 66, 67, 68, 69, 70, 71, 17, 88, 89, 90, 91, 92, 93, 94] (by decide +kernel) (by decide +kernel)
set_option maxRecDepth 20000 in
theorem gX7_odds_X2_runAuction : GoodIn wsX7_odds (wsV RX7 177 RX2 yX2_runAuction wsX2_runAuction) := goodIn_app (goodIn_of _ (by decide +kernel)) ggX7_odds_X2_runAuction
set_option maxRecDepth 20000 in
theorem ggX7_odds_X7_lowestTerms : GoodIn wsX7_odds wsX7_lowestTerms := goodIn_r _ [75, 3] (by decide +kernel) (by decide +kernel)
set_option maxRecDepth 20000 in
theorem gX7_odds_X7_lowestTerms : GoodIn wsX7_odds (va_wsS RX7 235 yX7_lowestTerms wsX7_lowestTerms) := goodIn_app (goodIn_of _ (by decide +kernel)) ggX7_odds_X7_lowestTerms
set_option maxRecDepth 20000 in
theorem ggX7_mean_X2_pricesTogether : GoodIn wsX7_mean wsX2_pricesTogether := goodIn_r _ [8, 9, 10, 28, 29, 30, 31, 32, 33, 34] (by decide +kernel) (by decide +kernel)
set_option maxRecDepth 20000 in
theorem gX7_mean_X2_pricesTogether : GoodIn wsX7_mean (wsV RX7 215 RX2 yX2_pricesTogether wsX2_pricesTogether) := goodIn_app (goodIn_of _ (by decide +kernel)) ggX7_mean_X2_pricesTogether
set_option maxRecDepth 20000 in
theorem ggX7_mean_X7_lowestTerms : GoodIn wsX7_mean wsX7_lowestTerms := goodIn_r _ [14, 15] (by decide +kernel) (by decide +kernel)
set_option maxRecDepth 20000 in
theorem gX7_mean_X7_lowestTerms : GoodIn wsX7_mean (va_wsS RX7 235 yX7_lowestTerms wsX7_lowestTerms) := goodIn_app (goodIn_of _ (by decide +kernel)) ggX7_mean_X7_lowestTerms
set_option maxRecDepth 20000 in
theorem ggX7_plan_X4_empty : GoodIn wsX7_plan wsX4_empty := goodIn_r _ [8, 9, 38, 39, 40] (by decide +kernel) (by decide +kernel)
set_option maxRecDepth 20000 in
theorem gX7_plan_X4_empty : GoodIn wsX7_plan (wsV RX7 75 RX4 yX4_empty wsX4_empty) := goodIn_app (goodIn_of _ (by decide +kernel)) ggX7_plan_X4_empty
set_option maxRecDepth 20000 in
theorem ggX7_plan_X2_has : GoodIn wsX7_plan wsX2_has := goodIn_r _ [14, 15, 41, 42, 43, 44, 45, 46, 47] (by decide +kernel) (by decide +kernel)
set_option maxRecDepth 20000 in
theorem gX7_plan_X2_has : GoodIn wsX7_plan (wsV RX7 87 RX2 yX2_has wsX2_has) := goodIn_app (goodIn_of _ (by decide +kernel)) ggX7_plan_X2_has
set_option maxRecDepth 20000 in
theorem ggX7_plan_X7_isStep : GoodIn wsX7_plan wsX7_isStep := goodIn_r _ [19] (by decide +kernel) (by decide +kernel)
set_option maxRecDepth 20000 in
theorem gX7_plan_X7_isStep : GoodIn wsX7_plan (va_wsS RX7 99 yX7_isStep wsX7_isStep) := goodIn_app (goodIn_of _ (by decide +kernel)) ggX7_plan_X7_isStep
set_option maxRecDepth 20000 in
theorem ggX7_plan_X4_append : GoodIn wsX7_plan wsX4_append := goodIn_r _ [23, 9, 24, 25, 38, 39, 40] (by decide +kernel) (by decide +kernel)
set_option maxRecDepth 20000 in
theorem gX7_plan_X4_append : GoodIn wsX7_plan (wsV RX7 225 RX4 yX4_append wsX4_append) := goodIn_app (goodIn_of _ (by decide +kernel)) ggX7_plan_X4_append
set_option maxRecDepth 20000 in
theorem ggX7_ends_X2_become : GoodIn wsX7_ends wsX2_become := goodIn_r _ [12, 13, 14, 15, 16, 17, 18, 19, 20, 21, 22, 91, 92, 93, 94, 95, 96, 97] (by decide +kernel) (by decide +kernel)
set_option maxRecDepth 20000 in
theorem gX7_ends_X2_become : GoodIn wsX7_ends (wsV RX7 227 RX2 yX2_become wsX2_become) := goodIn_app (goodIn_of _ (by decide +kernel)) ggX7_ends_X2_become
set_option maxRecDepth 20000 in
theorem ggX7_ends_X7_goOn : GoodIn wsX7_ends wsX7_goOn := goodIn_r _ [26, 27, 28, 29, 30, 11, 31, 22, 21, 20, 32, 33, 34, 35, 13, 36, 37, 38, 39, 40, 41, 42, 43, 15, 44, 45, 46, 47, 48, 49, 50, 51, 52, 53, 54, 55, 56, 57, 58, 59, 14, 60, 61, 62, 63, 64, 65, 66, 67, 91, 92, 93, 94, 95, 96, 97] (by decide +kernel) (by decide +kernel)
set_option maxRecDepth 20000 in
theorem gX7_ends_X7_goOn : GoodIn wsX7_ends (va_wsS RX7 248 yX7_goOn wsX7_goOn) := goodIn_app (goodIn_of _ (by decide +kernel)) ggX7_ends_X7_goOn
set_option maxRecDepth 20000 in
theorem ggX7_ends_X2_worthTogether : GoodIn wsX7_ends wsX2_worthTogether := goodIn_r _ [71, 13, 20, 15, 91, 92, 93, 94, 95, 96, 97] (by decide +kernel) (by decide +kernel)
set_option maxRecDepth 20000 in
theorem gX7_ends_X2_worthTogether : GoodIn wsX7_ends (wsV RX7 195 RX2 yX2_worthTogether wsX2_worthTogether) := goodIn_app (goodIn_of _ (by decide +kernel)) ggX7_ends_X2_worthTogether
set_option maxRecDepth 20000 in
theorem ggX7_ends_X2_pricesTogether : GoodIn wsX7_ends wsX2_pricesTogether := goodIn_r _ [75, 13, 22, 91, 92, 93, 94, 95, 96, 97] (by decide +kernel) (by decide +kernel)
set_option maxRecDepth 20000 in
theorem gX7_ends_X2_pricesTogether : GoodIn wsX7_ends (wsV RX7 215 RX2 yX2_pricesTogether wsX2_pricesTogether) := goodIn_app (goodIn_of _ (by decide +kernel)) ggX7_ends_X2_pricesTogether
set_option maxRecDepth 20000 in
theorem ggX7_book_X4_empty : GoodIn wsX7_book wsX4_empty := goodIn_r _ [8, 9, 34, 35, 36] (by decide +kernel) (by decide +kernel)
set_option maxRecDepth 20000 in
theorem gX7_book_X4_empty : GoodIn wsX7_book (wsV RX7 75 RX4 yX4_empty wsX4_empty) := goodIn_app (goodIn_of _ (by decide +kernel)) ggX7_book_X4_empty
set_option maxRecDepth 20000 in
theorem ggX7_book_X2_has : GoodIn wsX7_book wsX2_has := goodIn_r _ [14, 15, 37, 38, 39, 40, 41, 42, 43] (by decide +kernel) (by decide +kernel)
set_option maxRecDepth 20000 in
theorem gX7_book_X2_has : GoodIn wsX7_book (wsV RX7 87 RX2 yX2_has wsX2_has) := goodIn_app (goodIn_of _ (by decide +kernel)) ggX7_book_X2_has
set_option maxRecDepth 20000 in
theorem ggX7_book_X4_append : GoodIn wsX7_book wsX4_append := goodIn_r _ [19, 9, 20, 21, 34, 35, 36] (by decide +kernel) (by decide +kernel)
set_option maxRecDepth 20000 in
theorem gX7_book_X4_append : GoodIn wsX7_book (wsV RX7 225 RX4 yX4_append wsX4_append) := goodIn_app (goodIn_of _ (by decide +kernel)) ggX7_book_X4_append
set_option maxRecDepth 20000 in
theorem ggX7_looked_X2_has : GoodIn wsX7_looked wsX2_has := goodIn_r _ [12, 13, 29, 30, 31, 32, 33, 34, 35] (by decide +kernel) (by decide +kernel)
set_option maxRecDepth 20000 in
theorem gX7_looked_X2_has : GoodIn wsX7_looked (wsV RX7 87 RX2 yX2_has wsX2_has) := goodIn_app (goodIn_of _ (by decide +kernel)) ggX7_looked_X2_has
set_option maxRecDepth 20000 in
theorem ggX7_judge_X7_isTape : GoodIn wsX7_judge wsX7_isTape := goodIn_r _ [12] (by decide +kernel) (by decide +kernel)
set_option maxRecDepth 20000 in
theorem gX7_judge_X7_isTape : GoodIn wsX7_judge (va_wsS RX7 252 yX7_isTape wsX7_isTape) := goodIn_app (goodIn_of _ (by decide +kernel)) ggX7_judge_X7_isTape
set_option maxRecDepth 20000 in
theorem ggX7_image_X1_become : GoodIn wsX7_image wsX1_become := goodIn_r _ [10, 11, 12, 13, 14, 15, 16, 17, 18, 19, 20, 21, 22, 23, 24, 25, 26, 27, 28, 29, 30, 31, 32, 33, 34, 35, 36, 37, 38, 39, 40, 41, 42, 51, 52, 53, 54, 55, 56, 57, 58, 59, 60, 61, 62, 63, 64] (by decide +kernel) (by decide +kernel)
set_option maxRecDepth 20000 in
theorem gX7_image_X1_become : GoodIn wsX7_image (wsV RX7 265 RX1 yX1_become wsX1_become) := goodIn_app (goodIn_of _ (by decide +kernel)) ggX7_image_X1_become
set_option maxRecDepth 20000 in
theorem ggX7_undo_X1_become : GoodIn wsX7_undo wsX1_become := goodIn_r _ [10, 11, 12, 13, 14, 15, 16, 17, 18, 19, 20, 21, 22, 23, 24, 25, 26, 27, 28, 29, 30, 31, 32, 33, 34, 35, 36, 37, 38, 39, 40, 41, 42, 51, 52, 53, 54, 55, 56, 57, 58, 59, 60, 61, 62, 63, 64] (by decide +kernel) (by decide +kernel)
set_option maxRecDepth 20000 in
theorem gX7_undo_X1_become : GoodIn wsX7_undo (wsV RX7 265 RX1 yX1_become wsX1_become) := goodIn_app (goodIn_of _ (by decide +kernel)) ggX7_undo_X1_become
set_option maxRecDepth 20000 in
theorem ggX7_count_X2_forbiddenCounted : GoodIn wsX7_count wsX2_forbiddenCounted := goodIn_r _ [14, 15, 16, 17, 18, 13, 19, 20, 21, 22, 23, 24, 25, 26, 27, 28, 29, 30, 31, 44, 45, 46, 47, 48, 49, 50] (by decide +kernel) (by decide +kernel)
set_option maxRecDepth 20000 in
theorem gX7_count_X2_forbiddenCounted : GoodIn wsX7_count (wsV RX7 269 RX2 yX2_forbiddenCounted wsX2_forbiddenCounted) := goodIn_app (goodIn_of _ (by decide +kernel)) ggX7_count_X2_forbiddenCounted
set_option maxRecDepth 20000 in
theorem ggX7_tape_X7_isTape : GoodIn wsX7_tape wsX7_isTape := goodIn_r _ [5] (by decide +kernel) (by decide +kernel)
set_option maxRecDepth 20000 in
theorem gX7_tape_X7_isTape : GoodIn wsX7_tape (va_wsS RX7 252 yX7_isTape wsX7_isTape) := goodIn_app (goodIn_of _ (by decide +kernel)) ggX7_tape_X7_isTape
set_option maxRecDepth 20000 in
theorem ggX7_tape_X5_becomeRow : GoodIn wsX7_tape wsX5_becomeRow := goodIn_r _ [10, 11, 12, 13, 22, 23, 24] (by decide +kernel) (by decide +kernel)
set_option maxRecDepth 20000 in
theorem gX7_tape_X5_becomeRow : GoodIn wsX7_tape (wsV RX7 272 RX5 yX5_becomeRow wsX5_becomeRow) := goodIn_app (goodIn_of _ (by decide +kernel)) ggX7_tape_X5_becomeRow
set_option maxRecDepth 20000 in
theorem ggX7_item_X7_isTape : GoodIn wsX7_item wsX7_isTape := goodIn_r _ [7] (by decide +kernel) (by decide +kernel)
set_option maxRecDepth 20000 in
theorem gX7_item_X7_isTape : GoodIn wsX7_item (va_wsS RX7 252 yX7_isTape wsX7_isTape) := goodIn_app (goodIn_of _ (by decide +kernel)) ggX7_item_X7_isTape
set_option maxRecDepth 20000 in
theorem ggX7_item_X5_hasPlace : GoodIn wsX7_item wsX5_hasPlace := goodIn_r _ [12, 13, 27, 28, 29] (by decide +kernel) (by decide +kernel)
set_option maxRecDepth 20000 in
theorem gX7_item_X5_hasPlace : GoodIn wsX7_item (wsV RX7 276 RX5 yX5_hasPlace wsX5_hasPlace) := goodIn_app (goodIn_of _ (by decide +kernel)) ggX7_item_X5_hasPlace
set_option maxRecDepth 20000 in
theorem ggX7_item_X5_asItem : GoodIn wsX7_item wsX5_asItem := goodIn_r _ [17, 18, 27, 28, 29] (by decide +kernel) (by decide +kernel)
set_option maxRecDepth 20000 in
theorem gX7_item_X5_asItem : GoodIn wsX7_item (wsV RX7 279 RX5 yX5_asItem wsX5_asItem) := goodIn_app (goodIn_of _ (by decide +kernel)) ggX7_item_X5_asItem
set_option maxRecDepth 20000 in
theorem ggX7_peek_X7_isTape : GoodIn wsX7_peek wsX7_isTape := goodIn_r _ [7] (by decide +kernel) (by decide +kernel)
set_option maxRecDepth 20000 in
theorem gX7_peek_X7_isTape : GoodIn wsX7_peek (va_wsS RX7 252 yX7_isTape wsX7_isTape) := goodIn_app (goodIn_of _ (by decide +kernel)) ggX7_peek_X7_isTape
set_option maxRecDepth 20000 in
theorem ggX7_peek_X5_hasPlace : GoodIn wsX7_peek wsX5_hasPlace := goodIn_r _ [12, 13, 22, 23, 24] (by decide +kernel) (by decide +kernel)
set_option maxRecDepth 20000 in
theorem gX7_peek_X5_hasPlace : GoodIn wsX7_peek (wsV RX7 276 RX5 yX5_hasPlace wsX5_hasPlace) := goodIn_app (goodIn_of _ (by decide +kernel)) ggX7_peek_X5_hasPlace
set_option maxRecDepth 20000 in
theorem ggX7_shift_X7_isTape : GoodIn wsX7_shift wsX7_isTape := goodIn_r _ [11] (by decide +kernel) (by decide +kernel)
set_option maxRecDepth 20000 in
theorem gX7_shift_X7_isTape : GoodIn wsX7_shift (va_wsS RX7 252 yX7_isTape wsX7_isTape) := goodIn_app (goodIn_of _ (by decide +kernel)) ggX7_shift_X7_isTape
set_option maxRecDepth 20000 in
theorem ggX7_shift_X5_hasRun : GoodIn wsX7_shift wsX5_hasRun := goodIn_r _ [16, 17, 26, 27, 28] (by decide +kernel) (by decide +kernel)
set_option maxRecDepth 20000 in
theorem gX7_shift_X5_hasRun : GoodIn wsX7_shift (wsV RX7 283 RX5 yX5_hasRun wsX5_hasRun) := goodIn_app (goodIn_of _ (by decide +kernel)) ggX7_shift_X5_hasRun
set_option maxRecDepth 20000 in
theorem ggX7_shownWorth_X2_allows : GoodIn wsX7_shownWorth wsX2_allows := goodIn_r _ [8, 9, 22, 23, 24, 25, 26, 27, 28] (by decide +kernel) (by decide +kernel)
set_option maxRecDepth 20000 in
theorem gX7_shownWorth_X2_allows : GoodIn wsX7_shownWorth (wsV RX7 138 RX2 yX2_allows wsX2_allows) := goodIn_app (goodIn_of _ (by decide +kernel)) ggX7_shownWorth_X2_allows
set_option maxRecDepth 20000 in
theorem ggX7_reported_X0_tell : GoodIn wsX7_reported wsX0_tell := goodIn_r _ [10, 11, 12, 13, 44, 45, 46] (by decide +kernel) (by decide +kernel)
set_option maxRecDepth 20000 in
theorem gX7_reported_X0_tell : GoodIn wsX7_reported (wsV RX7 121 RX0 yX0_tell wsX0_tell) := goodIn_app (goodIn_of _ (by decide +kernel)) ggX7_reported_X0_tell
set_option maxRecDepth 20000 in
theorem ggX7_reported_X2_leastWithout : GoodIn wsX7_reported wsX2_leastWithout := goodIn_r _ [18, 19, 20, 37, 38, 39, 40, 41, 42, 43] (by decide +kernel) (by decide +kernel)
set_option maxRecDepth 20000 in
theorem gX7_reported_X2_leastWithout : GoodIn wsX7_reported (wsV RX7 298 RX2 yX2_leastWithout wsX2_leastWithout) := goodIn_app (goodIn_of _ (by decide +kernel)) ggX7_reported_X2_leastWithout
set_option maxRecDepth 20000 in
theorem ggX7_reported_X2_ownersCounted : GoodIn wsX7_reported wsX2_ownersCounted := goodIn_r _ [24, 19, 20, 37, 38, 39, 40, 41, 42, 43] (by decide +kernel) (by decide +kernel)
set_option maxRecDepth 20000 in
theorem gX7_reported_X2_ownersCounted : GoodIn wsX7_reported (wsV RX7 186 RX2 yX2_ownersCounted wsX2_ownersCounted) := goodIn_app (goodIn_of _ (by decide +kernel)) ggX7_reported_X2_ownersCounted
set_option maxRecDepth 20000 in
theorem ggX7_goesAsSeen_X2_has : GoodIn wsX7_goesAsSeen wsX2_has := goodIn_r _ [11, 12, 28, 29, 30, 31, 32, 33, 34] (by decide +kernel) (by decide +kernel)
set_option maxRecDepth 20000 in
theorem gX7_goesAsSeen_X2_has : GoodIn wsX7_goesAsSeen (wsV RX7 87 RX2 yX2_has wsX2_has) := goodIn_app (goodIn_of _ (by decide +kernel)) ggX7_goesAsSeen_X2_has
set_option maxRecDepth 20000 in
theorem ggX7_goOn_X2_letNextBid : GoodIn wsX7_goOn wsX2_letNextBid := goodIn_r _ [6, 7, 8, 9, 10, 11, 12, 5, 13, 14, 15, 16, 17, 18, 19, 20, 21, 22, 23, 24, 25, 26, 27, 28, 29, 30, 31, 32, 33, 34, 35, 36, 37, 38, 39, 40, 49, 50, 51, 52, 53, 54, 55] (by decide +kernel) (by decide +kernel)
set_option maxRecDepth 20000 in
theorem gX7_goOn_X2_letNextBid : GoodIn wsX7_goOn (wsV RX7 174 RX2 yX2_letNextBid wsX2_letNextBid) := goodIn_app (goodIn_of _ (by decide +kernel)) ggX7_goOn_X2_letNextBid
set_option maxRecDepth 20000 in
theorem ggX7_goOn_X2_has : GoodIn wsX7_goOn wsX2_has := goodIn_r _ [44, 14, 49, 50, 51, 52, 53, 54, 55] (by decide +kernel) (by decide +kernel)
set_option maxRecDepth 20000 in
theorem gX7_goOn_X2_has : GoodIn wsX7_goOn (wsV RX7 87 RX2 yX2_has wsX2_has) := goodIn_app (goodIn_of _ (by decide +kernel)) ggX7_goOn_X2_has
set_option maxRecDepth 20000 in
theorem ggX7_goOn_X2_giveUp : GoodIn wsX7_goOn wsX2_giveUp := goodIn_r _ [48, 9, 8, 49, 50, 51, 52, 53, 54, 55] (by decide +kernel) (by decide +kernel)
set_option maxRecDepth 20000 in
theorem gX7_goOn_X2_giveUp : GoodIn wsX7_goOn (wsV RX7 192 RX2 yX2_giveUp wsX2_giveUp) := goodIn_app (goodIn_of _ (by decide +kernel)) ggX7_goOn_X2_giveUp
set_option maxRecDepth 20000 in
theorem ggX8_init_X8_empties : GoodIn wsX8_init wsX8_empties := goodIn_r _ [35, 8, 4, 9, 36, 37, 38, 39, 40, 41, 42, 43, 44, 45, 46, 47, 48, 49, 50, 51, 52, 53, 54, 55, 56, 57, 58, 59, 60, 61, 62, 63, 64, 65, 66, 67, 68, 69, 70, 71] (by decide +kernel) (by decide +kernel)
set_option maxRecDepth 20000 in
theorem gX8_init_X8_empties : GoodIn wsX8_init (wsV RX8 88 RX8 yX8_empties wsX8_empties) := goodIn_app (goodIn_of _ (by decide +kernel)) ggX8_init_X8_empties
set_option maxRecDepth 20000 in
theorem ggX8_isOne_X8_in : GoodIn wsX8_isOne wsX8_in := goodIn_r _ [5] (by decide +kernel) (by decide +kernel)
set_option maxRecDepth 20000 in
theorem gX8_isOne_X8_in : GoodIn wsX8_isOne (va_wsS RX8 92 yX8_in wsX8_in) := goodIn_app (goodIn_of _ (by decide +kernel)) ggX8_isOne_X8_in
set_option maxRecDepth 20000 in
theorem ggX8_isPair_X8_isOne : GoodIn wsX8_isPair wsX8_isOne := goodIn_r _ [5, 6, 7, 8, 4, 9, 10, 11, 12, 13, 14, 15, 16, 17, 18, 19, 20, 21, 22, 23, 24, 25, 26, 27, 28, 29, 30, 31, 32, 33, 34, 35, 36, 37, 38, 39, 40, 41, 42, 43, 44, 45] (by decide +kernel) (by decide +kernel)
set_option maxRecDepth 20000 in
theorem gX8_isPair_X8_isOne : GoodIn wsX8_isPair (wsV RX8 96 RX8 yX8_isOne wsX8_isOne) := goodIn_app (goodIn_of _ (by decide +kernel)) ggX8_isPair_X8_isOne
set_option maxRecDepth 20000 in
theorem ggX8_passesRow_X8_passes : GoodIn wsX8_passesRow wsX8_passes := goodIn_r _ [5, 6, 7, 8, 9, 10, 11, 12, 13, 14, 15, 16, 17, 18, 19, 20, 21, 22, 23, 24, 25, 26, 27, 28, 29, 30, 31, 32, 33, 34, 35, 36, 37, 38, 39, 40, 41, 42, 43, 44] (by decide +kernel) (by decide +kernel)
set_option maxRecDepth 20000 in
theorem gX8_passesRow_X8_passes : GoodIn wsX8_passesRow (wsV RX8 107 RX8 yX8_passes wsX8_passes) := goodIn_app (goodIn_of _ (by decide +kernel)) ggX8_passesRow_X8_passes
set_option maxRecDepth 20000 in
theorem ggX8_passesAll_X8_passes : GoodIn wsX8_passesAll wsX8_passes := goodIn_r _ [22, 1, 23, 2, 28, 29, 30, 31, 32, 33, 34, 35, 36, 37, 38, 39, 40, 41, 42, 43, 44, 45, 46, 47, 48, 49, 50, 51, 52, 53, 54, 55, 56, 57, 58, 59, 60, 61, 62, 63] (by decide +kernel) (by decide +kernel)
set_option maxRecDepth 20000 in
theorem gX8_passesAll_X8_passes : GoodIn wsX8_passesAll (wsV RX8 107 RX8 yX8_passes wsX8_passes) := goodIn_app (goodIn_of _ (by decide +kernel)) ggX8_passesAll_X8_passes
set_option maxRecDepth 20000 in
theorem ggX8_passesAll_X8_passesRow : GoodIn wsX8_passesAll wsX8_passesRow := goodIn_r _ [27, 18, 19, 20, 21, 22, 1, 23, 2, 28, 29, 30, 31, 32, 33, 34, 35, 36, 37, 38, 39, 40, 41, 42, 43, 44, 45, 46, 47, 48, 49, 50, 51, 52, 53, 54, 55, 56, 57, 58, 59, 60, 61, 62, 63] (by decide +kernel) (by decide +kernel)
set_option maxRecDepth 20000 in
theorem gX8_passesAll_X8_passesRow : GoodIn wsX8_passesAll (wsV RX8 120 RX8 yX8_passesRow wsX8_passesRow) := goodIn_app (goodIn_of _ (by decide +kernel)) ggX8_passesAll_X8_passesRow
set_option maxRecDepth 20000 in
theorem ggX8_image_X8_passesAll : GoodIn wsX8_image wsX8_passesAll := goodIn_r _ [6, 7, 8, 9, 10, 11, 12, 13, 14, 15, 16, 17, 18, 19, 20, 21, 22, 23, 24, 25, 26, 5, 27, 28, 29, 30, 31, 32, 33, 34, 35, 36, 37, 38, 39, 40, 41, 42, 43, 44, 45, 46, 47, 48, 49, 50, 51, 52, 53, 54, 55, 56, 57, 58, 59, 60, 61, 62, 63, 64, 65, 66, 67, 68] (by decide +kernel) (by decide +kernel)
set_option maxRecDepth 20000 in
theorem gX8_image_X8_passesAll : GoodIn wsX8_image (wsV RX8 127 RX8 yX8_passesAll wsX8_passesAll) := goodIn_app (goodIn_of _ (by decide +kernel)) ggX8_image_X8_passesAll
set_option maxRecDepth 20000 in
theorem ggX8_undo_X8_passesAll : GoodIn wsX8_undo wsX8_passesAll := goodIn_r _ [6, 7, 8, 9, 10, 11, 12, 13, 14, 15, 16, 17, 18, 19, 20, 21, 22, 23, 24, 25, 26, 5, 27, 28, 29, 30, 31, 32, 33, 34, 35, 36, 37, 38, 39, 40, 41, 42, 43, 44, 45, 46, 47, 48, 49, 50, 51, 52, 53, 54, 55, 56, 57, 58, 59, 60, 61, 62, 63, 64, 65, 66, 67, 68] (by decide +kernel) (by decide +kernel)
set_option maxRecDepth 20000 in
theorem gX8_undo_X8_passesAll : GoodIn wsX8_undo (wsV RX8 127 RX8 yX8_passesAll wsX8_passesAll) := goodIn_app (goodIn_of _ (by decide +kernel)) ggX8_undo_X8_passesAll
set_option maxRecDepth 20000 in
theorem ggX8_minds_X8_lays : GoodIn wsX8_minds wsX8_lays := goodIn_r _ [14] (by decide +kernel) (by decide +kernel)
set_option maxRecDepth 20000 in
theorem gX8_minds_X8_lays : GoodIn wsX8_minds (va_wsS RX8 131 yX8_lays wsX8_lays) := goodIn_app (goodIn_of _ (by decide +kernel)) ggX8_minds_X8_lays
set_option maxRecDepth 20000 in
theorem ggX8_forgets_X8_lays : GoodIn wsX8_forgets wsX8_lays := goodIn_r _ [14] (by decide +kernel) (by decide +kernel)
set_option maxRecDepth 20000 in
theorem gX8_forgets_X8_lays : GoodIn wsX8_forgets (va_wsS RX8 131 yX8_lays wsX8_lays) := goodIn_app (goodIn_of _ (by decide +kernel)) ggX8_forgets_X8_lays
set_option maxRecDepth 20000 in
theorem ggX8_best_X8_may : GoodIn wsX8_best wsX8_may := goodIn_r _ [6, 7, 13, 14, 15, 16, 17, 18, 19, 20, 21, 22, 23, 24, 25, 26, 27, 28, 29, 30, 31, 32, 33, 34, 35, 36, 37, 38, 39, 40, 41, 42, 43, 44, 45, 46, 47, 48] (by decide +kernel) (by decide +kernel)
set_option maxRecDepth 20000 in
theorem gX8_best_X8_may : GoodIn wsX8_best (wsV RX8 138 RX8 yX8_may wsX8_may) := goodIn_app (goodIn_of _ (by decide +kernel)) ggX8_best_X8_may
set_option maxRecDepth 20000 in
theorem ggX8_best_X8_gain : GoodIn wsX8_best wsX8_gain := goodIn_r _ [11, 1, 7, 12, 13, 14, 15, 16, 17, 18, 19, 20, 21, 22, 23, 24, 25, 26, 27, 28, 29, 30, 31, 32, 33, 34, 35, 36, 37, 38, 39, 40, 41, 42, 43, 44, 45, 46, 47, 48] (by decide +kernel) (by decide +kernel)
set_option maxRecDepth 20000 in
theorem gX8_best_X8_gain : GoodIn wsX8_best (wsV RX8 142 RX8 yX8_gain wsX8_gain) := goodIn_app (goodIn_of _ (by decide +kernel)) ggX8_best_X8_gain
set_option maxRecDepth 20000 in
theorem ggX8_second_X8_may : GoodIn wsX8_second wsX8_may := goodIn_r _ [6, 7, 13, 14, 15, 16, 17, 18, 19, 20, 21, 22, 23, 24, 25, 26, 27, 28, 29, 30, 31, 32, 33, 34, 35, 36, 37, 38, 39, 40, 41, 42, 43, 44, 45, 46, 47, 48] (by decide +kernel) (by decide +kernel)
set_option maxRecDepth 20000 in
theorem gX8_second_X8_may : GoodIn wsX8_second (wsV RX8 138 RX8 yX8_may wsX8_may) := goodIn_app (goodIn_of _ (by decide +kernel)) ggX8_second_X8_may
set_option maxRecDepth 20000 in
theorem ggX8_second_X8_gain : GoodIn wsX8_second wsX8_gain := goodIn_r _ [11, 1, 7, 12, 13, 14, 15, 16, 17, 18, 19, 20, 21, 22, 23, 24, 25, 26, 27, 28, 29, 30, 31, 32, 33, 34, 35, 36, 37, 38, 39, 40, 41, 42, 43, 44, 45, 46, 47, 48] (by decide +kernel) (by decide +kernel)
set_option maxRecDepth 20000 in
theorem gX8_second_X8_gain : GoodIn wsX8_second (wsV RX8 142 RX8 yX8_gain wsX8_gain) := goodIn_app (goodIn_of _ (by decide +kernel)) ggX8_second_X8_gain
set_option maxRecDepth 20000 in
theorem ggX8_offer_X8_best : GoodIn wsX8_offer wsX8_best := goodIn_r _ [7, 8, 9, 10, 11, 6, 12, 13, 14, 15, 16, 17, 1, 22, 23, 24, 25, 26, 27, 28, 29, 30, 31, 32, 33, 34, 35, 36, 37, 38, 39, 40, 41, 42, 43, 44, 45, 46, 47, 48, 49, 50, 51, 52, 53, 54, 55, 56, 57] (by decide +kernel) (by decide +kernel)
set_option maxRecDepth 20000 in
theorem gX8_offer_X8_best : GoodIn wsX8_offer (wsV RX8 146 RX8 yX8_best wsX8_best) := goodIn_app (goodIn_of _ (by decide +kernel)) ggX8_offer_X8_best
set_option maxRecDepth 20000 in
theorem ggX8_offer_X8_gain : GoodIn wsX8_offer wsX8_gain := goodIn_r _ [17, 8, 13, 1, 22, 23, 24, 25, 26, 27, 28, 29, 30, 31, 32, 33, 34, 35, 36, 37, 38, 39, 40, 41, 42, 43, 44, 45, 46, 47, 48, 49, 50, 51, 52, 53, 54, 55, 56, 57] (by decide +kernel) (by decide +kernel)
set_option maxRecDepth 20000 in
theorem gX8_offer_X8_gain : GoodIn wsX8_offer (wsV RX8 142 RX8 yX8_gain wsX8_gain) := goodIn_app (goodIn_of _ (by decide +kernel)) ggX8_offer_X8_gain
set_option maxRecDepth 20000 in
theorem ggX8_offer_X8_second : GoodIn wsX8_offer wsX8_second := goodIn_r _ [21, 8, 9, 10, 11, 6, 12, 13, 14, 15, 16, 17, 1, 22, 23, 24, 25, 26, 27, 28, 29, 30, 31, 32, 33, 34, 35, 36, 37, 38, 39, 40, 41, 42, 43, 44, 45, 46, 47, 48, 49, 50, 51, 52, 53, 54, 55, 56, 57] (by decide +kernel) (by decide +kernel)
set_option maxRecDepth 20000 in
theorem gX8_offer_X8_second : GoodIn wsX8_offer (wsV RX8 149 RX8 yX8_second wsX8_second) := goodIn_app (goodIn_of _ (by decide +kernel)) ggX8_offer_X8_second
set_option maxRecDepth 20000 in
theorem ggX8_next_X8_best : GoodIn wsX8_next wsX8_best := goodIn_r _ [7, 1, 8, 9, 10, 6, 11, 12, 13, 14, 15, 16, 17, 18, 19, 20, 21, 22, 23, 24, 25, 26, 27, 28, 29, 30, 31, 32, 33, 34, 35, 36, 37, 38, 39, 40, 41, 42, 43, 44, 45, 46, 47, 48, 49, 50, 51, 52, 53] (by decide +kernel) (by decide +kernel)
set_option maxRecDepth 20000 in
theorem gX8_next_X8_best : GoodIn wsX8_next (wsV RX8 146 RX8 yX8_best wsX8_best) := goodIn_app (goodIn_of _ (by decide +kernel)) ggX8_next_X8_best
set_option maxRecDepth 20000 in
theorem ggX8_bids_X8_best : GoodIn wsX8_bids wsX8_best := goodIn_r _ [8, 9, 10, 11, 12, 7, 13, 14, 15, 16, 17, 18, 1, 32, 33, 34, 35, 36, 37, 38, 39, 40, 41, 42, 43, 44, 45, 46, 47, 48, 49, 50, 51, 52, 53, 54, 55, 56, 57, 58, 59, 60, 61, 62, 63, 64, 65, 66, 67] (by decide +kernel) (by decide +kernel)
set_option maxRecDepth 20000 in
theorem gX8_bids_X8_best : GoodIn wsX8_bids (wsV RX8 146 RX8 yX8_best wsX8_best) := goodIn_app (goodIn_of _ (by decide +kernel)) ggX8_bids_X8_best
set_option maxRecDepth 20000 in
theorem ggX8_bids_X8_offer : GoodIn wsX8_bids wsX8_offer := goodIn_r _ [22, 1, 23, 4, 5, 6, 7, 8, 9, 10, 11, 12, 13, 14, 15, 16, 17, 18, 24, 25, 26, 27, 32, 33, 34, 35, 36, 37, 38, 39, 40, 41, 42, 43, 44, 45, 46, 47, 48, 49, 50, 51, 52, 53, 54, 55, 56, 57, 58, 59, 60, 61, 62, 63, 64, 65, 66, 67] (by decide +kernel) (by decide +kernel)
set_option maxRecDepth 20000 in
theorem gX8_bids_X8_offer : GoodIn wsX8_bids (wsV RX8 152 RX8 yX8_offer wsX8_offer) := goodIn_app (goodIn_of _ (by decide +kernel)) ggX8_bids_X8_offer
set_option maxRecDepth 20000 in
theorem ggX8_bids_X8_loses : GoodIn wsX8_bids wsX8_loses := goodIn_r _ [31, 3, 2, 32, 33, 34, 35, 36, 37, 38, 39, 40, 41, 42, 43, 44, 45, 46, 47, 48, 49, 50, 51, 52, 53, 54, 55, 56, 57, 58, 59, 60, 61, 62, 63, 64, 65, 66, 67] (by decide +kernel) (by decide +kernel)
set_option maxRecDepth 20000 in
theorem gX8_bids_X8_loses : GoodIn wsX8_bids (wsV RX8 155 RX8 yX8_loses wsX8_loses) := goodIn_app (goodIn_of _ (by decide +kernel)) ggX8_bids_X8_loses
set_option maxRecDepth 20000 in
theorem ggX8_size_X8_in : GoodIn wsX8_size wsX8_in := goodIn_r _ [10] (by decide +kernel) (by decide +kernel)
set_option maxRecDepth 20000 in
theorem gX8_size_X8_in : GoodIn wsX8_size (va_wsS RX8 92 yX8_in wsX8_in) := goodIn_app (goodIn_of _ (by decide +kernel)) ggX8_size_X8_in
set_option maxRecDepth 20000 in
theorem ggX8_size_X8_empties : GoodIn wsX8_size wsX8_empties := goodIn_r _ [14, 15, 2, 16, 22, 23, 24, 25, 26, 27, 28, 29, 30, 31, 32, 33, 34, 35, 36, 37, 38, 39, 40, 41, 42, 43, 44, 45, 46, 47, 48, 49, 50, 51, 52, 53, 54, 55, 56, 57] (by decide +kernel) (by decide +kernel)
set_option maxRecDepth 20000 in
theorem gX8_size_X8_empties : GoodIn wsX8_size (wsV RX8 88 RX8 yX8_empties wsX8_empties) := goodIn_app (goodIn_of _ (by decide +kernel)) ggX8_size_X8_empties
set_option maxRecDepth 20000 in
theorem ggX8_size_X8_free : GoodIn wsX8_size wsX8_free := goodIn_r _ [20, 21, 22, 23, 24, 25, 26, 27, 28, 29, 30, 31, 32, 33, 34, 35, 36, 37, 38, 39, 40, 41, 42, 43, 44, 45, 46, 47, 48, 49, 50, 51, 52, 53, 54, 55, 56, 57] (by decide +kernel) (by decide +kernel)
set_option maxRecDepth 20000 in
theorem gX8_size_X8_free : GoodIn wsX8_size (wsV RX8 161 RX8 yX8_free wsX8_free) := goodIn_app (goodIn_of _ (by decide +kernel)) ggX8_size_X8_free
set_option maxRecDepth 20000 in
theorem ggX8_becomes_X8_loses : GoodIn wsX8_becomes wsX8_loses := goodIn_r _ [6, 7, 8, 9, 10, 11, 12, 13, 14, 15, 16, 17, 18, 19, 20, 21, 22, 23, 24, 25, 26, 27, 28, 29, 30, 31, 32, 33, 34, 35, 36, 37, 38, 39, 40, 41, 42, 43, 44] (by decide +kernel) (by decide +kernel)
set_option maxRecDepth 20000 in
theorem gX8_becomes_X8_loses : GoodIn wsX8_becomes (wsV RX8 155 RX8 yX8_loses wsX8_loses) := goodIn_app (goodIn_of _ (by decide +kernel)) ggX8_becomes_X8_loses
set_option maxRecDepth 20000 in
theorem ggX8_worth_X8_isPair : GoodIn wsX8_worth wsX8_isPair := goodIn_r _ [7, 8, 9, 10, 6, 11, 12, 13, 14, 15, 27, 28, 29, 30, 31, 32, 33, 34, 35, 36, 37, 38, 39, 40, 41, 42, 43, 44, 45, 46, 47, 48, 49, 50, 51, 52, 53, 54, 55, 56, 57, 58, 59, 60, 61, 62] (by decide +kernel) (by decide +kernel)
set_option maxRecDepth 20000 in
theorem gX8_worth_X8_isPair : GoodIn wsX8_worth (wsV RX8 164 RX8 yX8_isPair wsX8_isPair) := goodIn_app (goodIn_of _ (by decide +kernel)) ggX8_worth_X8_isPair
set_option maxRecDepth 20000 in
theorem ggX8_worth_X8_in : GoodIn wsX8_worth wsX8_in := goodIn_r _ [15] (by decide +kernel) (by decide +kernel)
set_option maxRecDepth 20000 in
theorem gX8_worth_X8_in : GoodIn wsX8_worth (va_wsS RX8 92 yX8_in wsX8_in) := goodIn_app (goodIn_of _ (by decide +kernel)) ggX8_worth_X8_in
set_option maxRecDepth 20000 in
theorem ggX8_worth_X8_becomes : GoodIn wsX8_worth wsX8_becomes := goodIn_r _ [19, 20, 21, 22, 23, 6, 24, 25, 26, 27, 28, 29, 30, 31, 32, 33, 34, 35, 36, 37, 38, 39, 40, 41, 42, 43, 44, 45, 46, 47, 48, 49, 50, 51, 52, 53, 54, 55, 56, 57, 58, 59, 60, 61, 62] (by decide +kernel) (by decide +kernel)
set_option maxRecDepth 20000 in
theorem gX8_worth_X8_becomes : GoodIn wsX8_worth (wsV RX8 171 RX8 yX8_becomes wsX8_becomes) := goodIn_app (goodIn_of _ (by decide +kernel)) ggX8_worth_X8_becomes
set_option maxRecDepth 20000 in
theorem ggX8_step_X8_in : GoodIn wsX8_step wsX8_in := goodIn_r _ [6] (by decide +kernel) (by decide +kernel)
set_option maxRecDepth 20000 in
theorem gX8_step_X8_in : GoodIn wsX8_step (va_wsS RX8 92 yX8_in wsX8_in) := goodIn_app (goodIn_of _ (by decide +kernel)) ggX8_step_X8_in
set_option maxRecDepth 20000 in
theorem ggX8_takes_X8_here : GoodIn wsX8_takes wsX8_here := goodIn_r _ [7, 2, 8, 9, 13, 14, 15, 16, 17, 18, 19, 20, 21, 22, 23, 24, 25, 26, 27, 28, 29, 30, 31, 32, 33, 34, 35, 36, 37, 38, 39, 40, 41, 42, 43, 44, 45, 46, 47, 48] (by decide +kernel) (by decide +kernel)
set_option maxRecDepth 20000 in
theorem gX8_takes_X8_here : GoodIn wsX8_takes (wsV RX8 183 RX8 yX8_here wsX8_here) := goodIn_app (goodIn_of _ (by decide +kernel)) ggX8_takes_X8_here
set_option maxRecDepth 20000 in
theorem ggX8_takes_X8_in : GoodIn wsX8_takes wsX8_in := goodIn_r _ [12] (by decide +kernel) (by decide +kernel)
set_option maxRecDepth 20000 in
theorem gX8_takes_X8_in : GoodIn wsX8_takes (va_wsS RX8 92 yX8_in wsX8_in) := goodIn_app (goodIn_of _ (by decide +kernel)) ggX8_takes_X8_in
set_option maxRecDepth 20000 in
theorem ggX8_takesOne_X8_takes : GoodIn wsX8_takesOne wsX8_takes := goodIn_r _ [8, 1, 3, 9, 10, 11, 7, 12, 13, 14, 15, 16, 17, 18, 19, 20, 21, 22, 23, 24, 25, 26, 27, 28, 29, 30, 31, 32, 33, 34, 35, 36, 37, 38, 39, 40, 41, 42, 43, 44, 45, 46, 47, 48, 49, 50, 51, 52, 53] (by decide +kernel) (by decide +kernel)
set_option maxRecDepth 20000 in
theorem gX8_takesOne_X8_takes : GoodIn wsX8_takesOne (wsV RX8 189 RX8 yX8_takes wsX8_takes) := goodIn_app (goodIn_of _ (by decide +kernel)) ggX8_takesOne_X8_takes
set_option maxRecDepth 20000 in
theorem ggX8_takesWorth_X8_here : GoodIn wsX8_takesWorth wsX8_here := goodIn_r _ [9, 1, 10, 11, 19, 20, 21, 22, 23, 24, 25, 26, 27, 28, 29, 30, 31, 32, 33, 34, 35, 36, 37, 38, 39, 40, 41, 42, 43, 44, 45, 46, 47, 48, 49, 50, 51, 52, 53, 54] (by decide +kernel) (by decide +kernel)
set_option maxRecDepth 20000 in
theorem gX8_takesWorth_X8_here : GoodIn wsX8_takesWorth (wsV RX8 183 RX8 yX8_here wsX8_here) := goodIn_app (goodIn_of _ (by decide +kernel)) ggX8_takesWorth_X8_here
set_option maxRecDepth 20000 in
theorem ggX8_takesWorth_X8_takes : GoodIn wsX8_takesWorth wsX8_takes := goodIn_r _ [15, 2, 1, 5, 6, 7, 8, 9, 10, 11, 16, 17, 18, 19, 20, 21, 22, 23, 24, 25, 26, 27, 28, 29, 30, 31, 32, 33, 34, 35, 36, 37, 38, 39, 40, 41, 42, 43, 44, 45, 46, 47, 48, 49, 50, 51, 52, 53, 54] (by decide +kernel) (by decide +kernel)
set_option maxRecDepth 20000 in
theorem gX8_takesWorth_X8_takes : GoodIn wsX8_takesWorth (wsV RX8 189 RX8 yX8_takes wsX8_takes) := goodIn_app (goodIn_of _ (by decide +kernel)) ggX8_takesWorth_X8_takes
set_option maxRecDepth 20000 in
theorem ggX8_takesWorth_X8_in : GoodIn wsX8_takesWorth wsX8_in := goodIn_r _ [18] (by decide +kernel) (by decide +kernel)
set_option maxRecDepth 20000 in
theorem gX8_takesWorth_X8_in : GoodIn wsX8_takesWorth (va_wsS RX8 92 yX8_in wsX8_in) := goodIn_app (goodIn_of _ (by decide +kernel)) ggX8_takesWorth_X8_in
set_option maxRecDepth 20000 in
theorem ggX8_clause_X8_takesOne : GoodIn wsX8_clause wsX8_takesOne := goodIn_r _ [7, 1, 8, 9, 10, 11, 12, 6, 13, 14, 15, 16, 17, 18, 19, 20, 21, 22, 40, 41, 42, 43, 44, 45, 46, 47, 48, 49, 50, 51, 52, 53, 54, 55, 56, 57, 58, 59, 60, 61, 62, 63, 64, 65, 66, 67, 68, 69, 70, 71, 72, 73, 74, 75] (by decide +kernel) (by decide +kernel)
set_option maxRecDepth 20000 in
theorem gX8_clause_X8_takesOne : GoodIn wsX8_clause (wsV RX8 196 RX8 yX8_takesOne wsX8_takesOne) := goodIn_app (goodIn_of _ (by decide +kernel)) ggX8_clause_X8_takesOne
set_option maxRecDepth 20000 in
theorem ggX8_clause_X8_takesWorth : GoodIn wsX8_clause wsX8_takesWorth := goodIn_r _ [26, 9, 1, 27, 28, 14, 15, 16, 6, 17, 18, 19, 10, 11, 12, 13, 20, 21, 22, 40, 41, 42, 43, 44, 45, 46, 47, 48, 49, 50, 51, 52, 53, 54, 55, 56, 57, 58, 59, 60, 61, 62, 63, 64, 65, 66, 67, 68, 69, 70, 71, 72, 73, 74, 75] (by decide +kernel) (by decide +kernel)
set_option maxRecDepth 20000 in
theorem gX8_clause_X8_takesWorth : GoodIn wsX8_clause (wsV RX8 199 RX8 yX8_takesWorth wsX8_takesWorth) := goodIn_app (goodIn_of _ (by decide +kernel)) ggX8_clause_X8_takesWorth
set_option maxRecDepth 20000 in
theorem ggX8_clause_X8_becomes : GoodIn wsX8_clause wsX8_becomes := goodIn_r _ [32, 33, 34, 35, 36, 6, 37, 38, 39, 40, 41, 42, 43, 44, 45, 46, 47, 48, 49, 50, 51, 52, 53, 54, 55, 56, 57, 58, 59, 60, 61, 62, 63, 64, 65, 66, 67, 68, 69, 70, 71, 72, 73, 74, 75] (by decide +kernel) (by decide +kernel)
set_option maxRecDepth 20000 in
theorem gX8_clause_X8_becomes : GoodIn wsX8_clause (wsV RX8 171 RX8 yX8_becomes wsX8_becomes) := goodIn_app (goodIn_of _ (by decide +kernel)) ggX8_clause_X8_becomes
set_option maxRecDepth 20000 in
theorem ggX8_goesThrough_X8_clause : GoodIn wsX8_goesThrough wsX8_clause := goodIn_r _ [9, 2, 3, 10, 11, 12, 8, 13, 14, 1, 15, 16, 17, 18, 19, 20, 21, 22, 4, 23, 24, 25, 26, 27, 28, 29, 30, 31, 32, 33, 34, 35, 36, 37, 38, 39, 40, 41, 42, 43, 44, 45, 46, 47, 48, 49, 50, 51, 52, 53, 54, 55, 56, 57, 58, 59, 60, 61, 62, 63, 64, 65, 66, 67, 68, 69, 70, 71, 72, 73, 74, 75, 76, 77, 78, 79] (by decide +kernel) (by decide +kernel)
set_option maxRecDepth 20000 in
theorem gX8_goesThrough_X8_clause : GoodIn wsX8_goesThrough (wsV RX8 205 RX8 yX8_clause wsX8_clause) := goodIn_app (goodIn_of _ (by decide +kernel)) ggX8_goesThrough_X8_clause
set_option maxRecDepth 20000 in
theorem ggX8_goesThrough_X8_here : GoodIn wsX8_goesThrough wsX8_here := goodIn_r _ [22, 1, 4, 23, 44, 45, 46, 47, 48, 49, 50, 51, 52, 53, 54, 55, 56, 57, 58, 59, 60, 61, 62, 63, 64, 65, 66, 67, 68, 69, 70, 71, 72, 73, 74, 75, 76, 77, 78, 79] (by decide +kernel) (by decide +kernel)
set_option maxRecDepth 20000 in
theorem gX8_goesThrough_X8_here : GoodIn wsX8_goesThrough (wsV RX8 183 RX8 yX8_here wsX8_here) := goodIn_app (goodIn_of _ (by decide +kernel)) ggX8_goesThrough_X8_here
set_option maxRecDepth 20000 in
theorem ggX8_feed_X8_in : GoodIn wsX8_feed wsX8_in := goodIn_r _ [7] (by decide +kernel) (by decide +kernel)
set_option maxRecDepth 20000 in
theorem gX8_feed_X8_in : GoodIn wsX8_feed (va_wsS RX8 92 yX8_in wsX8_in) := goodIn_app (goodIn_of _ (by decide +kernel)) ggX8_feed_X8_in
set_option maxRecDepth 20000 in
theorem ggX8_read_X8_goesThrough : GoodIn wsX8_read wsX8_goesThrough := goodIn_r _ [9, 4, 1, 3, 2, 10, 11, 12, 8, 13, 14, 15, 16, 17, 18, 19, 20, 21, 22, 23, 24, 25, 26, 27, 28, 29, 30, 31, 32, 33, 34, 35, 36, 37, 38, 39, 40, 41, 42, 43, 44, 45, 46, 47, 53, 54, 55, 56, 57, 58, 59, 60, 61, 62, 63, 64, 65, 66, 67, 68, 69, 70, 71, 72, 73, 74, 75, 76, 77, 78, 79, 80, 81, 82, 83, 84, 85, 86, 87, 88] (by decide +kernel) (by decide +kernel)
set_option maxRecDepth 20000 in
theorem gX8_read_X8_goesThrough : GoodIn wsX8_read (wsV RX8 211 RX8 yX8_goesThrough wsX8_goesThrough) := goodIn_app (goodIn_of _ (by decide +kernel)) ggX8_read_X8_goesThrough
set_option maxRecDepth 20000 in
theorem ggX8_read_X8_tellsWrong : GoodIn wsX8_read wsX8_tellsWrong := goodIn_r _ [51, 52, 53, 54, 55, 56, 57, 58, 59, 60, 61, 62, 63, 64, 65, 66, 67, 68, 69, 70, 71, 72, 73, 74, 75, 76, 77, 78, 79, 80, 81, 82, 83, 84, 85, 86, 87, 88] (by decide +kernel) (by decide +kernel)
set_option maxRecDepth 20000 in
theorem gX8_read_X8_tellsWrong : GoodIn wsX8_read (wsV RX8 214 RX8 yX8_tellsWrong wsX8_tellsWrong) := goodIn_app (goodIn_of _ (by decide +kernel)) ggX8_read_X8_tellsWrong
set_option maxRecDepth 20000 in
theorem ggX8_bidsAll_X8_next : GoodIn wsX8_bidsAll wsX8_next := goodIn_r _ [7, 8, 9, 10, 11, 12, 6, 13, 14, 15, 16, 17, 18, 19, 20, 21, 22, 2, 50, 51, 52, 53, 54, 55, 56, 57, 58, 59, 60, 61, 62, 63, 64, 65, 66, 67, 68, 69, 70, 71, 72, 73, 74, 75, 76, 77, 78, 79, 80, 81, 82, 83, 84, 85] (by decide +kernel) (by decide +kernel)
set_option maxRecDepth 20000 in
theorem gX8_bidsAll_X8_next : GoodIn wsX8_bidsAll (wsV RX8 221 RX8 yX8_next wsX8_next) := goodIn_app (goodIn_of _ (by decide +kernel)) ggX8_bidsAll_X8_next
set_option maxRecDepth 20000 in
theorem ggX8_bidsAll_X8_bids : GoodIn wsX8_bidsAll wsX8_bids := goodIn_r _ [26, 2, 27, 9, 10, 11, 12, 6, 13, 8, 14, 15, 16, 17, 18, 19, 20, 21, 22, 28, 29, 30, 31, 32, 33, 34, 35, 36, 37, 38, 39, 40, 50, 51, 52, 53, 54, 55, 56, 57, 58, 59, 60, 61, 62, 63, 64, 65, 66, 67, 68, 69, 70, 71, 72, 73, 74, 75, 76, 77, 78, 79, 80, 81, 82, 83, 84, 85] (by decide +kernel) (by decide +kernel)
set_option maxRecDepth 20000 in
theorem gX8_bidsAll_X8_bids : GoodIn wsX8_bidsAll (wsV RX8 224 RX8 yX8_bids wsX8_bids) := goodIn_app (goodIn_of _ (by decide +kernel)) ggX8_bidsAll_X8_bids
set_option maxRecDepth 20000 in
theorem ggX8_bidsAll_X8_tellsWrong : GoodIn wsX8_bidsAll wsX8_tellsWrong := goodIn_r _ [44, 45, 50, 51, 52, 53, 54, 55, 56, 57, 58, 59, 60, 61, 62, 63, 64, 65, 66, 67, 68, 69, 70, 71, 72, 73, 74, 75, 76, 77, 78, 79, 80, 81, 82, 83, 84, 85] (by decide +kernel) (by decide +kernel)
set_option maxRecDepth 20000 in
theorem gX8_bidsAll_X8_tellsWrong : GoodIn wsX8_bidsAll (wsV RX8 214 RX8 yX8_tellsWrong wsX8_tellsWrong) := goodIn_app (goodIn_of _ (by decide +kernel)) ggX8_bidsAll_X8_tellsWrong
set_option maxRecDepth 20000 in
theorem ggX8_bidsAll_X8_tellsLeft : GoodIn wsX8_bidsAll wsX8_tellsLeft := goodIn_r _ [49, 8, 9, 41, 42, 43, 6, 44, 45, 50, 51, 52, 53, 54, 55, 56, 57, 58, 59, 60, 61, 62, 63, 64, 65, 66, 67, 68, 69, 70, 71, 72, 73, 74, 75, 76, 77, 78, 79, 80, 81, 82, 83, 84, 85] (by decide +kernel) (by decide +kernel)
set_option maxRecDepth 20000 in
theorem gX8_bidsAll_X8_tellsLeft : GoodIn wsX8_bidsAll (wsV RX8 227 RX8 yX8_tellsLeft wsX8_tellsLeft) := goodIn_app (goodIn_of _ (by decide +kernel)) ggX8_bidsAll_X8_tellsLeft
set_option maxRecDepth 20000 in
theorem ggX8_tellsLeft_X8_tellsWrong : GoodIn wsX8_tellsLeft wsX8_tellsWrong := goodIn_r _ [7, 8, 9, 10, 11, 12, 13, 14, 15, 16, 17, 18, 19, 20, 21, 22, 23, 24, 25, 26, 27, 28, 29, 30, 31, 32, 33, 34, 35, 36, 37, 38, 39, 40, 41, 42, 43, 44] (by decide +kernel) (by decide +kernel)
set_option maxRecDepth 20000 in
theorem gX8_tellsLeft_X8_tellsWrong : GoodIn wsX8_tellsLeft (wsV RX8 214 RX8 yX8_tellsWrong wsX8_tellsWrong) := goodIn_app (goodIn_of _ (by decide +kernel)) ggX8_tellsLeft_X8_tellsWrong
set_option maxRecDepth 20000 in
theorem ggX8_bid_X8_next : GoodIn wsX8_bid wsX8_next := goodIn_r _ [5, 6, 7, 8, 9, 10, 4, 11, 12, 13, 14, 15, 16, 17, 18, 19, 20, 21, 40, 41, 42, 43, 44, 45, 46, 47, 48, 49, 50, 51, 52, 53, 54, 55, 56, 57, 58, 59, 60, 61, 62, 63, 64, 65, 66, 67, 68, 69, 70, 71, 72, 73, 74, 75] (by decide +kernel) (by decide +kernel)
set_option maxRecDepth 20000 in
theorem gX8_bid_X8_next : GoodIn wsX8_bid (wsV RX8 221 RX8 yX8_next wsX8_next) := goodIn_app (goodIn_of _ (by decide +kernel)) ggX8_bid_X8_next
set_option maxRecDepth 20000 in
theorem ggX8_bid_X8_bids : GoodIn wsX8_bid wsX8_bids := goodIn_r _ [25, 21, 26, 7, 8, 9, 10, 4, 11, 6, 12, 13, 14, 15, 16, 17, 18, 19, 20, 27, 28, 29, 30, 31, 32, 33, 34, 35, 36, 37, 38, 39, 40, 41, 42, 43, 44, 45, 46, 47, 48, 49, 50, 51, 52, 53, 54, 55, 56, 57, 58, 59, 60, 61, 62, 63, 64, 65, 66, 67, 68, 69, 70, 71, 72, 73, 74, 75] (by decide +kernel) (by decide +kernel)
set_option maxRecDepth 20000 in
theorem gX8_bid_X8_bids : GoodIn wsX8_bid (wsV RX8 224 RX8 yX8_bids wsX8_bids) := goodIn_app (goodIn_of _ (by decide +kernel)) ggX8_bid_X8_bids
set_option maxRecDepth 20000 in
theorem ggX8_auction_X8_bidsAll : GoodIn wsX8_auction wsX8_bidsAll := goodIn_r _ [6, 1, 7, 8, 9, 10, 5, 11, 12, 13, 14, 15, 16, 17, 18, 19, 20, 21, 22, 23, 24, 25, 26, 27, 28, 29, 30, 31, 32, 33, 34, 35, 36, 37, 38, 39, 40, 41, 42, 43, 44, 45, 46, 47, 48, 49, 50, 51, 52, 53, 54, 55, 56, 57, 58, 59, 60, 61, 62, 63, 64, 65, 66, 67, 68, 69, 70, 71, 72, 73, 74, 75, 76, 77, 78, 79, 80, 81, 82, 83, 84, 85, 86, 87, 88, 89] (by decide +kernel) (by decide +kernel)
set_option maxRecDepth 20000 in
theorem gX8_auction_X8_bidsAll : GoodIn wsX8_auction (wsV RX8 230 RX8 yX8_bidsAll wsX8_bidsAll) := goodIn_app (goodIn_of _ (by decide +kernel)) ggX8_auction_X8_bidsAll
set_option maxRecDepth 20000 in
theorem ggX8_scaled_X8_empties : GoodIn wsX8_scaled wsX8_empties := goodIn_r _ [7, 8, 9, 10, 58, 59, 60, 61, 62, 63, 64, 65, 66, 67, 68, 69, 70, 71, 72, 73, 74, 75, 76, 77, 78, 79, 80, 81, 82, 83, 84, 85, 86, 87, 88, 89, 90, 91, 92, 93] (by decide +kernel) (by decide +kernel)
set_option maxRecDepth 20000 in
theorem gX8_scaled_X8_empties : GoodIn wsX8_scaled (wsV RX8 88 RX8 yX8_empties wsX8_empties) := goodIn_app (goodIn_of _ (by decide +kernel)) ggX8_scaled_X8_empties
set_option maxRecDepth 20000 in
theorem ggX8_scaled_X8_bidsAll : GoodIn wsX8_scaled wsX8_bidsAll := goodIn_r _ [14, 2, 15, 16, 17, 18, 6, 19, 9, 8, 20, 21, 22, 23, 24, 25, 26, 27, 28, 29, 30, 31, 32, 33, 34, 35, 36, 10, 37, 38, 39, 40, 1, 41, 42, 43, 44, 45, 46, 47, 48, 49, 50, 51, 52, 53, 54, 55, 56, 57, 58, 59, 60, 61, 62, 63, 64, 65, 66, 67, 68, 69, 70, 71, 72, 73, 74, 75, 76, 77, 78, 79, 80, 81, 82, 83, 84, 85, 86, 87, 88, 89, 90, 91, 92, 93] (by decide +kernel) (by decide +kernel)
set_option maxRecDepth 20000 in
theorem gX8_scaled_X8_bidsAll : GoodIn wsX8_scaled (wsV RX8 230 RX8 yX8_bidsAll wsX8_bidsAll) := goodIn_app (goodIn_of _ (by decide +kernel)) ggX8_scaled_X8_bidsAll
set_option maxRecDepth 20000 in
theorem ggX8_fresh_X8_free : GoodIn wsX8_fresh wsX8_free := goodIn_r _ [5, 6, 14, 15, 16, 17, 18, 19, 20, 21, 22, 23, 24, 25, 26, 27, 28, 29, 30, 31, 32, 33, 34, 35, 36, 37, 38, 39, 40, 41, 42, 43, 44, 45, 46, 47, 48, 49] (by decide +kernel) (by decide +kernel)
set_option maxRecDepth 20000 in
theorem gX8_fresh_X8_free : GoodIn wsX8_fresh (wsV RX8 161 RX8 yX8_free wsX8_free) := goodIn_app (goodIn_of _ (by decide +kernel)) ggX8_fresh_X8_free
set_option maxRecDepth 20000 in
theorem ggX8_fresh_X8_empties : GoodIn wsX8_fresh wsX8_empties := goodIn_r _ [10, 11, 12, 13, 14, 15, 16, 17, 18, 19, 20, 21, 22, 23, 24, 25, 26, 27, 28, 29, 30, 31, 32, 33, 34, 35, 36, 37, 38, 39, 40, 41, 42, 43, 44, 45, 46, 47, 48, 49] (by decide +kernel) (by decide +kernel)
set_option maxRecDepth 20000 in
theorem gX8_fresh_X8_empties : GoodIn wsX8_fresh (wsV RX8 88 RX8 yX8_empties wsX8_empties) := goodIn_app (goodIn_of _ (by decide +kernel)) ggX8_fresh_X8_empties
set_option maxRecDepth 20000 in
theorem ggX8_leave_X8_isOne : GoodIn wsX8_leave wsX8_isOne := goodIn_r _ [6, 7, 8, 9, 5, 10, 16, 17, 18, 19, 20, 21, 22, 23, 24, 25, 26, 27, 28, 29, 30, 31, 32, 33, 34, 35, 36, 37, 38, 39, 40, 41, 42, 43, 44, 45, 46, 47, 48, 49, 50, 51] (by decide +kernel) (by decide +kernel)
set_option maxRecDepth 20000 in
theorem gX8_leave_X8_isOne : GoodIn wsX8_leave (wsV RX8 96 RX8 yX8_isOne wsX8_isOne) := goodIn_app (goodIn_of _ (by decide +kernel)) ggX8_leave_X8_isOne
set_option maxRecDepth 20000 in
theorem ggX8_leave_X8_loses : GoodIn wsX8_leave wsX8_loses := goodIn_r _ [14, 1, 15, 16, 17, 18, 19, 20, 21, 22, 23, 24, 25, 26, 27, 28, 29, 30, 31, 32, 33, 34, 35, 36, 37, 38, 39, 40, 41, 42, 43, 44, 45, 46, 47, 48, 49, 50, 51] (by decide +kernel) (by decide +kernel)
set_option maxRecDepth 20000 in
theorem gX8_leave_X8_loses : GoodIn wsX8_leave (wsV RX8 155 RX8 yX8_loses wsX8_loses) := goodIn_app (goodIn_of _ (by decide +kernel)) ggX8_leave_X8_loses
set_option maxRecDepth 20000 in
theorem ggX8_of_X8_isPair : GoodIn wsX8_of wsX8_isPair := goodIn_r _ [8, 9, 10, 11, 7, 12, 13, 14, 15, 16, 26, 27, 28, 29, 30, 31, 32, 33, 34, 35, 36, 37, 38, 39, 40, 41, 42, 43, 44, 45, 46, 47, 48, 49, 50, 51, 52, 53, 54, 55, 56, 57, 58, 59, 60, 61] (by decide +kernel) (by decide +kernel)
set_option maxRecDepth 20000 in
theorem gX8_of_X8_isPair : GoodIn wsX8_of (wsV RX8 164 RX8 yX8_isPair wsX8_isPair) := goodIn_app (goodIn_of _ (by decide +kernel)) ggX8_of_X8_isPair
set_option maxRecDepth 20000 in
theorem ggX8_of_X8_in : GoodIn wsX8_of wsX8_in := goodIn_r _ [16] (by decide +kernel) (by decide +kernel)
set_option maxRecDepth 20000 in
theorem gX8_of_X8_in : GoodIn wsX8_of (va_wsS RX8 92 yX8_in wsX8_in) := goodIn_app (goodIn_of _ (by decide +kernel)) ggX8_of_X8_in
set_option maxRecDepth 20000 in
theorem ggX8_of_X8_may : GoodIn wsX8_of wsX8_may := goodIn_r _ [20, 3, 26, 27, 28, 29, 30, 31, 32, 33, 34, 35, 36, 37, 38, 39, 40, 41, 42, 43, 44, 45, 46, 47, 48, 49, 50, 51, 52, 53, 54, 55, 56, 57, 58, 59, 60, 61] (by decide +kernel) (by decide +kernel)
set_option maxRecDepth 20000 in
theorem gX8_of_X8_may : GoodIn wsX8_of (wsV RX8 138 RX8 yX8_may wsX8_may) := goodIn_app (goodIn_of _ (by decide +kernel)) ggX8_of_X8_may
set_option maxRecDepth 20000 in
theorem ggX8_of_X8_gain : GoodIn wsX8_of wsX8_gain := goodIn_r _ [24, 13, 3, 25, 26, 27, 28, 29, 30, 31, 32, 33, 34, 35, 36, 37, 38, 39, 40, 41, 42, 43, 44, 45, 46, 47, 48, 49, 50, 51, 52, 53, 54, 55, 56, 57, 58, 59, 60, 61] (by decide +kernel) (by decide +kernel)
set_option maxRecDepth 20000 in
theorem gX8_of_X8_gain : GoodIn wsX8_of (wsV RX8 142 RX8 yX8_gain wsX8_gain) := goodIn_app (goodIn_of _ (by decide +kernel)) ggX8_of_X8_gain
set_option maxRecDepth 20000 in
theorem ggX8_envy_X8_gain : GoodIn wsX8_envy wsX8_gain := goodIn_r _ [7, 2, 8, 9, 14, 15, 16, 17, 18, 19, 20, 21, 22, 23, 24, 25, 26, 27, 28, 29, 30, 31, 32, 33, 34, 35, 36, 37, 38, 39, 40, 41, 42, 43, 44, 45, 46, 47, 48, 49] (by decide +kernel) (by decide +kernel)
set_option maxRecDepth 20000 in
theorem gX8_envy_X8_gain : GoodIn wsX8_envy (wsV RX8 142 RX8 yX8_gain wsX8_gain) := goodIn_app (goodIn_of _ (by decide +kernel)) ggX8_envy_X8_gain
set_option maxRecDepth 20000 in
theorem ggX8_envy_X8_may : GoodIn wsX8_envy wsX8_may := goodIn_r _ [13, 8, 14, 15, 16, 17, 18, 19, 20, 21, 22, 23, 24, 25, 26, 27, 28, 29, 30, 31, 32, 33, 34, 35, 36, 37, 38, 39, 40, 41, 42, 43, 44, 45, 46, 47, 48, 49] (by decide +kernel) (by decide +kernel)
set_option maxRecDepth 20000 in
theorem gX8_envy_X8_may : GoodIn wsX8_envy (wsV RX8 138 RX8 yX8_may wsX8_may) := goodIn_app (goodIn_of _ (by decide +kernel)) ggX8_envy_X8_may
set_option maxRecDepth 20000 in
theorem ggX8_open_X8_may : GoodIn wsX8_open wsX8_may := goodIn_r _ [6, 7, 8, 9, 10, 11, 12, 13, 14, 15, 16, 17, 18, 19, 20, 21, 22, 23, 24, 25, 26, 27, 28, 29, 30, 31, 32, 33, 34, 35, 36, 37, 38, 39, 40, 41, 42, 43] (by decide +kernel) (by decide +kernel)
set_option maxRecDepth 20000 in
theorem gX8_open_X8_may : GoodIn wsX8_open (wsV RX8 138 RX8 yX8_may wsX8_may) := goodIn_app (goodIn_of _ (by decide +kernel)) ggX8_open_X8_may
set_option maxRecDepth 20000 in
theorem ggX8_person_X8_isOne : GoodIn wsX8_person wsX8_isOne := goodIn_r _ [6, 7, 8, 9, 5, 10, 36, 37, 38, 39, 40, 41, 42, 43, 44, 45, 46, 47, 48, 49, 50, 51, 52, 53, 54, 55, 56, 57, 58, 59, 60, 61, 62, 63, 64, 65, 66, 67, 68, 69, 70, 71] (by decide +kernel) (by decide +kernel)
set_option maxRecDepth 20000 in
theorem gX8_person_X8_isOne : GoodIn wsX8_person (wsV RX8 96 RX8 yX8_isOne wsX8_isOne) := goodIn_app (goodIn_of _ (by decide +kernel)) ggX8_person_X8_isOne
set_option maxRecDepth 20000 in
theorem ggX8_person_X8_best : GoodIn wsX8_person wsX8_best := goodIn_r _ [14, 7, 15, 16, 17, 5, 18, 19, 20, 21, 22, 23, 24, 36, 37, 38, 39, 40, 41, 42, 43, 44, 45, 46, 47, 48, 49, 50, 51, 52, 53, 54, 55, 56, 57, 58, 59, 60, 61, 62, 63, 64, 65, 66, 67, 68, 69, 70, 71] (by decide +kernel) (by decide +kernel)
set_option maxRecDepth 20000 in
theorem gX8_person_X8_best : GoodIn wsX8_person (wsV RX8 146 RX8 yX8_best wsX8_best) := goodIn_app (goodIn_of _ (by decide +kernel)) ggX8_person_X8_best
set_option maxRecDepth 20000 in
theorem ggX8_person_X8_envy : GoodIn wsX8_person wsX8_envy := goodIn_r _ [28, 1, 7, 20, 21, 22, 5, 23, 19, 24, 15, 16, 17, 18, 36, 37, 38, 39, 40, 41, 42, 43, 44, 45, 46, 47, 48, 49, 50, 51, 52, 53, 54, 55, 56, 57, 58, 59, 60, 61, 62, 63, 64, 65, 66, 67, 68, 69, 70, 71] (by decide +kernel) (by decide +kernel)
set_option maxRecDepth 20000 in
theorem gX8_person_X8_envy : GoodIn wsX8_person (wsV RX8 237 RX8 yX8_envy wsX8_envy) := goodIn_app (goodIn_of _ (by decide +kernel)) ggX8_person_X8_envy
set_option maxRecDepth 20000 in
theorem ggX8_person_X8_open : GoodIn wsX8_person wsX8_open := goodIn_r _ [32, 7, 15, 16, 17, 5, 18, 19, 36, 37, 38, 39, 40, 41, 42, 43, 44, 45, 46, 47, 48, 49, 50, 51, 52, 53, 54, 55, 56, 57, 58, 59, 60, 61, 62, 63, 64, 65, 66, 67, 68, 69, 70, 71] (by decide +kernel) (by decide +kernel)
set_option maxRecDepth 20000 in
theorem gX8_person_X8_open : GoodIn wsX8_person (wsV RX8 240 RX8 yX8_open wsX8_open) := goodIn_app (goodIn_of _ (by decide +kernel)) ggX8_person_X8_open
set_option maxRecDepth 20000 in
theorem ggX8_person_X8_bits : GoodIn wsX8_person wsX8_bits := goodIn_r _ [35] (by decide +kernel) (by decide +kernel)
set_option maxRecDepth 20000 in
theorem gX8_person_X8_bits : GoodIn wsX8_person (va_wsS RX8 243 yX8_bits wsX8_bits) := goodIn_app (goodIn_of _ (by decide +kernel)) ggX8_person_X8_bits
set_option maxRecDepth 20000 in
theorem ggX8_wanted_X8_best : GoodIn wsX8_wanted wsX8_best := goodIn_r _ [6, 1, 7, 8, 9, 5, 10, 11, 12, 13, 14, 15, 16, 17, 18, 19, 20, 21, 22, 23, 24, 25, 26, 27, 28, 29, 30, 31, 32, 33, 34, 35, 36, 37, 38, 39, 40, 41, 42, 43, 44, 45, 46, 47, 48, 49, 50, 51, 52] (by decide +kernel) (by decide +kernel)
set_option maxRecDepth 20000 in
theorem gX8_wanted_X8_best : GoodIn wsX8_wanted (wsV RX8 146 RX8 yX8_best wsX8_best) := goodIn_app (goodIn_of _ (by decide +kernel)) ggX8_wanted_X8_best
set_option maxRecDepth 20000 in
theorem ggX8_thing_X8_isOne : GoodIn wsX8_thing wsX8_isOne := goodIn_r _ [7, 8, 9, 10, 6, 11, 29, 30, 31, 32, 33, 34, 35, 36, 37, 38, 39, 40, 41, 42, 43, 44, 45, 46, 47, 48, 49, 50, 51, 52, 53, 54, 55, 56, 57, 58, 59, 60, 61, 62, 63, 64] (by decide +kernel) (by decide +kernel)
set_option maxRecDepth 20000 in
theorem gX8_thing_X8_isOne : GoodIn wsX8_thing (wsV RX8 96 RX8 yX8_isOne wsX8_isOne) := goodIn_app (goodIn_of _ (by decide +kernel)) ggX8_thing_X8_isOne
set_option maxRecDepth 20000 in
theorem ggX8_thing_X8_wanted : GoodIn wsX8_thing wsX8_wanted := goodIn_r _ [15, 8, 16, 17, 18, 6, 19, 20, 21, 22, 23, 24, 25, 26, 27, 28, 1, 29, 30, 31, 32, 33, 34, 35, 36, 37, 38, 39, 40, 41, 42, 43, 44, 45, 46, 47, 48, 49, 50, 51, 52, 53, 54, 55, 56, 57, 58, 59, 60, 61, 62, 63, 64] (by decide +kernel) (by decide +kernel)
set_option maxRecDepth 20000 in
theorem gX8_thing_X8_wanted : GoodIn wsX8_thing (wsV RX8 246 RX8 yX8_wanted wsX8_wanted) := goodIn_app (goodIn_of _ (by decide +kernel)) ggX8_thing_X8_wanted
set_option maxRecDepth 20000 in
theorem ggX8_most_X8_bits : GoodIn wsX8_most wsX8_bits := goodIn_r _ [11] (by decide +kernel) (by decide +kernel)
set_option maxRecDepth 20000 in
theorem gX8_most_X8_bits : GoodIn wsX8_most (va_wsS RX8 243 yX8_bits wsX8_bits) := goodIn_app (goodIn_of _ (by decide +kernel)) ggX8_most_X8_bits
set_option maxRecDepth 20000 in
theorem ggX8_most_X8_may : GoodIn wsX8_most wsX8_may := goodIn_r _ [15, 3, 16, 17, 18, 19, 20, 21, 22, 23, 24, 25, 26, 27, 28, 29, 30, 31, 32, 33, 34, 35, 36, 37, 38, 39, 40, 41, 42, 43, 44, 45, 46, 47, 48, 49, 50, 51] (by decide +kernel) (by decide +kernel)
set_option maxRecDepth 20000 in
theorem gX8_most_X8_may : GoodIn wsX8_most (wsV RX8 138 RX8 yX8_may wsX8_may) := goodIn_app (goodIn_of _ (by decide +kernel)) ggX8_most_X8_may
set_option maxRecDepth 20000 in
theorem ggX8_sure_X8_best : GoodIn wsX8_sure wsX8_best := goodIn_r _ [8, 1, 9, 10, 11, 7, 12, 13, 14, 15, 16, 17, 18, 19, 20, 21, 22, 23, 24, 25, 26, 27, 28, 29, 30, 31, 32, 33, 34, 35, 36, 37, 38, 39, 40, 41, 42, 43, 44, 45, 46, 47, 48, 49, 50, 51, 52, 53, 54] (by decide +kernel) (by decide +kernel)
set_option maxRecDepth 20000 in
theorem gX8_sure_X8_best : GoodIn wsX8_sure (wsV RX8 146 RX8 yX8_best wsX8_best) := goodIn_app (goodIn_of _ (by decide +kernel)) ggX8_sure_X8_best
set_option maxRecDepth 20000 in
theorem ggX8_sure_X8_gain : GoodIn wsX8_sure wsX8_gain := goodIn_r _ [17, 1, 13, 18, 19, 20, 21, 22, 23, 24, 25, 26, 27, 28, 29, 30, 31, 32, 33, 34, 35, 36, 37, 38, 39, 40, 41, 42, 43, 44, 45, 46, 47, 48, 49, 50, 51, 52, 53, 54] (by decide +kernel) (by decide +kernel)
set_option maxRecDepth 20000 in
theorem gX8_sure_X8_gain : GoodIn wsX8_sure (wsV RX8 142 RX8 yX8_gain wsX8_gain) := goodIn_app (goodIn_of _ (by decide +kernel)) ggX8_sure_X8_gain
set_option maxRecDepth 20000 in
theorem ggX8_lack_X8_open : GoodIn wsX8_lack wsX8_open := goodIn_r _ [6, 1, 7, 8, 9, 5, 10, 11, 15, 16, 17, 18, 19, 20, 21, 22, 23, 24, 25, 26, 27, 28, 29, 30, 31, 32, 33, 34, 35, 36, 37, 38, 39, 40, 41, 42, 43, 44, 45, 46, 47, 48, 49, 50] (by decide +kernel) (by decide +kernel)
set_option maxRecDepth 20000 in
theorem gX8_lack_X8_open : GoodIn wsX8_lack (wsV RX8 240 RX8 yX8_open wsX8_open) := goodIn_app (goodIn_of _ (by decide +kernel)) ggX8_lack_X8_open
set_option maxRecDepth 20000 in
theorem ggX8_lack_X8_bits : GoodIn wsX8_lack wsX8_bits := goodIn_r _ [14] (by decide +kernel) (by decide +kernel)
set_option maxRecDepth 20000 in
theorem gX8_lack_X8_bits : GoodIn wsX8_lack (va_wsS RX8 243 yX8_bits wsX8_bits) := goodIn_app (goodIn_of _ (by decide +kernel)) ggX8_lack_X8_bits
set_option maxRecDepth 20000 in
theorem ggX8_told_X8_sum : GoodIn wsX8_told wsX8_sum := goodIn_r _ [7, 1, 8, 9, 67, 68, 69, 70, 71, 72, 73, 74, 75, 76, 77, 78, 79, 80, 81, 82, 83, 84, 85, 86, 87, 88, 89, 90, 91, 92, 93, 94, 95, 96, 97, 98, 99, 100, 101, 102] (by decide +kernel) (by decide +kernel)
set_option maxRecDepth 20000 in
theorem gX8_told_X8_sum : GoodIn wsX8_told (wsV RX8 254 RX8 yX8_sum wsX8_sum) := goodIn_app (goodIn_of _ (by decide +kernel)) ggX8_told_X8_sum
set_option maxRecDepth 20000 in
theorem ggX8_told_X8_most : GoodIn wsX8_told wsX8_most := goodIn_r _ [13, 1, 14, 9, 15, 16, 17, 18, 19, 20, 6, 21, 22, 23, 24, 25, 67, 68, 69, 70, 71, 72, 73, 74, 75, 76, 77, 78, 79, 80, 81, 82, 83, 84, 85, 86, 87, 88, 89, 90, 91, 92, 93, 94, 95, 96, 97, 98, 99, 100, 101, 102] (by decide +kernel) (by decide +kernel)
set_option maxRecDepth 20000 in
theorem gX8_told_X8_most : GoodIn wsX8_told (wsV RX8 257 RX8 yX8_most wsX8_most) := goodIn_app (goodIn_of _ (by decide +kernel)) ggX8_told_X8_most
set_option maxRecDepth 20000 in
theorem ggX8_told_X8_sure : GoodIn wsX8_told wsX8_sure := goodIn_r _ [29, 1, 8, 2, 30, 31, 32, 6, 33, 22, 23, 24, 25, 9, 34, 35, 36, 37, 38, 67, 68, 69, 70, 71, 72, 73, 74, 75, 76, 77, 78, 79, 80, 81, 82, 83, 84, 85, 86, 87, 88, 89, 90, 91, 92, 93, 94, 95, 96, 97, 98, 99, 100, 101, 102] (by decide +kernel) (by decide +kernel)
set_option maxRecDepth 20000 in
theorem gX8_told_X8_sure : GoodIn wsX8_told (wsV RX8 260 RX8 yX8_sure wsX8_sure) := goodIn_app (goodIn_of _ (by decide +kernel)) ggX8_told_X8_sure
set_option maxRecDepth 20000 in
theorem ggX8_told_X8_lack : GoodIn wsX8_told wsX8_lack := goodIn_r _ [42, 1, 43, 44, 45, 6, 46, 22, 23, 24, 25, 9, 19, 20, 21, 67, 68, 69, 70, 71, 72, 73, 74, 75, 76, 77, 78, 79, 80, 81, 82, 83, 84, 85, 86, 87, 88, 89, 90, 91, 92, 93, 94, 95, 96, 97, 98, 99, 100, 101, 102] (by decide +kernel) (by decide +kernel)
set_option maxRecDepth 20000 in
theorem gX8_told_X8_lack : GoodIn wsX8_told (wsV RX8 263 RX8 yX8_lack wsX8_lack) := goodIn_app (goodIn_of _ (by decide +kernel)) ggX8_told_X8_lack
set_option maxRecDepth 20000 in
theorem ggX8_told_X8_next : GoodIn wsX8_told wsX8_next := goodIn_r _ [50, 1, 8, 30, 31, 32, 6, 33, 22, 23, 24, 25, 9, 34, 35, 36, 37, 38, 67, 68, 69, 70, 71, 72, 73, 74, 75, 76, 77, 78, 79, 80, 81, 82, 83, 84, 85, 86, 87, 88, 89, 90, 91, 92, 93, 94, 95, 96, 97, 98, 99, 100, 101, 102] (by decide +kernel) (by decide +kernel)
set_option maxRecDepth 20000 in
theorem gX8_told_X8_next : GoodIn wsX8_told (wsV RX8 221 RX8 yX8_next wsX8_next) := goodIn_app (goodIn_of _ (by decide +kernel)) ggX8_told_X8_next
set_option maxRecDepth 20000 in
theorem ggX8_told_X8_offer : GoodIn wsX8_told wsX8_offer := goodIn_r _ [54, 38, 2, 30, 31, 32, 6, 33, 1, 22, 23, 24, 25, 9, 34, 35, 36, 37, 55, 56, 57, 58, 67, 68, 69, 70, 71, 72, 73, 74, 75, 76, 77, 78, 79, 80, 81, 82, 83, 84, 85, 86, 87, 88, 89, 90, 91, 92, 93, 94, 95, 96, 97, 98, 99, 100, 101, 102] (by decide +kernel) (by decide +kernel)
set_option maxRecDepth 20000 in
theorem gX8_told_X8_offer : GoodIn wsX8_told (wsV RX8 152 RX8 yX8_offer wsX8_offer) := goodIn_app (goodIn_of _ (by decide +kernel)) ggX8_told_X8_offer
set_option maxRecDepth 20000 in
theorem ggX8_told_X8_havers : GoodIn wsX8_told wsX8_havers := goodIn_r _ [62, 1, 8, 67, 68, 69, 70, 71, 72, 73, 74, 75, 76, 77, 78, 79, 80, 81, 82, 83, 84, 85, 86, 87, 88, 89, 90, 91, 92, 93, 94, 95, 96, 97, 98, 99, 100, 101, 102] (by decide +kernel) (by decide +kernel)
set_option maxRecDepth 20000 in
theorem gX8_told_X8_havers : GoodIn wsX8_told (wsV RX8 266 RX8 yX8_havers wsX8_havers) := goodIn_app (goodIn_of _ (by decide +kernel)) ggX8_told_X8_havers
set_option maxRecDepth 20000 in
theorem ggX8_told_X8_prices : GoodIn wsX8_told wsX8_prices := goodIn_r _ [66, 1, 38, 67, 68, 69, 70, 71, 72, 73, 74, 75, 76, 77, 78, 79, 80, 81, 82, 83, 84, 85, 86, 87, 88, 89, 90, 91, 92, 93, 94, 95, 96, 97, 98, 99, 100, 101, 102] (by decide +kernel) (by decide +kernel)
set_option maxRecDepth 20000 in
theorem gX8_told_X8_prices : GoodIn wsX8_told (wsV RX8 269 RX8 yX8_prices wsX8_prices) := goodIn_app (goodIn_of _ (by decide +kernel)) ggX8_told_X8_prices
set_option maxRecDepth 20000 in
theorem ggX8_see_X8_isPair : GoodIn wsX8_see wsX8_isPair := goodIn_r _ [8, 9, 10, 11, 7, 12, 13, 14, 15, 16, 17, 18, 19, 20, 21, 22, 23, 24, 25, 26, 27, 28, 29, 30, 31, 32, 33, 34, 35, 36, 37, 38, 39, 40, 41, 42, 43, 44, 45, 46, 47, 48, 49, 50, 51, 52] (by decide +kernel) (by decide +kernel)
set_option maxRecDepth 20000 in
theorem gX8_see_X8_isPair : GoodIn wsX8_see (wsV RX8 164 RX8 yX8_isPair wsX8_isPair) := goodIn_app (goodIn_of _ (by decide +kernel)) ggX8_see_X8_isPair
set_option maxRecDepth 20000 in
theorem ggX8_triesAuction_X8_empties : GoodIn wsX8_triesAuction wsX8_empties := goodIn_r _ [5, 6, 7, 8, 62, 63, 64, 65, 66, 67, 68, 69, 70, 71, 72, 73, 74, 75, 76, 77, 78, 79, 80, 81, 82, 83, 84, 85, 86, 87, 88, 89, 90, 91, 92, 93, 94, 95, 96, 97] (by decide +kernel) (by decide +kernel)
set_option maxRecDepth 20000 in
theorem gX8_triesAuction_X8_empties : GoodIn wsX8_triesAuction (wsV RX8 88 RX8 yX8_empties wsX8_empties) := goodIn_app (goodIn_of _ (by decide +kernel)) ggX8_triesAuction_X8_empties
set_option maxRecDepth 20000 in
theorem ggX8_triesAuction_X8_free : GoodIn wsX8_triesAuction wsX8_free := goodIn_r _ [12, 13, 62, 63, 64, 65, 66, 67, 68, 69, 70, 71, 72, 73, 74, 75, 76, 77, 78, 79, 80, 81, 82, 83, 84, 85, 86, 87, 88, 89, 90, 91, 92, 93, 94, 95, 96, 97] (by decide +kernel) (by decide +kernel)
set_option maxRecDepth 20000 in
theorem gX8_triesAuction_X8_free : GoodIn wsX8_triesAuction (wsV RX8 161 RX8 yX8_free wsX8_free) := goodIn_app (goodIn_of _ (by decide +kernel)) ggX8_triesAuction_X8_free
set_option maxRecDepth 20000 in
theorem ggX8_triesAuction_X8_bidsAll : GoodIn wsX8_triesAuction wsX8_bidsAll := goodIn_r _ [17, 18, 13, 19, 20, 21, 4, 22, 7, 6, 23, 24, 25, 26, 27, 28, 29, 30, 31, 32, 33, 34, 35, 36, 37, 38, 39, 8, 40, 41, 42, 43, 44, 45, 46, 47, 48, 49, 50, 51, 52, 53, 54, 55, 56, 57, 58, 59, 60, 61, 62, 63, 64, 65, 66, 67, 68, 69, 70, 71, 72, 73, 74, 75, 76, 77, 78, 79, 80, 81, 82, 83, 84, 85, 86, 87, 88, 89, 90, 91, 92, 93, 94, 95, 96, 97] (by decide +kernel) (by decide +kernel)
set_option maxRecDepth 20000 in
theorem gX8_triesAuction_X8_bidsAll : GoodIn wsX8_triesAuction (wsV RX8 230 RX8 yX8_bidsAll wsX8_bidsAll) := goodIn_app (goodIn_of _ (by decide +kernel)) ggX8_triesAuction_X8_bidsAll
set_option maxRecDepth 20000 in
theorem ggX8_fits_X8_isPair : GoodIn wsX8_fits wsX8_isPair := goodIn_r _ [6, 7, 8, 9, 5, 10, 11, 12, 13, 14, 100, 101, 102, 103, 104, 105, 106, 107, 108, 109, 110, 111, 112, 113, 114, 115, 116, 117, 118, 119, 120, 121, 122, 123, 124, 125, 126, 127, 128, 129, 130, 131, 132, 133, 134, 135] (by decide +kernel) (by decide +kernel)
set_option maxRecDepth 20000 in
theorem gX8_fits_X8_isPair : GoodIn wsX8_fits (wsV RX8 164 RX8 yX8_isPair wsX8_isPair) := goodIn_app (goodIn_of _ (by decide +kernel)) ggX8_fits_X8_isPair
set_option maxRecDepth 20000 in
theorem ggX8_fits_X8_in : GoodIn wsX8_fits wsX8_in := goodIn_r _ [14] (by decide +kernel) (by decide +kernel)
set_option maxRecDepth 20000 in
theorem gX8_fits_X8_in : GoodIn wsX8_fits (va_wsS RX8 92 yX8_in wsX8_in) := goodIn_app (goodIn_of _ (by decide +kernel)) ggX8_fits_X8_in
set_option maxRecDepth 20000 in
theorem ggX8_fits_X8_minds : GoodIn wsX8_fits wsX8_minds := goodIn_r _ [18, 19, 20, 21, 22, 23, 24, 25, 26, 27, 28, 29, 30, 5, 31, 100, 101, 102, 103, 104, 105, 106, 107, 108, 109, 110, 111, 112, 113, 114, 115, 116, 117, 118, 119, 120, 121, 122, 123, 124, 125, 126, 127, 128, 129, 130, 131, 132, 133, 134, 135] (by decide +kernel) (by decide +kernel)
set_option maxRecDepth 20000 in
theorem gX8_fits_X8_minds : GoodIn wsX8_fits (wsV RX8 272 RX8 yX8_minds wsX8_minds) := goodIn_app (goodIn_of _ (by decide +kernel)) ggX8_fits_X8_minds
set_option maxRecDepth 20000 in
theorem ggX8_fits_X8_triesAuction : GoodIn wsX8_fits wsX8_triesAuction := goodIn_r _ [35, 36, 37, 38, 5, 39, 19, 11, 21, 40, 41, 42, 43, 23, 44, 45, 46, 47, 48, 49, 50, 51, 52, 53, 54, 55, 56, 57, 58, 59, 60, 1, 61, 62, 63, 64, 65, 66, 67, 68, 69, 70, 71, 72, 27, 73, 74, 75, 76, 77, 78, 79, 80, 81, 82, 83, 84, 25, 85, 86, 87, 88, 100, 101, 102, 103, 104, 105, 106, 107, 108, 109, 110, 111, 112, 113, 114, 115, 116, 117, 118, 119, 120, 121, 122, 123, 124, 125, 126, 127, 128, 129, 130, 131, 132, 133, 134, 135] (by decide +kernel) (by decide +kernel)
set_option maxRecDepth 20000 in
theorem gX8_fits_X8_triesAuction : GoodIn wsX8_fits (wsV RX8 275 RX8 yX8_triesAuction wsX8_triesAuction) := goodIn_app (goodIn_of _ (by decide +kernel)) ggX8_fits_X8_triesAuction
set_option maxRecDepth 20000 in
theorem ggX8_fits_X8_isAllSeen : GoodIn wsX8_fits wsX8_isAllSeen := goodIn_r _ [92, 93, 19, 94, 95, 100, 101, 102, 103, 104, 105, 106, 107, 108, 109, 110, 111, 112, 113, 114, 115, 116, 117, 118, 119, 120, 121, 122, 123, 124, 125, 126, 127, 128, 129, 130, 131, 132, 133, 134, 135] (by decide +kernel) (by decide +kernel)
set_option maxRecDepth 20000 in
theorem gX8_fits_X8_isAllSeen : GoodIn wsX8_fits (wsV RX8 278 RX8 yX8_isAllSeen wsX8_isAllSeen) := goodIn_app (goodIn_of _ (by decide +kernel)) ggX8_fits_X8_isAllSeen
set_option maxRecDepth 20000 in
theorem ggX8_fits_X8_forgets : GoodIn wsX8_fits wsX8_forgets := goodIn_r _ [99, 20, 19, 22, 21, 24, 23, 26, 25, 28, 27, 29, 30, 5, 31, 100, 101, 102, 103, 104, 105, 106, 107, 108, 109, 110, 111, 112, 113, 114, 115, 116, 117, 118, 119, 120, 121, 122, 123, 124, 125, 126, 127, 128, 129, 130, 131, 132, 133, 134, 135] (by decide +kernel) (by decide +kernel)
set_option maxRecDepth 20000 in
theorem gX8_fits_X8_forgets : GoodIn wsX8_fits (wsV RX8 282 RX8 yX8_forgets wsX8_forgets) := goodIn_app (goodIn_of _ (by decide +kernel)) ggX8_fits_X8_forgets
set_option maxRecDepth 20000 in
theorem ggX8_odds_X8_isOne : GoodIn wsX8_odds wsX8_isOne := goodIn_r _ [9, 10, 11, 12, 8, 13, 94, 95, 96, 97, 98, 99, 100, 101, 102, 103, 104, 105, 106, 107, 108, 109, 110, 111, 112, 113, 114, 115, 116, 117, 118, 119, 120, 121, 122, 123, 124, 125, 126, 127, 128, 129] (by decide +kernel) (by decide +kernel)
set_option maxRecDepth 20000 in
theorem gX8_odds_X8_isOne : GoodIn wsX8_odds (wsV RX8 96 RX8 yX8_isOne wsX8_isOne) := goodIn_app (goodIn_of _ (by decide +kernel)) ggX8_odds_X8_isOne
set_option maxRecDepth 20000 in
theorem ggX8_odds_X8_in : GoodIn wsX8_odds wsX8_in := goodIn_r _ [13] (by decide +kernel) (by decide +kernel)
set_option maxRecDepth 20000 in
theorem gX8_odds_X8_in : GoodIn wsX8_odds (va_wsS RX8 92 yX8_in wsX8_in) := goodIn_app (goodIn_of _ (by decide +kernel)) ggX8_odds_X8_in
set_option maxRecDepth 20000 in
theorem ggX8_odds_X8_minds : GoodIn wsX8_odds wsX8_minds := goodIn_r _ [17, 2, 18, 19, 20, 21, 22, 23, 24, 3, 25, 26, 27, 8, 28, 94, 95, 96, 97, 98, 99, 100, 101, 102, 103, 104, 105, 106, 107, 108, 109, 110, 111, 112, 113, 114, 115, 116, 117, 118, 119, 120, 121, 122, 123, 124, 125, 126, 127, 128, 129] (by decide +kernel) (by decide +kernel)
set_option maxRecDepth 20000 in
theorem gX8_odds_X8_minds : GoodIn wsX8_odds (wsV RX8 272 RX8 yX8_minds wsX8_minds) := goodIn_app (goodIn_of _ (by decide +kernel)) ggX8_odds_X8_minds
set_option maxRecDepth 20000 in
theorem ggX8_odds_X8_triesAuction : GoodIn wsX8_odds wsX8_triesAuction := goodIn_r _ [32, 33, 34, 35, 8, 36, 2, 10, 19, 37, 38, 39, 40, 21, 41, 42, 43, 44, 45, 46, 47, 48, 49, 50, 51, 52, 53, 54, 55, 56, 57, 58, 59, 60, 61, 62, 63, 64, 65, 66, 67, 68, 69, 70, 3, 71, 72, 73, 74, 75, 76, 77, 78, 79, 80, 81, 82, 23, 83, 84, 85, 86, 94, 95, 96, 97, 98, 99, 100, 101, 102, 103, 104, 105, 106, 107, 108, 109, 110, 111, 112, 113, 114, 115, 116, 117, 118, 119, 120, 121, 122, 123, 124, 125, 126, 127, 128, 129] (by decide +kernel) (by decide +kernel)
set_option maxRecDepth 20000 in
theorem gX8_odds_X8_triesAuction : GoodIn wsX8_odds (wsV RX8 275 RX8 yX8_triesAuction wsX8_triesAuction) := goodIn_app (goodIn_of _ (by decide +kernel)) ggX8_odds_X8_triesAuction
set_option maxRecDepth 20000 in
theorem ggX8_odds_X8_forgets : GoodIn wsX8_odds wsX8_forgets := goodIn_r _ [90, 18, 2, 20, 19, 22, 21, 24, 23, 25, 3, 26, 27, 8, 28, 94, 95, 96, 97, 98, 99, 100, 101, 102, 103, 104, 105, 106, 107, 108, 109, 110, 111, 112, 113, 114, 115, 116, 117, 118, 119, 120, 121, 122, 123, 124, 125, 126, 127, 128, 129] (by decide +kernel) (by decide +kernel)
set_option maxRecDepth 20000 in
theorem gX8_odds_X8_forgets : GoodIn wsX8_odds (wsV RX8 282 RX8 yX8_forgets wsX8_forgets) := goodIn_app (goodIn_of _ (by decide +kernel)) ggX8_odds_X8_forgets
set_option maxRecDepth 20000 in
theorem ggX8_odds_X8_lowest : GoodIn wsX8_odds wsX8_lowest := goodIn_r _ [93] (by decide +kernel) (by decide +kernel)
set_option maxRecDepth 20000 in
theorem gX8_odds_X8_lowest : GoodIn wsX8_odds (va_wsS RX8 287 yX8_lowest wsX8_lowest) := goodIn_app (goodIn_of _ (by decide +kernel)) ggX8_odds_X8_lowest
set_option maxRecDepth 20000 in
theorem ggX8_mean_X8_in : GoodIn wsX8_mean wsX8_in := goodIn_r _ [6] (by decide +kernel) (by decide +kernel)
set_option maxRecDepth 20000 in
theorem gX8_mean_X8_in : GoodIn wsX8_mean (va_wsS RX8 92 yX8_in wsX8_in) := goodIn_app (goodIn_of _ (by decide +kernel)) ggX8_mean_X8_in
set_option maxRecDepth 20000 in
theorem ggX8_mean_X8_prices : GoodIn wsX8_mean wsX8_prices := goodIn_r _ [10, 1, 11, 15, 16, 17, 18, 19, 20, 21, 22, 23, 24, 25, 26, 27, 28, 29, 30, 31, 32, 33, 34, 35, 36, 37, 38, 39, 40, 41, 42, 43, 44, 45, 46, 47, 48, 49, 50] (by decide +kernel) (by decide +kernel)
set_option maxRecDepth 20000 in
theorem gX8_mean_X8_prices : GoodIn wsX8_mean (wsV RX8 269 RX8 yX8_prices wsX8_prices) := goodIn_app (goodIn_of _ (by decide +kernel)) ggX8_mean_X8_prices
set_option maxRecDepth 20000 in
theorem ggX8_mean_X8_lowest : GoodIn wsX8_mean wsX8_lowest := goodIn_r _ [14] (by decide +kernel) (by decide +kernel)
set_option maxRecDepth 20000 in
theorem gX8_mean_X8_lowest : GoodIn wsX8_mean (va_wsS RX8 287 yX8_lowest wsX8_lowest) := goodIn_app (goodIn_of _ (by decide +kernel)) ggX8_mean_X8_lowest
set_option maxRecDepth 20000 in
theorem ggX8_plan_X8_in : GoodIn wsX8_plan wsX8_in := goodIn_r _ [9] (by decide +kernel) (by decide +kernel)
set_option maxRecDepth 20000 in
theorem gX8_plan_X8_in : GoodIn wsX8_plan (va_wsS RX8 92 yX8_in wsX8_in) := goodIn_app (goodIn_of _ (by decide +kernel)) ggX8_plan_X8_in
set_option maxRecDepth 20000 in
theorem ggX8_plan_X8_isOne : GoodIn wsX8_plan wsX8_isOne := goodIn_r _ [13, 14, 6, 7, 8, 9, 15, 16, 17, 18, 19, 20, 21, 22, 23, 24, 25, 26, 27, 28, 29, 30, 31, 32, 33, 34, 35, 36, 37, 38, 39, 40, 41, 42, 43, 44, 45, 46, 47, 48, 49, 50] (by decide +kernel) (by decide +kernel)
set_option maxRecDepth 20000 in
theorem gX8_plan_X8_isOne : GoodIn wsX8_plan (wsV RX8 96 RX8 yX8_isOne wsX8_isOne) := goodIn_app (goodIn_of _ (by decide +kernel)) ggX8_plan_X8_isOne
set_option maxRecDepth 20000 in
theorem ggX8_ends_X8_in : GoodIn wsX8_ends wsX8_in := goodIn_r _ [8] (by decide +kernel) (by decide +kernel)
set_option maxRecDepth 20000 in
theorem gX8_ends_X8_in : GoodIn wsX8_ends (va_wsS RX8 92 yX8_in wsX8_in) := goodIn_app (goodIn_of _ (by decide +kernel)) ggX8_ends_X8_in
set_option maxRecDepth 20000 in
theorem ggX8_ends_X8_minds : GoodIn wsX8_ends wsX8_minds := goodIn_r _ [12, 13, 14, 15, 16, 17, 18, 19, 20, 4, 21, 22, 23, 7, 24, 75, 76, 77, 78, 79, 80, 81, 82, 83, 84, 85, 86, 87, 88, 89, 90, 91, 92, 93, 94, 95, 96, 97, 98, 99, 100, 101, 102, 103, 104, 105, 106, 107, 108, 109, 110] (by decide +kernel) (by decide +kernel)
set_option maxRecDepth 20000 in
theorem gX8_ends_X8_minds : GoodIn wsX8_ends (wsV RX8 272 RX8 yX8_minds wsX8_minds) := goodIn_app (goodIn_of _ (by decide +kernel)) ggX8_ends_X8_minds
set_option maxRecDepth 20000 in
theorem ggX8_ends_X8_bid : GoodIn wsX8_ends wsX8_bid := goodIn_r _ [28, 29, 30, 31, 7, 32, 33, 13, 34, 35, 36, 37, 38, 39, 40, 41, 42, 43, 44, 45, 46, 17, 47, 48, 49, 50, 15, 51, 52, 53, 54, 4, 55, 56, 57, 58, 59, 60, 61, 62, 75, 76, 77, 78, 79, 80, 81, 82, 83, 84, 85, 86, 87, 88, 89, 90, 91, 92, 93, 94, 95, 96, 97, 98, 99, 100, 101, 102, 103, 104, 105, 106, 107, 108, 109, 110] (by decide +kernel) (by decide +kernel)
set_option maxRecDepth 20000 in
theorem gX8_ends_X8_bid : GoodIn wsX8_ends (wsV RX8 293 RX8 yX8_bid wsX8_bid) := goodIn_app (goodIn_of _ (by decide +kernel)) ggX8_ends_X8_bid
set_option maxRecDepth 20000 in
theorem ggX8_ends_X8_loses : GoodIn wsX8_ends wsX8_loses := goodIn_r _ [62, 13, 15, 75, 76, 77, 78, 79, 80, 81, 82, 83, 84, 85, 86, 87, 88, 89, 90, 91, 92, 93, 94, 95, 96, 97, 98, 99, 100, 101, 102, 103, 104, 105, 106, 107, 108, 109, 110] (by decide +kernel) (by decide +kernel)
set_option maxRecDepth 20000 in
theorem gX8_ends_X8_loses : GoodIn wsX8_ends (wsV RX8 155 RX8 yX8_loses wsX8_loses) := goodIn_app (goodIn_of _ (by decide +kernel)) ggX8_ends_X8_loses
set_option maxRecDepth 20000 in
theorem ggX8_ends_X8_sum : GoodIn wsX8_ends wsX8_sum := goodIn_r _ [66, 33, 13, 42, 75, 76, 77, 78, 79, 80, 81, 82, 83, 84, 85, 86, 87, 88, 89, 90, 91, 92, 93, 94, 95, 96, 97, 98, 99, 100, 101, 102, 103, 104, 105, 106, 107, 108, 109, 110] (by decide +kernel) (by decide +kernel)
set_option maxRecDepth 20000 in
theorem gX8_ends_X8_sum : GoodIn wsX8_ends (wsV RX8 254 RX8 yX8_sum wsX8_sum) := goodIn_app (goodIn_of _ (by decide +kernel)) ggX8_ends_X8_sum
set_option maxRecDepth 20000 in
theorem ggX8_ends_X8_prices : GoodIn wsX8_ends wsX8_prices := goodIn_r _ [70, 33, 17, 75, 76, 77, 78, 79, 80, 81, 82, 83, 84, 85, 86, 87, 88, 89, 90, 91, 92, 93, 94, 95, 96, 97, 98, 99, 100, 101, 102, 103, 104, 105, 106, 107, 108, 109, 110] (by decide +kernel) (by decide +kernel)
set_option maxRecDepth 20000 in
theorem gX8_ends_X8_prices : GoodIn wsX8_ends (wsV RX8 269 RX8 yX8_prices wsX8_prices) := goodIn_app (goodIn_of _ (by decide +kernel)) ggX8_ends_X8_prices
set_option maxRecDepth 20000 in
theorem ggX8_ends_X8_forgets : GoodIn wsX8_ends wsX8_forgets := goodIn_r _ [74, 14, 13, 16, 15, 18, 17, 20, 19, 21, 4, 22, 23, 7, 24, 75, 76, 77, 78, 79, 80, 81, 82, 83, 84, 85, 86, 87, 88, 89, 90, 91, 92, 93, 94, 95, 96, 97, 98, 99, 100, 101, 102, 103, 104, 105, 106, 107, 108, 109, 110] (by decide +kernel) (by decide +kernel)
set_option maxRecDepth 20000 in
theorem gX8_ends_X8_forgets : GoodIn wsX8_ends (wsV RX8 282 RX8 yX8_forgets wsX8_forgets) := goodIn_app (goodIn_of _ (by decide +kernel)) ggX8_ends_X8_forgets
set_option maxRecDepth 20000 in
theorem ggX8_book_X8_isOne : GoodIn wsX8_book wsX8_isOne := goodIn_r _ [9, 10, 11, 12, 8, 13, 14, 15, 16, 17, 18, 19, 20, 21, 22, 23, 24, 25, 26, 27, 28, 29, 30, 31, 32, 33, 34, 35, 36, 37, 38, 39, 40, 41, 42, 43, 44, 45, 46, 47, 48, 49] (by decide +kernel) (by decide +kernel)
set_option maxRecDepth 20000 in
theorem gX8_book_X8_isOne : GoodIn wsX8_book (wsV RX8 96 RX8 yX8_isOne wsX8_isOne) := goodIn_app (goodIn_of _ (by decide +kernel)) ggX8_book_X8_isOne
set_option maxRecDepth 20000 in
theorem ggX8_book_X8_in : GoodIn wsX8_book wsX8_in := goodIn_r _ [13] (by decide +kernel) (by decide +kernel)
set_option maxRecDepth 20000 in
theorem gX8_book_X8_in : GoodIn wsX8_book (va_wsS RX8 92 yX8_in wsX8_in) := goodIn_app (goodIn_of _ (by decide +kernel)) ggX8_book_X8_in
set_option maxRecDepth 20000 in
theorem ggX8_isTape_X8_in : GoodIn wsX8_isTape wsX8_in := goodIn_r _ [5] (by decide +kernel) (by decide +kernel)
set_option maxRecDepth 20000 in
theorem gX8_isTape_X8_in : GoodIn wsX8_isTape (va_wsS RX8 92 yX8_in wsX8_in) := goodIn_app (goodIn_of _ (by decide +kernel)) ggX8_isTape_X8_in
set_option maxRecDepth 20000 in
theorem ggX8_judge_X8_isTape : GoodIn wsX8_judge wsX8_isTape := goodIn_r _ [9, 10, 11, 12, 8, 13] (by decide +kernel) (by decide +kernel)
set_option maxRecDepth 20000 in
theorem gX8_judge_X8_isTape : GoodIn wsX8_judge (va_wsS RX8 300 yX8_isTape wsX8_isTape) := goodIn_app (goodIn_of _ (by decide +kernel)) ggX8_judge_X8_isTape
set_option maxRecDepth 20000 in
theorem ggX8_count_X8_forbidden : GoodIn wsX8_count wsX8_forbidden := goodIn_r _ [10, 1, 11, 12, 13, 9, 14, 15, 16, 17, 18, 19, 20, 21, 22, 23, 24, 25, 26, 27, 28, 29, 30, 31, 32, 33, 34, 35, 36, 37, 38, 39, 40, 41, 42, 43, 44, 45, 46, 47, 48, 49, 50, 51, 52, 53, 54, 55, 56, 57, 58] (by decide +kernel) (by decide +kernel)
set_option maxRecDepth 20000 in
theorem gX8_count_X8_forbidden : GoodIn wsX8_count (wsV RX8 303 RX8 yX8_forbidden wsX8_forbidden) := goodIn_app (goodIn_of _ (by decide +kernel)) ggX8_count_X8_forbidden
set_option maxRecDepth 20000 in
theorem ggX8_forbidden_X8_open : GoodIn wsX8_forbidden wsX8_open := goodIn_r _ [6, 1, 7, 8, 9, 5, 10, 11, 15, 16, 17, 18, 19, 20, 21, 22, 23, 24, 25, 26, 27, 28, 29, 30, 31, 32, 33, 34, 35, 36, 37, 38, 39, 40, 41, 42, 43, 44, 45, 46, 47, 48, 49, 50] (by decide +kernel) (by decide +kernel)
set_option maxRecDepth 20000 in
theorem gX8_forbidden_X8_open : GoodIn wsX8_forbidden (wsV RX8 240 RX8 yX8_open wsX8_open) := goodIn_app (goodIn_of _ (by decide +kernel)) ggX8_forbidden_X8_open
set_option maxRecDepth 20000 in
theorem ggX8_forbidden_X8_bits : GoodIn wsX8_forbidden wsX8_bits := goodIn_r _ [14] (by decide +kernel) (by decide +kernel)
set_option maxRecDepth 20000 in
theorem gX8_forbidden_X8_bits : GoodIn wsX8_forbidden (va_wsS RX8 243 yX8_bits wsX8_bits) := goodIn_app (goodIn_of _ (by decide +kernel)) ggX8_forbidden_X8_bits
set_option maxRecDepth 20000 in
theorem ggX8_tape_X8_isTape : GoodIn wsX8_tape wsX8_isTape := goodIn_r _ [9, 10, 11, 12, 8, 13] (by decide +kernel) (by decide +kernel)
set_option maxRecDepth 20000 in
theorem gX8_tape_X8_isTape : GoodIn wsX8_tape (va_wsS RX8 300 yX8_isTape wsX8_isTape) := goodIn_app (goodIn_of _ (by decide +kernel)) ggX8_tape_X8_isTape
set_option maxRecDepth 20000 in
theorem ggX8_tape_X8_in : GoodIn wsX8_tape wsX8_in := goodIn_r _ [13] (by decide +kernel) (by decide +kernel)
set_option maxRecDepth 20000 in
theorem gX8_tape_X8_in : GoodIn wsX8_tape (va_wsS RX8 92 yX8_in wsX8_in) := goodIn_app (goodIn_of _ (by decide +kernel)) ggX8_tape_X8_in
set_option maxRecDepth 20000 in
theorem ggX8_item_X8_isTape : GoodIn wsX8_item wsX8_isTape := goodIn_r _ [7, 8, 9, 10, 6, 11] (by decide +kernel) (by decide +kernel)
set_option maxRecDepth 20000 in
theorem gX8_item_X8_isTape : GoodIn wsX8_item (va_wsS RX8 300 yX8_isTape wsX8_isTape) := goodIn_app (goodIn_of _ (by decide +kernel)) ggX8_item_X8_isTape
set_option maxRecDepth 20000 in
theorem ggX8_item_X8_in : GoodIn wsX8_item wsX8_in := goodIn_r _ [11] (by decide +kernel) (by decide +kernel)
set_option maxRecDepth 20000 in
theorem gX8_item_X8_in : GoodIn wsX8_item (va_wsS RX8 92 yX8_in wsX8_in) := goodIn_app (goodIn_of _ (by decide +kernel)) ggX8_item_X8_in
set_option maxRecDepth 20000 in
theorem ggX8_item_X8_fit : GoodIn wsX8_item wsX8_fit := goodIn_r _ [14] (by decide +kernel) (by decide +kernel)
set_option maxRecDepth 20000 in
theorem gX8_item_X8_fit : GoodIn wsX8_item (va_wsS RX8 308 yX8_fit wsX8_fit) := goodIn_app (goodIn_of _ (by decide +kernel)) ggX8_item_X8_fit
set_option maxRecDepth 20000 in
theorem ggX8_peek_X8_isTape : GoodIn wsX8_peek wsX8_isTape := goodIn_r _ [8, 9, 10, 11, 7, 12] (by decide +kernel) (by decide +kernel)
set_option maxRecDepth 20000 in
theorem gX8_peek_X8_isTape : GoodIn wsX8_peek (va_wsS RX8 300 yX8_isTape wsX8_isTape) := goodIn_app (goodIn_of _ (by decide +kernel)) ggX8_peek_X8_isTape
set_option maxRecDepth 20000 in
theorem ggX8_peek_X8_in : GoodIn wsX8_peek wsX8_in := goodIn_r _ [12] (by decide +kernel) (by decide +kernel)
set_option maxRecDepth 20000 in
theorem gX8_peek_X8_in : GoodIn wsX8_peek (va_wsS RX8 92 yX8_in wsX8_in) := goodIn_app (goodIn_of _ (by decide +kernel)) ggX8_peek_X8_in
set_option maxRecDepth 20000 in
theorem ggX8_shift_X8_isTape : GoodIn wsX8_shift wsX8_isTape := goodIn_r _ [8, 9, 10, 11, 7, 12] (by decide +kernel) (by decide +kernel)
set_option maxRecDepth 20000 in
theorem gX8_shift_X8_isTape : GoodIn wsX8_shift (va_wsS RX8 300 yX8_isTape wsX8_isTape) := goodIn_app (goodIn_of _ (by decide +kernel)) ggX8_shift_X8_isTape
end
section
theorem dX0_init_0 : decode cX0_init 0 = .ok (.aload_n 0, 1) := by decide +kernel
theorem dX0_init_1 : decode cX0_init 1 = .ok (.invokespecial 3, 3) := by decide +kernel
theorem dX0_init_4 : decode cX0_init 4 = .ok (.aload_n 0, 1) := by decide +kernel
theorem dX0_init_5 : decode cX0_init 5 = .ok (.bipush (-5), 2) := by decide +kernel
theorem dX0_init_7 : decode cX0_init 7 = .ok (.putfield 9, 3) := by decide +kernel
theorem dX0_init_10 : decode cX0_init 10 = .ok (.aload_n 0, 1) := by decide +kernel
theorem dX0_init_11 : decode cX0_init 11 = .ok (.bipush (-5), 2) := by decide +kernel
theorem dX0_init_13 : decode cX0_init 13 = .ok (.putfield 15, 3) := by decide +kernel
theorem dX0_init_16 : decode cX0_init 16 = .ok (.aload_n 0, 1) := by decide +kernel
theorem dX0_init_17 : decode cX0_init 17 = .ok (.bipush (-5), 2) := by decide +kernel
theorem dX0_init_19 : decode cX0_init 19 = .ok (.putfield 18, 3) := by decide +kernel
theorem dX0_init_22 : decode cX0_init 22 = .ok (.return_, 1) := by decide +kernel
theorem dX0_tell_0 : decode cX0_tell 0 = .ok (.aload_n 0, 1) := by decide +kernel
theorem dX0_tell_1 : decode cX0_tell 1 = .ok (.iload_n 1, 1) := by decide +kernel
theorem dX0_tell_2 : decode cX0_tell 2 = .ok (.putfield 9, 3) := by decide +kernel
theorem dX0_tell_5 : decode cX0_tell 5 = .ok (.aload_n 0, 1) := by decide +kernel
theorem dX0_tell_6 : decode cX0_tell 6 = .ok (.iload_n 2, 1) := by decide +kernel
theorem dX0_tell_7 : decode cX0_tell 7 = .ok (.putfield 15, 3) := by decide +kernel
theorem dX0_tell_10 : decode cX0_tell 10 = .ok (.aload_n 0, 1) := by decide +kernel
theorem dX0_tell_11 : decode cX0_tell 11 = .ok (.iload_n 3, 1) := by decide +kernel
theorem dX0_tell_12 : decode cX0_tell 12 = .ok (.putfield 18, 3) := by decide +kernel
theorem dX0_tell_15 : decode cX0_tell 15 = .ok (.return_, 1) := by decide +kernel
theorem dX1_init_0 : decode cX1_init 0 = .ok (.aload_n 0, 1) := by decide +kernel
theorem dX1_init_1 : decode cX1_init 1 = .ok (.invokespecial 1, 3) := by decide +kernel
theorem dX1_init_4 : decode cX1_init 4 = .ok (.aload_n 0, 1) := by decide +kernel
theorem dX1_init_5 : decode cX1_init 5 = .ok (.new 7, 3) := by decide +kernel
theorem dX1_init_8 : decode cX1_init 8 = .ok (.dup, 1) := by decide +kernel
theorem dX1_init_9 : decode cX1_init 9 = .ok (.invokespecial 9, 3) := by decide +kernel
theorem dX1_init_12 : decode cX1_init 12 = .ok (.putfield 10, 3) := by decide +kernel
theorem dX1_init_15 : decode cX1_init 15 = .ok (.aload_n 0, 1) := by decide +kernel
theorem dX1_init_16 : decode cX1_init 16 = .ok (.new 16, 3) := by decide +kernel
theorem dX1_init_19 : decode cX1_init 19 = .ok (.dup, 1) := by decide +kernel
theorem dX1_init_20 : decode cX1_init 20 = .ok (.iconst 5, 1) := by decide +kernel
theorem dX1_init_21 : decode cX1_init 21 = .ok (.invokespecial 18, 3) := by decide +kernel
theorem dX1_init_24 : decode cX1_init 24 = .ok (.putfield 21, 3) := by decide +kernel
theorem dX1_init_27 : decode cX1_init 27 = .ok (.aload_n 0, 1) := by decide +kernel
theorem dX1_init_28 : decode cX1_init 28 = .ok (.new 16, 3) := by decide +kernel
theorem dX1_init_31 : decode cX1_init 31 = .ok (.dup, 1) := by decide +kernel
theorem dX1_init_32 : decode cX1_init 32 = .ok (.bipush 10, 2) := by decide +kernel
theorem dX1_init_34 : decode cX1_init 34 = .ok (.invokespecial 18, 3) := by decide +kernel
theorem dX1_init_37 : decode cX1_init 37 = .ok (.putfield 25, 3) := by decide +kernel
theorem dX1_init_40 : decode cX1_init 40 = .ok (.aload_n 0, 1) := by decide +kernel
theorem dX1_init_41 : decode cX1_init 41 = .ok (.new 16, 3) := by decide +kernel
theorem dX1_init_44 : decode cX1_init 44 = .ok (.dup, 1) := by decide +kernel
theorem dX1_init_45 : decode cX1_init 45 = .ok (.bipush 8, 2) := by decide +kernel
theorem dX1_init_47 : decode cX1_init 47 = .ok (.invokespecial 18, 3) := by decide +kernel
theorem dX1_init_50 : decode cX1_init 50 = .ok (.putfield 28, 3) := by decide +kernel
theorem dX1_init_53 : decode cX1_init 53 = .ok (.return_, 1) := by decide +kernel
theorem dX1_become_0 : decode cX1_become 0 = .ok (.aload_n 0, 1) := by decide +kernel
theorem dX1_become_1 : decode cX1_become 1 = .ok (.getfield 10, 3) := by decide +kernel
theorem dX1_become_4 : decode cX1_become 4 = .ok (.aload_n 1, 1) := by decide +kernel
theorem dX1_become_5 : decode cX1_become 5 = .ok (.getfield 10, 3) := by decide +kernel
theorem dX1_become_8 : decode cX1_become 8 = .ok (.invokevirtual 31, 3) := by decide +kernel
theorem dX1_become_11 : decode cX1_become 11 = .ok (.aload_n 0, 1) := by decide +kernel
theorem dX1_become_12 : decode cX1_become 12 = .ok (.getfield 21, 3) := by decide +kernel
theorem dX1_become_15 : decode cX1_become 15 = .ok (.aload_n 1, 1) := by decide +kernel
theorem dX1_become_16 : decode cX1_become 16 = .ok (.getfield 21, 3) := by decide +kernel
theorem dX1_become_19 : decode cX1_become 19 = .ok (.invokevirtual 35, 3) := by decide +kernel
theorem dX1_become_22 : decode cX1_become 22 = .ok (.aload_n 0, 1) := by decide +kernel
theorem dX1_become_23 : decode cX1_become 23 = .ok (.getfield 25, 3) := by decide +kernel
theorem dX1_become_26 : decode cX1_become 26 = .ok (.aload_n 1, 1) := by decide +kernel
theorem dX1_become_27 : decode cX1_become 27 = .ok (.getfield 25, 3) := by decide +kernel
theorem dX1_become_30 : decode cX1_become 30 = .ok (.invokevirtual 35, 3) := by decide +kernel
theorem dX1_become_33 : decode cX1_become 33 = .ok (.aload_n 0, 1) := by decide +kernel
theorem dX1_become_34 : decode cX1_become 34 = .ok (.getfield 28, 3) := by decide +kernel
theorem dX1_become_37 : decode cX1_become 37 = .ok (.aload_n 1, 1) := by decide +kernel
theorem dX1_become_38 : decode cX1_become 38 = .ok (.getfield 28, 3) := by decide +kernel
theorem dX1_become_41 : decode cX1_become 41 = .ok (.invokevirtual 35, 3) := by decide +kernel
theorem dX1_become_44 : decode cX1_become 44 = .ok (.return_, 1) := by decide +kernel
theorem dX2_init_0 : decode cX2_init 0 = .ok (.aload_n 0, 1) := by decide +kernel
theorem dX2_init_1 : decode cX2_init 1 = .ok (.invokespecial 3, 3) := by decide +kernel
theorem dX2_init_4 : decode cX2_init 4 = .ok (.aload_n 0, 1) := by decide +kernel
theorem dX2_init_5 : decode cX2_init 5 = .ok (.bipush 8, 2) := by decide +kernel
theorem dX2_init_7 : decode cX2_init 7 = .ok (.bipush 8, 2) := by decide +kernel
theorem dX2_init_9 : decode cX2_init 9 = .ok (.multianewarray 9 2, 4) := by decide +kernel
theorem dX2_init_13 : decode cX2_init 13 = .ok (.putfield 11, 3) := by decide +kernel
theorem dX2_init_16 : decode cX2_init 16 = .ok (.aload_n 0, 1) := by decide +kernel
theorem dX2_init_17 : decode cX2_init 17 = .ok (.bipush 8, 2) := by decide +kernel
theorem dX2_init_19 : decode cX2_init 19 = .ok (.newarray .int, 2) := by decide +kernel
theorem dX2_init_21 : decode cX2_init 21 = .ok (.putfield 16, 3) := by decide +kernel
theorem dX2_init_24 : decode cX2_init 24 = .ok (.aload_n 0, 1) := by decide +kernel
theorem dX2_init_25 : decode cX2_init 25 = .ok (.bipush 8, 2) := by decide +kernel
theorem dX2_init_27 : decode cX2_init 27 = .ok (.newarray .int, 2) := by decide +kernel
theorem dX2_init_29 : decode cX2_init 29 = .ok (.putfield 20, 3) := by decide +kernel
theorem dX2_init_32 : decode cX2_init 32 = .ok (.aload_n 0, 1) := by decide +kernel
theorem dX2_init_33 : decode cX2_init 33 = .ok (.bipush 8, 2) := by decide +kernel
theorem dX2_init_35 : decode cX2_init 35 = .ok (.newarray .int, 2) := by decide +kernel
theorem dX2_init_37 : decode cX2_init 37 = .ok (.putfield 23, 3) := by decide +kernel
theorem dX2_init_40 : decode cX2_init 40 = .ok (.aload_n 0, 1) := by decide +kernel
theorem dX2_init_41 : decode cX2_init 41 = .ok (.iconst 3, 1) := by decide +kernel
theorem dX2_init_42 : decode cX2_init 42 = .ok (.putfield 26, 3) := by decide +kernel
theorem dX2_init_45 : decode cX2_init 45 = .ok (.aload_n 0, 1) := by decide +kernel
theorem dX2_init_46 : decode cX2_init 46 = .ok (.iconst 5, 1) := by decide +kernel
theorem dX2_init_47 : decode cX2_init 47 = .ok (.putfield 30, 3) := by decide +kernel
theorem dX2_init_50 : decode cX2_init 50 = .ok (.aload_n 0, 1) := by decide +kernel
theorem dX2_init_51 : decode cX2_init 51 = .ok (.iconst (-1), 1) := by decide +kernel
theorem dX2_init_52 : decode cX2_init 52 = .ok (.putfield 33, 3) := by decide +kernel
theorem dX2_init_55 : decode cX2_init 55 = .ok (.aload_n 0, 1) := by decide +kernel
theorem dX2_init_56 : decode cX2_init 56 = .ok (.aload_n 0, 1) := by decide +kernel
theorem dX2_init_57 : decode cX2_init 57 = .ok (.getfield 26, 3) := by decide +kernel
theorem dX2_init_60 : decode cX2_init 60 = .ok (.invokevirtual 36, 3) := by decide +kernel
theorem dX2_init_63 : decode cX2_init 63 = .ok (.return_, 1) := by decide +kernel
theorem dX2_becomeEmpty_0 : decode cX2_becomeEmpty 0 = .ok (.aload_n 0, 1) := by decide +kernel
theorem dX2_becomeEmpty_1 : decode cX2_becomeEmpty 1 = .ok (.iload_n 1, 1) := by decide +kernel
theorem dX2_becomeEmpty_2 : decode cX2_becomeEmpty 2 = .ok (.putfield 26, 3) := by decide +kernel
theorem dX2_becomeEmpty_5 : decode cX2_becomeEmpty 5 = .ok (.iconst 0, 1) := by decide +kernel
theorem dX2_becomeEmpty_6 : decode cX2_becomeEmpty 6 = .ok (.istore_n 2, 1) := by decide +kernel
theorem dX2_becomeEmpty_7 : decode cX2_becomeEmpty 7 = .ok (.iload_n 2, 1) := by decide +kernel
theorem dX2_becomeEmpty_8 : decode cX2_becomeEmpty 8 = .ok (.bipush 8, 2) := by decide +kernel
theorem dX2_becomeEmpty_10 : decode cX2_becomeEmpty 10 = .ok (.if_icmp .ge 32, 3) := by decide +kernel
theorem dX2_becomeEmpty_13 : decode cX2_becomeEmpty 13 = .ok (.iconst 0, 1) := by decide +kernel
theorem dX2_becomeEmpty_14 : decode cX2_becomeEmpty 14 = .ok (.istore_n 3, 1) := by decide +kernel
theorem dX2_becomeEmpty_15 : decode cX2_becomeEmpty 15 = .ok (.iload_n 3, 1) := by decide +kernel
theorem dX2_becomeEmpty_16 : decode cX2_becomeEmpty 16 = .ok (.bipush 8, 2) := by decide +kernel
theorem dX2_becomeEmpty_18 : decode cX2_becomeEmpty 18 = .ok (.if_icmp .ge 18, 3) := by decide +kernel
theorem dX2_becomeEmpty_21 : decode cX2_becomeEmpty 21 = .ok (.aload_n 0, 1) := by decide +kernel
theorem dX2_becomeEmpty_22 : decode cX2_becomeEmpty 22 = .ok (.getfield 11, 3) := by decide +kernel
theorem dX2_becomeEmpty_25 : decode cX2_becomeEmpty 25 = .ok (.iload_n 2, 1) := by decide +kernel
theorem dX2_becomeEmpty_26 : decode cX2_becomeEmpty 26 = .ok (.aaload, 1) := by decide +kernel
theorem dX2_becomeEmpty_27 : decode cX2_becomeEmpty 27 = .ok (.iload_n 3, 1) := by decide +kernel
theorem dX2_becomeEmpty_28 : decode cX2_becomeEmpty 28 = .ok (.iconst 0, 1) := by decide +kernel
theorem dX2_becomeEmpty_29 : decode cX2_becomeEmpty 29 = .ok (.iastore, 1) := by decide +kernel
theorem dX2_becomeEmpty_30 : decode cX2_becomeEmpty 30 = .ok (.iinc 3 1, 3) := by decide +kernel
theorem dX2_becomeEmpty_33 : decode cX2_becomeEmpty 33 = .ok (.goto (-18), 3) := by decide +kernel
theorem dX2_becomeEmpty_36 : decode cX2_becomeEmpty 36 = .ok (.iinc 2 1, 3) := by decide +kernel
theorem dX2_becomeEmpty_39 : decode cX2_becomeEmpty 39 = .ok (.goto (-32), 3) := by decide +kernel
theorem dX2_becomeEmpty_42 : decode cX2_becomeEmpty 42 = .ok (.aload_n 0, 1) := by decide +kernel
theorem dX2_becomeEmpty_43 : decode cX2_becomeEmpty 43 = .ok (.invokevirtual 40, 3) := by decide +kernel
theorem dX2_becomeEmpty_46 : decode cX2_becomeEmpty 46 = .ok (.return_, 1) := by decide +kernel
theorem dX2_become_0 : decode cX2_become 0 = .ok (.aload_n 0, 1) := by decide +kernel
theorem dX2_become_1 : decode cX2_become 1 = .ok (.aload_n 1, 1) := by decide +kernel
theorem dX2_become_2 : decode cX2_become 2 = .ok (.getfield 26, 3) := by decide +kernel
theorem dX2_become_5 : decode cX2_become 5 = .ok (.putfield 26, 3) := by decide +kernel
theorem dX2_become_8 : decode cX2_become 8 = .ok (.aload_n 0, 1) := by decide +kernel
theorem dX2_become_9 : decode cX2_become 9 = .ok (.aload_n 1, 1) := by decide +kernel
theorem dX2_become_10 : decode cX2_become 10 = .ok (.getfield 30, 3) := by decide +kernel
theorem dX2_become_13 : decode cX2_become 13 = .ok (.putfield 30, 3) := by decide +kernel
theorem dX2_become_16 : decode cX2_become 16 = .ok (.iconst 0, 1) := by decide +kernel
theorem dX2_become_17 : decode cX2_become 17 = .ok (.istore_n 2, 1) := by decide +kernel
theorem dX2_become_18 : decode cX2_become 18 = .ok (.iload_n 2, 1) := by decide +kernel
theorem dX2_become_19 : decode cX2_become 19 = .ok (.bipush 8, 2) := by decide +kernel
theorem dX2_become_21 : decode cX2_become 21 = .ok (.if_icmp .ge 28, 3) := by decide +kernel
theorem dX2_become_24 : decode cX2_become 24 = .ok (.aload_n 1, 1) := by decide +kernel
theorem dX2_become_25 : decode cX2_become 25 = .ok (.getfield 11, 3) := by decide +kernel
theorem dX2_become_28 : decode cX2_become 28 = .ok (.iload_n 2, 1) := by decide +kernel
theorem dX2_become_29 : decode cX2_become 29 = .ok (.aaload, 1) := by decide +kernel
theorem dX2_become_30 : decode cX2_become 30 = .ok (.iconst 0, 1) := by decide +kernel
theorem dX2_become_31 : decode cX2_become 31 = .ok (.aload_n 0, 1) := by decide +kernel
theorem dX2_become_32 : decode cX2_become 32 = .ok (.getfield 11, 3) := by decide +kernel
theorem dX2_become_35 : decode cX2_become 35 = .ok (.iload_n 2, 1) := by decide +kernel
theorem dX2_become_36 : decode cX2_become 36 = .ok (.aaload, 1) := by decide +kernel
theorem dX2_become_37 : decode cX2_become 37 = .ok (.iconst 0, 1) := by decide +kernel
theorem dX2_become_38 : decode cX2_become 38 = .ok (.bipush 8, 2) := by decide +kernel
theorem dX2_become_40 : decode cX2_become 40 = .ok (.invokestatic 43, 3) := by decide +kernel
theorem dX2_become_43 : decode cX2_become 43 = .ok (.iinc 2 1, 3) := by decide +kernel
theorem dX2_become_46 : decode cX2_become 46 = .ok (.goto (-28), 3) := by decide +kernel
theorem dX2_become_49 : decode cX2_become 49 = .ok (.aload_n 1, 1) := by decide +kernel
theorem dX2_become_50 : decode cX2_become 50 = .ok (.getfield 16, 3) := by decide +kernel
theorem dX2_become_53 : decode cX2_become 53 = .ok (.iconst 0, 1) := by decide +kernel
theorem dX2_become_54 : decode cX2_become 54 = .ok (.aload_n 0, 1) := by decide +kernel
theorem dX2_become_55 : decode cX2_become 55 = .ok (.getfield 16, 3) := by decide +kernel
theorem dX2_become_58 : decode cX2_become 58 = .ok (.iconst 0, 1) := by decide +kernel
theorem dX2_become_59 : decode cX2_become 59 = .ok (.bipush 8, 2) := by decide +kernel
theorem dX2_become_61 : decode cX2_become 61 = .ok (.invokestatic 43, 3) := by decide +kernel
theorem dX2_become_64 : decode cX2_become 64 = .ok (.aload_n 1, 1) := by decide +kernel
theorem dX2_become_65 : decode cX2_become 65 = .ok (.getfield 20, 3) := by decide +kernel
theorem dX2_become_68 : decode cX2_become 68 = .ok (.iconst 0, 1) := by decide +kernel
theorem dX2_become_69 : decode cX2_become 69 = .ok (.aload_n 0, 1) := by decide +kernel
theorem dX2_become_70 : decode cX2_become 70 = .ok (.getfield 20, 3) := by decide +kernel
theorem dX2_become_73 : decode cX2_become 73 = .ok (.iconst 0, 1) := by decide +kernel
theorem dX2_become_74 : decode cX2_become 74 = .ok (.bipush 8, 2) := by decide +kernel
theorem dX2_become_76 : decode cX2_become 76 = .ok (.invokestatic 43, 3) := by decide +kernel
theorem dX2_become_79 : decode cX2_become 79 = .ok (.aload_n 1, 1) := by decide +kernel
theorem dX2_become_80 : decode cX2_become 80 = .ok (.getfield 23, 3) := by decide +kernel
theorem dX2_become_83 : decode cX2_become 83 = .ok (.iconst 0, 1) := by decide +kernel
theorem dX2_become_84 : decode cX2_become 84 = .ok (.aload_n 0, 1) := by decide +kernel
theorem dX2_become_85 : decode cX2_become 85 = .ok (.getfield 23, 3) := by decide +kernel
theorem dX2_become_88 : decode cX2_become 88 = .ok (.iconst 0, 1) := by decide +kernel
theorem dX2_become_89 : decode cX2_become 89 = .ok (.bipush 8, 2) := by decide +kernel
theorem dX2_become_91 : decode cX2_become 91 = .ok (.invokestatic 43, 3) := by decide +kernel
theorem dX2_become_94 : decode cX2_become 94 = .ok (.return_, 1) := by decide +kernel
theorem dX2_startAnew_0 : decode cX2_startAnew 0 = .ok (.aload_n 0, 1) := by decide +kernel
theorem dX2_startAnew_1 : decode cX2_startAnew 1 = .ok (.invokevirtual 49, 3) := by decide +kernel
theorem dX2_startAnew_4 : decode cX2_startAnew 4 = .ok (.iconst 0, 1) := by decide +kernel
theorem dX2_startAnew_5 : decode cX2_startAnew 5 = .ok (.istore_n 1, 1) := by decide +kernel
theorem dX2_startAnew_6 : decode cX2_startAnew 6 = .ok (.iload_n 1, 1) := by decide +kernel
theorem dX2_startAnew_7 : decode cX2_startAnew 7 = .ok (.bipush 8, 2) := by decide +kernel
theorem dX2_startAnew_9 : decode cX2_startAnew 9 = .ok (.if_icmp .ge 16, 3) := by decide +kernel
theorem dX2_startAnew_12 : decode cX2_startAnew 12 = .ok (.aload_n 0, 1) := by decide +kernel
theorem dX2_startAnew_13 : decode cX2_startAnew 13 = .ok (.getfield 23, 3) := by decide +kernel
theorem dX2_startAnew_16 : decode cX2_startAnew 16 = .ok (.iload_n 1, 1) := by decide +kernel
theorem dX2_startAnew_17 : decode cX2_startAnew 17 = .ok (.iconst 0, 1) := by decide +kernel
theorem dX2_startAnew_18 : decode cX2_startAnew 18 = .ok (.iastore, 1) := by decide +kernel
theorem dX2_startAnew_19 : decode cX2_startAnew 19 = .ok (.iinc 1 1, 3) := by decide +kernel
theorem dX2_startAnew_22 : decode cX2_startAnew 22 = .ok (.goto (-16), 3) := by decide +kernel
theorem dX2_startAnew_25 : decode cX2_startAnew 25 = .ok (.return_, 1) := by decide +kernel
theorem dX2_takeAllAway_0 : decode cX2_takeAllAway 0 = .ok (.iconst 0, 1) := by decide +kernel
theorem dX2_takeAllAway_1 : decode cX2_takeAllAway 1 = .ok (.istore_n 1, 1) := by decide +kernel
theorem dX2_takeAllAway_2 : decode cX2_takeAllAway 2 = .ok (.iload_n 1, 1) := by decide +kernel
theorem dX2_takeAllAway_3 : decode cX2_takeAllAway 3 = .ok (.bipush 8, 2) := by decide +kernel
theorem dX2_takeAllAway_5 : decode cX2_takeAllAway 5 = .ok (.if_icmp .ge 23, 3) := by decide +kernel
theorem dX2_takeAllAway_8 : decode cX2_takeAllAway 8 = .ok (.aload_n 0, 1) := by decide +kernel
theorem dX2_takeAllAway_9 : decode cX2_takeAllAway 9 = .ok (.getfield 16, 3) := by decide +kernel
theorem dX2_takeAllAway_12 : decode cX2_takeAllAway 12 = .ok (.iload_n 1, 1) := by decide +kernel
theorem dX2_takeAllAway_13 : decode cX2_takeAllAway 13 = .ok (.iconst (-1), 1) := by decide +kernel
theorem dX2_takeAllAway_14 : decode cX2_takeAllAway 14 = .ok (.iastore, 1) := by decide +kernel
theorem dX2_takeAllAway_15 : decode cX2_takeAllAway 15 = .ok (.aload_n 0, 1) := by decide +kernel
theorem dX2_takeAllAway_16 : decode cX2_takeAllAway 16 = .ok (.getfield 20, 3) := by decide +kernel
theorem dX2_takeAllAway_19 : decode cX2_takeAllAway 19 = .ok (.iload_n 1, 1) := by decide +kernel
theorem dX2_takeAllAway_20 : decode cX2_takeAllAway 20 = .ok (.iconst (-1), 1) := by decide +kernel
theorem dX2_takeAllAway_21 : decode cX2_takeAllAway 21 = .ok (.iastore, 1) := by decide +kernel
theorem dX2_takeAllAway_22 : decode cX2_takeAllAway 22 = .ok (.iinc 1 1, 3) := by decide +kernel
theorem dX2_takeAllAway_25 : decode cX2_takeAllAway 25 = .ok (.goto (-23), 3) := by decide +kernel
theorem dX2_takeAllAway_28 : decode cX2_takeAllAway 28 = .ok (.return_, 1) := by decide +kernel
theorem dX2_giveUp_0 : decode cX2_giveUp 0 = .ok (.aload_n 0, 1) := by decide +kernel
theorem dX2_giveUp_1 : decode cX2_giveUp 1 = .ok (.getfield 16, 3) := by decide +kernel
theorem dX2_giveUp_4 : decode cX2_giveUp 4 = .ok (.iload_n 1, 1) := by decide +kernel
theorem dX2_giveUp_5 : decode cX2_giveUp 5 = .ok (.iaload, 1) := by decide +kernel
theorem dX2_giveUp_6 : decode cX2_giveUp 6 = .ok (.istore_n 2, 1) := by decide +kernel
theorem dX2_giveUp_7 : decode cX2_giveUp 7 = .ok (.iload_n 2, 1) := by decide +kernel
theorem dX2_giveUp_8 : decode cX2_giveUp 8 = .ok (.ifCond .lt 10, 3) := by decide +kernel
theorem dX2_giveUp_11 : decode cX2_giveUp 11 = .ok (.aload_n 0, 1) := by decide +kernel
theorem dX2_giveUp_12 : decode cX2_giveUp 12 = .ok (.getfield 20, 3) := by decide +kernel
theorem dX2_giveUp_15 : decode cX2_giveUp 15 = .ok (.iload_n 2, 1) := by decide +kernel
theorem dX2_giveUp_16 : decode cX2_giveUp 16 = .ok (.iconst (-1), 1) := by decide +kernel
theorem dX2_giveUp_17 : decode cX2_giveUp 17 = .ok (.iastore, 1) := by decide +kernel
theorem dX2_giveUp_18 : decode cX2_giveUp 18 = .ok (.aload_n 0, 1) := by decide +kernel
theorem dX2_giveUp_19 : decode cX2_giveUp 19 = .ok (.getfield 16, 3) := by decide +kernel
theorem dX2_giveUp_22 : decode cX2_giveUp 22 = .ok (.iload_n 1, 1) := by decide +kernel
theorem dX2_giveUp_23 : decode cX2_giveUp 23 = .ok (.iconst (-1), 1) := by decide +kernel
theorem dX2_giveUp_24 : decode cX2_giveUp 24 = .ok (.iastore, 1) := by decide +kernel
theorem dX2_giveUp_25 : decode cX2_giveUp 25 = .ok (.return_, 1) := by decide +kernel
theorem dX2_becomeWorth_0 : decode cX2_becomeWorth 0 = .ok (.aload_n 0, 1) := by decide +kernel
theorem dX2_becomeWorth_1 : decode cX2_becomeWorth 1 = .ok (.getfield 11, 3) := by decide +kernel
theorem dX2_becomeWorth_4 : decode cX2_becomeWorth 4 = .ok (.iload_n 1, 1) := by decide +kernel
theorem dX2_becomeWorth_5 : decode cX2_becomeWorth 5 = .ok (.aaload, 1) := by decide +kernel
theorem dX2_becomeWorth_6 : decode cX2_becomeWorth 6 = .ok (.iload_n 2, 1) := by decide +kernel
theorem dX2_becomeWorth_7 : decode cX2_becomeWorth 7 = .ok (.iload_n 3, 1) := by decide +kernel
theorem dX2_becomeWorth_8 : decode cX2_becomeWorth 8 = .ok (.iastore, 1) := by decide +kernel
theorem dX2_becomeWorth_9 : decode cX2_becomeWorth 9 = .ok (.aload_n 0, 1) := by decide +kernel
theorem dX2_becomeWorth_10 : decode cX2_becomeWorth 10 = .ok (.iload_n 1, 1) := by decide +kernel
theorem dX2_becomeWorth_11 : decode cX2_becomeWorth 11 = .ok (.invokevirtual 52, 3) := by decide +kernel
theorem dX2_becomeWorth_14 : decode cX2_becomeWorth 14 = .ok (.return_, 1) := by decide +kernel
theorem dX2_has_0 : decode cX2_has 0 = .ok (.iload_n 1, 1) := by decide +kernel
theorem dX2_has_1 : decode cX2_has 1 = .ok (.ifCond .lt 15, 3) := by decide +kernel
theorem dX2_has_4 : decode cX2_has 4 = .ok (.iload_n 1, 1) := by decide +kernel
theorem dX2_has_5 : decode cX2_has 5 = .ok (.aload_n 0, 1) := by decide +kernel
theorem dX2_has_6 : decode cX2_has 6 = .ok (.getfield 26, 3) := by decide +kernel
theorem dX2_has_9 : decode cX2_has 9 = .ok (.if_icmp .ge 7, 3) := by decide +kernel
theorem dX2_has_12 : decode cX2_has 12 = .ok (.iconst 1, 1) := by decide +kernel
theorem dX2_has_13 : decode cX2_has 13 = .ok (.goto 4, 3) := by decide +kernel
theorem dX2_has_16 : decode cX2_has 16 = .ok (.iconst 0, 1) := by decide +kernel
theorem dX2_has_17 : decode cX2_has 17 = .ok (.ireturn, 1) := by decide +kernel
theorem dX2_allows_0 : decode cX2_allows 0 = .ok (.aload_n 0, 1) := by decide +kernel
theorem dX2_allows_1 : decode cX2_allows 1 = .ok (.getfield 11, 3) := by decide +kernel
theorem dX2_allows_4 : decode cX2_allows 4 = .ok (.iload_n 1, 1) := by decide +kernel
theorem dX2_allows_5 : decode cX2_allows 5 = .ok (.aaload, 1) := by decide +kernel
theorem dX2_allows_6 : decode cX2_allows 6 = .ok (.iload_n 2, 1) := by decide +kernel
theorem dX2_allows_7 : decode cX2_allows 7 = .ok (.iaload, 1) := by decide +kernel
theorem dX2_allows_8 : decode cX2_allows 8 = .ok (.iconst (-1), 1) := by decide +kernel
theorem dX2_allows_9 : decode cX2_allows 9 = .ok (.if_icmp .eq 7, 3) := by decide +kernel
theorem dX2_allows_12 : decode cX2_allows 12 = .ok (.iconst 1, 1) := by decide +kernel
theorem dX2_allows_13 : decode cX2_allows 13 = .ok (.goto 4, 3) := by decide +kernel
theorem dX2_allows_16 : decode cX2_allows 16 = .ok (.iconst 0, 1) := by decide +kernel
theorem dX2_allows_17 : decode cX2_allows 17 = .ok (.ireturn, 1) := by decide +kernel
theorem dX2_gainOf_0 : decode cX2_gainOf 0 = .ok (.aload_n 0, 1) := by decide +kernel
theorem dX2_gainOf_1 : decode cX2_gainOf 1 = .ok (.getfield 26, 3) := by decide +kernel
theorem dX2_gainOf_4 : decode cX2_gainOf 4 = .ok (.iconst 1, 1) := by decide +kernel
theorem dX2_gainOf_5 : decode cX2_gainOf 5 = .ok (.iadd, 1) := by decide +kernel
theorem dX2_gainOf_6 : decode cX2_gainOf 6 = .ok (.aload_n 0, 1) := by decide +kernel
theorem dX2_gainOf_7 : decode cX2_gainOf 7 = .ok (.getfield 11, 3) := by decide +kernel
theorem dX2_gainOf_10 : decode cX2_gainOf 10 = .ok (.iload_n 1, 1) := by decide +kernel
theorem dX2_gainOf_11 : decode cX2_gainOf 11 = .ok (.aaload, 1) := by decide +kernel
theorem dX2_gainOf_12 : decode cX2_gainOf 12 = .ok (.iload_n 2, 1) := by decide +kernel
theorem dX2_gainOf_13 : decode cX2_gainOf 13 = .ok (.iaload, 1) := by decide +kernel
theorem dX2_gainOf_14 : decode cX2_gainOf 14 = .ok (.imul, 1) := by decide +kernel
theorem dX2_gainOf_15 : decode cX2_gainOf 15 = .ok (.aload_n 0, 1) := by decide +kernel
theorem dX2_gainOf_16 : decode cX2_gainOf 16 = .ok (.getfield 23, 3) := by decide +kernel
theorem dX2_gainOf_19 : decode cX2_gainOf 19 = .ok (.iload_n 2, 1) := by decide +kernel
theorem dX2_gainOf_20 : decode cX2_gainOf 20 = .ok (.iaload, 1) := by decide +kernel
theorem dX2_gainOf_21 : decode cX2_gainOf 21 = .ok (.isub, 1) := by decide +kernel
theorem dX2_gainOf_22 : decode cX2_gainOf 22 = .ok (.ireturn, 1) := by decide +kernel
theorem dX2_bestOf_0 : decode cX2_bestOf 0 = .ok (.aload_n 0, 1) := by decide +kernel
theorem dX2_bestOf_1 : decode cX2_bestOf 1 = .ok (.iload_n 1, 1) := by decide +kernel
theorem dX2_bestOf_2 : decode cX2_bestOf 2 = .ok (.iconst (-1), 1) := by decide +kernel
theorem dX2_bestOf_3 : decode cX2_bestOf 3 = .ok (.invokevirtual 55, 3) := by decide +kernel
theorem dX2_bestOf_6 : decode cX2_bestOf 6 = .ok (.ireturn, 1) := by decide +kernel
theorem dX2_bestBut_0 : decode cX2_bestBut 0 = .ok (.iconst (-1), 1) := by decide +kernel
theorem dX2_bestBut_1 : decode cX2_bestBut 1 = .ok (.istore_n 3, 1) := by decide +kernel
theorem dX2_bestBut_2 : decode cX2_bestBut 2 = .ok (.iconst 0, 1) := by decide +kernel
theorem dX2_bestBut_3 : decode cX2_bestBut 3 = .ok (.istore 4, 2) := by decide +kernel
theorem dX2_bestBut_5 : decode cX2_bestBut 5 = .ok (.iconst 0, 1) := by decide +kernel
theorem dX2_bestBut_6 : decode cX2_bestBut 6 = .ok (.istore 5, 2) := by decide +kernel
theorem dX2_bestBut_8 : decode cX2_bestBut 8 = .ok (.iload 5, 2) := by decide +kernel
theorem dX2_bestBut_10 : decode cX2_bestBut 10 = .ok (.aload_n 0, 1) := by decide +kernel
theorem dX2_bestBut_11 : decode cX2_bestBut 11 = .ok (.getfield 26, 3) := by decide +kernel
theorem dX2_bestBut_14 : decode cX2_bestBut 14 = .ok (.if_icmp .ge 52, 3) := by decide +kernel
theorem dX2_bestBut_17 : decode cX2_bestBut 17 = .ok (.iload 5, 2) := by decide +kernel
theorem dX2_bestBut_19 : decode cX2_bestBut 19 = .ok (.iload_n 2, 1) := by decide +kernel
theorem dX2_bestBut_20 : decode cX2_bestBut 20 = .ok (.if_icmp .eq 40, 3) := by decide +kernel
theorem dX2_bestBut_23 : decode cX2_bestBut 23 = .ok (.aload_n 0, 1) := by decide +kernel
theorem dX2_bestBut_24 : decode cX2_bestBut 24 = .ok (.iload_n 1, 1) := by decide +kernel
theorem dX2_bestBut_25 : decode cX2_bestBut 25 = .ok (.iload 5, 2) := by decide +kernel
theorem dX2_bestBut_27 : decode cX2_bestBut 27 = .ok (.invokevirtual 59, 3) := by decide +kernel
theorem dX2_bestBut_30 : decode cX2_bestBut 30 = .ok (.ifCond .eq 30, 3) := by decide +kernel
theorem dX2_bestBut_33 : decode cX2_bestBut 33 = .ok (.aload_n 0, 1) := by decide +kernel
theorem dX2_bestBut_34 : decode cX2_bestBut 34 = .ok (.iload_n 1, 1) := by decide +kernel
theorem dX2_bestBut_35 : decode cX2_bestBut 35 = .ok (.iload 5, 2) := by decide +kernel
theorem dX2_bestBut_37 : decode cX2_bestBut 37 = .ok (.invokevirtual 63, 3) := by decide +kernel
theorem dX2_bestBut_40 : decode cX2_bestBut 40 = .ok (.istore 6, 2) := by decide +kernel
theorem dX2_bestBut_42 : decode cX2_bestBut 42 = .ok (.iload_n 3, 1) := by decide +kernel
theorem dX2_bestBut_43 : decode cX2_bestBut 43 = .ok (.ifCond .lt 10, 3) := by decide +kernel
theorem dX2_bestBut_46 : decode cX2_bestBut 46 = .ok (.iload 6, 2) := by decide +kernel
theorem dX2_bestBut_48 : decode cX2_bestBut 48 = .ok (.iload 4, 2) := by decide +kernel
theorem dX2_bestBut_50 : decode cX2_bestBut 50 = .ok (.if_icmp .le 10, 3) := by decide +kernel
theorem dX2_bestBut_53 : decode cX2_bestBut 53 = .ok (.iload 5, 2) := by decide +kernel
theorem dX2_bestBut_55 : decode cX2_bestBut 55 = .ok (.istore_n 3, 1) := by decide +kernel
theorem dX2_bestBut_56 : decode cX2_bestBut 56 = .ok (.iload 6, 2) := by decide +kernel
theorem dX2_bestBut_58 : decode cX2_bestBut 58 = .ok (.istore 4, 2) := by decide +kernel
theorem dX2_bestBut_60 : decode cX2_bestBut 60 = .ok (.iinc 5 1, 3) := by decide +kernel
theorem dX2_bestBut_63 : decode cX2_bestBut 63 = .ok (.goto (-55), 3) := by decide +kernel
theorem dX2_bestBut_66 : decode cX2_bestBut 66 = .ok (.iload_n 3, 1) := by decide +kernel
theorem dX2_bestBut_67 : decode cX2_bestBut 67 = .ok (.ireturn, 1) := by decide +kernel
theorem dX2_offerFor_0 : decode cX2_offerFor 0 = .ok (.aload_n 0, 1) := by decide +kernel
theorem dX2_offerFor_1 : decode cX2_offerFor 1 = .ok (.iload_n 1, 1) := by decide +kernel
theorem dX2_offerFor_2 : decode cX2_offerFor 2 = .ok (.iload_n 2, 1) := by decide +kernel
theorem dX2_offerFor_3 : decode cX2_offerFor 3 = .ok (.invokevirtual 55, 3) := by decide +kernel
theorem dX2_offerFor_6 : decode cX2_offerFor 6 = .ok (.istore_n 3, 1) := by decide +kernel
theorem dX2_offerFor_7 : decode cX2_offerFor 7 = .ok (.iload_n 3, 1) := by decide +kernel
theorem dX2_offerFor_8 : decode cX2_offerFor 8 = .ok (.ifCond .ge 8, 3) := by decide +kernel
theorem dX2_offerFor_11 : decode cX2_offerFor 11 = .ok (.bipush 100, 2) := by decide +kernel
theorem dX2_offerFor_13 : decode cX2_offerFor 13 = .ok (.goto 16, 3) := by decide +kernel
theorem dX2_offerFor_16 : decode cX2_offerFor 16 = .ok (.aload_n 0, 1) := by decide +kernel
theorem dX2_offerFor_17 : decode cX2_offerFor 17 = .ok (.iload_n 1, 1) := by decide +kernel
theorem dX2_offerFor_18 : decode cX2_offerFor 18 = .ok (.iload_n 2, 1) := by decide +kernel
theorem dX2_offerFor_19 : decode cX2_offerFor 19 = .ok (.invokevirtual 63, 3) := by decide +kernel
theorem dX2_offerFor_22 : decode cX2_offerFor 22 = .ok (.aload_n 0, 1) := by decide +kernel
theorem dX2_offerFor_23 : decode cX2_offerFor 23 = .ok (.iload_n 1, 1) := by decide +kernel
theorem dX2_offerFor_24 : decode cX2_offerFor 24 = .ok (.iload_n 3, 1) := by decide +kernel
theorem dX2_offerFor_25 : decode cX2_offerFor 25 = .ok (.invokevirtual 63, 3) := by decide +kernel
theorem dX2_offerFor_28 : decode cX2_offerFor 28 = .ok (.isub, 1) := by decide +kernel
theorem dX2_offerFor_29 : decode cX2_offerFor 29 = .ok (.istore 4, 2) := by decide +kernel
theorem dX2_offerFor_31 : decode cX2_offerFor 31 = .ok (.aload_n 0, 1) := by decide +kernel
theorem dX2_offerFor_32 : decode cX2_offerFor 32 = .ok (.getfield 23, 3) := by decide +kernel
theorem dX2_offerFor_35 : decode cX2_offerFor 35 = .ok (.iload_n 2, 1) := by decide +kernel
theorem dX2_offerFor_36 : decode cX2_offerFor 36 = .ok (.iaload, 1) := by decide +kernel
theorem dX2_offerFor_37 : decode cX2_offerFor 37 = .ok (.iload 4, 2) := by decide +kernel
theorem dX2_offerFor_39 : decode cX2_offerFor 39 = .ok (.iadd, 1) := by decide +kernel
theorem dX2_offerFor_40 : decode cX2_offerFor 40 = .ok (.aload_n 0, 1) := by decide +kernel
theorem dX2_offerFor_41 : decode cX2_offerFor 41 = .ok (.getfield 30, 3) := by decide +kernel
theorem dX2_offerFor_44 : decode cX2_offerFor 44 = .ok (.iadd, 1) := by decide +kernel
theorem dX2_offerFor_45 : decode cX2_offerFor 45 = .ok (.ireturn, 1) := by decide +kernel
theorem dX2_nextBidder_0 : decode cX2_nextBidder 0 = .ok (.iconst 0, 1) := by decide +kernel
theorem dX2_nextBidder_1 : decode cX2_nextBidder 1 = .ok (.istore_n 1, 1) := by decide +kernel
theorem dX2_nextBidder_2 : decode cX2_nextBidder 2 = .ok (.iload_n 1, 1) := by decide +kernel
theorem dX2_nextBidder_3 : decode cX2_nextBidder 3 = .ok (.aload_n 0, 1) := by decide +kernel
theorem dX2_nextBidder_4 : decode cX2_nextBidder 4 = .ok (.getfield 26, 3) := by decide +kernel
theorem dX2_nextBidder_7 : decode cX2_nextBidder 7 = .ok (.if_icmp .ge 28, 3) := by decide +kernel
theorem dX2_nextBidder_10 : decode cX2_nextBidder 10 = .ok (.aload_n 0, 1) := by decide +kernel
theorem dX2_nextBidder_11 : decode cX2_nextBidder 11 = .ok (.getfield 16, 3) := by decide +kernel
theorem dX2_nextBidder_14 : decode cX2_nextBidder 14 = .ok (.iload_n 1, 1) := by decide +kernel
theorem dX2_nextBidder_15 : decode cX2_nextBidder 15 = .ok (.iaload, 1) := by decide +kernel
theorem dX2_nextBidder_16 : decode cX2_nextBidder 16 = .ok (.ifCond .ge 13, 3) := by decide +kernel
theorem dX2_nextBidder_19 : decode cX2_nextBidder 19 = .ok (.aload_n 0, 1) := by decide +kernel
theorem dX2_nextBidder_20 : decode cX2_nextBidder 20 = .ok (.iload_n 1, 1) := by decide +kernel
theorem dX2_nextBidder_21 : decode cX2_nextBidder 21 = .ok (.invokevirtual 66, 3) := by decide +kernel
theorem dX2_nextBidder_24 : decode cX2_nextBidder 24 = .ok (.ifCond .eq 5, 3) := by decide +kernel
theorem dX2_nextBidder_27 : decode cX2_nextBidder 27 = .ok (.iload_n 1, 1) := by decide +kernel
theorem dX2_nextBidder_28 : decode cX2_nextBidder 28 = .ok (.ireturn, 1) := by decide +kernel
theorem dX2_nextBidder_29 : decode cX2_nextBidder 29 = .ok (.iinc 1 1, 3) := by decide +kernel
theorem dX2_nextBidder_32 : decode cX2_nextBidder 32 = .ok (.goto (-30), 3) := by decide +kernel
theorem dX2_nextBidder_35 : decode cX2_nextBidder 35 = .ok (.iconst (-1), 1) := by decide +kernel
theorem dX2_nextBidder_36 : decode cX2_nextBidder 36 = .ok (.ireturn, 1) := by decide +kernel
theorem dX2_nextOffer_0 : decode cX2_nextOffer 0 = .ok (.aload_n 0, 1) := by decide +kernel
theorem dX2_nextOffer_1 : decode cX2_nextOffer 1 = .ok (.invokevirtual 70, 3) := by decide +kernel
theorem dX2_nextOffer_4 : decode cX2_nextOffer 4 = .ok (.istore_n 1, 1) := by decide +kernel
theorem dX2_nextOffer_5 : decode cX2_nextOffer 5 = .ok (.iload_n 1, 1) := by decide +kernel
theorem dX2_nextOffer_6 : decode cX2_nextOffer 6 = .ok (.ifCond .ge 6, 3) := by decide +kernel
theorem dX2_nextOffer_9 : decode cX2_nextOffer 9 = .ok (.bipush (-5), 2) := by decide +kernel
theorem dX2_nextOffer_11 : decode cX2_nextOffer 11 = .ok (.ireturn, 1) := by decide +kernel
theorem dX2_nextOffer_12 : decode cX2_nextOffer 12 = .ok (.aload_n 0, 1) := by decide +kernel
theorem dX2_nextOffer_13 : decode cX2_nextOffer 13 = .ok (.iload_n 1, 1) := by decide +kernel
theorem dX2_nextOffer_14 : decode cX2_nextOffer 14 = .ok (.invokevirtual 74, 3) := by decide +kernel
theorem dX2_nextOffer_17 : decode cX2_nextOffer 17 = .ok (.istore_n 2, 1) := by decide +kernel
theorem dX2_nextOffer_18 : decode cX2_nextOffer 18 = .ok (.iload_n 2, 1) := by decide +kernel
theorem dX2_nextOffer_19 : decode cX2_nextOffer 19 = .ok (.ifCond .ge 8, 3) := by decide +kernel
theorem dX2_nextOffer_22 : decode cX2_nextOffer 22 = .ok (.bipush (-5), 2) := by decide +kernel
theorem dX2_nextOffer_24 : decode cX2_nextOffer 24 = .ok (.goto 9, 3) := by decide +kernel
theorem dX2_nextOffer_27 : decode cX2_nextOffer 27 = .ok (.aload_n 0, 1) := by decide +kernel
theorem dX2_nextOffer_28 : decode cX2_nextOffer 28 = .ok (.iload_n 1, 1) := by decide +kernel
theorem dX2_nextOffer_29 : decode cX2_nextOffer 29 = .ok (.iload_n 2, 1) := by decide +kernel
theorem dX2_nextOffer_30 : decode cX2_nextOffer 30 = .ok (.invokevirtual 78, 3) := by decide +kernel
theorem dX2_nextOffer_33 : decode cX2_nextOffer 33 = .ok (.ireturn, 1) := by decide +kernel
theorem dX2_letNextBid_0 : decode cX2_letNextBid 0 = .ok (.aload_n 0, 1) := by decide +kernel
theorem dX2_letNextBid_1 : decode cX2_letNextBid 1 = .ok (.invokevirtual 70, 3) := by decide +kernel
theorem dX2_letNextBid_4 : decode cX2_letNextBid 4 = .ok (.istore_n 1, 1) := by decide +kernel
theorem dX2_letNextBid_5 : decode cX2_letNextBid 5 = .ok (.iload_n 1, 1) := by decide +kernel
theorem dX2_letNextBid_6 : decode cX2_letNextBid 6 = .ok (.ifCond .ge 5, 3) := by decide +kernel
theorem dX2_letNextBid_9 : decode cX2_letNextBid 9 = .ok (.iconst (-1), 1) := by decide +kernel
theorem dX2_letNextBid_10 : decode cX2_letNextBid 10 = .ok (.ireturn, 1) := by decide +kernel
theorem dX2_letNextBid_11 : decode cX2_letNextBid 11 = .ok (.aload_n 0, 1) := by decide +kernel
theorem dX2_letNextBid_12 : decode cX2_letNextBid 12 = .ok (.iload_n 1, 1) := by decide +kernel
theorem dX2_letNextBid_13 : decode cX2_letNextBid 13 = .ok (.invokevirtual 74, 3) := by decide +kernel
theorem dX2_letNextBid_16 : decode cX2_letNextBid 16 = .ok (.istore_n 2, 1) := by decide +kernel
theorem dX2_letNextBid_17 : decode cX2_letNextBid 17 = .ok (.iload_n 2, 1) := by decide +kernel
theorem dX2_letNextBid_18 : decode cX2_letNextBid 18 = .ok (.ifCond .ge 5, 3) := by decide +kernel
theorem dX2_letNextBid_21 : decode cX2_letNextBid 21 = .ok (.iconst (-1), 1) := by decide +kernel
theorem dX2_letNextBid_22 : decode cX2_letNextBid 22 = .ok (.ireturn, 1) := by decide +kernel
theorem dX2_letNextBid_23 : decode cX2_letNextBid 23 = .ok (.aload_n 0, 1) := by decide +kernel
theorem dX2_letNextBid_24 : decode cX2_letNextBid 24 = .ok (.getfield 23, 3) := by decide +kernel
theorem dX2_letNextBid_27 : decode cX2_letNextBid 27 = .ok (.iload_n 2, 1) := by decide +kernel
theorem dX2_letNextBid_28 : decode cX2_letNextBid 28 = .ok (.aload_n 0, 1) := by decide +kernel
theorem dX2_letNextBid_29 : decode cX2_letNextBid 29 = .ok (.iload_n 1, 1) := by decide +kernel
theorem dX2_letNextBid_30 : decode cX2_letNextBid 30 = .ok (.iload_n 2, 1) := by decide +kernel
theorem dX2_letNextBid_31 : decode cX2_letNextBid 31 = .ok (.invokevirtual 78, 3) := by decide +kernel
theorem dX2_letNextBid_34 : decode cX2_letNextBid 34 = .ok (.iastore, 1) := by decide +kernel
theorem dX2_letNextBid_35 : decode cX2_letNextBid 35 = .ok (.aload_n 0, 1) := by decide +kernel
theorem dX2_letNextBid_36 : decode cX2_letNextBid 36 = .ok (.getfield 20, 3) := by decide +kernel
theorem dX2_letNextBid_39 : decode cX2_letNextBid 39 = .ok (.iload_n 2, 1) := by decide +kernel
theorem dX2_letNextBid_40 : decode cX2_letNextBid 40 = .ok (.iaload, 1) := by decide +kernel
theorem dX2_letNextBid_41 : decode cX2_letNextBid 41 = .ok (.istore_n 3, 1) := by decide +kernel
theorem dX2_letNextBid_42 : decode cX2_letNextBid 42 = .ok (.iload_n 3, 1) := by decide +kernel
theorem dX2_letNextBid_43 : decode cX2_letNextBid 43 = .ok (.ifCond .lt 10, 3) := by decide +kernel
theorem dX2_letNextBid_46 : decode cX2_letNextBid 46 = .ok (.aload_n 0, 1) := by decide +kernel
theorem dX2_letNextBid_47 : decode cX2_letNextBid 47 = .ok (.getfield 16, 3) := by decide +kernel
theorem dX2_letNextBid_50 : decode cX2_letNextBid 50 = .ok (.iload_n 3, 1) := by decide +kernel
theorem dX2_letNextBid_51 : decode cX2_letNextBid 51 = .ok (.iconst (-1), 1) := by decide +kernel
theorem dX2_letNextBid_52 : decode cX2_letNextBid 52 = .ok (.iastore, 1) := by decide +kernel
theorem dX2_letNextBid_53 : decode cX2_letNextBid 53 = .ok (.aload_n 0, 1) := by decide +kernel
theorem dX2_letNextBid_54 : decode cX2_letNextBid 54 = .ok (.getfield 20, 3) := by decide +kernel
theorem dX2_letNextBid_57 : decode cX2_letNextBid 57 = .ok (.iload_n 2, 1) := by decide +kernel
theorem dX2_letNextBid_58 : decode cX2_letNextBid 58 = .ok (.iload_n 1, 1) := by decide +kernel
theorem dX2_letNextBid_59 : decode cX2_letNextBid 59 = .ok (.iastore, 1) := by decide +kernel
theorem dX2_letNextBid_60 : decode cX2_letNextBid 60 = .ok (.aload_n 0, 1) := by decide +kernel
theorem dX2_letNextBid_61 : decode cX2_letNextBid 61 = .ok (.getfield 16, 3) := by decide +kernel
theorem dX2_letNextBid_64 : decode cX2_letNextBid 64 = .ok (.iload_n 1, 1) := by decide +kernel
theorem dX2_letNextBid_65 : decode cX2_letNextBid 65 = .ok (.iload_n 2, 1) := by decide +kernel
theorem dX2_letNextBid_66 : decode cX2_letNextBid 66 = .ok (.iastore, 1) := by decide +kernel
theorem dX2_letNextBid_67 : decode cX2_letNextBid 67 = .ok (.iload_n 2, 1) := by decide +kernel
theorem dX2_letNextBid_68 : decode cX2_letNextBid 68 = .ok (.ireturn, 1) := by decide +kernel
theorem dX2_runAuction_0 : decode cX2_runAuction 0 = .ok (.aload_n 0, 1) := by decide +kernel
theorem dX2_runAuction_1 : decode cX2_runAuction 1 = .ok (.iconst (-1), 1) := by decide +kernel
theorem dX2_runAuction_2 : decode cX2_runAuction 2 = .ok (.putfield 33, 3) := by decide +kernel
theorem dX2_runAuction_5 : decode cX2_runAuction 5 = .ok (.iconst 0, 1) := by decide +kernel
theorem dX2_runAuction_6 : decode cX2_runAuction 6 = .ok (.istore_n 1, 1) := by decide +kernel
theorem dX2_runAuction_7 : decode cX2_runAuction 7 = .ok (.aload_n 0, 1) := by decide +kernel
theorem dX2_runAuction_8 : decode cX2_runAuction 8 = .ok (.invokevirtual 81, 3) := by decide +kernel
theorem dX2_runAuction_11 : decode cX2_runAuction 11 = .ok (.istore_n 2, 1) := by decide +kernel
theorem dX2_runAuction_12 : decode cX2_runAuction 12 = .ok (.iload_n 2, 1) := by decide +kernel
theorem dX2_runAuction_13 : decode cX2_runAuction 13 = .ok (.ifCond .lt 44, 3) := by decide +kernel
theorem dX2_runAuction_16 : decode cX2_runAuction 16 = .ok (.iload_n 1, 1) := by decide +kernel
theorem dX2_runAuction_17 : decode cX2_runAuction 17 = .ok (.ldc 84, 2) := by decide +kernel
theorem dX2_runAuction_19 : decode cX2_runAuction 19 = .ok (.if_icmp .ge 38, 3) := by decide +kernel
theorem dX2_runAuction_22 : decode cX2_runAuction 22 = .ok (.iinc 1 1, 3) := by decide +kernel
theorem dX2_runAuction_25 : decode cX2_runAuction 25 = .ok (.aload_n 0, 1) := by decide +kernel
theorem dX2_runAuction_26 : decode cX2_runAuction 26 = .ok (.getfield 23, 3) := by decide +kernel
theorem dX2_runAuction_29 : decode cX2_runAuction 29 = .ok (.iload_n 2, 1) := by decide +kernel
theorem dX2_runAuction_30 : decode cX2_runAuction 30 = .ok (.iaload, 1) := by decide +kernel
theorem dX2_runAuction_31 : decode cX2_runAuction 31 = .ok (.sipush 2000, 3) := by decide +kernel
theorem dX2_runAuction_34 : decode cX2_runAuction 34 = .ok (.if_icmp .le 15, 3) := by decide +kernel
theorem dX2_runAuction_37 : decode cX2_runAuction 37 = .ok (.aload_n 0, 1) := by decide +kernel
theorem dX2_runAuction_38 : decode cX2_runAuction 38 = .ok (.aload_n 0, 1) := by decide +kernel
theorem dX2_runAuction_39 : decode cX2_runAuction 39 = .ok (.getfield 20, 3) := by decide +kernel
theorem dX2_runAuction_42 : decode cX2_runAuction 42 = .ok (.iload_n 2, 1) := by decide +kernel
theorem dX2_runAuction_43 : decode cX2_runAuction 43 = .ok (.iaload, 1) := by decide +kernel
theorem dX2_runAuction_44 : decode cX2_runAuction 44 = .ok (.putfield 33, 3) := by decide +kernel
theorem dX2_runAuction_47 : decode cX2_runAuction 47 = .ok (.iload_n 1, 1) := by decide +kernel
theorem dX2_runAuction_48 : decode cX2_runAuction 48 = .ok (.ireturn, 1) := by decide +kernel
theorem dX2_runAuction_49 : decode cX2_runAuction 49 = .ok (.aload_n 0, 1) := by decide +kernel
theorem dX2_runAuction_50 : decode cX2_runAuction 50 = .ok (.invokevirtual 81, 3) := by decide +kernel
theorem dX2_runAuction_53 : decode cX2_runAuction 53 = .ok (.istore_n 2, 1) := by decide +kernel
theorem dX2_runAuction_54 : decode cX2_runAuction 54 = .ok (.goto (-42), 3) := by decide +kernel
theorem dX2_runAuction_57 : decode cX2_runAuction 57 = .ok (.iload_n 1, 1) := by decide +kernel
theorem dX2_runAuction_58 : decode cX2_runAuction 58 = .ok (.ireturn, 1) := by decide +kernel
theorem dX2_runScaled_0 : decode cX2_runScaled 0 = .ok (.aload_n 0, 1) := by decide +kernel
theorem dX2_runScaled_1 : decode cX2_runScaled 1 = .ok (.getfield 30, 3) := by decide +kernel
theorem dX2_runScaled_4 : decode cX2_runScaled 4 = .ok (.istore_n 1, 1) := by decide +kernel
theorem dX2_runScaled_5 : decode cX2_runScaled 5 = .ok (.iconst 0, 1) := by decide +kernel
theorem dX2_runScaled_6 : decode cX2_runScaled 6 = .ok (.istore_n 2, 1) := by decide +kernel
theorem dX2_runScaled_7 : decode cX2_runScaled 7 = .ok (.aload_n 0, 1) := by decide +kernel
theorem dX2_runScaled_8 : decode cX2_runScaled 8 = .ok (.iconst (-1), 1) := by decide +kernel
theorem dX2_runScaled_9 : decode cX2_runScaled 9 = .ok (.putfield 33, 3) := by decide +kernel
theorem dX2_runScaled_12 : decode cX2_runScaled 12 = .ok (.iconst 0, 1) := by decide +kernel
theorem dX2_runScaled_13 : decode cX2_runScaled 13 = .ok (.istore_n 3, 1) := by decide +kernel
theorem dX2_runScaled_14 : decode cX2_runScaled 14 = .ok (.iload_n 3, 1) := by decide +kernel
theorem dX2_runScaled_15 : decode cX2_runScaled 15 = .ok (.getstatic 85, 3) := by decide +kernel
theorem dX2_runScaled_18 : decode cX2_runScaled 18 = .ok (.arraylength, 1) := by decide +kernel
theorem dX2_runScaled_19 : decode cX2_runScaled 19 = .ok (.if_icmp .ge 36, 3) := by decide +kernel
theorem dX2_runScaled_22 : decode cX2_runScaled 22 = .ok (.aload_n 0, 1) := by decide +kernel
theorem dX2_runScaled_23 : decode cX2_runScaled 23 = .ok (.getfield 33, 3) := by decide +kernel
theorem dX2_runScaled_26 : decode cX2_runScaled 26 = .ok (.ifCond .ge 29, 3) := by decide +kernel
theorem dX2_runScaled_29 : decode cX2_runScaled 29 = .ok (.aload_n 0, 1) := by decide +kernel
theorem dX2_runScaled_30 : decode cX2_runScaled 30 = .ok (.invokevirtual 49, 3) := by decide +kernel
theorem dX2_runScaled_33 : decode cX2_runScaled 33 = .ok (.aload_n 0, 1) := by decide +kernel
theorem dX2_runScaled_34 : decode cX2_runScaled 34 = .ok (.getstatic 85, 3) := by decide +kernel
theorem dX2_runScaled_37 : decode cX2_runScaled 37 = .ok (.iload_n 3, 1) := by decide +kernel
theorem dX2_runScaled_38 : decode cX2_runScaled 38 = .ok (.iaload, 1) := by decide +kernel
theorem dX2_runScaled_39 : decode cX2_runScaled 39 = .ok (.putfield 30, 3) := by decide +kernel
theorem dX2_runScaled_42 : decode cX2_runScaled 42 = .ok (.iload_n 2, 1) := by decide +kernel
theorem dX2_runScaled_43 : decode cX2_runScaled 43 = .ok (.aload_n 0, 1) := by decide +kernel
theorem dX2_runScaled_44 : decode cX2_runScaled 44 = .ok (.invokevirtual 88, 3) := by decide +kernel
theorem dX2_runScaled_47 : decode cX2_runScaled 47 = .ok (.iadd, 1) := by decide +kernel
theorem dX2_runScaled_48 : decode cX2_runScaled 48 = .ok (.istore_n 2, 1) := by decide +kernel
theorem dX2_runScaled_49 : decode cX2_runScaled 49 = .ok (.iinc 3 1, 3) := by decide +kernel
theorem dX2_runScaled_52 : decode cX2_runScaled 52 = .ok (.goto (-38), 3) := by decide +kernel
theorem dX2_runScaled_55 : decode cX2_runScaled 55 = .ok (.aload_n 0, 1) := by decide +kernel
theorem dX2_runScaled_56 : decode cX2_runScaled 56 = .ok (.iload_n 1, 1) := by decide +kernel
theorem dX2_runScaled_57 : decode cX2_runScaled 57 = .ok (.putfield 30, 3) := by decide +kernel
theorem dX2_runScaled_60 : decode cX2_runScaled 60 = .ok (.iload_n 2, 1) := by decide +kernel
theorem dX2_runScaled_61 : decode cX2_runScaled 61 = .ok (.ireturn, 1) := by decide +kernel
theorem dX2_hasBest_0 : decode cX2_hasBest 0 = .ok (.iconst 0, 1) := by decide +kernel
theorem dX2_hasBest_1 : decode cX2_hasBest 1 = .ok (.istore_n 2, 1) := by decide +kernel
theorem dX2_hasBest_2 : decode cX2_hasBest 2 = .ok (.iload_n 2, 1) := by decide +kernel
theorem dX2_hasBest_3 : decode cX2_hasBest 3 = .ok (.aload_n 0, 1) := by decide +kernel
theorem dX2_hasBest_4 : decode cX2_hasBest 4 = .ok (.getfield 26, 3) := by decide +kernel
theorem dX2_hasBest_7 : decode cX2_hasBest 7 = .ok (.if_icmp .ge 20, 3) := by decide +kernel
theorem dX2_hasBest_10 : decode cX2_hasBest 10 = .ok (.aload_n 0, 1) := by decide +kernel
theorem dX2_hasBest_11 : decode cX2_hasBest 11 = .ok (.iload_n 1, 1) := by decide +kernel
theorem dX2_hasBest_12 : decode cX2_hasBest 12 = .ok (.iload_n 2, 1) := by decide +kernel
theorem dX2_hasBest_13 : decode cX2_hasBest 13 = .ok (.invokevirtual 59, 3) := by decide +kernel
theorem dX2_hasBest_16 : decode cX2_hasBest 16 = .ok (.ifCond .eq 5, 3) := by decide +kernel
theorem dX2_hasBest_19 : decode cX2_hasBest 19 = .ok (.iconst 1, 1) := by decide +kernel
theorem dX2_hasBest_20 : decode cX2_hasBest 20 = .ok (.ireturn, 1) := by decide +kernel
theorem dX2_hasBest_21 : decode cX2_hasBest 21 = .ok (.iinc 2 1, 3) := by decide +kernel
theorem dX2_hasBest_24 : decode cX2_hasBest 24 = .ok (.goto (-22), 3) := by decide +kernel
theorem dX2_hasBest_27 : decode cX2_hasBest 27 = .ok (.iconst 0, 1) := by decide +kernel
theorem dX2_hasBest_28 : decode cX2_hasBest 28 = .ok (.ireturn, 1) := by decide +kernel
theorem dX2_allowedTo_0 : decode cX2_allowedTo 0 = .ok (.iconst 0, 1) := by decide +kernel
theorem dX2_allowedTo_1 : decode cX2_allowedTo 1 = .ok (.istore_n 2, 1) := by decide +kernel
theorem dX2_allowedTo_2 : decode cX2_allowedTo 2 = .ok (.iconst 0, 1) := by decide +kernel
theorem dX2_allowedTo_3 : decode cX2_allowedTo 3 = .ok (.istore_n 3, 1) := by decide +kernel
theorem dX2_allowedTo_4 : decode cX2_allowedTo 4 = .ok (.iload_n 3, 1) := by decide +kernel
theorem dX2_allowedTo_5 : decode cX2_allowedTo 5 = .ok (.aload_n 0, 1) := by decide +kernel
theorem dX2_allowedTo_6 : decode cX2_allowedTo 6 = .ok (.getfield 26, 3) := by decide +kernel
theorem dX2_allowedTo_9 : decode cX2_allowedTo 9 = .ok (.if_icmp .ge 24, 3) := by decide +kernel
theorem dX2_allowedTo_12 : decode cX2_allowedTo 12 = .ok (.aload_n 0, 1) := by decide +kernel
theorem dX2_allowedTo_13 : decode cX2_allowedTo 13 = .ok (.iload_n 1, 1) := by decide +kernel
theorem dX2_allowedTo_14 : decode cX2_allowedTo 14 = .ok (.iload_n 3, 1) := by decide +kernel
theorem dX2_allowedTo_15 : decode cX2_allowedTo 15 = .ok (.invokevirtual 59, 3) := by decide +kernel
theorem dX2_allowedTo_18 : decode cX2_allowedTo 18 = .ok (.ifCond .eq 9, 3) := by decide +kernel
theorem dX2_allowedTo_21 : decode cX2_allowedTo 21 = .ok (.iload_n 2, 1) := by decide +kernel
theorem dX2_allowedTo_22 : decode cX2_allowedTo 22 = .ok (.iconst 1, 1) := by decide +kernel
theorem dX2_allowedTo_23 : decode cX2_allowedTo 23 = .ok (.iload_n 3, 1) := by decide +kernel
theorem dX2_allowedTo_24 : decode cX2_allowedTo 24 = .ok (.ishl, 1) := by decide +kernel
theorem dX2_allowedTo_25 : decode cX2_allowedTo 25 = .ok (.ior, 1) := by decide +kernel
theorem dX2_allowedTo_26 : decode cX2_allowedTo 26 = .ok (.istore_n 2, 1) := by decide +kernel
theorem dX2_allowedTo_27 : decode cX2_allowedTo 27 = .ok (.iinc 3 1, 3) := by decide +kernel
theorem dX2_allowedTo_30 : decode cX2_allowedTo 30 = .ok (.goto (-26), 3) := by decide +kernel
theorem dX2_allowedTo_33 : decode cX2_allowedTo 33 = .ok (.iload_n 2, 1) := by decide +kernel
theorem dX2_allowedTo_34 : decode cX2_allowedTo 34 = .ok (.ireturn, 1) := by decide +kernel
theorem dX2_wantersOf_0 : decode cX2_wantersOf 0 = .ok (.iconst 0, 1) := by decide +kernel
theorem dX2_wantersOf_1 : decode cX2_wantersOf 1 = .ok (.istore_n 2, 1) := by decide +kernel
theorem dX2_wantersOf_2 : decode cX2_wantersOf 2 = .ok (.iconst 0, 1) := by decide +kernel
theorem dX2_wantersOf_3 : decode cX2_wantersOf 3 = .ok (.istore_n 3, 1) := by decide +kernel
theorem dX2_wantersOf_4 : decode cX2_wantersOf 4 = .ok (.iload_n 3, 1) := by decide +kernel
theorem dX2_wantersOf_5 : decode cX2_wantersOf 5 = .ok (.aload_n 0, 1) := by decide +kernel
theorem dX2_wantersOf_6 : decode cX2_wantersOf 6 = .ok (.getfield 26, 3) := by decide +kernel
theorem dX2_wantersOf_9 : decode cX2_wantersOf 9 = .ok (.if_icmp .ge 24, 3) := by decide +kernel
theorem dX2_wantersOf_12 : decode cX2_wantersOf 12 = .ok (.aload_n 0, 1) := by decide +kernel
theorem dX2_wantersOf_13 : decode cX2_wantersOf 13 = .ok (.iload_n 3, 1) := by decide +kernel
theorem dX2_wantersOf_14 : decode cX2_wantersOf 14 = .ok (.invokevirtual 74, 3) := by decide +kernel
theorem dX2_wantersOf_17 : decode cX2_wantersOf 17 = .ok (.iload_n 1, 1) := by decide +kernel
theorem dX2_wantersOf_18 : decode cX2_wantersOf 18 = .ok (.if_icmp .ne 9, 3) := by decide +kernel
theorem dX2_wantersOf_21 : decode cX2_wantersOf 21 = .ok (.iload_n 2, 1) := by decide +kernel
theorem dX2_wantersOf_22 : decode cX2_wantersOf 22 = .ok (.iconst 1, 1) := by decide +kernel
theorem dX2_wantersOf_23 : decode cX2_wantersOf 23 = .ok (.iload_n 3, 1) := by decide +kernel
theorem dX2_wantersOf_24 : decode cX2_wantersOf 24 = .ok (.ishl, 1) := by decide +kernel
theorem dX2_wantersOf_25 : decode cX2_wantersOf 25 = .ok (.ior, 1) := by decide +kernel
theorem dX2_wantersOf_26 : decode cX2_wantersOf 26 = .ok (.istore_n 2, 1) := by decide +kernel
theorem dX2_wantersOf_27 : decode cX2_wantersOf 27 = .ok (.iinc 3 1, 3) := by decide +kernel
theorem dX2_wantersOf_30 : decode cX2_wantersOf 30 = .ok (.goto (-26), 3) := by decide +kernel
theorem dX2_wantersOf_33 : decode cX2_wantersOf 33 = .ok (.iload_n 2, 1) := by decide +kernel
theorem dX2_wantersOf_34 : decode cX2_wantersOf 34 = .ok (.ireturn, 1) := by decide +kernel
theorem dX2_ownGain_0 : decode cX2_ownGain 0 = .ok (.aload_n 0, 1) := by decide +kernel
theorem dX2_ownGain_1 : decode cX2_ownGain 1 = .ok (.getfield 16, 3) := by decide +kernel
theorem dX2_ownGain_4 : decode cX2_ownGain 4 = .ok (.iload_n 1, 1) := by decide +kernel
theorem dX2_ownGain_5 : decode cX2_ownGain 5 = .ok (.iaload, 1) := by decide +kernel
theorem dX2_ownGain_6 : decode cX2_ownGain 6 = .ok (.istore_n 2, 1) := by decide +kernel
theorem dX2_ownGain_7 : decode cX2_ownGain 7 = .ok (.iload_n 2, 1) := by decide +kernel
theorem dX2_ownGain_8 : decode cX2_ownGain 8 = .ok (.ifCond .ge 7, 3) := by decide +kernel
theorem dX2_ownGain_11 : decode cX2_ownGain 11 = .ok (.iconst 0, 1) := by decide +kernel
theorem dX2_ownGain_12 : decode cX2_ownGain 12 = .ok (.goto 9, 3) := by decide +kernel
theorem dX2_ownGain_15 : decode cX2_ownGain 15 = .ok (.aload_n 0, 1) := by decide +kernel
theorem dX2_ownGain_16 : decode cX2_ownGain 16 = .ok (.iload_n 1, 1) := by decide +kernel
theorem dX2_ownGain_17 : decode cX2_ownGain 17 = .ok (.iload_n 2, 1) := by decide +kernel
theorem dX2_ownGain_18 : decode cX2_ownGain 18 = .ok (.invokevirtual 63, 3) := by decide +kernel
theorem dX2_ownGain_21 : decode cX2_ownGain 21 = .ok (.ireturn, 1) := by decide +kernel
theorem dX2_envyOf_0 : decode cX2_envyOf 0 = .ok (.iconst 0, 1) := by decide +kernel
theorem dX2_envyOf_1 : decode cX2_envyOf 1 = .ok (.istore_n 2, 1) := by decide +kernel
theorem dX2_envyOf_2 : decode cX2_envyOf 2 = .ok (.iconst 0, 1) := by decide +kernel
theorem dX2_envyOf_3 : decode cX2_envyOf 3 = .ok (.istore_n 3, 1) := by decide +kernel
theorem dX2_envyOf_4 : decode cX2_envyOf 4 = .ok (.iload_n 3, 1) := by decide +kernel
theorem dX2_envyOf_5 : decode cX2_envyOf 5 = .ok (.aload_n 0, 1) := by decide +kernel
theorem dX2_envyOf_6 : decode cX2_envyOf 6 = .ok (.getfield 26, 3) := by decide +kernel
theorem dX2_envyOf_9 : decode cX2_envyOf 9 = .ok (.if_icmp .ge 35, 3) := by decide +kernel
theorem dX2_envyOf_12 : decode cX2_envyOf 12 = .ok (.aload_n 0, 1) := by decide +kernel
theorem dX2_envyOf_13 : decode cX2_envyOf 13 = .ok (.iload_n 1, 1) := by decide +kernel
theorem dX2_envyOf_14 : decode cX2_envyOf 14 = .ok (.iload_n 3, 1) := by decide +kernel
theorem dX2_envyOf_15 : decode cX2_envyOf 15 = .ok (.invokevirtual 59, 3) := by decide +kernel
theorem dX2_envyOf_18 : decode cX2_envyOf 18 = .ok (.ifCond .eq 20, 3) := by decide +kernel
theorem dX2_envyOf_21 : decode cX2_envyOf 21 = .ok (.aload_n 0, 1) := by decide +kernel
theorem dX2_envyOf_22 : decode cX2_envyOf 22 = .ok (.iload_n 1, 1) := by decide +kernel
theorem dX2_envyOf_23 : decode cX2_envyOf 23 = .ok (.iload_n 3, 1) := by decide +kernel
theorem dX2_envyOf_24 : decode cX2_envyOf 24 = .ok (.invokevirtual 63, 3) := by decide +kernel
theorem dX2_envyOf_27 : decode cX2_envyOf 27 = .ok (.aload_n 0, 1) := by decide +kernel
theorem dX2_envyOf_28 : decode cX2_envyOf 28 = .ok (.iload_n 1, 1) := by decide +kernel
theorem dX2_envyOf_29 : decode cX2_envyOf 29 = .ok (.invokevirtual 91, 3) := by decide +kernel
theorem dX2_envyOf_32 : decode cX2_envyOf 32 = .ok (.if_icmp .le 6, 3) := by decide +kernel
theorem dX2_envyOf_35 : decode cX2_envyOf 35 = .ok (.iinc 2 1, 3) := by decide +kernel
theorem dX2_envyOf_38 : decode cX2_envyOf 38 = .ok (.iinc 3 1, 3) := by decide +kernel
theorem dX2_envyOf_41 : decode cX2_envyOf 41 = .ok (.goto (-37), 3) := by decide +kernel
theorem dX2_envyOf_44 : decode cX2_envyOf 44 = .ok (.iload_n 2, 1) := by decide +kernel
theorem dX2_envyOf_45 : decode cX2_envyOf 45 = .ok (.ireturn, 1) := by decide +kernel
theorem dX2_isSure_0 : decode cX2_isSure 0 = .ok (.iconst 0, 1) := by decide +kernel
theorem dX2_isSure_1 : decode cX2_isSure 1 = .ok (.istore_n 1, 1) := by decide +kernel
theorem dX2_isSure_2 : decode cX2_isSure 2 = .ok (.iload_n 1, 1) := by decide +kernel
theorem dX2_isSure_3 : decode cX2_isSure 3 = .ok (.aload_n 0, 1) := by decide +kernel
theorem dX2_isSure_4 : decode cX2_isSure 4 = .ok (.getfield 26, 3) := by decide +kernel
theorem dX2_isSure_7 : decode cX2_isSure 7 = .ok (.if_icmp .ge 49, 3) := by decide +kernel
theorem dX2_isSure_10 : decode cX2_isSure 10 = .ok (.aload_n 0, 1) := by decide +kernel
theorem dX2_isSure_11 : decode cX2_isSure 11 = .ok (.iload_n 1, 1) := by decide +kernel
theorem dX2_isSure_12 : decode cX2_isSure 12 = .ok (.invokevirtual 74, 3) := by decide +kernel
theorem dX2_isSure_15 : decode cX2_isSure 15 = .ok (.istore_n 2, 1) := by decide +kernel
theorem dX2_isSure_16 : decode cX2_isSure 16 = .ok (.aload_n 0, 1) := by decide +kernel
theorem dX2_isSure_17 : decode cX2_isSure 17 = .ok (.getfield 16, 3) := by decide +kernel
theorem dX2_isSure_20 : decode cX2_isSure 20 = .ok (.iload_n 1, 1) := by decide +kernel
theorem dX2_isSure_21 : decode cX2_isSure 21 = .ok (.iaload, 1) := by decide +kernel
theorem dX2_isSure_22 : decode cX2_isSure 22 = .ok (.ifCond .lt 26, 3) := by decide +kernel
theorem dX2_isSure_25 : decode cX2_isSure 25 = .ok (.iload_n 2, 1) := by decide +kernel
theorem dX2_isSure_26 : decode cX2_isSure 26 = .ok (.ifCond .lt 22, 3) := by decide +kernel
theorem dX2_isSure_29 : decode cX2_isSure 29 = .ok (.aload_n 0, 1) := by decide +kernel
theorem dX2_isSure_30 : decode cX2_isSure 30 = .ok (.iload_n 1, 1) := by decide +kernel
theorem dX2_isSure_31 : decode cX2_isSure 31 = .ok (.iload_n 2, 1) := by decide +kernel
theorem dX2_isSure_32 : decode cX2_isSure 32 = .ok (.invokevirtual 63, 3) := by decide +kernel
theorem dX2_isSure_35 : decode cX2_isSure 35 = .ok (.aload_n 0, 1) := by decide +kernel
theorem dX2_isSure_36 : decode cX2_isSure 36 = .ok (.iload_n 1, 1) := by decide +kernel
theorem dX2_isSure_37 : decode cX2_isSure 37 = .ok (.invokevirtual 91, 3) := by decide +kernel
theorem dX2_isSure_40 : decode cX2_isSure 40 = .ok (.aload_n 0, 1) := by decide +kernel
theorem dX2_isSure_41 : decode cX2_isSure 41 = .ok (.getfield 30, 3) := by decide +kernel
theorem dX2_isSure_44 : decode cX2_isSure 44 = .ok (.iadd, 1) := by decide +kernel
theorem dX2_isSure_45 : decode cX2_isSure 45 = .ok (.if_icmp .le 5, 3) := by decide +kernel
theorem dX2_isSure_48 : decode cX2_isSure 48 = .ok (.iconst 0, 1) := by decide +kernel
theorem dX2_isSure_49 : decode cX2_isSure 49 = .ok (.ireturn, 1) := by decide +kernel
theorem dX2_isSure_50 : decode cX2_isSure 50 = .ok (.iinc 1 1, 3) := by decide +kernel
theorem dX2_isSure_53 : decode cX2_isSure 53 = .ok (.goto (-51), 3) := by decide +kernel
theorem dX2_isSure_56 : decode cX2_isSure 56 = .ok (.iconst 1, 1) := by decide +kernel
theorem dX2_isSure_57 : decode cX2_isSure 57 = .ok (.ireturn, 1) := by decide +kernel
theorem dX2_leastWithout_0 : decode cX2_leastWithout 0 = .ok (.iconst 0, 1) := by decide +kernel
theorem dX2_leastWithout_1 : decode cX2_leastWithout 1 = .ok (.istore_n 1, 1) := by decide +kernel
theorem dX2_leastWithout_2 : decode cX2_leastWithout 2 = .ok (.iload_n 1, 1) := by decide +kernel
theorem dX2_leastWithout_3 : decode cX2_leastWithout 3 = .ok (.aload_n 0, 1) := by decide +kernel
theorem dX2_leastWithout_4 : decode cX2_leastWithout 4 = .ok (.getfield 26, 3) := by decide +kernel
theorem dX2_leastWithout_7 : decode cX2_leastWithout 7 = .ok (.if_icmp .ge 20, 3) := by decide +kernel
theorem dX2_leastWithout_10 : decode cX2_leastWithout 10 = .ok (.aload_n 0, 1) := by decide +kernel
theorem dX2_leastWithout_11 : decode cX2_leastWithout 11 = .ok (.getfield 16, 3) := by decide +kernel
theorem dX2_leastWithout_14 : decode cX2_leastWithout 14 = .ok (.iload_n 1, 1) := by decide +kernel
theorem dX2_leastWithout_15 : decode cX2_leastWithout 15 = .ok (.iaload, 1) := by decide +kernel
theorem dX2_leastWithout_16 : decode cX2_leastWithout 16 = .ok (.ifCond .ge 5, 3) := by decide +kernel
theorem dX2_leastWithout_19 : decode cX2_leastWithout 19 = .ok (.iload_n 1, 1) := by decide +kernel
theorem dX2_leastWithout_20 : decode cX2_leastWithout 20 = .ok (.ireturn, 1) := by decide +kernel
theorem dX2_leastWithout_21 : decode cX2_leastWithout 21 = .ok (.iinc 1 1, 3) := by decide +kernel
theorem dX2_leastWithout_24 : decode cX2_leastWithout 24 = .ok (.goto (-22), 3) := by decide +kernel
theorem dX2_leastWithout_27 : decode cX2_leastWithout 27 = .ok (.iconst (-1), 1) := by decide +kernel
theorem dX2_leastWithout_28 : decode cX2_leastWithout 28 = .ok (.ireturn, 1) := by decide +kernel
theorem dX2_ownersCounted_0 : decode cX2_ownersCounted 0 = .ok (.iconst 0, 1) := by decide +kernel
theorem dX2_ownersCounted_1 : decode cX2_ownersCounted 1 = .ok (.istore_n 1, 1) := by decide +kernel
theorem dX2_ownersCounted_2 : decode cX2_ownersCounted 2 = .ok (.iconst 0, 1) := by decide +kernel
theorem dX2_ownersCounted_3 : decode cX2_ownersCounted 3 = .ok (.istore_n 2, 1) := by decide +kernel
theorem dX2_ownersCounted_4 : decode cX2_ownersCounted 4 = .ok (.iload_n 2, 1) := by decide +kernel
theorem dX2_ownersCounted_5 : decode cX2_ownersCounted 5 = .ok (.aload_n 0, 1) := by decide +kernel
theorem dX2_ownersCounted_6 : decode cX2_ownersCounted 6 = .ok (.getfield 26, 3) := by decide +kernel
theorem dX2_ownersCounted_9 : decode cX2_ownersCounted 9 = .ok (.if_icmp .ge 21, 3) := by decide +kernel
theorem dX2_ownersCounted_12 : decode cX2_ownersCounted 12 = .ok (.aload_n 0, 1) := by decide +kernel
theorem dX2_ownersCounted_13 : decode cX2_ownersCounted 13 = .ok (.getfield 16, 3) := by decide +kernel
theorem dX2_ownersCounted_16 : decode cX2_ownersCounted 16 = .ok (.iload_n 2, 1) := by decide +kernel
theorem dX2_ownersCounted_17 : decode cX2_ownersCounted 17 = .ok (.iaload, 1) := by decide +kernel
theorem dX2_ownersCounted_18 : decode cX2_ownersCounted 18 = .ok (.ifCond .lt 6, 3) := by decide +kernel
theorem dX2_ownersCounted_21 : decode cX2_ownersCounted 21 = .ok (.iinc 1 1, 3) := by decide +kernel
theorem dX2_ownersCounted_24 : decode cX2_ownersCounted 24 = .ok (.iinc 2 1, 3) := by decide +kernel
theorem dX2_ownersCounted_27 : decode cX2_ownersCounted 27 = .ok (.goto (-23), 3) := by decide +kernel
theorem dX2_ownersCounted_30 : decode cX2_ownersCounted 30 = .ok (.iload_n 1, 1) := by decide +kernel
theorem dX2_ownersCounted_31 : decode cX2_ownersCounted 31 = .ok (.ireturn, 1) := by decide +kernel
theorem dX2_worthTogether_0 : decode cX2_worthTogether 0 = .ok (.iconst 0, 1) := by decide +kernel
theorem dX2_worthTogether_1 : decode cX2_worthTogether 1 = .ok (.istore_n 1, 1) := by decide +kernel
theorem dX2_worthTogether_2 : decode cX2_worthTogether 2 = .ok (.iconst 0, 1) := by decide +kernel
theorem dX2_worthTogether_3 : decode cX2_worthTogether 3 = .ok (.istore_n 2, 1) := by decide +kernel
theorem dX2_worthTogether_4 : decode cX2_worthTogether 4 = .ok (.iload_n 2, 1) := by decide +kernel
theorem dX2_worthTogether_5 : decode cX2_worthTogether 5 = .ok (.aload_n 0, 1) := by decide +kernel
theorem dX2_worthTogether_6 : decode cX2_worthTogether 6 = .ok (.getfield 26, 3) := by decide +kernel
theorem dX2_worthTogether_9 : decode cX2_worthTogether 9 = .ok (.if_icmp .ge 34, 3) := by decide +kernel
theorem dX2_worthTogether_12 : decode cX2_worthTogether 12 = .ok (.aload_n 0, 1) := by decide +kernel
theorem dX2_worthTogether_13 : decode cX2_worthTogether 13 = .ok (.getfield 16, 3) := by decide +kernel
theorem dX2_worthTogether_16 : decode cX2_worthTogether 16 = .ok (.iload_n 2, 1) := by decide +kernel
theorem dX2_worthTogether_17 : decode cX2_worthTogether 17 = .ok (.iaload, 1) := by decide +kernel
theorem dX2_worthTogether_18 : decode cX2_worthTogether 18 = .ok (.ifCond .lt 19, 3) := by decide +kernel
theorem dX2_worthTogether_21 : decode cX2_worthTogether 21 = .ok (.iload_n 1, 1) := by decide +kernel
theorem dX2_worthTogether_22 : decode cX2_worthTogether 22 = .ok (.aload_n 0, 1) := by decide +kernel
theorem dX2_worthTogether_23 : decode cX2_worthTogether 23 = .ok (.getfield 11, 3) := by decide +kernel
theorem dX2_worthTogether_26 : decode cX2_worthTogether 26 = .ok (.iload_n 2, 1) := by decide +kernel
theorem dX2_worthTogether_27 : decode cX2_worthTogether 27 = .ok (.aaload, 1) := by decide +kernel
theorem dX2_worthTogether_28 : decode cX2_worthTogether 28 = .ok (.aload_n 0, 1) := by decide +kernel
theorem dX2_worthTogether_29 : decode cX2_worthTogether 29 = .ok (.getfield 16, 3) := by decide +kernel
theorem dX2_worthTogether_32 : decode cX2_worthTogether 32 = .ok (.iload_n 2, 1) := by decide +kernel
theorem dX2_worthTogether_33 : decode cX2_worthTogether 33 = .ok (.iaload, 1) := by decide +kernel
theorem dX2_worthTogether_34 : decode cX2_worthTogether 34 = .ok (.iaload, 1) := by decide +kernel
theorem dX2_worthTogether_35 : decode cX2_worthTogether 35 = .ok (.iadd, 1) := by decide +kernel
theorem dX2_worthTogether_36 : decode cX2_worthTogether 36 = .ok (.istore_n 1, 1) := by decide +kernel
theorem dX2_worthTogether_37 : decode cX2_worthTogether 37 = .ok (.iinc 2 1, 3) := by decide +kernel
theorem dX2_worthTogether_40 : decode cX2_worthTogether 40 = .ok (.goto (-36), 3) := by decide +kernel
theorem dX2_worthTogether_43 : decode cX2_worthTogether 43 = .ok (.iload_n 1, 1) := by decide +kernel
theorem dX2_worthTogether_44 : decode cX2_worthTogether 44 = .ok (.ireturn, 1) := by decide +kernel
theorem dX2_pricesTogether_0 : decode cX2_pricesTogether 0 = .ok (.iconst 0, 1) := by decide +kernel
theorem dX2_pricesTogether_1 : decode cX2_pricesTogether 1 = .ok (.istore_n 1, 1) := by decide +kernel
theorem dX2_pricesTogether_2 : decode cX2_pricesTogether 2 = .ok (.iconst 0, 1) := by decide +kernel
theorem dX2_pricesTogether_3 : decode cX2_pricesTogether 3 = .ok (.istore_n 2, 1) := by decide +kernel
theorem dX2_pricesTogether_4 : decode cX2_pricesTogether 4 = .ok (.iload_n 2, 1) := by decide +kernel
theorem dX2_pricesTogether_5 : decode cX2_pricesTogether 5 = .ok (.aload_n 0, 1) := by decide +kernel
theorem dX2_pricesTogether_6 : decode cX2_pricesTogether 6 = .ok (.getfield 26, 3) := by decide +kernel
theorem dX2_pricesTogether_9 : decode cX2_pricesTogether 9 = .ok (.if_icmp .ge 18, 3) := by decide +kernel
theorem dX2_pricesTogether_12 : decode cX2_pricesTogether 12 = .ok (.iload_n 1, 1) := by decide +kernel
theorem dX2_pricesTogether_13 : decode cX2_pricesTogether 13 = .ok (.aload_n 0, 1) := by decide +kernel
theorem dX2_pricesTogether_14 : decode cX2_pricesTogether 14 = .ok (.getfield 23, 3) := by decide +kernel
theorem dX2_pricesTogether_17 : decode cX2_pricesTogether 17 = .ok (.iload_n 2, 1) := by decide +kernel
theorem dX2_pricesTogether_18 : decode cX2_pricesTogether 18 = .ok (.iaload, 1) := by decide +kernel
theorem dX2_pricesTogether_19 : decode cX2_pricesTogether 19 = .ok (.iadd, 1) := by decide +kernel
theorem dX2_pricesTogether_20 : decode cX2_pricesTogether 20 = .ok (.istore_n 1, 1) := by decide +kernel
theorem dX2_pricesTogether_21 : decode cX2_pricesTogether 21 = .ok (.iinc 2 1, 3) := by decide +kernel
theorem dX2_pricesTogether_24 : decode cX2_pricesTogether 24 = .ok (.goto (-20), 3) := by decide +kernel
theorem dX2_pricesTogether_27 : decode cX2_pricesTogether 27 = .ok (.iload_n 1, 1) := by decide +kernel
theorem dX2_pricesTogether_28 : decode cX2_pricesTogether 28 = .ok (.ireturn, 1) := by decide +kernel
theorem dX2_forbiddenCounted_0 : decode cX2_forbiddenCounted 0 = .ok (.iconst 0, 1) := by decide +kernel
theorem dX2_forbiddenCounted_1 : decode cX2_forbiddenCounted 1 = .ok (.istore_n 1, 1) := by decide +kernel
theorem dX2_forbiddenCounted_2 : decode cX2_forbiddenCounted 2 = .ok (.iconst 0, 1) := by decide +kernel
theorem dX2_forbiddenCounted_3 : decode cX2_forbiddenCounted 3 = .ok (.istore_n 2, 1) := by decide +kernel
theorem dX2_forbiddenCounted_4 : decode cX2_forbiddenCounted 4 = .ok (.iload_n 2, 1) := by decide +kernel
theorem dX2_forbiddenCounted_5 : decode cX2_forbiddenCounted 5 = .ok (.aload_n 0, 1) := by decide +kernel
theorem dX2_forbiddenCounted_6 : decode cX2_forbiddenCounted 6 = .ok (.getfield 26, 3) := by decide +kernel
theorem dX2_forbiddenCounted_9 : decode cX2_forbiddenCounted 9 = .ok (.if_icmp .ge 25, 3) := by decide +kernel
theorem dX2_forbiddenCounted_12 : decode cX2_forbiddenCounted 12 = .ok (.iload_n 1, 1) := by decide +kernel
theorem dX2_forbiddenCounted_13 : decode cX2_forbiddenCounted 13 = .ok (.aload_n 0, 1) := by decide +kernel
theorem dX2_forbiddenCounted_14 : decode cX2_forbiddenCounted 14 = .ok (.getfield 26, 3) := by decide +kernel
theorem dX2_forbiddenCounted_17 : decode cX2_forbiddenCounted 17 = .ok (.aload_n 0, 1) := by decide +kernel
theorem dX2_forbiddenCounted_18 : decode cX2_forbiddenCounted 18 = .ok (.iload_n 2, 1) := by decide +kernel
theorem dX2_forbiddenCounted_19 : decode cX2_forbiddenCounted 19 = .ok (.invokevirtual 94, 3) := by decide +kernel
theorem dX2_forbiddenCounted_22 : decode cX2_forbiddenCounted 22 = .ok (.invokestatic 97, 3) := by decide +kernel
theorem dX2_forbiddenCounted_25 : decode cX2_forbiddenCounted 25 = .ok (.isub, 1) := by decide +kernel
theorem dX2_forbiddenCounted_26 : decode cX2_forbiddenCounted 26 = .ok (.iadd, 1) := by decide +kernel
theorem dX2_forbiddenCounted_27 : decode cX2_forbiddenCounted 27 = .ok (.istore_n 1, 1) := by decide +kernel
theorem dX2_forbiddenCounted_28 : decode cX2_forbiddenCounted 28 = .ok (.iinc 2 1, 3) := by decide +kernel
theorem dX2_forbiddenCounted_31 : decode cX2_forbiddenCounted 31 = .ok (.goto (-27), 3) := by decide +kernel
theorem dX2_forbiddenCounted_34 : decode cX2_forbiddenCounted 34 = .ok (.iload_n 1, 1) := by decide +kernel
theorem dX2_forbiddenCounted_35 : decode cX2_forbiddenCounted 35 = .ok (.ireturn, 1) := by decide +kernel
theorem dX3_init_0 : decode cX3_init 0 = .ok (.aload_n 0, 1) := by decide +kernel
theorem dX3_init_1 : decode cX3_init 1 = .ok (.invokespecial 3, 3) := by decide +kernel
theorem dX3_init_4 : decode cX3_init 4 = .ok (.aload_n 0, 1) := by decide +kernel
theorem dX3_init_5 : decode cX3_init 5 = .ok (.sipush 256, 3) := by decide +kernel
theorem dX3_init_8 : decode cX3_init 8 = .ok (.newarray .int, 2) := by decide +kernel
theorem dX3_init_10 : decode cX3_init 10 = .ok (.putfield 9, 3) := by decide +kernel
theorem dX3_init_13 : decode cX3_init 13 = .ok (.return_, 1) := by decide +kernel
theorem dX3_mostWorth_0 : decode cX3_mostWorth 0 = .ok (.iconst 1, 1) := by decide +kernel
theorem dX3_mostWorth_1 : decode cX3_mostWorth 1 = .ok (.aload_n 1, 1) := by decide +kernel
theorem dX3_mostWorth_2 : decode cX3_mostWorth 2 = .ok (.getfield 15, 3) := by decide +kernel
theorem dX3_mostWorth_5 : decode cX3_mostWorth 5 = .ok (.ishl, 1) := by decide +kernel
theorem dX3_mostWorth_6 : decode cX3_mostWorth 6 = .ok (.istore_n 2, 1) := by decide +kernel
theorem dX3_mostWorth_7 : decode cX3_mostWorth 7 = .ok (.aload_n 0, 1) := by decide +kernel
theorem dX3_mostWorth_8 : decode cX3_mostWorth 8 = .ok (.getfield 9, 3) := by decide +kernel
theorem dX3_mostWorth_11 : decode cX3_mostWorth 11 = .ok (.iconst 0, 1) := by decide +kernel
theorem dX3_mostWorth_12 : decode cX3_mostWorth 12 = .ok (.iconst 0, 1) := by decide +kernel
theorem dX3_mostWorth_13 : decode cX3_mostWorth 13 = .ok (.iastore, 1) := by decide +kernel
theorem dX3_mostWorth_14 : decode cX3_mostWorth 14 = .ok (.iconst 1, 1) := by decide +kernel
theorem dX3_mostWorth_15 : decode cX3_mostWorth 15 = .ok (.istore_n 3, 1) := by decide +kernel
theorem dX3_mostWorth_16 : decode cX3_mostWorth 16 = .ok (.iload_n 3, 1) := by decide +kernel
theorem dX3_mostWorth_17 : decode cX3_mostWorth 17 = .ok (.iload_n 2, 1) := by decide +kernel
theorem dX3_mostWorth_18 : decode cX3_mostWorth 18 = .ok (.if_icmp .ge 21, 3) := by decide +kernel
theorem dX3_mostWorth_21 : decode cX3_mostWorth 21 = .ok (.aload_n 0, 1) := by decide +kernel
theorem dX3_mostWorth_22 : decode cX3_mostWorth 22 = .ok (.getfield 9, 3) := by decide +kernel
theorem dX3_mostWorth_25 : decode cX3_mostWorth 25 = .ok (.iload_n 3, 1) := by decide +kernel
theorem dX3_mostWorth_26 : decode cX3_mostWorth 26 = .ok (.aload_n 0, 1) := by decide +kernel
theorem dX3_mostWorth_27 : decode cX3_mostWorth 27 = .ok (.aload_n 1, 1) := by decide +kernel
theorem dX3_mostWorth_28 : decode cX3_mostWorth 28 = .ok (.iload_n 3, 1) := by decide +kernel
theorem dX3_mostWorth_29 : decode cX3_mostWorth 29 = .ok (.invokevirtual 21, 3) := by decide +kernel
theorem dX3_mostWorth_32 : decode cX3_mostWorth 32 = .ok (.iastore, 1) := by decide +kernel
theorem dX3_mostWorth_33 : decode cX3_mostWorth 33 = .ok (.iinc 3 1, 3) := by decide +kernel
theorem dX3_mostWorth_36 : decode cX3_mostWorth 36 = .ok (.goto (-20), 3) := by decide +kernel
theorem dX3_mostWorth_39 : decode cX3_mostWorth 39 = .ok (.aload_n 0, 1) := by decide +kernel
theorem dX3_mostWorth_40 : decode cX3_mostWorth 40 = .ok (.getfield 9, 3) := by decide +kernel
theorem dX3_mostWorth_43 : decode cX3_mostWorth 43 = .ok (.iload_n 2, 1) := by decide +kernel
theorem dX3_mostWorth_44 : decode cX3_mostWorth 44 = .ok (.iconst 1, 1) := by decide +kernel
theorem dX3_mostWorth_45 : decode cX3_mostWorth 45 = .ok (.isub, 1) := by decide +kernel
theorem dX3_mostWorth_46 : decode cX3_mostWorth 46 = .ok (.iaload, 1) := by decide +kernel
theorem dX3_mostWorth_47 : decode cX3_mostWorth 47 = .ok (.ireturn, 1) := by decide +kernel
theorem dX3_mostOfSet_0 : decode cX3_mostOfSet 0 = .ok (.iload_n 2, 1) := by decide +kernel
theorem dX3_mostOfSet_1 : decode cX3_mostOfSet 1 = .ok (.invokestatic 25, 3) := by decide +kernel
theorem dX3_mostOfSet_4 : decode cX3_mostOfSet 4 = .ok (.iconst 1, 1) := by decide +kernel
theorem dX3_mostOfSet_5 : decode cX3_mostOfSet 5 = .ok (.isub, 1) := by decide +kernel
theorem dX3_mostOfSet_6 : decode cX3_mostOfSet 6 = .ok (.istore_n 3, 1) := by decide +kernel
theorem dX3_mostOfSet_7 : decode cX3_mostOfSet 7 = .ok (.bipush (-5), 2) := by decide +kernel
theorem dX3_mostOfSet_9 : decode cX3_mostOfSet 9 = .ok (.istore 4, 2) := by decide +kernel
theorem dX3_mostOfSet_11 : decode cX3_mostOfSet 11 = .ok (.iconst 0, 1) := by decide +kernel
theorem dX3_mostOfSet_12 : decode cX3_mostOfSet 12 = .ok (.istore 5, 2) := by decide +kernel
theorem dX3_mostOfSet_14 : decode cX3_mostOfSet 14 = .ok (.iload 5, 2) := by decide +kernel
theorem dX3_mostOfSet_16 : decode cX3_mostOfSet 16 = .ok (.aload_n 1, 1) := by decide +kernel
theorem dX3_mostOfSet_17 : decode cX3_mostOfSet 17 = .ok (.getfield 15, 3) := by decide +kernel
theorem dX3_mostOfSet_20 : decode cX3_mostOfSet 20 = .ok (.if_icmp .ge 70, 3) := by decide +kernel
theorem dX3_mostOfSet_23 : decode cX3_mostOfSet 23 = .ok (.iconst 1, 1) := by decide +kernel
theorem dX3_mostOfSet_24 : decode cX3_mostOfSet 24 = .ok (.iload 5, 2) := by decide +kernel
theorem dX3_mostOfSet_26 : decode cX3_mostOfSet 26 = .ok (.ishl, 1) := by decide +kernel
theorem dX3_mostOfSet_27 : decode cX3_mostOfSet 27 = .ok (.istore 6, 2) := by decide +kernel
theorem dX3_mostOfSet_29 : decode cX3_mostOfSet 29 = .ok (.iload_n 2, 1) := by decide +kernel
theorem dX3_mostOfSet_30 : decode cX3_mostOfSet 30 = .ok (.iload 6, 2) := by decide +kernel
theorem dX3_mostOfSet_32 : decode cX3_mostOfSet 32 = .ok (.iand, 1) := by decide +kernel
theorem dX3_mostOfSet_33 : decode cX3_mostOfSet 33 = .ok (.ifCond .eq 51, 3) := by decide +kernel
theorem dX3_mostOfSet_36 : decode cX3_mostOfSet 36 = .ok (.aload_n 1, 1) := by decide +kernel
theorem dX3_mostOfSet_37 : decode cX3_mostOfSet 37 = .ok (.iload_n 3, 1) := by decide +kernel
theorem dX3_mostOfSet_38 : decode cX3_mostOfSet 38 = .ok (.iload 5, 2) := by decide +kernel
theorem dX3_mostOfSet_40 : decode cX3_mostOfSet 40 = .ok (.invokevirtual 31, 3) := by decide +kernel
theorem dX3_mostOfSet_43 : decode cX3_mostOfSet 43 = .ok (.ifCond .eq 41, 3) := by decide +kernel
theorem dX3_mostOfSet_46 : decode cX3_mostOfSet 46 = .ok (.aload_n 0, 1) := by decide +kernel
theorem dX3_mostOfSet_47 : decode cX3_mostOfSet 47 = .ok (.getfield 9, 3) := by decide +kernel
theorem dX3_mostOfSet_50 : decode cX3_mostOfSet 50 = .ok (.iload_n 2, 1) := by decide +kernel
theorem dX3_mostOfSet_51 : decode cX3_mostOfSet 51 = .ok (.iload 6, 2) := by decide +kernel
theorem dX3_mostOfSet_53 : decode cX3_mostOfSet 53 = .ok (.ixor, 1) := by decide +kernel
theorem dX3_mostOfSet_54 : decode cX3_mostOfSet 54 = .ok (.iaload, 1) := by decide +kernel
theorem dX3_mostOfSet_55 : decode cX3_mostOfSet 55 = .ok (.ifCond .lt 29, 3) := by decide +kernel
theorem dX3_mostOfSet_58 : decode cX3_mostOfSet 58 = .ok (.iload 4, 2) := by decide +kernel
theorem dX3_mostOfSet_60 : decode cX3_mostOfSet 60 = .ok (.aload_n 0, 1) := by decide +kernel
theorem dX3_mostOfSet_61 : decode cX3_mostOfSet 61 = .ok (.getfield 9, 3) := by decide +kernel
theorem dX3_mostOfSet_64 : decode cX3_mostOfSet 64 = .ok (.iload_n 2, 1) := by decide +kernel
theorem dX3_mostOfSet_65 : decode cX3_mostOfSet 65 = .ok (.iload 6, 2) := by decide +kernel
theorem dX3_mostOfSet_67 : decode cX3_mostOfSet 67 = .ok (.ixor, 1) := by decide +kernel
theorem dX3_mostOfSet_68 : decode cX3_mostOfSet 68 = .ok (.iaload, 1) := by decide +kernel
theorem dX3_mostOfSet_69 : decode cX3_mostOfSet 69 = .ok (.aload_n 1, 1) := by decide +kernel
theorem dX3_mostOfSet_70 : decode cX3_mostOfSet 70 = .ok (.getfield 35, 3) := by decide +kernel
theorem dX3_mostOfSet_73 : decode cX3_mostOfSet 73 = .ok (.iload_n 3, 1) := by decide +kernel
theorem dX3_mostOfSet_74 : decode cX3_mostOfSet 74 = .ok (.aaload, 1) := by decide +kernel
theorem dX3_mostOfSet_75 : decode cX3_mostOfSet 75 = .ok (.iload 5, 2) := by decide +kernel
theorem dX3_mostOfSet_77 : decode cX3_mostOfSet 77 = .ok (.iaload, 1) := by decide +kernel
theorem dX3_mostOfSet_78 : decode cX3_mostOfSet 78 = .ok (.iadd, 1) := by decide +kernel
theorem dX3_mostOfSet_79 : decode cX3_mostOfSet 79 = .ok (.invokestatic 39, 3) := by decide +kernel
theorem dX3_mostOfSet_82 : decode cX3_mostOfSet 82 = .ok (.istore 4, 2) := by decide +kernel
theorem dX3_mostOfSet_84 : decode cX3_mostOfSet 84 = .ok (.iinc 5 1, 3) := by decide +kernel
theorem dX3_mostOfSet_87 : decode cX3_mostOfSet 87 = .ok (.goto (-73), 3) := by decide +kernel
theorem dX3_mostOfSet_90 : decode cX3_mostOfSet 90 = .ok (.iload 4, 2) := by decide +kernel
theorem dX3_mostOfSet_92 : decode cX3_mostOfSet 92 = .ok (.ireturn, 1) := by decide +kernel
theorem dX3_leastLacking_0 : decode cX3_leastLacking 0 = .ok (.iconst 0, 1) := by decide +kernel
theorem dX3_leastLacking_1 : decode cX3_leastLacking 1 = .ok (.istore_n 2, 1) := by decide +kernel
theorem dX3_leastLacking_2 : decode cX3_leastLacking 2 = .ok (.iconst 1, 1) := by decide +kernel
theorem dX3_leastLacking_3 : decode cX3_leastLacking 3 = .ok (.aload_n 1, 1) := by decide +kernel
theorem dX3_leastLacking_4 : decode cX3_leastLacking 4 = .ok (.getfield 15, 3) := by decide +kernel
theorem dX3_leastLacking_7 : decode cX3_leastLacking 7 = .ok (.ishl, 1) := by decide +kernel
theorem dX3_leastLacking_8 : decode cX3_leastLacking 8 = .ok (.istore_n 3, 1) := by decide +kernel
theorem dX3_leastLacking_9 : decode cX3_leastLacking 9 = .ok (.iconst 1, 1) := by decide +kernel
theorem dX3_leastLacking_10 : decode cX3_leastLacking 10 = .ok (.istore 4, 2) := by decide +kernel
theorem dX3_leastLacking_12 : decode cX3_leastLacking 12 = .ok (.iload 4, 2) := by decide +kernel
theorem dX3_leastLacking_14 : decode cX3_leastLacking 14 = .ok (.iload_n 3, 1) := by decide +kernel
theorem dX3_leastLacking_15 : decode cX3_leastLacking 15 = .ok (.if_icmp .ge 59, 3) := by decide +kernel
theorem dX3_leastLacking_18 : decode cX3_leastLacking 18 = .ok (.iload 4, 2) := by decide +kernel
theorem dX3_leastLacking_20 : decode cX3_leastLacking 20 = .ok (.invokestatic 25, 3) := by decide +kernel
theorem dX3_leastLacking_23 : decode cX3_leastLacking 23 = .ok (.istore 5, 2) := by decide +kernel
theorem dX3_leastLacking_25 : decode cX3_leastLacking 25 = .ok (.iload_n 2, 1) := by decide +kernel
theorem dX3_leastLacking_26 : decode cX3_leastLacking 26 = .ok (.ifCond .eq 12, 3) := by decide +kernel
theorem dX3_leastLacking_29 : decode cX3_leastLacking 29 = .ok (.iload 5, 2) := by decide +kernel
theorem dX3_leastLacking_31 : decode cX3_leastLacking 31 = .ok (.iload_n 2, 1) := by decide +kernel
theorem dX3_leastLacking_32 : decode cX3_leastLacking 32 = .ok (.invokestatic 25, 3) := by decide +kernel
theorem dX3_leastLacking_35 : decode cX3_leastLacking 35 = .ok (.if_icmp .ge 7, 3) := by decide +kernel
theorem dX3_leastLacking_38 : decode cX3_leastLacking 38 = .ok (.iconst 1, 1) := by decide +kernel
theorem dX3_leastLacking_39 : decode cX3_leastLacking 39 = .ok (.goto 4, 3) := by decide +kernel
theorem dX3_leastLacking_42 : decode cX3_leastLacking 42 = .ok (.iconst 0, 1) := by decide +kernel
theorem dX3_leastLacking_43 : decode cX3_leastLacking 43 = .ok (.istore 6, 2) := by decide +kernel
theorem dX3_leastLacking_45 : decode cX3_leastLacking 45 = .ok (.iload 6, 2) := by decide +kernel
theorem dX3_leastLacking_47 : decode cX3_leastLacking 47 = .ok (.ifCond .eq 21, 3) := by decide +kernel
theorem dX3_leastLacking_50 : decode cX3_leastLacking 50 = .ok (.aload_n 0, 1) := by decide +kernel
theorem dX3_leastLacking_51 : decode cX3_leastLacking 51 = .ok (.aload_n 1, 1) := by decide +kernel
theorem dX3_leastLacking_52 : decode cX3_leastLacking 52 = .ok (.iload 4, 2) := by decide +kernel
theorem dX3_leastLacking_54 : decode cX3_leastLacking 54 = .ok (.invokevirtual 45, 3) := by decide +kernel
theorem dX3_leastLacking_57 : decode cX3_leastLacking 57 = .ok (.invokestatic 25, 3) := by decide +kernel
theorem dX3_leastLacking_60 : decode cX3_leastLacking 60 = .ok (.iload 5, 2) := by decide +kernel
theorem dX3_leastLacking_62 : decode cX3_leastLacking 62 = .ok (.if_icmp .ge 6, 3) := by decide +kernel
theorem dX3_leastLacking_65 : decode cX3_leastLacking 65 = .ok (.iload 4, 2) := by decide +kernel
theorem dX3_leastLacking_67 : decode cX3_leastLacking 67 = .ok (.istore_n 2, 1) := by decide +kernel
theorem dX3_leastLacking_68 : decode cX3_leastLacking 68 = .ok (.iinc 4 1, 3) := by decide +kernel
theorem dX3_leastLacking_71 : decode cX3_leastLacking 71 = .ok (.goto (-59), 3) := by decide +kernel
theorem dX3_leastLacking_74 : decode cX3_leastLacking 74 = .ok (.iload_n 2, 1) := by decide +kernel
theorem dX3_leastLacking_75 : decode cX3_leastLacking 75 = .ok (.ireturn, 1) := by decide +kernel
theorem dX3_allowedToSome_0 : decode cX3_allowedToSome 0 = .ok (.iconst 0, 1) := by decide +kernel
theorem dX3_allowedToSome_1 : decode cX3_allowedToSome 1 = .ok (.istore_n 3, 1) := by decide +kernel
theorem dX3_allowedToSome_2 : decode cX3_allowedToSome 2 = .ok (.iconst 0, 1) := by decide +kernel
theorem dX3_allowedToSome_3 : decode cX3_allowedToSome 3 = .ok (.istore 4, 2) := by decide +kernel
theorem dX3_allowedToSome_5 : decode cX3_allowedToSome 5 = .ok (.iload 4, 2) := by decide +kernel
theorem dX3_allowedToSome_7 : decode cX3_allowedToSome 7 = .ok (.aload_n 1, 1) := by decide +kernel
theorem dX3_allowedToSome_8 : decode cX3_allowedToSome 8 = .ok (.getfield 15, 3) := by decide +kernel
theorem dX3_allowedToSome_11 : decode cX3_allowedToSome 11 = .ok (.if_icmp .ge 27, 3) := by decide +kernel
theorem dX3_allowedToSome_14 : decode cX3_allowedToSome 14 = .ok (.iload_n 2, 1) := by decide +kernel
theorem dX3_allowedToSome_15 : decode cX3_allowedToSome 15 = .ok (.iconst 1, 1) := by decide +kernel
theorem dX3_allowedToSome_16 : decode cX3_allowedToSome 16 = .ok (.iload 4, 2) := by decide +kernel
theorem dX3_allowedToSome_18 : decode cX3_allowedToSome 18 = .ok (.ishl, 1) := by decide +kernel
theorem dX3_allowedToSome_19 : decode cX3_allowedToSome 19 = .ok (.iand, 1) := by decide +kernel
theorem dX3_allowedToSome_20 : decode cX3_allowedToSome 20 = .ok (.ifCond .eq 12, 3) := by decide +kernel
theorem dX3_allowedToSome_23 : decode cX3_allowedToSome 23 = .ok (.iload_n 3, 1) := by decide +kernel
theorem dX3_allowedToSome_24 : decode cX3_allowedToSome 24 = .ok (.aload_n 1, 1) := by decide +kernel
theorem dX3_allowedToSome_25 : decode cX3_allowedToSome 25 = .ok (.iload 4, 2) := by decide +kernel
theorem dX3_allowedToSome_27 : decode cX3_allowedToSome 27 = .ok (.invokevirtual 48, 3) := by decide +kernel
theorem dX3_allowedToSome_30 : decode cX3_allowedToSome 30 = .ok (.ior, 1) := by decide +kernel
theorem dX3_allowedToSome_31 : decode cX3_allowedToSome 31 = .ok (.istore_n 3, 1) := by decide +kernel
theorem dX3_allowedToSome_32 : decode cX3_allowedToSome 32 = .ok (.iinc 4 1, 3) := by decide +kernel
theorem dX3_allowedToSome_35 : decode cX3_allowedToSome 35 = .ok (.goto (-30), 3) := by decide +kernel
theorem dX3_allowedToSome_38 : decode cX3_allowedToSome 38 = .ok (.iload_n 3, 1) := by decide +kernel
theorem dX3_allowedToSome_39 : decode cX3_allowedToSome 39 = .ok (.ireturn, 1) := by decide +kernel
theorem dX4_init_0 : decode cX4_init 0 = .ok (.aload_n 0, 1) := by decide +kernel
theorem dX4_init_1 : decode cX4_init 1 = .ok (.invokespecial 3, 3) := by decide +kernel
theorem dX4_init_4 : decode cX4_init 4 = .ok (.aload_n 0, 1) := by decide +kernel
theorem dX4_init_5 : decode cX4_init 5 = .ok (.iconst 0, 1) := by decide +kernel
theorem dX4_init_6 : decode cX4_init 6 = .ok (.putfield 9, 3) := by decide +kernel
theorem dX4_init_9 : decode cX4_init 9 = .ok (.aload_n 0, 1) := by decide +kernel
theorem dX4_init_10 : decode cX4_init 10 = .ok (.iload_n 1, 1) := by decide +kernel
theorem dX4_init_11 : decode cX4_init 11 = .ok (.newarray .int, 2) := by decide +kernel
theorem dX4_init_13 : decode cX4_init 13 = .ok (.putfield 15, 3) := by decide +kernel
theorem dX4_init_16 : decode cX4_init 16 = .ok (.aload_n 0, 1) := by decide +kernel
theorem dX4_init_17 : decode cX4_init 17 = .ok (.iload_n 1, 1) := by decide +kernel
theorem dX4_init_18 : decode cX4_init 18 = .ok (.newarray .int, 2) := by decide +kernel
theorem dX4_init_20 : decode cX4_init 20 = .ok (.putfield 19, 3) := by decide +kernel
theorem dX4_init_23 : decode cX4_init 23 = .ok (.return_, 1) := by decide +kernel
theorem dX4_empty_0 : decode cX4_empty 0 = .ok (.aload_n 0, 1) := by decide +kernel
theorem dX4_empty_1 : decode cX4_empty 1 = .ok (.iconst 0, 1) := by decide +kernel
theorem dX4_empty_2 : decode cX4_empty 2 = .ok (.putfield 9, 3) := by decide +kernel
theorem dX4_empty_5 : decode cX4_empty 5 = .ok (.aload_n 0, 1) := by decide +kernel
theorem dX4_empty_6 : decode cX4_empty 6 = .ok (.getfield 9, 3) := by decide +kernel
theorem dX4_empty_9 : decode cX4_empty 9 = .ok (.ireturn, 1) := by decide +kernel
theorem dX4_append_0 : decode cX4_append 0 = .ok (.aload_n 0, 1) := by decide +kernel
theorem dX4_append_1 : decode cX4_append 1 = .ok (.getfield 9, 3) := by decide +kernel
theorem dX4_append_4 : decode cX4_append 4 = .ok (.aload_n 0, 1) := by decide +kernel
theorem dX4_append_5 : decode cX4_append 5 = .ok (.getfield 15, 3) := by decide +kernel
theorem dX4_append_8 : decode cX4_append 8 = .ok (.arraylength, 1) := by decide +kernel
theorem dX4_append_9 : decode cX4_append 9 = .ok (.if_icmp .lt 6, 3) := by decide +kernel
theorem dX4_append_12 : decode cX4_append 12 = .ok (.bipush (-4), 2) := by decide +kernel
theorem dX4_append_14 : decode cX4_append 14 = .ok (.ireturn, 1) := by decide +kernel
theorem dX4_append_15 : decode cX4_append 15 = .ok (.aload_n 0, 1) := by decide +kernel
theorem dX4_append_16 : decode cX4_append 16 = .ok (.getfield 15, 3) := by decide +kernel
theorem dX4_append_19 : decode cX4_append 19 = .ok (.aload_n 0, 1) := by decide +kernel
theorem dX4_append_20 : decode cX4_append 20 = .ok (.getfield 9, 3) := by decide +kernel
theorem dX4_append_23 : decode cX4_append 23 = .ok (.iload_n 1, 1) := by decide +kernel
theorem dX4_append_24 : decode cX4_append 24 = .ok (.iastore, 1) := by decide +kernel
theorem dX4_append_25 : decode cX4_append 25 = .ok (.aload_n 0, 1) := by decide +kernel
theorem dX4_append_26 : decode cX4_append 26 = .ok (.getfield 19, 3) := by decide +kernel
theorem dX4_append_29 : decode cX4_append 29 = .ok (.aload_n 0, 1) := by decide +kernel
theorem dX4_append_30 : decode cX4_append 30 = .ok (.getfield 9, 3) := by decide +kernel
theorem dX4_append_33 : decode cX4_append 33 = .ok (.iload_n 2, 1) := by decide +kernel
theorem dX4_append_34 : decode cX4_append 34 = .ok (.iastore, 1) := by decide +kernel
theorem dX4_append_35 : decode cX4_append 35 = .ok (.aload_n 0, 1) := by decide +kernel
theorem dX4_append_36 : decode cX4_append 36 = .ok (.dup, 1) := by decide +kernel
theorem dX4_append_37 : decode cX4_append 37 = .ok (.getfield 9, 3) := by decide +kernel
theorem dX4_append_40 : decode cX4_append 40 = .ok (.iconst 1, 1) := by decide +kernel
theorem dX4_append_41 : decode cX4_append 41 = .ok (.iadd, 1) := by decide +kernel
theorem dX4_append_42 : decode cX4_append 42 = .ok (.putfield 9, 3) := by decide +kernel
theorem dX4_append_45 : decode cX4_append 45 = .ok (.aload_n 0, 1) := by decide +kernel
theorem dX4_append_46 : decode cX4_append 46 = .ok (.getfield 9, 3) := by decide +kernel
theorem dX4_append_49 : decode cX4_append 49 = .ok (.ireturn, 1) := by decide +kernel
theorem dX4_become_0 : decode cX4_become 0 = .ok (.aload_n 0, 1) := by decide +kernel
theorem dX4_become_1 : decode cX4_become 1 = .ok (.aload_n 1, 1) := by decide +kernel
theorem dX4_become_2 : decode cX4_become 2 = .ok (.getfield 9, 3) := by decide +kernel
theorem dX4_become_5 : decode cX4_become 5 = .ok (.aload_n 0, 1) := by decide +kernel
theorem dX4_become_6 : decode cX4_become 6 = .ok (.getfield 15, 3) := by decide +kernel
theorem dX4_become_9 : decode cX4_become 9 = .ok (.arraylength, 1) := by decide +kernel
theorem dX4_become_10 : decode cX4_become 10 = .ok (.invokestatic 22, 3) := by decide +kernel
theorem dX4_become_13 : decode cX4_become 13 = .ok (.putfield 9, 3) := by decide +kernel
theorem dX4_become_16 : decode cX4_become 16 = .ok (.aload_n 1, 1) := by decide +kernel
theorem dX4_become_17 : decode cX4_become 17 = .ok (.getfield 15, 3) := by decide +kernel
theorem dX4_become_20 : decode cX4_become 20 = .ok (.iconst 0, 1) := by decide +kernel
theorem dX4_become_21 : decode cX4_become 21 = .ok (.aload_n 0, 1) := by decide +kernel
theorem dX4_become_22 : decode cX4_become 22 = .ok (.getfield 15, 3) := by decide +kernel
theorem dX4_become_25 : decode cX4_become 25 = .ok (.iconst 0, 1) := by decide +kernel
theorem dX4_become_26 : decode cX4_become 26 = .ok (.aload_n 0, 1) := by decide +kernel
theorem dX4_become_27 : decode cX4_become 27 = .ok (.getfield 9, 3) := by decide +kernel
theorem dX4_become_30 : decode cX4_become 30 = .ok (.invokestatic 28, 3) := by decide +kernel
theorem dX4_become_33 : decode cX4_become 33 = .ok (.aload_n 1, 1) := by decide +kernel
theorem dX4_become_34 : decode cX4_become 34 = .ok (.getfield 19, 3) := by decide +kernel
theorem dX4_become_37 : decode cX4_become 37 = .ok (.iconst 0, 1) := by decide +kernel
theorem dX4_become_38 : decode cX4_become 38 = .ok (.aload_n 0, 1) := by decide +kernel
theorem dX4_become_39 : decode cX4_become 39 = .ok (.getfield 19, 3) := by decide +kernel
theorem dX4_become_42 : decode cX4_become 42 = .ok (.iconst 0, 1) := by decide +kernel
theorem dX4_become_43 : decode cX4_become 43 = .ok (.aload_n 0, 1) := by decide +kernel
theorem dX4_become_44 : decode cX4_become 44 = .ok (.getfield 9, 3) := by decide +kernel
theorem dX4_become_47 : decode cX4_become 47 = .ok (.invokestatic 28, 3) := by decide +kernel
theorem dX4_become_50 : decode cX4_become 50 = .ok (.return_, 1) := by decide +kernel
theorem dX5_init_0 : decode cX5_init 0 = .ok (.aload_n 0, 1) := by decide +kernel
theorem dX5_init_1 : decode cX5_init 1 = .ok (.invokespecial 1, 3) := by decide +kernel
theorem dX5_init_4 : decode cX5_init 4 = .ok (.aload_n 0, 1) := by decide +kernel
theorem dX5_init_5 : decode cX5_init 5 = .ok (.bipush 60, 2) := by decide +kernel
theorem dX5_init_7 : decode cX5_init 7 = .ok (.newarray .long, 2) := by decide +kernel
theorem dX5_init_9 : decode cX5_init 9 = .ok (.putfield 9, 3) := by decide +kernel
theorem dX5_init_12 : decode cX5_init 12 = .ok (.aload_n 0, 1) := by decide +kernel
theorem dX5_init_13 : decode cX5_init 13 = .ok (.iconst (-1), 1) := by decide +kernel
theorem dX5_init_14 : decode cX5_init 14 = .ok (.putfield 13, 3) := by decide +kernel
theorem dX5_init_17 : decode cX5_init 17 = .ok (.aload_n 0, 1) := by decide +kernel
theorem dX5_init_18 : decode cX5_init 18 = .ok (.iconst 0, 1) := by decide +kernel
theorem dX5_init_19 : decode cX5_init 19 = .ok (.putfield 17, 3) := by decide +kernel
theorem dX5_init_22 : decode cX5_init 22 = .ok (.return_, 1) := by decide +kernel
theorem dX5_becomeRow_0 : decode cX5_becomeRow 0 = .ok (.aload_n 0, 1) := by decide +kernel
theorem dX5_becomeRow_1 : decode cX5_becomeRow 1 = .ok (.iload_n 1, 1) := by decide +kernel
theorem dX5_becomeRow_2 : decode cX5_becomeRow 2 = .ok (.putfield 13, 3) := by decide +kernel
theorem dX5_becomeRow_5 : decode cX5_becomeRow 5 = .ok (.aload_n 0, 1) := by decide +kernel
theorem dX5_becomeRow_6 : decode cX5_becomeRow 6 = .ok (.iload_n 2, 1) := by decide +kernel
theorem dX5_becomeRow_7 : decode cX5_becomeRow 7 = .ok (.putfield 17, 3) := by decide +kernel
theorem dX5_becomeRow_10 : decode cX5_becomeRow 10 = .ok (.iconst 0, 1) := by decide +kernel
theorem dX5_becomeRow_11 : decode cX5_becomeRow 11 = .ok (.istore_n 3, 1) := by decide +kernel
theorem dX5_becomeRow_12 : decode cX5_becomeRow 12 = .ok (.iload_n 3, 1) := by decide +kernel
theorem dX5_becomeRow_13 : decode cX5_becomeRow 13 = .ok (.bipush 60, 2) := by decide +kernel
theorem dX5_becomeRow_15 : decode cX5_becomeRow 15 = .ok (.if_icmp .ge 16, 3) := by decide +kernel
theorem dX5_becomeRow_18 : decode cX5_becomeRow 18 = .ok (.aload_n 0, 1) := by decide +kernel
theorem dX5_becomeRow_19 : decode cX5_becomeRow 19 = .ok (.getfield 9, 3) := by decide +kernel
theorem dX5_becomeRow_22 : decode cX5_becomeRow 22 = .ok (.iload_n 3, 1) := by decide +kernel
theorem dX5_becomeRow_23 : decode cX5_becomeRow 23 = .ok (.lconst 0, 1) := by decide +kernel
theorem dX5_becomeRow_24 : decode cX5_becomeRow 24 = .ok (.lastore, 1) := by decide +kernel
theorem dX5_becomeRow_25 : decode cX5_becomeRow 25 = .ok (.iinc 3 1, 3) := by decide +kernel
theorem dX5_becomeRow_28 : decode cX5_becomeRow 28 = .ok (.goto (-16), 3) := by decide +kernel
theorem dX5_becomeRow_31 : decode cX5_becomeRow 31 = .ok (.return_, 1) := by decide +kernel
theorem dX5_hasPlace_0 : decode cX5_hasPlace 0 = .ok (.iload_n 1, 1) := by decide +kernel
theorem dX5_hasPlace_1 : decode cX5_hasPlace 1 = .ok (.ifCond .lt 15, 3) := by decide +kernel
theorem dX5_hasPlace_4 : decode cX5_hasPlace 4 = .ok (.iload_n 1, 1) := by decide +kernel
theorem dX5_hasPlace_5 : decode cX5_hasPlace 5 = .ok (.aload_n 0, 1) := by decide +kernel
theorem dX5_hasPlace_6 : decode cX5_hasPlace 6 = .ok (.getfield 17, 3) := by decide +kernel
theorem dX5_hasPlace_9 : decode cX5_hasPlace 9 = .ok (.if_icmp .ge 7, 3) := by decide +kernel
theorem dX5_hasPlace_12 : decode cX5_hasPlace 12 = .ok (.iconst 1, 1) := by decide +kernel
theorem dX5_hasPlace_13 : decode cX5_hasPlace 13 = .ok (.goto 4, 3) := by decide +kernel
theorem dX5_hasPlace_16 : decode cX5_hasPlace 16 = .ok (.iconst 0, 1) := by decide +kernel
theorem dX5_hasPlace_17 : decode cX5_hasPlace 17 = .ok (.ireturn, 1) := by decide +kernel
theorem dX5_hasRun_0 : decode cX5_hasRun 0 = .ok (.iload_n 2, 1) := by decide +kernel
theorem dX5_hasRun_1 : decode cX5_hasRun 1 = .ok (.ifCond .lt 29, 3) := by decide +kernel
theorem dX5_hasRun_4 : decode cX5_hasRun 4 = .ok (.iload_n 1, 1) := by decide +kernel
theorem dX5_hasRun_5 : decode cX5_hasRun 5 = .ok (.ifCond .lt 25, 3) := by decide +kernel
theorem dX5_hasRun_8 : decode cX5_hasRun 8 = .ok (.iload_n 2, 1) := by decide +kernel
theorem dX5_hasRun_9 : decode cX5_hasRun 9 = .ok (.aload_n 0, 1) := by decide +kernel
theorem dX5_hasRun_10 : decode cX5_hasRun 10 = .ok (.getfield 17, 3) := by decide +kernel
theorem dX5_hasRun_13 : decode cX5_hasRun 13 = .ok (.if_icmp .gt 17, 3) := by decide +kernel
theorem dX5_hasRun_16 : decode cX5_hasRun 16 = .ok (.iload_n 1, 1) := by decide +kernel
theorem dX5_hasRun_17 : decode cX5_hasRun 17 = .ok (.aload_n 0, 1) := by decide +kernel
theorem dX5_hasRun_18 : decode cX5_hasRun 18 = .ok (.getfield 17, 3) := by decide +kernel
theorem dX5_hasRun_21 : decode cX5_hasRun 21 = .ok (.iload_n 2, 1) := by decide +kernel
theorem dX5_hasRun_22 : decode cX5_hasRun 22 = .ok (.isub, 1) := by decide +kernel
theorem dX5_hasRun_23 : decode cX5_hasRun 23 = .ok (.if_icmp .gt 7, 3) := by decide +kernel
theorem dX5_hasRun_26 : decode cX5_hasRun 26 = .ok (.iconst 1, 1) := by decide +kernel
theorem dX5_hasRun_27 : decode cX5_hasRun 27 = .ok (.goto 4, 3) := by decide +kernel
theorem dX5_hasRun_30 : decode cX5_hasRun 30 = .ok (.iconst 0, 1) := by decide +kernel
theorem dX5_hasRun_31 : decode cX5_hasRun 31 = .ok (.ireturn, 1) := by decide +kernel
theorem dX5_asItem_0 : decode cX5_asItem 0 = .ok (.aload_n 0, 1) := by decide +kernel
theorem dX5_asItem_1 : decode cX5_asItem 1 = .ok (.getfield 13, 3) := by decide +kernel
theorem dX5_asItem_4 : decode cX5_asItem 4 = .ok (.tableswitch 62 0 4 #[36, 41, 46, 62, 50], 36) := by decide +kernel
theorem dX5_asItem_40 : decode cX5_asItem 40 = .ok (.lload_n 1, 1) := by decide +kernel
theorem dX5_asItem_41 : decode cX5_asItem 41 = .ok (.l2i, 1) := by decide +kernel
theorem dX5_asItem_42 : decode cX5_asItem 42 = .ok (.i2b, 1) := by decide +kernel
theorem dX5_asItem_43 : decode cX5_asItem 43 = .ok (.i2l, 1) := by decide +kernel
theorem dX5_asItem_44 : decode cX5_asItem 44 = .ok (.lreturn, 1) := by decide +kernel
theorem dX5_asItem_45 : decode cX5_asItem 45 = .ok (.lload_n 1, 1) := by decide +kernel
theorem dX5_asItem_46 : decode cX5_asItem 46 = .ok (.l2i, 1) := by decide +kernel
theorem dX5_asItem_47 : decode cX5_asItem 47 = .ok (.i2s, 1) := by decide +kernel
theorem dX5_asItem_48 : decode cX5_asItem 48 = .ok (.i2l, 1) := by decide +kernel
theorem dX5_asItem_49 : decode cX5_asItem 49 = .ok (.lreturn, 1) := by decide +kernel
theorem dX5_asItem_50 : decode cX5_asItem 50 = .ok (.lload_n 1, 1) := by decide +kernel
theorem dX5_asItem_51 : decode cX5_asItem 51 = .ok (.l2i, 1) := by decide +kernel
theorem dX5_asItem_52 : decode cX5_asItem 52 = .ok (.i2l, 1) := by decide +kernel
theorem dX5_asItem_53 : decode cX5_asItem 53 = .ok (.lreturn, 1) := by decide +kernel
theorem dX5_asItem_54 : decode cX5_asItem 54 = .ok (.lload_n 1, 1) := by decide +kernel
theorem dX5_asItem_55 : decode cX5_asItem 55 = .ok (.lconst 0, 1) := by decide +kernel
theorem dX5_asItem_56 : decode cX5_asItem 56 = .ok (.lcmp, 1) := by decide +kernel
theorem dX5_asItem_57 : decode cX5_asItem 57 = .ok (.ifCond .eq 7, 3) := by decide +kernel
theorem dX5_asItem_60 : decode cX5_asItem 60 = .ok (.lconst 1, 1) := by decide +kernel
theorem dX5_asItem_61 : decode cX5_asItem 61 = .ok (.goto 4, 3) := by decide +kernel
theorem dX5_asItem_64 : decode cX5_asItem 64 = .ok (.lconst 0, 1) := by decide +kernel
theorem dX5_asItem_65 : decode cX5_asItem 65 = .ok (.lreturn, 1) := by decide +kernel
theorem dX5_asItem_66 : decode cX5_asItem 66 = .ok (.lload_n 1, 1) := by decide +kernel
theorem dX5_asItem_67 : decode cX5_asItem 67 = .ok (.lreturn, 1) := by decide +kernel
theorem dX6_init_0 : decode cX6_init 0 = .ok (.aload_n 0, 1) := by decide +kernel
theorem dX6_init_1 : decode cX6_init 1 = .ok (.invokespecial 3, 3) := by decide +kernel
theorem dX6_init_4 : decode cX6_init 4 = .ok (.aload_n 0, 1) := by decide +kernel
theorem dX6_init_5 : decode cX6_init 5 = .ok (.bipush 100, 2) := by decide +kernel
theorem dX6_init_7 : decode cX6_init 7 = .ok (.newarray .int, 2) := by decide +kernel
theorem dX6_init_9 : decode cX6_init 9 = .ok (.putfield 11, 3) := by decide +kernel
theorem dX6_init_12 : decode cX6_init 12 = .ok (.aload_n 0, 1) := by decide +kernel
theorem dX6_init_13 : decode cX6_init 13 = .ok (.iconst 0, 1) := by decide +kernel
theorem dX6_init_14 : decode cX6_init 14 = .ok (.putfield 15, 3) := by decide +kernel
theorem dX6_init_17 : decode cX6_init 17 = .ok (.aload_n 0, 1) := by decide +kernel
theorem dX6_init_18 : decode cX6_init 18 = .ok (.bipush 16, 2) := by decide +kernel
theorem dX6_init_20 : decode cX6_init 20 = .ok (.newarray .int, 2) := by decide +kernel
theorem dX6_init_22 : decode cX6_init 22 = .ok (.putfield 19, 3) := by decide +kernel
theorem dX6_init_25 : decode cX6_init 25 = .ok (.aload_n 0, 1) := by decide +kernel
theorem dX6_init_26 : decode cX6_init 26 = .ok (.bipush 16, 2) := by decide +kernel
theorem dX6_init_28 : decode cX6_init 28 = .ok (.newarray .int, 2) := by decide +kernel
theorem dX6_init_30 : decode cX6_init 30 = .ok (.putfield 22, 3) := by decide +kernel
theorem dX6_init_33 : decode cX6_init 33 = .ok (.aload_n 0, 1) := by decide +kernel
theorem dX6_init_34 : decode cX6_init 34 = .ok (.bipush 16, 2) := by decide +kernel
theorem dX6_init_36 : decode cX6_init 36 = .ok (.newarray .int, 2) := by decide +kernel
theorem dX6_init_38 : decode cX6_init 38 = .ok (.putfield 25, 3) := by decide +kernel
theorem dX6_init_41 : decode cX6_init 41 = .ok (.aload_n 0, 1) := by decide +kernel
theorem dX6_init_42 : decode cX6_init 42 = .ok (.iconst 0, 1) := by decide +kernel
theorem dX6_init_43 : decode cX6_init 43 = .ok (.putfield 28, 3) := by decide +kernel
theorem dX6_init_46 : decode cX6_init 46 = .ok (.aload_n 0, 1) := by decide +kernel
theorem dX6_init_47 : decode cX6_init 47 = .ok (.iconst 0, 1) := by decide +kernel
theorem dX6_init_48 : decode cX6_init 48 = .ok (.putfield 31, 3) := by decide +kernel
theorem dX6_init_51 : decode cX6_init 51 = .ok (.aload_n 0, 1) := by decide +kernel
theorem dX6_init_52 : decode cX6_init 52 = .ok (.iconst 0, 1) := by decide +kernel
theorem dX6_init_53 : decode cX6_init 53 = .ok (.putfield 34, 3) := by decide +kernel
theorem dX6_init_56 : decode cX6_init 56 = .ok (.return_, 1) := by decide +kernel
theorem dX6_empty_0 : decode cX6_empty 0 = .ok (.aload_n 0, 1) := by decide +kernel
theorem dX6_empty_1 : decode cX6_empty 1 = .ok (.iconst 0, 1) := by decide +kernel
theorem dX6_empty_2 : decode cX6_empty 2 = .ok (.putfield 15, 3) := by decide +kernel
theorem dX6_empty_5 : decode cX6_empty 5 = .ok (.return_, 1) := by decide +kernel
theorem dX6_append_0 : decode cX6_append 0 = .ok (.aload_n 0, 1) := by decide +kernel
theorem dX6_append_1 : decode cX6_append 1 = .ok (.getfield 15, 3) := by decide +kernel
theorem dX6_append_4 : decode cX6_append 4 = .ok (.bipush 100, 2) := by decide +kernel
theorem dX6_append_6 : decode cX6_append 6 = .ok (.if_icmp .lt 6, 3) := by decide +kernel
theorem dX6_append_9 : decode cX6_append 9 = .ok (.bipush (-4), 2) := by decide +kernel
theorem dX6_append_11 : decode cX6_append 11 = .ok (.ireturn, 1) := by decide +kernel
theorem dX6_append_12 : decode cX6_append 12 = .ok (.aload_n 0, 1) := by decide +kernel
theorem dX6_append_13 : decode cX6_append 13 = .ok (.getfield 11, 3) := by decide +kernel
theorem dX6_append_16 : decode cX6_append 16 = .ok (.aload_n 0, 1) := by decide +kernel
theorem dX6_append_17 : decode cX6_append 17 = .ok (.getfield 15, 3) := by decide +kernel
theorem dX6_append_20 : decode cX6_append 20 = .ok (.iload_n 1, 1) := by decide +kernel
theorem dX6_append_21 : decode cX6_append 21 = .ok (.iastore, 1) := by decide +kernel
theorem dX6_append_22 : decode cX6_append 22 = .ok (.aload_n 0, 1) := by decide +kernel
theorem dX6_append_23 : decode cX6_append 23 = .ok (.dup, 1) := by decide +kernel
theorem dX6_append_24 : decode cX6_append 24 = .ok (.getfield 15, 3) := by decide +kernel
theorem dX6_append_27 : decode cX6_append 27 = .ok (.iconst 1, 1) := by decide +kernel
theorem dX6_append_28 : decode cX6_append 28 = .ok (.iadd, 1) := by decide +kernel
theorem dX6_append_29 : decode cX6_append 29 = .ok (.putfield 15, 3) := by decide +kernel
theorem dX6_append_32 : decode cX6_append 32 = .ok (.aload_n 0, 1) := by decide +kernel
theorem dX6_append_33 : decode cX6_append 33 = .ok (.getfield 15, 3) := by decide +kernel
theorem dX6_append_36 : decode cX6_append 36 = .ok (.ireturn, 1) := by decide +kernel
theorem dX6_findClauses_0 : decode cX6_findClauses 0 = .ok (.aload_n 0, 1) := by decide +kernel
theorem dX6_findClauses_1 : decode cX6_findClauses 1 = .ok (.iconst 0, 1) := by decide +kernel
theorem dX6_findClauses_2 : decode cX6_findClauses 2 = .ok (.putfield 31, 3) := by decide +kernel
theorem dX6_findClauses_5 : decode cX6_findClauses 5 = .ok (.aload_n 0, 1) := by decide +kernel
theorem dX6_findClauses_6 : decode cX6_findClauses 6 = .ok (.iconst 0, 1) := by decide +kernel
theorem dX6_findClauses_7 : decode cX6_findClauses 7 = .ok (.putfield 34, 3) := by decide +kernel
theorem dX6_findClauses_10 : decode cX6_findClauses 10 = .ok (.aload_n 0, 1) := by decide +kernel
theorem dX6_findClauses_11 : decode cX6_findClauses 11 = .ok (.iconst 0, 1) := by decide +kernel
theorem dX6_findClauses_12 : decode cX6_findClauses 12 = .ok (.putfield 28, 3) := by decide +kernel
theorem dX6_findClauses_15 : decode cX6_findClauses 15 = .ok (.iconst 0, 1) := by decide +kernel
theorem dX6_findClauses_16 : decode cX6_findClauses 16 = .ok (.istore_n 2, 1) := by decide +kernel
theorem dX6_findClauses_17 : decode cX6_findClauses 17 = .ok (.iload_n 2, 1) := by decide +kernel
theorem dX6_findClauses_18 : decode cX6_findClauses 18 = .ok (.bipush 16, 2) := by decide +kernel
theorem dX6_findClauses_20 : decode cX6_findClauses 20 = .ok (.if_icmp .ge 45, 3) := by decide +kernel
theorem dX6_findClauses_23 : decode cX6_findClauses 23 = .ok (.aload_n 0, 1) := by decide +kernel
theorem dX6_findClauses_24 : decode cX6_findClauses 24 = .ok (.iload_n 1, 1) := by decide +kernel
theorem dX6_findClauses_25 : decode cX6_findClauses 25 = .ok (.invokevirtual 37, 3) := by decide +kernel
theorem dX6_findClauses_28 : decode cX6_findClauses 28 = .ok (.aload_n 0, 1) := by decide +kernel
theorem dX6_findClauses_29 : decode cX6_findClauses 29 = .ok (.getfield 34, 3) := by decide +kernel
theorem dX6_findClauses_32 : decode cX6_findClauses 32 = .ok (.ifCond .ne 14, 3) := by decide +kernel
theorem dX6_findClauses_35 : decode cX6_findClauses 35 = .ok (.aload_n 0, 1) := by decide +kernel
theorem dX6_findClauses_36 : decode cX6_findClauses 36 = .ok (.getfield 31, 3) := by decide +kernel
theorem dX6_findClauses_39 : decode cX6_findClauses 39 = .ok (.aload_n 0, 1) := by decide +kernel
theorem dX6_findClauses_40 : decode cX6_findClauses 40 = .ok (.getfield 15, 3) := by decide +kernel
theorem dX6_findClauses_43 : decode cX6_findClauses 43 = .ok (.if_icmp .lt 4, 3) := by decide +kernel
theorem dX6_findClauses_46 : decode cX6_findClauses 46 = .ok (.return_, 1) := by decide +kernel
theorem dX6_findClauses_47 : decode cX6_findClauses 47 = .ok (.aload_n 0, 1) := by decide +kernel
theorem dX6_findClauses_48 : decode cX6_findClauses 48 = .ok (.invokevirtual 41, 3) := by decide +kernel
theorem dX6_findClauses_51 : decode cX6_findClauses 51 = .ok (.aload_n 0, 1) := by decide +kernel
theorem dX6_findClauses_52 : decode cX6_findClauses 52 = .ok (.getfield 34, 3) := by decide +kernel
theorem dX6_findClauses_55 : decode cX6_findClauses 55 = .ok (.ifCond .eq 4, 3) := by decide +kernel
theorem dX6_findClauses_58 : decode cX6_findClauses 58 = .ok (.return_, 1) := by decide +kernel
theorem dX6_findClauses_59 : decode cX6_findClauses 59 = .ok (.iinc 2 1, 3) := by decide +kernel
theorem dX6_findClauses_62 : decode cX6_findClauses 62 = .ok (.goto (-45), 3) := by decide +kernel
theorem dX6_findClauses_65 : decode cX6_findClauses 65 = .ok (.return_, 1) := by decide +kernel
theorem dX6_passBetween_0 : decode cX6_passBetween 0 = .ok (.aload_n 0, 1) := by decide +kernel
theorem dX6_passBetween_1 : decode cX6_passBetween 1 = .ok (.invokevirtual 44, 3) := by decide +kernel
theorem dX6_passBetween_4 : decode cX6_passBetween 4 = .ok (.bipush 59, 2) := by decide +kernel
theorem dX6_passBetween_6 : decode cX6_passBetween 6 = .ok (.if_icmp .ne 25, 3) := by decide +kernel
theorem dX6_passBetween_9 : decode cX6_passBetween 9 = .ok (.aload_n 0, 1) := by decide +kernel
theorem dX6_passBetween_10 : decode cX6_passBetween 10 = .ok (.getfield 28, 3) := by decide +kernel
theorem dX6_passBetween_13 : decode cX6_passBetween 13 = .ok (.bipush 16, 2) := by decide +kernel
theorem dX6_passBetween_15 : decode cX6_passBetween 15 = .ok (.if_icmp .ge 16, 3) := by decide +kernel
theorem dX6_passBetween_18 : decode cX6_passBetween 18 = .ok (.aload_n 0, 1) := by decide +kernel
theorem dX6_passBetween_19 : decode cX6_passBetween 19 = .ok (.dup, 1) := by decide +kernel
theorem dX6_passBetween_20 : decode cX6_passBetween 20 = .ok (.getfield 31, 3) := by decide +kernel
theorem dX6_passBetween_23 : decode cX6_passBetween 23 = .ok (.iconst 1, 1) := by decide +kernel
theorem dX6_passBetween_24 : decode cX6_passBetween 24 = .ok (.iadd, 1) := by decide +kernel
theorem dX6_passBetween_25 : decode cX6_passBetween 25 = .ok (.putfield 31, 3) := by decide +kernel
theorem dX6_passBetween_28 : decode cX6_passBetween 28 = .ok (.goto 8, 3) := by decide +kernel
theorem dX6_passBetween_31 : decode cX6_passBetween 31 = .ok (.aload_n 0, 1) := by decide +kernel
theorem dX6_passBetween_32 : decode cX6_passBetween 32 = .ok (.iconst 1, 1) := by decide +kernel
theorem dX6_passBetween_33 : decode cX6_passBetween 33 = .ok (.putfield 34, 3) := by decide +kernel
theorem dX6_passBetween_36 : decode cX6_passBetween 36 = .ok (.return_, 1) := by decide +kernel
theorem dX6_findClause_0 : decode cX6_findClause 0 = .ok (.aload_n 0, 1) := by decide +kernel
theorem dX6_findClause_1 : decode cX6_findClause 1 = .ok (.bipush 97, 2) := by decide +kernel
theorem dX6_findClause_3 : decode cX6_findClause 3 = .ok (.iload_n 1, 1) := by decide +kernel
theorem dX6_findClause_4 : decode cX6_findClause 4 = .ok (.iconst 2, 1) := by decide +kernel
theorem dX6_findClause_5 : decode cX6_findClause 5 = .ok (.invokevirtual 50, 3) := by decide +kernel
theorem dX6_findClause_8 : decode cX6_findClause 8 = .ok (.istore_n 2, 1) := by decide +kernel
theorem dX6_findClause_9 : decode cX6_findClause 9 = .ok (.aload_n 0, 1) := by decide +kernel
theorem dX6_findClause_10 : decode cX6_findClause 10 = .ok (.getfield 34, 3) := by decide +kernel
theorem dX6_findClause_13 : decode cX6_findClause 13 = .ok (.ifCond .ne 14, 3) := by decide +kernel
theorem dX6_findClause_16 : decode cX6_findClause 16 = .ok (.aload_n 0, 1) := by decide +kernel
theorem dX6_findClause_17 : decode cX6_findClause 17 = .ok (.bipush 48, 2) := by decide +kernel
theorem dX6_findClause_19 : decode cX6_findClause 19 = .ok (.iload_n 1, 1) := by decide +kernel
theorem dX6_findClause_20 : decode cX6_findClause 20 = .ok (.iconst 3, 1) := by decide +kernel
theorem dX6_findClause_21 : decode cX6_findClause 21 = .ok (.invokevirtual 50, 3) := by decide +kernel
theorem dX6_findClause_24 : decode cX6_findClause 24 = .ok (.goto 4, 3) := by decide +kernel
theorem dX6_findClause_27 : decode cX6_findClause 27 = .ok (.iconst 0, 1) := by decide +kernel
theorem dX6_findClause_28 : decode cX6_findClause 28 = .ok (.istore_n 3, 1) := by decide +kernel
theorem dX6_findClause_29 : decode cX6_findClause 29 = .ok (.aload_n 0, 1) := by decide +kernel
theorem dX6_findClause_30 : decode cX6_findClause 30 = .ok (.getfield 34, 3) := by decide +kernel
theorem dX6_findClause_33 : decode cX6_findClause 33 = .ok (.ifCond .ne 10, 3) := by decide +kernel
theorem dX6_findClause_36 : decode cX6_findClause 36 = .ok (.aload_n 0, 1) := by decide +kernel
theorem dX6_findClause_37 : decode cX6_findClause 37 = .ok (.invokevirtual 54, 3) := by decide +kernel
theorem dX6_findClause_40 : decode cX6_findClause 40 = .ok (.goto 4, 3) := by decide +kernel
theorem dX6_findClause_43 : decode cX6_findClause 43 = .ok (.iconst 0, 1) := by decide +kernel
theorem dX6_findClause_44 : decode cX6_findClause 44 = .ok (.istore 4, 2) := by decide +kernel
theorem dX6_findClause_46 : decode cX6_findClause 46 = .ok (.aload_n 0, 1) := by decide +kernel
theorem dX6_findClause_47 : decode cX6_findClause 47 = .ok (.getfield 34, 3) := by decide +kernel
theorem dX6_findClause_50 : decode cX6_findClause 50 = .ok (.ifCond .ne 53, 3) := by decide +kernel
theorem dX6_findClause_53 : decode cX6_findClause 53 = .ok (.aload_n 0, 1) := by decide +kernel
theorem dX6_findClause_54 : decode cX6_findClause 54 = .ok (.getfield 28, 3) := by decide +kernel
theorem dX6_findClause_57 : decode cX6_findClause 57 = .ok (.bipush 16, 2) := by decide +kernel
theorem dX6_findClause_59 : decode cX6_findClause 59 = .ok (.if_icmp .ge 44, 3) := by decide +kernel
theorem dX6_findClause_62 : decode cX6_findClause 62 = .ok (.aload_n 0, 1) := by decide +kernel
theorem dX6_findClause_63 : decode cX6_findClause 63 = .ok (.getfield 19, 3) := by decide +kernel
theorem dX6_findClause_66 : decode cX6_findClause 66 = .ok (.aload_n 0, 1) := by decide +kernel
theorem dX6_findClause_67 : decode cX6_findClause 67 = .ok (.getfield 28, 3) := by decide +kernel
theorem dX6_findClause_70 : decode cX6_findClause 70 = .ok (.iload_n 2, 1) := by decide +kernel
theorem dX6_findClause_71 : decode cX6_findClause 71 = .ok (.iastore, 1) := by decide +kernel
theorem dX6_findClause_72 : decode cX6_findClause 72 = .ok (.aload_n 0, 1) := by decide +kernel
theorem dX6_findClause_73 : decode cX6_findClause 73 = .ok (.getfield 22, 3) := by decide +kernel
theorem dX6_findClause_76 : decode cX6_findClause 76 = .ok (.aload_n 0, 1) := by decide +kernel
theorem dX6_findClause_77 : decode cX6_findClause 77 = .ok (.getfield 28, 3) := by decide +kernel
theorem dX6_findClause_80 : decode cX6_findClause 80 = .ok (.iload_n 3, 1) := by decide +kernel
theorem dX6_findClause_81 : decode cX6_findClause 81 = .ok (.iastore, 1) := by decide +kernel
theorem dX6_findClause_82 : decode cX6_findClause 82 = .ok (.aload_n 0, 1) := by decide +kernel
theorem dX6_findClause_83 : decode cX6_findClause 83 = .ok (.getfield 25, 3) := by decide +kernel
theorem dX6_findClause_86 : decode cX6_findClause 86 = .ok (.aload_n 0, 1) := by decide +kernel
theorem dX6_findClause_87 : decode cX6_findClause 87 = .ok (.getfield 28, 3) := by decide +kernel
theorem dX6_findClause_90 : decode cX6_findClause 90 = .ok (.iload 4, 2) := by decide +kernel
theorem dX6_findClause_92 : decode cX6_findClause 92 = .ok (.iastore, 1) := by decide +kernel
theorem dX6_findClause_93 : decode cX6_findClause 93 = .ok (.aload_n 0, 1) := by decide +kernel
theorem dX6_findClause_94 : decode cX6_findClause 94 = .ok (.dup, 1) := by decide +kernel
theorem dX6_findClause_95 : decode cX6_findClause 95 = .ok (.getfield 28, 3) := by decide +kernel
theorem dX6_findClause_98 : decode cX6_findClause 98 = .ok (.iconst 1, 1) := by decide +kernel
theorem dX6_findClause_99 : decode cX6_findClause 99 = .ok (.iadd, 1) := by decide +kernel
theorem dX6_findClause_100 : decode cX6_findClause 100 = .ok (.putfield 28, 3) := by decide +kernel
theorem dX6_findClause_103 : decode cX6_findClause 103 = .ok (.return_, 1) := by decide +kernel
theorem dX6_findNumber_0 : decode cX6_findNumber 0 = .ok (.aload_n 0, 1) := by decide +kernel
theorem dX6_findNumber_1 : decode cX6_findNumber 1 = .ok (.invokevirtual 44, 3) := by decide +kernel
theorem dX6_findNumber_4 : decode cX6_findNumber 4 = .ok (.iload_n 1, 1) := by decide +kernel
theorem dX6_findNumber_5 : decode cX6_findNumber 5 = .ok (.isub, 1) := by decide +kernel
theorem dX6_findNumber_6 : decode cX6_findNumber 6 = .ok (.istore 4, 2) := by decide +kernel
theorem dX6_findNumber_8 : decode cX6_findNumber 8 = .ok (.iload 4, 2) := by decide +kernel
theorem dX6_findNumber_10 : decode cX6_findNumber 10 = .ok (.ifCond .lt 10, 3) := by decide +kernel
theorem dX6_findNumber_13 : decode cX6_findNumber 13 = .ok (.iload 4, 2) := by decide +kernel
theorem dX6_findNumber_15 : decode cX6_findNumber 15 = .ok (.bipush 8, 2) := by decide +kernel
theorem dX6_findNumber_17 : decode cX6_findNumber 17 = .ok (.if_icmp .lt 11, 3) := by decide +kernel
theorem dX6_findNumber_20 : decode cX6_findNumber 20 = .ok (.aload_n 0, 1) := by decide +kernel
theorem dX6_findNumber_21 : decode cX6_findNumber 21 = .ok (.iconst 1, 1) := by decide +kernel
theorem dX6_findNumber_22 : decode cX6_findNumber 22 = .ok (.putfield 34, 3) := by decide +kernel
theorem dX6_findNumber_25 : decode cX6_findNumber 25 = .ok (.goto 27, 3) := by decide +kernel
theorem dX6_findNumber_28 : decode cX6_findNumber 28 = .ok (.iload 4, 2) := by decide +kernel
theorem dX6_findNumber_30 : decode cX6_findNumber 30 = .ok (.iload_n 2, 1) := by decide +kernel
theorem dX6_findNumber_31 : decode cX6_findNumber 31 = .ok (.if_icmp .lt 11, 3) := by decide +kernel
theorem dX6_findNumber_34 : decode cX6_findNumber 34 = .ok (.aload_n 0, 1) := by decide +kernel
theorem dX6_findNumber_35 : decode cX6_findNumber 35 = .ok (.iload_n 3, 1) := by decide +kernel
theorem dX6_findNumber_36 : decode cX6_findNumber 36 = .ok (.putfield 34, 3) := by decide +kernel
theorem dX6_findNumber_39 : decode cX6_findNumber 39 = .ok (.goto 13, 3) := by decide +kernel
theorem dX6_findNumber_42 : decode cX6_findNumber 42 = .ok (.aload_n 0, 1) := by decide +kernel
theorem dX6_findNumber_43 : decode cX6_findNumber 43 = .ok (.dup, 1) := by decide +kernel
theorem dX6_findNumber_44 : decode cX6_findNumber 44 = .ok (.getfield 31, 3) := by decide +kernel
theorem dX6_findNumber_47 : decode cX6_findNumber 47 = .ok (.iconst 1, 1) := by decide +kernel
theorem dX6_findNumber_48 : decode cX6_findNumber 48 = .ok (.iadd, 1) := by decide +kernel
theorem dX6_findNumber_49 : decode cX6_findNumber 49 = .ok (.putfield 31, 3) := by decide +kernel
theorem dX6_findNumber_52 : decode cX6_findNumber 52 = .ok (.iload 4, 2) := by decide +kernel
theorem dX6_findNumber_54 : decode cX6_findNumber 54 = .ok (.ireturn, 1) := by decide +kernel
theorem dX6_findWorth_0 : decode cX6_findWorth 0 = .ok (.aload_n 0, 1) := by decide +kernel
theorem dX6_findWorth_1 : decode cX6_findWorth 1 = .ok (.invokevirtual 44, 3) := by decide +kernel
theorem dX6_findWorth_4 : decode cX6_findWorth 4 = .ok (.bipush 33, 2) := by decide +kernel
theorem dX6_findWorth_6 : decode cX6_findWorth 6 = .ok (.if_icmp .ne 15, 3) := by decide +kernel
theorem dX6_findWorth_9 : decode cX6_findWorth 9 = .ok (.aload_n 0, 1) := by decide +kernel
theorem dX6_findWorth_10 : decode cX6_findWorth 10 = .ok (.dup, 1) := by decide +kernel
theorem dX6_findWorth_11 : decode cX6_findWorth 11 = .ok (.getfield 31, 3) := by decide +kernel
theorem dX6_findWorth_14 : decode cX6_findWorth 14 = .ok (.iconst 1, 1) := by decide +kernel
theorem dX6_findWorth_15 : decode cX6_findWorth 15 = .ok (.iadd, 1) := by decide +kernel
theorem dX6_findWorth_16 : decode cX6_findWorth 16 = .ok (.putfield 31, 3) := by decide +kernel
theorem dX6_findWorth_19 : decode cX6_findWorth 19 = .ok (.iconst (-1), 1) := by decide +kernel
theorem dX6_findWorth_20 : decode cX6_findWorth 20 = .ok (.ireturn, 1) := by decide +kernel
theorem dX6_findWorth_21 : decode cX6_findWorth 21 = .ok (.aload_n 0, 1) := by decide +kernel
theorem dX6_findWorth_22 : decode cX6_findWorth 22 = .ok (.invokevirtual 44, 3) := by decide +kernel
theorem dX6_findWorth_25 : decode cX6_findWorth 25 = .ok (.bipush 61, 2) := by decide +kernel
theorem dX6_findWorth_27 : decode cX6_findWorth 27 = .ok (.if_icmp .ne 28, 3) := by decide +kernel
theorem dX6_findWorth_30 : decode cX6_findWorth 30 = .ok (.aload_n 0, 1) := by decide +kernel
theorem dX6_findWorth_31 : decode cX6_findWorth 31 = .ok (.dup, 1) := by decide +kernel
theorem dX6_findWorth_32 : decode cX6_findWorth 32 = .ok (.getfield 31, 3) := by decide +kernel
theorem dX6_findWorth_35 : decode cX6_findWorth 35 = .ok (.iconst 1, 1) := by decide +kernel
theorem dX6_findWorth_36 : decode cX6_findWorth 36 = .ok (.iadd, 1) := by decide +kernel
theorem dX6_findWorth_37 : decode cX6_findWorth 37 = .ok (.putfield 31, 3) := by decide +kernel
theorem dX6_findWorth_40 : decode cX6_findWorth 40 = .ok (.aload_n 0, 1) := by decide +kernel
theorem dX6_findWorth_41 : decode cX6_findWorth 41 = .ok (.invokevirtual 44, 3) := by decide +kernel
theorem dX6_findWorth_44 : decode cX6_findWorth 44 = .ok (.invokestatic 57, 3) := by decide +kernel
theorem dX6_findWorth_47 : decode cX6_findWorth 47 = .ok (.ifCond .eq 8, 3) := by decide +kernel
theorem dX6_findWorth_50 : decode cX6_findWorth 50 = .ok (.aload_n 0, 1) := by decide +kernel
theorem dX6_findWorth_51 : decode cX6_findWorth 51 = .ok (.invokevirtual 61, 3) := by decide +kernel
theorem dX6_findWorth_54 : decode cX6_findWorth 54 = .ok (.ireturn, 1) := by decide +kernel
theorem dX6_findWorth_55 : decode cX6_findWorth 55 = .ok (.aload_n 0, 1) := by decide +kernel
theorem dX6_findWorth_56 : decode cX6_findWorth 56 = .ok (.iconst 1, 1) := by decide +kernel
theorem dX6_findWorth_57 : decode cX6_findWorth 57 = .ok (.putfield 34, 3) := by decide +kernel
theorem dX6_findWorth_60 : decode cX6_findWorth 60 = .ok (.iconst (-1), 1) := by decide +kernel
theorem dX6_findWorth_61 : decode cX6_findWorth 61 = .ok (.ireturn, 1) := by decide +kernel
theorem dX6_findDigits_0 : decode cX6_findDigits 0 = .ok (.aload_n 0, 1) := by decide +kernel
theorem dX6_findDigits_1 : decode cX6_findDigits 1 = .ok (.invokevirtual 44, 3) := by decide +kernel
theorem dX6_findDigits_4 : decode cX6_findDigits 4 = .ok (.bipush 48, 2) := by decide +kernel
theorem dX6_findDigits_6 : decode cX6_findDigits 6 = .ok (.isub, 1) := by decide +kernel
theorem dX6_findDigits_7 : decode cX6_findDigits 7 = .ok (.istore_n 1, 1) := by decide +kernel
theorem dX6_findDigits_8 : decode cX6_findDigits 8 = .ok (.aload_n 0, 1) := by decide +kernel
theorem dX6_findDigits_9 : decode cX6_findDigits 9 = .ok (.dup, 1) := by decide +kernel
theorem dX6_findDigits_10 : decode cX6_findDigits 10 = .ok (.getfield 31, 3) := by decide +kernel
theorem dX6_findDigits_13 : decode cX6_findDigits 13 = .ok (.iconst 1, 1) := by decide +kernel
theorem dX6_findDigits_14 : decode cX6_findDigits 14 = .ok (.iadd, 1) := by decide +kernel
theorem dX6_findDigits_15 : decode cX6_findDigits 15 = .ok (.putfield 31, 3) := by decide +kernel
theorem dX6_findDigits_18 : decode cX6_findDigits 18 = .ok (.aload_n 0, 1) := by decide +kernel
theorem dX6_findDigits_19 : decode cX6_findDigits 19 = .ok (.invokevirtual 44, 3) := by decide +kernel
theorem dX6_findDigits_22 : decode cX6_findDigits 22 = .ok (.invokestatic 57, 3) := by decide +kernel
theorem dX6_findDigits_25 : decode cX6_findDigits 25 = .ok (.ifCond .eq 26, 3) := by decide +kernel
theorem dX6_findDigits_28 : decode cX6_findDigits 28 = .ok (.iload_n 1, 1) := by decide +kernel
theorem dX6_findDigits_29 : decode cX6_findDigits 29 = .ok (.bipush 10, 2) := by decide +kernel
theorem dX6_findDigits_31 : decode cX6_findDigits 31 = .ok (.imul, 1) := by decide +kernel
theorem dX6_findDigits_32 : decode cX6_findDigits 32 = .ok (.aload_n 0, 1) := by decide +kernel
theorem dX6_findDigits_33 : decode cX6_findDigits 33 = .ok (.invokevirtual 44, 3) := by decide +kernel
theorem dX6_findDigits_36 : decode cX6_findDigits 36 = .ok (.iadd, 1) := by decide +kernel
theorem dX6_findDigits_37 : decode cX6_findDigits 37 = .ok (.bipush 48, 2) := by decide +kernel
theorem dX6_findDigits_39 : decode cX6_findDigits 39 = .ok (.isub, 1) := by decide +kernel
theorem dX6_findDigits_40 : decode cX6_findDigits 40 = .ok (.istore_n 1, 1) := by decide +kernel
theorem dX6_findDigits_41 : decode cX6_findDigits 41 = .ok (.aload_n 0, 1) := by decide +kernel
theorem dX6_findDigits_42 : decode cX6_findDigits 42 = .ok (.dup, 1) := by decide +kernel
theorem dX6_findDigits_43 : decode cX6_findDigits 43 = .ok (.getfield 31, 3) := by decide +kernel
theorem dX6_findDigits_46 : decode cX6_findDigits 46 = .ok (.iconst 1, 1) := by decide +kernel
theorem dX6_findDigits_47 : decode cX6_findDigits 47 = .ok (.iadd, 1) := by decide +kernel
theorem dX6_findDigits_48 : decode cX6_findDigits 48 = .ok (.putfield 31, 3) := by decide +kernel
theorem dX6_findDigits_51 : decode cX6_findDigits 51 = .ok (.iload_n 1, 1) := by decide +kernel
theorem dX6_findDigits_52 : decode cX6_findDigits 52 = .ok (.ireturn, 1) := by decide +kernel
theorem dX6_isDigit_0 : decode cX6_isDigit 0 = .ok (.iload_n 0, 1) := by decide +kernel
theorem dX6_isDigit_1 : decode cX6_isDigit 1 = .ok (.bipush 48, 2) := by decide +kernel
theorem dX6_isDigit_3 : decode cX6_isDigit 3 = .ok (.if_icmp .lt 13, 3) := by decide +kernel
theorem dX6_isDigit_6 : decode cX6_isDigit 6 = .ok (.iload_n 0, 1) := by decide +kernel
theorem dX6_isDigit_7 : decode cX6_isDigit 7 = .ok (.bipush 57, 2) := by decide +kernel
theorem dX6_isDigit_9 : decode cX6_isDigit 9 = .ok (.if_icmp .gt 7, 3) := by decide +kernel
theorem dX6_isDigit_12 : decode cX6_isDigit 12 = .ok (.iconst 1, 1) := by decide +kernel
theorem dX6_isDigit_13 : decode cX6_isDigit 13 = .ok (.goto 4, 3) := by decide +kernel
theorem dX6_isDigit_16 : decode cX6_isDigit 16 = .ok (.iconst 0, 1) := by decide +kernel
theorem dX6_isDigit_17 : decode cX6_isDigit 17 = .ok (.ireturn, 1) := by decide +kernel
theorem dX6_sign_0 : decode cX6_sign 0 = .ok (.aload_n 0, 1) := by decide +kernel
theorem dX6_sign_1 : decode cX6_sign 1 = .ok (.getfield 31, 3) := by decide +kernel
theorem dX6_sign_4 : decode cX6_sign 4 = .ok (.ifCond .lt 26, 3) := by decide +kernel
theorem dX6_sign_7 : decode cX6_sign 7 = .ok (.aload_n 0, 1) := by decide +kernel
theorem dX6_sign_8 : decode cX6_sign 8 = .ok (.getfield 31, 3) := by decide +kernel
theorem dX6_sign_11 : decode cX6_sign 11 = .ok (.aload_n 0, 1) := by decide +kernel
theorem dX6_sign_12 : decode cX6_sign 12 = .ok (.getfield 15, 3) := by decide +kernel
theorem dX6_sign_15 : decode cX6_sign 15 = .ok (.if_icmp .ge 15, 3) := by decide +kernel
theorem dX6_sign_18 : decode cX6_sign 18 = .ok (.aload_n 0, 1) := by decide +kernel
theorem dX6_sign_19 : decode cX6_sign 19 = .ok (.getfield 11, 3) := by decide +kernel
theorem dX6_sign_22 : decode cX6_sign 22 = .ok (.aload_n 0, 1) := by decide +kernel
theorem dX6_sign_23 : decode cX6_sign 23 = .ok (.getfield 31, 3) := by decide +kernel
theorem dX6_sign_26 : decode cX6_sign 26 = .ok (.iaload, 1) := by decide +kernel
theorem dX6_sign_27 : decode cX6_sign 27 = .ok (.goto 4, 3) := by decide +kernel
theorem dX6_sign_30 : decode cX6_sign 30 = .ok (.iconst (-1), 1) := by decide +kernel
theorem dX6_sign_31 : decode cX6_sign 31 = .ok (.ireturn, 1) := by decide +kernel
theorem dX7_init_0 : decode cX7_init 0 = .ok (.aload_n 0, 1) := by decide +kernel
theorem dX7_init_1 : decode cX7_init 1 = .ok (.invokespecial 3, 3) := by decide +kernel
theorem dX7_init_4 : decode cX7_init 4 = .ok (.aload_n 0, 1) := by decide +kernel
theorem dX7_init_5 : decode cX7_init 5 = .ok (.new 9, 3) := by decide +kernel
theorem dX7_init_8 : decode cX7_init 8 = .ok (.dup, 1) := by decide +kernel
theorem dX7_init_9 : decode cX7_init 9 = .ok (.invokespecial 11, 3) := by decide +kernel
theorem dX7_init_12 : decode cX7_init 12 = .ok (.putfield 12, 3) := by decide +kernel
theorem dX7_init_15 : decode cX7_init 15 = .ok (.aload_n 0, 1) := by decide +kernel
theorem dX7_init_16 : decode cX7_init 16 = .ok (.new 9, 3) := by decide +kernel
theorem dX7_init_19 : decode cX7_init 19 = .ok (.dup, 1) := by decide +kernel
theorem dX7_init_20 : decode cX7_init 20 = .ok (.invokespecial 11, 3) := by decide +kernel
theorem dX7_init_23 : decode cX7_init 23 = .ok (.putfield 18, 3) := by decide +kernel
theorem dX7_init_26 : decode cX7_init 26 = .ok (.aload_n 0, 1) := by decide +kernel
theorem dX7_init_27 : decode cX7_init 27 = .ok (.new 21, 3) := by decide +kernel
theorem dX7_init_30 : decode cX7_init 30 = .ok (.dup, 1) := by decide +kernel
theorem dX7_init_31 : decode cX7_init 31 = .ok (.invokespecial 23, 3) := by decide +kernel
theorem dX7_init_34 : decode cX7_init 34 = .ok (.putfield 24, 3) := by decide +kernel
theorem dX7_init_37 : decode cX7_init 37 = .ok (.aload_n 0, 1) := by decide +kernel
theorem dX7_init_38 : decode cX7_init 38 = .ok (.new 28, 3) := by decide +kernel
theorem dX7_init_41 : decode cX7_init 41 = .ok (.dup, 1) := by decide +kernel
theorem dX7_init_42 : decode cX7_init 42 = .ok (.invokespecial 30, 3) := by decide +kernel
theorem dX7_init_45 : decode cX7_init 45 = .ok (.putfield 31, 3) := by decide +kernel
theorem dX7_init_48 : decode cX7_init 48 = .ok (.aload_n 0, 1) := by decide +kernel
theorem dX7_init_49 : decode cX7_init 49 = .ok (.new 35, 3) := by decide +kernel
theorem dX7_init_52 : decode cX7_init 52 = .ok (.dup, 1) := by decide +kernel
theorem dX7_init_53 : decode cX7_init 53 = .ok (.invokespecial 37, 3) := by decide +kernel
theorem dX7_init_56 : decode cX7_init 56 = .ok (.putfield 38, 3) := by decide +kernel
theorem dX7_init_59 : decode cX7_init 59 = .ok (.aload_n 0, 1) := by decide +kernel
theorem dX7_init_60 : decode cX7_init 60 = .ok (.new 42, 3) := by decide +kernel
theorem dX7_init_63 : decode cX7_init 63 = .ok (.dup, 1) := by decide +kernel
theorem dX7_init_64 : decode cX7_init 64 = .ok (.invokespecial 44, 3) := by decide +kernel
theorem dX7_init_67 : decode cX7_init 67 = .ok (.putfield 45, 3) := by decide +kernel
theorem dX7_init_70 : decode cX7_init 70 = .ok (.aload_n 0, 1) := by decide +kernel
theorem dX7_init_71 : decode cX7_init 71 = .ok (.bipush 6, 2) := by decide +kernel
theorem dX7_init_73 : decode cX7_init 73 = .ok (.anewarray 49, 3) := by decide +kernel
theorem dX7_init_76 : decode cX7_init 76 = .ok (.putfield 51, 3) := by decide +kernel
theorem dX7_init_79 : decode cX7_init 79 = .ok (.aload_n 0, 1) := by decide +kernel
theorem dX7_init_80 : decode cX7_init 80 = .ok (.iconst 0, 1) := by decide +kernel
theorem dX7_init_81 : decode cX7_init 81 = .ok (.putfield 55, 3) := by decide +kernel
theorem dX7_init_84 : decode cX7_init 84 = .ok (.iconst 0, 1) := by decide +kernel
theorem dX7_init_85 : decode cX7_init 85 = .ok (.istore_n 1, 1) := by decide +kernel
theorem dX7_init_86 : decode cX7_init 86 = .ok (.iload_n 1, 1) := by decide +kernel
theorem dX7_init_87 : decode cX7_init 87 = .ok (.bipush 6, 2) := by decide +kernel
theorem dX7_init_89 : decode cX7_init 89 = .ok (.if_icmp .ge 22, 3) := by decide +kernel
theorem dX7_init_92 : decode cX7_init 92 = .ok (.aload_n 0, 1) := by decide +kernel
theorem dX7_init_93 : decode cX7_init 93 = .ok (.getfield 51, 3) := by decide +kernel
theorem dX7_init_96 : decode cX7_init 96 = .ok (.iload_n 1, 1) := by decide +kernel
theorem dX7_init_97 : decode cX7_init 97 = .ok (.new 49, 3) := by decide +kernel
theorem dX7_init_100 : decode cX7_init 100 = .ok (.dup, 1) := by decide +kernel
theorem dX7_init_101 : decode cX7_init 101 = .ok (.invokespecial 59, 3) := by decide +kernel
theorem dX7_init_104 : decode cX7_init 104 = .ok (.aastore, 1) := by decide +kernel
theorem dX7_init_105 : decode cX7_init 105 = .ok (.iinc 1 1, 3) := by decide +kernel
theorem dX7_init_108 : decode cX7_init 108 = .ok (.goto (-22), 3) := by decide +kernel
theorem dX7_init_111 : decode cX7_init 111 = .ok (.return_, 1) := by decide +kernel
theorem dX7_size_0 : decode cX7_size 0 = .ok (.iload_n 1, 1) := by decide +kernel
theorem dX7_size_1 : decode cX7_size 1 = .ok (.iconst 1, 1) := by decide +kernel
theorem dX7_size_2 : decode cX7_size 2 = .ok (.if_icmp .lt 9, 3) := by decide +kernel
theorem dX7_size_5 : decode cX7_size 5 = .ok (.iload_n 1, 1) := by decide +kernel
theorem dX7_size_6 : decode cX7_size 6 = .ok (.bipush 8, 2) := by decide +kernel
theorem dX7_size_8 : decode cX7_size 8 = .ok (.if_icmp .le 6, 3) := by decide +kernel
theorem dX7_size_11 : decode cX7_size 11 = .ok (.bipush (-2), 2) := by decide +kernel
theorem dX7_size_13 : decode cX7_size 13 = .ok (.ireturn, 1) := by decide +kernel
theorem dX7_size_14 : decode cX7_size 14 = .ok (.aload_n 0, 1) := by decide +kernel
theorem dX7_size_15 : decode cX7_size 15 = .ok (.getfield 12, 3) := by decide +kernel
theorem dX7_size_18 : decode cX7_size 18 = .ok (.getfield 60, 3) := by decide +kernel
theorem dX7_size_21 : decode cX7_size 21 = .ok (.getfield 63, 3) := by decide +kernel
theorem dX7_size_24 : decode cX7_size 24 = .ok (.istore_n 2, 1) := by decide +kernel
theorem dX7_size_25 : decode cX7_size 25 = .ok (.aload_n 0, 1) := by decide +kernel
theorem dX7_size_26 : decode cX7_size 26 = .ok (.getfield 12, 3) := by decide +kernel
theorem dX7_size_29 : decode cX7_size 29 = .ok (.getfield 60, 3) := by decide +kernel
theorem dX7_size_32 : decode cX7_size 32 = .ok (.iload_n 1, 1) := by decide +kernel
theorem dX7_size_33 : decode cX7_size 33 = .ok (.invokevirtual 67, 3) := by decide +kernel
theorem dX7_size_36 : decode cX7_size 36 = .ok (.aload_n 0, 1) := by decide +kernel
theorem dX7_size_37 : decode cX7_size 37 = .ok (.getfield 12, 3) := by decide +kernel
theorem dX7_size_40 : decode cX7_size 40 = .ok (.getfield 71, 3) := by decide +kernel
theorem dX7_size_43 : decode cX7_size 43 = .ok (.invokevirtual 75, 3) := by decide +kernel
theorem dX7_size_46 : decode cX7_size 46 = .ok (.pop, 1) := by decide +kernel
theorem dX7_size_47 : decode cX7_size 47 = .ok (.aload_n 0, 1) := by decide +kernel
theorem dX7_size_48 : decode cX7_size 48 = .ok (.getfield 12, 3) := by decide +kernel
theorem dX7_size_51 : decode cX7_size 51 = .ok (.getfield 81, 3) := by decide +kernel
theorem dX7_size_54 : decode cX7_size 54 = .ok (.invokevirtual 75, 3) := by decide +kernel
theorem dX7_size_57 : decode cX7_size 57 = .ok (.pop, 1) := by decide +kernel
theorem dX7_size_58 : decode cX7_size 58 = .ok (.aload_n 0, 1) := by decide +kernel
theorem dX7_size_59 : decode cX7_size 59 = .ok (.getfield 12, 3) := by decide +kernel
theorem dX7_size_62 : decode cX7_size 62 = .ok (.getfield 84, 3) := by decide +kernel
theorem dX7_size_65 : decode cX7_size 65 = .ok (.invokevirtual 75, 3) := by decide +kernel
theorem dX7_size_68 : decode cX7_size 68 = .ok (.pop, 1) := by decide +kernel
theorem dX7_size_69 : decode cX7_size 69 = .ok (.iload_n 2, 1) := by decide +kernel
theorem dX7_size_70 : decode cX7_size 70 = .ok (.ireturn, 1) := by decide +kernel
theorem dX7_worth_0 : decode cX7_worth 0 = .ok (.aload_n 0, 1) := by decide +kernel
theorem dX7_worth_1 : decode cX7_worth 1 = .ok (.getfield 12, 3) := by decide +kernel
theorem dX7_worth_4 : decode cX7_worth 4 = .ok (.getfield 60, 3) := by decide +kernel
theorem dX7_worth_7 : decode cX7_worth 7 = .ok (.iload_n 1, 1) := by decide +kernel
theorem dX7_worth_8 : decode cX7_worth 8 = .ok (.invokevirtual 87, 3) := by decide +kernel
theorem dX7_worth_11 : decode cX7_worth 11 = .ok (.ifCond .eq 17, 3) := by decide +kernel
theorem dX7_worth_14 : decode cX7_worth 14 = .ok (.aload_n 0, 1) := by decide +kernel
theorem dX7_worth_15 : decode cX7_worth 15 = .ok (.getfield 12, 3) := by decide +kernel
theorem dX7_worth_18 : decode cX7_worth 18 = .ok (.getfield 60, 3) := by decide +kernel
theorem dX7_worth_21 : decode cX7_worth 21 = .ok (.iload_n 2, 1) := by decide +kernel
theorem dX7_worth_22 : decode cX7_worth 22 = .ok (.invokevirtual 87, 3) := by decide +kernel
theorem dX7_worth_25 : decode cX7_worth 25 = .ok (.ifCond .ne 5, 3) := by decide +kernel
theorem dX7_worth_28 : decode cX7_worth 28 = .ok (.iconst (-1), 1) := by decide +kernel
theorem dX7_worth_29 : decode cX7_worth 29 = .ok (.ireturn, 1) := by decide +kernel
theorem dX7_worth_30 : decode cX7_worth 30 = .ok (.iload_n 3, 1) := by decide +kernel
theorem dX7_worth_31 : decode cX7_worth 31 = .ok (.iconst (-1), 1) := by decide +kernel
theorem dX7_worth_32 : decode cX7_worth 32 = .ok (.if_icmp .lt 9, 3) := by decide +kernel
theorem dX7_worth_35 : decode cX7_worth 35 = .ok (.iload_n 3, 1) := by decide +kernel
theorem dX7_worth_36 : decode cX7_worth 36 = .ok (.bipush 99, 2) := by decide +kernel
theorem dX7_worth_38 : decode cX7_worth 38 = .ok (.if_icmp .le 6, 3) := by decide +kernel
theorem dX7_worth_41 : decode cX7_worth 41 = .ok (.bipush (-2), 2) := by decide +kernel
theorem dX7_worth_43 : decode cX7_worth 43 = .ok (.ireturn, 1) := by decide +kernel
theorem dX7_worth_44 : decode cX7_worth 44 = .ok (.aload_n 0, 1) := by decide +kernel
theorem dX7_worth_45 : decode cX7_worth 45 = .ok (.iload_n 1, 1) := by decide +kernel
theorem dX7_worth_46 : decode cX7_worth 46 = .ok (.iload_n 2, 1) := by decide +kernel
theorem dX7_worth_47 : decode cX7_worth 47 = .ok (.invokevirtual 91, 3) := by decide +kernel
theorem dX7_worth_50 : decode cX7_worth 50 = .ok (.istore 4, 2) := by decide +kernel
theorem dX7_worth_52 : decode cX7_worth 52 = .ok (.aload_n 0, 1) := by decide +kernel
theorem dX7_worth_53 : decode cX7_worth 53 = .ok (.getfield 12, 3) := by decide +kernel
theorem dX7_worth_56 : decode cX7_worth 56 = .ok (.getfield 60, 3) := by decide +kernel
theorem dX7_worth_59 : decode cX7_worth 59 = .ok (.iload_n 1, 1) := by decide +kernel
theorem dX7_worth_60 : decode cX7_worth 60 = .ok (.iload_n 2, 1) := by decide +kernel
theorem dX7_worth_61 : decode cX7_worth 61 = .ok (.iload_n 3, 1) := by decide +kernel
theorem dX7_worth_62 : decode cX7_worth 62 = .ok (.invokevirtual 95, 3) := by decide +kernel
theorem dX7_worth_65 : decode cX7_worth 65 = .ok (.iload 4, 2) := by decide +kernel
theorem dX7_worth_67 : decode cX7_worth 67 = .ok (.ireturn, 1) := by decide +kernel
theorem dX7_step_0 : decode cX7_step 0 = .ok (.iload_n 1, 1) := by decide +kernel
theorem dX7_step_1 : decode cX7_step 1 = .ok (.invokestatic 99, 3) := by decide +kernel
theorem dX7_step_4 : decode cX7_step 4 = .ok (.ifCond .ne 6, 3) := by decide +kernel
theorem dX7_step_7 : decode cX7_step 7 = .ok (.bipush (-2), 2) := by decide +kernel
theorem dX7_step_9 : decode cX7_step 9 = .ok (.ireturn, 1) := by decide +kernel
theorem dX7_step_10 : decode cX7_step 10 = .ok (.aload_n 0, 1) := by decide +kernel
theorem dX7_step_11 : decode cX7_step 11 = .ok (.getfield 12, 3) := by decide +kernel
theorem dX7_step_14 : decode cX7_step 14 = .ok (.getfield 60, 3) := by decide +kernel
theorem dX7_step_17 : decode cX7_step 17 = .ok (.getfield 102, 3) := by decide +kernel
theorem dX7_step_20 : decode cX7_step 20 = .ok (.istore_n 2, 1) := by decide +kernel
theorem dX7_step_21 : decode cX7_step 21 = .ok (.aload_n 0, 1) := by decide +kernel
theorem dX7_step_22 : decode cX7_step 22 = .ok (.getfield 12, 3) := by decide +kernel
theorem dX7_step_25 : decode cX7_step 25 = .ok (.getfield 60, 3) := by decide +kernel
theorem dX7_step_28 : decode cX7_step 28 = .ok (.iload_n 1, 1) := by decide +kernel
theorem dX7_step_29 : decode cX7_step 29 = .ok (.putfield 102, 3) := by decide +kernel
theorem dX7_step_32 : decode cX7_step 32 = .ok (.iload_n 2, 1) := by decide +kernel
theorem dX7_step_33 : decode cX7_step 33 = .ok (.ireturn, 1) := by decide +kernel
theorem dX7_feed_0 : decode cX7_feed 0 = .ok (.iload_n 1, 1) := by decide +kernel
theorem dX7_feed_1 : decode cX7_feed 1 = .ok (.ifCond .lt 9, 3) := by decide +kernel
theorem dX7_feed_4 : decode cX7_feed 4 = .ok (.iload_n 1, 1) := by decide +kernel
theorem dX7_feed_5 : decode cX7_feed 5 = .ok (.bipush 127, 2) := by decide +kernel
theorem dX7_feed_7 : decode cX7_feed 7 = .ok (.if_icmp .le 6, 3) := by decide +kernel
theorem dX7_feed_10 : decode cX7_feed 10 = .ok (.bipush (-2), 2) := by decide +kernel
theorem dX7_feed_12 : decode cX7_feed 12 = .ok (.ireturn, 1) := by decide +kernel
theorem dX7_feed_13 : decode cX7_feed 13 = .ok (.aload_n 0, 1) := by decide +kernel
theorem dX7_feed_14 : decode cX7_feed 14 = .ok (.getfield 38, 3) := by decide +kernel
theorem dX7_feed_17 : decode cX7_feed 17 = .ok (.iload_n 1, 1) := by decide +kernel
theorem dX7_feed_18 : decode cX7_feed 18 = .ok (.invokevirtual 105, 3) := by decide +kernel
theorem dX7_feed_21 : decode cX7_feed 21 = .ok (.ireturn, 1) := by decide +kernel
theorem dX7_read_0 : decode cX7_read 0 = .ok (.aload_n 0, 1) := by decide +kernel
theorem dX7_read_1 : decode cX7_read 1 = .ok (.getfield 38, 3) := by decide +kernel
theorem dX7_read_4 : decode cX7_read 4 = .ok (.aload_n 0, 1) := by decide +kernel
theorem dX7_read_5 : decode cX7_read 5 = .ok (.getfield 12, 3) := by decide +kernel
theorem dX7_read_8 : decode cX7_read 8 = .ok (.getfield 60, 3) := by decide +kernel
theorem dX7_read_11 : decode cX7_read 11 = .ok (.getfield 63, 3) := by decide +kernel
theorem dX7_read_14 : decode cX7_read 14 = .ok (.invokevirtual 109, 3) := by decide +kernel
theorem dX7_read_17 : decode cX7_read 17 = .ok (.aload_n 0, 1) := by decide +kernel
theorem dX7_read_18 : decode cX7_read 18 = .ok (.getfield 38, 3) := by decide +kernel
theorem dX7_read_21 : decode cX7_read 21 = .ok (.getfield 112, 3) := by decide +kernel
theorem dX7_read_24 : decode cX7_read 24 = .ok (.istore_n 1, 1) := by decide +kernel
theorem dX7_read_25 : decode cX7_read 25 = .ok (.aload_n 0, 1) := by decide +kernel
theorem dX7_read_26 : decode cX7_read 26 = .ok (.getfield 38, 3) := by decide +kernel
theorem dX7_read_29 : decode cX7_read 29 = .ok (.getfield 115, 3) := by decide +kernel
theorem dX7_read_32 : decode cX7_read 32 = .ok (.istore_n 2, 1) := by decide +kernel
theorem dX7_read_33 : decode cX7_read 33 = .ok (.aload_n 0, 1) := by decide +kernel
theorem dX7_read_34 : decode cX7_read 34 = .ok (.getfield 38, 3) := by decide +kernel
theorem dX7_read_37 : decode cX7_read 37 = .ok (.getfield 118, 3) := by decide +kernel
theorem dX7_read_40 : decode cX7_read 40 = .ok (.ifCond .eq 7, 3) := by decide +kernel
theorem dX7_read_43 : decode cX7_read 43 = .ok (.iconst 1, 1) := by decide +kernel
theorem dX7_read_44 : decode cX7_read 44 = .ok (.goto 4, 3) := by decide +kernel
theorem dX7_read_47 : decode cX7_read 47 = .ok (.iconst 0, 1) := by decide +kernel
theorem dX7_read_48 : decode cX7_read 48 = .ok (.istore_n 3, 1) := by decide +kernel
theorem dX7_read_49 : decode cX7_read 49 = .ok (.iload_n 3, 1) := by decide +kernel
theorem dX7_read_50 : decode cX7_read 50 = .ok (.ifCond .eq 26, 3) := by decide +kernel
theorem dX7_read_53 : decode cX7_read 53 = .ok (.aload_n 0, 1) := by decide +kernel
theorem dX7_read_54 : decode cX7_read 54 = .ok (.getfield 45, 3) := by decide +kernel
theorem dX7_read_57 : decode cX7_read 57 = .ok (.aload_n 0, 1) := by decide +kernel
theorem dX7_read_58 : decode cX7_read 58 = .ok (.getfield 38, 3) := by decide +kernel
theorem dX7_read_61 : decode cX7_read 61 = .ok (.getfield 118, 3) := by decide +kernel
theorem dX7_read_64 : decode cX7_read 64 = .ok (.bipush 100, 2) := by decide +kernel
theorem dX7_read_66 : decode cX7_read 66 = .ok (.iload_n 1, 1) := by decide +kernel
theorem dX7_read_67 : decode cX7_read 67 = .ok (.iadd, 1) := by decide +kernel
theorem dX7_read_68 : decode cX7_read 68 = .ok (.bipush (-5), 2) := by decide +kernel
theorem dX7_read_70 : decode cX7_read 70 = .ok (.invokevirtual 121, 3) := by decide +kernel
theorem dX7_read_73 : decode cX7_read 73 = .ok (.goto 58, 3) := by decide +kernel
theorem dX7_read_76 : decode cX7_read 76 = .ok (.iconst 0, 1) := by decide +kernel
theorem dX7_read_77 : decode cX7_read 77 = .ok (.istore 4, 2) := by decide +kernel
theorem dX7_read_79 : decode cX7_read 79 = .ok (.iload 4, 2) := by decide +kernel
theorem dX7_read_81 : decode cX7_read 81 = .ok (.iload_n 1, 1) := by decide +kernel
theorem dX7_read_82 : decode cX7_read 82 = .ok (.if_icmp .ge 49, 3) := by decide +kernel
theorem dX7_read_85 : decode cX7_read 85 = .ok (.aload_n 0, 1) := by decide +kernel
theorem dX7_read_86 : decode cX7_read 86 = .ok (.getfield 12, 3) := by decide +kernel
theorem dX7_read_89 : decode cX7_read 89 = .ok (.getfield 60, 3) := by decide +kernel
theorem dX7_read_92 : decode cX7_read 92 = .ok (.aload_n 0, 1) := by decide +kernel
theorem dX7_read_93 : decode cX7_read 93 = .ok (.getfield 38, 3) := by decide +kernel
theorem dX7_read_96 : decode cX7_read 96 = .ok (.getfield 124, 3) := by decide +kernel
theorem dX7_read_99 : decode cX7_read 99 = .ok (.iload 4, 2) := by decide +kernel
theorem dX7_read_101 : decode cX7_read 101 = .ok (.iaload, 1) := by decide +kernel
theorem dX7_read_102 : decode cX7_read 102 = .ok (.aload_n 0, 1) := by decide +kernel
theorem dX7_read_103 : decode cX7_read 103 = .ok (.getfield 38, 3) := by decide +kernel
theorem dX7_read_106 : decode cX7_read 106 = .ok (.getfield 128, 3) := by decide +kernel
theorem dX7_read_109 : decode cX7_read 109 = .ok (.iload 4, 2) := by decide +kernel
theorem dX7_read_111 : decode cX7_read 111 = .ok (.iaload, 1) := by decide +kernel
theorem dX7_read_112 : decode cX7_read 112 = .ok (.aload_n 0, 1) := by decide +kernel
theorem dX7_read_113 : decode cX7_read 113 = .ok (.getfield 38, 3) := by decide +kernel
theorem dX7_read_116 : decode cX7_read 116 = .ok (.getfield 131, 3) := by decide +kernel
theorem dX7_read_119 : decode cX7_read 119 = .ok (.iload 4, 2) := by decide +kernel
theorem dX7_read_121 : decode cX7_read 121 = .ok (.iaload, 1) := by decide +kernel
theorem dX7_read_122 : decode cX7_read 122 = .ok (.invokevirtual 95, 3) := by decide +kernel
theorem dX7_read_125 : decode cX7_read 125 = .ok (.iinc 4 1, 3) := by decide +kernel
theorem dX7_read_128 : decode cX7_read 128 = .ok (.goto (-49), 3) := by decide +kernel
theorem dX7_read_131 : decode cX7_read 131 = .ok (.aload_n 0, 1) := by decide +kernel
theorem dX7_read_132 : decode cX7_read 132 = .ok (.getfield 38, 3) := by decide +kernel
theorem dX7_read_135 : decode cX7_read 135 = .ok (.invokevirtual 134, 3) := by decide +kernel
theorem dX7_read_138 : decode cX7_read 138 = .ok (.iload_n 3, 1) := by decide +kernel
theorem dX7_read_139 : decode cX7_read 139 = .ok (.ifCond .eq 10, 3) := by decide +kernel
theorem dX7_read_142 : decode cX7_read 142 = .ok (.bipush (-10), 2) := by decide +kernel
theorem dX7_read_144 : decode cX7_read 144 = .ok (.iload_n 2, 1) := by decide +kernel
theorem dX7_read_145 : decode cX7_read 145 = .ok (.isub, 1) := by decide +kernel
theorem dX7_read_146 : decode cX7_read 146 = .ok (.goto 4, 3) := by decide +kernel
theorem dX7_read_149 : decode cX7_read 149 = .ok (.iload_n 1, 1) := by decide +kernel
theorem dX7_read_150 : decode cX7_read 150 = .ok (.ireturn, 1) := by decide +kernel
theorem dX7_of_0 : decode cX7_of 0 = .ok (.aload_n 0, 1) := by decide +kernel
theorem dX7_of_1 : decode cX7_of 1 = .ok (.getfield 12, 3) := by decide +kernel
theorem dX7_of_4 : decode cX7_of 4 = .ok (.getfield 60, 3) := by decide +kernel
theorem dX7_of_7 : decode cX7_of 7 = .ok (.iload_n 1, 1) := by decide +kernel
theorem dX7_of_8 : decode cX7_of 8 = .ok (.invokevirtual 87, 3) := by decide +kernel
theorem dX7_of_11 : decode cX7_of 11 = .ok (.ifCond .eq 17, 3) := by decide +kernel
theorem dX7_of_14 : decode cX7_of 14 = .ok (.aload_n 0, 1) := by decide +kernel
theorem dX7_of_15 : decode cX7_of 15 = .ok (.getfield 12, 3) := by decide +kernel
theorem dX7_of_18 : decode cX7_of 18 = .ok (.getfield 60, 3) := by decide +kernel
theorem dX7_of_21 : decode cX7_of 21 = .ok (.iload_n 2, 1) := by decide +kernel
theorem dX7_of_22 : decode cX7_of 22 = .ok (.invokevirtual 87, 3) := by decide +kernel
theorem dX7_of_25 : decode cX7_of 25 = .ok (.ifCond .ne 7, 3) := by decide +kernel
theorem dX7_of_28 : decode cX7_of 28 = .ok (.ldc2_w 136, 3) := by decide +kernel
theorem dX7_of_31 : decode cX7_of 31 = .ok (.lreturn, 1) := by decide +kernel
theorem dX7_of_32 : decode cX7_of 32 = .ok (.iload_n 3, 1) := by decide +kernel
theorem dX7_of_33 : decode cX7_of 33 = .ok (.ifCond .ne 11, 3) := by decide +kernel
theorem dX7_of_36 : decode cX7_of 36 = .ok (.aload_n 0, 1) := by decide +kernel
theorem dX7_of_37 : decode cX7_of 37 = .ok (.iload_n 1, 1) := by decide +kernel
theorem dX7_of_38 : decode cX7_of 38 = .ok (.iload_n 2, 1) := by decide +kernel
theorem dX7_of_39 : decode cX7_of 39 = .ok (.invokevirtual 91, 3) := by decide +kernel
theorem dX7_of_42 : decode cX7_of 42 = .ok (.i2l, 1) := by decide +kernel
theorem dX7_of_43 : decode cX7_of 43 = .ok (.lreturn, 1) := by decide +kernel
theorem dX7_of_44 : decode cX7_of 44 = .ok (.iload_n 3, 1) := by decide +kernel
theorem dX7_of_45 : decode cX7_of 45 = .ok (.iconst 1, 1) := by decide +kernel
theorem dX7_of_46 : decode cX7_of 46 = .ok (.if_icmp .ne 32, 3) := by decide +kernel
theorem dX7_of_49 : decode cX7_of 49 = .ok (.aload_n 0, 1) := by decide +kernel
theorem dX7_of_50 : decode cX7_of 50 = .ok (.getfield 12, 3) := by decide +kernel
theorem dX7_of_53 : decode cX7_of 53 = .ok (.getfield 60, 3) := by decide +kernel
theorem dX7_of_56 : decode cX7_of 56 = .ok (.iload_n 1, 1) := by decide +kernel
theorem dX7_of_57 : decode cX7_of 57 = .ok (.iload_n 2, 1) := by decide +kernel
theorem dX7_of_58 : decode cX7_of 58 = .ok (.invokevirtual 138, 3) := by decide +kernel
theorem dX7_of_61 : decode cX7_of 61 = .ok (.ifCond .eq 17, 3) := by decide +kernel
theorem dX7_of_64 : decode cX7_of 64 = .ok (.aload_n 0, 1) := by decide +kernel
theorem dX7_of_65 : decode cX7_of 65 = .ok (.getfield 12, 3) := by decide +kernel
theorem dX7_of_68 : decode cX7_of 68 = .ok (.getfield 60, 3) := by decide +kernel
theorem dX7_of_71 : decode cX7_of 71 = .ok (.iload_n 1, 1) := by decide +kernel
theorem dX7_of_72 : decode cX7_of 72 = .ok (.iload_n 2, 1) := by decide +kernel
theorem dX7_of_73 : decode cX7_of 73 = .ok (.invokevirtual 142, 3) := by decide +kernel
theorem dX7_of_76 : decode cX7_of 76 = .ok (.i2l, 1) := by decide +kernel
theorem dX7_of_77 : decode cX7_of 77 = .ok (.lreturn, 1) := by decide +kernel
theorem dX7_of_78 : decode cX7_of 78 = .ok (.ldc2_w 136, 3) := by decide +kernel
theorem dX7_of_81 : decode cX7_of 81 = .ok (.lreturn, 1) := by decide +kernel
theorem dX7_person_0 : decode cX7_person 0 = .ok (.aload_n 0, 1) := by decide +kernel
theorem dX7_person_1 : decode cX7_person 1 = .ok (.getfield 12, 3) := by decide +kernel
theorem dX7_person_4 : decode cX7_person 4 = .ok (.getfield 60, 3) := by decide +kernel
theorem dX7_person_7 : decode cX7_person 7 = .ok (.iload_n 1, 1) := by decide +kernel
theorem dX7_person_8 : decode cX7_person 8 = .ok (.invokevirtual 87, 3) := by decide +kernel
theorem dX7_person_11 : decode cX7_person 11 = .ok (.ifCond .ne 5, 3) := by decide +kernel
theorem dX7_person_14 : decode cX7_person 14 = .ok (.iconst (-1), 1) := by decide +kernel
theorem dX7_person_15 : decode cX7_person 15 = .ok (.ireturn, 1) := by decide +kernel
theorem dX7_person_16 : decode cX7_person 16 = .ok (.iload_n 2, 1) := by decide +kernel
theorem dX7_person_17 : decode cX7_person 17 = .ok (.tableswitch 89 0 3 #[31, 47, 62, 74], 31) := by decide +kernel
theorem dX7_person_48 : decode cX7_person 48 = .ok (.aload_n 0, 1) := by decide +kernel
theorem dX7_person_49 : decode cX7_person 49 = .ok (.getfield 12, 3) := by decide +kernel
theorem dX7_person_52 : decode cX7_person 52 = .ok (.getfield 60, 3) := by decide +kernel
theorem dX7_person_55 : decode cX7_person 55 = .ok (.getfield 145, 3) := by decide +kernel
theorem dX7_person_58 : decode cX7_person 58 = .ok (.iload_n 1, 1) := by decide +kernel
theorem dX7_person_59 : decode cX7_person 59 = .ok (.iaload, 1) := by decide +kernel
theorem dX7_person_60 : decode cX7_person 60 = .ok (.invokestatic 148, 3) := by decide +kernel
theorem dX7_person_63 : decode cX7_person 63 = .ok (.ireturn, 1) := by decide +kernel
theorem dX7_person_64 : decode cX7_person 64 = .ok (.aload_n 0, 1) := by decide +kernel
theorem dX7_person_65 : decode cX7_person 65 = .ok (.getfield 12, 3) := by decide +kernel
theorem dX7_person_68 : decode cX7_person 68 = .ok (.getfield 60, 3) := by decide +kernel
theorem dX7_person_71 : decode cX7_person 71 = .ok (.iload_n 1, 1) := by decide +kernel
theorem dX7_person_72 : decode cX7_person 72 = .ok (.invokevirtual 151, 3) := by decide +kernel
theorem dX7_person_75 : decode cX7_person 75 = .ok (.invokestatic 148, 3) := by decide +kernel
theorem dX7_person_78 : decode cX7_person 78 = .ok (.ireturn, 1) := by decide +kernel
theorem dX7_person_79 : decode cX7_person 79 = .ok (.aload_n 0, 1) := by decide +kernel
theorem dX7_person_80 : decode cX7_person 80 = .ok (.getfield 12, 3) := by decide +kernel
theorem dX7_person_83 : decode cX7_person 83 = .ok (.getfield 60, 3) := by decide +kernel
theorem dX7_person_86 : decode cX7_person 86 = .ok (.iload_n 1, 1) := by decide +kernel
theorem dX7_person_87 : decode cX7_person 87 = .ok (.invokevirtual 154, 3) := by decide +kernel
theorem dX7_person_90 : decode cX7_person 90 = .ok (.ireturn, 1) := by decide +kernel
theorem dX7_person_91 : decode cX7_person 91 = .ok (.aload_n 0, 1) := by decide +kernel
theorem dX7_person_92 : decode cX7_person 92 = .ok (.getfield 12, 3) := by decide +kernel
theorem dX7_person_95 : decode cX7_person 95 = .ok (.getfield 60, 3) := by decide +kernel
theorem dX7_person_98 : decode cX7_person 98 = .ok (.iload_n 1, 1) := by decide +kernel
theorem dX7_person_99 : decode cX7_person 99 = .ok (.invokevirtual 157, 3) := by decide +kernel
theorem dX7_person_102 : decode cX7_person 102 = .ok (.invokestatic 160, 3) := by decide +kernel
theorem dX7_person_105 : decode cX7_person 105 = .ok (.ireturn, 1) := by decide +kernel
theorem dX7_person_106 : decode cX7_person 106 = .ok (.iconst (-1), 1) := by decide +kernel
theorem dX7_person_107 : decode cX7_person 107 = .ok (.ireturn, 1) := by decide +kernel
theorem dX7_thing_0 : decode cX7_thing 0 = .ok (.aload_n 0, 1) := by decide +kernel
theorem dX7_thing_1 : decode cX7_thing 1 = .ok (.getfield 12, 3) := by decide +kernel
theorem dX7_thing_4 : decode cX7_thing 4 = .ok (.getfield 60, 3) := by decide +kernel
theorem dX7_thing_7 : decode cX7_thing 7 = .ok (.iload_n 1, 1) := by decide +kernel
theorem dX7_thing_8 : decode cX7_thing 8 = .ok (.invokevirtual 87, 3) := by decide +kernel
theorem dX7_thing_11 : decode cX7_thing 11 = .ok (.ifCond .ne 5, 3) := by decide +kernel
theorem dX7_thing_14 : decode cX7_thing 14 = .ok (.iconst (-1), 1) := by decide +kernel
theorem dX7_thing_15 : decode cX7_thing 15 = .ok (.ireturn, 1) := by decide +kernel
theorem dX7_thing_16 : decode cX7_thing 16 = .ok (.iload_n 2, 1) := by decide +kernel
theorem dX7_thing_17 : decode cX7_thing 17 = .ok (.tableswitch 68 0 2 #[27, 40, 56], 27) := by decide +kernel
theorem dX7_thing_44 : decode cX7_thing 44 = .ok (.aload_n 0, 1) := by decide +kernel
theorem dX7_thing_45 : decode cX7_thing 45 = .ok (.getfield 12, 3) := by decide +kernel
theorem dX7_thing_48 : decode cX7_thing 48 = .ok (.getfield 60, 3) := by decide +kernel
theorem dX7_thing_51 : decode cX7_thing 51 = .ok (.getfield 165, 3) := by decide +kernel
theorem dX7_thing_54 : decode cX7_thing 54 = .ok (.iload_n 1, 1) := by decide +kernel
theorem dX7_thing_55 : decode cX7_thing 55 = .ok (.iaload, 1) := by decide +kernel
theorem dX7_thing_56 : decode cX7_thing 56 = .ok (.ireturn, 1) := by decide +kernel
theorem dX7_thing_57 : decode cX7_thing 57 = .ok (.aload_n 0, 1) := by decide +kernel
theorem dX7_thing_58 : decode cX7_thing 58 = .ok (.getfield 12, 3) := by decide +kernel
theorem dX7_thing_61 : decode cX7_thing 61 = .ok (.getfield 60, 3) := by decide +kernel
theorem dX7_thing_64 : decode cX7_thing 64 = .ok (.getfield 168, 3) := by decide +kernel
theorem dX7_thing_67 : decode cX7_thing 67 = .ok (.iload_n 1, 1) := by decide +kernel
theorem dX7_thing_68 : decode cX7_thing 68 = .ok (.iaload, 1) := by decide +kernel
theorem dX7_thing_69 : decode cX7_thing 69 = .ok (.invokestatic 148, 3) := by decide +kernel
theorem dX7_thing_72 : decode cX7_thing 72 = .ok (.ireturn, 1) := by decide +kernel
theorem dX7_thing_73 : decode cX7_thing 73 = .ok (.aload_n 0, 1) := by decide +kernel
theorem dX7_thing_74 : decode cX7_thing 74 = .ok (.getfield 12, 3) := by decide +kernel
theorem dX7_thing_77 : decode cX7_thing 77 = .ok (.getfield 60, 3) := by decide +kernel
theorem dX7_thing_80 : decode cX7_thing 80 = .ok (.iload_n 1, 1) := by decide +kernel
theorem dX7_thing_81 : decode cX7_thing 81 = .ok (.invokevirtual 171, 3) := by decide +kernel
theorem dX7_thing_84 : decode cX7_thing 84 = .ok (.ireturn, 1) := by decide +kernel
theorem dX7_thing_85 : decode cX7_thing 85 = .ok (.iconst (-1), 1) := by decide +kernel
theorem dX7_thing_86 : decode cX7_thing 86 = .ok (.ireturn, 1) := by decide +kernel
theorem dX7_bid_0 : decode cX7_bid 0 = .ok (.aload_n 0, 1) := by decide +kernel
theorem dX7_bid_1 : decode cX7_bid 1 = .ok (.getfield 12, 3) := by decide +kernel
theorem dX7_bid_4 : decode cX7_bid 4 = .ok (.getfield 60, 3) := by decide +kernel
theorem dX7_bid_7 : decode cX7_bid 7 = .ok (.invokevirtual 174, 3) := by decide +kernel
theorem dX7_bid_10 : decode cX7_bid 10 = .ok (.invokestatic 148, 3) := by decide +kernel
theorem dX7_bid_13 : decode cX7_bid 13 = .ok (.ireturn, 1) := by decide +kernel
theorem dX7_auction_0 : decode cX7_auction 0 = .ok (.aload_n 0, 1) := by decide +kernel
theorem dX7_auction_1 : decode cX7_auction 1 = .ok (.aload_n 0, 1) := by decide +kernel
theorem dX7_auction_2 : decode cX7_auction 2 = .ok (.getfield 12, 3) := by decide +kernel
theorem dX7_auction_5 : decode cX7_auction 5 = .ok (.getfield 60, 3) := by decide +kernel
theorem dX7_auction_8 : decode cX7_auction 8 = .ok (.invokevirtual 177, 3) := by decide +kernel
theorem dX7_auction_11 : decode cX7_auction 11 = .ok (.invokevirtual 180, 3) := by decide +kernel
theorem dX7_auction_14 : decode cX7_auction 14 = .ok (.ireturn, 1) := by decide +kernel
theorem dX7_scaled_0 : decode cX7_scaled 0 = .ok (.aload_n 0, 1) := by decide +kernel
theorem dX7_scaled_1 : decode cX7_scaled 1 = .ok (.aload_n 0, 1) := by decide +kernel
theorem dX7_scaled_2 : decode cX7_scaled 2 = .ok (.getfield 12, 3) := by decide +kernel
theorem dX7_scaled_5 : decode cX7_scaled 5 = .ok (.getfield 60, 3) := by decide +kernel
theorem dX7_scaled_8 : decode cX7_scaled 8 = .ok (.invokevirtual 183, 3) := by decide +kernel
theorem dX7_scaled_11 : decode cX7_scaled 11 = .ok (.invokevirtual 180, 3) := by decide +kernel
theorem dX7_scaled_14 : decode cX7_scaled 14 = .ok (.ireturn, 1) := by decide +kernel
theorem dX7_fresh_0 : decode cX7_fresh 0 = .ok (.aload_n 0, 1) := by decide +kernel
theorem dX7_fresh_1 : decode cX7_fresh 1 = .ok (.getfield 12, 3) := by decide +kernel
theorem dX7_fresh_4 : decode cX7_fresh 4 = .ok (.getfield 60, 3) := by decide +kernel
theorem dX7_fresh_7 : decode cX7_fresh 7 = .ok (.invokevirtual 186, 3) := by decide +kernel
theorem dX7_fresh_10 : decode cX7_fresh 10 = .ok (.istore_n 1, 1) := by decide +kernel
theorem dX7_fresh_11 : decode cX7_fresh 11 = .ok (.aload_n 0, 1) := by decide +kernel
theorem dX7_fresh_12 : decode cX7_fresh 12 = .ok (.getfield 12, 3) := by decide +kernel
theorem dX7_fresh_15 : decode cX7_fresh 15 = .ok (.getfield 60, 3) := by decide +kernel
theorem dX7_fresh_18 : decode cX7_fresh 18 = .ok (.invokevirtual 189, 3) := by decide +kernel
theorem dX7_fresh_21 : decode cX7_fresh 21 = .ok (.iload_n 1, 1) := by decide +kernel
theorem dX7_fresh_22 : decode cX7_fresh 22 = .ok (.ireturn, 1) := by decide +kernel
theorem dX7_leave_0 : decode cX7_leave 0 = .ok (.aload_n 0, 1) := by decide +kernel
theorem dX7_leave_1 : decode cX7_leave 1 = .ok (.getfield 12, 3) := by decide +kernel
theorem dX7_leave_4 : decode cX7_leave 4 = .ok (.getfield 60, 3) := by decide +kernel
theorem dX7_leave_7 : decode cX7_leave 7 = .ok (.iload_n 1, 1) := by decide +kernel
theorem dX7_leave_8 : decode cX7_leave 8 = .ok (.invokevirtual 87, 3) := by decide +kernel
theorem dX7_leave_11 : decode cX7_leave 11 = .ok (.ifCond .ne 5, 3) := by decide +kernel
theorem dX7_leave_14 : decode cX7_leave 14 = .ok (.iconst (-1), 1) := by decide +kernel
theorem dX7_leave_15 : decode cX7_leave 15 = .ok (.ireturn, 1) := by decide +kernel
theorem dX7_leave_16 : decode cX7_leave 16 = .ok (.aload_n 0, 1) := by decide +kernel
theorem dX7_leave_17 : decode cX7_leave 17 = .ok (.getfield 12, 3) := by decide +kernel
theorem dX7_leave_20 : decode cX7_leave 20 = .ok (.getfield 60, 3) := by decide +kernel
theorem dX7_leave_23 : decode cX7_leave 23 = .ok (.getfield 145, 3) := by decide +kernel
theorem dX7_leave_26 : decode cX7_leave 26 = .ok (.iload_n 1, 1) := by decide +kernel
theorem dX7_leave_27 : decode cX7_leave 27 = .ok (.iaload, 1) := by decide +kernel
theorem dX7_leave_28 : decode cX7_leave 28 = .ok (.istore_n 2, 1) := by decide +kernel
theorem dX7_leave_29 : decode cX7_leave 29 = .ok (.iload_n 2, 1) := by decide +kernel
theorem dX7_leave_30 : decode cX7_leave 30 = .ok (.ifCond .ge 6, 3) := by decide +kernel
theorem dX7_leave_33 : decode cX7_leave 33 = .ok (.bipush (-3), 2) := by decide +kernel
theorem dX7_leave_35 : decode cX7_leave 35 = .ok (.ireturn, 1) := by decide +kernel
theorem dX7_leave_36 : decode cX7_leave 36 = .ok (.aload_n 0, 1) := by decide +kernel
theorem dX7_leave_37 : decode cX7_leave 37 = .ok (.getfield 12, 3) := by decide +kernel
theorem dX7_leave_40 : decode cX7_leave 40 = .ok (.getfield 60, 3) := by decide +kernel
theorem dX7_leave_43 : decode cX7_leave 43 = .ok (.iload_n 1, 1) := by decide +kernel
theorem dX7_leave_44 : decode cX7_leave 44 = .ok (.invokevirtual 192, 3) := by decide +kernel
theorem dX7_leave_47 : decode cX7_leave 47 = .ok (.iload_n 2, 1) := by decide +kernel
theorem dX7_leave_48 : decode cX7_leave 48 = .ok (.ireturn, 1) := by decide +kernel
theorem dX7_told_0 : decode cX7_told 0 = .ok (.iload_n 1, 1) := by decide +kernel
theorem dX7_told_1 : decode cX7_told 1 = .ok (.tableswitch 184 0 9 #[55, 66, 77, 88, 103, 122, 137, 151, 162, 173], 55) := by decide +kernel
theorem dX7_told_56 : decode cX7_told 56 = .ok (.aload_n 0, 1) := by decide +kernel
theorem dX7_told_57 : decode cX7_told 57 = .ok (.getfield 12, 3) := by decide +kernel
theorem dX7_told_60 : decode cX7_told 60 = .ok (.getfield 60, 3) := by decide +kernel
theorem dX7_told_63 : decode cX7_told 63 = .ok (.getfield 63, 3) := by decide +kernel
theorem dX7_told_66 : decode cX7_told 66 = .ok (.ireturn, 1) := by decide +kernel
theorem dX7_told_67 : decode cX7_told 67 = .ok (.aload_n 0, 1) := by decide +kernel
theorem dX7_told_68 : decode cX7_told 68 = .ok (.getfield 12, 3) := by decide +kernel
theorem dX7_told_71 : decode cX7_told 71 = .ok (.getfield 60, 3) := by decide +kernel
theorem dX7_told_74 : decode cX7_told 74 = .ok (.getfield 102, 3) := by decide +kernel
theorem dX7_told_77 : decode cX7_told 77 = .ok (.ireturn, 1) := by decide +kernel
theorem dX7_told_78 : decode cX7_told 78 = .ok (.aload_n 0, 1) := by decide +kernel
theorem dX7_told_79 : decode cX7_told 79 = .ok (.getfield 12, 3) := by decide +kernel
theorem dX7_told_82 : decode cX7_told 82 = .ok (.getfield 60, 3) := by decide +kernel
theorem dX7_told_85 : decode cX7_told 85 = .ok (.invokevirtual 195, 3) := by decide +kernel
theorem dX7_told_88 : decode cX7_told 88 = .ok (.ireturn, 1) := by decide +kernel
theorem dX7_told_89 : decode cX7_told 89 = .ok (.aload_n 0, 1) := by decide +kernel
theorem dX7_told_90 : decode cX7_told 90 = .ok (.getfield 31, 3) := by decide +kernel
theorem dX7_told_93 : decode cX7_told 93 = .ok (.aload_n 0, 1) := by decide +kernel
theorem dX7_told_94 : decode cX7_told 94 = .ok (.getfield 12, 3) := by decide +kernel
theorem dX7_told_97 : decode cX7_told 97 = .ok (.getfield 60, 3) := by decide +kernel
theorem dX7_told_100 : decode cX7_told 100 = .ok (.invokevirtual 198, 3) := by decide +kernel
theorem dX7_told_103 : decode cX7_told 103 = .ok (.ireturn, 1) := by decide +kernel
theorem dX7_told_104 : decode cX7_told 104 = .ok (.aload_n 0, 1) := by decide +kernel
theorem dX7_told_105 : decode cX7_told 105 = .ok (.getfield 12, 3) := by decide +kernel
theorem dX7_told_108 : decode cX7_told 108 = .ok (.getfield 60, 3) := by decide +kernel
theorem dX7_told_111 : decode cX7_told 111 = .ok (.invokevirtual 202, 3) := by decide +kernel
theorem dX7_told_114 : decode cX7_told 114 = .ok (.ifCond .eq 7, 3) := by decide +kernel
theorem dX7_told_117 : decode cX7_told 117 = .ok (.iconst 1, 1) := by decide +kernel
theorem dX7_told_118 : decode cX7_told 118 = .ok (.goto 4, 3) := by decide +kernel
theorem dX7_told_121 : decode cX7_told 121 = .ok (.iconst 0, 1) := by decide +kernel
theorem dX7_told_122 : decode cX7_told 122 = .ok (.ireturn, 1) := by decide +kernel
theorem dX7_told_123 : decode cX7_told 123 = .ok (.aload_n 0, 1) := by decide +kernel
theorem dX7_told_124 : decode cX7_told 124 = .ok (.getfield 31, 3) := by decide +kernel
theorem dX7_told_127 : decode cX7_told 127 = .ok (.aload_n 0, 1) := by decide +kernel
theorem dX7_told_128 : decode cX7_told 128 = .ok (.getfield 12, 3) := by decide +kernel
theorem dX7_told_131 : decode cX7_told 131 = .ok (.getfield 60, 3) := by decide +kernel
theorem dX7_told_134 : decode cX7_told 134 = .ok (.invokevirtual 206, 3) := by decide +kernel
theorem dX7_told_137 : decode cX7_told 137 = .ok (.ireturn, 1) := by decide +kernel
theorem dX7_told_138 : decode cX7_told 138 = .ok (.aload_n 0, 1) := by decide +kernel
theorem dX7_told_139 : decode cX7_told 139 = .ok (.getfield 12, 3) := by decide +kernel
theorem dX7_told_142 : decode cX7_told 142 = .ok (.getfield 60, 3) := by decide +kernel
theorem dX7_told_145 : decode cX7_told 145 = .ok (.invokevirtual 209, 3) := by decide +kernel
theorem dX7_told_148 : decode cX7_told 148 = .ok (.invokestatic 148, 3) := by decide +kernel
theorem dX7_told_151 : decode cX7_told 151 = .ok (.ireturn, 1) := by decide +kernel
theorem dX7_told_152 : decode cX7_told 152 = .ok (.aload_n 0, 1) := by decide +kernel
theorem dX7_told_153 : decode cX7_told 153 = .ok (.getfield 12, 3) := by decide +kernel
theorem dX7_told_156 : decode cX7_told 156 = .ok (.getfield 60, 3) := by decide +kernel
theorem dX7_told_159 : decode cX7_told 159 = .ok (.invokevirtual 212, 3) := by decide +kernel
theorem dX7_told_162 : decode cX7_told 162 = .ok (.ireturn, 1) := by decide +kernel
theorem dX7_told_163 : decode cX7_told 163 = .ok (.aload_n 0, 1) := by decide +kernel
theorem dX7_told_164 : decode cX7_told 164 = .ok (.getfield 12, 3) := by decide +kernel
theorem dX7_told_167 : decode cX7_told 167 = .ok (.getfield 60, 3) := by decide +kernel
theorem dX7_told_170 : decode cX7_told 170 = .ok (.invokevirtual 186, 3) := by decide +kernel
theorem dX7_told_173 : decode cX7_told 173 = .ok (.ireturn, 1) := by decide +kernel
theorem dX7_told_174 : decode cX7_told 174 = .ok (.aload_n 0, 1) := by decide +kernel
theorem dX7_told_175 : decode cX7_told 175 = .ok (.getfield 12, 3) := by decide +kernel
theorem dX7_told_178 : decode cX7_told 178 = .ok (.getfield 60, 3) := by decide +kernel
theorem dX7_told_181 : decode cX7_told 181 = .ok (.invokevirtual 215, 3) := by decide +kernel
theorem dX7_told_184 : decode cX7_told 184 = .ok (.ireturn, 1) := by decide +kernel
theorem dX7_told_185 : decode cX7_told 185 = .ok (.iconst (-1), 1) := by decide +kernel
theorem dX7_told_186 : decode cX7_told 186 = .ok (.ireturn, 1) := by decide +kernel
theorem dX7_wrong_0 : decode cX7_wrong 0 = .ok (.iload_n 1, 1) := by decide +kernel
theorem dX7_wrong_1 : decode cX7_wrong 1 = .ok (.tableswitch 51 0 2 #[27, 35, 43], 27) := by decide +kernel
theorem dX7_wrong_28 : decode cX7_wrong 28 = .ok (.aload_n 0, 1) := by decide +kernel
theorem dX7_wrong_29 : decode cX7_wrong 29 = .ok (.getfield 45, 3) := by decide +kernel
theorem dX7_wrong_32 : decode cX7_wrong 32 = .ok (.getfield 218, 3) := by decide +kernel
theorem dX7_wrong_35 : decode cX7_wrong 35 = .ok (.ireturn, 1) := by decide +kernel
theorem dX7_wrong_36 : decode cX7_wrong 36 = .ok (.aload_n 0, 1) := by decide +kernel
theorem dX7_wrong_37 : decode cX7_wrong 37 = .ok (.getfield 45, 3) := by decide +kernel
theorem dX7_wrong_40 : decode cX7_wrong 40 = .ok (.getfield 219, 3) := by decide +kernel
theorem dX7_wrong_43 : decode cX7_wrong 43 = .ok (.ireturn, 1) := by decide +kernel
theorem dX7_wrong_44 : decode cX7_wrong 44 = .ok (.aload_n 0, 1) := by decide +kernel
theorem dX7_wrong_45 : decode cX7_wrong 45 = .ok (.getfield 45, 3) := by decide +kernel
theorem dX7_wrong_48 : decode cX7_wrong 48 = .ok (.getfield 222, 3) := by decide +kernel
theorem dX7_wrong_51 : decode cX7_wrong 51 = .ok (.ireturn, 1) := by decide +kernel
theorem dX7_wrong_52 : decode cX7_wrong 52 = .ok (.iload_n 1, 1) := by decide +kernel
theorem dX7_wrong_53 : decode cX7_wrong 53 = .ok (.ifCond .ge 7, 3) := by decide +kernel
theorem dX7_wrong_56 : decode cX7_wrong 56 = .ok (.iconst (-1), 1) := by decide +kernel
theorem dX7_wrong_57 : decode cX7_wrong 57 = .ok (.goto 5, 3) := by decide +kernel
theorem dX7_wrong_60 : decode cX7_wrong 60 = .ok (.bipush (-5), 2) := by decide +kernel
theorem dX7_wrong_62 : decode cX7_wrong 62 = .ok (.ireturn, 1) := by decide +kernel
theorem dX7_see_0 : decode cX7_see 0 = .ok (.iload_n 1, 1) := by decide +kernel
theorem dX7_see_1 : decode cX7_see 1 = .ok (.iconst (-1), 1) := by decide +kernel
theorem dX7_see_2 : decode cX7_see 2 = .ok (.if_icmp .ne 14, 3) := by decide +kernel
theorem dX7_see_5 : decode cX7_see 5 = .ok (.aload_n 0, 1) := by decide +kernel
theorem dX7_see_6 : decode cX7_see 6 = .ok (.getfield 12, 3) := by decide +kernel
theorem dX7_see_9 : decode cX7_see 9 = .ok (.getfield 71, 3) := by decide +kernel
theorem dX7_see_12 : decode cX7_see 12 = .ok (.invokevirtual 75, 3) := by decide +kernel
theorem dX7_see_15 : decode cX7_see 15 = .ok (.ireturn, 1) := by decide +kernel
theorem dX7_see_16 : decode cX7_see 16 = .ok (.aload_n 0, 1) := by decide +kernel
theorem dX7_see_17 : decode cX7_see 17 = .ok (.getfield 12, 3) := by decide +kernel
theorem dX7_see_20 : decode cX7_see 20 = .ok (.getfield 60, 3) := by decide +kernel
theorem dX7_see_23 : decode cX7_see 23 = .ok (.iload_n 1, 1) := by decide +kernel
theorem dX7_see_24 : decode cX7_see 24 = .ok (.invokevirtual 87, 3) := by decide +kernel
theorem dX7_see_27 : decode cX7_see 27 = .ok (.ifCond .eq 17, 3) := by decide +kernel
theorem dX7_see_30 : decode cX7_see 30 = .ok (.aload_n 0, 1) := by decide +kernel
theorem dX7_see_31 : decode cX7_see 31 = .ok (.getfield 12, 3) := by decide +kernel
theorem dX7_see_34 : decode cX7_see 34 = .ok (.getfield 60, 3) := by decide +kernel
theorem dX7_see_37 : decode cX7_see 37 = .ok (.iload_n 2, 1) := by decide +kernel
theorem dX7_see_38 : decode cX7_see 38 = .ok (.invokevirtual 87, 3) := by decide +kernel
theorem dX7_see_41 : decode cX7_see 41 = .ok (.ifCond .ne 5, 3) := by decide +kernel
theorem dX7_see_44 : decode cX7_see 44 = .ok (.iconst (-1), 1) := by decide +kernel
theorem dX7_see_45 : decode cX7_see 45 = .ok (.ireturn, 1) := by decide +kernel
theorem dX7_see_46 : decode cX7_see 46 = .ok (.aload_n 0, 1) := by decide +kernel
theorem dX7_see_47 : decode cX7_see 47 = .ok (.getfield 12, 3) := by decide +kernel
theorem dX7_see_50 : decode cX7_see 50 = .ok (.getfield 71, 3) := by decide +kernel
theorem dX7_see_53 : decode cX7_see 53 = .ok (.iload_n 1, 1) := by decide +kernel
theorem dX7_see_54 : decode cX7_see 54 = .ok (.iload_n 2, 1) := by decide +kernel
theorem dX7_see_55 : decode cX7_see 55 = .ok (.invokevirtual 225, 3) := by decide +kernel
theorem dX7_see_58 : decode cX7_see 58 = .ok (.ireturn, 1) := by decide +kernel
theorem dX7_fits_0 : decode cX7_fits 0 = .ok (.aload_n 0, 1) := by decide +kernel
theorem dX7_fits_1 : decode cX7_fits 1 = .ok (.getfield 12, 3) := by decide +kernel
theorem dX7_fits_4 : decode cX7_fits 4 = .ok (.getfield 60, 3) := by decide +kernel
theorem dX7_fits_7 : decode cX7_fits 7 = .ok (.iload_n 1, 1) := by decide +kernel
theorem dX7_fits_8 : decode cX7_fits 8 = .ok (.invokevirtual 87, 3) := by decide +kernel
theorem dX7_fits_11 : decode cX7_fits 11 = .ok (.ifCond .eq 26, 3) := by decide +kernel
theorem dX7_fits_14 : decode cX7_fits 14 = .ok (.aload_n 0, 1) := by decide +kernel
theorem dX7_fits_15 : decode cX7_fits 15 = .ok (.getfield 12, 3) := by decide +kernel
theorem dX7_fits_18 : decode cX7_fits 18 = .ok (.getfield 60, 3) := by decide +kernel
theorem dX7_fits_21 : decode cX7_fits 21 = .ok (.iload_n 2, 1) := by decide +kernel
theorem dX7_fits_22 : decode cX7_fits 22 = .ok (.invokevirtual 87, 3) := by decide +kernel
theorem dX7_fits_25 : decode cX7_fits 25 = .ok (.ifCond .eq 12, 3) := by decide +kernel
theorem dX7_fits_28 : decode cX7_fits 28 = .ok (.iload_n 3, 1) := by decide +kernel
theorem dX7_fits_29 : decode cX7_fits 29 = .ok (.ifCond .lt 8, 3) := by decide +kernel
theorem dX7_fits_32 : decode cX7_fits 32 = .ok (.iload_n 3, 1) := by decide +kernel
theorem dX7_fits_33 : decode cX7_fits 33 = .ok (.iconst 1, 1) := by decide +kernel
theorem dX7_fits_34 : decode cX7_fits 34 = .ok (.if_icmp .le 5, 3) := by decide +kernel
theorem dX7_fits_37 : decode cX7_fits 37 = .ok (.iconst (-1), 1) := by decide +kernel
theorem dX7_fits_38 : decode cX7_fits 38 = .ok (.ireturn, 1) := by decide +kernel
theorem dX7_fits_39 : decode cX7_fits 39 = .ok (.iconst 0, 1) := by decide +kernel
theorem dX7_fits_40 : decode cX7_fits 40 = .ok (.istore 4, 2) := by decide +kernel
theorem dX7_fits_42 : decode cX7_fits 42 = .ok (.bipush (-5), 2) := by decide +kernel
theorem dX7_fits_44 : decode cX7_fits 44 = .ok (.istore 5, 2) := by decide +kernel
theorem dX7_fits_46 : decode cX7_fits 46 = .ok (.iconst 0, 1) := by decide +kernel
theorem dX7_fits_47 : decode cX7_fits 47 = .ok (.istore 6, 2) := by decide +kernel
theorem dX7_fits_49 : decode cX7_fits 49 = .ok (.iload 6, 2) := by decide +kernel
theorem dX7_fits_51 : decode cX7_fits 51 = .ok (.bipush 90, 2) := by decide +kernel
theorem dX7_fits_53 : decode cX7_fits 53 = .ok (.if_icmp .gt 77, 3) := by decide +kernel
theorem dX7_fits_56 : decode cX7_fits 56 = .ok (.aload_n 0, 1) := by decide +kernel
theorem dX7_fits_57 : decode cX7_fits 57 = .ok (.getfield 24, 3) := by decide +kernel
theorem dX7_fits_60 : decode cX7_fits 60 = .ok (.aload_n 0, 1) := by decide +kernel
theorem dX7_fits_61 : decode cX7_fits 61 = .ok (.getfield 12, 3) := by decide +kernel
theorem dX7_fits_64 : decode cX7_fits 64 = .ok (.getfield 60, 3) := by decide +kernel
theorem dX7_fits_67 : decode cX7_fits 67 = .ok (.invokevirtual 227, 3) := by decide +kernel
theorem dX7_fits_70 : decode cX7_fits 70 = .ok (.aload_n 0, 1) := by decide +kernel
theorem dX7_fits_71 : decode cX7_fits 71 = .ok (.getfield 24, 3) := by decide +kernel
theorem dX7_fits_74 : decode cX7_fits 74 = .ok (.iload_n 1, 1) := by decide +kernel
theorem dX7_fits_75 : decode cX7_fits 75 = .ok (.iload_n 2, 1) := by decide +kernel
theorem dX7_fits_76 : decode cX7_fits 76 = .ok (.iload 6, 2) := by decide +kernel
theorem dX7_fits_78 : decode cX7_fits 78 = .ok (.invokevirtual 95, 3) := by decide +kernel
theorem dX7_fits_81 : decode cX7_fits 81 = .ok (.aload_n 0, 1) := by decide +kernel
theorem dX7_fits_82 : decode cX7_fits 82 = .ok (.getfield 24, 3) := by decide +kernel
theorem dX7_fits_85 : decode cX7_fits 85 = .ok (.invokevirtual 189, 3) := by decide +kernel
theorem dX7_fits_88 : decode cX7_fits 88 = .ok (.aload_n 0, 1) := by decide +kernel
theorem dX7_fits_89 : decode cX7_fits 89 = .ok (.getfield 24, 3) := by decide +kernel
theorem dX7_fits_92 : decode cX7_fits 92 = .ok (.invokevirtual 177, 3) := by decide +kernel
theorem dX7_fits_95 : decode cX7_fits 95 = .ok (.pop, 1) := by decide +kernel
theorem dX7_fits_96 : decode cX7_fits 96 = .ok (.aload_n 0, 1) := by decide +kernel
theorem dX7_fits_97 : decode cX7_fits 97 = .ok (.aload_n 0, 1) := by decide +kernel
theorem dX7_fits_98 : decode cX7_fits 98 = .ok (.getfield 24, 3) := by decide +kernel
theorem dX7_fits_101 : decode cX7_fits 101 = .ok (.invokevirtual 231, 3) := by decide +kernel
theorem dX7_fits_104 : decode cX7_fits 104 = .ok (.ifCond .eq 20, 3) := by decide +kernel
theorem dX7_fits_107 : decode cX7_fits 107 = .ok (.iload 4, 2) := by decide +kernel
theorem dX7_fits_109 : decode cX7_fits 109 = .ok (.ifCond .ne 8, 3) := by decide +kernel
theorem dX7_fits_112 : decode cX7_fits 112 = .ok (.iload 6, 2) := by decide +kernel
theorem dX7_fits_114 : decode cX7_fits 114 = .ok (.goto 5, 3) := by decide +kernel
theorem dX7_fits_117 : decode cX7_fits 117 = .ok (.iload 5, 2) := by decide +kernel
theorem dX7_fits_119 : decode cX7_fits 119 = .ok (.istore 5, 2) := by decide +kernel
theorem dX7_fits_121 : decode cX7_fits 121 = .ok (.iinc 4 1, 3) := by decide +kernel
theorem dX7_fits_124 : decode cX7_fits 124 = .ok (.iinc 6 10, 3) := by decide +kernel
theorem dX7_fits_127 : decode cX7_fits 127 = .ok (.goto (-78), 3) := by decide +kernel
theorem dX7_fits_130 : decode cX7_fits 130 = .ok (.iload_n 3, 1) := by decide +kernel
theorem dX7_fits_131 : decode cX7_fits 131 = .ok (.ifCond .ne 8, 3) := by decide +kernel
theorem dX7_fits_134 : decode cX7_fits 134 = .ok (.iload 4, 2) := by decide +kernel
theorem dX7_fits_136 : decode cX7_fits 136 = .ok (.goto 5, 3) := by decide +kernel
theorem dX7_fits_139 : decode cX7_fits 139 = .ok (.iload 5, 2) := by decide +kernel
theorem dX7_fits_141 : decode cX7_fits 141 = .ok (.ireturn, 1) := by decide +kernel
theorem dX7_odds_0 : decode cX7_odds 0 = .ok (.aload_n 0, 1) := by decide +kernel
theorem dX7_odds_1 : decode cX7_odds 1 = .ok (.getfield 12, 3) := by decide +kernel
theorem dX7_odds_4 : decode cX7_odds 4 = .ok (.getfield 60, 3) := by decide +kernel
theorem dX7_odds_7 : decode cX7_odds 7 = .ok (.iload_n 1, 1) := by decide +kernel
theorem dX7_odds_8 : decode cX7_odds 8 = .ok (.invokevirtual 87, 3) := by decide +kernel
theorem dX7_odds_11 : decode cX7_odds 11 = .ok (.ifCond .ne 7, 3) := by decide +kernel
theorem dX7_odds_14 : decode cX7_odds 14 = .ok (.ldc2_w 136, 3) := by decide +kernel
theorem dX7_odds_17 : decode cX7_odds 17 = .ok (.lreturn, 1) := by decide +kernel
theorem dX7_odds_18 : decode cX7_odds 18 = .ok (.iconst 0, 1) := by decide +kernel
theorem dX7_odds_19 : decode cX7_odds 19 = .ok (.istore_n 3, 1) := by decide +kernel
theorem dX7_odds_20 : decode cX7_odds 20 = .ok (.iconst 0, 1) := by decide +kernel
theorem dX7_odds_21 : decode cX7_odds 21 = .ok (.istore 4, 2) := by decide +kernel
theorem dX7_odds_23 : decode cX7_odds 23 = .ok (.iconst 1, 1) := by decide +kernel
theorem dX7_odds_24 : decode cX7_odds 24 = .ok (.istore 5, 2) := by decide +kernel
theorem dX7_odds_26 : decode cX7_odds 26 = .ok (.iload 5, 2) := by decide +kernel
theorem dX7_odds_28 : decode cX7_odds 28 = .ok (.bipush 46, 2) := by decide +kernel
theorem dX7_odds_30 : decode cX7_odds 30 = .ok (.if_icmp .gt 77, 3) := by decide +kernel
theorem dX7_odds_33 : decode cX7_odds 33 = .ok (.aload_n 0, 1) := by decide +kernel
theorem dX7_odds_34 : decode cX7_odds 34 = .ok (.getfield 24, 3) := by decide +kernel
theorem dX7_odds_37 : decode cX7_odds 37 = .ok (.aload_n 0, 1) := by decide +kernel
theorem dX7_odds_38 : decode cX7_odds 38 = .ok (.getfield 12, 3) := by decide +kernel
theorem dX7_odds_41 : decode cX7_odds 41 = .ok (.getfield 60, 3) := by decide +kernel
theorem dX7_odds_44 : decode cX7_odds 44 = .ok (.invokevirtual 227, 3) := by decide +kernel
theorem dX7_odds_47 : decode cX7_odds 47 = .ok (.aload_n 0, 1) := by decide +kernel
theorem dX7_odds_48 : decode cX7_odds 48 = .ok (.getfield 24, 3) := by decide +kernel
theorem dX7_odds_51 : decode cX7_odds 51 = .ok (.iload 5, 2) := by decide +kernel
theorem dX7_odds_53 : decode cX7_odds 53 = .ok (.putfield 102, 3) := by decide +kernel
theorem dX7_odds_56 : decode cX7_odds 56 = .ok (.aload_n 0, 1) := by decide +kernel
theorem dX7_odds_57 : decode cX7_odds 57 = .ok (.getfield 24, 3) := by decide +kernel
theorem dX7_odds_60 : decode cX7_odds 60 = .ok (.invokevirtual 189, 3) := by decide +kernel
theorem dX7_odds_63 : decode cX7_odds 63 = .ok (.aload_n 0, 1) := by decide +kernel
theorem dX7_odds_64 : decode cX7_odds 64 = .ok (.getfield 24, 3) := by decide +kernel
theorem dX7_odds_67 : decode cX7_odds 67 = .ok (.invokevirtual 177, 3) := by decide +kernel
theorem dX7_odds_70 : decode cX7_odds 70 = .ok (.pop, 1) := by decide +kernel
theorem dX7_odds_71 : decode cX7_odds 71 = .ok (.iinc 4 1, 3) := by decide +kernel
theorem dX7_odds_74 : decode cX7_odds 74 = .ok (.aload_n 0, 1) := by decide +kernel
theorem dX7_odds_75 : decode cX7_odds 75 = .ok (.getfield 24, 3) := by decide +kernel
theorem dX7_odds_78 : decode cX7_odds 78 = .ok (.getfield 145, 3) := by decide +kernel
theorem dX7_odds_81 : decode cX7_odds 81 = .ok (.iload_n 1, 1) := by decide +kernel
theorem dX7_odds_82 : decode cX7_odds 82 = .ok (.iaload, 1) := by decide +kernel
theorem dX7_odds_83 : decode cX7_odds 83 = .ok (.aload_n 0, 1) := by decide +kernel
theorem dX7_odds_84 : decode cX7_odds 84 = .ok (.getfield 12, 3) := by decide +kernel
theorem dX7_odds_87 : decode cX7_odds 87 = .ok (.getfield 60, 3) := by decide +kernel
theorem dX7_odds_90 : decode cX7_odds 90 = .ok (.getfield 145, 3) := by decide +kernel
theorem dX7_odds_93 : decode cX7_odds 93 = .ok (.iload_n 1, 1) := by decide +kernel
theorem dX7_odds_94 : decode cX7_odds 94 = .ok (.iaload, 1) := by decide +kernel
theorem dX7_odds_95 : decode cX7_odds 95 = .ok (.if_icmp .ne 6, 3) := by decide +kernel
theorem dX7_odds_98 : decode cX7_odds 98 = .ok (.iinc 3 1, 3) := by decide +kernel
theorem dX7_odds_101 : decode cX7_odds 101 = .ok (.iinc 5 5, 3) := by decide +kernel
theorem dX7_odds_104 : decode cX7_odds 104 = .ok (.goto (-78), 3) := by decide +kernel
theorem dX7_odds_107 : decode cX7_odds 107 = .ok (.iload_n 3, 1) := by decide +kernel
theorem dX7_odds_108 : decode cX7_odds 108 = .ok (.iload 4, 2) := by decide +kernel
theorem dX7_odds_110 : decode cX7_odds 110 = .ok (.iload_n 2, 1) := by decide +kernel
theorem dX7_odds_111 : decode cX7_odds 111 = .ok (.invokestatic 235, 3) := by decide +kernel
theorem dX7_odds_114 : decode cX7_odds 114 = .ok (.lreturn, 1) := by decide +kernel
theorem dX7_mean_0 : decode cX7_mean 0 = .ok (.aload_n 0, 1) := by decide +kernel
theorem dX7_mean_1 : decode cX7_mean 1 = .ok (.getfield 12, 3) := by decide +kernel
theorem dX7_mean_4 : decode cX7_mean 4 = .ok (.getfield 60, 3) := by decide +kernel
theorem dX7_mean_7 : decode cX7_mean 7 = .ok (.invokevirtual 215, 3) := by decide +kernel
theorem dX7_mean_10 : decode cX7_mean 10 = .ok (.aload_n 0, 1) := by decide +kernel
theorem dX7_mean_11 : decode cX7_mean 11 = .ok (.getfield 12, 3) := by decide +kernel
theorem dX7_mean_14 : decode cX7_mean 14 = .ok (.getfield 60, 3) := by decide +kernel
theorem dX7_mean_17 : decode cX7_mean 17 = .ok (.getfield 63, 3) := by decide +kernel
theorem dX7_mean_20 : decode cX7_mean 20 = .ok (.iload_n 1, 1) := by decide +kernel
theorem dX7_mean_21 : decode cX7_mean 21 = .ok (.invokestatic 235, 3) := by decide +kernel
theorem dX7_mean_24 : decode cX7_mean 24 = .ok (.lreturn, 1) := by decide +kernel
theorem dX7_plan_0 : decode cX7_plan 0 = .ok (.iload_n 1, 1) := by decide +kernel
theorem dX7_plan_1 : decode cX7_plan 1 = .ok (.iconst (-1), 1) := by decide +kernel
theorem dX7_plan_2 : decode cX7_plan 2 = .ok (.if_icmp .ne 14, 3) := by decide +kernel
theorem dX7_plan_5 : decode cX7_plan 5 = .ok (.aload_n 0, 1) := by decide +kernel
theorem dX7_plan_6 : decode cX7_plan 6 = .ok (.getfield 12, 3) := by decide +kernel
theorem dX7_plan_9 : decode cX7_plan 9 = .ok (.getfield 81, 3) := by decide +kernel
theorem dX7_plan_12 : decode cX7_plan 12 = .ok (.invokevirtual 75, 3) := by decide +kernel
theorem dX7_plan_15 : decode cX7_plan 15 = .ok (.ireturn, 1) := by decide +kernel
theorem dX7_plan_16 : decode cX7_plan 16 = .ok (.iload_n 1, 1) := by decide +kernel
theorem dX7_plan_17 : decode cX7_plan 17 = .ok (.ifCond .lt 27, 3) := by decide +kernel
theorem dX7_plan_20 : decode cX7_plan 20 = .ok (.iload_n 1, 1) := by decide +kernel
theorem dX7_plan_21 : decode cX7_plan 21 = .ok (.iconst 2, 1) := by decide +kernel
theorem dX7_plan_22 : decode cX7_plan 22 = .ok (.if_icmp .gt 22, 3) := by decide +kernel
theorem dX7_plan_25 : decode cX7_plan 25 = .ok (.iload_n 1, 1) := by decide +kernel
theorem dX7_plan_26 : decode cX7_plan 26 = .ok (.iconst 1, 1) := by decide +kernel
theorem dX7_plan_27 : decode cX7_plan 27 = .ok (.if_icmp .ne 19, 3) := by decide +kernel
theorem dX7_plan_30 : decode cX7_plan 30 = .ok (.aload_n 0, 1) := by decide +kernel
theorem dX7_plan_31 : decode cX7_plan 31 = .ok (.getfield 12, 3) := by decide +kernel
theorem dX7_plan_34 : decode cX7_plan 34 = .ok (.getfield 60, 3) := by decide +kernel
theorem dX7_plan_37 : decode cX7_plan 37 = .ok (.iload_n 2, 1) := by decide +kernel
theorem dX7_plan_38 : decode cX7_plan 38 = .ok (.invokevirtual 87, 3) := by decide +kernel
theorem dX7_plan_41 : decode cX7_plan 41 = .ok (.ifCond .ne 5, 3) := by decide +kernel
theorem dX7_plan_44 : decode cX7_plan 44 = .ok (.iconst (-1), 1) := by decide +kernel
theorem dX7_plan_45 : decode cX7_plan 45 = .ok (.ireturn, 1) := by decide +kernel
theorem dX7_plan_46 : decode cX7_plan 46 = .ok (.iload_n 1, 1) := by decide +kernel
theorem dX7_plan_47 : decode cX7_plan 47 = .ok (.iconst 2, 1) := by decide +kernel
theorem dX7_plan_48 : decode cX7_plan 48 = .ok (.if_icmp .ne 13, 3) := by decide +kernel
theorem dX7_plan_51 : decode cX7_plan 51 = .ok (.iload_n 2, 1) := by decide +kernel
theorem dX7_plan_52 : decode cX7_plan 52 = .ok (.invokestatic 99, 3) := by decide +kernel
theorem dX7_plan_55 : decode cX7_plan 55 = .ok (.ifCond .ne 6, 3) := by decide +kernel
theorem dX7_plan_58 : decode cX7_plan 58 = .ok (.bipush (-2), 2) := by decide +kernel
theorem dX7_plan_60 : decode cX7_plan 60 = .ok (.ireturn, 1) := by decide +kernel
theorem dX7_plan_61 : decode cX7_plan 61 = .ok (.aload_n 0, 1) := by decide +kernel
theorem dX7_plan_62 : decode cX7_plan 62 = .ok (.getfield 12, 3) := by decide +kernel
theorem dX7_plan_65 : decode cX7_plan 65 = .ok (.getfield 81, 3) := by decide +kernel
theorem dX7_plan_68 : decode cX7_plan 68 = .ok (.iload_n 1, 1) := by decide +kernel
theorem dX7_plan_69 : decode cX7_plan 69 = .ok (.iload_n 2, 1) := by decide +kernel
theorem dX7_plan_70 : decode cX7_plan 70 = .ok (.invokevirtual 225, 3) := by decide +kernel
theorem dX7_plan_73 : decode cX7_plan 73 = .ok (.ireturn, 1) := by decide +kernel
theorem dX7_ends_0 : decode cX7_ends 0 = .ok (.iload_n 1, 1) := by decide +kernel
theorem dX7_ends_1 : decode cX7_ends 1 = .ok (.ifCond .lt 8, 3) := by decide +kernel
theorem dX7_ends_4 : decode cX7_ends 4 = .ok (.iload_n 1, 1) := by decide +kernel
theorem dX7_ends_5 : decode cX7_ends 5 = .ok (.iconst 1, 1) := by decide +kernel
theorem dX7_ends_6 : decode cX7_ends 6 = .ok (.if_icmp .le 5, 3) := by decide +kernel
theorem dX7_ends_9 : decode cX7_ends 9 = .ok (.iconst (-1), 1) := by decide +kernel
theorem dX7_ends_10 : decode cX7_ends 10 = .ok (.ireturn, 1) := by decide +kernel
theorem dX7_ends_11 : decode cX7_ends 11 = .ok (.aload_n 0, 1) := by decide +kernel
theorem dX7_ends_12 : decode cX7_ends 12 = .ok (.getfield 24, 3) := by decide +kernel
theorem dX7_ends_15 : decode cX7_ends 15 = .ok (.aload_n 0, 1) := by decide +kernel
theorem dX7_ends_16 : decode cX7_ends 16 = .ok (.getfield 12, 3) := by decide +kernel
theorem dX7_ends_19 : decode cX7_ends 19 = .ok (.getfield 60, 3) := by decide +kernel
theorem dX7_ends_22 : decode cX7_ends 22 = .ok (.invokevirtual 227, 3) := by decide +kernel
theorem dX7_ends_25 : decode cX7_ends 25 = .ok (.iconst 0, 1) := by decide +kernel
theorem dX7_ends_26 : decode cX7_ends 26 = .ok (.istore_n 2, 1) := by decide +kernel
theorem dX7_ends_27 : decode cX7_ends 27 = .ok (.iload_n 2, 1) := by decide +kernel
theorem dX7_ends_28 : decode cX7_ends 28 = .ok (.aload_n 0, 1) := by decide +kernel
theorem dX7_ends_29 : decode cX7_ends 29 = .ok (.getfield 12, 3) := by decide +kernel
theorem dX7_ends_32 : decode cX7_ends 32 = .ok (.getfield 81, 3) := by decide +kernel
theorem dX7_ends_35 : decode cX7_ends 35 = .ok (.getfield 239, 3) := by decide +kernel
theorem dX7_ends_38 : decode cX7_ends 38 = .ok (.if_icmp .ge 40, 3) := by decide +kernel
theorem dX7_ends_41 : decode cX7_ends 41 = .ok (.aload_n 0, 1) := by decide +kernel
theorem dX7_ends_42 : decode cX7_ends 42 = .ok (.getfield 24, 3) := by decide +kernel
theorem dX7_ends_45 : decode cX7_ends 45 = .ok (.aload_n 0, 1) := by decide +kernel
theorem dX7_ends_46 : decode cX7_ends 46 = .ok (.getfield 12, 3) := by decide +kernel
theorem dX7_ends_49 : decode cX7_ends 49 = .ok (.getfield 81, 3) := by decide +kernel
theorem dX7_ends_52 : decode cX7_ends 52 = .ok (.getfield 242, 3) := by decide +kernel
theorem dX7_ends_55 : decode cX7_ends 55 = .ok (.iload_n 2, 1) := by decide +kernel
theorem dX7_ends_56 : decode cX7_ends 56 = .ok (.iaload, 1) := by decide +kernel
theorem dX7_ends_57 : decode cX7_ends 57 = .ok (.aload_n 0, 1) := by decide +kernel
theorem dX7_ends_58 : decode cX7_ends 58 = .ok (.getfield 12, 3) := by decide +kernel
theorem dX7_ends_61 : decode cX7_ends 61 = .ok (.getfield 81, 3) := by decide +kernel
theorem dX7_ends_64 : decode cX7_ends 64 = .ok (.getfield 245, 3) := by decide +kernel
theorem dX7_ends_67 : decode cX7_ends 67 = .ok (.iload_n 2, 1) := by decide +kernel
theorem dX7_ends_68 : decode cX7_ends 68 = .ok (.iaload, 1) := by decide +kernel
theorem dX7_ends_69 : decode cX7_ends 69 = .ok (.invokestatic 248, 3) := by decide +kernel
theorem dX7_ends_72 : decode cX7_ends 72 = .ok (.iinc 2 1, 3) := by decide +kernel
theorem dX7_ends_75 : decode cX7_ends 75 = .ok (.goto (-48), 3) := by decide +kernel
theorem dX7_ends_78 : decode cX7_ends 78 = .ok (.iload_n 1, 1) := by decide +kernel
theorem dX7_ends_79 : decode cX7_ends 79 = .ok (.ifCond .ne 13, 3) := by decide +kernel
theorem dX7_ends_82 : decode cX7_ends 82 = .ok (.aload_n 0, 1) := by decide +kernel
theorem dX7_ends_83 : decode cX7_ends 83 = .ok (.getfield 24, 3) := by decide +kernel
theorem dX7_ends_86 : decode cX7_ends 86 = .ok (.invokevirtual 195, 3) := by decide +kernel
theorem dX7_ends_89 : decode cX7_ends 89 = .ok (.goto 10, 3) := by decide +kernel
theorem dX7_ends_92 : decode cX7_ends 92 = .ok (.aload_n 0, 1) := by decide +kernel
theorem dX7_ends_93 : decode cX7_ends 93 = .ok (.getfield 24, 3) := by decide +kernel
theorem dX7_ends_96 : decode cX7_ends 96 = .ok (.invokevirtual 215, 3) := by decide +kernel
theorem dX7_ends_99 : decode cX7_ends 99 = .ok (.ireturn, 1) := by decide +kernel
theorem dX7_book_0 : decode cX7_book 0 = .ok (.iload_n 1, 1) := by decide +kernel
theorem dX7_book_1 : decode cX7_book 1 = .ok (.iconst (-1), 1) := by decide +kernel
theorem dX7_book_2 : decode cX7_book 2 = .ok (.if_icmp .ne 14, 3) := by decide +kernel
theorem dX7_book_5 : decode cX7_book 5 = .ok (.aload_n 0, 1) := by decide +kernel
theorem dX7_book_6 : decode cX7_book 6 = .ok (.getfield 12, 3) := by decide +kernel
theorem dX7_book_9 : decode cX7_book 9 = .ok (.getfield 84, 3) := by decide +kernel
theorem dX7_book_12 : decode cX7_book 12 = .ok (.invokevirtual 75, 3) := by decide +kernel
theorem dX7_book_15 : decode cX7_book 15 = .ok (.ireturn, 1) := by decide +kernel
theorem dX7_book_16 : decode cX7_book 16 = .ok (.aload_n 0, 1) := by decide +kernel
theorem dX7_book_17 : decode cX7_book 17 = .ok (.getfield 12, 3) := by decide +kernel
theorem dX7_book_20 : decode cX7_book 20 = .ok (.getfield 60, 3) := by decide +kernel
theorem dX7_book_23 : decode cX7_book 23 = .ok (.iload_n 1, 1) := by decide +kernel
theorem dX7_book_24 : decode cX7_book 24 = .ok (.invokevirtual 87, 3) := by decide +kernel
theorem dX7_book_27 : decode cX7_book 27 = .ok (.ifCond .ne 5, 3) := by decide +kernel
theorem dX7_book_30 : decode cX7_book 30 = .ok (.iconst (-1), 1) := by decide +kernel
theorem dX7_book_31 : decode cX7_book 31 = .ok (.ireturn, 1) := by decide +kernel
theorem dX7_book_32 : decode cX7_book 32 = .ok (.iload_n 2, 1) := by decide +kernel
theorem dX7_book_33 : decode cX7_book 33 = .ok (.ifCond .lt 10, 3) := by decide +kernel
theorem dX7_book_36 : decode cX7_book 36 = .ok (.iload_n 2, 1) := by decide +kernel
theorem dX7_book_37 : decode cX7_book 37 = .ok (.sipush 9999, 3) := by decide +kernel
theorem dX7_book_40 : decode cX7_book 40 = .ok (.if_icmp .le 6, 3) := by decide +kernel
theorem dX7_book_43 : decode cX7_book 43 = .ok (.bipush (-2), 2) := by decide +kernel
theorem dX7_book_45 : decode cX7_book 45 = .ok (.ireturn, 1) := by decide +kernel
theorem dX7_book_46 : decode cX7_book 46 = .ok (.aload_n 0, 1) := by decide +kernel
theorem dX7_book_47 : decode cX7_book 47 = .ok (.getfield 12, 3) := by decide +kernel
theorem dX7_book_50 : decode cX7_book 50 = .ok (.getfield 84, 3) := by decide +kernel
theorem dX7_book_53 : decode cX7_book 53 = .ok (.iload_n 1, 1) := by decide +kernel
theorem dX7_book_54 : decode cX7_book 54 = .ok (.iload_n 2, 1) := by decide +kernel
theorem dX7_book_55 : decode cX7_book 55 = .ok (.invokevirtual 225, 3) := by decide +kernel
theorem dX7_book_58 : decode cX7_book 58 = .ok (.ireturn, 1) := by decide +kernel
theorem dX7_looked_0 : decode cX7_looked 0 = .ok (.iconst 0, 1) := by decide +kernel
theorem dX7_looked_1 : decode cX7_looked 1 = .ok (.istore_n 1, 1) := by decide +kernel
theorem dX7_looked_2 : decode cX7_looked 2 = .ok (.iload_n 1, 1) := by decide +kernel
theorem dX7_looked_3 : decode cX7_looked 3 = .ok (.aload_n 0, 1) := by decide +kernel
theorem dX7_looked_4 : decode cX7_looked 4 = .ok (.getfield 12, 3) := by decide +kernel
theorem dX7_looked_7 : decode cX7_looked 7 = .ok (.getfield 84, 3) := by decide +kernel
theorem dX7_looked_10 : decode cX7_looked 10 = .ok (.getfield 239, 3) := by decide +kernel
theorem dX7_looked_13 : decode cX7_looked 13 = .ok (.if_icmp .ge 65, 3) := by decide +kernel
theorem dX7_looked_16 : decode cX7_looked 16 = .ok (.aload_n 0, 1) := by decide +kernel
theorem dX7_looked_17 : decode cX7_looked 17 = .ok (.getfield 12, 3) := by decide +kernel
theorem dX7_looked_20 : decode cX7_looked 20 = .ok (.getfield 84, 3) := by decide +kernel
theorem dX7_looked_23 : decode cX7_looked 23 = .ok (.getfield 242, 3) := by decide +kernel
theorem dX7_looked_26 : decode cX7_looked 26 = .ok (.iload_n 1, 1) := by decide +kernel
theorem dX7_looked_27 : decode cX7_looked 27 = .ok (.iaload, 1) := by decide +kernel
theorem dX7_looked_28 : decode cX7_looked 28 = .ok (.istore_n 2, 1) := by decide +kernel
theorem dX7_looked_29 : decode cX7_looked 29 = .ok (.aload_n 0, 1) := by decide +kernel
theorem dX7_looked_30 : decode cX7_looked 30 = .ok (.getfield 12, 3) := by decide +kernel
theorem dX7_looked_33 : decode cX7_looked 33 = .ok (.getfield 60, 3) := by decide +kernel
theorem dX7_looked_36 : decode cX7_looked 36 = .ok (.iload_n 2, 1) := by decide +kernel
theorem dX7_looked_37 : decode cX7_looked 37 = .ok (.invokevirtual 87, 3) := by decide +kernel
theorem dX7_looked_40 : decode cX7_looked 40 = .ok (.ifCond .eq 30, 3) := by decide +kernel
theorem dX7_looked_43 : decode cX7_looked 43 = .ok (.aload_n 0, 1) := by decide +kernel
theorem dX7_looked_44 : decode cX7_looked 44 = .ok (.getfield 12, 3) := by decide +kernel
theorem dX7_looked_47 : decode cX7_looked 47 = .ok (.getfield 60, 3) := by decide +kernel
theorem dX7_looked_50 : decode cX7_looked 50 = .ok (.getfield 165, 3) := by decide +kernel
theorem dX7_looked_53 : decode cX7_looked 53 = .ok (.iload_n 2, 1) := by decide +kernel
theorem dX7_looked_54 : decode cX7_looked 54 = .ok (.iaload, 1) := by decide +kernel
theorem dX7_looked_55 : decode cX7_looked 55 = .ok (.aload_n 0, 1) := by decide +kernel
theorem dX7_looked_56 : decode cX7_looked 56 = .ok (.getfield 12, 3) := by decide +kernel
theorem dX7_looked_59 : decode cX7_looked 59 = .ok (.getfield 84, 3) := by decide +kernel
theorem dX7_looked_62 : decode cX7_looked 62 = .ok (.getfield 245, 3) := by decide +kernel
theorem dX7_looked_65 : decode cX7_looked 65 = .ok (.iload_n 1, 1) := by decide +kernel
theorem dX7_looked_66 : decode cX7_looked 66 = .ok (.iaload, 1) := by decide +kernel
theorem dX7_looked_67 : decode cX7_looked 67 = .ok (.if_icmp .eq 5, 3) := by decide +kernel
theorem dX7_looked_70 : decode cX7_looked 70 = .ok (.iload_n 1, 1) := by decide +kernel
theorem dX7_looked_71 : decode cX7_looked 71 = .ok (.ireturn, 1) := by decide +kernel
theorem dX7_looked_72 : decode cX7_looked 72 = .ok (.iinc 1 1, 3) := by decide +kernel
theorem dX7_looked_75 : decode cX7_looked 75 = .ok (.goto (-73), 3) := by decide +kernel
theorem dX7_looked_78 : decode cX7_looked 78 = .ok (.bipush (-5), 2) := by decide +kernel
theorem dX7_looked_80 : decode cX7_looked 80 = .ok (.ireturn, 1) := by decide +kernel
theorem dX7_judge_0 : decode cX7_judge 0 = .ok (.iload_n 1, 1) := by decide +kernel
theorem dX7_judge_1 : decode cX7_judge 1 = .ok (.invokestatic 252, 3) := by decide +kernel
theorem dX7_judge_4 : decode cX7_judge 4 = .ok (.ifCond .ne 5, 3) := by decide +kernel
theorem dX7_judge_7 : decode cX7_judge 7 = .ok (.iconst (-1), 1) := by decide +kernel
theorem dX7_judge_8 : decode cX7_judge 8 = .ok (.ireturn, 1) := by decide +kernel
theorem dX7_judge_9 : decode cX7_judge 9 = .ok (.aload_n 0, 1) := by decide +kernel
theorem dX7_judge_10 : decode cX7_judge 10 = .ok (.getfield 51, 3) := by decide +kernel
theorem dX7_judge_13 : decode cX7_judge 13 = .ok (.iload_n 1, 1) := by decide +kernel
theorem dX7_judge_14 : decode cX7_judge 14 = .ok (.aaload, 1) := by decide +kernel
theorem dX7_judge_15 : decode cX7_judge 15 = .ok (.astore_n 3, 1) := by decide +kernel
theorem dX7_judge_16 : decode cX7_judge 16 = .ok (.aload_n 3, 1) := by decide +kernel
theorem dX7_judge_17 : decode cX7_judge 17 = .ok (.getfield 255, 3) := by decide +kernel
theorem dX7_judge_20 : decode cX7_judge 20 = .ok (.iconst (-1), 1) := by decide +kernel
theorem dX7_judge_21 : decode cX7_judge 21 = .ok (.if_icmp .eq 14, 3) := by decide +kernel
theorem dX7_judge_24 : decode cX7_judge 24 = .ok (.aload_n 3, 1) := by decide +kernel
theorem dX7_judge_25 : decode cX7_judge 25 = .ok (.getfield 255, 3) := by decide +kernel
theorem dX7_judge_28 : decode cX7_judge 28 = .ok (.iconst 3, 1) := by decide +kernel
theorem dX7_judge_29 : decode cX7_judge 29 = .ok (.if_icmp .eq 6, 3) := by decide +kernel
theorem dX7_judge_32 : decode cX7_judge 32 = .ok (.bipush (-12), 2) := by decide +kernel
theorem dX7_judge_34 : decode cX7_judge 34 = .ok (.ireturn, 1) := by decide +kernel
theorem dX7_judge_35 : decode cX7_judge 35 = .ok (.iconst 0, 1) := by decide +kernel
theorem dX7_judge_36 : decode cX7_judge 36 = .ok (.istore 4, 2) := by decide +kernel
theorem dX7_judge_38 : decode cX7_judge 38 = .ok (.iload 4, 2) := by decide +kernel
theorem dX7_judge_40 : decode cX7_judge 40 = .ok (.aload_n 0, 1) := by decide +kernel
theorem dX7_judge_41 : decode cX7_judge 41 = .ok (.getfield 12, 3) := by decide +kernel
theorem dX7_judge_44 : decode cX7_judge 44 = .ok (.getfield 60, 3) := by decide +kernel
theorem dX7_judge_47 : decode cX7_judge 47 = .ok (.getfield 63, 3) := by decide +kernel
theorem dX7_judge_50 : decode cX7_judge 50 = .ok (.if_icmp .ge 60, 3) := by decide +kernel
theorem dX7_judge_53 : decode cX7_judge 53 = .ok (.iload_n 2, 1) := by decide +kernel
theorem dX7_judge_54 : decode cX7_judge 54 = .ok (.ifCond .lt 14, 3) := by decide +kernel
theorem dX7_judge_57 : decode cX7_judge 57 = .ok (.iload_n 2, 1) := by decide +kernel
theorem dX7_judge_58 : decode cX7_judge 58 = .ok (.aload_n 3, 1) := by decide +kernel
theorem dX7_judge_59 : decode cX7_judge 59 = .ok (.getfield 258, 3) := by decide +kernel
theorem dX7_judge_62 : decode cX7_judge 62 = .ok (.iload 4, 2) := by decide +kernel
theorem dX7_judge_64 : decode cX7_judge 64 = .ok (.isub, 1) := by decide +kernel
theorem dX7_judge_65 : decode cX7_judge 65 = .ok (.if_icmp .lt 9, 3) := by decide +kernel
theorem dX7_judge_68 : decode cX7_judge 68 = .ok (.bipush 100, 2) := by decide +kernel
theorem dX7_judge_70 : decode cX7_judge 70 = .ok (.iload 4, 2) := by decide +kernel
theorem dX7_judge_72 : decode cX7_judge 72 = .ok (.iadd, 1) := by decide +kernel
theorem dX7_judge_73 : decode cX7_judge 73 = .ok (.ireturn, 1) := by decide +kernel
theorem dX7_judge_74 : decode cX7_judge 74 = .ok (.aload_n 3, 1) := by decide +kernel
theorem dX7_judge_75 : decode cX7_judge 75 = .ok (.getfield 261, 3) := by decide +kernel
theorem dX7_judge_78 : decode cX7_judge 78 = .ok (.iload_n 2, 1) := by decide +kernel
theorem dX7_judge_79 : decode cX7_judge 79 = .ok (.iload 4, 2) := by decide +kernel
theorem dX7_judge_81 : decode cX7_judge 81 = .ok (.iadd, 1) := by decide +kernel
theorem dX7_judge_82 : decode cX7_judge 82 = .ok (.laload, 1) := by decide +kernel
theorem dX7_judge_83 : decode cX7_judge 83 = .ok (.aload_n 0, 1) := by decide +kernel
theorem dX7_judge_84 : decode cX7_judge 84 = .ok (.getfield 12, 3) := by decide +kernel
theorem dX7_judge_87 : decode cX7_judge 87 = .ok (.getfield 60, 3) := by decide +kernel
theorem dX7_judge_90 : decode cX7_judge 90 = .ok (.getfield 165, 3) := by decide +kernel
theorem dX7_judge_93 : decode cX7_judge 93 = .ok (.iload 4, 2) := by decide +kernel
theorem dX7_judge_95 : decode cX7_judge 95 = .ok (.iaload, 1) := by decide +kernel
theorem dX7_judge_96 : decode cX7_judge 96 = .ok (.i2l, 1) := by decide +kernel
theorem dX7_judge_97 : decode cX7_judge 97 = .ok (.lcmp, 1) := by decide +kernel
theorem dX7_judge_98 : decode cX7_judge 98 = .ok (.ifCond .eq 6, 3) := by decide +kernel
theorem dX7_judge_101 : decode cX7_judge 101 = .ok (.iload 4, 2) := by decide +kernel
theorem dX7_judge_103 : decode cX7_judge 103 = .ok (.ireturn, 1) := by decide +kernel
theorem dX7_judge_104 : decode cX7_judge 104 = .ok (.iinc 4 1, 3) := by decide +kernel
theorem dX7_judge_107 : decode cX7_judge 107 = .ok (.goto (-69), 3) := by decide +kernel
theorem dX7_judge_110 : decode cX7_judge 110 = .ok (.bipush (-5), 2) := by decide +kernel
theorem dX7_judge_112 : decode cX7_judge 112 = .ok (.ireturn, 1) := by decide +kernel
theorem dX7_image_0 : decode cX7_image 0 = .ok (.aload_n 0, 1) := by decide +kernel
theorem dX7_image_1 : decode cX7_image 1 = .ok (.getfield 18, 3) := by decide +kernel
theorem dX7_image_4 : decode cX7_image 4 = .ok (.aload_n 0, 1) := by decide +kernel
theorem dX7_image_5 : decode cX7_image 5 = .ok (.getfield 12, 3) := by decide +kernel
theorem dX7_image_8 : decode cX7_image 8 = .ok (.invokevirtual 265, 3) := by decide +kernel
theorem dX7_image_11 : decode cX7_image 11 = .ok (.aload_n 0, 1) := by decide +kernel
theorem dX7_image_12 : decode cX7_image 12 = .ok (.iconst 1, 1) := by decide +kernel
theorem dX7_image_13 : decode cX7_image 13 = .ok (.putfield 55, 3) := by decide +kernel
theorem dX7_image_16 : decode cX7_image 16 = .ok (.aload_n 0, 1) := by decide +kernel
theorem dX7_image_17 : decode cX7_image 17 = .ok (.getfield 12, 3) := by decide +kernel
theorem dX7_image_20 : decode cX7_image 20 = .ok (.getfield 60, 3) := by decide +kernel
theorem dX7_image_23 : decode cX7_image 23 = .ok (.getfield 63, 3) := by decide +kernel
theorem dX7_image_26 : decode cX7_image 26 = .ok (.ireturn, 1) := by decide +kernel
theorem dX7_undo_0 : decode cX7_undo 0 = .ok (.aload_n 0, 1) := by decide +kernel
theorem dX7_undo_1 : decode cX7_undo 1 = .ok (.getfield 55, 3) := by decide +kernel
theorem dX7_undo_4 : decode cX7_undo 4 = .ok (.ifCond .ne 6, 3) := by decide +kernel
theorem dX7_undo_7 : decode cX7_undo 7 = .ok (.bipush (-3), 2) := by decide +kernel
theorem dX7_undo_9 : decode cX7_undo 9 = .ok (.ireturn, 1) := by decide +kernel
theorem dX7_undo_10 : decode cX7_undo 10 = .ok (.aload_n 0, 1) := by decide +kernel
theorem dX7_undo_11 : decode cX7_undo 11 = .ok (.getfield 12, 3) := by decide +kernel
theorem dX7_undo_14 : decode cX7_undo 14 = .ok (.aload_n 0, 1) := by decide +kernel
theorem dX7_undo_15 : decode cX7_undo 15 = .ok (.getfield 18, 3) := by decide +kernel
theorem dX7_undo_18 : decode cX7_undo 18 = .ok (.invokevirtual 265, 3) := by decide +kernel
theorem dX7_undo_21 : decode cX7_undo 21 = .ok (.aload_n 0, 1) := by decide +kernel
theorem dX7_undo_22 : decode cX7_undo 22 = .ok (.getfield 12, 3) := by decide +kernel
theorem dX7_undo_25 : decode cX7_undo 25 = .ok (.getfield 60, 3) := by decide +kernel
theorem dX7_undo_28 : decode cX7_undo 28 = .ok (.getfield 63, 3) := by decide +kernel
theorem dX7_undo_31 : decode cX7_undo 31 = .ok (.ireturn, 1) := by decide +kernel
theorem dX7_count_0 : decode cX7_count 0 = .ok (.iload_n 1, 1) := by decide +kernel
theorem dX7_count_1 : decode cX7_count 1 = .ok (.tableswitch 102 0 5 #[39, 50, 61, 72, 83, 91], 39) := by decide +kernel
theorem dX7_count_40 : decode cX7_count 40 = .ok (.aload_n 0, 1) := by decide +kernel
theorem dX7_count_41 : decode cX7_count 41 = .ok (.getfield 12, 3) := by decide +kernel
theorem dX7_count_44 : decode cX7_count 44 = .ok (.getfield 60, 3) := by decide +kernel
theorem dX7_count_47 : decode cX7_count 47 = .ok (.getfield 63, 3) := by decide +kernel
theorem dX7_count_50 : decode cX7_count 50 = .ok (.ireturn, 1) := by decide +kernel
theorem dX7_count_51 : decode cX7_count 51 = .ok (.aload_n 0, 1) := by decide +kernel
theorem dX7_count_52 : decode cX7_count 52 = .ok (.getfield 12, 3) := by decide +kernel
theorem dX7_count_55 : decode cX7_count 55 = .ok (.getfield 71, 3) := by decide +kernel
theorem dX7_count_58 : decode cX7_count 58 = .ok (.getfield 239, 3) := by decide +kernel
theorem dX7_count_61 : decode cX7_count 61 = .ok (.ireturn, 1) := by decide +kernel
theorem dX7_count_62 : decode cX7_count 62 = .ok (.aload_n 0, 1) := by decide +kernel
theorem dX7_count_63 : decode cX7_count 63 = .ok (.getfield 12, 3) := by decide +kernel
theorem dX7_count_66 : decode cX7_count 66 = .ok (.getfield 81, 3) := by decide +kernel
theorem dX7_count_69 : decode cX7_count 69 = .ok (.getfield 239, 3) := by decide +kernel
theorem dX7_count_72 : decode cX7_count 72 = .ok (.ireturn, 1) := by decide +kernel
theorem dX7_count_73 : decode cX7_count 73 = .ok (.aload_n 0, 1) := by decide +kernel
theorem dX7_count_74 : decode cX7_count 74 = .ok (.getfield 12, 3) := by decide +kernel
theorem dX7_count_77 : decode cX7_count 77 = .ok (.getfield 84, 3) := by decide +kernel
theorem dX7_count_80 : decode cX7_count 80 = .ok (.getfield 239, 3) := by decide +kernel
theorem dX7_count_83 : decode cX7_count 83 = .ok (.ireturn, 1) := by decide +kernel
theorem dX7_count_84 : decode cX7_count 84 = .ok (.aload_n 0, 1) := by decide +kernel
theorem dX7_count_85 : decode cX7_count 85 = .ok (.getfield 38, 3) := by decide +kernel
theorem dX7_count_88 : decode cX7_count 88 = .ok (.getfield 268, 3) := by decide +kernel
theorem dX7_count_91 : decode cX7_count 91 = .ok (.ireturn, 1) := by decide +kernel
theorem dX7_count_92 : decode cX7_count 92 = .ok (.aload_n 0, 1) := by decide +kernel
theorem dX7_count_93 : decode cX7_count 93 = .ok (.getfield 12, 3) := by decide +kernel
theorem dX7_count_96 : decode cX7_count 96 = .ok (.getfield 60, 3) := by decide +kernel
theorem dX7_count_99 : decode cX7_count 99 = .ok (.invokevirtual 269, 3) := by decide +kernel
theorem dX7_count_102 : decode cX7_count 102 = .ok (.ireturn, 1) := by decide +kernel
theorem dX7_count_103 : decode cX7_count 103 = .ok (.bipush (-2), 2) := by decide +kernel
theorem dX7_count_105 : decode cX7_count 105 = .ok (.ireturn, 1) := by decide +kernel
theorem dX7_tape_0 : decode cX7_tape 0 = .ok (.iload_n 1, 1) := by decide +kernel
theorem dX7_tape_1 : decode cX7_tape 1 = .ok (.invokestatic 252, 3) := by decide +kernel
theorem dX7_tape_4 : decode cX7_tape 4 = .ok (.ifCond .ne 5, 3) := by decide +kernel
theorem dX7_tape_7 : decode cX7_tape 7 = .ok (.iconst (-1), 1) := by decide +kernel
theorem dX7_tape_8 : decode cX7_tape 8 = .ok (.ireturn, 1) := by decide +kernel
theorem dX7_tape_9 : decode cX7_tape 9 = .ok (.iload_n 2, 1) := by decide +kernel
theorem dX7_tape_10 : decode cX7_tape 10 = .ok (.iconst (-1), 1) := by decide +kernel
theorem dX7_tape_11 : decode cX7_tape 11 = .ok (.if_icmp .ne 16, 3) := by decide +kernel
theorem dX7_tape_14 : decode cX7_tape 14 = .ok (.aload_n 0, 1) := by decide +kernel
theorem dX7_tape_15 : decode cX7_tape 15 = .ok (.getfield 51, 3) := by decide +kernel
theorem dX7_tape_18 : decode cX7_tape 18 = .ok (.iload_n 1, 1) := by decide +kernel
theorem dX7_tape_19 : decode cX7_tape 19 = .ok (.aaload, 1) := by decide +kernel
theorem dX7_tape_20 : decode cX7_tape 20 = .ok (.iload_n 2, 1) := by decide +kernel
theorem dX7_tape_21 : decode cX7_tape 21 = .ok (.iconst 0, 1) := by decide +kernel
theorem dX7_tape_22 : decode cX7_tape 22 = .ok (.invokevirtual 272, 3) := by decide +kernel
theorem dX7_tape_25 : decode cX7_tape 25 = .ok (.iconst 1, 1) := by decide +kernel
theorem dX7_tape_26 : decode cX7_tape 26 = .ok (.ireturn, 1) := by decide +kernel
theorem dX7_tape_27 : decode cX7_tape 27 = .ok (.iload_n 2, 1) := by decide +kernel
theorem dX7_tape_28 : decode cX7_tape 28 = .ok (.ifCond .lt 14, 3) := by decide +kernel
theorem dX7_tape_31 : decode cX7_tape 31 = .ok (.iload_n 2, 1) := by decide +kernel
theorem dX7_tape_32 : decode cX7_tape 32 = .ok (.iconst 4, 1) := by decide +kernel
theorem dX7_tape_33 : decode cX7_tape 33 = .ok (.if_icmp .gt 9, 3) := by decide +kernel
theorem dX7_tape_36 : decode cX7_tape 36 = .ok (.iload_n 3, 1) := by decide +kernel
theorem dX7_tape_37 : decode cX7_tape 37 = .ok (.bipush 60, 2) := by decide +kernel
theorem dX7_tape_39 : decode cX7_tape 39 = .ok (.if_icmp .le 6, 3) := by decide +kernel
theorem dX7_tape_42 : decode cX7_tape 42 = .ok (.bipush (-2), 2) := by decide +kernel
theorem dX7_tape_44 : decode cX7_tape 44 = .ok (.ireturn, 1) := by decide +kernel
theorem dX7_tape_45 : decode cX7_tape 45 = .ok (.iload_n 3, 1) := by decide +kernel
theorem dX7_tape_46 : decode cX7_tape 46 = .ok (.ifCond .ge 6, 3) := by decide +kernel
theorem dX7_tape_49 : decode cX7_tape 49 = .ok (.bipush (-14), 2) := by decide +kernel
theorem dX7_tape_51 : decode cX7_tape 51 = .ok (.ireturn, 1) := by decide +kernel
theorem dX7_tape_52 : decode cX7_tape 52 = .ok (.aload_n 0, 1) := by decide +kernel
theorem dX7_tape_53 : decode cX7_tape 53 = .ok (.getfield 51, 3) := by decide +kernel
theorem dX7_tape_56 : decode cX7_tape 56 = .ok (.iload_n 1, 1) := by decide +kernel
theorem dX7_tape_57 : decode cX7_tape 57 = .ok (.aaload, 1) := by decide +kernel
theorem dX7_tape_58 : decode cX7_tape 58 = .ok (.iload_n 2, 1) := by decide +kernel
theorem dX7_tape_59 : decode cX7_tape 59 = .ok (.iload_n 3, 1) := by decide +kernel
theorem dX7_tape_60 : decode cX7_tape 60 = .ok (.invokevirtual 272, 3) := by decide +kernel
theorem dX7_tape_63 : decode cX7_tape 63 = .ok (.iconst 1, 1) := by decide +kernel
theorem dX7_tape_64 : decode cX7_tape 64 = .ok (.ireturn, 1) := by decide +kernel
theorem dX7_item_0 : decode cX7_item 0 = .ok (.iload_n 1, 1) := by decide +kernel
theorem dX7_item_1 : decode cX7_item 1 = .ok (.invokestatic 252, 3) := by decide +kernel
theorem dX7_item_4 : decode cX7_item 4 = .ok (.ifCond .ne 5, 3) := by decide +kernel
theorem dX7_item_7 : decode cX7_item 7 = .ok (.iconst (-1), 1) := by decide +kernel
theorem dX7_item_8 : decode cX7_item 8 = .ok (.ireturn, 1) := by decide +kernel
theorem dX7_item_9 : decode cX7_item 9 = .ok (.aload_n 0, 1) := by decide +kernel
theorem dX7_item_10 : decode cX7_item 10 = .ok (.getfield 51, 3) := by decide +kernel
theorem dX7_item_13 : decode cX7_item 13 = .ok (.iload_n 1, 1) := by decide +kernel
theorem dX7_item_14 : decode cX7_item 14 = .ok (.aaload, 1) := by decide +kernel
theorem dX7_item_15 : decode cX7_item 15 = .ok (.getfield 255, 3) := by decide +kernel
theorem dX7_item_18 : decode cX7_item 18 = .ok (.iconst (-1), 1) := by decide +kernel
theorem dX7_item_19 : decode cX7_item 19 = .ok (.if_icmp .ne 6, 3) := by decide +kernel
theorem dX7_item_22 : decode cX7_item 22 = .ok (.bipush (-11), 2) := by decide +kernel
theorem dX7_item_24 : decode cX7_item 24 = .ok (.ireturn, 1) := by decide +kernel
theorem dX7_item_25 : decode cX7_item 25 = .ok (.aload_n 0, 1) := by decide +kernel
theorem dX7_item_26 : decode cX7_item 26 = .ok (.getfield 51, 3) := by decide +kernel
theorem dX7_item_29 : decode cX7_item 29 = .ok (.iload_n 1, 1) := by decide +kernel
theorem dX7_item_30 : decode cX7_item 30 = .ok (.aaload, 1) := by decide +kernel
theorem dX7_item_31 : decode cX7_item 31 = .ok (.iload_n 2, 1) := by decide +kernel
theorem dX7_item_32 : decode cX7_item 32 = .ok (.invokevirtual 276, 3) := by decide +kernel
theorem dX7_item_35 : decode cX7_item 35 = .ok (.ifCond .ne 6, 3) := by decide +kernel
theorem dX7_item_38 : decode cX7_item 38 = .ok (.bipush (-13), 2) := by decide +kernel
theorem dX7_item_40 : decode cX7_item 40 = .ok (.ireturn, 1) := by decide +kernel
theorem dX7_item_41 : decode cX7_item 41 = .ok (.aload_n 0, 1) := by decide +kernel
theorem dX7_item_42 : decode cX7_item 42 = .ok (.getfield 51, 3) := by decide +kernel
theorem dX7_item_45 : decode cX7_item 45 = .ok (.iload_n 1, 1) := by decide +kernel
theorem dX7_item_46 : decode cX7_item 46 = .ok (.aaload, 1) := by decide +kernel
theorem dX7_item_47 : decode cX7_item 47 = .ok (.getfield 261, 3) := by decide +kernel
theorem dX7_item_50 : decode cX7_item 50 = .ok (.iload_n 2, 1) := by decide +kernel
theorem dX7_item_51 : decode cX7_item 51 = .ok (.aload_n 0, 1) := by decide +kernel
theorem dX7_item_52 : decode cX7_item 52 = .ok (.getfield 51, 3) := by decide +kernel
theorem dX7_item_55 : decode cX7_item 55 = .ok (.iload_n 1, 1) := by decide +kernel
theorem dX7_item_56 : decode cX7_item 56 = .ok (.aaload, 1) := by decide +kernel
theorem dX7_item_57 : decode cX7_item 57 = .ok (.lload_n 3, 1) := by decide +kernel
theorem dX7_item_58 : decode cX7_item 58 = .ok (.invokevirtual 279, 3) := by decide +kernel
theorem dX7_item_61 : decode cX7_item 61 = .ok (.lastore, 1) := by decide +kernel
theorem dX7_item_62 : decode cX7_item 62 = .ok (.iconst 1, 1) := by decide +kernel
theorem dX7_item_63 : decode cX7_item 63 = .ok (.ireturn, 1) := by decide +kernel
theorem dX7_peek_0 : decode cX7_peek 0 = .ok (.iload_n 1, 1) := by decide +kernel
theorem dX7_peek_1 : decode cX7_peek 1 = .ok (.invokestatic 252, 3) := by decide +kernel
theorem dX7_peek_4 : decode cX7_peek 4 = .ok (.ifCond .eq 16, 3) := by decide +kernel
theorem dX7_peek_7 : decode cX7_peek 7 = .ok (.aload_n 0, 1) := by decide +kernel
theorem dX7_peek_8 : decode cX7_peek 8 = .ok (.getfield 51, 3) := by decide +kernel
theorem dX7_peek_11 : decode cX7_peek 11 = .ok (.iload_n 1, 1) := by decide +kernel
theorem dX7_peek_12 : decode cX7_peek 12 = .ok (.aaload, 1) := by decide +kernel
theorem dX7_peek_13 : decode cX7_peek 13 = .ok (.iload_n 2, 1) := by decide +kernel
theorem dX7_peek_14 : decode cX7_peek 14 = .ok (.invokevirtual 276, 3) := by decide +kernel
theorem dX7_peek_17 : decode cX7_peek 17 = .ok (.ifCond .ne 7, 3) := by decide +kernel
theorem dX7_peek_20 : decode cX7_peek 20 = .ok (.ldc2_w 136, 3) := by decide +kernel
theorem dX7_peek_23 : decode cX7_peek 23 = .ok (.lreturn, 1) := by decide +kernel
theorem dX7_peek_24 : decode cX7_peek 24 = .ok (.aload_n 0, 1) := by decide +kernel
theorem dX7_peek_25 : decode cX7_peek 25 = .ok (.getfield 51, 3) := by decide +kernel
theorem dX7_peek_28 : decode cX7_peek 28 = .ok (.iload_n 1, 1) := by decide +kernel
theorem dX7_peek_29 : decode cX7_peek 29 = .ok (.aaload, 1) := by decide +kernel
theorem dX7_peek_30 : decode cX7_peek 30 = .ok (.getfield 261, 3) := by decide +kernel
theorem dX7_peek_33 : decode cX7_peek 33 = .ok (.iload_n 2, 1) := by decide +kernel
theorem dX7_peek_34 : decode cX7_peek 34 = .ok (.laload, 1) := by decide +kernel
theorem dX7_peek_35 : decode cX7_peek 35 = .ok (.lreturn, 1) := by decide +kernel
theorem dX7_shift_0 : decode cX7_shift 0 = .ok (.iload_n 1, 1) := by decide +kernel
theorem dX7_shift_1 : decode cX7_shift 1 = .ok (.invokestatic 252, 3) := by decide +kernel
theorem dX7_shift_4 : decode cX7_shift 4 = .ok (.ifCond .eq 10, 3) := by decide +kernel
theorem dX7_shift_7 : decode cX7_shift 7 = .ok (.iload_n 3, 1) := by decide +kernel
theorem dX7_shift_8 : decode cX7_shift 8 = .ok (.invokestatic 252, 3) := by decide +kernel
theorem dX7_shift_11 : decode cX7_shift 11 = .ok (.ifCond .ne 5, 3) := by decide +kernel
theorem dX7_shift_14 : decode cX7_shift 14 = .ok (.iconst (-1), 1) := by decide +kernel
theorem dX7_shift_15 : decode cX7_shift 15 = .ok (.ireturn, 1) := by decide +kernel
theorem dX7_shift_16 : decode cX7_shift 16 = .ok (.aload_n 0, 1) := by decide +kernel
theorem dX7_shift_17 : decode cX7_shift 17 = .ok (.getfield 51, 3) := by decide +kernel
theorem dX7_shift_20 : decode cX7_shift 20 = .ok (.iload_n 1, 1) := by decide +kernel
theorem dX7_shift_21 : decode cX7_shift 21 = .ok (.aaload, 1) := by decide +kernel
theorem dX7_shift_22 : decode cX7_shift 22 = .ok (.astore 6, 2) := by decide +kernel
theorem dX7_shift_24 : decode cX7_shift 24 = .ok (.aload_n 0, 1) := by decide +kernel
theorem dX7_shift_25 : decode cX7_shift 25 = .ok (.getfield 51, 3) := by decide +kernel
theorem dX7_shift_28 : decode cX7_shift 28 = .ok (.iload_n 3, 1) := by decide +kernel
theorem dX7_shift_29 : decode cX7_shift 29 = .ok (.aaload, 1) := by decide +kernel
theorem dX7_shift_30 : decode cX7_shift 30 = .ok (.astore 7, 2) := by decide +kernel
theorem dX7_shift_32 : decode cX7_shift 32 = .ok (.aload 6, 2) := by decide +kernel
theorem dX7_shift_34 : decode cX7_shift 34 = .ok (.getfield 255, 3) := by decide +kernel
theorem dX7_shift_37 : decode cX7_shift 37 = .ok (.iconst (-1), 1) := by decide +kernel
theorem dX7_shift_38 : decode cX7_shift 38 = .ok (.if_icmp .eq 12, 3) := by decide +kernel
theorem dX7_shift_41 : decode cX7_shift 41 = .ok (.aload 7, 2) := by decide +kernel
theorem dX7_shift_43 : decode cX7_shift 43 = .ok (.getfield 255, 3) := by decide +kernel
theorem dX7_shift_46 : decode cX7_shift 46 = .ok (.iconst (-1), 1) := by decide +kernel
theorem dX7_shift_47 : decode cX7_shift 47 = .ok (.if_icmp .ne 6, 3) := by decide +kernel
theorem dX7_shift_50 : decode cX7_shift 50 = .ok (.bipush (-11), 2) := by decide +kernel
theorem dX7_shift_52 : decode cX7_shift 52 = .ok (.ireturn, 1) := by decide +kernel
theorem dX7_shift_53 : decode cX7_shift 53 = .ok (.aload 6, 2) := by decide +kernel
theorem dX7_shift_55 : decode cX7_shift 55 = .ok (.getfield 255, 3) := by decide +kernel
theorem dX7_shift_58 : decode cX7_shift 58 = .ok (.aload 7, 2) := by decide +kernel
theorem dX7_shift_60 : decode cX7_shift 60 = .ok (.getfield 255, 3) := by decide +kernel
theorem dX7_shift_63 : decode cX7_shift 63 = .ok (.if_icmp .eq 6, 3) := by decide +kernel
theorem dX7_shift_66 : decode cX7_shift 66 = .ok (.bipush (-12), 2) := by decide +kernel
theorem dX7_shift_68 : decode cX7_shift 68 = .ok (.ireturn, 1) := by decide +kernel
theorem dX7_shift_69 : decode cX7_shift 69 = .ok (.aload 6, 2) := by decide +kernel
theorem dX7_shift_71 : decode cX7_shift 71 = .ok (.iload_n 2, 1) := by decide +kernel
theorem dX7_shift_72 : decode cX7_shift 72 = .ok (.iload 5, 2) := by decide +kernel
theorem dX7_shift_74 : decode cX7_shift 74 = .ok (.invokevirtual 283, 3) := by decide +kernel
theorem dX7_shift_77 : decode cX7_shift 77 = .ok (.ifCond .eq 15, 3) := by decide +kernel
theorem dX7_shift_80 : decode cX7_shift 80 = .ok (.aload 7, 2) := by decide +kernel
theorem dX7_shift_82 : decode cX7_shift 82 = .ok (.iload 4, 2) := by decide +kernel
theorem dX7_shift_84 : decode cX7_shift 84 = .ok (.iload 5, 2) := by decide +kernel
theorem dX7_shift_86 : decode cX7_shift 86 = .ok (.invokevirtual 283, 3) := by decide +kernel
theorem dX7_shift_89 : decode cX7_shift 89 = .ok (.ifCond .ne 6, 3) := by decide +kernel
theorem dX7_shift_92 : decode cX7_shift 92 = .ok (.bipush (-13), 2) := by decide +kernel
theorem dX7_shift_94 : decode cX7_shift 94 = .ok (.ireturn, 1) := by decide +kernel
theorem dX7_shift_95 : decode cX7_shift 95 = .ok (.aload 6, 2) := by decide +kernel
theorem dX7_shift_97 : decode cX7_shift 97 = .ok (.getfield 261, 3) := by decide +kernel
theorem dX7_shift_100 : decode cX7_shift 100 = .ok (.iload_n 2, 1) := by decide +kernel
theorem dX7_shift_101 : decode cX7_shift 101 = .ok (.aload 7, 2) := by decide +kernel
theorem dX7_shift_103 : decode cX7_shift 103 = .ok (.getfield 261, 3) := by decide +kernel
theorem dX7_shift_106 : decode cX7_shift 106 = .ok (.iload 4, 2) := by decide +kernel
theorem dX7_shift_108 : decode cX7_shift 108 = .ok (.iload 5, 2) := by decide +kernel
theorem dX7_shift_110 : decode cX7_shift 110 = .ok (.invokestatic 286, 3) := by decide +kernel
theorem dX7_shift_113 : decode cX7_shift 113 = .ok (.iload 5, 2) := by decide +kernel
theorem dX7_shift_115 : decode cX7_shift 115 = .ok (.ireturn, 1) := by decide +kernel
theorem dX7_isStep_0 : decode cX7_isStep 0 = .ok (.iload_n 0, 1) := by decide +kernel
theorem dX7_isStep_1 : decode cX7_isStep 1 = .ok (.iconst 1, 1) := by decide +kernel
theorem dX7_isStep_2 : decode cX7_isStep 2 = .ok (.if_icmp .lt 13, 3) := by decide +kernel
theorem dX7_isStep_5 : decode cX7_isStep 5 = .ok (.iload_n 0, 1) := by decide +kernel
theorem dX7_isStep_6 : decode cX7_isStep 6 = .ok (.bipush 50, 2) := by decide +kernel
theorem dX7_isStep_8 : decode cX7_isStep 8 = .ok (.if_icmp .gt 7, 3) := by decide +kernel
theorem dX7_isStep_11 : decode cX7_isStep 11 = .ok (.iconst 1, 1) := by decide +kernel
theorem dX7_isStep_12 : decode cX7_isStep 12 = .ok (.goto 4, 3) := by decide +kernel
theorem dX7_isStep_15 : decode cX7_isStep 15 = .ok (.iconst 0, 1) := by decide +kernel
theorem dX7_isStep_16 : decode cX7_isStep 16 = .ok (.ireturn, 1) := by decide +kernel
theorem dX7_isTape_0 : decode cX7_isTape 0 = .ok (.iload_n 0, 1) := by decide +kernel
theorem dX7_isTape_1 : decode cX7_isTape 1 = .ok (.ifCond .lt 13, 3) := by decide +kernel
theorem dX7_isTape_4 : decode cX7_isTape 4 = .ok (.iload_n 0, 1) := by decide +kernel
theorem dX7_isTape_5 : decode cX7_isTape 5 = .ok (.bipush 6, 2) := by decide +kernel
theorem dX7_isTape_7 : decode cX7_isTape 7 = .ok (.if_icmp .ge 7, 3) := by decide +kernel
theorem dX7_isTape_10 : decode cX7_isTape 10 = .ok (.iconst 1, 1) := by decide +kernel
theorem dX7_isTape_11 : decode cX7_isTape 11 = .ok (.goto 4, 3) := by decide +kernel
theorem dX7_isTape_14 : decode cX7_isTape 14 = .ok (.iconst 0, 1) := by decide +kernel
theorem dX7_isTape_15 : decode cX7_isTape 15 = .ok (.ireturn, 1) := by decide +kernel
theorem dX7_shownNumber_0 : decode cX7_shownNumber 0 = .ok (.iload_n 0, 1) := by decide +kernel
theorem dX7_shownNumber_1 : decode cX7_shownNumber 1 = .ok (.ifCond .ge 8, 3) := by decide +kernel
theorem dX7_shownNumber_4 : decode cX7_shownNumber 4 = .ok (.bipush (-5), 2) := by decide +kernel
theorem dX7_shownNumber_6 : decode cX7_shownNumber 6 = .ok (.goto 4, 3) := by decide +kernel
theorem dX7_shownNumber_9 : decode cX7_shownNumber 9 = .ok (.iload_n 0, 1) := by decide +kernel
theorem dX7_shownNumber_10 : decode cX7_shownNumber 10 = .ok (.ireturn, 1) := by decide +kernel
theorem dX7_shownWorth_0 : decode cX7_shownWorth 0 = .ok (.aload_n 0, 1) := by decide +kernel
theorem dX7_shownWorth_1 : decode cX7_shownWorth 1 = .ok (.getfield 12, 3) := by decide +kernel
theorem dX7_shownWorth_4 : decode cX7_shownWorth 4 = .ok (.getfield 60, 3) := by decide +kernel
theorem dX7_shownWorth_7 : decode cX7_shownWorth 7 = .ok (.iload_n 1, 1) := by decide +kernel
theorem dX7_shownWorth_8 : decode cX7_shownWorth 8 = .ok (.iload_n 2, 1) := by decide +kernel
theorem dX7_shownWorth_9 : decode cX7_shownWorth 9 = .ok (.invokevirtual 138, 3) := by decide +kernel
theorem dX7_shownWorth_12 : decode cX7_shownWorth 12 = .ok (.ifCond .eq 20, 3) := by decide +kernel
theorem dX7_shownWorth_15 : decode cX7_shownWorth 15 = .ok (.aload_n 0, 1) := by decide +kernel
theorem dX7_shownWorth_16 : decode cX7_shownWorth 16 = .ok (.getfield 12, 3) := by decide +kernel
theorem dX7_shownWorth_19 : decode cX7_shownWorth 19 = .ok (.getfield 60, 3) := by decide +kernel
theorem dX7_shownWorth_22 : decode cX7_shownWorth 22 = .ok (.getfield 292, 3) := by decide +kernel
theorem dX7_shownWorth_25 : decode cX7_shownWorth 25 = .ok (.iload_n 1, 1) := by decide +kernel
theorem dX7_shownWorth_26 : decode cX7_shownWorth 26 = .ok (.aaload, 1) := by decide +kernel
theorem dX7_shownWorth_27 : decode cX7_shownWorth 27 = .ok (.iload_n 2, 1) := by decide +kernel
theorem dX7_shownWorth_28 : decode cX7_shownWorth 28 = .ok (.iaload, 1) := by decide +kernel
theorem dX7_shownWorth_29 : decode cX7_shownWorth 29 = .ok (.goto 5, 3) := by decide +kernel
theorem dX7_shownWorth_32 : decode cX7_shownWorth 32 = .ok (.bipush (-5), 2) := by decide +kernel
theorem dX7_shownWorth_34 : decode cX7_shownWorth 34 = .ok (.ireturn, 1) := by decide +kernel
theorem dX7_reported_0 : decode cX7_reported 0 = .ok (.aload_n 0, 1) := by decide +kernel
theorem dX7_reported_1 : decode cX7_reported 1 = .ok (.getfield 12, 3) := by decide +kernel
theorem dX7_reported_4 : decode cX7_reported 4 = .ok (.getfield 60, 3) := by decide +kernel
theorem dX7_reported_7 : decode cX7_reported 7 = .ok (.astore_n 2, 1) := by decide +kernel
theorem dX7_reported_8 : decode cX7_reported 8 = .ok (.aload_n 2, 1) := by decide +kernel
theorem dX7_reported_9 : decode cX7_reported 9 = .ok (.getfield 295, 3) := by decide +kernel
theorem dX7_reported_12 : decode cX7_reported 12 = .ok (.ifCond .lt 26, 3) := by decide +kernel
theorem dX7_reported_15 : decode cX7_reported 15 = .ok (.aload_n 0, 1) := by decide +kernel
theorem dX7_reported_16 : decode cX7_reported 16 = .ok (.getfield 45, 3) := by decide +kernel
theorem dX7_reported_19 : decode cX7_reported 19 = .ok (.iconst 4, 1) := by decide +kernel
theorem dX7_reported_20 : decode cX7_reported 20 = .ok (.sipush 200, 3) := by decide +kernel
theorem dX7_reported_23 : decode cX7_reported 23 = .ok (.aload_n 2, 1) := by decide +kernel
theorem dX7_reported_24 : decode cX7_reported 24 = .ok (.getfield 295, 3) := by decide +kernel
theorem dX7_reported_27 : decode cX7_reported 27 = .ok (.iadd, 1) := by decide +kernel
theorem dX7_reported_28 : decode cX7_reported 28 = .ok (.bipush (-5), 2) := by decide +kernel
theorem dX7_reported_30 : decode cX7_reported 30 = .ok (.invokevirtual 121, 3) := by decide +kernel
theorem dX7_reported_33 : decode cX7_reported 33 = .ok (.bipush (-10), 2) := by decide +kernel
theorem dX7_reported_35 : decode cX7_reported 35 = .ok (.iload_n 1, 1) := by decide +kernel
theorem dX7_reported_36 : decode cX7_reported 36 = .ok (.isub, 1) := by decide +kernel
theorem dX7_reported_37 : decode cX7_reported 37 = .ok (.ireturn, 1) := by decide +kernel
theorem dX7_reported_38 : decode cX7_reported 38 = .ok (.aload_n 2, 1) := by decide +kernel
theorem dX7_reported_39 : decode cX7_reported 39 = .ok (.invokevirtual 298, 3) := by decide +kernel
theorem dX7_reported_42 : decode cX7_reported 42 = .ok (.istore_n 3, 1) := by decide +kernel
theorem dX7_reported_43 : decode cX7_reported 43 = .ok (.iload_n 3, 1) := by decide +kernel
theorem dX7_reported_44 : decode cX7_reported 44 = .ok (.ifCond .lt 33, 3) := by decide +kernel
theorem dX7_reported_47 : decode cX7_reported 47 = .ok (.aload_n 2, 1) := by decide +kernel
theorem dX7_reported_48 : decode cX7_reported 48 = .ok (.getfield 63, 3) := by decide +kernel
theorem dX7_reported_51 : decode cX7_reported 51 = .ok (.aload_n 2, 1) := by decide +kernel
theorem dX7_reported_52 : decode cX7_reported 52 = .ok (.invokevirtual 186, 3) := by decide +kernel
theorem dX7_reported_55 : decode cX7_reported 55 = .ok (.isub, 1) := by decide +kernel
theorem dX7_reported_56 : decode cX7_reported 56 = .ok (.istore 4, 2) := by decide +kernel
theorem dX7_reported_58 : decode cX7_reported 58 = .ok (.aload_n 0, 1) := by decide +kernel
theorem dX7_reported_59 : decode cX7_reported 59 = .ok (.getfield 45, 3) := by decide +kernel
theorem dX7_reported_62 : decode cX7_reported 62 = .ok (.iconst 5, 1) := by decide +kernel
theorem dX7_reported_63 : decode cX7_reported 63 = .ok (.sipush 200, 3) := by decide +kernel
theorem dX7_reported_66 : decode cX7_reported 66 = .ok (.iload_n 3, 1) := by decide +kernel
theorem dX7_reported_67 : decode cX7_reported 67 = .ok (.iadd, 1) := by decide +kernel
theorem dX7_reported_68 : decode cX7_reported 68 = .ok (.sipush 300, 3) := by decide +kernel
theorem dX7_reported_71 : decode cX7_reported 71 = .ok (.iload 4, 2) := by decide +kernel
theorem dX7_reported_73 : decode cX7_reported 73 = .ok (.iadd, 1) := by decide +kernel
theorem dX7_reported_74 : decode cX7_reported 74 = .ok (.invokevirtual 121, 3) := by decide +kernel
theorem dX7_reported_77 : decode cX7_reported 77 = .ok (.iload_n 1, 1) := by decide +kernel
theorem dX7_reported_78 : decode cX7_reported 78 = .ok (.ireturn, 1) := by decide +kernel
theorem dX7_goesAsSeen_0 : decode cX7_goesAsSeen 0 = .ok (.iconst 0, 1) := by decide +kernel
theorem dX7_goesAsSeen_1 : decode cX7_goesAsSeen 1 = .ok (.istore_n 2, 1) := by decide +kernel
theorem dX7_goesAsSeen_2 : decode cX7_goesAsSeen 2 = .ok (.iload_n 2, 1) := by decide +kernel
theorem dX7_goesAsSeen_3 : decode cX7_goesAsSeen 3 = .ok (.aload_n 0, 1) := by decide +kernel
theorem dX7_goesAsSeen_4 : decode cX7_goesAsSeen 4 = .ok (.getfield 12, 3) := by decide +kernel
theorem dX7_goesAsSeen_7 : decode cX7_goesAsSeen 7 = .ok (.getfield 71, 3) := by decide +kernel
theorem dX7_goesAsSeen_10 : decode cX7_goesAsSeen 10 = .ok (.getfield 239, 3) := by decide +kernel
theorem dX7_goesAsSeen_13 : decode cX7_goesAsSeen 13 = .ok (.if_icmp .ge 53, 3) := by decide +kernel
theorem dX7_goesAsSeen_16 : decode cX7_goesAsSeen 16 = .ok (.aload_n 0, 1) := by decide +kernel
theorem dX7_goesAsSeen_17 : decode cX7_goesAsSeen 17 = .ok (.getfield 12, 3) := by decide +kernel
theorem dX7_goesAsSeen_20 : decode cX7_goesAsSeen 20 = .ok (.getfield 71, 3) := by decide +kernel
theorem dX7_goesAsSeen_23 : decode cX7_goesAsSeen 23 = .ok (.getfield 242, 3) := by decide +kernel
theorem dX7_goesAsSeen_26 : decode cX7_goesAsSeen 26 = .ok (.iload_n 2, 1) := by decide +kernel
theorem dX7_goesAsSeen_27 : decode cX7_goesAsSeen 27 = .ok (.iaload, 1) := by decide +kernel
theorem dX7_goesAsSeen_28 : decode cX7_goesAsSeen 28 = .ok (.istore_n 3, 1) := by decide +kernel
theorem dX7_goesAsSeen_29 : decode cX7_goesAsSeen 29 = .ok (.aload_n 1, 1) := by decide +kernel
theorem dX7_goesAsSeen_30 : decode cX7_goesAsSeen 30 = .ok (.iload_n 3, 1) := by decide +kernel
theorem dX7_goesAsSeen_31 : decode cX7_goesAsSeen 31 = .ok (.invokevirtual 87, 3) := by decide +kernel
theorem dX7_goesAsSeen_34 : decode cX7_goesAsSeen 34 = .ok (.ifCond .eq 24, 3) := by decide +kernel
theorem dX7_goesAsSeen_37 : decode cX7_goesAsSeen 37 = .ok (.aload_n 1, 1) := by decide +kernel
theorem dX7_goesAsSeen_38 : decode cX7_goesAsSeen 38 = .ok (.getfield 145, 3) := by decide +kernel
theorem dX7_goesAsSeen_41 : decode cX7_goesAsSeen 41 = .ok (.iload_n 3, 1) := by decide +kernel
theorem dX7_goesAsSeen_42 : decode cX7_goesAsSeen 42 = .ok (.iaload, 1) := by decide +kernel
theorem dX7_goesAsSeen_43 : decode cX7_goesAsSeen 43 = .ok (.aload_n 0, 1) := by decide +kernel
theorem dX7_goesAsSeen_44 : decode cX7_goesAsSeen 44 = .ok (.getfield 12, 3) := by decide +kernel
theorem dX7_goesAsSeen_47 : decode cX7_goesAsSeen 47 = .ok (.getfield 71, 3) := by decide +kernel
theorem dX7_goesAsSeen_50 : decode cX7_goesAsSeen 50 = .ok (.getfield 245, 3) := by decide +kernel
theorem dX7_goesAsSeen_53 : decode cX7_goesAsSeen 53 = .ok (.iload_n 2, 1) := by decide +kernel
theorem dX7_goesAsSeen_54 : decode cX7_goesAsSeen 54 = .ok (.iaload, 1) := by decide +kernel
theorem dX7_goesAsSeen_55 : decode cX7_goesAsSeen 55 = .ok (.if_icmp .eq 5, 3) := by decide +kernel
theorem dX7_goesAsSeen_58 : decode cX7_goesAsSeen 58 = .ok (.iconst 0, 1) := by decide +kernel
theorem dX7_goesAsSeen_59 : decode cX7_goesAsSeen 59 = .ok (.ireturn, 1) := by decide +kernel
theorem dX7_goesAsSeen_60 : decode cX7_goesAsSeen 60 = .ok (.iinc 2 1, 3) := by decide +kernel
theorem dX7_goesAsSeen_63 : decode cX7_goesAsSeen 63 = .ok (.goto (-61), 3) := by decide +kernel
theorem dX7_goesAsSeen_66 : decode cX7_goesAsSeen 66 = .ok (.iconst 1, 1) := by decide +kernel
theorem dX7_goesAsSeen_67 : decode cX7_goesAsSeen 67 = .ok (.ireturn, 1) := by decide +kernel
theorem dX7_goOn_0 : decode cX7_goOn 0 = .ok (.iload_n 1, 1) := by decide +kernel
theorem dX7_goOn_1 : decode cX7_goOn 1 = .ok (.ifCond .ne 11, 3) := by decide +kernel
theorem dX7_goOn_4 : decode cX7_goOn 4 = .ok (.aload_n 0, 1) := by decide +kernel
theorem dX7_goOn_5 : decode cX7_goOn 5 = .ok (.invokevirtual 174, 3) := by decide +kernel
theorem dX7_goOn_8 : decode cX7_goOn 8 = .ok (.pop, 1) := by decide +kernel
theorem dX7_goOn_9 : decode cX7_goOn 9 = .ok (.goto 34, 3) := by decide +kernel
theorem dX7_goOn_12 : decode cX7_goOn 12 = .ok (.iload_n 1, 1) := by decide +kernel
theorem dX7_goOn_13 : decode cX7_goOn 13 = .ok (.iconst 1, 1) := by decide +kernel
theorem dX7_goOn_14 : decode cX7_goOn 14 = .ok (.if_icmp .ne 19, 3) := by decide +kernel
theorem dX7_goOn_17 : decode cX7_goOn 17 = .ok (.aload_n 0, 1) := by decide +kernel
theorem dX7_goOn_18 : decode cX7_goOn 18 = .ok (.iload_n 2, 1) := by decide +kernel
theorem dX7_goOn_19 : decode cX7_goOn 19 = .ok (.invokevirtual 87, 3) := by decide +kernel
theorem dX7_goOn_22 : decode cX7_goOn 22 = .ok (.ifCond .eq 11, 3) := by decide +kernel
theorem dX7_goOn_25 : decode cX7_goOn 25 = .ok (.aload_n 0, 1) := by decide +kernel
theorem dX7_goOn_26 : decode cX7_goOn 26 = .ok (.iload_n 2, 1) := by decide +kernel
theorem dX7_goOn_27 : decode cX7_goOn 27 = .ok (.invokevirtual 192, 3) := by decide +kernel
theorem dX7_goOn_30 : decode cX7_goOn 30 = .ok (.goto 13, 3) := by decide +kernel
theorem dX7_goOn_33 : decode cX7_goOn 33 = .ok (.iload_n 1, 1) := by decide +kernel
theorem dX7_goOn_34 : decode cX7_goOn 34 = .ok (.iconst 2, 1) := by decide +kernel
theorem dX7_goOn_35 : decode cX7_goOn 35 = .ok (.if_icmp .ne 8, 3) := by decide +kernel
theorem dX7_goOn_38 : decode cX7_goOn 38 = .ok (.aload_n 0, 1) := by decide +kernel
theorem dX7_goOn_39 : decode cX7_goOn 39 = .ok (.iload_n 2, 1) := by decide +kernel
theorem dX7_goOn_40 : decode cX7_goOn 40 = .ok (.putfield 102, 3) := by decide +kernel
theorem dX7_goOn_43 : decode cX7_goOn 43 = .ok (.return_, 1) := by decide +kernel
theorem dX7_lowestTerms_0 : decode cX7_lowestTerms 0 = .ok (.iload_n 2, 1) := by decide +kernel
theorem dX7_lowestTerms_1 : decode cX7_lowestTerms 1 = .ok (.ifCond .eq 12, 3) := by decide +kernel
theorem dX7_lowestTerms_4 : decode cX7_lowestTerms 4 = .ok (.iload_n 2, 1) := by decide +kernel
theorem dX7_lowestTerms_5 : decode cX7_lowestTerms 5 = .ok (.iconst 1, 1) := by decide +kernel
theorem dX7_lowestTerms_6 : decode cX7_lowestTerms 6 = .ok (.if_icmp .eq 7, 3) := by decide +kernel
theorem dX7_lowestTerms_9 : decode cX7_lowestTerms 9 = .ok (.ldc2_w 136, 3) := by decide +kernel
theorem dX7_lowestTerms_12 : decode cX7_lowestTerms 12 = .ok (.lreturn, 1) := by decide +kernel
theorem dX7_lowestTerms_13 : decode cX7_lowestTerms 13 = .ok (.iconst 1, 1) := by decide +kernel
theorem dX7_lowestTerms_14 : decode cX7_lowestTerms 14 = .ok (.istore_n 3, 1) := by decide +kernel
theorem dX7_lowestTerms_15 : decode cX7_lowestTerms 15 = .ok (.iconst 2, 1) := by decide +kernel
theorem dX7_lowestTerms_16 : decode cX7_lowestTerms 16 = .ok (.istore 4, 2) := by decide +kernel
theorem dX7_lowestTerms_18 : decode cX7_lowestTerms 18 = .ok (.iload 4, 2) := by decide +kernel
theorem dX7_lowestTerms_20 : decode cX7_lowestTerms 20 = .ok (.iload_n 1, 1) := by decide +kernel
theorem dX7_lowestTerms_21 : decode cX7_lowestTerms 21 = .ok (.if_icmp .gt 26, 3) := by decide +kernel
theorem dX7_lowestTerms_24 : decode cX7_lowestTerms 24 = .ok (.iload_n 0, 1) := by decide +kernel
theorem dX7_lowestTerms_25 : decode cX7_lowestTerms 25 = .ok (.iload 4, 2) := by decide +kernel
theorem dX7_lowestTerms_27 : decode cX7_lowestTerms 27 = .ok (.irem, 1) := by decide +kernel
theorem dX7_lowestTerms_28 : decode cX7_lowestTerms 28 = .ok (.ifCond .ne 13, 3) := by decide +kernel
theorem dX7_lowestTerms_31 : decode cX7_lowestTerms 31 = .ok (.iload_n 1, 1) := by decide +kernel
theorem dX7_lowestTerms_32 : decode cX7_lowestTerms 32 = .ok (.iload 4, 2) := by decide +kernel
theorem dX7_lowestTerms_34 : decode cX7_lowestTerms 34 = .ok (.irem, 1) := by decide +kernel
theorem dX7_lowestTerms_35 : decode cX7_lowestTerms 35 = .ok (.ifCond .ne 6, 3) := by decide +kernel
theorem dX7_lowestTerms_38 : decode cX7_lowestTerms 38 = .ok (.iload 4, 2) := by decide +kernel
theorem dX7_lowestTerms_40 : decode cX7_lowestTerms 40 = .ok (.istore_n 3, 1) := by decide +kernel
theorem dX7_lowestTerms_41 : decode cX7_lowestTerms 41 = .ok (.iinc 4 1, 3) := by decide +kernel
theorem dX7_lowestTerms_44 : decode cX7_lowestTerms 44 = .ok (.goto (-26), 3) := by decide +kernel
theorem dX7_lowestTerms_47 : decode cX7_lowestTerms 47 = .ok (.iload_n 2, 1) := by decide +kernel
theorem dX7_lowestTerms_48 : decode cX7_lowestTerms 48 = .ok (.ifCond .ne 10, 3) := by decide +kernel
theorem dX7_lowestTerms_51 : decode cX7_lowestTerms 51 = .ok (.iload_n 0, 1) := by decide +kernel
theorem dX7_lowestTerms_52 : decode cX7_lowestTerms 52 = .ok (.iload_n 3, 1) := by decide +kernel
theorem dX7_lowestTerms_53 : decode cX7_lowestTerms 53 = .ok (.idiv, 1) := by decide +kernel
theorem dX7_lowestTerms_54 : decode cX7_lowestTerms 54 = .ok (.i2l, 1) := by decide +kernel
theorem dX7_lowestTerms_55 : decode cX7_lowestTerms 55 = .ok (.goto 7, 3) := by decide +kernel
theorem dX7_lowestTerms_58 : decode cX7_lowestTerms 58 = .ok (.iload_n 1, 1) := by decide +kernel
theorem dX7_lowestTerms_59 : decode cX7_lowestTerms 59 = .ok (.iload_n 3, 1) := by decide +kernel
theorem dX7_lowestTerms_60 : decode cX7_lowestTerms 60 = .ok (.idiv, 1) := by decide +kernel
theorem dX7_lowestTerms_61 : decode cX7_lowestTerms 61 = .ok (.i2l, 1) := by decide +kernel
theorem dX7_lowestTerms_62 : decode cX7_lowestTerms 62 = .ok (.lreturn, 1) := by decide +kernel
theorem dJ6_bitCount_0f7a4_0 : decode cJ6_bitCount_0f7a4 0 = .ok (.iload_n 0, 1) := by decide +kernel
theorem dJ6_bitCount_0f7a4_1 : decode cJ6_bitCount_0f7a4 1 = .ok (.iload_n 0, 1) := by decide +kernel
theorem dJ6_bitCount_0f7a4_2 : decode cJ6_bitCount_0f7a4 2 = .ok (.iconst 1, 1) := by decide +kernel
theorem dJ6_bitCount_0f7a4_3 : decode cJ6_bitCount_0f7a4 3 = .ok (.iushr, 1) := by decide +kernel
theorem dJ6_bitCount_0f7a4_4 : decode cJ6_bitCount_0f7a4 4 = .ok (.ldc_w 265, 3) := by decide +kernel
theorem dJ6_bitCount_0f7a4_7 : decode cJ6_bitCount_0f7a4 7 = .ok (.iand, 1) := by decide +kernel
theorem dJ6_bitCount_0f7a4_8 : decode cJ6_bitCount_0f7a4 8 = .ok (.isub, 1) := by decide +kernel
theorem dJ6_bitCount_0f7a4_9 : decode cJ6_bitCount_0f7a4 9 = .ok (.istore_n 0, 1) := by decide +kernel
theorem dJ6_bitCount_0f7a4_10 : decode cJ6_bitCount_0f7a4 10 = .ok (.iload_n 0, 1) := by decide +kernel
theorem dJ6_bitCount_0f7a4_11 : decode cJ6_bitCount_0f7a4 11 = .ok (.ldc_w 266, 3) := by decide +kernel
theorem dJ6_bitCount_0f7a4_14 : decode cJ6_bitCount_0f7a4 14 = .ok (.iand, 1) := by decide +kernel
theorem dJ6_bitCount_0f7a4_15 : decode cJ6_bitCount_0f7a4 15 = .ok (.iload_n 0, 1) := by decide +kernel
theorem dJ6_bitCount_0f7a4_16 : decode cJ6_bitCount_0f7a4 16 = .ok (.iconst 2, 1) := by decide +kernel
theorem dJ6_bitCount_0f7a4_17 : decode cJ6_bitCount_0f7a4 17 = .ok (.iushr, 1) := by decide +kernel
theorem dJ6_bitCount_0f7a4_18 : decode cJ6_bitCount_0f7a4 18 = .ok (.ldc_w 266, 3) := by decide +kernel
theorem dJ6_bitCount_0f7a4_21 : decode cJ6_bitCount_0f7a4 21 = .ok (.iand, 1) := by decide +kernel
theorem dJ6_bitCount_0f7a4_22 : decode cJ6_bitCount_0f7a4 22 = .ok (.iadd, 1) := by decide +kernel
theorem dJ6_bitCount_0f7a4_23 : decode cJ6_bitCount_0f7a4 23 = .ok (.istore_n 0, 1) := by decide +kernel
theorem dJ6_bitCount_0f7a4_24 : decode cJ6_bitCount_0f7a4 24 = .ok (.iload_n 0, 1) := by decide +kernel
theorem dJ6_bitCount_0f7a4_25 : decode cJ6_bitCount_0f7a4 25 = .ok (.iload_n 0, 1) := by decide +kernel
theorem dJ6_bitCount_0f7a4_26 : decode cJ6_bitCount_0f7a4 26 = .ok (.iconst 4, 1) := by decide +kernel
theorem dJ6_bitCount_0f7a4_27 : decode cJ6_bitCount_0f7a4 27 = .ok (.iushr, 1) := by decide +kernel
theorem dJ6_bitCount_0f7a4_28 : decode cJ6_bitCount_0f7a4 28 = .ok (.iadd, 1) := by decide +kernel
theorem dJ6_bitCount_0f7a4_29 : decode cJ6_bitCount_0f7a4 29 = .ok (.ldc_w 267, 3) := by decide +kernel
theorem dJ6_bitCount_0f7a4_32 : decode cJ6_bitCount_0f7a4 32 = .ok (.iand, 1) := by decide +kernel
theorem dJ6_bitCount_0f7a4_33 : decode cJ6_bitCount_0f7a4 33 = .ok (.istore_n 0, 1) := by decide +kernel
theorem dJ6_bitCount_0f7a4_34 : decode cJ6_bitCount_0f7a4 34 = .ok (.iload_n 0, 1) := by decide +kernel
theorem dJ6_bitCount_0f7a4_35 : decode cJ6_bitCount_0f7a4 35 = .ok (.iload_n 0, 1) := by decide +kernel
theorem dJ6_bitCount_0f7a4_36 : decode cJ6_bitCount_0f7a4 36 = .ok (.bipush 8, 2) := by decide +kernel
theorem dJ6_bitCount_0f7a4_38 : decode cJ6_bitCount_0f7a4 38 = .ok (.iushr, 1) := by decide +kernel
theorem dJ6_bitCount_0f7a4_39 : decode cJ6_bitCount_0f7a4 39 = .ok (.iadd, 1) := by decide +kernel
theorem dJ6_bitCount_0f7a4_40 : decode cJ6_bitCount_0f7a4 40 = .ok (.istore_n 0, 1) := by decide +kernel
theorem dJ6_bitCount_0f7a4_41 : decode cJ6_bitCount_0f7a4 41 = .ok (.iload_n 0, 1) := by decide +kernel
theorem dJ6_bitCount_0f7a4_42 : decode cJ6_bitCount_0f7a4 42 = .ok (.iload_n 0, 1) := by decide +kernel
theorem dJ6_bitCount_0f7a4_43 : decode cJ6_bitCount_0f7a4 43 = .ok (.bipush 16, 2) := by decide +kernel
theorem dJ6_bitCount_0f7a4_45 : decode cJ6_bitCount_0f7a4 45 = .ok (.iushr, 1) := by decide +kernel
theorem dJ6_bitCount_0f7a4_46 : decode cJ6_bitCount_0f7a4 46 = .ok (.iadd, 1) := by decide +kernel
theorem dJ6_bitCount_0f7a4_47 : decode cJ6_bitCount_0f7a4 47 = .ok (.istore_n 0, 1) := by decide +kernel
theorem dJ6_bitCount_0f7a4_48 : decode cJ6_bitCount_0f7a4 48 = .ok (.iload_n 0, 1) := by decide +kernel
theorem dJ6_bitCount_0f7a4_49 : decode cJ6_bitCount_0f7a4 49 = .ok (.bipush 63, 2) := by decide +kernel
theorem dJ6_bitCount_0f7a4_51 : decode cJ6_bitCount_0f7a4 51 = .ok (.iand, 1) := by decide +kernel
theorem dJ6_bitCount_0f7a4_52 : decode cJ6_bitCount_0f7a4 52 = .ok (.ireturn, 1) := by decide +kernel
theorem dJ9_max_7cf53_0 : decode cJ9_max_7cf53 0 = .ok (.iload_n 0, 1) := by decide +kernel
theorem dJ9_max_7cf53_1 : decode cJ9_max_7cf53 1 = .ok (.iload_n 1, 1) := by decide +kernel
theorem dJ9_max_7cf53_2 : decode cJ9_max_7cf53 2 = .ok (.if_icmp .lt 7, 3) := by decide +kernel
theorem dJ9_max_7cf53_5 : decode cJ9_max_7cf53 5 = .ok (.iload_n 0, 1) := by decide +kernel
theorem dJ9_max_7cf53_6 : decode cJ9_max_7cf53 6 = .ok (.goto 4, 3) := by decide +kernel
theorem dJ9_max_7cf53_9 : decode cJ9_max_7cf53 9 = .ok (.iload_n 1, 1) := by decide +kernel
theorem dJ9_max_7cf53_10 : decode cJ9_max_7cf53 10 = .ok (.ireturn, 1) := by decide +kernel
theorem dJ9_min_7cf53_0 : decode cJ9_min_7cf53 0 = .ok (.iload_n 0, 1) := by decide +kernel
theorem dJ9_min_7cf53_1 : decode cJ9_min_7cf53 1 = .ok (.iload_n 1, 1) := by decide +kernel
theorem dJ9_min_7cf53_2 : decode cJ9_min_7cf53 2 = .ok (.if_icmp .gt 7, 3) := by decide +kernel
theorem dJ9_min_7cf53_5 : decode cJ9_min_7cf53 5 = .ok (.iload_n 0, 1) := by decide +kernel
theorem dJ9_min_7cf53_6 : decode cJ9_min_7cf53 6 = .ok (.goto 4, 3) := by decide +kernel
theorem dJ9_min_7cf53_9 : decode cJ9_min_7cf53 9 = .ok (.iload_n 1, 1) := by decide +kernel
theorem dJ9_min_7cf53_10 : decode cJ9_min_7cf53 10 = .ok (.ireturn, 1) := by decide +kernel
end
section
theorem dX8_init_0 : decode cX8_init 0 = .ok (.aload_n 0, 1) := by decide +kernel
theorem dX8_init_1 : decode cX8_init 1 = .ok (.invokespecial 3, 3) := by decide +kernel
theorem dX8_init_4 : decode cX8_init 4 = .ok (.aload_n 0, 1) := by decide +kernel
theorem dX8_init_5 : decode cX8_init 5 = .ok (.iconst 3, 1) := by decide +kernel
theorem dX8_init_6 : decode cX8_init 6 = .ok (.putfield 9, 3) := by decide +kernel
theorem dX8_init_9 : decode cX8_init 9 = .ok (.aload_n 0, 1) := by decide +kernel
theorem dX8_init_10 : decode cX8_init 10 = .ok (.iconst 5, 1) := by decide +kernel
theorem dX8_init_11 : decode cX8_init 11 = .ok (.putfield 15, 3) := by decide +kernel
theorem dX8_init_14 : decode cX8_init 14 = .ok (.aload_n 0, 1) := by decide +kernel
theorem dX8_init_15 : decode cX8_init 15 = .ok (.bipush 64, 2) := by decide +kernel
theorem dX8_init_17 : decode cX8_init 17 = .ok (.newarray .int, 2) := by decide +kernel
theorem dX8_init_19 : decode cX8_init 19 = .ok (.putfield 18, 3) := by decide +kernel
theorem dX8_init_22 : decode cX8_init 22 = .ok (.aload_n 0, 1) := by decide +kernel
theorem dX8_init_23 : decode cX8_init 23 = .ok (.bipush 8, 2) := by decide +kernel
theorem dX8_init_25 : decode cX8_init 25 = .ok (.newarray .int, 2) := by decide +kernel
theorem dX8_init_27 : decode cX8_init 27 = .ok (.putfield 22, 3) := by decide +kernel
theorem dX8_init_30 : decode cX8_init 30 = .ok (.aload_n 0, 1) := by decide +kernel
theorem dX8_init_31 : decode cX8_init 31 = .ok (.bipush 8, 2) := by decide +kernel
theorem dX8_init_33 : decode cX8_init 33 = .ok (.newarray .int, 2) := by decide +kernel
theorem dX8_init_35 : decode cX8_init 35 = .ok (.putfield 25, 3) := by decide +kernel
theorem dX8_init_38 : decode cX8_init 38 = .ok (.aload_n 0, 1) := by decide +kernel
theorem dX8_init_39 : decode cX8_init 39 = .ok (.bipush 8, 2) := by decide +kernel
theorem dX8_init_41 : decode cX8_init 41 = .ok (.newarray .int, 2) := by decide +kernel
theorem dX8_init_43 : decode cX8_init 43 = .ok (.putfield 28, 3) := by decide +kernel
theorem dX8_init_46 : decode cX8_init 46 = .ok (.aload_n 0, 1) := by decide +kernel
theorem dX8_init_47 : decode cX8_init 47 = .ok (.iconst 5, 1) := by decide +kernel
theorem dX8_init_48 : decode cX8_init 48 = .ok (.newarray .int, 2) := by decide +kernel
theorem dX8_init_50 : decode cX8_init 50 = .ok (.putfield 31, 3) := by decide +kernel
theorem dX8_init_53 : decode cX8_init 53 = .ok (.aload_n 0, 1) := by decide +kernel
theorem dX8_init_54 : decode cX8_init 54 = .ok (.iconst 5, 1) := by decide +kernel
theorem dX8_init_55 : decode cX8_init 55 = .ok (.newarray .int, 2) := by decide +kernel
theorem dX8_init_57 : decode cX8_init 57 = .ok (.putfield 34, 3) := by decide +kernel
theorem dX8_init_60 : decode cX8_init 60 = .ok (.aload_n 0, 1) := by decide +kernel
theorem dX8_init_61 : decode cX8_init 61 = .ok (.bipush 10, 2) := by decide +kernel
theorem dX8_init_63 : decode cX8_init 63 = .ok (.newarray .int, 2) := by decide +kernel
theorem dX8_init_65 : decode cX8_init 65 = .ok (.putfield 37, 3) := by decide +kernel
theorem dX8_init_68 : decode cX8_init 68 = .ok (.aload_n 0, 1) := by decide +kernel
theorem dX8_init_69 : decode cX8_init 69 = .ok (.bipush 10, 2) := by decide +kernel
theorem dX8_init_71 : decode cX8_init 71 = .ok (.newarray .int, 2) := by decide +kernel
theorem dX8_init_73 : decode cX8_init 73 = .ok (.putfield 40, 3) := by decide +kernel
theorem dX8_init_76 : decode cX8_init 76 = .ok (.aload_n 0, 1) := by decide +kernel
theorem dX8_init_77 : decode cX8_init 77 = .ok (.bipush 8, 2) := by decide +kernel
theorem dX8_init_79 : decode cX8_init 79 = .ok (.newarray .int, 2) := by decide +kernel
theorem dX8_init_81 : decode cX8_init 81 = .ok (.putfield 43, 3) := by decide +kernel
theorem dX8_init_84 : decode cX8_init 84 = .ok (.aload_n 0, 1) := by decide +kernel
theorem dX8_init_85 : decode cX8_init 85 = .ok (.bipush 8, 2) := by decide +kernel
theorem dX8_init_87 : decode cX8_init 87 = .ok (.newarray .int, 2) := by decide +kernel
theorem dX8_init_89 : decode cX8_init 89 = .ok (.putfield 46, 3) := by decide +kernel
theorem dX8_init_92 : decode cX8_init 92 = .ok (.aload_n 0, 1) := by decide +kernel
theorem dX8_init_93 : decode cX8_init 93 = .ok (.iconst 3, 1) := by decide +kernel
theorem dX8_init_94 : decode cX8_init 94 = .ok (.newarray .int, 2) := by decide +kernel
theorem dX8_init_96 : decode cX8_init 96 = .ok (.dup, 1) := by decide +kernel
theorem dX8_init_97 : decode cX8_init 97 = .ok (.iconst 0, 1) := by decide +kernel
theorem dX8_init_98 : decode cX8_init 98 = .ok (.bipush (-5), 2) := by decide +kernel
theorem dX8_init_100 : decode cX8_init 100 = .ok (.iastore, 1) := by decide +kernel
theorem dX8_init_101 : decode cX8_init 101 = .ok (.dup, 1) := by decide +kernel
theorem dX8_init_102 : decode cX8_init 102 = .ok (.iconst 1, 1) := by decide +kernel
theorem dX8_init_103 : decode cX8_init 103 = .ok (.bipush (-5), 2) := by decide +kernel
theorem dX8_init_105 : decode cX8_init 105 = .ok (.iastore, 1) := by decide +kernel
theorem dX8_init_106 : decode cX8_init 106 = .ok (.dup, 1) := by decide +kernel
theorem dX8_init_107 : decode cX8_init 107 = .ok (.iconst 2, 1) := by decide +kernel
theorem dX8_init_108 : decode cX8_init 108 = .ok (.bipush (-5), 2) := by decide +kernel
theorem dX8_init_110 : decode cX8_init 110 = .ok (.iastore, 1) := by decide +kernel
theorem dX8_init_111 : decode cX8_init 111 = .ok (.putfield 49, 3) := by decide +kernel
theorem dX8_init_114 : decode cX8_init 114 = .ok (.aload_n 0, 1) := by decide +kernel
theorem dX8_init_115 : decode cX8_init 115 = .ok (.bipush 100, 2) := by decide +kernel
theorem dX8_init_117 : decode cX8_init 117 = .ok (.newarray .int, 2) := by decide +kernel
theorem dX8_init_119 : decode cX8_init 119 = .ok (.putfield 52, 3) := by decide +kernel
theorem dX8_init_122 : decode cX8_init 122 = .ok (.aload_n 0, 1) := by decide +kernel
theorem dX8_init_123 : decode cX8_init 123 = .ok (.sipush 160, 3) := by decide +kernel
theorem dX8_init_126 : decode cX8_init 126 = .ok (.newarray .int, 2) := by decide +kernel
theorem dX8_init_128 : decode cX8_init 128 = .ok (.putfield 55, 3) := by decide +kernel
theorem dX8_init_131 : decode cX8_init 131 = .ok (.aload_n 0, 1) := by decide +kernel
theorem dX8_init_132 : decode cX8_init 132 = .ok (.bipush 8, 2) := by decide +kernel
theorem dX8_init_134 : decode cX8_init 134 = .ok (.newarray .int, 2) := by decide +kernel
theorem dX8_init_136 : decode cX8_init 136 = .ok (.putfield 58, 3) := by decide +kernel
theorem dX8_init_139 : decode cX8_init 139 = .ok (.aload_n 0, 1) := by decide +kernel
theorem dX8_init_140 : decode cX8_init 140 = .ok (.bipush 8, 2) := by decide +kernel
theorem dX8_init_142 : decode cX8_init 142 = .ok (.newarray .int, 2) := by decide +kernel
theorem dX8_init_144 : decode cX8_init 144 = .ok (.putfield 61, 3) := by decide +kernel
theorem dX8_init_147 : decode cX8_init 147 = .ok (.aload_n 0, 1) := by decide +kernel
theorem dX8_init_148 : decode cX8_init 148 = .ok (.bipush 8, 2) := by decide +kernel
theorem dX8_init_150 : decode cX8_init 150 = .ok (.newarray .int, 2) := by decide +kernel
theorem dX8_init_152 : decode cX8_init 152 = .ok (.putfield 64, 3) := by decide +kernel
theorem dX8_init_155 : decode cX8_init 155 = .ok (.aload_n 0, 1) := by decide +kernel
theorem dX8_init_156 : decode cX8_init 156 = .ok (.iconst 3, 1) := by decide +kernel
theorem dX8_init_157 : decode cX8_init 157 = .ok (.newarray .int, 2) := by decide +kernel
theorem dX8_init_159 : decode cX8_init 159 = .ok (.putfield 67, 3) := by decide +kernel
theorem dX8_init_162 : decode cX8_init 162 = .ok (.aload_n 0, 1) := by decide +kernel
theorem dX8_init_163 : decode cX8_init 163 = .ok (.sipush 256, 3) := by decide +kernel
theorem dX8_init_166 : decode cX8_init 166 = .ok (.newarray .int, 2) := by decide +kernel
theorem dX8_init_168 : decode cX8_init 168 = .ok (.putfield 70, 3) := by decide +kernel
theorem dX8_init_171 : decode cX8_init 171 = .ok (.aload_n 0, 1) := by decide +kernel
theorem dX8_init_172 : decode cX8_init 172 = .ok (.bipush 6, 2) := by decide +kernel
theorem dX8_init_174 : decode cX8_init 174 = .ok (.bipush 60, 2) := by decide +kernel
theorem dX8_init_176 : decode cX8_init 176 = .ok (.multianewarray 73 2, 4) := by decide +kernel
theorem dX8_init_180 : decode cX8_init 180 = .ok (.putfield 75, 3) := by decide +kernel
theorem dX8_init_183 : decode cX8_init 183 = .ok (.aload_n 0, 1) := by decide +kernel
theorem dX8_init_184 : decode cX8_init 184 = .ok (.bipush 6, 2) := by decide +kernel
theorem dX8_init_186 : decode cX8_init 186 = .ok (.newarray .int, 2) := by decide +kernel
theorem dX8_init_188 : decode cX8_init 188 = .ok (.dup, 1) := by decide +kernel
theorem dX8_init_189 : decode cX8_init 189 = .ok (.iconst 0, 1) := by decide +kernel
theorem dX8_init_190 : decode cX8_init 190 = .ok (.iconst (-1), 1) := by decide +kernel
theorem dX8_init_191 : decode cX8_init 191 = .ok (.iastore, 1) := by decide +kernel
theorem dX8_init_192 : decode cX8_init 192 = .ok (.dup, 1) := by decide +kernel
theorem dX8_init_193 : decode cX8_init 193 = .ok (.iconst 1, 1) := by decide +kernel
theorem dX8_init_194 : decode cX8_init 194 = .ok (.iconst (-1), 1) := by decide +kernel
theorem dX8_init_195 : decode cX8_init 195 = .ok (.iastore, 1) := by decide +kernel
theorem dX8_init_196 : decode cX8_init 196 = .ok (.dup, 1) := by decide +kernel
theorem dX8_init_197 : decode cX8_init 197 = .ok (.iconst 2, 1) := by decide +kernel
theorem dX8_init_198 : decode cX8_init 198 = .ok (.iconst (-1), 1) := by decide +kernel
theorem dX8_init_199 : decode cX8_init 199 = .ok (.iastore, 1) := by decide +kernel
theorem dX8_init_200 : decode cX8_init 200 = .ok (.dup, 1) := by decide +kernel
theorem dX8_init_201 : decode cX8_init 201 = .ok (.iconst 3, 1) := by decide +kernel
theorem dX8_init_202 : decode cX8_init 202 = .ok (.iconst (-1), 1) := by decide +kernel
theorem dX8_init_203 : decode cX8_init 203 = .ok (.iastore, 1) := by decide +kernel
theorem dX8_init_204 : decode cX8_init 204 = .ok (.dup, 1) := by decide +kernel
theorem dX8_init_205 : decode cX8_init 205 = .ok (.iconst 4, 1) := by decide +kernel
theorem dX8_init_206 : decode cX8_init 206 = .ok (.iconst (-1), 1) := by decide +kernel
theorem dX8_init_207 : decode cX8_init 207 = .ok (.iastore, 1) := by decide +kernel
theorem dX8_init_208 : decode cX8_init 208 = .ok (.dup, 1) := by decide +kernel
theorem dX8_init_209 : decode cX8_init 209 = .ok (.iconst 5, 1) := by decide +kernel
theorem dX8_init_210 : decode cX8_init 210 = .ok (.iconst (-1), 1) := by decide +kernel
theorem dX8_init_211 : decode cX8_init 211 = .ok (.iastore, 1) := by decide +kernel
theorem dX8_init_212 : decode cX8_init 212 = .ok (.putfield 78, 3) := by decide +kernel
theorem dX8_init_215 : decode cX8_init 215 = .ok (.aload_n 0, 1) := by decide +kernel
theorem dX8_init_216 : decode cX8_init 216 = .ok (.bipush 6, 2) := by decide +kernel
theorem dX8_init_218 : decode cX8_init 218 = .ok (.newarray .int, 2) := by decide +kernel
theorem dX8_init_220 : decode cX8_init 220 = .ok (.putfield 81, 3) := by decide +kernel
theorem dX8_init_223 : decode cX8_init 223 = .ok (.aload_n 0, 1) := by decide +kernel
theorem dX8_init_224 : decode cX8_init 224 = .ok (.bipush 60, 2) := by decide +kernel
theorem dX8_init_226 : decode cX8_init 226 = .ok (.newarray .long, 2) := by decide +kernel
theorem dX8_init_228 : decode cX8_init 228 = .ok (.putfield 84, 3) := by decide +kernel
theorem dX8_init_231 : decode cX8_init 231 = .ok (.aload_n 0, 1) := by decide +kernel
theorem dX8_init_232 : decode cX8_init 232 = .ok (.invokevirtual 88, 3) := by decide +kernel
theorem dX8_init_235 : decode cX8_init 235 = .ok (.pop, 1) := by decide +kernel
theorem dX8_init_236 : decode cX8_init 236 = .ok (.return_, 1) := by decide +kernel
theorem dX8_in_0 : decode cX8_in 0 = .ok (.lload_n 0, 1) := by decide +kernel
theorem dX8_in_1 : decode cX8_in 1 = .ok (.lload_n 2, 1) := by decide +kernel
theorem dX8_in_2 : decode cX8_in 2 = .ok (.lcmp, 1) := by decide +kernel
theorem dX8_in_3 : decode cX8_in 3 = .ok (.ifCond .lt 14, 3) := by decide +kernel
theorem dX8_in_6 : decode cX8_in 6 = .ok (.lload_n 0, 1) := by decide +kernel
theorem dX8_in_7 : decode cX8_in 7 = .ok (.lload 4, 2) := by decide +kernel
theorem dX8_in_9 : decode cX8_in 9 = .ok (.lcmp, 1) := by decide +kernel
theorem dX8_in_10 : decode cX8_in 10 = .ok (.ifCond .gt 7, 3) := by decide +kernel
theorem dX8_in_13 : decode cX8_in 13 = .ok (.iconst 1, 1) := by decide +kernel
theorem dX8_in_14 : decode cX8_in 14 = .ok (.goto 4, 3) := by decide +kernel
theorem dX8_in_17 : decode cX8_in 17 = .ok (.iconst 0, 1) := by decide +kernel
theorem dX8_in_18 : decode cX8_in 18 = .ok (.ireturn, 1) := by decide +kernel
theorem dX8_isOne_0 : decode cX8_isOne 0 = .ok (.iload_n 1, 1) := by decide +kernel
theorem dX8_isOne_1 : decode cX8_isOne 1 = .ok (.i2l, 1) := by decide +kernel
theorem dX8_isOne_2 : decode cX8_isOne 2 = .ok (.lconst 0, 1) := by decide +kernel
theorem dX8_isOne_3 : decode cX8_isOne 3 = .ok (.aload_n 0, 1) := by decide +kernel
theorem dX8_isOne_4 : decode cX8_isOne 4 = .ok (.getfield 9, 3) := by decide +kernel
theorem dX8_isOne_7 : decode cX8_isOne 7 = .ok (.iconst 1, 1) := by decide +kernel
theorem dX8_isOne_8 : decode cX8_isOne 8 = .ok (.isub, 1) := by decide +kernel
theorem dX8_isOne_9 : decode cX8_isOne 9 = .ok (.i2l, 1) := by decide +kernel
theorem dX8_isOne_10 : decode cX8_isOne 10 = .ok (.invokestatic 92, 3) := by decide +kernel
theorem dX8_isOne_13 : decode cX8_isOne 13 = .ok (.ireturn, 1) := by decide +kernel
theorem dX8_isPair_0 : decode cX8_isPair 0 = .ok (.aload_n 0, 1) := by decide +kernel
theorem dX8_isPair_1 : decode cX8_isPair 1 = .ok (.iload_n 1, 1) := by decide +kernel
theorem dX8_isPair_2 : decode cX8_isPair 2 = .ok (.invokevirtual 96, 3) := by decide +kernel
theorem dX8_isPair_5 : decode cX8_isPair 5 = .ok (.ifCond .eq 15, 3) := by decide +kernel
theorem dX8_isPair_8 : decode cX8_isPair 8 = .ok (.aload_n 0, 1) := by decide +kernel
theorem dX8_isPair_9 : decode cX8_isPair 9 = .ok (.iload_n 2, 1) := by decide +kernel
theorem dX8_isPair_10 : decode cX8_isPair 10 = .ok (.invokevirtual 96, 3) := by decide +kernel
theorem dX8_isPair_13 : decode cX8_isPair 13 = .ok (.ifCond .eq 7, 3) := by decide +kernel
theorem dX8_isPair_16 : decode cX8_isPair 16 = .ok (.iconst 1, 1) := by decide +kernel
theorem dX8_isPair_17 : decode cX8_isPair 17 = .ok (.goto 4, 3) := by decide +kernel
theorem dX8_isPair_20 : decode cX8_isPair 20 = .ok (.iconst 0, 1) := by decide +kernel
theorem dX8_isPair_21 : decode cX8_isPair 21 = .ok (.ireturn, 1) := by decide +kernel
theorem dX8_empties_0 : decode cX8_empties 0 = .ok (.iconst 0, 1) := by decide +kernel
theorem dX8_empties_1 : decode cX8_empties 1 = .ok (.istore_n 1, 1) := by decide +kernel
theorem dX8_empties_2 : decode cX8_empties 2 = .ok (.iconst 0, 1) := by decide +kernel
theorem dX8_empties_3 : decode cX8_empties 3 = .ok (.istore_n 2, 1) := by decide +kernel
theorem dX8_empties_4 : decode cX8_empties 4 = .ok (.iload_n 2, 1) := by decide +kernel
theorem dX8_empties_5 : decode cX8_empties 5 = .ok (.bipush 8, 2) := by decide +kernel
theorem dX8_empties_7 : decode cX8_empties 7 = .ok (.if_icmp .ge 48, 3) := by decide +kernel
theorem dX8_empties_10 : decode cX8_empties 10 = .ok (.iload_n 1, 1) := by decide +kernel
theorem dX8_empties_11 : decode cX8_empties 11 = .ok (.aload_n 0, 1) := by decide +kernel
theorem dX8_empties_12 : decode cX8_empties 12 = .ok (.getfield 22, 3) := by decide +kernel
theorem dX8_empties_15 : decode cX8_empties 15 = .ok (.iload_n 2, 1) := by decide +kernel
theorem dX8_empties_16 : decode cX8_empties 16 = .ok (.iaload, 1) := by decide +kernel
theorem dX8_empties_17 : decode cX8_empties 17 = .ok (.ifCond .lt 15, 3) := by decide +kernel
theorem dX8_empties_20 : decode cX8_empties 20 = .ok (.iload_n 2, 1) := by decide +kernel
theorem dX8_empties_21 : decode cX8_empties 21 = .ok (.aload_n 0, 1) := by decide +kernel
theorem dX8_empties_22 : decode cX8_empties 22 = .ok (.getfield 9, 3) := by decide +kernel
theorem dX8_empties_25 : decode cX8_empties 25 = .ok (.if_icmp .ge 7, 3) := by decide +kernel
theorem dX8_empties_28 : decode cX8_empties 28 = .ok (.iconst 1, 1) := by decide +kernel
theorem dX8_empties_29 : decode cX8_empties 29 = .ok (.goto 4, 3) := by decide +kernel
theorem dX8_empties_32 : decode cX8_empties 32 = .ok (.iconst 0, 1) := by decide +kernel
theorem dX8_empties_33 : decode cX8_empties 33 = .ok (.iadd, 1) := by decide +kernel
theorem dX8_empties_34 : decode cX8_empties 34 = .ok (.istore_n 1, 1) := by decide +kernel
theorem dX8_empties_35 : decode cX8_empties 35 = .ok (.aload_n 0, 1) := by decide +kernel
theorem dX8_empties_36 : decode cX8_empties 36 = .ok (.getfield 22, 3) := by decide +kernel
theorem dX8_empties_39 : decode cX8_empties 39 = .ok (.iload_n 2, 1) := by decide +kernel
theorem dX8_empties_40 : decode cX8_empties 40 = .ok (.iconst (-1), 1) := by decide +kernel
theorem dX8_empties_41 : decode cX8_empties 41 = .ok (.iastore, 1) := by decide +kernel
theorem dX8_empties_42 : decode cX8_empties 42 = .ok (.aload_n 0, 1) := by decide +kernel
theorem dX8_empties_43 : decode cX8_empties 43 = .ok (.getfield 25, 3) := by decide +kernel
theorem dX8_empties_46 : decode cX8_empties 46 = .ok (.iload_n 2, 1) := by decide +kernel
theorem dX8_empties_47 : decode cX8_empties 47 = .ok (.iconst (-1), 1) := by decide +kernel
theorem dX8_empties_48 : decode cX8_empties 48 = .ok (.iastore, 1) := by decide +kernel
theorem dX8_empties_49 : decode cX8_empties 49 = .ok (.iinc 2 1, 3) := by decide +kernel
theorem dX8_empties_52 : decode cX8_empties 52 = .ok (.goto (-48), 3) := by decide +kernel
theorem dX8_empties_55 : decode cX8_empties 55 = .ok (.iload_n 1, 1) := by decide +kernel
theorem dX8_empties_56 : decode cX8_empties 56 = .ok (.ireturn, 1) := by decide +kernel
theorem dX8_free_0 : decode cX8_free 0 = .ok (.iconst 0, 1) := by decide +kernel
theorem dX8_free_1 : decode cX8_free 1 = .ok (.istore_n 1, 1) := by decide +kernel
theorem dX8_free_2 : decode cX8_free 2 = .ok (.iload_n 1, 1) := by decide +kernel
theorem dX8_free_3 : decode cX8_free 3 = .ok (.bipush 8, 2) := by decide +kernel
theorem dX8_free_5 : decode cX8_free 5 = .ok (.if_icmp .ge 16, 3) := by decide +kernel
theorem dX8_free_8 : decode cX8_free 8 = .ok (.aload_n 0, 1) := by decide +kernel
theorem dX8_free_9 : decode cX8_free 9 = .ok (.getfield 28, 3) := by decide +kernel
theorem dX8_free_12 : decode cX8_free 12 = .ok (.iload_n 1, 1) := by decide +kernel
theorem dX8_free_13 : decode cX8_free 13 = .ok (.iconst 0, 1) := by decide +kernel
theorem dX8_free_14 : decode cX8_free 14 = .ok (.iastore, 1) := by decide +kernel
theorem dX8_free_15 : decode cX8_free 15 = .ok (.iinc 1 1, 3) := by decide +kernel
theorem dX8_free_18 : decode cX8_free 18 = .ok (.goto (-16), 3) := by decide +kernel
theorem dX8_free_21 : decode cX8_free 21 = .ok (.return_, 1) := by decide +kernel
theorem dX8_passes_0 : decode cX8_passes 0 = .ok (.aload_n 0, 1) := by decide +kernel
theorem dX8_passes_1 : decode cX8_passes 1 = .ok (.getfield 100, 3) := by decide +kernel
theorem dX8_passes_4 : decode cX8_passes 4 = .ok (.ifCond .eq 7, 3) := by decide +kernel
theorem dX8_passes_7 : decode cX8_passes 7 = .ok (.iload_n 1, 1) := by decide +kernel
theorem dX8_passes_8 : decode cX8_passes 8 = .ok (.goto 12, 3) := by decide +kernel
theorem dX8_passes_11 : decode cX8_passes 11 = .ok (.aload_n 0, 1) := by decide +kernel
theorem dX8_passes_12 : decode cX8_passes 12 = .ok (.getfield 55, 3) := by decide +kernel
theorem dX8_passes_15 : decode cX8_passes 15 = .ok (.aload_n 0, 1) := by decide +kernel
theorem dX8_passes_16 : decode cX8_passes 16 = .ok (.getfield 104, 3) := by decide +kernel
theorem dX8_passes_19 : decode cX8_passes 19 = .ok (.iaload, 1) := by decide +kernel
theorem dX8_passes_20 : decode cX8_passes 20 = .ok (.istore_n 2, 1) := by decide +kernel
theorem dX8_passes_21 : decode cX8_passes 21 = .ok (.aload_n 0, 1) := by decide +kernel
theorem dX8_passes_22 : decode cX8_passes 22 = .ok (.getfield 55, 3) := by decide +kernel
theorem dX8_passes_25 : decode cX8_passes 25 = .ok (.aload_n 0, 1) := by decide +kernel
theorem dX8_passes_26 : decode cX8_passes 26 = .ok (.getfield 104, 3) := by decide +kernel
theorem dX8_passes_29 : decode cX8_passes 29 = .ok (.iload_n 2, 1) := by decide +kernel
theorem dX8_passes_30 : decode cX8_passes 30 = .ok (.iastore, 1) := by decide +kernel
theorem dX8_passes_31 : decode cX8_passes 31 = .ok (.aload_n 0, 1) := by decide +kernel
theorem dX8_passes_32 : decode cX8_passes 32 = .ok (.dup, 1) := by decide +kernel
theorem dX8_passes_33 : decode cX8_passes 33 = .ok (.getfield 104, 3) := by decide +kernel
theorem dX8_passes_36 : decode cX8_passes 36 = .ok (.iconst 1, 1) := by decide +kernel
theorem dX8_passes_37 : decode cX8_passes 37 = .ok (.iadd, 1) := by decide +kernel
theorem dX8_passes_38 : decode cX8_passes 38 = .ok (.putfield 104, 3) := by decide +kernel
theorem dX8_passes_41 : decode cX8_passes 41 = .ok (.iload_n 2, 1) := by decide +kernel
theorem dX8_passes_42 : decode cX8_passes 42 = .ok (.ireturn, 1) := by decide +kernel
theorem dX8_passesRow_0 : decode cX8_passesRow 0 = .ok (.iconst 0, 1) := by decide +kernel
theorem dX8_passesRow_1 : decode cX8_passesRow 1 = .ok (.istore_n 2, 1) := by decide +kernel
theorem dX8_passesRow_2 : decode cX8_passesRow 2 = .ok (.iload_n 2, 1) := by decide +kernel
theorem dX8_passesRow_3 : decode cX8_passesRow 3 = .ok (.aload_n 1, 1) := by decide +kernel
theorem dX8_passesRow_4 : decode cX8_passesRow 4 = .ok (.arraylength, 1) := by decide +kernel
theorem dX8_passesRow_5 : decode cX8_passesRow 5 = .ok (.if_icmp .ge 19, 3) := by decide +kernel
theorem dX8_passesRow_8 : decode cX8_passesRow 8 = .ok (.aload_n 1, 1) := by decide +kernel
theorem dX8_passesRow_9 : decode cX8_passesRow 9 = .ok (.iload_n 2, 1) := by decide +kernel
theorem dX8_passesRow_10 : decode cX8_passesRow 10 = .ok (.aload_n 0, 1) := by decide +kernel
theorem dX8_passesRow_11 : decode cX8_passesRow 11 = .ok (.aload_n 1, 1) := by decide +kernel
theorem dX8_passesRow_12 : decode cX8_passesRow 12 = .ok (.iload_n 2, 1) := by decide +kernel
theorem dX8_passesRow_13 : decode cX8_passesRow 13 = .ok (.iaload, 1) := by decide +kernel
theorem dX8_passesRow_14 : decode cX8_passesRow 14 = .ok (.invokevirtual 107, 3) := by decide +kernel
theorem dX8_passesRow_17 : decode cX8_passesRow 17 = .ok (.iastore, 1) := by decide +kernel
theorem dX8_passesRow_18 : decode cX8_passesRow 18 = .ok (.iinc 2 1, 3) := by decide +kernel
theorem dX8_passesRow_21 : decode cX8_passesRow 21 = .ok (.goto (-19), 3) := by decide +kernel
theorem dX8_passesRow_24 : decode cX8_passesRow 24 = .ok (.return_, 1) := by decide +kernel
theorem dX8_passesAll_0 : decode cX8_passesAll 0 = .ok (.aload_n 0, 1) := by decide +kernel
theorem dX8_passesAll_1 : decode cX8_passesAll 1 = .ok (.iload_n 1, 1) := by decide +kernel
theorem dX8_passesAll_2 : decode cX8_passesAll 2 = .ok (.putfield 100, 3) := by decide +kernel
theorem dX8_passesAll_5 : decode cX8_passesAll 5 = .ok (.aload_n 0, 1) := by decide +kernel
theorem dX8_passesAll_6 : decode cX8_passesAll 6 = .ok (.iconst 0, 1) := by decide +kernel
theorem dX8_passesAll_7 : decode cX8_passesAll 7 = .ok (.putfield 104, 3) := by decide +kernel
theorem dX8_passesAll_10 : decode cX8_passesAll 10 = .ok (.aload_n 0, 1) := by decide +kernel
theorem dX8_passesAll_11 : decode cX8_passesAll 11 = .ok (.aload_n 0, 1) := by decide +kernel
theorem dX8_passesAll_12 : decode cX8_passesAll 12 = .ok (.aload_n 0, 1) := by decide +kernel
theorem dX8_passesAll_13 : decode cX8_passesAll 13 = .ok (.getfield 9, 3) := by decide +kernel
theorem dX8_passesAll_16 : decode cX8_passesAll 16 = .ok (.invokevirtual 107, 3) := by decide +kernel
theorem dX8_passesAll_19 : decode cX8_passesAll 19 = .ok (.putfield 9, 3) := by decide +kernel
theorem dX8_passesAll_22 : decode cX8_passesAll 22 = .ok (.aload_n 0, 1) := by decide +kernel
theorem dX8_passesAll_23 : decode cX8_passesAll 23 = .ok (.aload_n 0, 1) := by decide +kernel
theorem dX8_passesAll_24 : decode cX8_passesAll 24 = .ok (.aload_n 0, 1) := by decide +kernel
theorem dX8_passesAll_25 : decode cX8_passesAll 25 = .ok (.getfield 15, 3) := by decide +kernel
theorem dX8_passesAll_28 : decode cX8_passesAll 28 = .ok (.invokevirtual 107, 3) := by decide +kernel
theorem dX8_passesAll_31 : decode cX8_passesAll 31 = .ok (.putfield 15, 3) := by decide +kernel
theorem dX8_passesAll_34 : decode cX8_passesAll 34 = .ok (.aload_n 0, 1) := by decide +kernel
theorem dX8_passesAll_35 : decode cX8_passesAll 35 = .ok (.aload_n 0, 1) := by decide +kernel
theorem dX8_passesAll_36 : decode cX8_passesAll 36 = .ok (.aload_n 0, 1) := by decide +kernel
theorem dX8_passesAll_37 : decode cX8_passesAll 37 = .ok (.getfield 111, 3) := by decide +kernel
theorem dX8_passesAll_40 : decode cX8_passesAll 40 = .ok (.invokevirtual 107, 3) := by decide +kernel
theorem dX8_passesAll_43 : decode cX8_passesAll 43 = .ok (.putfield 111, 3) := by decide +kernel
theorem dX8_passesAll_46 : decode cX8_passesAll 46 = .ok (.aload_n 0, 1) := by decide +kernel
theorem dX8_passesAll_47 : decode cX8_passesAll 47 = .ok (.aload_n 0, 1) := by decide +kernel
theorem dX8_passesAll_48 : decode cX8_passesAll 48 = .ok (.aload_n 0, 1) := by decide +kernel
theorem dX8_passesAll_49 : decode cX8_passesAll 49 = .ok (.getfield 114, 3) := by decide +kernel
theorem dX8_passesAll_52 : decode cX8_passesAll 52 = .ok (.invokevirtual 107, 3) := by decide +kernel
theorem dX8_passesAll_55 : decode cX8_passesAll 55 = .ok (.putfield 114, 3) := by decide +kernel
theorem dX8_passesAll_58 : decode cX8_passesAll 58 = .ok (.aload_n 0, 1) := by decide +kernel
theorem dX8_passesAll_59 : decode cX8_passesAll 59 = .ok (.aload_n 0, 1) := by decide +kernel
theorem dX8_passesAll_60 : decode cX8_passesAll 60 = .ok (.aload_n 0, 1) := by decide +kernel
theorem dX8_passesAll_61 : decode cX8_passesAll 61 = .ok (.getfield 117, 3) := by decide +kernel
theorem dX8_passesAll_64 : decode cX8_passesAll 64 = .ok (.invokevirtual 107, 3) := by decide +kernel
theorem dX8_passesAll_67 : decode cX8_passesAll 67 = .ok (.putfield 117, 3) := by decide +kernel
theorem dX8_passesAll_70 : decode cX8_passesAll 70 = .ok (.aload_n 0, 1) := by decide +kernel
theorem dX8_passesAll_71 : decode cX8_passesAll 71 = .ok (.aload_n 0, 1) := by decide +kernel
theorem dX8_passesAll_72 : decode cX8_passesAll 72 = .ok (.getfield 18, 3) := by decide +kernel
theorem dX8_passesAll_75 : decode cX8_passesAll 75 = .ok (.invokevirtual 120, 3) := by decide +kernel
theorem dX8_passesAll_78 : decode cX8_passesAll 78 = .ok (.aload_n 0, 1) := by decide +kernel
theorem dX8_passesAll_79 : decode cX8_passesAll 79 = .ok (.aload_n 0, 1) := by decide +kernel
theorem dX8_passesAll_80 : decode cX8_passesAll 80 = .ok (.getfield 22, 3) := by decide +kernel
theorem dX8_passesAll_83 : decode cX8_passesAll 83 = .ok (.invokevirtual 120, 3) := by decide +kernel
theorem dX8_passesAll_86 : decode cX8_passesAll 86 = .ok (.aload_n 0, 1) := by decide +kernel
theorem dX8_passesAll_87 : decode cX8_passesAll 87 = .ok (.aload_n 0, 1) := by decide +kernel
theorem dX8_passesAll_88 : decode cX8_passesAll 88 = .ok (.getfield 25, 3) := by decide +kernel
theorem dX8_passesAll_91 : decode cX8_passesAll 91 = .ok (.invokevirtual 120, 3) := by decide +kernel
theorem dX8_passesAll_94 : decode cX8_passesAll 94 = .ok (.aload_n 0, 1) := by decide +kernel
theorem dX8_passesAll_95 : decode cX8_passesAll 95 = .ok (.aload_n 0, 1) := by decide +kernel
theorem dX8_passesAll_96 : decode cX8_passesAll 96 = .ok (.getfield 28, 3) := by decide +kernel
theorem dX8_passesAll_99 : decode cX8_passesAll 99 = .ok (.invokevirtual 120, 3) := by decide +kernel
theorem dX8_passesAll_102 : decode cX8_passesAll 102 = .ok (.aload_n 0, 1) := by decide +kernel
theorem dX8_passesAll_103 : decode cX8_passesAll 103 = .ok (.aload_n 0, 1) := by decide +kernel
theorem dX8_passesAll_104 : decode cX8_passesAll 104 = .ok (.getfield 31, 3) := by decide +kernel
theorem dX8_passesAll_107 : decode cX8_passesAll 107 = .ok (.invokevirtual 120, 3) := by decide +kernel
theorem dX8_passesAll_110 : decode cX8_passesAll 110 = .ok (.aload_n 0, 1) := by decide +kernel
theorem dX8_passesAll_111 : decode cX8_passesAll 111 = .ok (.aload_n 0, 1) := by decide +kernel
theorem dX8_passesAll_112 : decode cX8_passesAll 112 = .ok (.getfield 34, 3) := by decide +kernel
theorem dX8_passesAll_115 : decode cX8_passesAll 115 = .ok (.invokevirtual 120, 3) := by decide +kernel
theorem dX8_passesAll_118 : decode cX8_passesAll 118 = .ok (.aload_n 0, 1) := by decide +kernel
theorem dX8_passesAll_119 : decode cX8_passesAll 119 = .ok (.aload_n 0, 1) := by decide +kernel
theorem dX8_passesAll_120 : decode cX8_passesAll 120 = .ok (.getfield 37, 3) := by decide +kernel
theorem dX8_passesAll_123 : decode cX8_passesAll 123 = .ok (.invokevirtual 120, 3) := by decide +kernel
theorem dX8_passesAll_126 : decode cX8_passesAll 126 = .ok (.aload_n 0, 1) := by decide +kernel
theorem dX8_passesAll_127 : decode cX8_passesAll 127 = .ok (.aload_n 0, 1) := by decide +kernel
theorem dX8_passesAll_128 : decode cX8_passesAll 128 = .ok (.getfield 40, 3) := by decide +kernel
theorem dX8_passesAll_131 : decode cX8_passesAll 131 = .ok (.invokevirtual 120, 3) := by decide +kernel
theorem dX8_passesAll_134 : decode cX8_passesAll 134 = .ok (.aload_n 0, 1) := by decide +kernel
theorem dX8_passesAll_135 : decode cX8_passesAll 135 = .ok (.aload_n 0, 1) := by decide +kernel
theorem dX8_passesAll_136 : decode cX8_passesAll 136 = .ok (.getfield 43, 3) := by decide +kernel
theorem dX8_passesAll_139 : decode cX8_passesAll 139 = .ok (.invokevirtual 120, 3) := by decide +kernel
theorem dX8_passesAll_142 : decode cX8_passesAll 142 = .ok (.aload_n 0, 1) := by decide +kernel
theorem dX8_passesAll_143 : decode cX8_passesAll 143 = .ok (.aload_n 0, 1) := by decide +kernel
theorem dX8_passesAll_144 : decode cX8_passesAll 144 = .ok (.getfield 46, 3) := by decide +kernel
theorem dX8_passesAll_147 : decode cX8_passesAll 147 = .ok (.invokevirtual 120, 3) := by decide +kernel
theorem dX8_passesAll_150 : decode cX8_passesAll 150 = .ok (.aload_n 0, 1) := by decide +kernel
theorem dX8_passesAll_151 : decode cX8_passesAll 151 = .ok (.getfield 9, 3) := by decide +kernel
theorem dX8_passesAll_154 : decode cX8_passesAll 154 = .ok (.ireturn, 1) := by decide +kernel
theorem dX8_image_0 : decode cX8_image 0 = .ok (.aload_n 0, 1) := by decide +kernel
theorem dX8_image_1 : decode cX8_image 1 = .ok (.iconst 1, 1) := by decide +kernel
theorem dX8_image_2 : decode cX8_image 2 = .ok (.putfield 124, 3) := by decide +kernel
theorem dX8_image_5 : decode cX8_image 5 = .ok (.aload_n 0, 1) := by decide +kernel
theorem dX8_image_6 : decode cX8_image 6 = .ok (.iconst 1, 1) := by decide +kernel
theorem dX8_image_7 : decode cX8_image 7 = .ok (.invokevirtual 127, 3) := by decide +kernel
theorem dX8_image_10 : decode cX8_image 10 = .ok (.ireturn, 1) := by decide +kernel
theorem dX8_undo_0 : decode cX8_undo 0 = .ok (.aload_n 0, 1) := by decide +kernel
theorem dX8_undo_1 : decode cX8_undo 1 = .ok (.getfield 124, 3) := by decide +kernel
theorem dX8_undo_4 : decode cX8_undo 4 = .ok (.ifCond .eq 11, 3) := by decide +kernel
theorem dX8_undo_7 : decode cX8_undo 7 = .ok (.aload_n 0, 1) := by decide +kernel
theorem dX8_undo_8 : decode cX8_undo 8 = .ok (.iconst 0, 1) := by decide +kernel
theorem dX8_undo_9 : decode cX8_undo 9 = .ok (.invokevirtual 127, 3) := by decide +kernel
theorem dX8_undo_12 : decode cX8_undo 12 = .ok (.goto 5, 3) := by decide +kernel
theorem dX8_undo_15 : decode cX8_undo 15 = .ok (.bipush (-3), 2) := by decide +kernel
theorem dX8_undo_17 : decode cX8_undo 17 = .ok (.ireturn, 1) := by decide +kernel
theorem dX8_lays_0 : decode cX8_lays 0 = .ok (.iconst 0, 1) := by decide +kernel
theorem dX8_lays_1 : decode cX8_lays 1 = .ok (.istore_n 2, 1) := by decide +kernel
theorem dX8_lays_2 : decode cX8_lays 2 = .ok (.iload_n 2, 1) := by decide +kernel
theorem dX8_lays_3 : decode cX8_lays 3 = .ok (.aload_n 0, 1) := by decide +kernel
theorem dX8_lays_4 : decode cX8_lays 4 = .ok (.arraylength, 1) := by decide +kernel
theorem dX8_lays_5 : decode cX8_lays 5 = .ok (.if_icmp .ge 15, 3) := by decide +kernel
theorem dX8_lays_8 : decode cX8_lays 8 = .ok (.aload_n 1, 1) := by decide +kernel
theorem dX8_lays_9 : decode cX8_lays 9 = .ok (.iload_n 2, 1) := by decide +kernel
theorem dX8_lays_10 : decode cX8_lays 10 = .ok (.aload_n 0, 1) := by decide +kernel
theorem dX8_lays_11 : decode cX8_lays 11 = .ok (.iload_n 2, 1) := by decide +kernel
theorem dX8_lays_12 : decode cX8_lays 12 = .ok (.iaload, 1) := by decide +kernel
theorem dX8_lays_13 : decode cX8_lays 13 = .ok (.iastore, 1) := by decide +kernel
theorem dX8_lays_14 : decode cX8_lays 14 = .ok (.iinc 2 1, 3) := by decide +kernel
theorem dX8_lays_17 : decode cX8_lays 17 = .ok (.goto (-15), 3) := by decide +kernel
theorem dX8_lays_20 : decode cX8_lays 20 = .ok (.return_, 1) := by decide +kernel
theorem dX8_minds_0 : decode cX8_minds 0 = .ok (.aload_n 0, 1) := by decide +kernel
theorem dX8_minds_1 : decode cX8_minds 1 = .ok (.getfield 22, 3) := by decide +kernel
theorem dX8_minds_4 : decode cX8_minds 4 = .ok (.aload_n 0, 1) := by decide +kernel
theorem dX8_minds_5 : decode cX8_minds 5 = .ok (.getfield 58, 3) := by decide +kernel
theorem dX8_minds_8 : decode cX8_minds 8 = .ok (.invokestatic 131, 3) := by decide +kernel
theorem dX8_minds_11 : decode cX8_minds 11 = .ok (.aload_n 0, 1) := by decide +kernel
theorem dX8_minds_12 : decode cX8_minds 12 = .ok (.getfield 25, 3) := by decide +kernel
theorem dX8_minds_15 : decode cX8_minds 15 = .ok (.aload_n 0, 1) := by decide +kernel
theorem dX8_minds_16 : decode cX8_minds 16 = .ok (.getfield 61, 3) := by decide +kernel
theorem dX8_minds_19 : decode cX8_minds 19 = .ok (.invokestatic 131, 3) := by decide +kernel
theorem dX8_minds_22 : decode cX8_minds 22 = .ok (.aload_n 0, 1) := by decide +kernel
theorem dX8_minds_23 : decode cX8_minds 23 = .ok (.getfield 28, 3) := by decide +kernel
theorem dX8_minds_26 : decode cX8_minds 26 = .ok (.aload_n 0, 1) := by decide +kernel
theorem dX8_minds_27 : decode cX8_minds 27 = .ok (.getfield 64, 3) := by decide +kernel
theorem dX8_minds_30 : decode cX8_minds 30 = .ok (.invokestatic 131, 3) := by decide +kernel
theorem dX8_minds_33 : decode cX8_minds 33 = .ok (.aload_n 0, 1) := by decide +kernel
theorem dX8_minds_34 : decode cX8_minds 34 = .ok (.getfield 49, 3) := by decide +kernel
theorem dX8_minds_37 : decode cX8_minds 37 = .ok (.aload_n 0, 1) := by decide +kernel
theorem dX8_minds_38 : decode cX8_minds 38 = .ok (.getfield 67, 3) := by decide +kernel
theorem dX8_minds_41 : decode cX8_minds 41 = .ok (.invokestatic 131, 3) := by decide +kernel
theorem dX8_minds_44 : decode cX8_minds 44 = .ok (.aload_n 0, 1) := by decide +kernel
theorem dX8_minds_45 : decode cX8_minds 45 = .ok (.aload_n 0, 1) := by decide +kernel
theorem dX8_minds_46 : decode cX8_minds 46 = .ok (.getfield 15, 3) := by decide +kernel
theorem dX8_minds_49 : decode cX8_minds 49 = .ok (.putfield 135, 3) := by decide +kernel
theorem dX8_minds_52 : decode cX8_minds 52 = .ok (.return_, 1) := by decide +kernel
theorem dX8_forgets_0 : decode cX8_forgets 0 = .ok (.aload_n 0, 1) := by decide +kernel
theorem dX8_forgets_1 : decode cX8_forgets 1 = .ok (.getfield 58, 3) := by decide +kernel
theorem dX8_forgets_4 : decode cX8_forgets 4 = .ok (.aload_n 0, 1) := by decide +kernel
theorem dX8_forgets_5 : decode cX8_forgets 5 = .ok (.getfield 22, 3) := by decide +kernel
theorem dX8_forgets_8 : decode cX8_forgets 8 = .ok (.invokestatic 131, 3) := by decide +kernel
theorem dX8_forgets_11 : decode cX8_forgets 11 = .ok (.aload_n 0, 1) := by decide +kernel
theorem dX8_forgets_12 : decode cX8_forgets 12 = .ok (.getfield 61, 3) := by decide +kernel
theorem dX8_forgets_15 : decode cX8_forgets 15 = .ok (.aload_n 0, 1) := by decide +kernel
theorem dX8_forgets_16 : decode cX8_forgets 16 = .ok (.getfield 25, 3) := by decide +kernel
theorem dX8_forgets_19 : decode cX8_forgets 19 = .ok (.invokestatic 131, 3) := by decide +kernel
theorem dX8_forgets_22 : decode cX8_forgets 22 = .ok (.aload_n 0, 1) := by decide +kernel
theorem dX8_forgets_23 : decode cX8_forgets 23 = .ok (.getfield 64, 3) := by decide +kernel
theorem dX8_forgets_26 : decode cX8_forgets 26 = .ok (.aload_n 0, 1) := by decide +kernel
theorem dX8_forgets_27 : decode cX8_forgets 27 = .ok (.getfield 28, 3) := by decide +kernel
theorem dX8_forgets_30 : decode cX8_forgets 30 = .ok (.invokestatic 131, 3) := by decide +kernel
theorem dX8_forgets_33 : decode cX8_forgets 33 = .ok (.aload_n 0, 1) := by decide +kernel
theorem dX8_forgets_34 : decode cX8_forgets 34 = .ok (.getfield 67, 3) := by decide +kernel
theorem dX8_forgets_37 : decode cX8_forgets 37 = .ok (.aload_n 0, 1) := by decide +kernel
theorem dX8_forgets_38 : decode cX8_forgets 38 = .ok (.getfield 49, 3) := by decide +kernel
theorem dX8_forgets_41 : decode cX8_forgets 41 = .ok (.invokestatic 131, 3) := by decide +kernel
theorem dX8_forgets_44 : decode cX8_forgets 44 = .ok (.aload_n 0, 1) := by decide +kernel
theorem dX8_forgets_45 : decode cX8_forgets 45 = .ok (.aload_n 0, 1) := by decide +kernel
theorem dX8_forgets_46 : decode cX8_forgets 46 = .ok (.getfield 135, 3) := by decide +kernel
theorem dX8_forgets_49 : decode cX8_forgets 49 = .ok (.putfield 15, 3) := by decide +kernel
theorem dX8_forgets_52 : decode cX8_forgets 52 = .ok (.return_, 1) := by decide +kernel
theorem dX8_may_0 : decode cX8_may 0 = .ok (.aload_n 0, 1) := by decide +kernel
theorem dX8_may_1 : decode cX8_may 1 = .ok (.getfield 18, 3) := by decide +kernel
theorem dX8_may_4 : decode cX8_may 4 = .ok (.bipush 8, 2) := by decide +kernel
theorem dX8_may_6 : decode cX8_may 6 = .ok (.iload_n 1, 1) := by decide +kernel
theorem dX8_may_7 : decode cX8_may 7 = .ok (.imul, 1) := by decide +kernel
theorem dX8_may_8 : decode cX8_may 8 = .ok (.iload_n 2, 1) := by decide +kernel
theorem dX8_may_9 : decode cX8_may 9 = .ok (.iadd, 1) := by decide +kernel
theorem dX8_may_10 : decode cX8_may 10 = .ok (.iaload, 1) := by decide +kernel
theorem dX8_may_11 : decode cX8_may 11 = .ok (.ifCond .lt 7, 3) := by decide +kernel
theorem dX8_may_14 : decode cX8_may 14 = .ok (.iconst 1, 1) := by decide +kernel
theorem dX8_may_15 : decode cX8_may 15 = .ok (.goto 4, 3) := by decide +kernel
theorem dX8_may_18 : decode cX8_may 18 = .ok (.iconst 0, 1) := by decide +kernel
theorem dX8_may_19 : decode cX8_may 19 = .ok (.ireturn, 1) := by decide +kernel
theorem dX8_gain_0 : decode cX8_gain 0 = .ok (.aload_n 0, 1) := by decide +kernel
theorem dX8_gain_1 : decode cX8_gain 1 = .ok (.getfield 9, 3) := by decide +kernel
theorem dX8_gain_4 : decode cX8_gain 4 = .ok (.iconst 1, 1) := by decide +kernel
theorem dX8_gain_5 : decode cX8_gain 5 = .ok (.iadd, 1) := by decide +kernel
theorem dX8_gain_6 : decode cX8_gain 6 = .ok (.aload_n 0, 1) := by decide +kernel
theorem dX8_gain_7 : decode cX8_gain 7 = .ok (.getfield 18, 3) := by decide +kernel
theorem dX8_gain_10 : decode cX8_gain 10 = .ok (.bipush 8, 2) := by decide +kernel
theorem dX8_gain_12 : decode cX8_gain 12 = .ok (.iload_n 1, 1) := by decide +kernel
theorem dX8_gain_13 : decode cX8_gain 13 = .ok (.imul, 1) := by decide +kernel
theorem dX8_gain_14 : decode cX8_gain 14 = .ok (.iload_n 2, 1) := by decide +kernel
theorem dX8_gain_15 : decode cX8_gain 15 = .ok (.iadd, 1) := by decide +kernel
theorem dX8_gain_16 : decode cX8_gain 16 = .ok (.iaload, 1) := by decide +kernel
theorem dX8_gain_17 : decode cX8_gain 17 = .ok (.imul, 1) := by decide +kernel
theorem dX8_gain_18 : decode cX8_gain 18 = .ok (.aload_n 0, 1) := by decide +kernel
theorem dX8_gain_19 : decode cX8_gain 19 = .ok (.getfield 28, 3) := by decide +kernel
theorem dX8_gain_22 : decode cX8_gain 22 = .ok (.iload_n 2, 1) := by decide +kernel
theorem dX8_gain_23 : decode cX8_gain 23 = .ok (.iaload, 1) := by decide +kernel
theorem dX8_gain_24 : decode cX8_gain 24 = .ok (.isub, 1) := by decide +kernel
theorem dX8_gain_25 : decode cX8_gain 25 = .ok (.ireturn, 1) := by decide +kernel
theorem dX8_best_0 : decode cX8_best 0 = .ok (.iconst (-1), 1) := by decide +kernel
theorem dX8_best_1 : decode cX8_best 1 = .ok (.istore_n 2, 1) := by decide +kernel
theorem dX8_best_2 : decode cX8_best 2 = .ok (.aload_n 0, 1) := by decide +kernel
theorem dX8_best_3 : decode cX8_best 3 = .ok (.getfield 9, 3) := by decide +kernel
theorem dX8_best_6 : decode cX8_best 6 = .ok (.iconst 1, 1) := by decide +kernel
theorem dX8_best_7 : decode cX8_best 7 = .ok (.isub, 1) := by decide +kernel
theorem dX8_best_8 : decode cX8_best 8 = .ok (.istore_n 3, 1) := by decide +kernel
theorem dX8_best_9 : decode cX8_best 9 = .ok (.iload_n 3, 1) := by decide +kernel
theorem dX8_best_10 : decode cX8_best 10 = .ok (.ifCond .lt 39, 3) := by decide +kernel
theorem dX8_best_13 : decode cX8_best 13 = .ok (.aload_n 0, 1) := by decide +kernel
theorem dX8_best_14 : decode cX8_best 14 = .ok (.iload_n 1, 1) := by decide +kernel
theorem dX8_best_15 : decode cX8_best 15 = .ok (.iload_n 3, 1) := by decide +kernel
theorem dX8_best_16 : decode cX8_best 16 = .ok (.invokevirtual 138, 3) := by decide +kernel
theorem dX8_best_19 : decode cX8_best 19 = .ok (.ifCond .eq 24, 3) := by decide +kernel
theorem dX8_best_22 : decode cX8_best 22 = .ok (.iload_n 2, 1) := by decide +kernel
theorem dX8_best_23 : decode cX8_best 23 = .ok (.ifCond .lt 18, 3) := by decide +kernel
theorem dX8_best_26 : decode cX8_best 26 = .ok (.aload_n 0, 1) := by decide +kernel
theorem dX8_best_27 : decode cX8_best 27 = .ok (.iload_n 1, 1) := by decide +kernel
theorem dX8_best_28 : decode cX8_best 28 = .ok (.iload_n 3, 1) := by decide +kernel
theorem dX8_best_29 : decode cX8_best 29 = .ok (.invokevirtual 142, 3) := by decide +kernel
theorem dX8_best_32 : decode cX8_best 32 = .ok (.aload_n 0, 1) := by decide +kernel
theorem dX8_best_33 : decode cX8_best 33 = .ok (.iload_n 1, 1) := by decide +kernel
theorem dX8_best_34 : decode cX8_best 34 = .ok (.iload_n 2, 1) := by decide +kernel
theorem dX8_best_35 : decode cX8_best 35 = .ok (.invokevirtual 142, 3) := by decide +kernel
theorem dX8_best_38 : decode cX8_best 38 = .ok (.if_icmp .lt 5, 3) := by decide +kernel
theorem dX8_best_41 : decode cX8_best 41 = .ok (.iload_n 3, 1) := by decide +kernel
theorem dX8_best_42 : decode cX8_best 42 = .ok (.istore_n 2, 1) := by decide +kernel
theorem dX8_best_43 : decode cX8_best 43 = .ok (.iinc 3 (-1), 3) := by decide +kernel
theorem dX8_best_46 : decode cX8_best 46 = .ok (.goto (-37), 3) := by decide +kernel
theorem dX8_best_49 : decode cX8_best 49 = .ok (.iload_n 2, 1) := by decide +kernel
theorem dX8_best_50 : decode cX8_best 50 = .ok (.ireturn, 1) := by decide +kernel
theorem dX8_second_0 : decode cX8_second 0 = .ok (.iconst (-1), 1) := by decide +kernel
theorem dX8_second_1 : decode cX8_second 1 = .ok (.istore_n 3, 1) := by decide +kernel
theorem dX8_second_2 : decode cX8_second 2 = .ok (.iconst 0, 1) := by decide +kernel
theorem dX8_second_3 : decode cX8_second 3 = .ok (.istore 4, 2) := by decide +kernel
theorem dX8_second_5 : decode cX8_second 5 = .ok (.iload 4, 2) := by decide +kernel
theorem dX8_second_7 : decode cX8_second 7 = .ok (.aload_n 0, 1) := by decide +kernel
theorem dX8_second_8 : decode cX8_second 8 = .ok (.getfield 9, 3) := by decide +kernel
theorem dX8_second_11 : decode cX8_second 11 = .ok (.if_icmp .ge 48, 3) := by decide +kernel
theorem dX8_second_14 : decode cX8_second 14 = .ok (.iload 4, 2) := by decide +kernel
theorem dX8_second_16 : decode cX8_second 16 = .ok (.iload_n 2, 1) := by decide +kernel
theorem dX8_second_17 : decode cX8_second 17 = .ok (.if_icmp .eq 36, 3) := by decide +kernel
theorem dX8_second_20 : decode cX8_second 20 = .ok (.aload_n 0, 1) := by decide +kernel
theorem dX8_second_21 : decode cX8_second 21 = .ok (.iload_n 1, 1) := by decide +kernel
theorem dX8_second_22 : decode cX8_second 22 = .ok (.iload 4, 2) := by decide +kernel
theorem dX8_second_24 : decode cX8_second 24 = .ok (.invokevirtual 138, 3) := by decide +kernel
theorem dX8_second_27 : decode cX8_second 27 = .ok (.ifCond .eq 26, 3) := by decide +kernel
theorem dX8_second_30 : decode cX8_second 30 = .ok (.iload_n 3, 1) := by decide +kernel
theorem dX8_second_31 : decode cX8_second 31 = .ok (.ifCond .lt 19, 3) := by decide +kernel
theorem dX8_second_34 : decode cX8_second 34 = .ok (.aload_n 0, 1) := by decide +kernel
theorem dX8_second_35 : decode cX8_second 35 = .ok (.iload_n 1, 1) := by decide +kernel
theorem dX8_second_36 : decode cX8_second 36 = .ok (.iload 4, 2) := by decide +kernel
theorem dX8_second_38 : decode cX8_second 38 = .ok (.invokevirtual 142, 3) := by decide +kernel
theorem dX8_second_41 : decode cX8_second 41 = .ok (.aload_n 0, 1) := by decide +kernel
theorem dX8_second_42 : decode cX8_second 42 = .ok (.iload_n 1, 1) := by decide +kernel
theorem dX8_second_43 : decode cX8_second 43 = .ok (.iload_n 3, 1) := by decide +kernel
theorem dX8_second_44 : decode cX8_second 44 = .ok (.invokevirtual 142, 3) := by decide +kernel
theorem dX8_second_47 : decode cX8_second 47 = .ok (.if_icmp .le 6, 3) := by decide +kernel
theorem dX8_second_50 : decode cX8_second 50 = .ok (.iload 4, 2) := by decide +kernel
theorem dX8_second_52 : decode cX8_second 52 = .ok (.istore_n 3, 1) := by decide +kernel
theorem dX8_second_53 : decode cX8_second 53 = .ok (.iinc 4 1, 3) := by decide +kernel
theorem dX8_second_56 : decode cX8_second 56 = .ok (.goto (-51), 3) := by decide +kernel
theorem dX8_second_59 : decode cX8_second 59 = .ok (.iload_n 3, 1) := by decide +kernel
theorem dX8_second_60 : decode cX8_second 60 = .ok (.ifCond .ge 15, 3) := by decide +kernel
theorem dX8_second_63 : decode cX8_second 63 = .ok (.aload_n 0, 1) := by decide +kernel
theorem dX8_second_64 : decode cX8_second 64 = .ok (.iload_n 1, 1) := by decide +kernel
theorem dX8_second_65 : decode cX8_second 65 = .ok (.iload_n 2, 1) := by decide +kernel
theorem dX8_second_66 : decode cX8_second 66 = .ok (.invokevirtual 142, 3) := by decide +kernel
theorem dX8_second_69 : decode cX8_second 69 = .ok (.bipush 100, 2) := by decide +kernel
theorem dX8_second_71 : decode cX8_second 71 = .ok (.isub, 1) := by decide +kernel
theorem dX8_second_72 : decode cX8_second 72 = .ok (.goto 9, 3) := by decide +kernel
theorem dX8_second_75 : decode cX8_second 75 = .ok (.aload_n 0, 1) := by decide +kernel
theorem dX8_second_76 : decode cX8_second 76 = .ok (.iload_n 1, 1) := by decide +kernel
theorem dX8_second_77 : decode cX8_second 77 = .ok (.iload_n 3, 1) := by decide +kernel
theorem dX8_second_78 : decode cX8_second 78 = .ok (.invokevirtual 142, 3) := by decide +kernel
theorem dX8_second_81 : decode cX8_second 81 = .ok (.ireturn, 1) := by decide +kernel
theorem dX8_offer_0 : decode cX8_offer 0 = .ok (.aload_n 0, 1) := by decide +kernel
theorem dX8_offer_1 : decode cX8_offer 1 = .ok (.iload_n 1, 1) := by decide +kernel
theorem dX8_offer_2 : decode cX8_offer 2 = .ok (.invokevirtual 146, 3) := by decide +kernel
theorem dX8_offer_5 : decode cX8_offer 5 = .ok (.istore_n 2, 1) := by decide +kernel
theorem dX8_offer_6 : decode cX8_offer 6 = .ok (.aload_n 0, 1) := by decide +kernel
theorem dX8_offer_7 : decode cX8_offer 7 = .ok (.getfield 28, 3) := by decide +kernel
theorem dX8_offer_10 : decode cX8_offer 10 = .ok (.iload_n 2, 1) := by decide +kernel
theorem dX8_offer_11 : decode cX8_offer 11 = .ok (.iaload, 1) := by decide +kernel
theorem dX8_offer_12 : decode cX8_offer 12 = .ok (.aload_n 0, 1) := by decide +kernel
theorem dX8_offer_13 : decode cX8_offer 13 = .ok (.iload_n 1, 1) := by decide +kernel
theorem dX8_offer_14 : decode cX8_offer 14 = .ok (.iload_n 2, 1) := by decide +kernel
theorem dX8_offer_15 : decode cX8_offer 15 = .ok (.invokevirtual 142, 3) := by decide +kernel
theorem dX8_offer_18 : decode cX8_offer 18 = .ok (.iadd, 1) := by decide +kernel
theorem dX8_offer_19 : decode cX8_offer 19 = .ok (.aload_n 0, 1) := by decide +kernel
theorem dX8_offer_20 : decode cX8_offer 20 = .ok (.iload_n 1, 1) := by decide +kernel
theorem dX8_offer_21 : decode cX8_offer 21 = .ok (.iload_n 2, 1) := by decide +kernel
theorem dX8_offer_22 : decode cX8_offer 22 = .ok (.invokevirtual 149, 3) := by decide +kernel
theorem dX8_offer_25 : decode cX8_offer 25 = .ok (.isub, 1) := by decide +kernel
theorem dX8_offer_26 : decode cX8_offer 26 = .ok (.aload_n 0, 1) := by decide +kernel
theorem dX8_offer_27 : decode cX8_offer 27 = .ok (.getfield 15, 3) := by decide +kernel
theorem dX8_offer_30 : decode cX8_offer 30 = .ok (.iadd, 1) := by decide +kernel
theorem dX8_offer_31 : decode cX8_offer 31 = .ok (.ireturn, 1) := by decide +kernel
theorem dX8_next_0 : decode cX8_next 0 = .ok (.iconst 0, 1) := by decide +kernel
theorem dX8_next_1 : decode cX8_next 1 = .ok (.istore_n 1, 1) := by decide +kernel
theorem dX8_next_2 : decode cX8_next 2 = .ok (.iload_n 1, 1) := by decide +kernel
theorem dX8_next_3 : decode cX8_next 3 = .ok (.aload_n 0, 1) := by decide +kernel
theorem dX8_next_4 : decode cX8_next 4 = .ok (.getfield 9, 3) := by decide +kernel
theorem dX8_next_7 : decode cX8_next 7 = .ok (.if_icmp .ge 28, 3) := by decide +kernel
theorem dX8_next_10 : decode cX8_next 10 = .ok (.aload_n 0, 1) := by decide +kernel
theorem dX8_next_11 : decode cX8_next 11 = .ok (.getfield 22, 3) := by decide +kernel
theorem dX8_next_14 : decode cX8_next 14 = .ok (.iload_n 1, 1) := by decide +kernel
theorem dX8_next_15 : decode cX8_next 15 = .ok (.iaload, 1) := by decide +kernel
theorem dX8_next_16 : decode cX8_next 16 = .ok (.ifCond .ge 13, 3) := by decide +kernel
theorem dX8_next_19 : decode cX8_next 19 = .ok (.aload_n 0, 1) := by decide +kernel
theorem dX8_next_20 : decode cX8_next 20 = .ok (.iload_n 1, 1) := by decide +kernel
theorem dX8_next_21 : decode cX8_next 21 = .ok (.invokevirtual 146, 3) := by decide +kernel
theorem dX8_next_24 : decode cX8_next 24 = .ok (.ifCond .lt 5, 3) := by decide +kernel
theorem dX8_next_27 : decode cX8_next 27 = .ok (.iload_n 1, 1) := by decide +kernel
theorem dX8_next_28 : decode cX8_next 28 = .ok (.ireturn, 1) := by decide +kernel
theorem dX8_next_29 : decode cX8_next 29 = .ok (.iinc 1 1, 3) := by decide +kernel
theorem dX8_next_32 : decode cX8_next 32 = .ok (.goto (-30), 3) := by decide +kernel
theorem dX8_next_35 : decode cX8_next 35 = .ok (.iconst (-1), 1) := by decide +kernel
theorem dX8_next_36 : decode cX8_next 36 = .ok (.ireturn, 1) := by decide +kernel
theorem dX8_loses_0 : decode cX8_loses 0 = .ok (.aload_n 0, 1) := by decide +kernel
theorem dX8_loses_1 : decode cX8_loses 1 = .ok (.getfield 22, 3) := by decide +kernel
theorem dX8_loses_4 : decode cX8_loses 4 = .ok (.iload_n 1, 1) := by decide +kernel
theorem dX8_loses_5 : decode cX8_loses 5 = .ok (.iaload, 1) := by decide +kernel
theorem dX8_loses_6 : decode cX8_loses 6 = .ok (.ifCond .lt 22, 3) := by decide +kernel
theorem dX8_loses_9 : decode cX8_loses 9 = .ok (.aload_n 0, 1) := by decide +kernel
theorem dX8_loses_10 : decode cX8_loses 10 = .ok (.getfield 25, 3) := by decide +kernel
theorem dX8_loses_13 : decode cX8_loses 13 = .ok (.aload_n 0, 1) := by decide +kernel
theorem dX8_loses_14 : decode cX8_loses 14 = .ok (.getfield 22, 3) := by decide +kernel
theorem dX8_loses_17 : decode cX8_loses 17 = .ok (.iload_n 1, 1) := by decide +kernel
theorem dX8_loses_18 : decode cX8_loses 18 = .ok (.iaload, 1) := by decide +kernel
theorem dX8_loses_19 : decode cX8_loses 19 = .ok (.iconst (-1), 1) := by decide +kernel
theorem dX8_loses_20 : decode cX8_loses 20 = .ok (.iastore, 1) := by decide +kernel
theorem dX8_loses_21 : decode cX8_loses 21 = .ok (.aload_n 0, 1) := by decide +kernel
theorem dX8_loses_22 : decode cX8_loses 22 = .ok (.getfield 22, 3) := by decide +kernel
theorem dX8_loses_25 : decode cX8_loses 25 = .ok (.iload_n 1, 1) := by decide +kernel
theorem dX8_loses_26 : decode cX8_loses 26 = .ok (.iconst (-1), 1) := by decide +kernel
theorem dX8_loses_27 : decode cX8_loses 27 = .ok (.iastore, 1) := by decide +kernel
theorem dX8_loses_28 : decode cX8_loses 28 = .ok (.return_, 1) := by decide +kernel
theorem dX8_bids_0 : decode cX8_bids 0 = .ok (.aload_n 0, 1) := by decide +kernel
theorem dX8_bids_1 : decode cX8_bids 1 = .ok (.iload_n 1, 1) := by decide +kernel
theorem dX8_bids_2 : decode cX8_bids 2 = .ok (.invokevirtual 146, 3) := by decide +kernel
theorem dX8_bids_5 : decode cX8_bids 5 = .ok (.istore_n 2, 1) := by decide +kernel
theorem dX8_bids_6 : decode cX8_bids 6 = .ok (.aload_n 0, 1) := by decide +kernel
theorem dX8_bids_7 : decode cX8_bids 7 = .ok (.getfield 28, 3) := by decide +kernel
theorem dX8_bids_10 : decode cX8_bids 10 = .ok (.iload_n 2, 1) := by decide +kernel
theorem dX8_bids_11 : decode cX8_bids 11 = .ok (.aload_n 0, 1) := by decide +kernel
theorem dX8_bids_12 : decode cX8_bids 12 = .ok (.iload_n 1, 1) := by decide +kernel
theorem dX8_bids_13 : decode cX8_bids 13 = .ok (.invokevirtual 152, 3) := by decide +kernel
theorem dX8_bids_16 : decode cX8_bids 16 = .ok (.iastore, 1) := by decide +kernel
theorem dX8_bids_17 : decode cX8_bids 17 = .ok (.aload_n 0, 1) := by decide +kernel
theorem dX8_bids_18 : decode cX8_bids 18 = .ok (.getfield 25, 3) := by decide +kernel
theorem dX8_bids_21 : decode cX8_bids 21 = .ok (.iload_n 2, 1) := by decide +kernel
theorem dX8_bids_22 : decode cX8_bids 22 = .ok (.iaload, 1) := by decide +kernel
theorem dX8_bids_23 : decode cX8_bids 23 = .ok (.ifCond .lt 13, 3) := by decide +kernel
theorem dX8_bids_26 : decode cX8_bids 26 = .ok (.aload_n 0, 1) := by decide +kernel
theorem dX8_bids_27 : decode cX8_bids 27 = .ok (.aload_n 0, 1) := by decide +kernel
theorem dX8_bids_28 : decode cX8_bids 28 = .ok (.getfield 25, 3) := by decide +kernel
theorem dX8_bids_31 : decode cX8_bids 31 = .ok (.iload_n 2, 1) := by decide +kernel
theorem dX8_bids_32 : decode cX8_bids 32 = .ok (.iaload, 1) := by decide +kernel
theorem dX8_bids_33 : decode cX8_bids 33 = .ok (.invokevirtual 155, 3) := by decide +kernel
theorem dX8_bids_36 : decode cX8_bids 36 = .ok (.aload_n 0, 1) := by decide +kernel
theorem dX8_bids_37 : decode cX8_bids 37 = .ok (.getfield 25, 3) := by decide +kernel
theorem dX8_bids_40 : decode cX8_bids 40 = .ok (.iload_n 2, 1) := by decide +kernel
theorem dX8_bids_41 : decode cX8_bids 41 = .ok (.iload_n 1, 1) := by decide +kernel
theorem dX8_bids_42 : decode cX8_bids 42 = .ok (.iastore, 1) := by decide +kernel
theorem dX8_bids_43 : decode cX8_bids 43 = .ok (.aload_n 0, 1) := by decide +kernel
theorem dX8_bids_44 : decode cX8_bids 44 = .ok (.getfield 22, 3) := by decide +kernel
theorem dX8_bids_47 : decode cX8_bids 47 = .ok (.iload_n 1, 1) := by decide +kernel
theorem dX8_bids_48 : decode cX8_bids 48 = .ok (.iload_n 2, 1) := by decide +kernel
theorem dX8_bids_49 : decode cX8_bids 49 = .ok (.iastore, 1) := by decide +kernel
theorem dX8_bids_50 : decode cX8_bids 50 = .ok (.iload_n 2, 1) := by decide +kernel
theorem dX8_bids_51 : decode cX8_bids 51 = .ok (.ireturn, 1) := by decide +kernel
theorem dX8_size_0 : decode cX8_size 0 = .ok (.iload_n 1, 1) := by decide +kernel
theorem dX8_size_1 : decode cX8_size 1 = .ok (.i2l, 1) := by decide +kernel
theorem dX8_size_2 : decode cX8_size 2 = .ok (.lconst 1, 1) := by decide +kernel
theorem dX8_size_3 : decode cX8_size 3 = .ok (.ldc2_w 159, 3) := by decide +kernel
theorem dX8_size_6 : decode cX8_size 6 = .ok (.invokestatic 92, 3) := by decide +kernel
theorem dX8_size_9 : decode cX8_size 9 = .ok (.ifCond .ne 6, 3) := by decide +kernel
theorem dX8_size_12 : decode cX8_size 12 = .ok (.bipush (-2), 2) := by decide +kernel
theorem dX8_size_14 : decode cX8_size 14 = .ok (.ireturn, 1) := by decide +kernel
theorem dX8_size_15 : decode cX8_size 15 = .ok (.aload_n 0, 1) := by decide +kernel
theorem dX8_size_16 : decode cX8_size 16 = .ok (.getfield 9, 3) := by decide +kernel
theorem dX8_size_19 : decode cX8_size 19 = .ok (.istore_n 2, 1) := by decide +kernel
theorem dX8_size_20 : decode cX8_size 20 = .ok (.aload_n 0, 1) := by decide +kernel
theorem dX8_size_21 : decode cX8_size 21 = .ok (.iload_n 1, 1) := by decide +kernel
theorem dX8_size_22 : decode cX8_size 22 = .ok (.putfield 9, 3) := by decide +kernel
theorem dX8_size_25 : decode cX8_size 25 = .ok (.iconst 0, 1) := by decide +kernel
theorem dX8_size_26 : decode cX8_size 26 = .ok (.istore_n 3, 1) := by decide +kernel
theorem dX8_size_27 : decode cX8_size 27 = .ok (.iload_n 3, 1) := by decide +kernel
theorem dX8_size_28 : decode cX8_size 28 = .ok (.bipush 64, 2) := by decide +kernel
theorem dX8_size_30 : decode cX8_size 30 = .ok (.if_icmp .ge 16, 3) := by decide +kernel
theorem dX8_size_33 : decode cX8_size 33 = .ok (.aload_n 0, 1) := by decide +kernel
theorem dX8_size_34 : decode cX8_size 34 = .ok (.getfield 18, 3) := by decide +kernel
theorem dX8_size_37 : decode cX8_size 37 = .ok (.iload_n 3, 1) := by decide +kernel
theorem dX8_size_38 : decode cX8_size 38 = .ok (.iconst 0, 1) := by decide +kernel
theorem dX8_size_39 : decode cX8_size 39 = .ok (.iastore, 1) := by decide +kernel
theorem dX8_size_40 : decode cX8_size 40 = .ok (.iinc 3 1, 3) := by decide +kernel
theorem dX8_size_43 : decode cX8_size 43 = .ok (.goto (-16), 3) := by decide +kernel
theorem dX8_size_46 : decode cX8_size 46 = .ok (.aload_n 0, 1) := by decide +kernel
theorem dX8_size_47 : decode cX8_size 47 = .ok (.invokevirtual 88, 3) := by decide +kernel
theorem dX8_size_50 : decode cX8_size 50 = .ok (.pop, 1) := by decide +kernel
theorem dX8_size_51 : decode cX8_size 51 = .ok (.aload_n 0, 1) := by decide +kernel
theorem dX8_size_52 : decode cX8_size 52 = .ok (.invokevirtual 161, 3) := by decide +kernel
theorem dX8_size_55 : decode cX8_size 55 = .ok (.aload_n 0, 1) := by decide +kernel
theorem dX8_size_56 : decode cX8_size 56 = .ok (.iconst 0, 1) := by decide +kernel
theorem dX8_size_57 : decode cX8_size 57 = .ok (.putfield 111, 3) := by decide +kernel
theorem dX8_size_60 : decode cX8_size 60 = .ok (.aload_n 0, 1) := by decide +kernel
theorem dX8_size_61 : decode cX8_size 61 = .ok (.iconst 0, 1) := by decide +kernel
theorem dX8_size_62 : decode cX8_size 62 = .ok (.putfield 114, 3) := by decide +kernel
theorem dX8_size_65 : decode cX8_size 65 = .ok (.aload_n 0, 1) := by decide +kernel
theorem dX8_size_66 : decode cX8_size 66 = .ok (.iconst 0, 1) := by decide +kernel
theorem dX8_size_67 : decode cX8_size 67 = .ok (.putfield 117, 3) := by decide +kernel
theorem dX8_size_70 : decode cX8_size 70 = .ok (.iload_n 2, 1) := by decide +kernel
theorem dX8_size_71 : decode cX8_size 71 = .ok (.ireturn, 1) := by decide +kernel
theorem dX8_becomes_0 : decode cX8_becomes 0 = .ok (.aload_n 0, 1) := by decide +kernel
theorem dX8_becomes_1 : decode cX8_becomes 1 = .ok (.getfield 18, 3) := by decide +kernel
theorem dX8_becomes_4 : decode cX8_becomes 4 = .ok (.bipush 8, 2) := by decide +kernel
theorem dX8_becomes_6 : decode cX8_becomes 6 = .ok (.iload_n 1, 1) := by decide +kernel
theorem dX8_becomes_7 : decode cX8_becomes 7 = .ok (.imul, 1) := by decide +kernel
theorem dX8_becomes_8 : decode cX8_becomes 8 = .ok (.iload_n 2, 1) := by decide +kernel
theorem dX8_becomes_9 : decode cX8_becomes 9 = .ok (.iadd, 1) := by decide +kernel
theorem dX8_becomes_10 : decode cX8_becomes 10 = .ok (.iaload, 1) := by decide +kernel
theorem dX8_becomes_11 : decode cX8_becomes 11 = .ok (.istore 4, 2) := by decide +kernel
theorem dX8_becomes_13 : decode cX8_becomes 13 = .ok (.aload_n 0, 1) := by decide +kernel
theorem dX8_becomes_14 : decode cX8_becomes 14 = .ok (.getfield 18, 3) := by decide +kernel
theorem dX8_becomes_17 : decode cX8_becomes 17 = .ok (.bipush 8, 2) := by decide +kernel
theorem dX8_becomes_19 : decode cX8_becomes 19 = .ok (.iload_n 1, 1) := by decide +kernel
theorem dX8_becomes_20 : decode cX8_becomes 20 = .ok (.imul, 1) := by decide +kernel
theorem dX8_becomes_21 : decode cX8_becomes 21 = .ok (.iload_n 2, 1) := by decide +kernel
theorem dX8_becomes_22 : decode cX8_becomes 22 = .ok (.iadd, 1) := by decide +kernel
theorem dX8_becomes_23 : decode cX8_becomes 23 = .ok (.iload_n 3, 1) := by decide +kernel
theorem dX8_becomes_24 : decode cX8_becomes 24 = .ok (.iastore, 1) := by decide +kernel
theorem dX8_becomes_25 : decode cX8_becomes 25 = .ok (.aload_n 0, 1) := by decide +kernel
theorem dX8_becomes_26 : decode cX8_becomes 26 = .ok (.iload_n 1, 1) := by decide +kernel
theorem dX8_becomes_27 : decode cX8_becomes 27 = .ok (.invokevirtual 155, 3) := by decide +kernel
theorem dX8_becomes_30 : decode cX8_becomes 30 = .ok (.iload 4, 2) := by decide +kernel
theorem dX8_becomes_32 : decode cX8_becomes 32 = .ok (.ifCond .ge 8, 3) := by decide +kernel
theorem dX8_becomes_35 : decode cX8_becomes 35 = .ok (.bipush (-5), 2) := by decide +kernel
theorem dX8_becomes_37 : decode cX8_becomes 37 = .ok (.goto 5, 3) := by decide +kernel
theorem dX8_becomes_40 : decode cX8_becomes 40 = .ok (.iload 4, 2) := by decide +kernel
theorem dX8_becomes_42 : decode cX8_becomes 42 = .ok (.ireturn, 1) := by decide +kernel
theorem dX8_worth_0 : decode cX8_worth 0 = .ok (.aload_n 0, 1) := by decide +kernel
theorem dX8_worth_1 : decode cX8_worth 1 = .ok (.iload_n 1, 1) := by decide +kernel
theorem dX8_worth_2 : decode cX8_worth 2 = .ok (.iload_n 2, 1) := by decide +kernel
theorem dX8_worth_3 : decode cX8_worth 3 = .ok (.invokevirtual 164, 3) := by decide +kernel
theorem dX8_worth_6 : decode cX8_worth 6 = .ok (.ifCond .ne 5, 3) := by decide +kernel
theorem dX8_worth_9 : decode cX8_worth 9 = .ok (.iconst (-1), 1) := by decide +kernel
theorem dX8_worth_10 : decode cX8_worth 10 = .ok (.ireturn, 1) := by decide +kernel
theorem dX8_worth_11 : decode cX8_worth 11 = .ok (.iload_n 3, 1) := by decide +kernel
theorem dX8_worth_12 : decode cX8_worth 12 = .ok (.i2l, 1) := by decide +kernel
theorem dX8_worth_13 : decode cX8_worth 13 = .ok (.ldc2_w 167, 3) := by decide +kernel
theorem dX8_worth_16 : decode cX8_worth 16 = .ok (.ldc2_w 169, 3) := by decide +kernel
theorem dX8_worth_19 : decode cX8_worth 19 = .ok (.invokestatic 92, 3) := by decide +kernel
theorem dX8_worth_22 : decode cX8_worth 22 = .ok (.ifCond .eq 13, 3) := by decide +kernel
theorem dX8_worth_25 : decode cX8_worth 25 = .ok (.aload_n 0, 1) := by decide +kernel
theorem dX8_worth_26 : decode cX8_worth 26 = .ok (.iload_n 1, 1) := by decide +kernel
theorem dX8_worth_27 : decode cX8_worth 27 = .ok (.iload_n 2, 1) := by decide +kernel
theorem dX8_worth_28 : decode cX8_worth 28 = .ok (.iload_n 3, 1) := by decide +kernel
theorem dX8_worth_29 : decode cX8_worth 29 = .ok (.invokevirtual 171, 3) := by decide +kernel
theorem dX8_worth_32 : decode cX8_worth 32 = .ok (.goto 5, 3) := by decide +kernel
theorem dX8_worth_35 : decode cX8_worth 35 = .ok (.bipush (-2), 2) := by decide +kernel
theorem dX8_worth_37 : decode cX8_worth 37 = .ok (.ireturn, 1) := by decide +kernel
theorem dX8_step_0 : decode cX8_step 0 = .ok (.iload_n 1, 1) := by decide +kernel
theorem dX8_step_1 : decode cX8_step 1 = .ok (.i2l, 1) := by decide +kernel
theorem dX8_step_2 : decode cX8_step 2 = .ok (.lconst 1, 1) := by decide +kernel
theorem dX8_step_3 : decode cX8_step 3 = .ok (.ldc2_w 175, 3) := by decide +kernel
theorem dX8_step_6 : decode cX8_step 6 = .ok (.invokestatic 92, 3) := by decide +kernel
theorem dX8_step_9 : decode cX8_step 9 = .ok (.ifCond .ne 6, 3) := by decide +kernel
theorem dX8_step_12 : decode cX8_step 12 = .ok (.bipush (-2), 2) := by decide +kernel
theorem dX8_step_14 : decode cX8_step 14 = .ok (.ireturn, 1) := by decide +kernel
theorem dX8_step_15 : decode cX8_step 15 = .ok (.aload_n 0, 1) := by decide +kernel
theorem dX8_step_16 : decode cX8_step 16 = .ok (.getfield 15, 3) := by decide +kernel
theorem dX8_step_19 : decode cX8_step 19 = .ok (.istore_n 2, 1) := by decide +kernel
theorem dX8_step_20 : decode cX8_step 20 = .ok (.aload_n 0, 1) := by decide +kernel
theorem dX8_step_21 : decode cX8_step 21 = .ok (.iload_n 1, 1) := by decide +kernel
theorem dX8_step_22 : decode cX8_step 22 = .ok (.putfield 15, 3) := by decide +kernel
theorem dX8_step_25 : decode cX8_step 25 = .ok (.iload_n 2, 1) := by decide +kernel
theorem dX8_step_26 : decode cX8_step 26 = .ok (.ireturn, 1) := by decide +kernel
theorem dX8_here_0 : decode cX8_here 0 = .ok (.aload_n 0, 1) := by decide +kernel
theorem dX8_here_1 : decode cX8_here 1 = .ok (.getfield 177, 3) := by decide +kernel
theorem dX8_here_4 : decode cX8_here 4 = .ok (.aload_n 0, 1) := by decide +kernel
theorem dX8_here_5 : decode cX8_here 5 = .ok (.getfield 180, 3) := by decide +kernel
theorem dX8_here_8 : decode cX8_here 8 = .ok (.if_icmp .ge 15, 3) := by decide +kernel
theorem dX8_here_11 : decode cX8_here 11 = .ok (.aload_n 0, 1) := by decide +kernel
theorem dX8_here_12 : decode cX8_here 12 = .ok (.getfield 52, 3) := by decide +kernel
theorem dX8_here_15 : decode cX8_here 15 = .ok (.aload_n 0, 1) := by decide +kernel
theorem dX8_here_16 : decode cX8_here 16 = .ok (.getfield 177, 3) := by decide +kernel
theorem dX8_here_19 : decode cX8_here 19 = .ok (.iaload, 1) := by decide +kernel
theorem dX8_here_20 : decode cX8_here 20 = .ok (.goto 4, 3) := by decide +kernel
theorem dX8_here_23 : decode cX8_here 23 = .ok (.iconst (-1), 1) := by decide +kernel
theorem dX8_here_24 : decode cX8_here 24 = .ok (.ireturn, 1) := by decide +kernel
theorem dX8_takes_0 : decode cX8_takes 0 = .ok (.aload_n 0, 1) := by decide +kernel
theorem dX8_takes_1 : decode cX8_takes 1 = .ok (.invokevirtual 183, 3) := by decide +kernel
theorem dX8_takes_4 : decode cX8_takes 4 = .ok (.istore_n 3, 1) := by decide +kernel
theorem dX8_takes_5 : decode cX8_takes 5 = .ok (.aload_n 0, 1) := by decide +kernel
theorem dX8_takes_6 : decode cX8_takes 6 = .ok (.getfield 186, 3) := by decide +kernel
theorem dX8_takes_9 : decode cX8_takes 9 = .ok (.ifCond .ne 15, 3) := by decide +kernel
theorem dX8_takes_12 : decode cX8_takes 12 = .ok (.iload_n 3, 1) := by decide +kernel
theorem dX8_takes_13 : decode cX8_takes 13 = .ok (.i2l, 1) := by decide +kernel
theorem dX8_takes_14 : decode cX8_takes 14 = .ok (.iload_n 1, 1) := by decide +kernel
theorem dX8_takes_15 : decode cX8_takes 15 = .ok (.i2l, 1) := by decide +kernel
theorem dX8_takes_16 : decode cX8_takes 16 = .ok (.iload_n 2, 1) := by decide +kernel
theorem dX8_takes_17 : decode cX8_takes 17 = .ok (.i2l, 1) := by decide +kernel
theorem dX8_takes_18 : decode cX8_takes 18 = .ok (.invokestatic 92, 3) := by decide +kernel
theorem dX8_takes_21 : decode cX8_takes 21 = .ok (.ifCond .ne 24, 3) := by decide +kernel
theorem dX8_takes_24 : decode cX8_takes 24 = .ok (.aload_n 0, 1) := by decide +kernel
theorem dX8_takes_25 : decode cX8_takes 25 = .ok (.aload_n 0, 1) := by decide +kernel
theorem dX8_takes_26 : decode cX8_takes 26 = .ok (.getfield 186, 3) := by decide +kernel
theorem dX8_takes_29 : decode cX8_takes 29 = .ok (.ifCond .ne 7, 3) := by decide +kernel
theorem dX8_takes_32 : decode cX8_takes 32 = .ok (.iconst 1, 1) := by decide +kernel
theorem dX8_takes_33 : decode cX8_takes 33 = .ok (.goto 7, 3) := by decide +kernel
theorem dX8_takes_36 : decode cX8_takes 36 = .ok (.aload_n 0, 1) := by decide +kernel
theorem dX8_takes_37 : decode cX8_takes 37 = .ok (.getfield 186, 3) := by decide +kernel
theorem dX8_takes_40 : decode cX8_takes 40 = .ok (.putfield 186, 3) := by decide +kernel
theorem dX8_takes_43 : decode cX8_takes 43 = .ok (.iconst (-1), 1) := by decide +kernel
theorem dX8_takes_44 : decode cX8_takes 44 = .ok (.ireturn, 1) := by decide +kernel
theorem dX8_takes_45 : decode cX8_takes 45 = .ok (.aload_n 0, 1) := by decide +kernel
theorem dX8_takes_46 : decode cX8_takes 46 = .ok (.dup, 1) := by decide +kernel
theorem dX8_takes_47 : decode cX8_takes 47 = .ok (.getfield 177, 3) := by decide +kernel
theorem dX8_takes_50 : decode cX8_takes 50 = .ok (.iconst 1, 1) := by decide +kernel
theorem dX8_takes_51 : decode cX8_takes 51 = .ok (.iadd, 1) := by decide +kernel
theorem dX8_takes_52 : decode cX8_takes 52 = .ok (.putfield 177, 3) := by decide +kernel
theorem dX8_takes_55 : decode cX8_takes 55 = .ok (.iload_n 3, 1) := by decide +kernel
theorem dX8_takes_56 : decode cX8_takes 56 = .ok (.iload_n 1, 1) := by decide +kernel
theorem dX8_takes_57 : decode cX8_takes 57 = .ok (.isub, 1) := by decide +kernel
theorem dX8_takes_58 : decode cX8_takes 58 = .ok (.ireturn, 1) := by decide +kernel
theorem dX8_takesOne_0 : decode cX8_takesOne 0 = .ok (.aload_n 0, 1) := by decide +kernel
theorem dX8_takesOne_1 : decode cX8_takesOne 1 = .ok (.iload_n 1, 1) := by decide +kernel
theorem dX8_takesOne_2 : decode cX8_takesOne 2 = .ok (.iload_n 2, 1) := by decide +kernel
theorem dX8_takesOne_3 : decode cX8_takesOne 3 = .ok (.invokevirtual 189, 3) := by decide +kernel
theorem dX8_takesOne_6 : decode cX8_takesOne 6 = .ok (.istore 4, 2) := by decide +kernel
theorem dX8_takesOne_8 : decode cX8_takesOne 8 = .ok (.aload_n 0, 1) := by decide +kernel
theorem dX8_takesOne_9 : decode cX8_takesOne 9 = .ok (.getfield 186, 3) := by decide +kernel
theorem dX8_takesOne_12 : decode cX8_takesOne 12 = .ok (.ifCond .ne 27, 3) := by decide +kernel
theorem dX8_takesOne_15 : decode cX8_takesOne 15 = .ok (.iload 4, 2) := by decide +kernel
theorem dX8_takesOne_17 : decode cX8_takesOne 17 = .ok (.aload_n 0, 1) := by decide +kernel
theorem dX8_takesOne_18 : decode cX8_takesOne 18 = .ok (.getfield 9, 3) := by decide +kernel
theorem dX8_takesOne_21 : decode cX8_takesOne 21 = .ok (.if_icmp .lt 18, 3) := by decide +kernel
theorem dX8_takesOne_24 : decode cX8_takesOne 24 = .ok (.aload_n 0, 1) := by decide +kernel
theorem dX8_takesOne_25 : decode cX8_takesOne 25 = .ok (.dup, 1) := by decide +kernel
theorem dX8_takesOne_26 : decode cX8_takesOne 26 = .ok (.getfield 177, 3) := by decide +kernel
theorem dX8_takesOne_29 : decode cX8_takesOne 29 = .ok (.iconst 1, 1) := by decide +kernel
theorem dX8_takesOne_30 : decode cX8_takesOne 30 = .ok (.isub, 1) := by decide +kernel
theorem dX8_takesOne_31 : decode cX8_takesOne 31 = .ok (.putfield 177, 3) := by decide +kernel
theorem dX8_takesOne_34 : decode cX8_takesOne 34 = .ok (.aload_n 0, 1) := by decide +kernel
theorem dX8_takesOne_35 : decode cX8_takesOne 35 = .ok (.iload_n 3, 1) := by decide +kernel
theorem dX8_takesOne_36 : decode cX8_takesOne 36 = .ok (.putfield 186, 3) := by decide +kernel
theorem dX8_takesOne_39 : decode cX8_takesOne 39 = .ok (.iload 4, 2) := by decide +kernel
theorem dX8_takesOne_41 : decode cX8_takesOne 41 = .ok (.ireturn, 1) := by decide +kernel
theorem dX8_takesWorth_0 : decode cX8_takesWorth 0 = .ok (.aload_n 0, 1) := by decide +kernel
theorem dX8_takesWorth_1 : decode cX8_takesWorth 1 = .ok (.invokevirtual 183, 3) := by decide +kernel
theorem dX8_takesWorth_4 : decode cX8_takesWorth 4 = .ok (.bipush 33, 2) := by decide +kernel
theorem dX8_takesWorth_6 : decode cX8_takesWorth 6 = .ok (.if_icmp .ne 15, 3) := by decide +kernel
theorem dX8_takesWorth_9 : decode cX8_takesWorth 9 = .ok (.aload_n 0, 1) := by decide +kernel
theorem dX8_takesWorth_10 : decode cX8_takesWorth 10 = .ok (.dup, 1) := by decide +kernel
theorem dX8_takesWorth_11 : decode cX8_takesWorth 11 = .ok (.getfield 177, 3) := by decide +kernel
theorem dX8_takesWorth_14 : decode cX8_takesWorth 14 = .ok (.iconst 1, 1) := by decide +kernel
theorem dX8_takesWorth_15 : decode cX8_takesWorth 15 = .ok (.iadd, 1) := by decide +kernel
theorem dX8_takesWorth_16 : decode cX8_takesWorth 16 = .ok (.putfield 177, 3) := by decide +kernel
theorem dX8_takesWorth_19 : decode cX8_takesWorth 19 = .ok (.iconst (-1), 1) := by decide +kernel
theorem dX8_takesWorth_20 : decode cX8_takesWorth 20 = .ok (.ireturn, 1) := by decide +kernel
theorem dX8_takesWorth_21 : decode cX8_takesWorth 21 = .ok (.aload_n 0, 1) := by decide +kernel
theorem dX8_takesWorth_22 : decode cX8_takesWorth 22 = .ok (.bipush 61, 2) := by decide +kernel
theorem dX8_takesWorth_24 : decode cX8_takesWorth 24 = .ok (.bipush 61, 2) := by decide +kernel
theorem dX8_takesWorth_26 : decode cX8_takesWorth 26 = .ok (.invokevirtual 189, 3) := by decide +kernel
theorem dX8_takesWorth_29 : decode cX8_takesWorth 29 = .ok (.pop, 1) := by decide +kernel
theorem dX8_takesWorth_30 : decode cX8_takesWorth 30 = .ok (.aload_n 0, 1) := by decide +kernel
theorem dX8_takesWorth_31 : decode cX8_takesWorth 31 = .ok (.bipush 48, 2) := by decide +kernel
theorem dX8_takesWorth_33 : decode cX8_takesWorth 33 = .ok (.bipush 57, 2) := by decide +kernel
theorem dX8_takesWorth_35 : decode cX8_takesWorth 35 = .ok (.invokevirtual 189, 3) := by decide +kernel
theorem dX8_takesWorth_38 : decode cX8_takesWorth 38 = .ok (.istore_n 1, 1) := by decide +kernel
theorem dX8_takesWorth_39 : decode cX8_takesWorth 39 = .ok (.aload_n 0, 1) := by decide +kernel
theorem dX8_takesWorth_40 : decode cX8_takesWorth 40 = .ok (.getfield 186, 3) := by decide +kernel
theorem dX8_takesWorth_43 : decode cX8_takesWorth 43 = .ok (.ifCond .ne 34, 3) := by decide +kernel
theorem dX8_takesWorth_46 : decode cX8_takesWorth 46 = .ok (.aload_n 0, 1) := by decide +kernel
theorem dX8_takesWorth_47 : decode cX8_takesWorth 47 = .ok (.invokevirtual 183, 3) := by decide +kernel
theorem dX8_takesWorth_50 : decode cX8_takesWorth 50 = .ok (.i2l, 1) := by decide +kernel
theorem dX8_takesWorth_51 : decode cX8_takesWorth 51 = .ok (.ldc2_w 192, 3) := by decide +kernel
theorem dX8_takesWorth_54 : decode cX8_takesWorth 54 = .ok (.ldc2_w 194, 3) := by decide +kernel
theorem dX8_takesWorth_57 : decode cX8_takesWorth 57 = .ok (.invokestatic 92, 3) := by decide +kernel
theorem dX8_takesWorth_60 : decode cX8_takesWorth 60 = .ok (.ifCond .eq 17, 3) := by decide +kernel
theorem dX8_takesWorth_63 : decode cX8_takesWorth 63 = .ok (.bipush 10, 2) := by decide +kernel
theorem dX8_takesWorth_65 : decode cX8_takesWorth 65 = .ok (.iload_n 1, 1) := by decide +kernel
theorem dX8_takesWorth_66 : decode cX8_takesWorth 66 = .ok (.imul, 1) := by decide +kernel
theorem dX8_takesWorth_67 : decode cX8_takesWorth 67 = .ok (.aload_n 0, 1) := by decide +kernel
theorem dX8_takesWorth_68 : decode cX8_takesWorth 68 = .ok (.bipush 48, 2) := by decide +kernel
theorem dX8_takesWorth_70 : decode cX8_takesWorth 70 = .ok (.bipush 57, 2) := by decide +kernel
theorem dX8_takesWorth_72 : decode cX8_takesWorth 72 = .ok (.invokevirtual 189, 3) := by decide +kernel
theorem dX8_takesWorth_75 : decode cX8_takesWorth 75 = .ok (.iadd, 1) := by decide +kernel
theorem dX8_takesWorth_76 : decode cX8_takesWorth 76 = .ok (.istore_n 1, 1) := by decide +kernel
theorem dX8_takesWorth_77 : decode cX8_takesWorth 77 = .ok (.iload_n 1, 1) := by decide +kernel
theorem dX8_takesWorth_78 : decode cX8_takesWorth 78 = .ok (.ireturn, 1) := by decide +kernel
theorem dX8_clause_0 : decode cX8_clause 0 = .ok (.aload_n 0, 1) := by decide +kernel
theorem dX8_clause_1 : decode cX8_clause 1 = .ok (.bipush 97, 2) := by decide +kernel
theorem dX8_clause_3 : decode cX8_clause 3 = .ok (.bipush 104, 2) := by decide +kernel
theorem dX8_clause_5 : decode cX8_clause 5 = .ok (.iconst 2, 1) := by decide +kernel
theorem dX8_clause_6 : decode cX8_clause 6 = .ok (.invokevirtual 196, 3) := by decide +kernel
theorem dX8_clause_9 : decode cX8_clause 9 = .ok (.istore_n 2, 1) := by decide +kernel
theorem dX8_clause_10 : decode cX8_clause 10 = .ok (.aload_n 0, 1) := by decide +kernel
theorem dX8_clause_11 : decode cX8_clause 11 = .ok (.getfield 186, 3) := by decide +kernel
theorem dX8_clause_14 : decode cX8_clause 14 = .ok (.ifCond .ne 15, 3) := by decide +kernel
theorem dX8_clause_17 : decode cX8_clause 17 = .ok (.aload_n 0, 1) := by decide +kernel
theorem dX8_clause_18 : decode cX8_clause 18 = .ok (.bipush 48, 2) := by decide +kernel
theorem dX8_clause_20 : decode cX8_clause 20 = .ok (.bipush 55, 2) := by decide +kernel
theorem dX8_clause_22 : decode cX8_clause 22 = .ok (.iconst 3, 1) := by decide +kernel
theorem dX8_clause_23 : decode cX8_clause 23 = .ok (.invokevirtual 196, 3) := by decide +kernel
theorem dX8_clause_26 : decode cX8_clause 26 = .ok (.goto 4, 3) := by decide +kernel
theorem dX8_clause_29 : decode cX8_clause 29 = .ok (.iconst (-1), 1) := by decide +kernel
theorem dX8_clause_30 : decode cX8_clause 30 = .ok (.istore_n 3, 1) := by decide +kernel
theorem dX8_clause_31 : decode cX8_clause 31 = .ok (.aload_n 0, 1) := by decide +kernel
theorem dX8_clause_32 : decode cX8_clause 32 = .ok (.getfield 186, 3) := by decide +kernel
theorem dX8_clause_35 : decode cX8_clause 35 = .ok (.ifCond .ne 10, 3) := by decide +kernel
theorem dX8_clause_38 : decode cX8_clause 38 = .ok (.aload_n 0, 1) := by decide +kernel
theorem dX8_clause_39 : decode cX8_clause 39 = .ok (.invokevirtual 199, 3) := by decide +kernel
theorem dX8_clause_42 : decode cX8_clause 42 = .ok (.goto 4, 3) := by decide +kernel
theorem dX8_clause_45 : decode cX8_clause 45 = .ok (.iconst (-1), 1) := by decide +kernel
theorem dX8_clause_46 : decode cX8_clause 46 = .ok (.istore 4, 2) := by decide +kernel
theorem dX8_clause_48 : decode cX8_clause 48 = .ok (.aload_n 0, 1) := by decide +kernel
theorem dX8_clause_49 : decode cX8_clause 49 = .ok (.getfield 186, 3) := by decide +kernel
theorem dX8_clause_52 : decode cX8_clause 52 = .ok (.ifCond .eq 4, 3) := by decide +kernel
theorem dX8_clause_55 : decode cX8_clause 55 = .ok (.return_, 1) := by decide +kernel
theorem dX8_clause_56 : decode cX8_clause 56 = .ok (.aload_n 0, 1) := by decide +kernel
theorem dX8_clause_57 : decode cX8_clause 57 = .ok (.dup, 1) := by decide +kernel
theorem dX8_clause_58 : decode cX8_clause 58 = .ok (.getfield 202, 3) := by decide +kernel
theorem dX8_clause_61 : decode cX8_clause 61 = .ok (.iconst 1, 1) := by decide +kernel
theorem dX8_clause_62 : decode cX8_clause 62 = .ok (.iadd, 1) := by decide +kernel
theorem dX8_clause_63 : decode cX8_clause 63 = .ok (.putfield 202, 3) := by decide +kernel
theorem dX8_clause_66 : decode cX8_clause 66 = .ok (.iload_n 1, 1) := by decide +kernel
theorem dX8_clause_67 : decode cX8_clause 67 = .ok (.ifCond .eq 12, 3) := by decide +kernel
theorem dX8_clause_70 : decode cX8_clause 70 = .ok (.aload_n 0, 1) := by decide +kernel
theorem dX8_clause_71 : decode cX8_clause 71 = .ok (.iload_n 2, 1) := by decide +kernel
theorem dX8_clause_72 : decode cX8_clause 72 = .ok (.iload_n 3, 1) := by decide +kernel
theorem dX8_clause_73 : decode cX8_clause 73 = .ok (.iload 4, 2) := by decide +kernel
theorem dX8_clause_75 : decode cX8_clause 75 = .ok (.invokevirtual 171, 3) := by decide +kernel
theorem dX8_clause_78 : decode cX8_clause 78 = .ok (.pop, 1) := by decide +kernel
theorem dX8_clause_79 : decode cX8_clause 79 = .ok (.return_, 1) := by decide +kernel
theorem dX8_goesThrough_0 : decode cX8_goesThrough 0 = .ok (.aload_n 0, 1) := by decide +kernel
theorem dX8_goesThrough_1 : decode cX8_goesThrough 1 = .ok (.iconst 0, 1) := by decide +kernel
theorem dX8_goesThrough_2 : decode cX8_goesThrough 2 = .ok (.putfield 177, 3) := by decide +kernel
theorem dX8_goesThrough_5 : decode cX8_goesThrough 5 = .ok (.aload_n 0, 1) := by decide +kernel
theorem dX8_goesThrough_6 : decode cX8_goesThrough 6 = .ok (.iconst 0, 1) := by decide +kernel
theorem dX8_goesThrough_7 : decode cX8_goesThrough 7 = .ok (.putfield 186, 3) := by decide +kernel
theorem dX8_goesThrough_10 : decode cX8_goesThrough 10 = .ok (.aload_n 0, 1) := by decide +kernel
theorem dX8_goesThrough_11 : decode cX8_goesThrough 11 = .ok (.iconst 0, 1) := by decide +kernel
theorem dX8_goesThrough_12 : decode cX8_goesThrough 12 = .ok (.putfield 202, 3) := by decide +kernel
theorem dX8_goesThrough_15 : decode cX8_goesThrough 15 = .ok (.aload_n 0, 1) := by decide +kernel
theorem dX8_goesThrough_16 : decode cX8_goesThrough 16 = .ok (.iload_n 1, 1) := by decide +kernel
theorem dX8_goesThrough_17 : decode cX8_goesThrough 17 = .ok (.invokevirtual 205, 3) := by decide +kernel
theorem dX8_goesThrough_20 : decode cX8_goesThrough 20 = .ok (.aload_n 0, 1) := by decide +kernel
theorem dX8_goesThrough_21 : decode cX8_goesThrough 21 = .ok (.getfield 186, 3) := by decide +kernel
theorem dX8_goesThrough_24 : decode cX8_goesThrough 24 = .ok (.ifCond .ne 56, 3) := by decide +kernel
theorem dX8_goesThrough_27 : decode cX8_goesThrough 27 = .ok (.aload_n 0, 1) := by decide +kernel
theorem dX8_goesThrough_28 : decode cX8_goesThrough 28 = .ok (.getfield 177, 3) := by decide +kernel
theorem dX8_goesThrough_31 : decode cX8_goesThrough 31 = .ok (.aload_n 0, 1) := by decide +kernel
theorem dX8_goesThrough_32 : decode cX8_goesThrough 32 = .ok (.getfield 180, 3) := by decide +kernel
theorem dX8_goesThrough_35 : decode cX8_goesThrough 35 = .ok (.if_icmp .ge 45, 3) := by decide +kernel
theorem dX8_goesThrough_38 : decode cX8_goesThrough 38 = .ok (.aload_n 0, 1) := by decide +kernel
theorem dX8_goesThrough_39 : decode cX8_goesThrough 39 = .ok (.getfield 202, 3) := by decide +kernel
theorem dX8_goesThrough_42 : decode cX8_goesThrough 42 = .ok (.bipush 16, 2) := by decide +kernel
theorem dX8_goesThrough_44 : decode cX8_goesThrough 44 = .ok (.if_icmp .eq 12, 3) := by decide +kernel
theorem dX8_goesThrough_47 : decode cX8_goesThrough 47 = .ok (.aload_n 0, 1) := by decide +kernel
theorem dX8_goesThrough_48 : decode cX8_goesThrough 48 = .ok (.invokevirtual 183, 3) := by decide +kernel
theorem dX8_goesThrough_51 : decode cX8_goesThrough 51 = .ok (.bipush 59, 2) := by decide +kernel
theorem dX8_goesThrough_53 : decode cX8_goesThrough 53 = .ok (.if_icmp .eq 9, 3) := by decide +kernel
theorem dX8_goesThrough_56 : decode cX8_goesThrough 56 = .ok (.aload_n 0, 1) := by decide +kernel
theorem dX8_goesThrough_57 : decode cX8_goesThrough 57 = .ok (.iconst 1, 1) := by decide +kernel
theorem dX8_goesThrough_58 : decode cX8_goesThrough 58 = .ok (.putfield 186, 3) := by decide +kernel
theorem dX8_goesThrough_61 : decode cX8_goesThrough 61 = .ok (.return_, 1) := by decide +kernel
theorem dX8_goesThrough_62 : decode cX8_goesThrough 62 = .ok (.aload_n 0, 1) := by decide +kernel
theorem dX8_goesThrough_63 : decode cX8_goesThrough 63 = .ok (.dup, 1) := by decide +kernel
theorem dX8_goesThrough_64 : decode cX8_goesThrough 64 = .ok (.getfield 177, 3) := by decide +kernel
theorem dX8_goesThrough_67 : decode cX8_goesThrough 67 = .ok (.iconst 1, 1) := by decide +kernel
theorem dX8_goesThrough_68 : decode cX8_goesThrough 68 = .ok (.iadd, 1) := by decide +kernel
theorem dX8_goesThrough_69 : decode cX8_goesThrough 69 = .ok (.putfield 177, 3) := by decide +kernel
theorem dX8_goesThrough_72 : decode cX8_goesThrough 72 = .ok (.aload_n 0, 1) := by decide +kernel
theorem dX8_goesThrough_73 : decode cX8_goesThrough 73 = .ok (.iload_n 1, 1) := by decide +kernel
theorem dX8_goesThrough_74 : decode cX8_goesThrough 74 = .ok (.invokevirtual 205, 3) := by decide +kernel
theorem dX8_goesThrough_77 : decode cX8_goesThrough 77 = .ok (.goto (-57), 3) := by decide +kernel
theorem dX8_goesThrough_80 : decode cX8_goesThrough 80 = .ok (.return_, 1) := by decide +kernel
theorem dX8_feed_0 : decode cX8_feed 0 = .ok (.iload_n 1, 1) := by decide +kernel
theorem dX8_feed_1 : decode cX8_feed 1 = .ok (.i2l, 1) := by decide +kernel
theorem dX8_feed_2 : decode cX8_feed 2 = .ok (.lconst 0, 1) := by decide +kernel
theorem dX8_feed_3 : decode cX8_feed 3 = .ok (.ldc2_w 209, 3) := by decide +kernel
theorem dX8_feed_6 : decode cX8_feed 6 = .ok (.invokestatic 92, 3) := by decide +kernel
theorem dX8_feed_9 : decode cX8_feed 9 = .ok (.ifCond .ne 6, 3) := by decide +kernel
theorem dX8_feed_12 : decode cX8_feed 12 = .ok (.bipush (-2), 2) := by decide +kernel
theorem dX8_feed_14 : decode cX8_feed 14 = .ok (.ireturn, 1) := by decide +kernel
theorem dX8_feed_15 : decode cX8_feed 15 = .ok (.aload_n 0, 1) := by decide +kernel
theorem dX8_feed_16 : decode cX8_feed 16 = .ok (.getfield 180, 3) := by decide +kernel
theorem dX8_feed_19 : decode cX8_feed 19 = .ok (.bipush 100, 2) := by decide +kernel
theorem dX8_feed_21 : decode cX8_feed 21 = .ok (.if_icmp .ne 6, 3) := by decide +kernel
theorem dX8_feed_24 : decode cX8_feed 24 = .ok (.bipush (-4), 2) := by decide +kernel
theorem dX8_feed_26 : decode cX8_feed 26 = .ok (.ireturn, 1) := by decide +kernel
theorem dX8_feed_27 : decode cX8_feed 27 = .ok (.aload_n 0, 1) := by decide +kernel
theorem dX8_feed_28 : decode cX8_feed 28 = .ok (.getfield 52, 3) := by decide +kernel
theorem dX8_feed_31 : decode cX8_feed 31 = .ok (.aload_n 0, 1) := by decide +kernel
theorem dX8_feed_32 : decode cX8_feed 32 = .ok (.getfield 180, 3) := by decide +kernel
theorem dX8_feed_35 : decode cX8_feed 35 = .ok (.iload_n 1, 1) := by decide +kernel
theorem dX8_feed_36 : decode cX8_feed 36 = .ok (.iastore, 1) := by decide +kernel
theorem dX8_feed_37 : decode cX8_feed 37 = .ok (.aload_n 0, 1) := by decide +kernel
theorem dX8_feed_38 : decode cX8_feed 38 = .ok (.dup, 1) := by decide +kernel
theorem dX8_feed_39 : decode cX8_feed 39 = .ok (.getfield 180, 3) := by decide +kernel
theorem dX8_feed_42 : decode cX8_feed 42 = .ok (.iconst 1, 1) := by decide +kernel
theorem dX8_feed_43 : decode cX8_feed 43 = .ok (.iadd, 1) := by decide +kernel
theorem dX8_feed_44 : decode cX8_feed 44 = .ok (.putfield 180, 3) := by decide +kernel
theorem dX8_feed_47 : decode cX8_feed 47 = .ok (.aload_n 0, 1) := by decide +kernel
theorem dX8_feed_48 : decode cX8_feed 48 = .ok (.getfield 180, 3) := by decide +kernel
theorem dX8_feed_51 : decode cX8_feed 51 = .ok (.ireturn, 1) := by decide +kernel
theorem dX8_read_0 : decode cX8_read 0 = .ok (.aload_n 0, 1) := by decide +kernel
theorem dX8_read_1 : decode cX8_read 1 = .ok (.iconst 0, 1) := by decide +kernel
theorem dX8_read_2 : decode cX8_read 2 = .ok (.invokevirtual 211, 3) := by decide +kernel
theorem dX8_read_5 : decode cX8_read 5 = .ok (.aload_n 0, 1) := by decide +kernel
theorem dX8_read_6 : decode cX8_read 6 = .ok (.getfield 186, 3) := by decide +kernel
theorem dX8_read_9 : decode cX8_read 9 = .ok (.ifCond .ne 18, 3) := by decide +kernel
theorem dX8_read_12 : decode cX8_read 12 = .ok (.aload_n 0, 1) := by decide +kernel
theorem dX8_read_13 : decode cX8_read 13 = .ok (.iconst 1, 1) := by decide +kernel
theorem dX8_read_14 : decode cX8_read 14 = .ok (.invokevirtual 211, 3) := by decide +kernel
theorem dX8_read_17 : decode cX8_read 17 = .ok (.aload_n 0, 1) := by decide +kernel
theorem dX8_read_18 : decode cX8_read 18 = .ok (.iconst 0, 1) := by decide +kernel
theorem dX8_read_19 : decode cX8_read 19 = .ok (.putfield 180, 3) := by decide +kernel
theorem dX8_read_22 : decode cX8_read 22 = .ok (.aload_n 0, 1) := by decide +kernel
theorem dX8_read_23 : decode cX8_read 23 = .ok (.getfield 202, 3) := by decide +kernel
theorem dX8_read_26 : decode cX8_read 26 = .ok (.ireturn, 1) := by decide +kernel
theorem dX8_read_27 : decode cX8_read 27 = .ok (.aload_n 0, 1) := by decide +kernel
theorem dX8_read_28 : decode cX8_read 28 = .ok (.aload_n 0, 1) := by decide +kernel
theorem dX8_read_29 : decode cX8_read 29 = .ok (.getfield 186, 3) := by decide +kernel
theorem dX8_read_32 : decode cX8_read 32 = .ok (.bipush 100, 2) := by decide +kernel
theorem dX8_read_34 : decode cX8_read 34 = .ok (.aload_n 0, 1) := by decide +kernel
theorem dX8_read_35 : decode cX8_read 35 = .ok (.getfield 202, 3) := by decide +kernel
theorem dX8_read_38 : decode cX8_read 38 = .ok (.iadd, 1) := by decide +kernel
theorem dX8_read_39 : decode cX8_read 39 = .ok (.bipush (-5), 2) := by decide +kernel
theorem dX8_read_41 : decode cX8_read 41 = .ok (.invokevirtual 214, 3) := by decide +kernel
theorem dX8_read_44 : decode cX8_read 44 = .ok (.aload_n 0, 1) := by decide +kernel
theorem dX8_read_45 : decode cX8_read 45 = .ok (.iconst 0, 1) := by decide +kernel
theorem dX8_read_46 : decode cX8_read 46 = .ok (.putfield 180, 3) := by decide +kernel
theorem dX8_read_49 : decode cX8_read 49 = .ok (.bipush (-10), 2) := by decide +kernel
theorem dX8_read_51 : decode cX8_read 51 = .ok (.aload_n 0, 1) := by decide +kernel
theorem dX8_read_52 : decode cX8_read 52 = .ok (.getfield 177, 3) := by decide +kernel
theorem dX8_read_55 : decode cX8_read 55 = .ok (.isub, 1) := by decide +kernel
theorem dX8_read_56 : decode cX8_read 56 = .ok (.ireturn, 1) := by decide +kernel
theorem dX8_tellsWrong_0 : decode cX8_tellsWrong 0 = .ok (.aload_n 0, 1) := by decide +kernel
theorem dX8_tellsWrong_1 : decode cX8_tellsWrong 1 = .ok (.getfield 49, 3) := by decide +kernel
theorem dX8_tellsWrong_4 : decode cX8_tellsWrong 4 = .ok (.iconst 0, 1) := by decide +kernel
theorem dX8_tellsWrong_5 : decode cX8_tellsWrong 5 = .ok (.iload_n 1, 1) := by decide +kernel
theorem dX8_tellsWrong_6 : decode cX8_tellsWrong 6 = .ok (.iastore, 1) := by decide +kernel
theorem dX8_tellsWrong_7 : decode cX8_tellsWrong 7 = .ok (.aload_n 0, 1) := by decide +kernel
theorem dX8_tellsWrong_8 : decode cX8_tellsWrong 8 = .ok (.getfield 49, 3) := by decide +kernel
theorem dX8_tellsWrong_11 : decode cX8_tellsWrong 11 = .ok (.iconst 1, 1) := by decide +kernel
theorem dX8_tellsWrong_12 : decode cX8_tellsWrong 12 = .ok (.iload_n 2, 1) := by decide +kernel
theorem dX8_tellsWrong_13 : decode cX8_tellsWrong 13 = .ok (.iastore, 1) := by decide +kernel
theorem dX8_tellsWrong_14 : decode cX8_tellsWrong 14 = .ok (.aload_n 0, 1) := by decide +kernel
theorem dX8_tellsWrong_15 : decode cX8_tellsWrong 15 = .ok (.getfield 49, 3) := by decide +kernel
theorem dX8_tellsWrong_18 : decode cX8_tellsWrong 18 = .ok (.iconst 2, 1) := by decide +kernel
theorem dX8_tellsWrong_19 : decode cX8_tellsWrong 19 = .ok (.iload_n 3, 1) := by decide +kernel
theorem dX8_tellsWrong_20 : decode cX8_tellsWrong 20 = .ok (.iastore, 1) := by decide +kernel
theorem dX8_tellsWrong_21 : decode cX8_tellsWrong 21 = .ok (.return_, 1) := by decide +kernel
theorem dX8_wrong_0 : decode cX8_wrong 0 = .ok (.iload_n 1, 1) := by decide +kernel
theorem dX8_wrong_1 : decode cX8_wrong 1 = .ok (.ifCond .ge 5, 3) := by decide +kernel
theorem dX8_wrong_4 : decode cX8_wrong 4 = .ok (.iconst (-1), 1) := by decide +kernel
theorem dX8_wrong_5 : decode cX8_wrong 5 = .ok (.ireturn, 1) := by decide +kernel
theorem dX8_wrong_6 : decode cX8_wrong 6 = .ok (.iload_n 1, 1) := by decide +kernel
theorem dX8_wrong_7 : decode cX8_wrong 7 = .ok (.iconst 3, 1) := by decide +kernel
theorem dX8_wrong_8 : decode cX8_wrong 8 = .ok (.if_icmp .ge 12, 3) := by decide +kernel
theorem dX8_wrong_11 : decode cX8_wrong 11 = .ok (.aload_n 0, 1) := by decide +kernel
theorem dX8_wrong_12 : decode cX8_wrong 12 = .ok (.getfield 49, 3) := by decide +kernel
theorem dX8_wrong_15 : decode cX8_wrong 15 = .ok (.iload_n 1, 1) := by decide +kernel
theorem dX8_wrong_16 : decode cX8_wrong 16 = .ok (.iaload, 1) := by decide +kernel
theorem dX8_wrong_17 : decode cX8_wrong 17 = .ok (.goto 5, 3) := by decide +kernel
theorem dX8_wrong_20 : decode cX8_wrong 20 = .ok (.bipush (-5), 2) := by decide +kernel
theorem dX8_wrong_22 : decode cX8_wrong 22 = .ok (.ireturn, 1) := by decide +kernel
theorem dX8_bidsAll_0 : decode cX8_bidsAll 0 = .ok (.iconst 0, 1) := by decide +kernel
theorem dX8_bidsAll_1 : decode cX8_bidsAll 1 = .ok (.istore_n 1, 1) := by decide +kernel
theorem dX8_bidsAll_2 : decode cX8_bidsAll 2 = .ok (.aload_n 0, 1) := by decide +kernel
theorem dX8_bidsAll_3 : decode cX8_bidsAll 3 = .ok (.iconst 0, 1) := by decide +kernel
theorem dX8_bidsAll_4 : decode cX8_bidsAll 4 = .ok (.putfield 218, 3) := by decide +kernel
theorem dX8_bidsAll_7 : decode cX8_bidsAll 7 = .ok (.aload_n 0, 1) := by decide +kernel
theorem dX8_bidsAll_8 : decode cX8_bidsAll 8 = .ok (.invokevirtual 221, 3) := by decide +kernel
theorem dX8_bidsAll_11 : decode cX8_bidsAll 11 = .ok (.istore_n 2, 1) := by decide +kernel
theorem dX8_bidsAll_12 : decode cX8_bidsAll 12 = .ok (.iload_n 2, 1) := by decide +kernel
theorem dX8_bidsAll_13 : decode cX8_bidsAll 13 = .ok (.ifCond .lt 67, 3) := by decide +kernel
theorem dX8_bidsAll_16 : decode cX8_bidsAll 16 = .ok (.aload_n 0, 1) := by decide +kernel
theorem dX8_bidsAll_17 : decode cX8_bidsAll 17 = .ok (.getfield 218, 3) := by decide +kernel
theorem dX8_bidsAll_20 : decode cX8_bidsAll 20 = .ok (.ifCond .ne 60, 3) := by decide +kernel
theorem dX8_bidsAll_23 : decode cX8_bidsAll 23 = .ok (.aload_n 0, 1) := by decide +kernel
theorem dX8_bidsAll_24 : decode cX8_bidsAll 24 = .ok (.iload_n 2, 1) := by decide +kernel
theorem dX8_bidsAll_25 : decode cX8_bidsAll 25 = .ok (.invokevirtual 224, 3) := by decide +kernel
theorem dX8_bidsAll_28 : decode cX8_bidsAll 28 = .ok (.istore_n 3, 1) := by decide +kernel
theorem dX8_bidsAll_29 : decode cX8_bidsAll 29 = .ok (.iinc 1 1, 3) := by decide +kernel
theorem dX8_bidsAll_32 : decode cX8_bidsAll 32 = .ok (.aload_n 0, 1) := by decide +kernel
theorem dX8_bidsAll_33 : decode cX8_bidsAll 33 = .ok (.aload_n 0, 1) := by decide +kernel
theorem dX8_bidsAll_34 : decode cX8_bidsAll 34 = .ok (.getfield 28, 3) := by decide +kernel
theorem dX8_bidsAll_37 : decode cX8_bidsAll 37 = .ok (.iload_n 3, 1) := by decide +kernel
theorem dX8_bidsAll_38 : decode cX8_bidsAll 38 = .ok (.iaload, 1) := by decide +kernel
theorem dX8_bidsAll_39 : decode cX8_bidsAll 39 = .ok (.sipush 2000, 3) := by decide +kernel
theorem dX8_bidsAll_42 : decode cX8_bidsAll 42 = .ok (.if_icmp .le 7, 3) := by decide +kernel
theorem dX8_bidsAll_45 : decode cX8_bidsAll 45 = .ok (.iconst 1, 1) := by decide +kernel
theorem dX8_bidsAll_46 : decode cX8_bidsAll 46 = .ok (.goto 4, 3) := by decide +kernel
theorem dX8_bidsAll_49 : decode cX8_bidsAll 49 = .ok (.iconst 0, 1) := by decide +kernel
theorem dX8_bidsAll_50 : decode cX8_bidsAll 50 = .ok (.putfield 218, 3) := by decide +kernel
theorem dX8_bidsAll_53 : decode cX8_bidsAll 53 = .ok (.aload_n 0, 1) := by decide +kernel
theorem dX8_bidsAll_54 : decode cX8_bidsAll 54 = .ok (.getfield 218, 3) := by decide +kernel
theorem dX8_bidsAll_57 : decode cX8_bidsAll 57 = .ok (.ifCond .eq 15, 3) := by decide +kernel
theorem dX8_bidsAll_60 : decode cX8_bidsAll 60 = .ok (.aload_n 0, 1) := by decide +kernel
theorem dX8_bidsAll_61 : decode cX8_bidsAll 61 = .ok (.iconst 4, 1) := by decide +kernel
theorem dX8_bidsAll_62 : decode cX8_bidsAll 62 = .ok (.sipush 200, 3) := by decide +kernel
theorem dX8_bidsAll_65 : decode cX8_bidsAll 65 = .ok (.iload_n 2, 1) := by decide +kernel
theorem dX8_bidsAll_66 : decode cX8_bidsAll 66 = .ok (.iadd, 1) := by decide +kernel
theorem dX8_bidsAll_67 : decode cX8_bidsAll 67 = .ok (.bipush (-5), 2) := by decide +kernel
theorem dX8_bidsAll_69 : decode cX8_bidsAll 69 = .ok (.invokevirtual 214, 3) := by decide +kernel
theorem dX8_bidsAll_72 : decode cX8_bidsAll 72 = .ok (.aload_n 0, 1) := by decide +kernel
theorem dX8_bidsAll_73 : decode cX8_bidsAll 73 = .ok (.invokevirtual 221, 3) := by decide +kernel
theorem dX8_bidsAll_76 : decode cX8_bidsAll 76 = .ok (.istore_n 2, 1) := by decide +kernel
theorem dX8_bidsAll_77 : decode cX8_bidsAll 77 = .ok (.goto (-65), 3) := by decide +kernel
theorem dX8_bidsAll_80 : decode cX8_bidsAll 80 = .ok (.aload_n 0, 1) := by decide +kernel
theorem dX8_bidsAll_81 : decode cX8_bidsAll 81 = .ok (.getfield 218, 3) := by decide +kernel
theorem dX8_bidsAll_84 : decode cX8_bidsAll 84 = .ok (.ifCond .ne 7, 3) := by decide +kernel
theorem dX8_bidsAll_87 : decode cX8_bidsAll 87 = .ok (.aload_n 0, 1) := by decide +kernel
theorem dX8_bidsAll_88 : decode cX8_bidsAll 88 = .ok (.invokevirtual 227, 3) := by decide +kernel
theorem dX8_bidsAll_91 : decode cX8_bidsAll 91 = .ok (.iload_n 1, 1) := by decide +kernel
theorem dX8_bidsAll_92 : decode cX8_bidsAll 92 = .ok (.ireturn, 1) := by decide +kernel
theorem dX8_tellsLeft_0 : decode cX8_tellsLeft 0 = .ok (.iconst 0, 1) := by decide +kernel
theorem dX8_tellsLeft_1 : decode cX8_tellsLeft 1 = .ok (.istore_n 1, 1) := by decide +kernel
theorem dX8_tellsLeft_2 : decode cX8_tellsLeft 2 = .ok (.iconst (-1), 1) := by decide +kernel
theorem dX8_tellsLeft_3 : decode cX8_tellsLeft 3 = .ok (.istore_n 2, 1) := by decide +kernel
theorem dX8_tellsLeft_4 : decode cX8_tellsLeft 4 = .ok (.aload_n 0, 1) := by decide +kernel
theorem dX8_tellsLeft_5 : decode cX8_tellsLeft 5 = .ok (.getfield 9, 3) := by decide +kernel
theorem dX8_tellsLeft_8 : decode cX8_tellsLeft 8 = .ok (.iconst 1, 1) := by decide +kernel
theorem dX8_tellsLeft_9 : decode cX8_tellsLeft 9 = .ok (.isub, 1) := by decide +kernel
theorem dX8_tellsLeft_10 : decode cX8_tellsLeft 10 = .ok (.istore_n 3, 1) := by decide +kernel
theorem dX8_tellsLeft_11 : decode cX8_tellsLeft 11 = .ok (.iload_n 3, 1) := by decide +kernel
theorem dX8_tellsLeft_12 : decode cX8_tellsLeft 12 = .ok (.ifCond .lt 41, 3) := by decide +kernel
theorem dX8_tellsLeft_15 : decode cX8_tellsLeft 15 = .ok (.iload_n 1, 1) := by decide +kernel
theorem dX8_tellsLeft_16 : decode cX8_tellsLeft 16 = .ok (.aload_n 0, 1) := by decide +kernel
theorem dX8_tellsLeft_17 : decode cX8_tellsLeft 17 = .ok (.getfield 22, 3) := by decide +kernel
theorem dX8_tellsLeft_20 : decode cX8_tellsLeft 20 = .ok (.iload_n 3, 1) := by decide +kernel
theorem dX8_tellsLeft_21 : decode cX8_tellsLeft 21 = .ok (.iaload, 1) := by decide +kernel
theorem dX8_tellsLeft_22 : decode cX8_tellsLeft 22 = .ok (.ifCond .ge 7, 3) := by decide +kernel
theorem dX8_tellsLeft_25 : decode cX8_tellsLeft 25 = .ok (.iconst 1, 1) := by decide +kernel
theorem dX8_tellsLeft_26 : decode cX8_tellsLeft 26 = .ok (.goto 4, 3) := by decide +kernel
theorem dX8_tellsLeft_29 : decode cX8_tellsLeft 29 = .ok (.iconst 0, 1) := by decide +kernel
theorem dX8_tellsLeft_30 : decode cX8_tellsLeft 30 = .ok (.iadd, 1) := by decide +kernel
theorem dX8_tellsLeft_31 : decode cX8_tellsLeft 31 = .ok (.istore_n 1, 1) := by decide +kernel
theorem dX8_tellsLeft_32 : decode cX8_tellsLeft 32 = .ok (.aload_n 0, 1) := by decide +kernel
theorem dX8_tellsLeft_33 : decode cX8_tellsLeft 33 = .ok (.getfield 22, 3) := by decide +kernel
theorem dX8_tellsLeft_36 : decode cX8_tellsLeft 36 = .ok (.iload_n 3, 1) := by decide +kernel
theorem dX8_tellsLeft_37 : decode cX8_tellsLeft 37 = .ok (.iaload, 1) := by decide +kernel
theorem dX8_tellsLeft_38 : decode cX8_tellsLeft 38 = .ok (.ifCond .ge 7, 3) := by decide +kernel
theorem dX8_tellsLeft_41 : decode cX8_tellsLeft 41 = .ok (.iload_n 3, 1) := by decide +kernel
theorem dX8_tellsLeft_42 : decode cX8_tellsLeft 42 = .ok (.goto 4, 3) := by decide +kernel
theorem dX8_tellsLeft_45 : decode cX8_tellsLeft 45 = .ok (.iload_n 2, 1) := by decide +kernel
theorem dX8_tellsLeft_46 : decode cX8_tellsLeft 46 = .ok (.istore_n 2, 1) := by decide +kernel
theorem dX8_tellsLeft_47 : decode cX8_tellsLeft 47 = .ok (.iinc 3 (-1), 3) := by decide +kernel
theorem dX8_tellsLeft_50 : decode cX8_tellsLeft 50 = .ok (.goto (-39), 3) := by decide +kernel
theorem dX8_tellsLeft_53 : decode cX8_tellsLeft 53 = .ok (.iload_n 1, 1) := by decide +kernel
theorem dX8_tellsLeft_54 : decode cX8_tellsLeft 54 = .ok (.ifCond .le 18, 3) := by decide +kernel
theorem dX8_tellsLeft_57 : decode cX8_tellsLeft 57 = .ok (.aload_n 0, 1) := by decide +kernel
theorem dX8_tellsLeft_58 : decode cX8_tellsLeft 58 = .ok (.iconst 5, 1) := by decide +kernel
theorem dX8_tellsLeft_59 : decode cX8_tellsLeft 59 = .ok (.sipush 200, 3) := by decide +kernel
theorem dX8_tellsLeft_62 : decode cX8_tellsLeft 62 = .ok (.iload_n 2, 1) := by decide +kernel
theorem dX8_tellsLeft_63 : decode cX8_tellsLeft 63 = .ok (.iadd, 1) := by decide +kernel
theorem dX8_tellsLeft_64 : decode cX8_tellsLeft 64 = .ok (.sipush 300, 3) := by decide +kernel
theorem dX8_tellsLeft_67 : decode cX8_tellsLeft 67 = .ok (.iload_n 1, 1) := by decide +kernel
theorem dX8_tellsLeft_68 : decode cX8_tellsLeft 68 = .ok (.iadd, 1) := by decide +kernel
theorem dX8_tellsLeft_69 : decode cX8_tellsLeft 69 = .ok (.invokevirtual 214, 3) := by decide +kernel
theorem dX8_tellsLeft_72 : decode cX8_tellsLeft 72 = .ok (.return_, 1) := by decide +kernel
theorem dX8_bid_0 : decode cX8_bid 0 = .ok (.aload_n 0, 1) := by decide +kernel
theorem dX8_bid_1 : decode cX8_bid 1 = .ok (.invokevirtual 221, 3) := by decide +kernel
theorem dX8_bid_4 : decode cX8_bid 4 = .ok (.istore_n 1, 1) := by decide +kernel
theorem dX8_bid_5 : decode cX8_bid 5 = .ok (.iload_n 1, 1) := by decide +kernel
theorem dX8_bid_6 : decode cX8_bid 6 = .ok (.ifCond .ge 8, 3) := by decide +kernel
theorem dX8_bid_9 : decode cX8_bid 9 = .ok (.bipush (-5), 2) := by decide +kernel
theorem dX8_bid_11 : decode cX8_bid 11 = .ok (.goto 8, 3) := by decide +kernel
theorem dX8_bid_14 : decode cX8_bid 14 = .ok (.aload_n 0, 1) := by decide +kernel
theorem dX8_bid_15 : decode cX8_bid 15 = .ok (.iload_n 1, 1) := by decide +kernel
theorem dX8_bid_16 : decode cX8_bid 16 = .ok (.invokevirtual 224, 3) := by decide +kernel
theorem dX8_bid_19 : decode cX8_bid 19 = .ok (.ireturn, 1) := by decide +kernel
theorem dX8_auction_0 : decode cX8_auction 0 = .ok (.aload_n 0, 1) := by decide +kernel
theorem dX8_auction_1 : decode cX8_auction 1 = .ok (.invokevirtual 230, 3) := by decide +kernel
theorem dX8_auction_4 : decode cX8_auction 4 = .ok (.istore_n 1, 1) := by decide +kernel
theorem dX8_auction_5 : decode cX8_auction 5 = .ok (.aload_n 0, 1) := by decide +kernel
theorem dX8_auction_6 : decode cX8_auction 6 = .ok (.getfield 218, 3) := by decide +kernel
theorem dX8_auction_9 : decode cX8_auction 9 = .ok (.ifCond .eq 10, 3) := by decide +kernel
theorem dX8_auction_12 : decode cX8_auction 12 = .ok (.bipush (-10), 2) := by decide +kernel
theorem dX8_auction_14 : decode cX8_auction 14 = .ok (.iload_n 1, 1) := by decide +kernel
theorem dX8_auction_15 : decode cX8_auction 15 = .ok (.isub, 1) := by decide +kernel
theorem dX8_auction_16 : decode cX8_auction 16 = .ok (.goto 4, 3) := by decide +kernel
theorem dX8_auction_19 : decode cX8_auction 19 = .ok (.iload_n 1, 1) := by decide +kernel
theorem dX8_auction_20 : decode cX8_auction 20 = .ok (.ireturn, 1) := by decide +kernel
theorem dX8_scaled_0 : decode cX8_scaled 0 = .ok (.aload_n 0, 1) := by decide +kernel
theorem dX8_scaled_1 : decode cX8_scaled 1 = .ok (.getfield 15, 3) := by decide +kernel
theorem dX8_scaled_4 : decode cX8_scaled 4 = .ok (.istore_n 1, 1) := by decide +kernel
theorem dX8_scaled_5 : decode cX8_scaled 5 = .ok (.iconst 0, 1) := by decide +kernel
theorem dX8_scaled_6 : decode cX8_scaled 6 = .ok (.istore_n 2, 1) := by decide +kernel
theorem dX8_scaled_7 : decode cX8_scaled 7 = .ok (.iconst 1, 1) := by decide +kernel
theorem dX8_scaled_8 : decode cX8_scaled 8 = .ok (.istore_n 3, 1) := by decide +kernel
theorem dX8_scaled_9 : decode cX8_scaled 9 = .ok (.iconst 0, 1) := by decide +kernel
theorem dX8_scaled_10 : decode cX8_scaled 10 = .ok (.istore 4, 2) := by decide +kernel
theorem dX8_scaled_12 : decode cX8_scaled 12 = .ok (.iload 4, 2) := by decide +kernel
theorem dX8_scaled_14 : decode cX8_scaled 14 = .ok (.iconst 4, 1) := by decide +kernel
theorem dX8_scaled_15 : decode cX8_scaled 15 = .ok (.if_icmp .ge 74, 3) := by decide +kernel
theorem dX8_scaled_18 : decode cX8_scaled 18 = .ok (.iload_n 3, 1) := by decide +kernel
theorem dX8_scaled_19 : decode cX8_scaled 19 = .ok (.ifCond .eq 70, 3) := by decide +kernel
theorem dX8_scaled_22 : decode cX8_scaled 22 = .ok (.aload_n 0, 1) := by decide +kernel
theorem dX8_scaled_23 : decode cX8_scaled 23 = .ok (.iload 4, 2) := by decide +kernel
theorem dX8_scaled_25 : decode cX8_scaled 25 = .ok (.ifCond .ne 8, 3) := by decide +kernel
theorem dX8_scaled_28 : decode cX8_scaled 28 = .ok (.bipush 50, 2) := by decide +kernel
theorem dX8_scaled_30 : decode cX8_scaled 30 = .ok (.goto 25, 3) := by decide +kernel
theorem dX8_scaled_33 : decode cX8_scaled 33 = .ok (.iload 4, 2) := by decide +kernel
theorem dX8_scaled_35 : decode cX8_scaled 35 = .ok (.iconst 1, 1) := by decide +kernel
theorem dX8_scaled_36 : decode cX8_scaled 36 = .ok (.if_icmp .ne 8, 3) := by decide +kernel
theorem dX8_scaled_39 : decode cX8_scaled 39 = .ok (.bipush 10, 2) := by decide +kernel
theorem dX8_scaled_41 : decode cX8_scaled 41 = .ok (.goto 14, 3) := by decide +kernel
theorem dX8_scaled_44 : decode cX8_scaled 44 = .ok (.iload 4, 2) := by decide +kernel
theorem dX8_scaled_46 : decode cX8_scaled 46 = .ok (.iconst 2, 1) := by decide +kernel
theorem dX8_scaled_47 : decode cX8_scaled 47 = .ok (.if_icmp .ne 7, 3) := by decide +kernel
theorem dX8_scaled_50 : decode cX8_scaled 50 = .ok (.iconst 2, 1) := by decide +kernel
theorem dX8_scaled_51 : decode cX8_scaled 51 = .ok (.goto 4, 3) := by decide +kernel
theorem dX8_scaled_54 : decode cX8_scaled 54 = .ok (.iconst 1, 1) := by decide +kernel
theorem dX8_scaled_55 : decode cX8_scaled 55 = .ok (.putfield 15, 3) := by decide +kernel
theorem dX8_scaled_58 : decode cX8_scaled 58 = .ok (.aload_n 0, 1) := by decide +kernel
theorem dX8_scaled_59 : decode cX8_scaled 59 = .ok (.invokevirtual 88, 3) := by decide +kernel
theorem dX8_scaled_62 : decode cX8_scaled 62 = .ok (.pop, 1) := by decide +kernel
theorem dX8_scaled_63 : decode cX8_scaled 63 = .ok (.iload_n 2, 1) := by decide +kernel
theorem dX8_scaled_64 : decode cX8_scaled 64 = .ok (.aload_n 0, 1) := by decide +kernel
theorem dX8_scaled_65 : decode cX8_scaled 65 = .ok (.invokevirtual 230, 3) := by decide +kernel
theorem dX8_scaled_68 : decode cX8_scaled 68 = .ok (.iadd, 1) := by decide +kernel
theorem dX8_scaled_69 : decode cX8_scaled 69 = .ok (.istore_n 2, 1) := by decide +kernel
theorem dX8_scaled_70 : decode cX8_scaled 70 = .ok (.aload_n 0, 1) := by decide +kernel
theorem dX8_scaled_71 : decode cX8_scaled 71 = .ok (.getfield 218, 3) := by decide +kernel
theorem dX8_scaled_74 : decode cX8_scaled 74 = .ok (.ifCond .ne 7, 3) := by decide +kernel
theorem dX8_scaled_77 : decode cX8_scaled 77 = .ok (.iconst 1, 1) := by decide +kernel
theorem dX8_scaled_78 : decode cX8_scaled 78 = .ok (.goto 4, 3) := by decide +kernel
theorem dX8_scaled_81 : decode cX8_scaled 81 = .ok (.iconst 0, 1) := by decide +kernel
theorem dX8_scaled_82 : decode cX8_scaled 82 = .ok (.istore_n 3, 1) := by decide +kernel
theorem dX8_scaled_83 : decode cX8_scaled 83 = .ok (.iinc 4 1, 3) := by decide +kernel
theorem dX8_scaled_86 : decode cX8_scaled 86 = .ok (.goto (-74), 3) := by decide +kernel
theorem dX8_scaled_89 : decode cX8_scaled 89 = .ok (.aload_n 0, 1) := by decide +kernel
theorem dX8_scaled_90 : decode cX8_scaled 90 = .ok (.iload_n 1, 1) := by decide +kernel
theorem dX8_scaled_91 : decode cX8_scaled 91 = .ok (.putfield 15, 3) := by decide +kernel
theorem dX8_scaled_94 : decode cX8_scaled 94 = .ok (.aload_n 0, 1) := by decide +kernel
theorem dX8_scaled_95 : decode cX8_scaled 95 = .ok (.getfield 218, 3) := by decide +kernel
theorem dX8_scaled_98 : decode cX8_scaled 98 = .ok (.ifCond .eq 10, 3) := by decide +kernel
theorem dX8_scaled_101 : decode cX8_scaled 101 = .ok (.bipush (-10), 2) := by decide +kernel
theorem dX8_scaled_103 : decode cX8_scaled 103 = .ok (.iload_n 2, 1) := by decide +kernel
theorem dX8_scaled_104 : decode cX8_scaled 104 = .ok (.isub, 1) := by decide +kernel
theorem dX8_scaled_105 : decode cX8_scaled 105 = .ok (.goto 4, 3) := by decide +kernel
theorem dX8_scaled_108 : decode cX8_scaled 108 = .ok (.iload_n 2, 1) := by decide +kernel
theorem dX8_scaled_109 : decode cX8_scaled 109 = .ok (.ireturn, 1) := by decide +kernel
theorem dX8_fresh_0 : decode cX8_fresh 0 = .ok (.aload_n 0, 1) := by decide +kernel
theorem dX8_fresh_1 : decode cX8_fresh 1 = .ok (.invokevirtual 161, 3) := by decide +kernel
theorem dX8_fresh_4 : decode cX8_fresh 4 = .ok (.aload_n 0, 1) := by decide +kernel
theorem dX8_fresh_5 : decode cX8_fresh 5 = .ok (.invokevirtual 88, 3) := by decide +kernel
theorem dX8_fresh_8 : decode cX8_fresh 8 = .ok (.ireturn, 1) := by decide +kernel
theorem dX8_leave_0 : decode cX8_leave 0 = .ok (.aload_n 0, 1) := by decide +kernel
theorem dX8_leave_1 : decode cX8_leave 1 = .ok (.iload_n 1, 1) := by decide +kernel
theorem dX8_leave_2 : decode cX8_leave 2 = .ok (.invokevirtual 96, 3) := by decide +kernel
theorem dX8_leave_5 : decode cX8_leave 5 = .ok (.ifCond .ne 5, 3) := by decide +kernel
theorem dX8_leave_8 : decode cX8_leave 8 = .ok (.iconst (-1), 1) := by decide +kernel
theorem dX8_leave_9 : decode cX8_leave 9 = .ok (.ireturn, 1) := by decide +kernel
theorem dX8_leave_10 : decode cX8_leave 10 = .ok (.aload_n 0, 1) := by decide +kernel
theorem dX8_leave_11 : decode cX8_leave 11 = .ok (.getfield 22, 3) := by decide +kernel
theorem dX8_leave_14 : decode cX8_leave 14 = .ok (.iload_n 1, 1) := by decide +kernel
theorem dX8_leave_15 : decode cX8_leave 15 = .ok (.iaload, 1) := by decide +kernel
theorem dX8_leave_16 : decode cX8_leave 16 = .ok (.istore_n 2, 1) := by decide +kernel
theorem dX8_leave_17 : decode cX8_leave 17 = .ok (.aload_n 0, 1) := by decide +kernel
theorem dX8_leave_18 : decode cX8_leave 18 = .ok (.iload_n 1, 1) := by decide +kernel
theorem dX8_leave_19 : decode cX8_leave 19 = .ok (.invokevirtual 155, 3) := by decide +kernel
theorem dX8_leave_22 : decode cX8_leave 22 = .ok (.iload_n 2, 1) := by decide +kernel
theorem dX8_leave_23 : decode cX8_leave 23 = .ok (.ifCond .ge 8, 3) := by decide +kernel
theorem dX8_leave_26 : decode cX8_leave 26 = .ok (.bipush (-3), 2) := by decide +kernel
theorem dX8_leave_28 : decode cX8_leave 28 = .ok (.goto 4, 3) := by decide +kernel
theorem dX8_leave_31 : decode cX8_leave 31 = .ok (.iload_n 2, 1) := by decide +kernel
theorem dX8_leave_32 : decode cX8_leave 32 = .ok (.ireturn, 1) := by decide +kernel
theorem dX8_of_0 : decode cX8_of 0 = .ok (.aload_n 0, 1) := by decide +kernel
theorem dX8_of_1 : decode cX8_of 1 = .ok (.iload_n 1, 1) := by decide +kernel
theorem dX8_of_2 : decode cX8_of 2 = .ok (.iload_n 2, 1) := by decide +kernel
theorem dX8_of_3 : decode cX8_of 3 = .ok (.invokevirtual 164, 3) := by decide +kernel
theorem dX8_of_6 : decode cX8_of 6 = .ok (.ifCond .eq 13, 3) := by decide +kernel
theorem dX8_of_9 : decode cX8_of 9 = .ok (.iload_n 3, 1) := by decide +kernel
theorem dX8_of_10 : decode cX8_of 10 = .ok (.i2l, 1) := by decide +kernel
theorem dX8_of_11 : decode cX8_of 11 = .ok (.lconst 0, 1) := by decide +kernel
theorem dX8_of_12 : decode cX8_of 12 = .ok (.lconst 1, 1) := by decide +kernel
theorem dX8_of_13 : decode cX8_of 13 = .ok (.invokestatic 92, 3) := by decide +kernel
theorem dX8_of_16 : decode cX8_of 16 = .ok (.ifCond .ne 7, 3) := by decide +kernel
theorem dX8_of_19 : decode cX8_of 19 = .ok (.ldc2_w 233, 3) := by decide +kernel
theorem dX8_of_22 : decode cX8_of 22 = .ok (.lreturn, 1) := by decide +kernel
theorem dX8_of_23 : decode cX8_of 23 = .ok (.aload_n 0, 1) := by decide +kernel
theorem dX8_of_24 : decode cX8_of 24 = .ok (.iload_n 1, 1) := by decide +kernel
theorem dX8_of_25 : decode cX8_of 25 = .ok (.iload_n 2, 1) := by decide +kernel
theorem dX8_of_26 : decode cX8_of 26 = .ok (.invokevirtual 138, 3) := by decide +kernel
theorem dX8_of_29 : decode cX8_of 29 = .ok (.ifCond .ne 17, 3) := by decide +kernel
theorem dX8_of_32 : decode cX8_of 32 = .ok (.iload_n 3, 1) := by decide +kernel
theorem dX8_of_33 : decode cX8_of 33 = .ok (.ifCond .ne 9, 3) := by decide +kernel
theorem dX8_of_36 : decode cX8_of 36 = .ok (.ldc2_w 235, 3) := by decide +kernel
theorem dX8_of_39 : decode cX8_of 39 = .ok (.goto 6, 3) := by decide +kernel
theorem dX8_of_42 : decode cX8_of 42 = .ok (.ldc2_w 233, 3) := by decide +kernel
theorem dX8_of_45 : decode cX8_of 45 = .ok (.lreturn, 1) := by decide +kernel
theorem dX8_of_46 : decode cX8_of 46 = .ok (.iload_n 3, 1) := by decide +kernel
theorem dX8_of_47 : decode cX8_of 47 = .ok (.ifCond .ne 18, 3) := by decide +kernel
theorem dX8_of_50 : decode cX8_of 50 = .ok (.aload_n 0, 1) := by decide +kernel
theorem dX8_of_51 : decode cX8_of 51 = .ok (.getfield 18, 3) := by decide +kernel
theorem dX8_of_54 : decode cX8_of 54 = .ok (.bipush 8, 2) := by decide +kernel
theorem dX8_of_56 : decode cX8_of 56 = .ok (.iload_n 1, 1) := by decide +kernel
theorem dX8_of_57 : decode cX8_of 57 = .ok (.imul, 1) := by decide +kernel
theorem dX8_of_58 : decode cX8_of 58 = .ok (.iload_n 2, 1) := by decide +kernel
theorem dX8_of_59 : decode cX8_of 59 = .ok (.iadd, 1) := by decide +kernel
theorem dX8_of_60 : decode cX8_of 60 = .ok (.iaload, 1) := by decide +kernel
theorem dX8_of_61 : decode cX8_of 61 = .ok (.i2l, 1) := by decide +kernel
theorem dX8_of_62 : decode cX8_of 62 = .ok (.goto 10, 3) := by decide +kernel
theorem dX8_of_65 : decode cX8_of 65 = .ok (.aload_n 0, 1) := by decide +kernel
theorem dX8_of_66 : decode cX8_of 66 = .ok (.iload_n 1, 1) := by decide +kernel
theorem dX8_of_67 : decode cX8_of 67 = .ok (.iload_n 2, 1) := by decide +kernel
theorem dX8_of_68 : decode cX8_of 68 = .ok (.invokevirtual 142, 3) := by decide +kernel
theorem dX8_of_71 : decode cX8_of 71 = .ok (.i2l, 1) := by decide +kernel
theorem dX8_of_72 : decode cX8_of 72 = .ok (.lreturn, 1) := by decide +kernel
theorem dX8_envy_0 : decode cX8_envy 0 = .ok (.aload_n 0, 1) := by decide +kernel
theorem dX8_envy_1 : decode cX8_envy 1 = .ok (.getfield 22, 3) := by decide +kernel
theorem dX8_envy_4 : decode cX8_envy 4 = .ok (.iload_n 1, 1) := by decide +kernel
theorem dX8_envy_5 : decode cX8_envy 5 = .ok (.iaload, 1) := by decide +kernel
theorem dX8_envy_6 : decode cX8_envy 6 = .ok (.ifCond .ge 7, 3) := by decide +kernel
theorem dX8_envy_9 : decode cX8_envy 9 = .ok (.iconst 0, 1) := by decide +kernel
theorem dX8_envy_10 : decode cX8_envy 10 = .ok (.goto 14, 3) := by decide +kernel
theorem dX8_envy_13 : decode cX8_envy 13 = .ok (.aload_n 0, 1) := by decide +kernel
theorem dX8_envy_14 : decode cX8_envy 14 = .ok (.iload_n 1, 1) := by decide +kernel
theorem dX8_envy_15 : decode cX8_envy 15 = .ok (.aload_n 0, 1) := by decide +kernel
theorem dX8_envy_16 : decode cX8_envy 16 = .ok (.getfield 22, 3) := by decide +kernel
theorem dX8_envy_19 : decode cX8_envy 19 = .ok (.iload_n 1, 1) := by decide +kernel
theorem dX8_envy_20 : decode cX8_envy 20 = .ok (.iaload, 1) := by decide +kernel
theorem dX8_envy_21 : decode cX8_envy 21 = .ok (.invokevirtual 142, 3) := by decide +kernel
theorem dX8_envy_24 : decode cX8_envy 24 = .ok (.istore_n 2, 1) := by decide +kernel
theorem dX8_envy_25 : decode cX8_envy 25 = .ok (.iconst 0, 1) := by decide +kernel
theorem dX8_envy_26 : decode cX8_envy 26 = .ok (.istore_n 3, 1) := by decide +kernel
theorem dX8_envy_27 : decode cX8_envy 27 = .ok (.iconst 0, 1) := by decide +kernel
theorem dX8_envy_28 : decode cX8_envy 28 = .ok (.istore 4, 2) := by decide +kernel
theorem dX8_envy_30 : decode cX8_envy 30 = .ok (.iload 4, 2) := by decide +kernel
theorem dX8_envy_32 : decode cX8_envy 32 = .ok (.aload_n 0, 1) := by decide +kernel
theorem dX8_envy_33 : decode cX8_envy 33 = .ok (.getfield 9, 3) := by decide +kernel
theorem dX8_envy_36 : decode cX8_envy 36 = .ok (.if_icmp .ge 38, 3) := by decide +kernel
theorem dX8_envy_39 : decode cX8_envy 39 = .ok (.iload_n 3, 1) := by decide +kernel
theorem dX8_envy_40 : decode cX8_envy 40 = .ok (.aload_n 0, 1) := by decide +kernel
theorem dX8_envy_41 : decode cX8_envy 41 = .ok (.iload_n 1, 1) := by decide +kernel
theorem dX8_envy_42 : decode cX8_envy 42 = .ok (.iload 4, 2) := by decide +kernel
theorem dX8_envy_44 : decode cX8_envy 44 = .ok (.invokevirtual 138, 3) := by decide +kernel
theorem dX8_envy_47 : decode cX8_envy 47 = .ok (.ifCond .eq 18, 3) := by decide +kernel
theorem dX8_envy_50 : decode cX8_envy 50 = .ok (.aload_n 0, 1) := by decide +kernel
theorem dX8_envy_51 : decode cX8_envy 51 = .ok (.iload_n 1, 1) := by decide +kernel
theorem dX8_envy_52 : decode cX8_envy 52 = .ok (.iload 4, 2) := by decide +kernel
theorem dX8_envy_54 : decode cX8_envy 54 = .ok (.invokevirtual 142, 3) := by decide +kernel
theorem dX8_envy_57 : decode cX8_envy 57 = .ok (.iload_n 2, 1) := by decide +kernel
theorem dX8_envy_58 : decode cX8_envy 58 = .ok (.if_icmp .le 7, 3) := by decide +kernel
theorem dX8_envy_61 : decode cX8_envy 61 = .ok (.iconst 1, 1) := by decide +kernel
theorem dX8_envy_62 : decode cX8_envy 62 = .ok (.goto 4, 3) := by decide +kernel
theorem dX8_envy_65 : decode cX8_envy 65 = .ok (.iconst 0, 1) := by decide +kernel
theorem dX8_envy_66 : decode cX8_envy 66 = .ok (.iadd, 1) := by decide +kernel
theorem dX8_envy_67 : decode cX8_envy 67 = .ok (.istore_n 3, 1) := by decide +kernel
theorem dX8_envy_68 : decode cX8_envy 68 = .ok (.iinc 4 1, 3) := by decide +kernel
theorem dX8_envy_71 : decode cX8_envy 71 = .ok (.goto (-41), 3) := by decide +kernel
theorem dX8_envy_74 : decode cX8_envy 74 = .ok (.iload_n 3, 1) := by decide +kernel
theorem dX8_envy_75 : decode cX8_envy 75 = .ok (.ireturn, 1) := by decide +kernel
theorem dX8_open_0 : decode cX8_open 0 = .ok (.iconst 0, 1) := by decide +kernel
theorem dX8_open_1 : decode cX8_open 1 = .ok (.istore_n 2, 1) := by decide +kernel
theorem dX8_open_2 : decode cX8_open 2 = .ok (.iconst 0, 1) := by decide +kernel
theorem dX8_open_3 : decode cX8_open 3 = .ok (.istore_n 3, 1) := by decide +kernel
theorem dX8_open_4 : decode cX8_open 4 = .ok (.iload_n 3, 1) := by decide +kernel
theorem dX8_open_5 : decode cX8_open 5 = .ok (.aload_n 0, 1) := by decide +kernel
theorem dX8_open_6 : decode cX8_open 6 = .ok (.getfield 9, 3) := by decide +kernel
theorem dX8_open_9 : decode cX8_open 9 = .ok (.if_icmp .ge 28, 3) := by decide +kernel
theorem dX8_open_12 : decode cX8_open 12 = .ok (.iload_n 2, 1) := by decide +kernel
theorem dX8_open_13 : decode cX8_open 13 = .ok (.aload_n 0, 1) := by decide +kernel
theorem dX8_open_14 : decode cX8_open 14 = .ok (.iload_n 1, 1) := by decide +kernel
theorem dX8_open_15 : decode cX8_open 15 = .ok (.iload_n 3, 1) := by decide +kernel
theorem dX8_open_16 : decode cX8_open 16 = .ok (.invokevirtual 138, 3) := by decide +kernel
theorem dX8_open_19 : decode cX8_open 19 = .ok (.ifCond .eq 9, 3) := by decide +kernel
theorem dX8_open_22 : decode cX8_open 22 = .ok (.iconst 1, 1) := by decide +kernel
theorem dX8_open_23 : decode cX8_open 23 = .ok (.iload_n 3, 1) := by decide +kernel
theorem dX8_open_24 : decode cX8_open 24 = .ok (.ishl, 1) := by decide +kernel
theorem dX8_open_25 : decode cX8_open 25 = .ok (.goto 4, 3) := by decide +kernel
theorem dX8_open_28 : decode cX8_open 28 = .ok (.iconst 0, 1) := by decide +kernel
theorem dX8_open_29 : decode cX8_open 29 = .ok (.ior, 1) := by decide +kernel
theorem dX8_open_30 : decode cX8_open 30 = .ok (.istore_n 2, 1) := by decide +kernel
theorem dX8_open_31 : decode cX8_open 31 = .ok (.iinc 3 1, 3) := by decide +kernel
theorem dX8_open_34 : decode cX8_open 34 = .ok (.goto (-30), 3) := by decide +kernel
theorem dX8_open_37 : decode cX8_open 37 = .ok (.iload_n 2, 1) := by decide +kernel
theorem dX8_open_38 : decode cX8_open 38 = .ok (.ireturn, 1) := by decide +kernel
theorem dX8_bits_0 : decode cX8_bits 0 = .ok (.iconst 0, 1) := by decide +kernel
theorem dX8_bits_1 : decode cX8_bits 1 = .ok (.istore_n 1, 1) := by decide +kernel
theorem dX8_bits_2 : decode cX8_bits 2 = .ok (.iconst 0, 1) := by decide +kernel
theorem dX8_bits_3 : decode cX8_bits 3 = .ok (.istore_n 2, 1) := by decide +kernel
theorem dX8_bits_4 : decode cX8_bits 4 = .ok (.iload_n 2, 1) := by decide +kernel
theorem dX8_bits_5 : decode cX8_bits 5 = .ok (.bipush 8, 2) := by decide +kernel
theorem dX8_bits_7 : decode cX8_bits 7 = .ok (.if_icmp .ge 17, 3) := by decide +kernel
theorem dX8_bits_10 : decode cX8_bits 10 = .ok (.iload_n 1, 1) := by decide +kernel
theorem dX8_bits_11 : decode cX8_bits 11 = .ok (.iload_n 0, 1) := by decide +kernel
theorem dX8_bits_12 : decode cX8_bits 12 = .ok (.iload_n 2, 1) := by decide +kernel
theorem dX8_bits_13 : decode cX8_bits 13 = .ok (.ishr, 1) := by decide +kernel
theorem dX8_bits_14 : decode cX8_bits 14 = .ok (.iconst 1, 1) := by decide +kernel
theorem dX8_bits_15 : decode cX8_bits 15 = .ok (.iand, 1) := by decide +kernel
theorem dX8_bits_16 : decode cX8_bits 16 = .ok (.iadd, 1) := by decide +kernel
theorem dX8_bits_17 : decode cX8_bits 17 = .ok (.istore_n 1, 1) := by decide +kernel
theorem dX8_bits_18 : decode cX8_bits 18 = .ok (.iinc 2 1, 3) := by decide +kernel
theorem dX8_bits_21 : decode cX8_bits 21 = .ok (.goto (-17), 3) := by decide +kernel
theorem dX8_bits_24 : decode cX8_bits 24 = .ok (.iload_n 1, 1) := by decide +kernel
theorem dX8_bits_25 : decode cX8_bits 25 = .ok (.ireturn, 1) := by decide +kernel
theorem dX8_person_0 : decode cX8_person 0 = .ok (.aload_n 0, 1) := by decide +kernel
theorem dX8_person_1 : decode cX8_person 1 = .ok (.iload_n 1, 1) := by decide +kernel
theorem dX8_person_2 : decode cX8_person 2 = .ok (.invokevirtual 96, 3) := by decide +kernel
theorem dX8_person_5 : decode cX8_person 5 = .ok (.ifCond .ne 5, 3) := by decide +kernel
theorem dX8_person_8 : decode cX8_person 8 = .ok (.iconst (-1), 1) := by decide +kernel
theorem dX8_person_9 : decode cX8_person 9 = .ok (.ireturn, 1) := by decide +kernel
theorem dX8_person_10 : decode cX8_person 10 = .ok (.iload_n 2, 1) := by decide +kernel
theorem dX8_person_11 : decode cX8_person 11 = .ok (.tableswitch 84 0 3 #[29, 50, 69, 75], 29) := by decide +kernel
theorem dX8_person_40 : decode cX8_person 40 = .ok (.aload_n 0, 1) := by decide +kernel
theorem dX8_person_41 : decode cX8_person 41 = .ok (.getfield 22, 3) := by decide +kernel
theorem dX8_person_44 : decode cX8_person 44 = .ok (.iload_n 1, 1) := by decide +kernel
theorem dX8_person_45 : decode cX8_person 45 = .ok (.iaload, 1) := by decide +kernel
theorem dX8_person_46 : decode cX8_person 46 = .ok (.ifCond .ge 8, 3) := by decide +kernel
theorem dX8_person_49 : decode cX8_person 49 = .ok (.bipush (-5), 2) := by decide +kernel
theorem dX8_person_51 : decode cX8_person 51 = .ok (.goto 9, 3) := by decide +kernel
theorem dX8_person_54 : decode cX8_person 54 = .ok (.aload_n 0, 1) := by decide +kernel
theorem dX8_person_55 : decode cX8_person 55 = .ok (.getfield 22, 3) := by decide +kernel
theorem dX8_person_58 : decode cX8_person 58 = .ok (.iload_n 1, 1) := by decide +kernel
theorem dX8_person_59 : decode cX8_person 59 = .ok (.iaload, 1) := by decide +kernel
theorem dX8_person_60 : decode cX8_person 60 = .ok (.ireturn, 1) := by decide +kernel
theorem dX8_person_61 : decode cX8_person 61 = .ok (.aload_n 0, 1) := by decide +kernel
theorem dX8_person_62 : decode cX8_person 62 = .ok (.iload_n 1, 1) := by decide +kernel
theorem dX8_person_63 : decode cX8_person 63 = .ok (.invokevirtual 146, 3) := by decide +kernel
theorem dX8_person_66 : decode cX8_person 66 = .ok (.ifCond .ge 8, 3) := by decide +kernel
theorem dX8_person_69 : decode cX8_person 69 = .ok (.bipush (-5), 2) := by decide +kernel
theorem dX8_person_71 : decode cX8_person 71 = .ok (.goto 8, 3) := by decide +kernel
theorem dX8_person_74 : decode cX8_person 74 = .ok (.aload_n 0, 1) := by decide +kernel
theorem dX8_person_75 : decode cX8_person 75 = .ok (.iload_n 1, 1) := by decide +kernel
theorem dX8_person_76 : decode cX8_person 76 = .ok (.invokevirtual 146, 3) := by decide +kernel
theorem dX8_person_79 : decode cX8_person 79 = .ok (.ireturn, 1) := by decide +kernel
theorem dX8_person_80 : decode cX8_person 80 = .ok (.aload_n 0, 1) := by decide +kernel
theorem dX8_person_81 : decode cX8_person 81 = .ok (.iload_n 1, 1) := by decide +kernel
theorem dX8_person_82 : decode cX8_person 82 = .ok (.invokevirtual 237, 3) := by decide +kernel
theorem dX8_person_85 : decode cX8_person 85 = .ok (.ireturn, 1) := by decide +kernel
theorem dX8_person_86 : decode cX8_person 86 = .ok (.aload_n 0, 1) := by decide +kernel
theorem dX8_person_87 : decode cX8_person 87 = .ok (.iload_n 1, 1) := by decide +kernel
theorem dX8_person_88 : decode cX8_person 88 = .ok (.invokevirtual 240, 3) := by decide +kernel
theorem dX8_person_91 : decode cX8_person 91 = .ok (.invokestatic 243, 3) := by decide +kernel
theorem dX8_person_94 : decode cX8_person 94 = .ok (.ireturn, 1) := by decide +kernel
theorem dX8_person_95 : decode cX8_person 95 = .ok (.iconst (-1), 1) := by decide +kernel
theorem dX8_person_96 : decode cX8_person 96 = .ok (.ireturn, 1) := by decide +kernel
theorem dX8_wanted_0 : decode cX8_wanted 0 = .ok (.iconst 0, 1) := by decide +kernel
theorem dX8_wanted_1 : decode cX8_wanted 1 = .ok (.istore_n 2, 1) := by decide +kernel
theorem dX8_wanted_2 : decode cX8_wanted 2 = .ok (.iconst 0, 1) := by decide +kernel
theorem dX8_wanted_3 : decode cX8_wanted 3 = .ok (.istore_n 3, 1) := by decide +kernel
theorem dX8_wanted_4 : decode cX8_wanted 4 = .ok (.iload_n 3, 1) := by decide +kernel
theorem dX8_wanted_5 : decode cX8_wanted 5 = .ok (.aload_n 0, 1) := by decide +kernel
theorem dX8_wanted_6 : decode cX8_wanted 6 = .ok (.getfield 9, 3) := by decide +kernel
theorem dX8_wanted_9 : decode cX8_wanted 9 = .ok (.if_icmp .ge 28, 3) := by decide +kernel
theorem dX8_wanted_12 : decode cX8_wanted 12 = .ok (.iload_n 2, 1) := by decide +kernel
theorem dX8_wanted_13 : decode cX8_wanted 13 = .ok (.aload_n 0, 1) := by decide +kernel
theorem dX8_wanted_14 : decode cX8_wanted 14 = .ok (.iload_n 3, 1) := by decide +kernel
theorem dX8_wanted_15 : decode cX8_wanted 15 = .ok (.invokevirtual 146, 3) := by decide +kernel
theorem dX8_wanted_18 : decode cX8_wanted 18 = .ok (.iload_n 1, 1) := by decide +kernel
theorem dX8_wanted_19 : decode cX8_wanted 19 = .ok (.if_icmp .ne 9, 3) := by decide +kernel
theorem dX8_wanted_22 : decode cX8_wanted 22 = .ok (.iconst 1, 1) := by decide +kernel
theorem dX8_wanted_23 : decode cX8_wanted 23 = .ok (.iload_n 3, 1) := by decide +kernel
theorem dX8_wanted_24 : decode cX8_wanted 24 = .ok (.ishl, 1) := by decide +kernel
theorem dX8_wanted_25 : decode cX8_wanted 25 = .ok (.goto 4, 3) := by decide +kernel
theorem dX8_wanted_28 : decode cX8_wanted 28 = .ok (.iconst 0, 1) := by decide +kernel
theorem dX8_wanted_29 : decode cX8_wanted 29 = .ok (.ior, 1) := by decide +kernel
theorem dX8_wanted_30 : decode cX8_wanted 30 = .ok (.istore_n 2, 1) := by decide +kernel
theorem dX8_wanted_31 : decode cX8_wanted 31 = .ok (.iinc 3 1, 3) := by decide +kernel
theorem dX8_wanted_34 : decode cX8_wanted 34 = .ok (.goto (-30), 3) := by decide +kernel
theorem dX8_wanted_37 : decode cX8_wanted 37 = .ok (.iload_n 2, 1) := by decide +kernel
theorem dX8_wanted_38 : decode cX8_wanted 38 = .ok (.ireturn, 1) := by decide +kernel
theorem dX8_thing_0 : decode cX8_thing 0 = .ok (.aload_n 0, 1) := by decide +kernel
theorem dX8_thing_1 : decode cX8_thing 1 = .ok (.iload_n 1, 1) := by decide +kernel
theorem dX8_thing_2 : decode cX8_thing 2 = .ok (.invokevirtual 96, 3) := by decide +kernel
theorem dX8_thing_5 : decode cX8_thing 5 = .ok (.ifCond .ne 5, 3) := by decide +kernel
theorem dX8_thing_8 : decode cX8_thing 8 = .ok (.iconst (-1), 1) := by decide +kernel
theorem dX8_thing_9 : decode cX8_thing 9 = .ok (.ireturn, 1) := by decide +kernel
theorem dX8_thing_10 : decode cX8_thing 10 = .ok (.iload_n 2, 1) := by decide +kernel
theorem dX8_thing_11 : decode cX8_thing 11 = .ok (.tableswitch 59 0 2 #[25, 32, 53], 25) := by decide +kernel
theorem dX8_thing_36 : decode cX8_thing 36 = .ok (.aload_n 0, 1) := by decide +kernel
theorem dX8_thing_37 : decode cX8_thing 37 = .ok (.getfield 28, 3) := by decide +kernel
theorem dX8_thing_40 : decode cX8_thing 40 = .ok (.iload_n 1, 1) := by decide +kernel
theorem dX8_thing_41 : decode cX8_thing 41 = .ok (.iaload, 1) := by decide +kernel
theorem dX8_thing_42 : decode cX8_thing 42 = .ok (.ireturn, 1) := by decide +kernel
theorem dX8_thing_43 : decode cX8_thing 43 = .ok (.aload_n 0, 1) := by decide +kernel
theorem dX8_thing_44 : decode cX8_thing 44 = .ok (.getfield 25, 3) := by decide +kernel
theorem dX8_thing_47 : decode cX8_thing 47 = .ok (.iload_n 1, 1) := by decide +kernel
theorem dX8_thing_48 : decode cX8_thing 48 = .ok (.iaload, 1) := by decide +kernel
theorem dX8_thing_49 : decode cX8_thing 49 = .ok (.ifCond .ge 8, 3) := by decide +kernel
theorem dX8_thing_52 : decode cX8_thing 52 = .ok (.bipush (-5), 2) := by decide +kernel
theorem dX8_thing_54 : decode cX8_thing 54 = .ok (.goto 9, 3) := by decide +kernel
theorem dX8_thing_57 : decode cX8_thing 57 = .ok (.aload_n 0, 1) := by decide +kernel
theorem dX8_thing_58 : decode cX8_thing 58 = .ok (.getfield 25, 3) := by decide +kernel
theorem dX8_thing_61 : decode cX8_thing 61 = .ok (.iload_n 1, 1) := by decide +kernel
theorem dX8_thing_62 : decode cX8_thing 62 = .ok (.iaload, 1) := by decide +kernel
theorem dX8_thing_63 : decode cX8_thing 63 = .ok (.ireturn, 1) := by decide +kernel
theorem dX8_thing_64 : decode cX8_thing 64 = .ok (.aload_n 0, 1) := by decide +kernel
theorem dX8_thing_65 : decode cX8_thing 65 = .ok (.iload_n 1, 1) := by decide +kernel
theorem dX8_thing_66 : decode cX8_thing 66 = .ok (.invokevirtual 246, 3) := by decide +kernel
theorem dX8_thing_69 : decode cX8_thing 69 = .ok (.ireturn, 1) := by decide +kernel
theorem dX8_thing_70 : decode cX8_thing 70 = .ok (.iconst (-1), 1) := by decide +kernel
theorem dX8_thing_71 : decode cX8_thing 71 = .ok (.ireturn, 1) := by decide +kernel
theorem dX8_sum_0 : decode cX8_sum 0 = .ok (.iconst 0, 1) := by decide +kernel
theorem dX8_sum_1 : decode cX8_sum 1 = .ok (.istore_n 1, 1) := by decide +kernel
theorem dX8_sum_2 : decode cX8_sum 2 = .ok (.iconst 0, 1) := by decide +kernel
theorem dX8_sum_3 : decode cX8_sum 3 = .ok (.istore_n 2, 1) := by decide +kernel
theorem dX8_sum_4 : decode cX8_sum 4 = .ok (.iload_n 2, 1) := by decide +kernel
theorem dX8_sum_5 : decode cX8_sum 5 = .ok (.aload_n 0, 1) := by decide +kernel
theorem dX8_sum_6 : decode cX8_sum 6 = .ok (.getfield 9, 3) := by decide +kernel
theorem dX8_sum_9 : decode cX8_sum 9 = .ok (.if_icmp .ge 41, 3) := by decide +kernel
theorem dX8_sum_12 : decode cX8_sum 12 = .ok (.iload_n 1, 1) := by decide +kernel
theorem dX8_sum_13 : decode cX8_sum 13 = .ok (.aload_n 0, 1) := by decide +kernel
theorem dX8_sum_14 : decode cX8_sum 14 = .ok (.getfield 22, 3) := by decide +kernel
theorem dX8_sum_17 : decode cX8_sum 17 = .ok (.iload_n 2, 1) := by decide +kernel
theorem dX8_sum_18 : decode cX8_sum 18 = .ok (.iaload, 1) := by decide +kernel
theorem dX8_sum_19 : decode cX8_sum 19 = .ok (.ifCond .ge 7, 3) := by decide +kernel
theorem dX8_sum_22 : decode cX8_sum 22 = .ok (.iconst 0, 1) := by decide +kernel
theorem dX8_sum_23 : decode cX8_sum 23 = .ok (.goto 19, 3) := by decide +kernel
theorem dX8_sum_26 : decode cX8_sum 26 = .ok (.aload_n 0, 1) := by decide +kernel
theorem dX8_sum_27 : decode cX8_sum 27 = .ok (.getfield 18, 3) := by decide +kernel
theorem dX8_sum_30 : decode cX8_sum 30 = .ok (.bipush 8, 2) := by decide +kernel
theorem dX8_sum_32 : decode cX8_sum 32 = .ok (.iload_n 2, 1) := by decide +kernel
theorem dX8_sum_33 : decode cX8_sum 33 = .ok (.imul, 1) := by decide +kernel
theorem dX8_sum_34 : decode cX8_sum 34 = .ok (.aload_n 0, 1) := by decide +kernel
theorem dX8_sum_35 : decode cX8_sum 35 = .ok (.getfield 22, 3) := by decide +kernel
theorem dX8_sum_38 : decode cX8_sum 38 = .ok (.iload_n 2, 1) := by decide +kernel
theorem dX8_sum_39 : decode cX8_sum 39 = .ok (.iaload, 1) := by decide +kernel
theorem dX8_sum_40 : decode cX8_sum 40 = .ok (.iadd, 1) := by decide +kernel
theorem dX8_sum_41 : decode cX8_sum 41 = .ok (.iaload, 1) := by decide +kernel
theorem dX8_sum_42 : decode cX8_sum 42 = .ok (.iadd, 1) := by decide +kernel
theorem dX8_sum_43 : decode cX8_sum 43 = .ok (.istore_n 1, 1) := by decide +kernel
theorem dX8_sum_44 : decode cX8_sum 44 = .ok (.iinc 2 1, 3) := by decide +kernel
theorem dX8_sum_47 : decode cX8_sum 47 = .ok (.goto (-43), 3) := by decide +kernel
theorem dX8_sum_50 : decode cX8_sum 50 = .ok (.iload_n 1, 1) := by decide +kernel
theorem dX8_sum_51 : decode cX8_sum 51 = .ok (.ireturn, 1) := by decide +kernel
theorem dX8_prices_0 : decode cX8_prices 0 = .ok (.iconst 0, 1) := by decide +kernel
theorem dX8_prices_1 : decode cX8_prices 1 = .ok (.istore_n 1, 1) := by decide +kernel
theorem dX8_prices_2 : decode cX8_prices 2 = .ok (.iconst 0, 1) := by decide +kernel
theorem dX8_prices_3 : decode cX8_prices 3 = .ok (.istore_n 2, 1) := by decide +kernel
theorem dX8_prices_4 : decode cX8_prices 4 = .ok (.iload_n 2, 1) := by decide +kernel
theorem dX8_prices_5 : decode cX8_prices 5 = .ok (.aload_n 0, 1) := by decide +kernel
theorem dX8_prices_6 : decode cX8_prices 6 = .ok (.getfield 9, 3) := by decide +kernel
theorem dX8_prices_9 : decode cX8_prices 9 = .ok (.if_icmp .ge 18, 3) := by decide +kernel
theorem dX8_prices_12 : decode cX8_prices 12 = .ok (.iload_n 1, 1) := by decide +kernel
theorem dX8_prices_13 : decode cX8_prices 13 = .ok (.aload_n 0, 1) := by decide +kernel
theorem dX8_prices_14 : decode cX8_prices 14 = .ok (.getfield 28, 3) := by decide +kernel
theorem dX8_prices_17 : decode cX8_prices 17 = .ok (.iload_n 2, 1) := by decide +kernel
theorem dX8_prices_18 : decode cX8_prices 18 = .ok (.iaload, 1) := by decide +kernel
theorem dX8_prices_19 : decode cX8_prices 19 = .ok (.iadd, 1) := by decide +kernel
theorem dX8_prices_20 : decode cX8_prices 20 = .ok (.istore_n 1, 1) := by decide +kernel
theorem dX8_prices_21 : decode cX8_prices 21 = .ok (.iinc 2 1, 3) := by decide +kernel
theorem dX8_prices_24 : decode cX8_prices 24 = .ok (.goto (-20), 3) := by decide +kernel
theorem dX8_prices_27 : decode cX8_prices 27 = .ok (.iload_n 1, 1) := by decide +kernel
theorem dX8_prices_28 : decode cX8_prices 28 = .ok (.ireturn, 1) := by decide +kernel
theorem dX8_most_0 : decode cX8_most 0 = .ok (.iconst 1, 1) := by decide +kernel
theorem dX8_most_1 : decode cX8_most 1 = .ok (.aload_n 0, 1) := by decide +kernel
theorem dX8_most_2 : decode cX8_most 2 = .ok (.getfield 9, 3) := by decide +kernel
theorem dX8_most_5 : decode cX8_most 5 = .ok (.ishl, 1) := by decide +kernel
theorem dX8_most_6 : decode cX8_most 6 = .ok (.iconst 1, 1) := by decide +kernel
theorem dX8_most_7 : decode cX8_most 7 = .ok (.isub, 1) := by decide +kernel
theorem dX8_most_8 : decode cX8_most 8 = .ok (.istore_n 1, 1) := by decide +kernel
theorem dX8_most_9 : decode cX8_most 9 = .ok (.iload_n 1, 1) := by decide +kernel
theorem dX8_most_10 : decode cX8_most 10 = .ok (.istore_n 2, 1) := by decide +kernel
theorem dX8_most_11 : decode cX8_most 11 = .ok (.iload_n 2, 1) := by decide +kernel
theorem dX8_most_12 : decode cX8_most 12 = .ok (.ifCond .lt 125, 3) := by decide +kernel
theorem dX8_most_15 : decode cX8_most 15 = .ok (.iload_n 2, 1) := by decide +kernel
theorem dX8_most_16 : decode cX8_most 16 = .ok (.invokestatic 243, 3) := by decide +kernel
theorem dX8_most_19 : decode cX8_most 19 = .ok (.istore_n 3, 1) := by decide +kernel
theorem dX8_most_20 : decode cX8_most 20 = .ok (.aload_n 0, 1) := by decide +kernel
theorem dX8_most_21 : decode cX8_most 21 = .ok (.getfield 70, 3) := by decide +kernel
theorem dX8_most_24 : decode cX8_most 24 = .ok (.iload_n 2, 1) := by decide +kernel
theorem dX8_most_25 : decode cX8_most 25 = .ok (.iload_n 2, 1) := by decide +kernel
theorem dX8_most_26 : decode cX8_most 26 = .ok (.iload_n 1, 1) := by decide +kernel
theorem dX8_most_27 : decode cX8_most 27 = .ok (.if_icmp .ne 7, 3) := by decide +kernel
theorem dX8_most_30 : decode cX8_most 30 = .ok (.iconst 0, 1) := by decide +kernel
theorem dX8_most_31 : decode cX8_most 31 = .ok (.goto 4, 3) := by decide +kernel
theorem dX8_most_34 : decode cX8_most 34 = .ok (.iconst (-1), 1) := by decide +kernel
theorem dX8_most_35 : decode cX8_most 35 = .ok (.iastore, 1) := by decide +kernel
theorem dX8_most_36 : decode cX8_most 36 = .ok (.iconst 0, 1) := by decide +kernel
theorem dX8_most_37 : decode cX8_most 37 = .ok (.istore 4, 2) := by decide +kernel
theorem dX8_most_39 : decode cX8_most 39 = .ok (.iload 4, 2) := by decide +kernel
theorem dX8_most_41 : decode cX8_most 41 = .ok (.aload_n 0, 1) := by decide +kernel
theorem dX8_most_42 : decode cX8_most 42 = .ok (.getfield 9, 3) := by decide +kernel
theorem dX8_most_45 : decode cX8_most 45 = .ok (.if_icmp .ge 86, 3) := by decide +kernel
theorem dX8_most_48 : decode cX8_most 48 = .ok (.iload_n 2, 1) := by decide +kernel
theorem dX8_most_49 : decode cX8_most 49 = .ok (.iload_n 1, 1) := by decide +kernel
theorem dX8_most_50 : decode cX8_most 50 = .ok (.if_icmp .eq 81, 3) := by decide +kernel
theorem dX8_most_53 : decode cX8_most 53 = .ok (.iload_n 2, 1) := by decide +kernel
theorem dX8_most_54 : decode cX8_most 54 = .ok (.iload 4, 2) := by decide +kernel
theorem dX8_most_56 : decode cX8_most 56 = .ok (.ishr, 1) := by decide +kernel
theorem dX8_most_57 : decode cX8_most 57 = .ok (.iconst 1, 1) := by decide +kernel
theorem dX8_most_58 : decode cX8_most 58 = .ok (.iand, 1) := by decide +kernel
theorem dX8_most_59 : decode cX8_most 59 = .ok (.ifCond .ne 66, 3) := by decide +kernel
theorem dX8_most_62 : decode cX8_most 62 = .ok (.aload_n 0, 1) := by decide +kernel
theorem dX8_most_63 : decode cX8_most 63 = .ok (.iload_n 3, 1) := by decide +kernel
theorem dX8_most_64 : decode cX8_most 64 = .ok (.iload 4, 2) := by decide +kernel
theorem dX8_most_66 : decode cX8_most 66 = .ok (.invokevirtual 138, 3) := by decide +kernel
theorem dX8_most_69 : decode cX8_most 69 = .ok (.ifCond .eq 56, 3) := by decide +kernel
theorem dX8_most_72 : decode cX8_most 72 = .ok (.aload_n 0, 1) := by decide +kernel
theorem dX8_most_73 : decode cX8_most 73 = .ok (.getfield 70, 3) := by decide +kernel
theorem dX8_most_76 : decode cX8_most 76 = .ok (.iload_n 2, 1) := by decide +kernel
theorem dX8_most_77 : decode cX8_most 77 = .ok (.iconst 1, 1) := by decide +kernel
theorem dX8_most_78 : decode cX8_most 78 = .ok (.iload 4, 2) := by decide +kernel
theorem dX8_most_80 : decode cX8_most 80 = .ok (.ishl, 1) := by decide +kernel
theorem dX8_most_81 : decode cX8_most 81 = .ok (.ior, 1) := by decide +kernel
theorem dX8_most_82 : decode cX8_most 82 = .ok (.iaload, 1) := by decide +kernel
theorem dX8_most_83 : decode cX8_most 83 = .ok (.ifCond .lt 42, 3) := by decide +kernel
theorem dX8_most_86 : decode cX8_most 86 = .ok (.aload_n 0, 1) := by decide +kernel
theorem dX8_most_87 : decode cX8_most 87 = .ok (.getfield 70, 3) := by decide +kernel
theorem dX8_most_90 : decode cX8_most 90 = .ok (.iload_n 2, 1) := by decide +kernel
theorem dX8_most_91 : decode cX8_most 91 = .ok (.aload_n 0, 1) := by decide +kernel
theorem dX8_most_92 : decode cX8_most 92 = .ok (.getfield 70, 3) := by decide +kernel
theorem dX8_most_95 : decode cX8_most 95 = .ok (.iload_n 2, 1) := by decide +kernel
theorem dX8_most_96 : decode cX8_most 96 = .ok (.iaload, 1) := by decide +kernel
theorem dX8_most_97 : decode cX8_most 97 = .ok (.aload_n 0, 1) := by decide +kernel
theorem dX8_most_98 : decode cX8_most 98 = .ok (.getfield 18, 3) := by decide +kernel
theorem dX8_most_101 : decode cX8_most 101 = .ok (.bipush 8, 2) := by decide +kernel
theorem dX8_most_103 : decode cX8_most 103 = .ok (.iload_n 3, 1) := by decide +kernel
theorem dX8_most_104 : decode cX8_most 104 = .ok (.imul, 1) := by decide +kernel
theorem dX8_most_105 : decode cX8_most 105 = .ok (.iload 4, 2) := by decide +kernel
theorem dX8_most_107 : decode cX8_most 107 = .ok (.iadd, 1) := by decide +kernel
theorem dX8_most_108 : decode cX8_most 108 = .ok (.iaload, 1) := by decide +kernel
theorem dX8_most_109 : decode cX8_most 109 = .ok (.aload_n 0, 1) := by decide +kernel
theorem dX8_most_110 : decode cX8_most 110 = .ok (.getfield 70, 3) := by decide +kernel
theorem dX8_most_113 : decode cX8_most 113 = .ok (.iload_n 2, 1) := by decide +kernel
theorem dX8_most_114 : decode cX8_most 114 = .ok (.iconst 1, 1) := by decide +kernel
theorem dX8_most_115 : decode cX8_most 115 = .ok (.iload 4, 2) := by decide +kernel
theorem dX8_most_117 : decode cX8_most 117 = .ok (.ishl, 1) := by decide +kernel
theorem dX8_most_118 : decode cX8_most 118 = .ok (.ior, 1) := by decide +kernel
theorem dX8_most_119 : decode cX8_most 119 = .ok (.iaload, 1) := by decide +kernel
theorem dX8_most_120 : decode cX8_most 120 = .ok (.iadd, 1) := by decide +kernel
theorem dX8_most_121 : decode cX8_most 121 = .ok (.invokestatic 249, 3) := by decide +kernel
theorem dX8_most_124 : decode cX8_most 124 = .ok (.iastore, 1) := by decide +kernel
theorem dX8_most_125 : decode cX8_most 125 = .ok (.iinc 4 1, 3) := by decide +kernel
theorem dX8_most_128 : decode cX8_most 128 = .ok (.goto (-89), 3) := by decide +kernel
theorem dX8_most_131 : decode cX8_most 131 = .ok (.iinc 2 (-1), 3) := by decide +kernel
theorem dX8_most_134 : decode cX8_most 134 = .ok (.goto (-123), 3) := by decide +kernel
theorem dX8_most_137 : decode cX8_most 137 = .ok (.aload_n 0, 1) := by decide +kernel
theorem dX8_most_138 : decode cX8_most 138 = .ok (.getfield 70, 3) := by decide +kernel
theorem dX8_most_141 : decode cX8_most 141 = .ok (.iconst 0, 1) := by decide +kernel
theorem dX8_most_142 : decode cX8_most 142 = .ok (.iaload, 1) := by decide +kernel
theorem dX8_most_143 : decode cX8_most 143 = .ok (.ifCond .ge 8, 3) := by decide +kernel
theorem dX8_most_146 : decode cX8_most 146 = .ok (.bipush (-5), 2) := by decide +kernel
theorem dX8_most_148 : decode cX8_most 148 = .ok (.goto 9, 3) := by decide +kernel
theorem dX8_most_151 : decode cX8_most 151 = .ok (.aload_n 0, 1) := by decide +kernel
theorem dX8_most_152 : decode cX8_most 152 = .ok (.getfield 70, 3) := by decide +kernel
theorem dX8_most_155 : decode cX8_most 155 = .ok (.iconst 0, 1) := by decide +kernel
theorem dX8_most_156 : decode cX8_most 156 = .ok (.iaload, 1) := by decide +kernel
theorem dX8_most_157 : decode cX8_most 157 = .ok (.ireturn, 1) := by decide +kernel
theorem dX8_sure_0 : decode cX8_sure 0 = .ok (.iconst 0, 1) := by decide +kernel
theorem dX8_sure_1 : decode cX8_sure 1 = .ok (.istore_n 1, 1) := by decide +kernel
theorem dX8_sure_2 : decode cX8_sure 2 = .ok (.iload_n 1, 1) := by decide +kernel
theorem dX8_sure_3 : decode cX8_sure 3 = .ok (.aload_n 0, 1) := by decide +kernel
theorem dX8_sure_4 : decode cX8_sure 4 = .ok (.getfield 9, 3) := by decide +kernel
theorem dX8_sure_7 : decode cX8_sure 7 = .ok (.if_icmp .ge 49, 3) := by decide +kernel
theorem dX8_sure_10 : decode cX8_sure 10 = .ok (.aload_n 0, 1) := by decide +kernel
theorem dX8_sure_11 : decode cX8_sure 11 = .ok (.getfield 22, 3) := by decide +kernel
theorem dX8_sure_14 : decode cX8_sure 14 = .ok (.iload_n 1, 1) := by decide +kernel
theorem dX8_sure_15 : decode cX8_sure 15 = .ok (.iaload, 1) := by decide +kernel
theorem dX8_sure_16 : decode cX8_sure 16 = .ok (.ifCond .lt 32, 3) := by decide +kernel
theorem dX8_sure_19 : decode cX8_sure 19 = .ok (.aload_n 0, 1) := by decide +kernel
theorem dX8_sure_20 : decode cX8_sure 20 = .ok (.iload_n 1, 1) := by decide +kernel
theorem dX8_sure_21 : decode cX8_sure 21 = .ok (.aload_n 0, 1) := by decide +kernel
theorem dX8_sure_22 : decode cX8_sure 22 = .ok (.iload_n 1, 1) := by decide +kernel
theorem dX8_sure_23 : decode cX8_sure 23 = .ok (.invokevirtual 146, 3) := by decide +kernel
theorem dX8_sure_26 : decode cX8_sure 26 = .ok (.invokevirtual 142, 3) := by decide +kernel
theorem dX8_sure_29 : decode cX8_sure 29 = .ok (.aload_n 0, 1) := by decide +kernel
theorem dX8_sure_30 : decode cX8_sure 30 = .ok (.iload_n 1, 1) := by decide +kernel
theorem dX8_sure_31 : decode cX8_sure 31 = .ok (.aload_n 0, 1) := by decide +kernel
theorem dX8_sure_32 : decode cX8_sure 32 = .ok (.getfield 22, 3) := by decide +kernel
theorem dX8_sure_35 : decode cX8_sure 35 = .ok (.iload_n 1, 1) := by decide +kernel
theorem dX8_sure_36 : decode cX8_sure 36 = .ok (.iaload, 1) := by decide +kernel
theorem dX8_sure_37 : decode cX8_sure 37 = .ok (.invokevirtual 142, 3) := by decide +kernel
theorem dX8_sure_40 : decode cX8_sure 40 = .ok (.aload_n 0, 1) := by decide +kernel
theorem dX8_sure_41 : decode cX8_sure 41 = .ok (.getfield 15, 3) := by decide +kernel
theorem dX8_sure_44 : decode cX8_sure 44 = .ok (.iadd, 1) := by decide +kernel
theorem dX8_sure_45 : decode cX8_sure 45 = .ok (.if_icmp .le 5, 3) := by decide +kernel
theorem dX8_sure_48 : decode cX8_sure 48 = .ok (.iconst 0, 1) := by decide +kernel
theorem dX8_sure_49 : decode cX8_sure 49 = .ok (.ireturn, 1) := by decide +kernel
theorem dX8_sure_50 : decode cX8_sure 50 = .ok (.iinc 1 1, 3) := by decide +kernel
theorem dX8_sure_53 : decode cX8_sure 53 = .ok (.goto (-51), 3) := by decide +kernel
theorem dX8_sure_56 : decode cX8_sure 56 = .ok (.iconst 1, 1) := by decide +kernel
theorem dX8_sure_57 : decode cX8_sure 57 = .ok (.ireturn, 1) := by decide +kernel
theorem dX8_lack_0 : decode cX8_lack 0 = .ok (.iconst 0, 1) := by decide +kernel
theorem dX8_lack_1 : decode cX8_lack 1 = .ok (.istore_n 1, 1) := by decide +kernel
theorem dX8_lack_2 : decode cX8_lack 2 = .ok (.iconst 1, 1) := by decide +kernel
theorem dX8_lack_3 : decode cX8_lack 3 = .ok (.aload_n 0, 1) := by decide +kernel
theorem dX8_lack_4 : decode cX8_lack 4 = .ok (.getfield 9, 3) := by decide +kernel
theorem dX8_lack_7 : decode cX8_lack 7 = .ok (.ishl, 1) := by decide +kernel
theorem dX8_lack_8 : decode cX8_lack 8 = .ok (.iconst 1, 1) := by decide +kernel
theorem dX8_lack_9 : decode cX8_lack 9 = .ok (.isub, 1) := by decide +kernel
theorem dX8_lack_10 : decode cX8_lack 10 = .ok (.istore_n 2, 1) := by decide +kernel
theorem dX8_lack_11 : decode cX8_lack 11 = .ok (.iload_n 2, 1) := by decide +kernel
theorem dX8_lack_12 : decode cX8_lack 12 = .ok (.ifCond .le 80, 3) := by decide +kernel
theorem dX8_lack_15 : decode cX8_lack 15 = .ok (.iconst 0, 1) := by decide +kernel
theorem dX8_lack_16 : decode cX8_lack 16 = .ok (.istore_n 3, 1) := by decide +kernel
theorem dX8_lack_17 : decode cX8_lack 17 = .ok (.iconst 0, 1) := by decide +kernel
theorem dX8_lack_18 : decode cX8_lack 18 = .ok (.istore 4, 2) := by decide +kernel
theorem dX8_lack_20 : decode cX8_lack 20 = .ok (.iload 4, 2) := by decide +kernel
theorem dX8_lack_22 : decode cX8_lack 22 = .ok (.aload_n 0, 1) := by decide +kernel
theorem dX8_lack_23 : decode cX8_lack 23 = .ok (.getfield 9, 3) := by decide +kernel
theorem dX8_lack_26 : decode cX8_lack 26 = .ok (.if_icmp .ge 32, 3) := by decide +kernel
theorem dX8_lack_29 : decode cX8_lack 29 = .ok (.iload_n 3, 1) := by decide +kernel
theorem dX8_lack_30 : decode cX8_lack 30 = .ok (.iload_n 2, 1) := by decide +kernel
theorem dX8_lack_31 : decode cX8_lack 31 = .ok (.iload 4, 2) := by decide +kernel
theorem dX8_lack_33 : decode cX8_lack 33 = .ok (.ishr, 1) := by decide +kernel
theorem dX8_lack_34 : decode cX8_lack 34 = .ok (.iconst 1, 1) := by decide +kernel
theorem dX8_lack_35 : decode cX8_lack 35 = .ok (.iand, 1) := by decide +kernel
theorem dX8_lack_36 : decode cX8_lack 36 = .ok (.iconst 1, 1) := by decide +kernel
theorem dX8_lack_37 : decode cX8_lack 37 = .ok (.if_icmp .ne 12, 3) := by decide +kernel
theorem dX8_lack_40 : decode cX8_lack 40 = .ok (.aload_n 0, 1) := by decide +kernel
theorem dX8_lack_41 : decode cX8_lack 41 = .ok (.iload 4, 2) := by decide +kernel
theorem dX8_lack_43 : decode cX8_lack 43 = .ok (.invokevirtual 240, 3) := by decide +kernel
theorem dX8_lack_46 : decode cX8_lack 46 = .ok (.goto 4, 3) := by decide +kernel
theorem dX8_lack_49 : decode cX8_lack 49 = .ok (.iconst 0, 1) := by decide +kernel
theorem dX8_lack_50 : decode cX8_lack 50 = .ok (.ior, 1) := by decide +kernel
theorem dX8_lack_51 : decode cX8_lack 51 = .ok (.istore_n 3, 1) := by decide +kernel
theorem dX8_lack_52 : decode cX8_lack 52 = .ok (.iinc 4 1, 3) := by decide +kernel
theorem dX8_lack_55 : decode cX8_lack 55 = .ok (.goto (-35), 3) := by decide +kernel
theorem dX8_lack_58 : decode cX8_lack 58 = .ok (.iload_n 3, 1) := by decide +kernel
theorem dX8_lack_59 : decode cX8_lack 59 = .ok (.invokestatic 243, 3) := by decide +kernel
theorem dX8_lack_62 : decode cX8_lack 62 = .ok (.iload_n 2, 1) := by decide +kernel
theorem dX8_lack_63 : decode cX8_lack 63 = .ok (.invokestatic 243, 3) := by decide +kernel
theorem dX8_lack_66 : decode cX8_lack 66 = .ok (.if_icmp .ge 20, 3) := by decide +kernel
theorem dX8_lack_69 : decode cX8_lack 69 = .ok (.iload_n 1, 1) := by decide +kernel
theorem dX8_lack_70 : decode cX8_lack 70 = .ok (.ifCond .eq 14, 3) := by decide +kernel
theorem dX8_lack_73 : decode cX8_lack 73 = .ok (.iload_n 2, 1) := by decide +kernel
theorem dX8_lack_74 : decode cX8_lack 74 = .ok (.invokestatic 243, 3) := by decide +kernel
theorem dX8_lack_77 : decode cX8_lack 77 = .ok (.iload_n 1, 1) := by decide +kernel
theorem dX8_lack_78 : decode cX8_lack 78 = .ok (.invokestatic 243, 3) := by decide +kernel
theorem dX8_lack_81 : decode cX8_lack 81 = .ok (.if_icmp .gt 5, 3) := by decide +kernel
theorem dX8_lack_84 : decode cX8_lack 84 = .ok (.iload_n 2, 1) := by decide +kernel
theorem dX8_lack_85 : decode cX8_lack 85 = .ok (.istore_n 1, 1) := by decide +kernel
theorem dX8_lack_86 : decode cX8_lack 86 = .ok (.iinc 2 (-1), 3) := by decide +kernel
theorem dX8_lack_89 : decode cX8_lack 89 = .ok (.goto (-78), 3) := by decide +kernel
theorem dX8_lack_92 : decode cX8_lack 92 = .ok (.iload_n 1, 1) := by decide +kernel
theorem dX8_lack_93 : decode cX8_lack 93 = .ok (.ireturn, 1) := by decide +kernel
theorem dX8_havers_0 : decode cX8_havers 0 = .ok (.iconst 0, 1) := by decide +kernel
theorem dX8_havers_1 : decode cX8_havers 1 = .ok (.istore_n 1, 1) := by decide +kernel
theorem dX8_havers_2 : decode cX8_havers 2 = .ok (.iconst 0, 1) := by decide +kernel
theorem dX8_havers_3 : decode cX8_havers 3 = .ok (.istore_n 2, 1) := by decide +kernel
theorem dX8_havers_4 : decode cX8_havers 4 = .ok (.iload_n 2, 1) := by decide +kernel
theorem dX8_havers_5 : decode cX8_havers 5 = .ok (.aload_n 0, 1) := by decide +kernel
theorem dX8_havers_6 : decode cX8_havers 6 = .ok (.getfield 9, 3) := by decide +kernel
theorem dX8_havers_9 : decode cX8_havers 9 = .ok (.if_icmp .ge 26, 3) := by decide +kernel
theorem dX8_havers_12 : decode cX8_havers 12 = .ok (.iload_n 1, 1) := by decide +kernel
theorem dX8_havers_13 : decode cX8_havers 13 = .ok (.aload_n 0, 1) := by decide +kernel
theorem dX8_havers_14 : decode cX8_havers 14 = .ok (.getfield 22, 3) := by decide +kernel
theorem dX8_havers_17 : decode cX8_havers 17 = .ok (.iload_n 2, 1) := by decide +kernel
theorem dX8_havers_18 : decode cX8_havers 18 = .ok (.iaload, 1) := by decide +kernel
theorem dX8_havers_19 : decode cX8_havers 19 = .ok (.ifCond .ge 7, 3) := by decide +kernel
theorem dX8_havers_22 : decode cX8_havers 22 = .ok (.iconst 0, 1) := by decide +kernel
theorem dX8_havers_23 : decode cX8_havers 23 = .ok (.goto 4, 3) := by decide +kernel
theorem dX8_havers_26 : decode cX8_havers 26 = .ok (.iconst 1, 1) := by decide +kernel
theorem dX8_havers_27 : decode cX8_havers 27 = .ok (.iadd, 1) := by decide +kernel
theorem dX8_havers_28 : decode cX8_havers 28 = .ok (.istore_n 1, 1) := by decide +kernel
theorem dX8_havers_29 : decode cX8_havers 29 = .ok (.iinc 2 1, 3) := by decide +kernel
theorem dX8_havers_32 : decode cX8_havers 32 = .ok (.goto (-28), 3) := by decide +kernel
theorem dX8_havers_35 : decode cX8_havers 35 = .ok (.iload_n 1, 1) := by decide +kernel
theorem dX8_havers_36 : decode cX8_havers 36 = .ok (.ireturn, 1) := by decide +kernel
theorem dX8_told_0 : decode cX8_told 0 = .ok (.iload_n 1, 1) := by decide +kernel
theorem dX8_told_1 : decode cX8_told 1 = .ok (.tableswitch 133 0 9 #[55, 60, 65, 70, 75, 80, 85, 102, 123, 128], 55) := by decide +kernel
theorem dX8_told_56 : decode cX8_told 56 = .ok (.aload_n 0, 1) := by decide +kernel
theorem dX8_told_57 : decode cX8_told 57 = .ok (.getfield 9, 3) := by decide +kernel
theorem dX8_told_60 : decode cX8_told 60 = .ok (.ireturn, 1) := by decide +kernel
theorem dX8_told_61 : decode cX8_told 61 = .ok (.aload_n 0, 1) := by decide +kernel
theorem dX8_told_62 : decode cX8_told 62 = .ok (.getfield 15, 3) := by decide +kernel
theorem dX8_told_65 : decode cX8_told 65 = .ok (.ireturn, 1) := by decide +kernel
theorem dX8_told_66 : decode cX8_told 66 = .ok (.aload_n 0, 1) := by decide +kernel
theorem dX8_told_67 : decode cX8_told 67 = .ok (.invokevirtual 254, 3) := by decide +kernel
theorem dX8_told_70 : decode cX8_told 70 = .ok (.ireturn, 1) := by decide +kernel
theorem dX8_told_71 : decode cX8_told 71 = .ok (.aload_n 0, 1) := by decide +kernel
theorem dX8_told_72 : decode cX8_told 72 = .ok (.invokevirtual 257, 3) := by decide +kernel
theorem dX8_told_75 : decode cX8_told 75 = .ok (.ireturn, 1) := by decide +kernel
theorem dX8_told_76 : decode cX8_told 76 = .ok (.aload_n 0, 1) := by decide +kernel
theorem dX8_told_77 : decode cX8_told 77 = .ok (.invokevirtual 260, 3) := by decide +kernel
theorem dX8_told_80 : decode cX8_told 80 = .ok (.ireturn, 1) := by decide +kernel
theorem dX8_told_81 : decode cX8_told 81 = .ok (.aload_n 0, 1) := by decide +kernel
theorem dX8_told_82 : decode cX8_told 82 = .ok (.invokevirtual 263, 3) := by decide +kernel
theorem dX8_told_85 : decode cX8_told 85 = .ok (.ireturn, 1) := by decide +kernel
theorem dX8_told_86 : decode cX8_told 86 = .ok (.aload_n 0, 1) := by decide +kernel
theorem dX8_told_87 : decode cX8_told 87 = .ok (.invokevirtual 221, 3) := by decide +kernel
theorem dX8_told_90 : decode cX8_told 90 = .ok (.ifCond .ge 8, 3) := by decide +kernel
theorem dX8_told_93 : decode cX8_told 93 = .ok (.bipush (-5), 2) := by decide +kernel
theorem dX8_told_95 : decode cX8_told 95 = .ok (.goto 7, 3) := by decide +kernel
theorem dX8_told_98 : decode cX8_told 98 = .ok (.aload_n 0, 1) := by decide +kernel
theorem dX8_told_99 : decode cX8_told 99 = .ok (.invokevirtual 221, 3) := by decide +kernel
theorem dX8_told_102 : decode cX8_told 102 = .ok (.ireturn, 1) := by decide +kernel
theorem dX8_told_103 : decode cX8_told 103 = .ok (.aload_n 0, 1) := by decide +kernel
theorem dX8_told_104 : decode cX8_told 104 = .ok (.invokevirtual 221, 3) := by decide +kernel
theorem dX8_told_107 : decode cX8_told 107 = .ok (.ifCond .ge 8, 3) := by decide +kernel
theorem dX8_told_110 : decode cX8_told 110 = .ok (.bipush (-5), 2) := by decide +kernel
theorem dX8_told_112 : decode cX8_told 112 = .ok (.goto 11, 3) := by decide +kernel
theorem dX8_told_115 : decode cX8_told 115 = .ok (.aload_n 0, 1) := by decide +kernel
theorem dX8_told_116 : decode cX8_told 116 = .ok (.aload_n 0, 1) := by decide +kernel
theorem dX8_told_117 : decode cX8_told 117 = .ok (.invokevirtual 221, 3) := by decide +kernel
theorem dX8_told_120 : decode cX8_told 120 = .ok (.invokevirtual 152, 3) := by decide +kernel
theorem dX8_told_123 : decode cX8_told 123 = .ok (.ireturn, 1) := by decide +kernel
theorem dX8_told_124 : decode cX8_told 124 = .ok (.aload_n 0, 1) := by decide +kernel
theorem dX8_told_125 : decode cX8_told 125 = .ok (.invokevirtual 266, 3) := by decide +kernel
theorem dX8_told_128 : decode cX8_told 128 = .ok (.ireturn, 1) := by decide +kernel
theorem dX8_told_129 : decode cX8_told 129 = .ok (.aload_n 0, 1) := by decide +kernel
theorem dX8_told_130 : decode cX8_told 130 = .ok (.invokevirtual 269, 3) := by decide +kernel
theorem dX8_told_133 : decode cX8_told 133 = .ok (.ireturn, 1) := by decide +kernel
theorem dX8_told_134 : decode cX8_told 134 = .ok (.iconst (-1), 1) := by decide +kernel
theorem dX8_told_135 : decode cX8_told 135 = .ok (.ireturn, 1) := by decide +kernel
theorem dX8_see_0 : decode cX8_see 0 = .ok (.iload_n 1, 1) := by decide +kernel
theorem dX8_see_1 : decode cX8_see 1 = .ok (.iconst (-1), 1) := by decide +kernel
theorem dX8_see_2 : decode cX8_see 2 = .ok (.if_icmp .ne 10, 3) := by decide +kernel
theorem dX8_see_5 : decode cX8_see 5 = .ok (.aload_n 0, 1) := by decide +kernel
theorem dX8_see_6 : decode cX8_see 6 = .ok (.iconst 0, 1) := by decide +kernel
theorem dX8_see_7 : decode cX8_see 7 = .ok (.putfield 111, 3) := by decide +kernel
theorem dX8_see_10 : decode cX8_see 10 = .ok (.iconst 0, 1) := by decide +kernel
theorem dX8_see_11 : decode cX8_see 11 = .ok (.ireturn, 1) := by decide +kernel
theorem dX8_see_12 : decode cX8_see 12 = .ok (.aload_n 0, 1) := by decide +kernel
theorem dX8_see_13 : decode cX8_see 13 = .ok (.iload_n 1, 1) := by decide +kernel
theorem dX8_see_14 : decode cX8_see 14 = .ok (.iload_n 2, 1) := by decide +kernel
theorem dX8_see_15 : decode cX8_see 15 = .ok (.invokevirtual 164, 3) := by decide +kernel
theorem dX8_see_18 : decode cX8_see 18 = .ok (.ifCond .ne 5, 3) := by decide +kernel
theorem dX8_see_21 : decode cX8_see 21 = .ok (.iconst (-1), 1) := by decide +kernel
theorem dX8_see_22 : decode cX8_see 22 = .ok (.ireturn, 1) := by decide +kernel
theorem dX8_see_23 : decode cX8_see 23 = .ok (.aload_n 0, 1) := by decide +kernel
theorem dX8_see_24 : decode cX8_see 24 = .ok (.getfield 111, 3) := by decide +kernel
theorem dX8_see_27 : decode cX8_see 27 = .ok (.iconst 5, 1) := by decide +kernel
theorem dX8_see_28 : decode cX8_see 28 = .ok (.if_icmp .ne 6, 3) := by decide +kernel
theorem dX8_see_31 : decode cX8_see 31 = .ok (.bipush (-4), 2) := by decide +kernel
theorem dX8_see_33 : decode cX8_see 33 = .ok (.ireturn, 1) := by decide +kernel
theorem dX8_see_34 : decode cX8_see 34 = .ok (.aload_n 0, 1) := by decide +kernel
theorem dX8_see_35 : decode cX8_see 35 = .ok (.getfield 31, 3) := by decide +kernel
theorem dX8_see_38 : decode cX8_see 38 = .ok (.aload_n 0, 1) := by decide +kernel
theorem dX8_see_39 : decode cX8_see 39 = .ok (.getfield 111, 3) := by decide +kernel
theorem dX8_see_42 : decode cX8_see 42 = .ok (.iload_n 1, 1) := by decide +kernel
theorem dX8_see_43 : decode cX8_see 43 = .ok (.iastore, 1) := by decide +kernel
theorem dX8_see_44 : decode cX8_see 44 = .ok (.aload_n 0, 1) := by decide +kernel
theorem dX8_see_45 : decode cX8_see 45 = .ok (.getfield 34, 3) := by decide +kernel
theorem dX8_see_48 : decode cX8_see 48 = .ok (.aload_n 0, 1) := by decide +kernel
theorem dX8_see_49 : decode cX8_see 49 = .ok (.getfield 111, 3) := by decide +kernel
theorem dX8_see_52 : decode cX8_see 52 = .ok (.iload_n 2, 1) := by decide +kernel
theorem dX8_see_53 : decode cX8_see 53 = .ok (.iastore, 1) := by decide +kernel
theorem dX8_see_54 : decode cX8_see 54 = .ok (.aload_n 0, 1) := by decide +kernel
theorem dX8_see_55 : decode cX8_see 55 = .ok (.dup, 1) := by decide +kernel
theorem dX8_see_56 : decode cX8_see 56 = .ok (.getfield 111, 3) := by decide +kernel
theorem dX8_see_59 : decode cX8_see 59 = .ok (.iconst 1, 1) := by decide +kernel
theorem dX8_see_60 : decode cX8_see 60 = .ok (.iadd, 1) := by decide +kernel
theorem dX8_see_61 : decode cX8_see 61 = .ok (.putfield 111, 3) := by decide +kernel
theorem dX8_see_64 : decode cX8_see 64 = .ok (.aload_n 0, 1) := by decide +kernel
theorem dX8_see_65 : decode cX8_see 65 = .ok (.getfield 111, 3) := by decide +kernel
theorem dX8_see_68 : decode cX8_see 68 = .ok (.ireturn, 1) := by decide +kernel
theorem dX8_isAllSeen_0 : decode cX8_isAllSeen 0 = .ok (.iconst 0, 1) := by decide +kernel
theorem dX8_isAllSeen_1 : decode cX8_isAllSeen 1 = .ok (.istore_n 1, 1) := by decide +kernel
theorem dX8_isAllSeen_2 : decode cX8_isAllSeen 2 = .ok (.iload_n 1, 1) := by decide +kernel
theorem dX8_isAllSeen_3 : decode cX8_isAllSeen 3 = .ok (.aload_n 0, 1) := by decide +kernel
theorem dX8_isAllSeen_4 : decode cX8_isAllSeen 4 = .ok (.getfield 111, 3) := by decide +kernel
theorem dX8_isAllSeen_7 : decode cX8_isAllSeen 7 = .ok (.if_icmp .ge 31, 3) := by decide +kernel
theorem dX8_isAllSeen_10 : decode cX8_isAllSeen 10 = .ok (.aload_n 0, 1) := by decide +kernel
theorem dX8_isAllSeen_11 : decode cX8_isAllSeen 11 = .ok (.getfield 22, 3) := by decide +kernel
theorem dX8_isAllSeen_14 : decode cX8_isAllSeen 14 = .ok (.aload_n 0, 1) := by decide +kernel
theorem dX8_isAllSeen_15 : decode cX8_isAllSeen 15 = .ok (.getfield 31, 3) := by decide +kernel
theorem dX8_isAllSeen_18 : decode cX8_isAllSeen 18 = .ok (.iload_n 1, 1) := by decide +kernel
theorem dX8_isAllSeen_19 : decode cX8_isAllSeen 19 = .ok (.iaload, 1) := by decide +kernel
theorem dX8_isAllSeen_20 : decode cX8_isAllSeen 20 = .ok (.iaload, 1) := by decide +kernel
theorem dX8_isAllSeen_21 : decode cX8_isAllSeen 21 = .ok (.aload_n 0, 1) := by decide +kernel
theorem dX8_isAllSeen_22 : decode cX8_isAllSeen 22 = .ok (.getfield 34, 3) := by decide +kernel
theorem dX8_isAllSeen_25 : decode cX8_isAllSeen 25 = .ok (.iload_n 1, 1) := by decide +kernel
theorem dX8_isAllSeen_26 : decode cX8_isAllSeen 26 = .ok (.iaload, 1) := by decide +kernel
theorem dX8_isAllSeen_27 : decode cX8_isAllSeen 27 = .ok (.if_icmp .eq 5, 3) := by decide +kernel
theorem dX8_isAllSeen_30 : decode cX8_isAllSeen 30 = .ok (.iconst 0, 1) := by decide +kernel
theorem dX8_isAllSeen_31 : decode cX8_isAllSeen 31 = .ok (.ireturn, 1) := by decide +kernel
theorem dX8_isAllSeen_32 : decode cX8_isAllSeen 32 = .ok (.iinc 1 1, 3) := by decide +kernel
theorem dX8_isAllSeen_35 : decode cX8_isAllSeen 35 = .ok (.goto (-33), 3) := by decide +kernel
theorem dX8_isAllSeen_38 : decode cX8_isAllSeen 38 = .ok (.iconst 1, 1) := by decide +kernel
theorem dX8_isAllSeen_39 : decode cX8_isAllSeen 39 = .ok (.ireturn, 1) := by decide +kernel
theorem dX8_triesAuction_0 : decode cX8_triesAuction 0 = .ok (.aload_n 0, 1) := by decide +kernel
theorem dX8_triesAuction_1 : decode cX8_triesAuction 1 = .ok (.invokevirtual 88, 3) := by decide +kernel
theorem dX8_triesAuction_4 : decode cX8_triesAuction 4 = .ok (.pop, 1) := by decide +kernel
theorem dX8_triesAuction_5 : decode cX8_triesAuction 5 = .ok (.aload_n 0, 1) := by decide +kernel
theorem dX8_triesAuction_6 : decode cX8_triesAuction 6 = .ok (.invokevirtual 161, 3) := by decide +kernel
theorem dX8_triesAuction_9 : decode cX8_triesAuction 9 = .ok (.aload_n 0, 1) := by decide +kernel
theorem dX8_triesAuction_10 : decode cX8_triesAuction 10 = .ok (.invokevirtual 230, 3) := by decide +kernel
theorem dX8_triesAuction_13 : decode cX8_triesAuction 13 = .ok (.pop, 1) := by decide +kernel
theorem dX8_triesAuction_14 : decode cX8_triesAuction 14 = .ok (.return_, 1) := by decide +kernel
theorem dX8_fits_0 : decode cX8_fits 0 = .ok (.aload_n 0, 1) := by decide +kernel
theorem dX8_fits_1 : decode cX8_fits 1 = .ok (.iload_n 1, 1) := by decide +kernel
theorem dX8_fits_2 : decode cX8_fits 2 = .ok (.iload_n 2, 1) := by decide +kernel
theorem dX8_fits_3 : decode cX8_fits 3 = .ok (.invokevirtual 164, 3) := by decide +kernel
theorem dX8_fits_6 : decode cX8_fits 6 = .ok (.ifCond .eq 13, 3) := by decide +kernel
theorem dX8_fits_9 : decode cX8_fits 9 = .ok (.iload_n 3, 1) := by decide +kernel
theorem dX8_fits_10 : decode cX8_fits 10 = .ok (.i2l, 1) := by decide +kernel
theorem dX8_fits_11 : decode cX8_fits 11 = .ok (.lconst 0, 1) := by decide +kernel
theorem dX8_fits_12 : decode cX8_fits 12 = .ok (.lconst 1, 1) := by decide +kernel
theorem dX8_fits_13 : decode cX8_fits 13 = .ok (.invokestatic 92, 3) := by decide +kernel
theorem dX8_fits_16 : decode cX8_fits 16 = .ok (.ifCond .ne 5, 3) := by decide +kernel
theorem dX8_fits_19 : decode cX8_fits 19 = .ok (.iconst (-1), 1) := by decide +kernel
theorem dX8_fits_20 : decode cX8_fits 20 = .ok (.ireturn, 1) := by decide +kernel
theorem dX8_fits_21 : decode cX8_fits 21 = .ok (.aload_n 0, 1) := by decide +kernel
theorem dX8_fits_22 : decode cX8_fits 22 = .ok (.getfield 18, 3) := by decide +kernel
theorem dX8_fits_25 : decode cX8_fits 25 = .ok (.bipush 8, 2) := by decide +kernel
theorem dX8_fits_27 : decode cX8_fits 27 = .ok (.iload_n 1, 1) := by decide +kernel
theorem dX8_fits_28 : decode cX8_fits 28 = .ok (.imul, 1) := by decide +kernel
theorem dX8_fits_29 : decode cX8_fits 29 = .ok (.iload_n 2, 1) := by decide +kernel
theorem dX8_fits_30 : decode cX8_fits 30 = .ok (.iadd, 1) := by decide +kernel
theorem dX8_fits_31 : decode cX8_fits 31 = .ok (.iaload, 1) := by decide +kernel
theorem dX8_fits_32 : decode cX8_fits 32 = .ok (.istore 4, 2) := by decide +kernel
theorem dX8_fits_34 : decode cX8_fits 34 = .ok (.iconst 0, 1) := by decide +kernel
theorem dX8_fits_35 : decode cX8_fits 35 = .ok (.istore 5, 2) := by decide +kernel
theorem dX8_fits_37 : decode cX8_fits 37 = .ok (.bipush (-5), 2) := by decide +kernel
theorem dX8_fits_39 : decode cX8_fits 39 = .ok (.istore 6, 2) := by decide +kernel
theorem dX8_fits_41 : decode cX8_fits 41 = .ok (.aload_n 0, 1) := by decide +kernel
theorem dX8_fits_42 : decode cX8_fits 42 = .ok (.invokevirtual 272, 3) := by decide +kernel
theorem dX8_fits_45 : decode cX8_fits 45 = .ok (.bipush 90, 2) := by decide +kernel
theorem dX8_fits_47 : decode cX8_fits 47 = .ok (.istore 7, 2) := by decide +kernel
theorem dX8_fits_49 : decode cX8_fits 49 = .ok (.iload 7, 2) := by decide +kernel
theorem dX8_fits_51 : decode cX8_fits 51 = .ok (.ifCond .lt 59, 3) := by decide +kernel
theorem dX8_fits_54 : decode cX8_fits 54 = .ok (.aload_n 0, 1) := by decide +kernel
theorem dX8_fits_55 : decode cX8_fits 55 = .ok (.getfield 18, 3) := by decide +kernel
theorem dX8_fits_58 : decode cX8_fits 58 = .ok (.bipush 8, 2) := by decide +kernel
theorem dX8_fits_60 : decode cX8_fits 60 = .ok (.iload_n 1, 1) := by decide +kernel
theorem dX8_fits_61 : decode cX8_fits 61 = .ok (.imul, 1) := by decide +kernel
theorem dX8_fits_62 : decode cX8_fits 62 = .ok (.iload_n 2, 1) := by decide +kernel
theorem dX8_fits_63 : decode cX8_fits 63 = .ok (.iadd, 1) := by decide +kernel
theorem dX8_fits_64 : decode cX8_fits 64 = .ok (.iload 7, 2) := by decide +kernel
theorem dX8_fits_66 : decode cX8_fits 66 = .ok (.iastore, 1) := by decide +kernel
theorem dX8_fits_67 : decode cX8_fits 67 = .ok (.aload_n 0, 1) := by decide +kernel
theorem dX8_fits_68 : decode cX8_fits 68 = .ok (.invokevirtual 275, 3) := by decide +kernel
theorem dX8_fits_71 : decode cX8_fits 71 = .ok (.iload 5, 2) := by decide +kernel
theorem dX8_fits_73 : decode cX8_fits 73 = .ok (.aload_n 0, 1) := by decide +kernel
theorem dX8_fits_74 : decode cX8_fits 74 = .ok (.invokevirtual 278, 3) := by decide +kernel
theorem dX8_fits_77 : decode cX8_fits 77 = .ok (.ifCond .eq 7, 3) := by decide +kernel
theorem dX8_fits_80 : decode cX8_fits 80 = .ok (.iconst 1, 1) := by decide +kernel
theorem dX8_fits_81 : decode cX8_fits 81 = .ok (.goto 4, 3) := by decide +kernel
theorem dX8_fits_84 : decode cX8_fits 84 = .ok (.iconst 0, 1) := by decide +kernel
theorem dX8_fits_85 : decode cX8_fits 85 = .ok (.iadd, 1) := by decide +kernel
theorem dX8_fits_86 : decode cX8_fits 86 = .ok (.istore 5, 2) := by decide +kernel
theorem dX8_fits_88 : decode cX8_fits 88 = .ok (.aload_n 0, 1) := by decide +kernel
theorem dX8_fits_89 : decode cX8_fits 89 = .ok (.invokevirtual 278, 3) := by decide +kernel
theorem dX8_fits_92 : decode cX8_fits 92 = .ok (.ifCond .eq 8, 3) := by decide +kernel
theorem dX8_fits_95 : decode cX8_fits 95 = .ok (.iload 7, 2) := by decide +kernel
theorem dX8_fits_97 : decode cX8_fits 97 = .ok (.goto 5, 3) := by decide +kernel
theorem dX8_fits_100 : decode cX8_fits 100 = .ok (.iload 6, 2) := by decide +kernel
theorem dX8_fits_102 : decode cX8_fits 102 = .ok (.istore 6, 2) := by decide +kernel
theorem dX8_fits_104 : decode cX8_fits 104 = .ok (.iinc 7 (-10), 3) := by decide +kernel
theorem dX8_fits_107 : decode cX8_fits 107 = .ok (.goto (-58), 3) := by decide +kernel
theorem dX8_fits_110 : decode cX8_fits 110 = .ok (.aload_n 0, 1) := by decide +kernel
theorem dX8_fits_111 : decode cX8_fits 111 = .ok (.getfield 18, 3) := by decide +kernel
theorem dX8_fits_114 : decode cX8_fits 114 = .ok (.bipush 8, 2) := by decide +kernel
theorem dX8_fits_116 : decode cX8_fits 116 = .ok (.iload_n 1, 1) := by decide +kernel
theorem dX8_fits_117 : decode cX8_fits 117 = .ok (.imul, 1) := by decide +kernel
theorem dX8_fits_118 : decode cX8_fits 118 = .ok (.iload_n 2, 1) := by decide +kernel
theorem dX8_fits_119 : decode cX8_fits 119 = .ok (.iadd, 1) := by decide +kernel
theorem dX8_fits_120 : decode cX8_fits 120 = .ok (.iload 4, 2) := by decide +kernel
theorem dX8_fits_122 : decode cX8_fits 122 = .ok (.iastore, 1) := by decide +kernel
theorem dX8_fits_123 : decode cX8_fits 123 = .ok (.aload_n 0, 1) := by decide +kernel
theorem dX8_fits_124 : decode cX8_fits 124 = .ok (.invokevirtual 282, 3) := by decide +kernel
theorem dX8_fits_127 : decode cX8_fits 127 = .ok (.iload_n 3, 1) := by decide +kernel
theorem dX8_fits_128 : decode cX8_fits 128 = .ok (.ifCond .ne 8, 3) := by decide +kernel
theorem dX8_fits_131 : decode cX8_fits 131 = .ok (.iload 5, 2) := by decide +kernel
theorem dX8_fits_133 : decode cX8_fits 133 = .ok (.goto 5, 3) := by decide +kernel
theorem dX8_fits_136 : decode cX8_fits 136 = .ok (.iload 6, 2) := by decide +kernel
theorem dX8_fits_138 : decode cX8_fits 138 = .ok (.ireturn, 1) := by decide +kernel
theorem dX8_lowest_0 : decode cX8_lowest 0 = .ok (.lload_n 0, 1) := by decide +kernel
theorem dX8_lowest_1 : decode cX8_lowest 1 = .ok (.lstore 5, 2) := by decide +kernel
theorem dX8_lowest_3 : decode cX8_lowest 3 = .ok (.lload_n 2, 1) := by decide +kernel
theorem dX8_lowest_4 : decode cX8_lowest 4 = .ok (.lstore 7, 2) := by decide +kernel
theorem dX8_lowest_6 : decode cX8_lowest 6 = .ok (.lload 7, 2) := by decide +kernel
theorem dX8_lowest_8 : decode cX8_lowest 8 = .ok (.lconst 0, 1) := by decide +kernel
theorem dX8_lowest_9 : decode cX8_lowest 9 = .ok (.lcmp, 1) := by decide +kernel
theorem dX8_lowest_10 : decode cX8_lowest 10 = .ok (.ifCond .eq 21, 3) := by decide +kernel
theorem dX8_lowest_13 : decode cX8_lowest 13 = .ok (.lload 5, 2) := by decide +kernel
theorem dX8_lowest_15 : decode cX8_lowest 15 = .ok (.lload 7, 2) := by decide +kernel
theorem dX8_lowest_17 : decode cX8_lowest 17 = .ok (.lrem, 1) := by decide +kernel
theorem dX8_lowest_18 : decode cX8_lowest 18 = .ok (.lstore 9, 2) := by decide +kernel
theorem dX8_lowest_20 : decode cX8_lowest 20 = .ok (.lload 7, 2) := by decide +kernel
theorem dX8_lowest_22 : decode cX8_lowest 22 = .ok (.lstore 5, 2) := by decide +kernel
theorem dX8_lowest_24 : decode cX8_lowest 24 = .ok (.lload 9, 2) := by decide +kernel
theorem dX8_lowest_26 : decode cX8_lowest 26 = .ok (.lstore 7, 2) := by decide +kernel
theorem dX8_lowest_28 : decode cX8_lowest 28 = .ok (.goto (-22), 3) := by decide +kernel
theorem dX8_lowest_31 : decode cX8_lowest 31 = .ok (.iload 4, 2) := by decide +kernel
theorem dX8_lowest_33 : decode cX8_lowest 33 = .ok (.ifCond .ne 7, 3) := by decide +kernel
theorem dX8_lowest_36 : decode cX8_lowest 36 = .ok (.lload_n 0, 1) := by decide +kernel
theorem dX8_lowest_37 : decode cX8_lowest 37 = .ok (.goto 4, 3) := by decide +kernel
theorem dX8_lowest_40 : decode cX8_lowest 40 = .ok (.lload_n 2, 1) := by decide +kernel
theorem dX8_lowest_41 : decode cX8_lowest 41 = .ok (.lload 5, 2) := by decide +kernel
theorem dX8_lowest_43 : decode cX8_lowest 43 = .ok (.ldiv, 1) := by decide +kernel
theorem dX8_lowest_44 : decode cX8_lowest 44 = .ok (.lreturn, 1) := by decide +kernel
theorem dX8_odds_0 : decode cX8_odds 0 = .ok (.aload_n 0, 1) := by decide +kernel
theorem dX8_odds_1 : decode cX8_odds 1 = .ok (.iload_n 1, 1) := by decide +kernel
theorem dX8_odds_2 : decode cX8_odds 2 = .ok (.invokevirtual 96, 3) := by decide +kernel
theorem dX8_odds_5 : decode cX8_odds 5 = .ok (.ifCond .eq 13, 3) := by decide +kernel
theorem dX8_odds_8 : decode cX8_odds 8 = .ok (.iload_n 2, 1) := by decide +kernel
theorem dX8_odds_9 : decode cX8_odds 9 = .ok (.i2l, 1) := by decide +kernel
theorem dX8_odds_10 : decode cX8_odds 10 = .ok (.lconst 0, 1) := by decide +kernel
theorem dX8_odds_11 : decode cX8_odds 11 = .ok (.lconst 1, 1) := by decide +kernel
theorem dX8_odds_12 : decode cX8_odds 12 = .ok (.invokestatic 92, 3) := by decide +kernel
theorem dX8_odds_15 : decode cX8_odds 15 = .ok (.ifCond .ne 7, 3) := by decide +kernel
theorem dX8_odds_18 : decode cX8_odds 18 = .ok (.ldc2_w 233, 3) := by decide +kernel
theorem dX8_odds_21 : decode cX8_odds 21 = .ok (.lreturn, 1) := by decide +kernel
theorem dX8_odds_22 : decode cX8_odds 22 = .ok (.aload_n 0, 1) := by decide +kernel
theorem dX8_odds_23 : decode cX8_odds 23 = .ok (.getfield 22, 3) := by decide +kernel
theorem dX8_odds_26 : decode cX8_odds 26 = .ok (.iload_n 1, 1) := by decide +kernel
theorem dX8_odds_27 : decode cX8_odds 27 = .ok (.iaload, 1) := by decide +kernel
theorem dX8_odds_28 : decode cX8_odds 28 = .ok (.istore_n 3, 1) := by decide +kernel
theorem dX8_odds_29 : decode cX8_odds 29 = .ok (.iconst 0, 1) := by decide +kernel
theorem dX8_odds_30 : decode cX8_odds 30 = .ok (.istore 4, 2) := by decide +kernel
theorem dX8_odds_32 : decode cX8_odds 32 = .ok (.aload_n 0, 1) := by decide +kernel
theorem dX8_odds_33 : decode cX8_odds 33 = .ok (.invokevirtual 272, 3) := by decide +kernel
theorem dX8_odds_36 : decode cX8_odds 36 = .ok (.iconst 1, 1) := by decide +kernel
theorem dX8_odds_37 : decode cX8_odds 37 = .ok (.istore 5, 2) := by decide +kernel
theorem dX8_odds_39 : decode cX8_odds 39 = .ok (.iload 5, 2) := by decide +kernel
theorem dX8_odds_41 : decode cX8_odds 41 = .ok (.bipush 50, 2) := by decide +kernel
theorem dX8_odds_43 : decode cX8_odds 43 = .ok (.if_icmp .ge 39, 3) := by decide +kernel
theorem dX8_odds_46 : decode cX8_odds 46 = .ok (.aload_n 0, 1) := by decide +kernel
theorem dX8_odds_47 : decode cX8_odds 47 = .ok (.iload 5, 2) := by decide +kernel
theorem dX8_odds_49 : decode cX8_odds 49 = .ok (.putfield 15, 3) := by decide +kernel
theorem dX8_odds_52 : decode cX8_odds 52 = .ok (.aload_n 0, 1) := by decide +kernel
theorem dX8_odds_53 : decode cX8_odds 53 = .ok (.invokevirtual 275, 3) := by decide +kernel
theorem dX8_odds_56 : decode cX8_odds 56 = .ok (.iload 4, 2) := by decide +kernel
theorem dX8_odds_58 : decode cX8_odds 58 = .ok (.aload_n 0, 1) := by decide +kernel
theorem dX8_odds_59 : decode cX8_odds 59 = .ok (.getfield 22, 3) := by decide +kernel
theorem dX8_odds_62 : decode cX8_odds 62 = .ok (.iload_n 1, 1) := by decide +kernel
theorem dX8_odds_63 : decode cX8_odds 63 = .ok (.iaload, 1) := by decide +kernel
theorem dX8_odds_64 : decode cX8_odds 64 = .ok (.iload_n 3, 1) := by decide +kernel
theorem dX8_odds_65 : decode cX8_odds 65 = .ok (.if_icmp .ne 7, 3) := by decide +kernel
theorem dX8_odds_68 : decode cX8_odds 68 = .ok (.iconst 1, 1) := by decide +kernel
theorem dX8_odds_69 : decode cX8_odds 69 = .ok (.goto 4, 3) := by decide +kernel
theorem dX8_odds_72 : decode cX8_odds 72 = .ok (.iconst 0, 1) := by decide +kernel
theorem dX8_odds_73 : decode cX8_odds 73 = .ok (.iadd, 1) := by decide +kernel
theorem dX8_odds_74 : decode cX8_odds 74 = .ok (.istore 4, 2) := by decide +kernel
theorem dX8_odds_76 : decode cX8_odds 76 = .ok (.iinc 5 5, 3) := by decide +kernel
theorem dX8_odds_79 : decode cX8_odds 79 = .ok (.goto (-40), 3) := by decide +kernel
theorem dX8_odds_82 : decode cX8_odds 82 = .ok (.aload_n 0, 1) := by decide +kernel
theorem dX8_odds_83 : decode cX8_odds 83 = .ok (.invokevirtual 282, 3) := by decide +kernel
theorem dX8_odds_86 : decode cX8_odds 86 = .ok (.iload 4, 2) := by decide +kernel
theorem dX8_odds_88 : decode cX8_odds 88 = .ok (.i2l, 1) := by decide +kernel
theorem dX8_odds_89 : decode cX8_odds 89 = .ok (.ldc2_w 285, 3) := by decide +kernel
theorem dX8_odds_92 : decode cX8_odds 92 = .ok (.iload_n 2, 1) := by decide +kernel
theorem dX8_odds_93 : decode cX8_odds 93 = .ok (.invokestatic 287, 3) := by decide +kernel
theorem dX8_odds_96 : decode cX8_odds 96 = .ok (.lreturn, 1) := by decide +kernel
theorem dX8_mean_0 : decode cX8_mean 0 = .ok (.iload_n 1, 1) := by decide +kernel
theorem dX8_mean_1 : decode cX8_mean 1 = .ok (.i2l, 1) := by decide +kernel
theorem dX8_mean_2 : decode cX8_mean 2 = .ok (.lconst 0, 1) := by decide +kernel
theorem dX8_mean_3 : decode cX8_mean 3 = .ok (.lconst 1, 1) := by decide +kernel
theorem dX8_mean_4 : decode cX8_mean 4 = .ok (.invokestatic 92, 3) := by decide +kernel
theorem dX8_mean_7 : decode cX8_mean 7 = .ok (.ifCond .eq 20, 3) := by decide +kernel
theorem dX8_mean_10 : decode cX8_mean 10 = .ok (.aload_n 0, 1) := by decide +kernel
theorem dX8_mean_11 : decode cX8_mean 11 = .ok (.invokevirtual 269, 3) := by decide +kernel
theorem dX8_mean_14 : decode cX8_mean 14 = .ok (.i2l, 1) := by decide +kernel
theorem dX8_mean_15 : decode cX8_mean 15 = .ok (.aload_n 0, 1) := by decide +kernel
theorem dX8_mean_16 : decode cX8_mean 16 = .ok (.getfield 9, 3) := by decide +kernel
theorem dX8_mean_19 : decode cX8_mean 19 = .ok (.i2l, 1) := by decide +kernel
theorem dX8_mean_20 : decode cX8_mean 20 = .ok (.iload_n 1, 1) := by decide +kernel
theorem dX8_mean_21 : decode cX8_mean 21 = .ok (.invokestatic 287, 3) := by decide +kernel
theorem dX8_mean_24 : decode cX8_mean 24 = .ok (.goto 6, 3) := by decide +kernel
theorem dX8_mean_27 : decode cX8_mean 27 = .ok (.ldc2_w 233, 3) := by decide +kernel
theorem dX8_mean_30 : decode cX8_mean 30 = .ok (.lreturn, 1) := by decide +kernel
theorem dX8_plan_0 : decode cX8_plan 0 = .ok (.iload_n 1, 1) := by decide +kernel
theorem dX8_plan_1 : decode cX8_plan 1 = .ok (.iconst (-1), 1) := by decide +kernel
theorem dX8_plan_2 : decode cX8_plan 2 = .ok (.if_icmp .ne 10, 3) := by decide +kernel
theorem dX8_plan_5 : decode cX8_plan 5 = .ok (.aload_n 0, 1) := by decide +kernel
theorem dX8_plan_6 : decode cX8_plan 6 = .ok (.iconst 0, 1) := by decide +kernel
theorem dX8_plan_7 : decode cX8_plan 7 = .ok (.putfield 114, 3) := by decide +kernel
theorem dX8_plan_10 : decode cX8_plan 10 = .ok (.iconst 0, 1) := by decide +kernel
theorem dX8_plan_11 : decode cX8_plan 11 = .ok (.ireturn, 1) := by decide +kernel
theorem dX8_plan_12 : decode cX8_plan 12 = .ok (.iload_n 1, 1) := by decide +kernel
theorem dX8_plan_13 : decode cX8_plan 13 = .ok (.i2l, 1) := by decide +kernel
theorem dX8_plan_14 : decode cX8_plan 14 = .ok (.lconst 0, 1) := by decide +kernel
theorem dX8_plan_15 : decode cX8_plan 15 = .ok (.ldc2_w 291, 3) := by decide +kernel
theorem dX8_plan_18 : decode cX8_plan 18 = .ok (.invokestatic 92, 3) := by decide +kernel
theorem dX8_plan_21 : decode cX8_plan 21 = .ok (.ifCond .eq 16, 3) := by decide +kernel
theorem dX8_plan_24 : decode cX8_plan 24 = .ok (.iload_n 1, 1) := by decide +kernel
theorem dX8_plan_25 : decode cX8_plan 25 = .ok (.iconst 1, 1) := by decide +kernel
theorem dX8_plan_26 : decode cX8_plan 26 = .ok (.if_icmp .ne 13, 3) := by decide +kernel
theorem dX8_plan_29 : decode cX8_plan 29 = .ok (.aload_n 0, 1) := by decide +kernel
theorem dX8_plan_30 : decode cX8_plan 30 = .ok (.iload_n 2, 1) := by decide +kernel
theorem dX8_plan_31 : decode cX8_plan 31 = .ok (.invokevirtual 96, 3) := by decide +kernel
theorem dX8_plan_34 : decode cX8_plan 34 = .ok (.ifCond .ne 5, 3) := by decide +kernel
theorem dX8_plan_37 : decode cX8_plan 37 = .ok (.iconst (-1), 1) := by decide +kernel
theorem dX8_plan_38 : decode cX8_plan 38 = .ok (.ireturn, 1) := by decide +kernel
theorem dX8_plan_39 : decode cX8_plan 39 = .ok (.iload_n 1, 1) := by decide +kernel
theorem dX8_plan_40 : decode cX8_plan 40 = .ok (.iconst 2, 1) := by decide +kernel
theorem dX8_plan_41 : decode cX8_plan 41 = .ok (.if_icmp .ne 18, 3) := by decide +kernel
theorem dX8_plan_44 : decode cX8_plan 44 = .ok (.iload_n 2, 1) := by decide +kernel
theorem dX8_plan_45 : decode cX8_plan 45 = .ok (.i2l, 1) := by decide +kernel
theorem dX8_plan_46 : decode cX8_plan 46 = .ok (.lconst 1, 1) := by decide +kernel
theorem dX8_plan_47 : decode cX8_plan 47 = .ok (.ldc2_w 175, 3) := by decide +kernel
theorem dX8_plan_50 : decode cX8_plan 50 = .ok (.invokestatic 92, 3) := by decide +kernel
theorem dX8_plan_53 : decode cX8_plan 53 = .ok (.ifCond .ne 6, 3) := by decide +kernel
theorem dX8_plan_56 : decode cX8_plan 56 = .ok (.bipush (-2), 2) := by decide +kernel
theorem dX8_plan_58 : decode cX8_plan 58 = .ok (.ireturn, 1) := by decide +kernel
theorem dX8_plan_59 : decode cX8_plan 59 = .ok (.aload_n 0, 1) := by decide +kernel
theorem dX8_plan_60 : decode cX8_plan 60 = .ok (.getfield 114, 3) := by decide +kernel
theorem dX8_plan_63 : decode cX8_plan 63 = .ok (.bipush 10, 2) := by decide +kernel
theorem dX8_plan_65 : decode cX8_plan 65 = .ok (.if_icmp .ne 6, 3) := by decide +kernel
theorem dX8_plan_68 : decode cX8_plan 68 = .ok (.bipush (-4), 2) := by decide +kernel
theorem dX8_plan_70 : decode cX8_plan 70 = .ok (.ireturn, 1) := by decide +kernel
theorem dX8_plan_71 : decode cX8_plan 71 = .ok (.aload_n 0, 1) := by decide +kernel
theorem dX8_plan_72 : decode cX8_plan 72 = .ok (.getfield 37, 3) := by decide +kernel
theorem dX8_plan_75 : decode cX8_plan 75 = .ok (.aload_n 0, 1) := by decide +kernel
theorem dX8_plan_76 : decode cX8_plan 76 = .ok (.getfield 114, 3) := by decide +kernel
theorem dX8_plan_79 : decode cX8_plan 79 = .ok (.iload_n 1, 1) := by decide +kernel
theorem dX8_plan_80 : decode cX8_plan 80 = .ok (.iastore, 1) := by decide +kernel
theorem dX8_plan_81 : decode cX8_plan 81 = .ok (.aload_n 0, 1) := by decide +kernel
theorem dX8_plan_82 : decode cX8_plan 82 = .ok (.getfield 40, 3) := by decide +kernel
theorem dX8_plan_85 : decode cX8_plan 85 = .ok (.aload_n 0, 1) := by decide +kernel
theorem dX8_plan_86 : decode cX8_plan 86 = .ok (.getfield 114, 3) := by decide +kernel
theorem dX8_plan_89 : decode cX8_plan 89 = .ok (.iload_n 2, 1) := by decide +kernel
theorem dX8_plan_90 : decode cX8_plan 90 = .ok (.iastore, 1) := by decide +kernel
theorem dX8_plan_91 : decode cX8_plan 91 = .ok (.aload_n 0, 1) := by decide +kernel
theorem dX8_plan_92 : decode cX8_plan 92 = .ok (.dup, 1) := by decide +kernel
theorem dX8_plan_93 : decode cX8_plan 93 = .ok (.getfield 114, 3) := by decide +kernel
theorem dX8_plan_96 : decode cX8_plan 96 = .ok (.iconst 1, 1) := by decide +kernel
theorem dX8_plan_97 : decode cX8_plan 97 = .ok (.iadd, 1) := by decide +kernel
theorem dX8_plan_98 : decode cX8_plan 98 = .ok (.putfield 114, 3) := by decide +kernel
theorem dX8_plan_101 : decode cX8_plan 101 = .ok (.aload_n 0, 1) := by decide +kernel
theorem dX8_plan_102 : decode cX8_plan 102 = .ok (.getfield 114, 3) := by decide +kernel
theorem dX8_plan_105 : decode cX8_plan 105 = .ok (.ireturn, 1) := by decide +kernel
theorem dX8_ends_0 : decode cX8_ends 0 = .ok (.iload_n 1, 1) := by decide +kernel
theorem dX8_ends_1 : decode cX8_ends 1 = .ok (.i2l, 1) := by decide +kernel
theorem dX8_ends_2 : decode cX8_ends 2 = .ok (.lconst 0, 1) := by decide +kernel
theorem dX8_ends_3 : decode cX8_ends 3 = .ok (.lconst 1, 1) := by decide +kernel
theorem dX8_ends_4 : decode cX8_ends 4 = .ok (.invokestatic 92, 3) := by decide +kernel
theorem dX8_ends_7 : decode cX8_ends 7 = .ok (.ifCond .ne 5, 3) := by decide +kernel
theorem dX8_ends_10 : decode cX8_ends 10 = .ok (.iconst (-1), 1) := by decide +kernel
theorem dX8_ends_11 : decode cX8_ends 11 = .ok (.ireturn, 1) := by decide +kernel
theorem dX8_ends_12 : decode cX8_ends 12 = .ok (.aload_n 0, 1) := by decide +kernel
theorem dX8_ends_13 : decode cX8_ends 13 = .ok (.invokevirtual 272, 3) := by decide +kernel
theorem dX8_ends_16 : decode cX8_ends 16 = .ok (.iconst 0, 1) := by decide +kernel
theorem dX8_ends_17 : decode cX8_ends 17 = .ok (.istore_n 2, 1) := by decide +kernel
theorem dX8_ends_18 : decode cX8_ends 18 = .ok (.iload_n 2, 1) := by decide +kernel
theorem dX8_ends_19 : decode cX8_ends 19 = .ok (.aload_n 0, 1) := by decide +kernel
theorem dX8_ends_20 : decode cX8_ends 20 = .ok (.getfield 114, 3) := by decide +kernel
theorem dX8_ends_23 : decode cX8_ends 23 = .ok (.if_icmp .ge 59, 3) := by decide +kernel
theorem dX8_ends_26 : decode cX8_ends 26 = .ok (.aload_n 0, 1) := by decide +kernel
theorem dX8_ends_27 : decode cX8_ends 27 = .ok (.getfield 37, 3) := by decide +kernel
theorem dX8_ends_30 : decode cX8_ends 30 = .ok (.iload_n 2, 1) := by decide +kernel
theorem dX8_ends_31 : decode cX8_ends 31 = .ok (.iaload, 1) := by decide +kernel
theorem dX8_ends_32 : decode cX8_ends 32 = .ok (.ifCond .ne 11, 3) := by decide +kernel
theorem dX8_ends_35 : decode cX8_ends 35 = .ok (.aload_n 0, 1) := by decide +kernel
theorem dX8_ends_36 : decode cX8_ends 36 = .ok (.invokevirtual 293, 3) := by decide +kernel
theorem dX8_ends_39 : decode cX8_ends 39 = .ok (.pop, 1) := by decide +kernel
theorem dX8_ends_40 : decode cX8_ends 40 = .ok (.goto 36, 3) := by decide +kernel
theorem dX8_ends_43 : decode cX8_ends 43 = .ok (.aload_n 0, 1) := by decide +kernel
theorem dX8_ends_44 : decode cX8_ends 44 = .ok (.getfield 37, 3) := by decide +kernel
theorem dX8_ends_47 : decode cX8_ends 47 = .ok (.iload_n 2, 1) := by decide +kernel
theorem dX8_ends_48 : decode cX8_ends 48 = .ok (.iaload, 1) := by decide +kernel
theorem dX8_ends_49 : decode cX8_ends 49 = .ok (.iconst 1, 1) := by decide +kernel
theorem dX8_ends_50 : decode cX8_ends 50 = .ok (.if_icmp .ne 16, 3) := by decide +kernel
theorem dX8_ends_53 : decode cX8_ends 53 = .ok (.aload_n 0, 1) := by decide +kernel
theorem dX8_ends_54 : decode cX8_ends 54 = .ok (.aload_n 0, 1) := by decide +kernel
theorem dX8_ends_55 : decode cX8_ends 55 = .ok (.getfield 40, 3) := by decide +kernel
theorem dX8_ends_58 : decode cX8_ends 58 = .ok (.iload_n 2, 1) := by decide +kernel
theorem dX8_ends_59 : decode cX8_ends 59 = .ok (.iaload, 1) := by decide +kernel
theorem dX8_ends_60 : decode cX8_ends 60 = .ok (.invokevirtual 155, 3) := by decide +kernel
theorem dX8_ends_63 : decode cX8_ends 63 = .ok (.goto 13, 3) := by decide +kernel
theorem dX8_ends_66 : decode cX8_ends 66 = .ok (.aload_n 0, 1) := by decide +kernel
theorem dX8_ends_67 : decode cX8_ends 67 = .ok (.aload_n 0, 1) := by decide +kernel
theorem dX8_ends_68 : decode cX8_ends 68 = .ok (.getfield 40, 3) := by decide +kernel
theorem dX8_ends_71 : decode cX8_ends 71 = .ok (.iload_n 2, 1) := by decide +kernel
theorem dX8_ends_72 : decode cX8_ends 72 = .ok (.iaload, 1) := by decide +kernel
theorem dX8_ends_73 : decode cX8_ends 73 = .ok (.putfield 15, 3) := by decide +kernel
theorem dX8_ends_76 : decode cX8_ends 76 = .ok (.iinc 2 1, 3) := by decide +kernel
theorem dX8_ends_79 : decode cX8_ends 79 = .ok (.goto (-61), 3) := by decide +kernel
theorem dX8_ends_82 : decode cX8_ends 82 = .ok (.iload_n 1, 1) := by decide +kernel
theorem dX8_ends_83 : decode cX8_ends 83 = .ok (.ifCond .ne 10, 3) := by decide +kernel
theorem dX8_ends_86 : decode cX8_ends 86 = .ok (.aload_n 0, 1) := by decide +kernel
theorem dX8_ends_87 : decode cX8_ends 87 = .ok (.invokevirtual 254, 3) := by decide +kernel
theorem dX8_ends_90 : decode cX8_ends 90 = .ok (.goto 7, 3) := by decide +kernel
theorem dX8_ends_93 : decode cX8_ends 93 = .ok (.aload_n 0, 1) := by decide +kernel
theorem dX8_ends_94 : decode cX8_ends 94 = .ok (.invokevirtual 269, 3) := by decide +kernel
theorem dX8_ends_97 : decode cX8_ends 97 = .ok (.istore_n 2, 1) := by decide +kernel
theorem dX8_ends_98 : decode cX8_ends 98 = .ok (.aload_n 0, 1) := by decide +kernel
theorem dX8_ends_99 : decode cX8_ends 99 = .ok (.invokevirtual 282, 3) := by decide +kernel
theorem dX8_ends_102 : decode cX8_ends 102 = .ok (.iload_n 2, 1) := by decide +kernel
theorem dX8_ends_103 : decode cX8_ends 103 = .ok (.ireturn, 1) := by decide +kernel
theorem dX8_book_0 : decode cX8_book 0 = .ok (.iload_n 1, 1) := by decide +kernel
theorem dX8_book_1 : decode cX8_book 1 = .ok (.iconst (-1), 1) := by decide +kernel
theorem dX8_book_2 : decode cX8_book 2 = .ok (.if_icmp .ne 10, 3) := by decide +kernel
theorem dX8_book_5 : decode cX8_book 5 = .ok (.aload_n 0, 1) := by decide +kernel
theorem dX8_book_6 : decode cX8_book 6 = .ok (.iconst 0, 1) := by decide +kernel
theorem dX8_book_7 : decode cX8_book 7 = .ok (.putfield 117, 3) := by decide +kernel
theorem dX8_book_10 : decode cX8_book 10 = .ok (.iconst 0, 1) := by decide +kernel
theorem dX8_book_11 : decode cX8_book 11 = .ok (.ireturn, 1) := by decide +kernel
theorem dX8_book_12 : decode cX8_book 12 = .ok (.aload_n 0, 1) := by decide +kernel
theorem dX8_book_13 : decode cX8_book 13 = .ok (.iload_n 1, 1) := by decide +kernel
theorem dX8_book_14 : decode cX8_book 14 = .ok (.invokevirtual 96, 3) := by decide +kernel
theorem dX8_book_17 : decode cX8_book 17 = .ok (.ifCond .ne 5, 3) := by decide +kernel
theorem dX8_book_20 : decode cX8_book 20 = .ok (.iconst (-1), 1) := by decide +kernel
theorem dX8_book_21 : decode cX8_book 21 = .ok (.ireturn, 1) := by decide +kernel
theorem dX8_book_22 : decode cX8_book 22 = .ok (.iload_n 2, 1) := by decide +kernel
theorem dX8_book_23 : decode cX8_book 23 = .ok (.i2l, 1) := by decide +kernel
theorem dX8_book_24 : decode cX8_book 24 = .ok (.lconst 0, 1) := by decide +kernel
theorem dX8_book_25 : decode cX8_book 25 = .ok (.ldc2_w 296, 3) := by decide +kernel
theorem dX8_book_28 : decode cX8_book 28 = .ok (.invokestatic 92, 3) := by decide +kernel
theorem dX8_book_31 : decode cX8_book 31 = .ok (.ifCond .ne 6, 3) := by decide +kernel
theorem dX8_book_34 : decode cX8_book 34 = .ok (.bipush (-2), 2) := by decide +kernel
theorem dX8_book_36 : decode cX8_book 36 = .ok (.ireturn, 1) := by decide +kernel
theorem dX8_book_37 : decode cX8_book 37 = .ok (.aload_n 0, 1) := by decide +kernel
theorem dX8_book_38 : decode cX8_book 38 = .ok (.getfield 117, 3) := by decide +kernel
theorem dX8_book_41 : decode cX8_book 41 = .ok (.bipush 8, 2) := by decide +kernel
theorem dX8_book_43 : decode cX8_book 43 = .ok (.if_icmp .ne 6, 3) := by decide +kernel
theorem dX8_book_46 : decode cX8_book 46 = .ok (.bipush (-4), 2) := by decide +kernel
theorem dX8_book_48 : decode cX8_book 48 = .ok (.ireturn, 1) := by decide +kernel
theorem dX8_book_49 : decode cX8_book 49 = .ok (.aload_n 0, 1) := by decide +kernel
theorem dX8_book_50 : decode cX8_book 50 = .ok (.getfield 43, 3) := by decide +kernel
theorem dX8_book_53 : decode cX8_book 53 = .ok (.aload_n 0, 1) := by decide +kernel
theorem dX8_book_54 : decode cX8_book 54 = .ok (.getfield 117, 3) := by decide +kernel
theorem dX8_book_57 : decode cX8_book 57 = .ok (.iload_n 1, 1) := by decide +kernel
theorem dX8_book_58 : decode cX8_book 58 = .ok (.iastore, 1) := by decide +kernel
theorem dX8_book_59 : decode cX8_book 59 = .ok (.aload_n 0, 1) := by decide +kernel
theorem dX8_book_60 : decode cX8_book 60 = .ok (.getfield 46, 3) := by decide +kernel
theorem dX8_book_63 : decode cX8_book 63 = .ok (.aload_n 0, 1) := by decide +kernel
theorem dX8_book_64 : decode cX8_book 64 = .ok (.getfield 117, 3) := by decide +kernel
theorem dX8_book_67 : decode cX8_book 67 = .ok (.iload_n 2, 1) := by decide +kernel
theorem dX8_book_68 : decode cX8_book 68 = .ok (.iastore, 1) := by decide +kernel
theorem dX8_book_69 : decode cX8_book 69 = .ok (.aload_n 0, 1) := by decide +kernel
theorem dX8_book_70 : decode cX8_book 70 = .ok (.dup, 1) := by decide +kernel
theorem dX8_book_71 : decode cX8_book 71 = .ok (.getfield 117, 3) := by decide +kernel
theorem dX8_book_74 : decode cX8_book 74 = .ok (.iconst 1, 1) := by decide +kernel
theorem dX8_book_75 : decode cX8_book 75 = .ok (.iadd, 1) := by decide +kernel
theorem dX8_book_76 : decode cX8_book 76 = .ok (.putfield 117, 3) := by decide +kernel
theorem dX8_book_79 : decode cX8_book 79 = .ok (.aload_n 0, 1) := by decide +kernel
theorem dX8_book_80 : decode cX8_book 80 = .ok (.getfield 117, 3) := by decide +kernel
theorem dX8_book_83 : decode cX8_book 83 = .ok (.ireturn, 1) := by decide +kernel
theorem dX8_looked_0 : decode cX8_looked 0 = .ok (.iconst 0, 1) := by decide +kernel
theorem dX8_looked_1 : decode cX8_looked 1 = .ok (.istore_n 1, 1) := by decide +kernel
theorem dX8_looked_2 : decode cX8_looked 2 = .ok (.iload_n 1, 1) := by decide +kernel
theorem dX8_looked_3 : decode cX8_looked 3 = .ok (.aload_n 0, 1) := by decide +kernel
theorem dX8_looked_4 : decode cX8_looked 4 = .ok (.getfield 117, 3) := by decide +kernel
theorem dX8_looked_7 : decode cX8_looked 7 = .ok (.if_icmp .ge 31, 3) := by decide +kernel
theorem dX8_looked_10 : decode cX8_looked 10 = .ok (.aload_n 0, 1) := by decide +kernel
theorem dX8_looked_11 : decode cX8_looked 11 = .ok (.getfield 28, 3) := by decide +kernel
theorem dX8_looked_14 : decode cX8_looked 14 = .ok (.aload_n 0, 1) := by decide +kernel
theorem dX8_looked_15 : decode cX8_looked 15 = .ok (.getfield 43, 3) := by decide +kernel
theorem dX8_looked_18 : decode cX8_looked 18 = .ok (.iload_n 1, 1) := by decide +kernel
theorem dX8_looked_19 : decode cX8_looked 19 = .ok (.iaload, 1) := by decide +kernel
theorem dX8_looked_20 : decode cX8_looked 20 = .ok (.iaload, 1) := by decide +kernel
theorem dX8_looked_21 : decode cX8_looked 21 = .ok (.aload_n 0, 1) := by decide +kernel
theorem dX8_looked_22 : decode cX8_looked 22 = .ok (.getfield 46, 3) := by decide +kernel
theorem dX8_looked_25 : decode cX8_looked 25 = .ok (.iload_n 1, 1) := by decide +kernel
theorem dX8_looked_26 : decode cX8_looked 26 = .ok (.iaload, 1) := by decide +kernel
theorem dX8_looked_27 : decode cX8_looked 27 = .ok (.if_icmp .eq 5, 3) := by decide +kernel
theorem dX8_looked_30 : decode cX8_looked 30 = .ok (.iload_n 1, 1) := by decide +kernel
theorem dX8_looked_31 : decode cX8_looked 31 = .ok (.ireturn, 1) := by decide +kernel
theorem dX8_looked_32 : decode cX8_looked 32 = .ok (.iinc 1 1, 3) := by decide +kernel
theorem dX8_looked_35 : decode cX8_looked 35 = .ok (.goto (-33), 3) := by decide +kernel
theorem dX8_looked_38 : decode cX8_looked 38 = .ok (.bipush (-5), 2) := by decide +kernel
theorem dX8_looked_40 : decode cX8_looked 40 = .ok (.ireturn, 1) := by decide +kernel
theorem dX8_isTape_0 : decode cX8_isTape 0 = .ok (.iload_n 0, 1) := by decide +kernel
theorem dX8_isTape_1 : decode cX8_isTape 1 = .ok (.i2l, 1) := by decide +kernel
theorem dX8_isTape_2 : decode cX8_isTape 2 = .ok (.lconst 0, 1) := by decide +kernel
theorem dX8_isTape_3 : decode cX8_isTape 3 = .ok (.ldc2_w 298, 3) := by decide +kernel
theorem dX8_isTape_6 : decode cX8_isTape 6 = .ok (.invokestatic 92, 3) := by decide +kernel
theorem dX8_isTape_9 : decode cX8_isTape 9 = .ok (.ireturn, 1) := by decide +kernel
theorem dX8_judge_0 : decode cX8_judge 0 = .ok (.iload_n 1, 1) := by decide +kernel
theorem dX8_judge_1 : decode cX8_judge 1 = .ok (.invokestatic 300, 3) := by decide +kernel
theorem dX8_judge_4 : decode cX8_judge 4 = .ok (.ifCond .ne 5, 3) := by decide +kernel
theorem dX8_judge_7 : decode cX8_judge 7 = .ok (.iconst (-1), 1) := by decide +kernel
theorem dX8_judge_8 : decode cX8_judge 8 = .ok (.ireturn, 1) := by decide +kernel
theorem dX8_judge_9 : decode cX8_judge 9 = .ok (.aload_n 0, 1) := by decide +kernel
theorem dX8_judge_10 : decode cX8_judge 10 = .ok (.getfield 78, 3) := by decide +kernel
theorem dX8_judge_13 : decode cX8_judge 13 = .ok (.iload_n 1, 1) := by decide +kernel
theorem dX8_judge_14 : decode cX8_judge 14 = .ok (.iaload, 1) := by decide +kernel
theorem dX8_judge_15 : decode cX8_judge 15 = .ok (.ifCond .lt 16, 3) := by decide +kernel
theorem dX8_judge_18 : decode cX8_judge 18 = .ok (.aload_n 0, 1) := by decide +kernel
theorem dX8_judge_19 : decode cX8_judge 19 = .ok (.getfield 78, 3) := by decide +kernel
theorem dX8_judge_22 : decode cX8_judge 22 = .ok (.iload_n 1, 1) := by decide +kernel
theorem dX8_judge_23 : decode cX8_judge 23 = .ok (.iaload, 1) := by decide +kernel
theorem dX8_judge_24 : decode cX8_judge 24 = .ok (.iconst 3, 1) := by decide +kernel
theorem dX8_judge_25 : decode cX8_judge 25 = .ok (.if_icmp .eq 6, 3) := by decide +kernel
theorem dX8_judge_28 : decode cX8_judge 28 = .ok (.bipush (-12), 2) := by decide +kernel
theorem dX8_judge_30 : decode cX8_judge 30 = .ok (.ireturn, 1) := by decide +kernel
theorem dX8_judge_31 : decode cX8_judge 31 = .ok (.iconst 0, 1) := by decide +kernel
theorem dX8_judge_32 : decode cX8_judge 32 = .ok (.istore_n 3, 1) := by decide +kernel
theorem dX8_judge_33 : decode cX8_judge 33 = .ok (.iload_n 3, 1) := by decide +kernel
theorem dX8_judge_34 : decode cX8_judge 34 = .ok (.aload_n 0, 1) := by decide +kernel
theorem dX8_judge_35 : decode cX8_judge 35 = .ok (.getfield 9, 3) := by decide +kernel
theorem dX8_judge_38 : decode cX8_judge 38 = .ok (.if_icmp .ge 53, 3) := by decide +kernel
theorem dX8_judge_41 : decode cX8_judge 41 = .ok (.iload_n 2, 1) := by decide +kernel
theorem dX8_judge_42 : decode cX8_judge 42 = .ok (.ifCond .lt 15, 3) := by decide +kernel
theorem dX8_judge_45 : decode cX8_judge 45 = .ok (.iload_n 2, 1) := by decide +kernel
theorem dX8_judge_46 : decode cX8_judge 46 = .ok (.aload_n 0, 1) := by decide +kernel
theorem dX8_judge_47 : decode cX8_judge 47 = .ok (.getfield 81, 3) := by decide +kernel
theorem dX8_judge_50 : decode cX8_judge 50 = .ok (.iload_n 1, 1) := by decide +kernel
theorem dX8_judge_51 : decode cX8_judge 51 = .ok (.iaload, 1) := by decide +kernel
theorem dX8_judge_52 : decode cX8_judge 52 = .ok (.iload_n 3, 1) := by decide +kernel
theorem dX8_judge_53 : decode cX8_judge 53 = .ok (.isub, 1) := by decide +kernel
theorem dX8_judge_54 : decode cX8_judge 54 = .ok (.if_icmp .lt 8, 3) := by decide +kernel
theorem dX8_judge_57 : decode cX8_judge 57 = .ok (.bipush 100, 2) := by decide +kernel
theorem dX8_judge_59 : decode cX8_judge 59 = .ok (.iload_n 3, 1) := by decide +kernel
theorem dX8_judge_60 : decode cX8_judge 60 = .ok (.iadd, 1) := by decide +kernel
theorem dX8_judge_61 : decode cX8_judge 61 = .ok (.ireturn, 1) := by decide +kernel
theorem dX8_judge_62 : decode cX8_judge 62 = .ok (.aload_n 0, 1) := by decide +kernel
theorem dX8_judge_63 : decode cX8_judge 63 = .ok (.getfield 75, 3) := by decide +kernel
theorem dX8_judge_66 : decode cX8_judge 66 = .ok (.iload_n 1, 1) := by decide +kernel
theorem dX8_judge_67 : decode cX8_judge 67 = .ok (.aaload, 1) := by decide +kernel
theorem dX8_judge_68 : decode cX8_judge 68 = .ok (.iload_n 2, 1) := by decide +kernel
theorem dX8_judge_69 : decode cX8_judge 69 = .ok (.iload_n 3, 1) := by decide +kernel
theorem dX8_judge_70 : decode cX8_judge 70 = .ok (.iadd, 1) := by decide +kernel
theorem dX8_judge_71 : decode cX8_judge 71 = .ok (.laload, 1) := by decide +kernel
theorem dX8_judge_72 : decode cX8_judge 72 = .ok (.aload_n 0, 1) := by decide +kernel
theorem dX8_judge_73 : decode cX8_judge 73 = .ok (.getfield 28, 3) := by decide +kernel
theorem dX8_judge_76 : decode cX8_judge 76 = .ok (.iload_n 3, 1) := by decide +kernel
theorem dX8_judge_77 : decode cX8_judge 77 = .ok (.iaload, 1) := by decide +kernel
theorem dX8_judge_78 : decode cX8_judge 78 = .ok (.i2l, 1) := by decide +kernel
theorem dX8_judge_79 : decode cX8_judge 79 = .ok (.lcmp, 1) := by decide +kernel
theorem dX8_judge_80 : decode cX8_judge 80 = .ok (.ifCond .eq 5, 3) := by decide +kernel
theorem dX8_judge_83 : decode cX8_judge 83 = .ok (.iload_n 3, 1) := by decide +kernel
theorem dX8_judge_84 : decode cX8_judge 84 = .ok (.ireturn, 1) := by decide +kernel
theorem dX8_judge_85 : decode cX8_judge 85 = .ok (.iinc 3 1, 3) := by decide +kernel
theorem dX8_judge_88 : decode cX8_judge 88 = .ok (.goto (-55), 3) := by decide +kernel
theorem dX8_judge_91 : decode cX8_judge 91 = .ok (.bipush (-5), 2) := by decide +kernel
theorem dX8_judge_93 : decode cX8_judge 93 = .ok (.ireturn, 1) := by decide +kernel
theorem dX8_count_0 : decode cX8_count 0 = .ok (.iload_n 1, 1) := by decide +kernel
theorem dX8_count_1 : decode cX8_count 1 = .ok (.tableswitch 69 0 5 #[39, 44, 49, 54, 59, 64], 39) := by decide +kernel
theorem dX8_count_40 : decode cX8_count 40 = .ok (.aload_n 0, 1) := by decide +kernel
theorem dX8_count_41 : decode cX8_count 41 = .ok (.getfield 9, 3) := by decide +kernel
theorem dX8_count_44 : decode cX8_count 44 = .ok (.ireturn, 1) := by decide +kernel
theorem dX8_count_45 : decode cX8_count 45 = .ok (.aload_n 0, 1) := by decide +kernel
theorem dX8_count_46 : decode cX8_count 46 = .ok (.getfield 111, 3) := by decide +kernel
theorem dX8_count_49 : decode cX8_count 49 = .ok (.ireturn, 1) := by decide +kernel
theorem dX8_count_50 : decode cX8_count 50 = .ok (.aload_n 0, 1) := by decide +kernel
theorem dX8_count_51 : decode cX8_count 51 = .ok (.getfield 114, 3) := by decide +kernel
theorem dX8_count_54 : decode cX8_count 54 = .ok (.ireturn, 1) := by decide +kernel
theorem dX8_count_55 : decode cX8_count 55 = .ok (.aload_n 0, 1) := by decide +kernel
theorem dX8_count_56 : decode cX8_count 56 = .ok (.getfield 117, 3) := by decide +kernel
theorem dX8_count_59 : decode cX8_count 59 = .ok (.ireturn, 1) := by decide +kernel
theorem dX8_count_60 : decode cX8_count 60 = .ok (.aload_n 0, 1) := by decide +kernel
theorem dX8_count_61 : decode cX8_count 61 = .ok (.getfield 180, 3) := by decide +kernel
theorem dX8_count_64 : decode cX8_count 64 = .ok (.ireturn, 1) := by decide +kernel
theorem dX8_count_65 : decode cX8_count 65 = .ok (.aload_n 0, 1) := by decide +kernel
theorem dX8_count_66 : decode cX8_count 66 = .ok (.invokevirtual 303, 3) := by decide +kernel
theorem dX8_count_69 : decode cX8_count 69 = .ok (.ireturn, 1) := by decide +kernel
theorem dX8_count_70 : decode cX8_count 70 = .ok (.bipush (-2), 2) := by decide +kernel
theorem dX8_count_72 : decode cX8_count 72 = .ok (.ireturn, 1) := by decide +kernel
theorem dX8_forbidden_0 : decode cX8_forbidden 0 = .ok (.iconst 0, 1) := by decide +kernel
theorem dX8_forbidden_1 : decode cX8_forbidden 1 = .ok (.istore_n 1, 1) := by decide +kernel
theorem dX8_forbidden_2 : decode cX8_forbidden 2 = .ok (.iconst 0, 1) := by decide +kernel
theorem dX8_forbidden_3 : decode cX8_forbidden 3 = .ok (.istore_n 2, 1) := by decide +kernel
theorem dX8_forbidden_4 : decode cX8_forbidden 4 = .ok (.iload_n 2, 1) := by decide +kernel
theorem dX8_forbidden_5 : decode cX8_forbidden 5 = .ok (.aload_n 0, 1) := by decide +kernel
theorem dX8_forbidden_6 : decode cX8_forbidden 6 = .ok (.getfield 9, 3) := by decide +kernel
theorem dX8_forbidden_9 : decode cX8_forbidden 9 = .ok (.if_icmp .ge 25, 3) := by decide +kernel
theorem dX8_forbidden_12 : decode cX8_forbidden 12 = .ok (.iload_n 1, 1) := by decide +kernel
theorem dX8_forbidden_13 : decode cX8_forbidden 13 = .ok (.aload_n 0, 1) := by decide +kernel
theorem dX8_forbidden_14 : decode cX8_forbidden 14 = .ok (.getfield 9, 3) := by decide +kernel
theorem dX8_forbidden_17 : decode cX8_forbidden 17 = .ok (.aload_n 0, 1) := by decide +kernel
theorem dX8_forbidden_18 : decode cX8_forbidden 18 = .ok (.iload_n 2, 1) := by decide +kernel
theorem dX8_forbidden_19 : decode cX8_forbidden 19 = .ok (.invokevirtual 240, 3) := by decide +kernel
theorem dX8_forbidden_22 : decode cX8_forbidden 22 = .ok (.invokestatic 243, 3) := by decide +kernel
theorem dX8_forbidden_25 : decode cX8_forbidden 25 = .ok (.isub, 1) := by decide +kernel
theorem dX8_forbidden_26 : decode cX8_forbidden 26 = .ok (.iadd, 1) := by decide +kernel
theorem dX8_forbidden_27 : decode cX8_forbidden 27 = .ok (.istore_n 1, 1) := by decide +kernel
theorem dX8_forbidden_28 : decode cX8_forbidden 28 = .ok (.iinc 2 1, 3) := by decide +kernel
theorem dX8_forbidden_31 : decode cX8_forbidden 31 = .ok (.goto (-27), 3) := by decide +kernel
theorem dX8_forbidden_34 : decode cX8_forbidden 34 = .ok (.iload_n 1, 1) := by decide +kernel
theorem dX8_forbidden_35 : decode cX8_forbidden 35 = .ok (.ireturn, 1) := by decide +kernel
theorem dX8_tape_0 : decode cX8_tape 0 = .ok (.iload_n 1, 1) := by decide +kernel
theorem dX8_tape_1 : decode cX8_tape 1 = .ok (.invokestatic 300, 3) := by decide +kernel
theorem dX8_tape_4 : decode cX8_tape 4 = .ok (.ifCond .ne 5, 3) := by decide +kernel
theorem dX8_tape_7 : decode cX8_tape 7 = .ok (.iconst (-1), 1) := by decide +kernel
theorem dX8_tape_8 : decode cX8_tape 8 = .ok (.ireturn, 1) := by decide +kernel
theorem dX8_tape_9 : decode cX8_tape 9 = .ok (.iload_n 2, 1) := by decide +kernel
theorem dX8_tape_10 : decode cX8_tape 10 = .ok (.i2l, 1) := by decide +kernel
theorem dX8_tape_11 : decode cX8_tape 11 = .ok (.ldc2_w 167, 3) := by decide +kernel
theorem dX8_tape_14 : decode cX8_tape 14 = .ok (.ldc2_w 306, 3) := by decide +kernel
theorem dX8_tape_17 : decode cX8_tape 17 = .ok (.invokestatic 92, 3) := by decide +kernel
theorem dX8_tape_20 : decode cX8_tape 20 = .ok (.ifCond .eq 13, 3) := by decide +kernel
theorem dX8_tape_23 : decode cX8_tape 23 = .ok (.iload_n 2, 1) := by decide +kernel
theorem dX8_tape_24 : decode cX8_tape 24 = .ok (.ifCond .lt 12, 3) := by decide +kernel
theorem dX8_tape_27 : decode cX8_tape 27 = .ok (.iload_n 3, 1) := by decide +kernel
theorem dX8_tape_28 : decode cX8_tape 28 = .ok (.bipush 60, 2) := by decide +kernel
theorem dX8_tape_30 : decode cX8_tape 30 = .ok (.if_icmp .le 6, 3) := by decide +kernel
theorem dX8_tape_33 : decode cX8_tape 33 = .ok (.bipush (-2), 2) := by decide +kernel
theorem dX8_tape_35 : decode cX8_tape 35 = .ok (.ireturn, 1) := by decide +kernel
theorem dX8_tape_36 : decode cX8_tape 36 = .ok (.iload_n 2, 1) := by decide +kernel
theorem dX8_tape_37 : decode cX8_tape 37 = .ok (.ifCond .lt 10, 3) := by decide +kernel
theorem dX8_tape_40 : decode cX8_tape 40 = .ok (.iload_n 3, 1) := by decide +kernel
theorem dX8_tape_41 : decode cX8_tape 41 = .ok (.ifCond .ge 6, 3) := by decide +kernel
theorem dX8_tape_44 : decode cX8_tape 44 = .ok (.bipush (-14), 2) := by decide +kernel
theorem dX8_tape_46 : decode cX8_tape 46 = .ok (.ireturn, 1) := by decide +kernel
theorem dX8_tape_47 : decode cX8_tape 47 = .ok (.aload_n 0, 1) := by decide +kernel
theorem dX8_tape_48 : decode cX8_tape 48 = .ok (.getfield 78, 3) := by decide +kernel
theorem dX8_tape_51 : decode cX8_tape 51 = .ok (.iload_n 1, 1) := by decide +kernel
theorem dX8_tape_52 : decode cX8_tape 52 = .ok (.iload_n 2, 1) := by decide +kernel
theorem dX8_tape_53 : decode cX8_tape 53 = .ok (.iastore, 1) := by decide +kernel
theorem dX8_tape_54 : decode cX8_tape 54 = .ok (.aload_n 0, 1) := by decide +kernel
theorem dX8_tape_55 : decode cX8_tape 55 = .ok (.getfield 81, 3) := by decide +kernel
theorem dX8_tape_58 : decode cX8_tape 58 = .ok (.iload_n 1, 1) := by decide +kernel
theorem dX8_tape_59 : decode cX8_tape 59 = .ok (.iload_n 2, 1) := by decide +kernel
theorem dX8_tape_60 : decode cX8_tape 60 = .ok (.ifCond .ge 7, 3) := by decide +kernel
theorem dX8_tape_63 : decode cX8_tape 63 = .ok (.iconst 0, 1) := by decide +kernel
theorem dX8_tape_64 : decode cX8_tape 64 = .ok (.goto 4, 3) := by decide +kernel
theorem dX8_tape_67 : decode cX8_tape 67 = .ok (.iload_n 3, 1) := by decide +kernel
theorem dX8_tape_68 : decode cX8_tape 68 = .ok (.iastore, 1) := by decide +kernel
theorem dX8_tape_69 : decode cX8_tape 69 = .ok (.iconst 0, 1) := by decide +kernel
theorem dX8_tape_70 : decode cX8_tape 70 = .ok (.istore 4, 2) := by decide +kernel
theorem dX8_tape_72 : decode cX8_tape 72 = .ok (.iload 4, 2) := by decide +kernel
theorem dX8_tape_74 : decode cX8_tape 74 = .ok (.bipush 60, 2) := by decide +kernel
theorem dX8_tape_76 : decode cX8_tape 76 = .ok (.if_icmp .ge 19, 3) := by decide +kernel
theorem dX8_tape_79 : decode cX8_tape 79 = .ok (.aload_n 0, 1) := by decide +kernel
theorem dX8_tape_80 : decode cX8_tape 80 = .ok (.getfield 75, 3) := by decide +kernel
theorem dX8_tape_83 : decode cX8_tape 83 = .ok (.iload_n 1, 1) := by decide +kernel
theorem dX8_tape_84 : decode cX8_tape 84 = .ok (.aaload, 1) := by decide +kernel
theorem dX8_tape_85 : decode cX8_tape 85 = .ok (.iload 4, 2) := by decide +kernel
theorem dX8_tape_87 : decode cX8_tape 87 = .ok (.lconst 0, 1) := by decide +kernel
theorem dX8_tape_88 : decode cX8_tape 88 = .ok (.lastore, 1) := by decide +kernel
theorem dX8_tape_89 : decode cX8_tape 89 = .ok (.iinc 4 1, 3) := by decide +kernel
theorem dX8_tape_92 : decode cX8_tape 92 = .ok (.goto (-20), 3) := by decide +kernel
theorem dX8_tape_95 : decode cX8_tape 95 = .ok (.iconst 1, 1) := by decide +kernel
theorem dX8_tape_96 : decode cX8_tape 96 = .ok (.ireturn, 1) := by decide +kernel
theorem dX8_fit_0 : decode cX8_fit 0 = .ok (.iload_n 0, 1) := by decide +kernel
theorem dX8_fit_1 : decode cX8_fit 1 = .ok (.tableswitch 47 0 3 #[31, 36, 41, 45], 31) := by decide +kernel
theorem dX8_fit_32 : decode cX8_fit 32 = .ok (.lload_n 1, 1) := by decide +kernel
theorem dX8_fit_33 : decode cX8_fit 33 = .ok (.l2i, 1) := by decide +kernel
theorem dX8_fit_34 : decode cX8_fit 34 = .ok (.i2b, 1) := by decide +kernel
theorem dX8_fit_35 : decode cX8_fit 35 = .ok (.i2l, 1) := by decide +kernel
theorem dX8_fit_36 : decode cX8_fit 36 = .ok (.lreturn, 1) := by decide +kernel
theorem dX8_fit_37 : decode cX8_fit 37 = .ok (.lload_n 1, 1) := by decide +kernel
theorem dX8_fit_38 : decode cX8_fit 38 = .ok (.l2i, 1) := by decide +kernel
theorem dX8_fit_39 : decode cX8_fit 39 = .ok (.i2s, 1) := by decide +kernel
theorem dX8_fit_40 : decode cX8_fit 40 = .ok (.i2l, 1) := by decide +kernel
theorem dX8_fit_41 : decode cX8_fit 41 = .ok (.lreturn, 1) := by decide +kernel
theorem dX8_fit_42 : decode cX8_fit 42 = .ok (.lload_n 1, 1) := by decide +kernel
theorem dX8_fit_43 : decode cX8_fit 43 = .ok (.l2i, 1) := by decide +kernel
theorem dX8_fit_44 : decode cX8_fit 44 = .ok (.i2l, 1) := by decide +kernel
theorem dX8_fit_45 : decode cX8_fit 45 = .ok (.lreturn, 1) := by decide +kernel
theorem dX8_fit_46 : decode cX8_fit 46 = .ok (.lload_n 1, 1) := by decide +kernel
theorem dX8_fit_47 : decode cX8_fit 47 = .ok (.lreturn, 1) := by decide +kernel
theorem dX8_fit_48 : decode cX8_fit 48 = .ok (.lload_n 1, 1) := by decide +kernel
theorem dX8_fit_49 : decode cX8_fit 49 = .ok (.lconst 0, 1) := by decide +kernel
theorem dX8_fit_50 : decode cX8_fit 50 = .ok (.lcmp, 1) := by decide +kernel
theorem dX8_fit_51 : decode cX8_fit 51 = .ok (.ifCond .eq 7, 3) := by decide +kernel
theorem dX8_fit_54 : decode cX8_fit 54 = .ok (.lconst 1, 1) := by decide +kernel
theorem dX8_fit_55 : decode cX8_fit 55 = .ok (.goto 4, 3) := by decide +kernel
theorem dX8_fit_58 : decode cX8_fit 58 = .ok (.lconst 0, 1) := by decide +kernel
theorem dX8_fit_59 : decode cX8_fit 59 = .ok (.lreturn, 1) := by decide +kernel
theorem dX8_item_0 : decode cX8_item 0 = .ok (.iload_n 1, 1) := by decide +kernel
theorem dX8_item_1 : decode cX8_item 1 = .ok (.invokestatic 300, 3) := by decide +kernel
theorem dX8_item_4 : decode cX8_item 4 = .ok (.ifCond .ne 5, 3) := by decide +kernel
theorem dX8_item_7 : decode cX8_item 7 = .ok (.iconst (-1), 1) := by decide +kernel
theorem dX8_item_8 : decode cX8_item 8 = .ok (.ireturn, 1) := by decide +kernel
theorem dX8_item_9 : decode cX8_item 9 = .ok (.aload_n 0, 1) := by decide +kernel
theorem dX8_item_10 : decode cX8_item 10 = .ok (.getfield 78, 3) := by decide +kernel
theorem dX8_item_13 : decode cX8_item 13 = .ok (.iload_n 1, 1) := by decide +kernel
theorem dX8_item_14 : decode cX8_item 14 = .ok (.iaload, 1) := by decide +kernel
theorem dX8_item_15 : decode cX8_item 15 = .ok (.ifCond .ge 6, 3) := by decide +kernel
theorem dX8_item_18 : decode cX8_item 18 = .ok (.bipush (-11), 2) := by decide +kernel
theorem dX8_item_20 : decode cX8_item 20 = .ok (.ireturn, 1) := by decide +kernel
theorem dX8_item_21 : decode cX8_item 21 = .ok (.iload_n 2, 1) := by decide +kernel
theorem dX8_item_22 : decode cX8_item 22 = .ok (.i2l, 1) := by decide +kernel
theorem dX8_item_23 : decode cX8_item 23 = .ok (.lconst 0, 1) := by decide +kernel
theorem dX8_item_24 : decode cX8_item 24 = .ok (.aload_n 0, 1) := by decide +kernel
theorem dX8_item_25 : decode cX8_item 25 = .ok (.getfield 81, 3) := by decide +kernel
theorem dX8_item_28 : decode cX8_item 28 = .ok (.iload_n 1, 1) := by decide +kernel
theorem dX8_item_29 : decode cX8_item 29 = .ok (.iaload, 1) := by decide +kernel
theorem dX8_item_30 : decode cX8_item 30 = .ok (.iconst 1, 1) := by decide +kernel
theorem dX8_item_31 : decode cX8_item 31 = .ok (.isub, 1) := by decide +kernel
theorem dX8_item_32 : decode cX8_item 32 = .ok (.i2l, 1) := by decide +kernel
theorem dX8_item_33 : decode cX8_item 33 = .ok (.invokestatic 92, 3) := by decide +kernel
theorem dX8_item_36 : decode cX8_item 36 = .ok (.ifCond .ne 6, 3) := by decide +kernel
theorem dX8_item_39 : decode cX8_item 39 = .ok (.bipush (-13), 2) := by decide +kernel
theorem dX8_item_41 : decode cX8_item 41 = .ok (.ireturn, 1) := by decide +kernel
theorem dX8_item_42 : decode cX8_item 42 = .ok (.aload_n 0, 1) := by decide +kernel
theorem dX8_item_43 : decode cX8_item 43 = .ok (.getfield 75, 3) := by decide +kernel
theorem dX8_item_46 : decode cX8_item 46 = .ok (.iload_n 1, 1) := by decide +kernel
theorem dX8_item_47 : decode cX8_item 47 = .ok (.aaload, 1) := by decide +kernel
theorem dX8_item_48 : decode cX8_item 48 = .ok (.iload_n 2, 1) := by decide +kernel
theorem dX8_item_49 : decode cX8_item 49 = .ok (.aload_n 0, 1) := by decide +kernel
theorem dX8_item_50 : decode cX8_item 50 = .ok (.getfield 78, 3) := by decide +kernel
theorem dX8_item_53 : decode cX8_item 53 = .ok (.iload_n 1, 1) := by decide +kernel
theorem dX8_item_54 : decode cX8_item 54 = .ok (.iaload, 1) := by decide +kernel
theorem dX8_item_55 : decode cX8_item 55 = .ok (.lload_n 3, 1) := by decide +kernel
theorem dX8_item_56 : decode cX8_item 56 = .ok (.invokestatic 308, 3) := by decide +kernel
theorem dX8_item_59 : decode cX8_item 59 = .ok (.lastore, 1) := by decide +kernel
theorem dX8_item_60 : decode cX8_item 60 = .ok (.iconst 1, 1) := by decide +kernel
theorem dX8_item_61 : decode cX8_item 61 = .ok (.ireturn, 1) := by decide +kernel
theorem dX8_peek_0 : decode cX8_peek 0 = .ok (.iload_n 1, 1) := by decide +kernel
theorem dX8_peek_1 : decode cX8_peek 1 = .ok (.invokestatic 300, 3) := by decide +kernel
theorem dX8_peek_4 : decode cX8_peek 4 = .ok (.ifCond .eq 41, 3) := by decide +kernel
theorem dX8_peek_7 : decode cX8_peek 7 = .ok (.aload_n 0, 1) := by decide +kernel
theorem dX8_peek_8 : decode cX8_peek 8 = .ok (.getfield 78, 3) := by decide +kernel
theorem dX8_peek_11 : decode cX8_peek 11 = .ok (.iload_n 1, 1) := by decide +kernel
theorem dX8_peek_12 : decode cX8_peek 12 = .ok (.iaload, 1) := by decide +kernel
theorem dX8_peek_13 : decode cX8_peek 13 = .ok (.ifCond .lt 32, 3) := by decide +kernel
theorem dX8_peek_16 : decode cX8_peek 16 = .ok (.iload_n 2, 1) := by decide +kernel
theorem dX8_peek_17 : decode cX8_peek 17 = .ok (.i2l, 1) := by decide +kernel
theorem dX8_peek_18 : decode cX8_peek 18 = .ok (.lconst 0, 1) := by decide +kernel
theorem dX8_peek_19 : decode cX8_peek 19 = .ok (.aload_n 0, 1) := by decide +kernel
theorem dX8_peek_20 : decode cX8_peek 20 = .ok (.getfield 81, 3) := by decide +kernel
theorem dX8_peek_23 : decode cX8_peek 23 = .ok (.iload_n 1, 1) := by decide +kernel
theorem dX8_peek_24 : decode cX8_peek 24 = .ok (.iaload, 1) := by decide +kernel
theorem dX8_peek_25 : decode cX8_peek 25 = .ok (.iconst 1, 1) := by decide +kernel
theorem dX8_peek_26 : decode cX8_peek 26 = .ok (.isub, 1) := by decide +kernel
theorem dX8_peek_27 : decode cX8_peek 27 = .ok (.i2l, 1) := by decide +kernel
theorem dX8_peek_28 : decode cX8_peek 28 = .ok (.invokestatic 92, 3) := by decide +kernel
theorem dX8_peek_31 : decode cX8_peek 31 = .ok (.ifCond .eq 14, 3) := by decide +kernel
theorem dX8_peek_34 : decode cX8_peek 34 = .ok (.aload_n 0, 1) := by decide +kernel
theorem dX8_peek_35 : decode cX8_peek 35 = .ok (.getfield 75, 3) := by decide +kernel
theorem dX8_peek_38 : decode cX8_peek 38 = .ok (.iload_n 1, 1) := by decide +kernel
theorem dX8_peek_39 : decode cX8_peek 39 = .ok (.aaload, 1) := by decide +kernel
theorem dX8_peek_40 : decode cX8_peek 40 = .ok (.iload_n 2, 1) := by decide +kernel
theorem dX8_peek_41 : decode cX8_peek 41 = .ok (.laload, 1) := by decide +kernel
theorem dX8_peek_42 : decode cX8_peek 42 = .ok (.goto 6, 3) := by decide +kernel
theorem dX8_peek_45 : decode cX8_peek 45 = .ok (.ldc2_w 233, 3) := by decide +kernel
theorem dX8_peek_48 : decode cX8_peek 48 = .ok (.lreturn, 1) := by decide +kernel
theorem dX8_shift_0 : decode cX8_shift 0 = .ok (.iload_n 1, 1) := by decide +kernel
theorem dX8_shift_1 : decode cX8_shift 1 = .ok (.invokestatic 300, 3) := by decide +kernel
theorem dX8_shift_4 : decode cX8_shift 4 = .ok (.ifCond .eq 10, 3) := by decide +kernel
theorem dX8_shift_7 : decode cX8_shift 7 = .ok (.iload_n 3, 1) := by decide +kernel
theorem dX8_shift_8 : decode cX8_shift 8 = .ok (.invokestatic 300, 3) := by decide +kernel
theorem dX8_shift_11 : decode cX8_shift 11 = .ok (.ifCond .ne 5, 3) := by decide +kernel
theorem dX8_shift_14 : decode cX8_shift 14 = .ok (.iconst (-1), 1) := by decide +kernel
theorem dX8_shift_15 : decode cX8_shift 15 = .ok (.ireturn, 1) := by decide +kernel
theorem dX8_shift_16 : decode cX8_shift 16 = .ok (.aload_n 0, 1) := by decide +kernel
theorem dX8_shift_17 : decode cX8_shift 17 = .ok (.getfield 78, 3) := by decide +kernel
theorem dX8_shift_20 : decode cX8_shift 20 = .ok (.iload_n 1, 1) := by decide +kernel
theorem dX8_shift_21 : decode cX8_shift 21 = .ok (.iaload, 1) := by decide +kernel
theorem dX8_shift_22 : decode cX8_shift 22 = .ok (.ifCond .lt 12, 3) := by decide +kernel
theorem dX8_shift_25 : decode cX8_shift 25 = .ok (.aload_n 0, 1) := by decide +kernel
theorem dX8_shift_26 : decode cX8_shift 26 = .ok (.getfield 78, 3) := by decide +kernel
theorem dX8_shift_29 : decode cX8_shift 29 = .ok (.iload_n 3, 1) := by decide +kernel
theorem dX8_shift_30 : decode cX8_shift 30 = .ok (.iaload, 1) := by decide +kernel
theorem dX8_shift_31 : decode cX8_shift 31 = .ok (.ifCond .ge 6, 3) := by decide +kernel
theorem dX8_shift_34 : decode cX8_shift 34 = .ok (.bipush (-11), 2) := by decide +kernel
theorem dX8_shift_36 : decode cX8_shift 36 = .ok (.ireturn, 1) := by decide +kernel
theorem dX8_shift_37 : decode cX8_shift 37 = .ok (.aload_n 0, 1) := by decide +kernel
theorem dX8_shift_38 : decode cX8_shift 38 = .ok (.getfield 78, 3) := by decide +kernel
theorem dX8_shift_41 : decode cX8_shift 41 = .ok (.iload_n 1, 1) := by decide +kernel
theorem dX8_shift_42 : decode cX8_shift 42 = .ok (.iaload, 1) := by decide +kernel
theorem dX8_shift_43 : decode cX8_shift 43 = .ok (.aload_n 0, 1) := by decide +kernel
theorem dX8_shift_44 : decode cX8_shift 44 = .ok (.getfield 78, 3) := by decide +kernel
theorem dX8_shift_47 : decode cX8_shift 47 = .ok (.iload_n 3, 1) := by decide +kernel
theorem dX8_shift_48 : decode cX8_shift 48 = .ok (.iaload, 1) := by decide +kernel
theorem dX8_shift_49 : decode cX8_shift 49 = .ok (.if_icmp .eq 6, 3) := by decide +kernel
theorem dX8_shift_52 : decode cX8_shift 52 = .ok (.bipush (-12), 2) := by decide +kernel
theorem dX8_shift_54 : decode cX8_shift 54 = .ok (.ireturn, 1) := by decide +kernel
theorem dX8_shift_55 : decode cX8_shift 55 = .ok (.iload 5, 2) := by decide +kernel
theorem dX8_shift_57 : decode cX8_shift 57 = .ok (.ifCond .lt 61, 3) := by decide +kernel
theorem dX8_shift_60 : decode cX8_shift 60 = .ok (.iload_n 2, 1) := by decide +kernel
theorem dX8_shift_61 : decode cX8_shift 61 = .ok (.ifCond .lt 57, 3) := by decide +kernel
theorem dX8_shift_64 : decode cX8_shift 64 = .ok (.iload 4, 2) := by decide +kernel
theorem dX8_shift_66 : decode cX8_shift 66 = .ok (.ifCond .lt 52, 3) := by decide +kernel
theorem dX8_shift_69 : decode cX8_shift 69 = .ok (.iload 5, 2) := by decide +kernel
theorem dX8_shift_71 : decode cX8_shift 71 = .ok (.aload_n 0, 1) := by decide +kernel
theorem dX8_shift_72 : decode cX8_shift 72 = .ok (.getfield 81, 3) := by decide +kernel
theorem dX8_shift_75 : decode cX8_shift 75 = .ok (.iload_n 1, 1) := by decide +kernel
theorem dX8_shift_76 : decode cX8_shift 76 = .ok (.iaload, 1) := by decide +kernel
theorem dX8_shift_77 : decode cX8_shift 77 = .ok (.if_icmp .gt 41, 3) := by decide +kernel
theorem dX8_shift_80 : decode cX8_shift 80 = .ok (.iload 5, 2) := by decide +kernel
theorem dX8_shift_82 : decode cX8_shift 82 = .ok (.aload_n 0, 1) := by decide +kernel
theorem dX8_shift_83 : decode cX8_shift 83 = .ok (.getfield 81, 3) := by decide +kernel
theorem dX8_shift_86 : decode cX8_shift 86 = .ok (.iload_n 3, 1) := by decide +kernel
theorem dX8_shift_87 : decode cX8_shift 87 = .ok (.iaload, 1) := by decide +kernel
theorem dX8_shift_88 : decode cX8_shift 88 = .ok (.if_icmp .gt 30, 3) := by decide +kernel
theorem dX8_shift_91 : decode cX8_shift 91 = .ok (.iload_n 2, 1) := by decide +kernel
theorem dX8_shift_92 : decode cX8_shift 92 = .ok (.aload_n 0, 1) := by decide +kernel
theorem dX8_shift_93 : decode cX8_shift 93 = .ok (.getfield 81, 3) := by decide +kernel
theorem dX8_shift_96 : decode cX8_shift 96 = .ok (.iload_n 1, 1) := by decide +kernel
theorem dX8_shift_97 : decode cX8_shift 97 = .ok (.iaload, 1) := by decide +kernel
theorem dX8_shift_98 : decode cX8_shift 98 = .ok (.iload 5, 2) := by decide +kernel
theorem dX8_shift_100 : decode cX8_shift 100 = .ok (.isub, 1) := by decide +kernel
theorem dX8_shift_101 : decode cX8_shift 101 = .ok (.if_icmp .gt 17, 3) := by decide +kernel
theorem dX8_shift_104 : decode cX8_shift 104 = .ok (.iload 4, 2) := by decide +kernel
theorem dX8_shift_106 : decode cX8_shift 106 = .ok (.aload_n 0, 1) := by decide +kernel
theorem dX8_shift_107 : decode cX8_shift 107 = .ok (.getfield 81, 3) := by decide +kernel
theorem dX8_shift_110 : decode cX8_shift 110 = .ok (.iload_n 3, 1) := by decide +kernel
theorem dX8_shift_111 : decode cX8_shift 111 = .ok (.iaload, 1) := by decide +kernel
theorem dX8_shift_112 : decode cX8_shift 112 = .ok (.iload 5, 2) := by decide +kernel
theorem dX8_shift_114 : decode cX8_shift 114 = .ok (.isub, 1) := by decide +kernel
theorem dX8_shift_115 : decode cX8_shift 115 = .ok (.if_icmp .le 6, 3) := by decide +kernel
theorem dX8_shift_118 : decode cX8_shift 118 = .ok (.bipush (-13), 2) := by decide +kernel
theorem dX8_shift_120 : decode cX8_shift 120 = .ok (.ireturn, 1) := by decide +kernel
theorem dX8_shift_121 : decode cX8_shift 121 = .ok (.iconst 0, 1) := by decide +kernel
theorem dX8_shift_122 : decode cX8_shift 122 = .ok (.istore 6, 2) := by decide +kernel
theorem dX8_shift_124 : decode cX8_shift 124 = .ok (.iload 6, 2) := by decide +kernel
theorem dX8_shift_126 : decode cX8_shift 126 = .ok (.iload 5, 2) := by decide +kernel
theorem dX8_shift_128 : decode cX8_shift 128 = .ok (.if_icmp .ge 27, 3) := by decide +kernel
theorem dX8_shift_131 : decode cX8_shift 131 = .ok (.aload_n 0, 1) := by decide +kernel
theorem dX8_shift_132 : decode cX8_shift 132 = .ok (.getfield 84, 3) := by decide +kernel
theorem dX8_shift_135 : decode cX8_shift 135 = .ok (.iload 6, 2) := by decide +kernel
theorem dX8_shift_137 : decode cX8_shift 137 = .ok (.aload_n 0, 1) := by decide +kernel
theorem dX8_shift_138 : decode cX8_shift 138 = .ok (.getfield 75, 3) := by decide +kernel
theorem dX8_shift_141 : decode cX8_shift 141 = .ok (.iload_n 1, 1) := by decide +kernel
theorem dX8_shift_142 : decode cX8_shift 142 = .ok (.aaload, 1) := by decide +kernel
theorem dX8_shift_143 : decode cX8_shift 143 = .ok (.iload_n 2, 1) := by decide +kernel
theorem dX8_shift_144 : decode cX8_shift 144 = .ok (.iload 6, 2) := by decide +kernel
theorem dX8_shift_146 : decode cX8_shift 146 = .ok (.iadd, 1) := by decide +kernel
theorem dX8_shift_147 : decode cX8_shift 147 = .ok (.laload, 1) := by decide +kernel
theorem dX8_shift_148 : decode cX8_shift 148 = .ok (.lastore, 1) := by decide +kernel
theorem dX8_shift_149 : decode cX8_shift 149 = .ok (.iinc 6 1, 3) := by decide +kernel
theorem dX8_shift_152 : decode cX8_shift 152 = .ok (.goto (-28), 3) := by decide +kernel
theorem dX8_shift_155 : decode cX8_shift 155 = .ok (.iconst 0, 1) := by decide +kernel
theorem dX8_shift_156 : decode cX8_shift 156 = .ok (.istore 6, 2) := by decide +kernel
theorem dX8_shift_158 : decode cX8_shift 158 = .ok (.iload 6, 2) := by decide +kernel
theorem dX8_shift_160 : decode cX8_shift 160 = .ok (.iload 5, 2) := by decide +kernel
theorem dX8_shift_162 : decode cX8_shift 162 = .ok (.if_icmp .ge 28, 3) := by decide +kernel
theorem dX8_shift_165 : decode cX8_shift 165 = .ok (.aload_n 0, 1) := by decide +kernel
theorem dX8_shift_166 : decode cX8_shift 166 = .ok (.getfield 75, 3) := by decide +kernel
theorem dX8_shift_169 : decode cX8_shift 169 = .ok (.iload_n 3, 1) := by decide +kernel
theorem dX8_shift_170 : decode cX8_shift 170 = .ok (.aaload, 1) := by decide +kernel
theorem dX8_shift_171 : decode cX8_shift 171 = .ok (.iload 4, 2) := by decide +kernel
theorem dX8_shift_173 : decode cX8_shift 173 = .ok (.iload 6, 2) := by decide +kernel
theorem dX8_shift_175 : decode cX8_shift 175 = .ok (.iadd, 1) := by decide +kernel
theorem dX8_shift_176 : decode cX8_shift 176 = .ok (.aload_n 0, 1) := by decide +kernel
theorem dX8_shift_177 : decode cX8_shift 177 = .ok (.getfield 84, 3) := by decide +kernel
theorem dX8_shift_180 : decode cX8_shift 180 = .ok (.iload 6, 2) := by decide +kernel
theorem dX8_shift_182 : decode cX8_shift 182 = .ok (.laload, 1) := by decide +kernel
theorem dX8_shift_183 : decode cX8_shift 183 = .ok (.lastore, 1) := by decide +kernel
theorem dX8_shift_184 : decode cX8_shift 184 = .ok (.iinc 6 1, 3) := by decide +kernel
theorem dX8_shift_187 : decode cX8_shift 187 = .ok (.goto (-29), 3) := by decide +kernel
theorem dX8_shift_190 : decode cX8_shift 190 = .ok (.iload 5, 2) := by decide +kernel
theorem dX8_shift_192 : decode cX8_shift 192 = .ok (.ireturn, 1) := by decide +kernel
end
section
/-! my own rows over the kit: places in families, joins in place, calls that read, calls that write -/
abbrev bw_tys (cI cJ cT cII cJJ : ClassId) : List (ClassId × FieldType) := [(cI, .int), (cJ, .long), (cT, .object "BidMarket$Tape"), (cII, .array .int), (cJJ, .array .long)]
theorem bw_all6 {P : Nat → Prop} (h0 : P 0) (h1 : P 1) (h2 : P 2) (h3 : P 3) (h4 : P 4) (h5 : P 5) : ∀ k, k < 6 → P k := fun k hk => match k, hk with
  | 0, _ => h0 | 1, _ => h1 | 2, _ => h2 | 3, _ => h3 | 4, _ => h4 | 5, _ => h5
  | k + 6, h => absurd h (by omega)
theorem bw_all8 {P : Nat → Prop} (h0 : P 0) (h1 : P 1) (h2 : P 2) (h3 : P 3) (h4 : P 4) (h5 : P 5) (h6 : P 6) (h7 : P 7) : ∀ k, k < 8 → P k := fun k hk => match k, hk with
  | 0, _ => h0 | 1, _ => h1 | 2, _ => h2 | 3, _ => h3 | 4, _ => h4 | 5, _ => h5 | 6, _ => h6 | 7, _ => h7
  | k + 8, h => absurd h (by omega)
theorem bw_lt {i : Int32} {n : Nat} (h : vp_in i n) : i.toNatClampNeg < n := Nat.not_le.mp fun q => h (Or.inr q)
theorem bw_z {x : Int32} (h : x = 0 ∨ x = 1) : narrow .boolean (.int x) = .int x := by rcases h with rfl | rfl <;> rfl
theorem bw_zf {x : Int32} (h : x = 0 ∨ x = 1) : fits .boolean (.int x) = true := by rcases h with rfl | rfl <;> rfl
theorem bw_nd1 {i : Nat} : [i].Nodup := by simp
theorem bw_map1 {ws : va_W} {i : Nat} {x : Nat × va_E} (h : ws[i]? = some x) : [i].map (fun i => ws[i]?) = [x].map some := by simp [h]
theorem bw_map2 {ws : va_W} {i j : Nat} {x y : Nat × va_E} (h : ws[i]? = some x) (h2 : ws[j]? = some y) : [i, j].map (fun i => ws[i]?) = [x, y].map some := by simp [h, h2]
theorem va_P.nil {D : va_G} {cl : List vw_C} {H : Heap} : va_P D cl [] H := fun k q h => by simp at h
theorem bw_swn (hi : Int) (x : Int32) (h : ¬ (x.toInt < 0 ∨ hi < x.toInt)) (h2 : ¬ (0 ≤ x.toInt ∧ x.toInt ≤ hi)) : False := by omega
theorem bw_at {ws wc : va_W} {is : List Nat} (hC : is.map (fun i => ws[i]?) = wc.map some) {k : Nat} {q : Nat × va_E} (h : wc[k]? = some q) : ∃ i, is[k]? = some i ∧ ws[i]? = some q := by
  have h1 : (is.map (fun i => ws[i]?))[k]? = some (some q) := by rw [hC, List.getElem?_map, h]; rfl
  rw [List.getElem?_map] at h1
  cases hi : is[k]? with
  | none => rw [hi] at h1; cases h1
  | some i => rw [hi] at h1; exact ⟨i, rfl, Option.some.inj h1⟩
theorem bw_subP {D : va_G} {cl : List vw_C} {ws wc : va_W} {H : Heap} {is : List Nat} (hP : va_P D cl ws H) (hC : is.map (fun i => ws[i]?) = wc.map some) : va_P D cl wc H := fun k q hq => by
  obtain ⟨i, -, h⟩ := bw_at hC hq
  exact hP i q h
theorem bw_subD {A : Nat → Prop} {ws wc : va_W} {is : List Nat} (hD : va_D A ws) (hC : is.map (fun i => ws[i]?) = wc.map some) (hn : is.Nodup) : va_D (fun _ => True) wc := by
  refine ⟨fun i j p q hi hj hpq => ?_, fun _ _ _ => trivial⟩
  obtain ⟨a, ha, ha2⟩ := bw_at hC hi
  obtain ⟨b, hb, hb2⟩ := bw_at hC hj
  have hab := hD.1 a b p q ha2 hb2 hpq
  subst hab
  obtain ⟨h1, e1⟩ := List.getElem?_eq_some_iff.mp ha
  obtain ⟨h2, e2⟩ := List.getElem?_eq_some_iff.mp hb
  exact (List.getElem_inj hn).mp (e1.trans e2.symm)
def bw_sets (ws : va_W) : List Nat → va_W → va_W
  | i :: is, q :: w => bw_sets (ws.set i q) is w
  | _, _ => ws
theorem bw_setsP {D : va_G} {cl : List vw_C} {H1 : Heap} {A0 : Nat → Prop} : ∀ (is : List Nat) (w1 wc ws : va_W), va_D A0 ws → is.map (fun i => (ws[i]?).map (·.1)) = wc.map (fun q => some q.1) → w1.map (·.1) = wc.map (·.1) → va_P D cl w1 H1 →
    (∀ (k : Nat) (q : Nat × va_E), ws[k]? = some q → k ∉ is → va_at D cl q H1) → (∀ (k : Nat) (q : Nat × va_E), ws[k]? = some q → k ∈ is ∨ va_at D cl q H1) →
    va_P D cl (bw_sets ws is w1) H1 ∧ va_D A0 (bw_sets ws is w1)
  | [], w1, wc, ws, hD, hC, hA, hP1, h1, h2 => by
    unfold bw_sets
    exact ⟨fun k q hq => h1 k q hq (by simp), hD⟩
  | i :: is, [], wc, ws, hD, hC, hA, hP1, h1, h2 => by
    have : wc = [] := by cases wc with | nil => rfl | cons _ _ => simp at hA
    subst this
    simp at hC
  | i :: is, q :: w, [], ws, hD, hC, hA, hP1, h1, h2 => by simp at hA
  | i :: is, q :: w, c :: wc, ws, hD, hC, hA, hP1, h1, h2 => by
    unfold bw_sets
    simp only [List.map_cons, List.cons.injEq] at hC hA
    obtain ⟨hc1, hc2⟩ := hC
    obtain ⟨ha1, ha2⟩ := hA
    have hq : va_at D cl q H1 := hP1 0 q rfl
    obtain ⟨x, hx, hx2⟩ := Option.map_eq_some_iff.mp hc1
    have hil : i < ws.length := (List.getElem?_eq_some_iff.mp hx).1
    have hxq : x.1 = q.1 := by rw [hx2, ha1]
    have hD2 : va_D A0 (ws.set i q) := by
      refine ⟨fun a b p r hp hr hpr => ?_, fun k r hk => ?_⟩
      · rw [List.getElem?_set] at hp hr
        by_cases h3 : i = a <;> by_cases h4 : i = b
        · exact h3.symm.trans h4
        · rw [if_pos h3, if_pos (by omega)] at hp
          rw [if_neg h4] at hr
          cases hp
          exact (hD.1 a b x r (h3 ▸ hx) hr (by rw [hxq]; exact hpr))
        · rw [if_neg h3] at hp
          rw [if_pos h4, if_pos (by omega)] at hr
          cases hr
          exact (hD.1 a b p x hp (h4 ▸ hx) (by rw [hxq]; exact hpr))
        · rw [if_neg h3] at hp
          rw [if_neg h4] at hr
          exact hD.1 a b p r hp hr hpr
      · rw [List.getElem?_set] at hk
        by_cases h3 : i = k
        · rw [if_pos h3, if_pos (by omega)] at hk
          cases hk
          rw [← hxq]
          exact hD.2 i x hx
        · rw [if_neg h3] at hk
          exact hD.2 k r hk
    refine bw_setsP is w wc (ws.set i q) hD2 ?_ ha2 (fun k r hk => hP1 (k + 1) r hk) ?_ ?_
    · rw [← hc2]
      apply List.map_congr_left
      intro k _
      rw [List.getElem?_set]
      by_cases h3 : i = k
      · rw [if_pos h3, if_pos (by omega), ← h3, hx]
        simp [hxq]
      · rw [if_neg h3]
    · intro k r hk hn
      rw [List.getElem?_set] at hk
      by_cases h3 : i = k
      · rw [if_pos h3, if_pos (by omega)] at hk
        cases hk
        exact hq
      · rw [if_neg h3] at hk
        exact h1 k r hk (by simp only [List.mem_cons, not_or]; exact ⟨fun h => h3 h.symm, hn⟩)
    · intro k r hk
      rw [List.getElem?_set] at hk
      by_cases h3 : i = k
      · rw [if_pos h3, if_pos (by omega)] at hk
        cases hk
        exact Or.inr hq
      · rw [if_neg h3] at hk
        by_cases h4 : k ∈ is
        · exact Or.inl h4
        · exact Or.inr (h1 k r hk (by simp only [List.mem_cons, not_or]; exact ⟨fun h => h3 h.symm, h4⟩))
theorem bw_join {A0 : Nat → Prop} {D : va_G} {cl : List vw_C} {ws wc w1 : va_W} {H H1 : Heap} (hP : va_P D cl ws H) (hD : va_D A0 ws) (is : List Nat) (hC : is.map (fun i => ws[i]?) = wc.map some) (hA : w1.map (·.1) = wc.map (·.1))
    (hk : ∀ q : Nat, q < H.size → ¬ va_A wc H.size q → H1[q]? = H[q]?) (hP1 : va_P D cl w1 H1) : va_P D cl (bw_sets ws is w1) H1 ∧ va_D A0 (bw_sets ws is w1) := by
  have hkeep : ∀ (k : Nat) (q : Nat × va_E), ws[k]? = some q → k ∉ is → va_at D cl q H1 := by
    intro k q hq hn
    have hl := (hP k q hq).lt
    refine (hP k q hq).kept (hk q.1 hl fun h => ?_)
    rcases h with ⟨j, e, h⟩ | h
    · obtain ⟨i, h3, h4⟩ := bw_at hC h
      have := hD.1 k i q (q.1, e) hq h4 rfl
      subst this
      exact hn (List.mem_of_getElem? h3)
    · omega
  refine bw_setsP is w1 wc ws hD ?_ hA hP1 hkeep (fun k q hq => ?_)
  · have := congrArg (List.map (fun o : Option (Nat × va_E) => o.map (·.1))) hC
    rw [List.map_map, List.map_map] at this
    exact this
  · by_cases h : k ∈ is
    · exact Or.inl h
    · exact Or.inr (hkeep k q hq h)
section BWK
variable {p : Program} {l : Launch} {e : Env} {R : Room} {s : State} {m : MethodId} {args : Array Value} {below : List Frame} {meth : Method} {c : Code} {H : Heap} {locs : List Loc} {cells slots : Nat} {Q : State → Prop}
variable {cc : ByteArray} {pc : Nat} {ls : Array Slot} {rest st As : List Value} {D : va_G} {cl : List vw_C} {A : Nat → Prop} {a b : Nat} {tys : List (ClassId × FieldType)} {ws wc : va_W} {H0 : Heap}
variable {y : MethodName} {bytes : ByteArray} {maxL nL n index : Nat} {ret : Option FieldType} {wsy Ts : List Cond} {rm : Room} {own C : String} {ci : Nat} {fs : List Value} {q : vw_C}
theorem bw_aald {ty : FieldType} {g : Nat → Nat} {i : Int32} {n : Nat} {f : Nat → Option Nat} {cA : ClassId} {b : Nat} (hexec : p.tables.exec = Jvm.exec) (hb : c.code = cc) (hK : va_K D cl tys s) (hP : va_P D cl ws H) (q0 t0 : Nat) (ha : ws[q0]? = some (a, .inl (cA, n, .inr (.inr (.inr (.inr f)))))) (ht : tys[t0]? = some (cA, ty)) (hty : ty.isReference = true) (hg : ∀ k, k < n → f k = some (g k)) (hin : vp_in i n) (hbq : g i.toNatClampNeg = b) (hdg : decode cc pc = .ok (.aaload, 1))
    (kk : W p l e R s m args below meth c H locs cells slots Q (F0 m (pc + 1) ls (.ref b :: rest))) : W p l e R s m args below meth c H locs cells slots Q (F0 m pc ls (.int i :: .ref a :: rest)) := by
  have hlt : i.toNatClampNeg < n := Nat.not_le.mp fun q => hin (Or.inr q)
  subst hbq
  exact W.aald (v := .ref (g i.toNatClampNeg)) (ty := ty) hexec hb (hP q0 _ ha) ((hK.2 t0 _ ht).1 n (fun j => va_rf (f j))) hty (fun q => by cases q) (by show ¬ (i < 0 ∨ (arrV _ _ _).slots.size ≤ _); rw [arrV_size]; exact hin) (by show (arrV _ _ _).slots[_]? = _; rw [arrV_read _ _ hlt, hg _ hlt]; rfl) rfl rfl hdg kk
theorem bw_blindP {av : List Value} : FrameBlind (va_Pc av (fun U => va_P D cl wc U.heap ∧ va_K D cl tys U)) := fun a U g mk q => ⟨q.1, q.2.1, va_K.moved (u := U) (U := U.calling g mk a) (Vm.Alike.refl U.vm) q.2.2⟩
theorem bw_blindW {av : List Value} {sz : Nat} {A : Nat → Prop} : FrameBlind (va_Pc av (fun U => U.heap.size = sz ∧ va_P D cl wc U.heap ∧ va_K D cl tys U ∧ va_D A wc)) := fun a U g mk q => ⟨q.1, q.2.1, q.2.2.1, va_K.moved (u := U) (U := U.calling g mk a) (Vm.Alike.refl U.vm) q.2.2.2.1, q.2.2.2.2⟩
theorem bw_pvi {Post : Int32 → Prop} (S : CallFix p m c cc nL s args Ts own) (hM : Met l y wsy rm (va_Pc (.ref b :: As) (fun U => va_P D cl wc U.heap ∧ va_K D cl tys U)) (vp_Si Post) 0 0 (fun _ => False)) (cw : CallW R s args own C index y bytes maxL ret wsy rm 0 0 n)
    (hK : va_K D cl tys s) (hP : va_P D cl ws H) (is : List Nat) (hC : is.map (fun i => ws[i]?) = wc.map some) (hr0 : wc[0]? = some (b, .inr (ci, fs))) (hci : cl[ci]? = some q) (hq : q.1 = C) (hn : As.length = n) (hsz : ls.size = nL) (hst : st = As.reverse ++ .ref b :: rest) (hro : (rest.map fun v => v.category).sum ≤ 8) (hf : cells ≤ R.cells ∧ slots ≤ R.slots) (hdg : decode cc pc = .ok (.invokevirtual index, 3))
    (kk : ∀ r : Int32, Post r → W p l e R s m args below meth c H locs cells slots Q (F0 m (pc + 3) ls (.int r :: rest))) : W p l e R s m args below meth c H locs cells slots Q (F0 m pc ls st) := by
  have hPc := bw_subP hP hC
  subst hq
  exact vp_callSi (W.runV S hM cw ⟨bw_blindP, va_recv hK hPc hci hr0, fun U hU hW => ⟨rfl, by rw [hU]; exact hPc, va_K.moved hW.alike hK⟩⟩ rfl hn hsz hst (lv_room hro) hdg hf) kk
theorem bw_pvl {Post : Int64 → Prop} (S : CallFix p m c cc nL s args Ts own) (hM : Met l y wsy rm (va_Pc (.ref b :: As) (fun U => va_P D cl wc U.heap ∧ va_K D cl tys U)) (vp_Sl Post) 0 0 (fun _ => False)) (cw : CallW R s args own C index y bytes maxL ret wsy rm 0 0 n)
    (hK : va_K D cl tys s) (hP : va_P D cl ws H) (is : List Nat) (hC : is.map (fun i => ws[i]?) = wc.map some) (hr0 : wc[0]? = some (b, .inr (ci, fs))) (hci : cl[ci]? = some q) (hq : q.1 = C) (hn : As.length = n) (hsz : ls.size = nL) (hst : st = As.reverse ++ .ref b :: rest) (hro : (rest.map fun v => v.category).sum ≤ 8) (hf : cells ≤ R.cells ∧ slots ≤ R.slots) (hdg : decode cc pc = .ok (.invokevirtual index, 3))
    (kk : ∀ r : Int64, Post r → W p l e R s m args below meth c H locs cells slots Q (F0 m (pc + 3) ls (.long r :: rest))) : W p l e R s m args below meth c H locs cells slots Q (F0 m pc ls st) := by
  have hPc := bw_subP hP hC
  subst hq
  exact vp_callSl (W.runV S hM cw ⟨bw_blindP, va_recv hK hPc hci hr0, fun U hU hW => ⟨rfl, by rw [hU]; exact hPc, va_K.moved hW.alike hK⟩⟩ rfl hn hsz hst (lv_room hro) hdg hf) kk
theorem bw_psi {Post : Int32 → Prop} (S : CallFix p m c cc nL s args Ts own) (hM : Met l y wsy rm (va_Pc As (fun U => va_P D cl wc U.heap ∧ va_K D cl tys U)) (vp_Si Post) 0 0 (fun _ => False)) (cw : CallB R s args own index y bytes maxL ret wsy rm 0 0 n ∧ (Cond.static y).before args s = true)
    (hK : va_K D cl tys s) (hP : va_P D cl ws H) (is : List Nat) (hC : is.map (fun i => ws[i]?) = wc.map some) (hn : As.length = n) (hsz : ls.size = nL) (hst : st = As.reverse ++ rest) (hro : (rest.map fun v => v.category).sum ≤ 8) (hf : cells ≤ R.cells ∧ slots ≤ R.slots) (hdg : decode cc pc = .ok (.invokestatic index, 3))
    (kk : ∀ r : Int32, Post r → W p l e R s m args below meth c H locs cells slots Q (F0 m (pc + 3) ls (.int r :: rest))) : W p l e R s m args below meth c H locs cells slots Q (F0 m pc ls st) := by
  have hPc := bw_subP hP hC
  exact vp_callSi (W.runS S hM cw ⟨bw_blindP, fun U hU hW => ⟨rfl, by rw [hU]; exact hPc, va_K.moved hW.alike hK⟩⟩ rfl hn hsz hst (lv_room hro) hdg hf) kk
theorem bw_psl {Post : Int64 → Prop} (S : CallFix p m c cc nL s args Ts own) (hM : Met l y wsy rm (va_Pc As (fun U => va_P D cl wc U.heap ∧ va_K D cl tys U)) (vp_Sl Post) 0 0 (fun _ => False)) (cw : CallB R s args own index y bytes maxL ret wsy rm 0 0 n ∧ (Cond.static y).before args s = true)
    (hK : va_K D cl tys s) (hP : va_P D cl ws H) (is : List Nat) (hC : is.map (fun i => ws[i]?) = wc.map some) (hn : As.length = n) (hsz : ls.size = nL) (hst : st = As.reverse ++ rest) (hro : (rest.map fun v => v.category).sum ≤ 8) (hf : cells ≤ R.cells ∧ slots ≤ R.slots) (hdg : decode cc pc = .ok (.invokestatic index, 3))
    (kk : ∀ r : Int64, Post r → W p l e R s m args below meth c H locs cells slots Q (F0 m (pc + 3) ls (.long r :: rest))) : W p l e R s m args below meth c H locs cells slots Q (F0 m pc ls st) := by
  have hPc := bw_subP hP hC
  exact vp_callSl (W.runS S hM cw ⟨bw_blindP, fun U hU hW => ⟨rfl, by rw [hU]; exact hPc, va_K.moved hW.alike hK⟩⟩ rfl hn hsz hst (lv_room hro) hdg hf) kk
theorem bw_in {A0 : Nat → Prop} {is : List Nat} {locs : List Loc} (hD : va_D A0 ws) (hS : va_S A0 H0 H locs) (hA : ∀ q, H0.size ≤ q → A0 q) (hC : is.map (fun i => ws[i]?) = wc.map some) : ∀ q, va_A wc H.size q → A0 q := va_free hD hS hA is hC
theorem bw_wvi {S1 : Type} {Post : Int32 → S1 → Prop} {w1 : S1 → va_W} {A0 : Nat → Prop} (S : CallFix p m c cc nL s args Ts own) (hM : Met l y wsy rm (va_Pc (.ref b :: As) (fun U => U.heap.size = H.size ∧ va_P D cl wc U.heap ∧ va_K D cl tys U ∧ va_D (fun _ => True) wc)) (va_Qi Post (fun u t => va_P D cl (w1 u) t.heap) (va_A wc H.size)) 0 0 (va_A wc H.size)) (cw : CallW R s args own C index y bytes maxL ret wsy rm 0 0 n)
    (hK : va_K D cl tys s) (hP : va_P D cl ws H) (hD : va_D A0 ws) (hS : va_S A0 H0 H locs) (hA : ∀ q, H0.size ≤ q → A0 q) (is : List Nat) (hC : is.map (fun i => ws[i]?) = wc.map some) (hnd : is.Nodup) (hw1 : ∀ u, (w1 u).map (·.1) = wc.map (·.1)) (hr0 : wc[0]? = some (b, .inr (ci, fs))) (hci : cl[ci]? = some q) (hq : q.1 = C) (hn : As.length = n) (hsz : ls.size = nL) (hst : st = As.reverse ++ .ref b :: rest) (hro : (rest.map fun v => v.category).sum ≤ 8) (hf : cells ≤ R.cells ∧ slots ≤ R.slots) (hdg : decode cc pc = .ok (.invokevirtual index, 3))
    (kk : ∀ (r : Int32) (u : S1) (H1 : Heap) (locs1 : List Loc), Post r u → va_P D cl (bw_sets ws is (w1 u)) H1 → va_D A0 (bw_sets ws is (w1 u)) → va_S A0 H0 H1 locs1 → W p l e R s m args below meth c H1 locs1 cells slots Q (F0 m (pc + 3) ls (.int r :: rest))) : W p l e R s m args below meth c H locs cells slots Q (F0 m pc ls st) := by
  have hPc := bw_subP hP hC
  have hDc := bw_subD hD hC hnd
  have hFc := bw_in hD hS hA hC
  subst hq
  exact va_calli (va_runV S hM cw ⟨bw_blindW, va_recv hK hPc hci hr0, fun U hU hW => ⟨rfl, by rw [hU], by rw [hU]; exact hPc, va_K.moved hW.alike hK, hDc⟩⟩ rfl hn hsz hst (lv_room hro) hdg hf) hS (fun q _ h => hFc q h) hFc (fun r u t H1 locs1 ht _ hw hB _ hk1 hS1 => by
    obtain ⟨j1, j2⟩ := bw_join hP hD is hC (hw1 u) hk1 (by rw [← ht]; exact hB)
    exact kk r u H1 locs1 hw j1 j2 hS1)
theorem bw_wvv {S1 : Type} {Post : S1 → Prop} {w1 : S1 → va_W} {A0 : Nat → Prop} (S : CallFix p m c cc nL s args Ts own) (hM : Met l y wsy rm (va_Pc (.ref b :: As) (fun U => U.heap.size = H.size ∧ va_P D cl wc U.heap ∧ va_K D cl tys U ∧ va_D (fun _ => True) wc)) (va_Qv Post (fun u t => va_P D cl (w1 u) t.heap) (va_A wc H.size)) 0 0 (va_A wc H.size)) (cw : CallW R s args own C index y bytes maxL ret wsy rm 0 0 n)
    (hK : va_K D cl tys s) (hP : va_P D cl ws H) (hD : va_D A0 ws) (hS : va_S A0 H0 H locs) (hA : ∀ q, H0.size ≤ q → A0 q) (is : List Nat) (hC : is.map (fun i => ws[i]?) = wc.map some) (hnd : is.Nodup) (hw1 : ∀ u, (w1 u).map (·.1) = wc.map (·.1)) (hr0 : wc[0]? = some (b, .inr (ci, fs))) (hci : cl[ci]? = some q) (hq : q.1 = C) (hn : As.length = n) (hsz : ls.size = nL) (hst : st = As.reverse ++ .ref b :: rest) (hro : (rest.map fun v => v.category).sum ≤ 8) (hf : cells ≤ R.cells ∧ slots ≤ R.slots) (hdg : decode cc pc = .ok (.invokevirtual index, 3))
    (kk : ∀ (u : S1) (H1 : Heap) (locs1 : List Loc), Post u → va_P D cl (bw_sets ws is (w1 u)) H1 → va_D A0 (bw_sets ws is (w1 u)) → va_S A0 H0 H1 locs1 → W p l e R s m args below meth c H1 locs1 cells slots Q (F0 m (pc + 3) ls rest)) : W p l e R s m args below meth c H locs cells slots Q (F0 m pc ls st) := by
  have hPc := bw_subP hP hC
  have hDc := bw_subD hD hC hnd
  have hFc := bw_in hD hS hA hC
  subst hq
  exact va_callv (va_runV S hM cw ⟨bw_blindW, va_recv hK hPc hci hr0, fun U hU hW => ⟨rfl, by rw [hU], by rw [hU]; exact hPc, va_K.moved hW.alike hK, hDc⟩⟩ rfl hn hsz hst (lv_room hro) hdg hf) hS (fun q _ h => hFc q h) hFc (fun u t H1 locs1 ht _ hw hB _ hk1 hS1 => by
    obtain ⟨j1, j2⟩ := bw_join hP hD is hC (hw1 u) hk1 (by rw [← ht]; exact hB)
    exact kk u H1 locs1 hw j1 j2 hS1)
theorem bw_wvl {S1 : Type} {Post : Int64 → S1 → Prop} {w1 : S1 → va_W} {A0 : Nat → Prop} (S : CallFix p m c cc nL s args Ts own) (hM : Met l y wsy rm (va_Pc (.ref b :: As) (fun U => U.heap.size = H.size ∧ va_P D cl wc U.heap ∧ va_K D cl tys U ∧ va_D (fun _ => True) wc)) (va_Ql Post (fun u t => va_P D cl (w1 u) t.heap) (va_A wc H.size)) 0 0 (va_A wc H.size)) (cw : CallW R s args own C index y bytes maxL ret wsy rm 0 0 n)
    (hK : va_K D cl tys s) (hP : va_P D cl ws H) (hD : va_D A0 ws) (hS : va_S A0 H0 H locs) (hA : ∀ q, H0.size ≤ q → A0 q) (is : List Nat) (hC : is.map (fun i => ws[i]?) = wc.map some) (hnd : is.Nodup) (hw1 : ∀ u, (w1 u).map (·.1) = wc.map (·.1)) (hr0 : wc[0]? = some (b, .inr (ci, fs))) (hci : cl[ci]? = some q) (hq : q.1 = C) (hn : As.length = n) (hsz : ls.size = nL) (hst : st = As.reverse ++ .ref b :: rest) (hro : (rest.map fun v => v.category).sum ≤ 8) (hf : cells ≤ R.cells ∧ slots ≤ R.slots) (hdg : decode cc pc = .ok (.invokevirtual index, 3))
    (kk : ∀ (r : Int64) (u : S1) (H1 : Heap) (locs1 : List Loc), Post r u → va_P D cl (bw_sets ws is (w1 u)) H1 → va_D A0 (bw_sets ws is (w1 u)) → va_S A0 H0 H1 locs1 → W p l e R s m args below meth c H1 locs1 cells slots Q (F0 m (pc + 3) ls (.long r :: rest))) : W p l e R s m args below meth c H locs cells slots Q (F0 m pc ls st) := by
  have hPc := bw_subP hP hC
  have hDc := bw_subD hD hC hnd
  have hFc := bw_in hD hS hA hC
  subst hq
  exact va_calll (va_runV S hM cw ⟨bw_blindW, va_recv hK hPc hci hr0, fun U hU hW => ⟨rfl, by rw [hU], by rw [hU]; exact hPc, va_K.moved hW.alike hK, hDc⟩⟩ rfl hn hsz hst (lv_room hro) hdg hf) hS (fun q _ h => hFc q h) hFc (fun r u t H1 locs1 ht _ hw hB _ hk1 hS1 => by
    obtain ⟨j1, j2⟩ := bw_join hP hD is hC (hw1 u) hk1 (by rw [← ht]; exact hB)
    exact kk r u H1 locs1 hw j1 j2 hS1)
theorem bw_wsv {S1 : Type} {Post : S1 → Prop} {w1 : S1 → va_W} {A0 : Nat → Prop} (S : CallFix p m c cc nL s args Ts own) (hM : Met l y wsy rm (va_Pc As (fun U => U.heap.size = H.size ∧ va_P D cl wc U.heap ∧ va_K D cl tys U ∧ va_D (fun _ => True) wc)) (va_Qv Post (fun u t => va_P D cl (w1 u) t.heap) (va_A wc H.size)) 0 0 (va_A wc H.size)) (cw : CallB R s args own index y bytes maxL ret wsy rm 0 0 n ∧ (Cond.static y).before args s = true)
    (hK : va_K D cl tys s) (hP : va_P D cl ws H) (hD : va_D A0 ws) (hS : va_S A0 H0 H locs) (hA : ∀ q, H0.size ≤ q → A0 q) (is : List Nat) (hC : is.map (fun i => ws[i]?) = wc.map some) (hnd : is.Nodup) (hw1 : ∀ u, (w1 u).map (·.1) = wc.map (·.1)) (hn : As.length = n) (hsz : ls.size = nL) (hst : st = As.reverse ++ rest) (hro : (rest.map fun v => v.category).sum ≤ 8) (hf : cells ≤ R.cells ∧ slots ≤ R.slots) (hdg : decode cc pc = .ok (.invokestatic index, 3))
    (kk : ∀ (u : S1) (H1 : Heap) (locs1 : List Loc), Post u → va_P D cl (bw_sets ws is (w1 u)) H1 → va_D A0 (bw_sets ws is (w1 u)) → va_S A0 H0 H1 locs1 → W p l e R s m args below meth c H1 locs1 cells slots Q (F0 m (pc + 3) ls rest)) : W p l e R s m args below meth c H locs cells slots Q (F0 m pc ls st) := by
  have hPc := bw_subP hP hC
  have hDc := bw_subD hD hC hnd
  have hFc := bw_in hD hS hA hC
  exact va_callv (va_runS S hM cw ⟨bw_blindW, fun U hU hW => ⟨rfl, by rw [hU], by rw [hU]; exact hPc, va_K.moved hW.alike hK, hDc⟩⟩ rfl hn hsz hst (lv_room hro) hdg hf) hS (fun q _ h => hFc q h) hFc (fun u t H1 locs1 ht _ hw hB _ hk1 hS1 => by
    obtain ⟨j1, j2⟩ := bw_join hP hD is hC (hw1 u) hk1 (by rw [← ht]; exact hB)
    exact kk u H1 locs1 hw j1 j2 hS1)
end BWK
end
