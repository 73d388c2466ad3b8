section
-- ===== PART A: goes FIRST, ahead of the names: the tables' words, and 'selects' of the private methods out of them =====
/-- a private method of a class that the tables say can be made, by its rows of tables_1 -/
def lw_okq (q : MethodName × Nat) : Prop := (q.1.cls ≠ "java/lang/invoke/MethodHandle" ∧ q.1.cls ≠ "java/lang/invoke/VarHandle") ∧ Cond.instantiable q.1.cls q.2 ∈ tables_1 ∧ Cond.privateMethod q.1 ∈ tables_1 ∧ Cond.instanceMethod q.1 ∈ tables_1
theorem lw_p0 : lw_okq (⟨"PlaySpans", "hasHand", "(I)Z"⟩, 4) := ⟨⟨by decide +kernel, by decide +kernel⟩, List.mem_of_getElem? (i := 16) (by decide +kernel), List.mem_of_getElem? (i := 221) (by decide +kernel), List.mem_of_getElem? (i := 222) (by decide +kernel)⟩
theorem lw_p1 : lw_okq (⟨"PlaySpans", "fits", "(II)Z"⟩, 4) := ⟨⟨by decide +kernel, by decide +kernel⟩, List.mem_of_getElem? (i := 16) (by decide +kernel), List.mem_of_getElem? (i := 228) (by decide +kernel), List.mem_of_getElem? (i := 229) (by decide +kernel)⟩
theorem lw_p2 : lw_okq (⟨"PlaySpans$Piece", "lastOfHand", "(II)I"⟩, 8) := ⟨⟨by decide +kernel, by decide +kernel⟩, List.mem_of_getElem? (i := 42) (by decide +kernel), List.mem_of_getElem? (i := 232) (by decide +kernel), List.mem_of_getElem? (i := 233) (by decide +kernel)⟩
theorem lw_p3 : lw_okq (⟨"PlaySpans$Piece", "timeOf", "(I)I"⟩, 8) := ⟨⟨by decide +kernel, by decide +kernel⟩, List.mem_of_getElem? (i := 42) (by decide +kernel), List.mem_of_getElem? (i := 237) (by decide +kernel), List.mem_of_getElem? (i := 238) (by decide +kernel)⟩
theorem lw_p4 : lw_okq (⟨"PlaySpans$Piece", "lengthOf", "(I)I"⟩, 8) := ⟨⟨by decide +kernel, by decide +kernel⟩, List.mem_of_getElem? (i := 42) (by decide +kernel), List.mem_of_getElem? (i := 241) (by decide +kernel), List.mem_of_getElem? (i := 242) (by decide +kernel)⟩
theorem lw_p5 : lw_okq (⟨"PlaySpans$Piece", "add", "(IIIIII)V"⟩, 8) := ⟨⟨by decide +kernel, by decide +kernel⟩, List.mem_of_getElem? (i := 42) (by decide +kernel), List.mem_of_getElem? (i := 245) (by decide +kernel), List.mem_of_getElem? (i := 246) (by decide +kernel)⟩
theorem lw_p6 : lw_okq (⟨"PlaySpans", "forgetAnswers", "()V"⟩, 4) := ⟨⟨by decide +kernel, by decide +kernel⟩, List.mem_of_getElem? (i := 16) (by decide +kernel), List.mem_of_getElem? (i := 250) (by decide +kernel), List.mem_of_getElem? (i := 251) (by decide +kernel)⟩
theorem lw_p7 : lw_okq (⟨"PlaySpans$Piece", "boundOf", "(I)I"⟩, 8) := ⟨⟨by decide +kernel, by decide +kernel⟩, List.mem_of_getElem? (i := 42) (by decide +kernel), List.mem_of_getElem? (i := 266) (by decide +kernel), List.mem_of_getElem? (i := 267) (by decide +kernel)⟩
theorem lw_p8 : lw_okq (⟨"PlaySpans$Piece", "setBound", "(II)V"⟩, 8) := ⟨⟨by decide +kernel, by decide +kernel⟩, List.mem_of_getElem? (i := 42) (by decide +kernel), List.mem_of_getElem? (i := 270) (by decide +kernel), List.mem_of_getElem? (i := 271) (by decide +kernel)⟩
theorem lw_p9 : lw_okq (⟨"PlaySpans$Piece", "has", "(I)Z"⟩, 8) := ⟨⟨by decide +kernel, by decide +kernel⟩, List.mem_of_getElem? (i := 42) (by decide +kernel), List.mem_of_getElem? (i := 278) (by decide +kernel), List.mem_of_getElem? (i := 279) (by decide +kernel)⟩
theorem lw_p10 : lw_okq (⟨"PlaySpans$Piece", "pinOf", "(I)I"⟩, 8) := ⟨⟨by decide +kernel, by decide +kernel⟩, List.mem_of_getElem? (i := 42) (by decide +kernel), List.mem_of_getElem? (i := 282) (by decide +kernel), List.mem_of_getElem? (i := 283) (by decide +kernel)⟩
theorem lw_p11 : lw_okq (⟨"PlaySpans$Piece", "setPin", "(II)V"⟩, 8) := ⟨⟨by decide +kernel, by decide +kernel⟩, List.mem_of_getElem? (i := 42) (by decide +kernel), List.mem_of_getElem? (i := 286) (by decide +kernel), List.mem_of_getElem? (i := 287) (by decide +kernel)⟩
theorem lw_p12 : lw_okq (⟨"PlaySpans$Piece", "inCompass", "(I)Z"⟩, 8) := ⟨⟨by decide +kernel, by decide +kernel⟩, List.mem_of_getElem? (i := 42) (by decide +kernel), List.mem_of_getElem? (i := 303) (by decide +kernel), List.mem_of_getElem? (i := 304) (by decide +kernel)⟩
theorem lw_p13 : lw_okq (⟨"PlaySpans$Piece", "lowestOf", "(I)I"⟩, 8) := ⟨⟨by decide +kernel, by decide +kernel⟩, List.mem_of_getElem? (i := 42) (by decide +kernel), List.mem_of_getElem? (i := 307) (by decide +kernel), List.mem_of_getElem? (i := 308) (by decide +kernel)⟩
theorem lw_p14 : lw_okq (⟨"PlaySpans$Piece", "highestOf", "(I)I"⟩, 8) := ⟨⟨by decide +kernel, by decide +kernel⟩, List.mem_of_getElem? (i := 42) (by decide +kernel), List.mem_of_getElem? (i := 311) (by decide +kernel), List.mem_of_getElem? (i := 312) (by decide +kernel)⟩
theorem lw_p15 : lw_okq (⟨"PlaySpans$Piece", "sizeOf", "(I)I"⟩, 8) := ⟨⟨by decide +kernel, by decide +kernel⟩, List.mem_of_getElem? (i := 42) (by decide +kernel), List.mem_of_getElem? (i := 327) (by decide +kernel), List.mem_of_getElem? (i := 328) (by decide +kernel)⟩
def lw_privs_1 : List (MethodName × Nat) := [(⟨"PlaySpans", "hasHand", "(I)Z"⟩, 4), (⟨"PlaySpans", "fits", "(II)Z"⟩, 4), (⟨"PlaySpans$Piece", "lastOfHand", "(II)I"⟩, 8), (⟨"PlaySpans$Piece", "timeOf", "(I)I"⟩, 8), (⟨"PlaySpans$Piece", "lengthOf", "(I)I"⟩, 8), (⟨"PlaySpans$Piece", "add", "(IIIIII)V"⟩, 8), (⟨"PlaySpans", "forgetAnswers", "()V"⟩, 4), (⟨"PlaySpans$Piece", "boundOf", "(I)I"⟩, 8), (⟨"PlaySpans$Piece", "setBound", "(II)V"⟩, 8), (⟨"PlaySpans$Piece", "has", "(I)Z"⟩, 8), (⟨"PlaySpans$Piece", "pinOf", "(I)I"⟩, 8), (⟨"PlaySpans$Piece", "setPin", "(II)V"⟩, 8), (⟨"PlaySpans$Piece", "inCompass", "(I)Z"⟩, 8), (⟨"PlaySpans$Piece", "lowestOf", "(I)I"⟩, 8), (⟨"PlaySpans$Piece", "highestOf", "(I)I"⟩, 8), (⟨"PlaySpans$Piece", "sizeOf", "(I)I"⟩, 8)]
theorem lw_r1 : ∀ q ∈ lw_privs_1, lw_okq q := List.forall_mem_cons.mpr ⟨lw_p0, List.forall_mem_cons.mpr ⟨lw_p1, List.forall_mem_cons.mpr ⟨lw_p2, List.forall_mem_cons.mpr ⟨lw_p3, List.forall_mem_cons.mpr ⟨lw_p4, List.forall_mem_cons.mpr ⟨lw_p5, List.forall_mem_cons.mpr ⟨lw_p6, List.forall_mem_cons.mpr ⟨lw_p7, List.forall_mem_cons.mpr ⟨lw_p8, List.forall_mem_cons.mpr ⟨lw_p9, List.forall_mem_cons.mpr ⟨lw_p10, List.forall_mem_cons.mpr ⟨lw_p11, List.forall_mem_cons.mpr ⟨lw_p12, List.forall_mem_cons.mpr ⟨lw_p13, List.forall_mem_cons.mpr ⟨lw_p14, List.forall_mem_cons.mpr ⟨lw_p15, fun _ h => absurd h List.not_mem_nil⟩⟩⟩⟩⟩⟩⟩⟩⟩⟩⟩⟩⟩⟩⟩⟩
theorem lw_p16 : lw_okq (⟨"PlaySpans$Keyboard", "stretch", "(II)I"⟩, 7) := ⟨⟨by decide +kernel, by decide +kernel⟩, List.mem_of_getElem? (i := 33) (by decide +kernel), List.mem_of_getElem? (i := 331) (by decide +kernel), List.mem_of_getElem? (i := 332) (by decide +kernel)⟩
theorem lw_p17 : lw_okq (⟨"PlaySpans$Keyboard", "noteOfFinger", "(II)I"⟩, 7) := ⟨⟨by decide +kernel, by decide +kernel⟩, List.mem_of_getElem? (i := 33) (by decide +kernel), List.mem_of_getElem? (i := 338) (by decide +kernel), List.mem_of_getElem? (i := 339) (by decide +kernel)⟩
theorem lw_p18 : lw_okq (⟨"PlaySpans$Piece", "handOf", "(I)I"⟩, 8) := ⟨⟨by decide +kernel, by decide +kernel⟩, List.mem_of_getElem? (i := 42) (by decide +kernel), List.mem_of_getElem? (i := 342) (by decide +kernel), List.mem_of_getElem? (i := 343) (by decide +kernel)⟩
theorem lw_p19 : lw_okq (⟨"PlaySpans$Piece", "pitchOf", "(II)I"⟩, 8) := ⟨⟨by decide +kernel, by decide +kernel⟩, List.mem_of_getElem? (i := 42) (by decide +kernel), List.mem_of_getElem? (i := 346) (by decide +kernel), List.mem_of_getElem? (i := 347) (by decide +kernel)⟩
theorem lw_p20 : lw_okq (⟨"PlaySpans$Keyboard", "placeOf", "(II)I"⟩, 7) := ⟨⟨by decide +kernel, by decide +kernel⟩, List.mem_of_getElem? (i := 33) (by decide +kernel), List.mem_of_getElem? (i := 354) (by decide +kernel), List.mem_of_getElem? (i := 355) (by decide +kernel)⟩
theorem lw_p21 : lw_okq (⟨"PlaySpans$Sticks", "latestOfTwo", "(I)I"⟩, 7) := ⟨⟨by decide +kernel, by decide +kernel⟩, List.mem_of_getElem? (i := 158) (by decide +kernel), List.mem_of_getElem? (i := 387) (by decide +kernel), List.mem_of_getElem? (i := 388) (by decide +kernel)⟩
theorem lw_p22 : lw_okq (⟨"PlaySpans$Sticks", "crossing", "(III)I"⟩, 7) := ⟨⟨by decide +kernel, by decide +kernel⟩, List.mem_of_getElem? (i := 158) (by decide +kernel), List.mem_of_getElem? (i := 391) (by decide +kernel), List.mem_of_getElem? (i := 392) (by decide +kernel)⟩
theorem lw_p23 : lw_okq (⟨"PlaySpans$Sticks", "pitchBy", "(II)I"⟩, 7) := ⟨⟨by decide +kernel, by decide +kernel⟩, List.mem_of_getElem? (i := 158) (by decide +kernel), List.mem_of_getElem? (i := 396) (by decide +kernel), List.mem_of_getElem? (i := 397) (by decide +kernel)⟩
theorem lw_p24 : lw_okq (⟨"PlaySpans$Strings", "stops", "(III)I"⟩, 7) := ⟨⟨by decide +kernel, by decide +kernel⟩, List.mem_of_getElem? (i := 116) (by decide +kernel), List.mem_of_getElem? (i := 405) (by decide +kernel), List.mem_of_getElem? (i := 406) (by decide +kernel)⟩
theorem lw_p25 : lw_okq (⟨"PlaySpans$Wind", "earliestBreath", "(I)I"⟩, 7) := ⟨⟨by decide +kernel, by decide +kernel⟩, List.mem_of_getElem? (i := 130) (by decide +kernel), List.mem_of_getElem? (i := 417) (by decide +kernel), List.mem_of_getElem? (i := 418) (by decide +kernel)⟩
theorem lw_p26 : lw_okq (⟨"PlaySpans", "hasState", "(II)Z"⟩, 4) := ⟨⟨by decide +kernel, by decide +kernel⟩, List.mem_of_getElem? (i := 16) (by decide +kernel), List.mem_of_getElem? (i := 439) (by decide +kernel), List.mem_of_getElem? (i := 440) (by decide +kernel)⟩
theorem lw_p27 : lw_okq (⟨"PlaySpans$Piece", "after", "(I)I"⟩, 8) := ⟨⟨by decide +kernel, by decide +kernel⟩, List.mem_of_getElem? (i := 42) (by decide +kernel), List.mem_of_getElem? (i := 474) (by decide +kernel), List.mem_of_getElem? (i := 475) (by decide +kernel)⟩
theorem lw_p28 : lw_okq (⟨"PlaySpans$Piece", "firstOfHand", "(II)I"⟩, 8) := ⟨⟨by decide +kernel, by decide +kernel⟩, List.mem_of_getElem? (i := 42) (by decide +kernel), List.mem_of_getElem? (i := 479) (by decide +kernel), List.mem_of_getElem? (i := 480) (by decide +kernel)⟩
theorem lw_p29 : lw_okq (⟨"PlaySpans$Sticks", "lastPlayed", "(III)I"⟩, 7) := ⟨⟨by decide +kernel, by decide +kernel⟩, List.mem_of_getElem? (i := 158) (by decide +kernel), List.mem_of_getElem? (i := 522) (by decide +kernel), List.mem_of_getElem? (i := 523) (by decide +kernel)⟩
theorem lw_p30 : lw_okq (⟨"PlaySpans$Wind", "breathPrice", "(II)I"⟩, 7) := ⟨⟨by decide +kernel, by decide +kernel⟩, List.mem_of_getElem? (i := 130) (by decide +kernel), List.mem_of_getElem? (i := 552) (by decide +kernel), List.mem_of_getElem? (i := 553) (by decide +kernel)⟩
theorem lw_p31 : lw_okq (⟨"PlaySpans$Search", "firstStuck", "(LPlaySpans$Player;)I"⟩, 6) := ⟨⟨by decide +kernel, by decide +kernel⟩, List.mem_of_getElem? (i := 172) (by decide +kernel), List.mem_of_getElem? (i := 567) (by decide +kernel), List.mem_of_getElem? (i := 568) (by decide +kernel)⟩
def lw_privs_2 : List (MethodName × Nat) := [(⟨"PlaySpans$Keyboard", "stretch", "(II)I"⟩, 7), (⟨"PlaySpans$Keyboard", "noteOfFinger", "(II)I"⟩, 7), (⟨"PlaySpans$Piece", "handOf", "(I)I"⟩, 8), (⟨"PlaySpans$Piece", "pitchOf", "(II)I"⟩, 8), (⟨"PlaySpans$Keyboard", "placeOf", "(II)I"⟩, 7), (⟨"PlaySpans$Sticks", "latestOfTwo", "(I)I"⟩, 7), (⟨"PlaySpans$Sticks", "crossing", "(III)I"⟩, 7), (⟨"PlaySpans$Sticks", "pitchBy", "(II)I"⟩, 7), (⟨"PlaySpans$Strings", "stops", "(III)I"⟩, 7), (⟨"PlaySpans$Wind", "earliestBreath", "(I)I"⟩, 7), (⟨"PlaySpans", "hasState", "(II)Z"⟩, 4), (⟨"PlaySpans$Piece", "after", "(I)I"⟩, 8), (⟨"PlaySpans$Piece", "firstOfHand", "(II)I"⟩, 8), (⟨"PlaySpans$Sticks", "lastPlayed", "(III)I"⟩, 7), (⟨"PlaySpans$Wind", "breathPrice", "(II)I"⟩, 7), (⟨"PlaySpans$Search", "firstStuck", "(LPlaySpans$Player;)I"⟩, 6)]
theorem lw_r2 : ∀ q ∈ lw_privs_2, lw_okq q := List.forall_mem_cons.mpr ⟨lw_p16, List.forall_mem_cons.mpr ⟨lw_p17, List.forall_mem_cons.mpr ⟨lw_p18, List.forall_mem_cons.mpr ⟨lw_p19, List.forall_mem_cons.mpr ⟨lw_p20, List.forall_mem_cons.mpr ⟨lw_p21, List.forall_mem_cons.mpr ⟨lw_p22, List.forall_mem_cons.mpr ⟨lw_p23, List.forall_mem_cons.mpr ⟨lw_p24, List.forall_mem_cons.mpr ⟨lw_p25, List.forall_mem_cons.mpr ⟨lw_p26, List.forall_mem_cons.mpr ⟨lw_p27, List.forall_mem_cons.mpr ⟨lw_p28, List.forall_mem_cons.mpr ⟨lw_p29, List.forall_mem_cons.mpr ⟨lw_p30, List.forall_mem_cons.mpr ⟨lw_p31, fun _ h => absurd h List.not_mem_nil⟩⟩⟩⟩⟩⟩⟩⟩⟩⟩⟩⟩⟩⟩⟩⟩
theorem lw_p32 : lw_okq (⟨"PlaySpans$Search", "isReached", "(LPlaySpans$Player;I)Z"⟩, 6) := ⟨⟨by decide +kernel, by decide +kernel⟩, List.mem_of_getElem? (i := 172) (by decide +kernel), List.mem_of_getElem? (i := 571) (by decide +kernel), List.mem_of_getElem? (i := 572) (by decide +kernel)⟩
theorem lw_p33 : lw_okq (⟨"PlaySpans$Piece", "before", "(I)I"⟩, 8) := ⟨⟨by decide +kernel, by decide +kernel⟩, List.mem_of_getElem? (i := 42) (by decide +kernel), List.mem_of_getElem? (i := 575) (by decide +kernel), List.mem_of_getElem? (i := 576) (by decide +kernel)⟩
theorem lw_p34 : lw_okq (⟨"PlaySpans$Piece", "allows", "(II)Z"⟩, 8) := ⟨⟨by decide +kernel, by decide +kernel⟩, List.mem_of_getElem? (i := 42) (by decide +kernel), List.mem_of_getElem? (i := 581) (by decide +kernel), List.mem_of_getElem? (i := 582) (by decide +kernel)⟩
theorem lw_p35 : lw_okq (⟨"PlaySpans$Search", "canCome", "(LPlaySpans$Player;III)Z"⟩, 6) := ⟨⟨by decide +kernel, by decide +kernel⟩, List.mem_of_getElem? (i := 172) (by decide +kernel), List.mem_of_getElem? (i := 586) (by decide +kernel), List.mem_of_getElem? (i := 587) (by decide +kernel)⟩
theorem lw_p36 : lw_okq (⟨"PlaySpans$Search", "painsOf", "(II)I"⟩, 6) := ⟨⟨by decide +kernel, by decide +kernel⟩, List.mem_of_getElem? (i := 172) (by decide +kernel), List.mem_of_getElem? (i := 590) (by decide +kernel), List.mem_of_getElem? (i := 591) (by decide +kernel)⟩
theorem lw_p37 : lw_okq (⟨"PlaySpans$Search", "setPains", "(III)V"⟩, 6) := ⟨⟨by decide +kernel, by decide +kernel⟩, List.mem_of_getElem? (i := 172) (by decide +kernel), List.mem_of_getElem? (i := 596) (by decide +kernel), List.mem_of_getElem? (i := 597) (by decide +kernel)⟩
theorem lw_p38 : lw_okq (⟨"PlaySpans$Search", "weighRests", "(LPlaySpans$Player;)V"⟩, 6) := ⟨⟨by decide +kernel, by decide +kernel⟩, List.mem_of_getElem? (i := 172) (by decide +kernel), List.mem_of_getElem? (i := 600) (by decide +kernel), List.mem_of_getElem? (i := 601) (by decide +kernel)⟩
theorem lw_p39 : lw_okq (⟨"PlaySpans$Search", "cheapestOnward", "(LPlaySpans$Player;III)I"⟩, 6) := ⟨⟨by decide +kernel, by decide +kernel⟩, List.mem_of_getElem? (i := 172) (by decide +kernel), List.mem_of_getElem? (i := 605) (by decide +kernel), List.mem_of_getElem? (i := 606) (by decide +kernel)⟩
theorem lw_p40 : lw_okq (⟨"PlaySpans$Search", "chooseWay", "(LPlaySpans$Player;)V"⟩, 6) := ⟨⟨by decide +kernel, by decide +kernel⟩, List.mem_of_getElem? (i := 172) (by decide +kernel), List.mem_of_getElem? (i := 611) (by decide +kernel), List.mem_of_getElem? (i := 612) (by decide +kernel)⟩
theorem lw_p41 : lw_okq (⟨"PlaySpans$Search", "bestState", "(LPlaySpans$Player;II)I"⟩, 6) := ⟨⟨by decide +kernel, by decide +kernel⟩, List.mem_of_getElem? (i := 172) (by decide +kernel), List.mem_of_getElem? (i := 615) (by decide +kernel), List.mem_of_getElem? (i := 616) (by decide +kernel)⟩
theorem lw_p42 : lw_okq (⟨"PlaySpans$Search", "sumOfChains", "(LPlaySpans$Piece;)I"⟩, 6) := ⟨⟨by decide +kernel, by decide +kernel⟩, List.mem_of_getElem? (i := 172) (by decide +kernel), List.mem_of_getElem? (i := 623) (by decide +kernel), List.mem_of_getElem? (i := 624) (by decide +kernel)⟩
theorem lw_p43 : lw_okq (⟨"PlaySpans$Tally", "tallyChain", "(LPlaySpans$Player;II)V"⟩, 6) := ⟨⟨by decide +kernel, by decide +kernel⟩, List.mem_of_getElem? (i := 641) (by decide +kernel), List.mem_of_getElem? (i := 676) (by decide +kernel), List.mem_of_getElem? (i := 677) (by decide +kernel)⟩
theorem lw_p44 : lw_okq (⟨"PlaySpans$Tally", "begin", "(LPlaySpans$Player;I)V"⟩, 6) := ⟨⟨by decide +kernel, by decide +kernel⟩, List.mem_of_getElem? (i := 641) (by decide +kernel), List.mem_of_getElem? (i := 680) (by decide +kernel), List.mem_of_getElem? (i := 681) (by decide +kernel)⟩
theorem lw_p45 : lw_okq (⟨"PlaySpans$Tally", "advance", "(LPlaySpans$Player;III)V"⟩, 6) := ⟨⟨by decide +kernel, by decide +kernel⟩, List.mem_of_getElem? (i := 641) (by decide +kernel), List.mem_of_getElem? (i := 698) (by decide +kernel), List.mem_of_getElem? (i := 699) (by decide +kernel)⟩
theorem lw_p46 : lw_okq (⟨"PlaySpans$Tally", "cheapestOf", "(II)I"⟩, 6) := ⟨⟨by decide +kernel, by decide +kernel⟩, List.mem_of_getElem? (i := 641) (by decide +kernel), List.mem_of_getElem? (i := 702) (by decide +kernel), List.mem_of_getElem? (i := 703) (by decide +kernel)⟩
theorem lw_p47 : lw_okq (⟨"PlaySpans$Tally", "dearestOf", "(II)I"⟩, 6) := ⟨⟨by decide +kernel, by decide +kernel⟩, List.mem_of_getElem? (i := 641) (by decide +kernel), List.mem_of_getElem? (i := 706) (by decide +kernel), List.mem_of_getElem? (i := 707) (by decide +kernel)⟩
def lw_privs_3 : List (MethodName × Nat) := [(⟨"PlaySpans$Search", "isReached", "(LPlaySpans$Player;I)Z"⟩, 6), (⟨"PlaySpans$Piece", "before", "(I)I"⟩, 8), (⟨"PlaySpans$Piece", "allows", "(II)Z"⟩, 8), (⟨"PlaySpans$Search", "canCome", "(LPlaySpans$Player;III)Z"⟩, 6), (⟨"PlaySpans$Search", "painsOf", "(II)I"⟩, 6), (⟨"PlaySpans$Search", "setPains", "(III)V"⟩, 6), (⟨"PlaySpans$Search", "weighRests", "(LPlaySpans$Player;)V"⟩, 6), (⟨"PlaySpans$Search", "cheapestOnward", "(LPlaySpans$Player;III)I"⟩, 6), (⟨"PlaySpans$Search", "chooseWay", "(LPlaySpans$Player;)V"⟩, 6), (⟨"PlaySpans$Search", "bestState", "(LPlaySpans$Player;II)I"⟩, 6), (⟨"PlaySpans$Search", "sumOfChains", "(LPlaySpans$Piece;)I"⟩, 6), (⟨"PlaySpans$Tally", "tallyChain", "(LPlaySpans$Player;II)V"⟩, 6), (⟨"PlaySpans$Tally", "begin", "(LPlaySpans$Player;I)V"⟩, 6), (⟨"PlaySpans$Tally", "advance", "(LPlaySpans$Player;III)V"⟩, 6), (⟨"PlaySpans$Tally", "cheapestOf", "(II)I"⟩, 6), (⟨"PlaySpans$Tally", "dearestOf", "(II)I"⟩, 6)]
theorem lw_r3 : ∀ q ∈ lw_privs_3, lw_okq q := List.forall_mem_cons.mpr ⟨lw_p32, List.forall_mem_cons.mpr ⟨lw_p33, List.forall_mem_cons.mpr ⟨lw_p34, List.forall_mem_cons.mpr ⟨lw_p35, List.forall_mem_cons.mpr ⟨lw_p36, List.forall_mem_cons.mpr ⟨lw_p37, List.forall_mem_cons.mpr ⟨lw_p38, List.forall_mem_cons.mpr ⟨lw_p39, List.forall_mem_cons.mpr ⟨lw_p40, List.forall_mem_cons.mpr ⟨lw_p41, List.forall_mem_cons.mpr ⟨lw_p42, List.forall_mem_cons.mpr ⟨lw_p43, List.forall_mem_cons.mpr ⟨lw_p44, List.forall_mem_cons.mpr ⟨lw_p45, List.forall_mem_cons.mpr ⟨lw_p46, List.forall_mem_cons.mpr ⟨lw_p47, fun _ h => absurd h List.not_mem_nil⟩⟩⟩⟩⟩⟩⟩⟩⟩⟩⟩⟩⟩⟩⟩⟩
theorem lw_p48 : lw_okq (⟨"PlaySpans$Tally", "carry", "(IIII)V"⟩, 6) := ⟨⟨by decide +kernel, by decide +kernel⟩, List.mem_of_getElem? (i := 641) (by decide +kernel), List.mem_of_getElem? (i := 711) (by decide +kernel), List.mem_of_getElem? (i := 712) (by decide +kernel)⟩
theorem lw_p49 : lw_okq (⟨"PlaySpans$Tally", "gather", "(II)V"⟩, 6) := ⟨⟨by decide +kernel, by decide +kernel⟩, List.mem_of_getElem? (i := 641) (by decide +kernel), List.mem_of_getElem? (i := 719) (by decide +kernel), List.mem_of_getElem? (i := 720) (by decide +kernel)⟩
theorem lw_p50 : lw_okq (⟨"PlaySpans$Tally", "join", "(I)V"⟩, 6) := ⟨⟨by decide +kernel, by decide +kernel⟩, List.mem_of_getElem? (i := 641) (by decide +kernel), List.mem_of_getElem? (i := 723) (by decide +kernel), List.mem_of_getElem? (i := 724) (by decide +kernel)⟩
theorem lw_p51 : lw_okq (⟨"PlaySpans$Piece", "countOfHand", "(I)I"⟩, 8) := ⟨⟨by decide +kernel, by decide +kernel⟩, List.mem_of_getElem? (i := 42) (by decide +kernel), List.mem_of_getElem? (i := 739) (by decide +kernel), List.mem_of_getElem? (i := 740) (by decide +kernel)⟩
theorem lw_p52 : lw_okq (⟨"PlaySpans$Piece", "countPinned", "()I"⟩, 8) := ⟨⟨by decide +kernel, by decide +kernel⟩, List.mem_of_getElem? (i := 42) (by decide +kernel), List.mem_of_getElem? (i := 743) (by decide +kernel), List.mem_of_getElem? (i := 744) (by decide +kernel)⟩
theorem lw_p53 : lw_okq (⟨"PlaySpansModel", "isWell", "(IIIIII)Z"⟩, 20) := ⟨⟨by decide +kernel, by decide +kernel⟩, List.mem_of_getElem? (i := 757) (by decide +kernel), List.mem_of_getElem? (i := 830) (by decide +kernel), List.mem_of_getElem? (i := 831) (by decide +kernel)⟩
theorem lw_p54 : lw_okq (⟨"PlaySpansModel", "before", "(II)I"⟩, 20) := ⟨⟨by decide +kernel, by decide +kernel⟩, List.mem_of_getElem? (i := 757) (by decide +kernel), List.mem_of_getElem? (i := 838) (by decide +kernel), List.mem_of_getElem? (i := 839) (by decide +kernel)⟩
theorem lw_p55 : lw_okq (⟨"PlaySpansModel", "find", "()V"⟩, 20) := ⟨⟨by decide +kernel, by decide +kernel⟩, List.mem_of_getElem? (i := 757) (by decide +kernel), List.mem_of_getElem? (i := 858) (by decide +kernel), List.mem_of_getElem? (i := 859) (by decide +kernel)⟩
theorem lw_p56 : lw_okq (⟨"PlaySpansModel", "findOf", "(I)V"⟩, 20) := ⟨⟨by decide +kernel, by decide +kernel⟩, List.mem_of_getElem? (i := 757) (by decide +kernel), List.mem_of_getElem? (i := 862) (by decide +kernel), List.mem_of_getElem? (i := 863) (by decide +kernel)⟩
theorem lw_p57 : lw_okq (⟨"PlaySpansModel", "fingers", "(II)V"⟩, 20) := ⟨⟨by decide +kernel, by decide +kernel⟩, List.mem_of_getElem? (i := 757) (by decide +kernel), List.mem_of_getElem? (i := 869) (by decide +kernel), List.mem_of_getElem? (i := 870) (by decide +kernel)⟩
theorem lw_p58 : lw_okq (⟨"PlaySpansModel", "finger", "(III)I"⟩, 20) := ⟨⟨by decide +kernel, by decide +kernel⟩, List.mem_of_getElem? (i := 757) (by decide +kernel), List.mem_of_getElem? (i := 873) (by decide +kernel), List.mem_of_getElem? (i := 874) (by decide +kernel)⟩
theorem lw_p59 : lw_okq (⟨"PlaySpansModel", "add", "(IIII)V"⟩, 20) := ⟨⟨by decide +kernel, by decide +kernel⟩, List.mem_of_getElem? (i := 757) (by decide +kernel), List.mem_of_getElem? (i := 880) (by decide +kernel), List.mem_of_getElem? (i := 881) (by decide +kernel)⟩
theorem lw_p60 : lw_okq (⟨"PlaySpansModel", "strings", "(III)V"⟩, 20) := ⟨⟨by decide +kernel, by decide +kernel⟩, List.mem_of_getElem? (i := 757) (by decide +kernel), List.mem_of_getElem? (i := 884) (by decide +kernel), List.mem_of_getElem? (i := 885) (by decide +kernel)⟩
theorem lw_p61 : lw_okq (⟨"PlaySpansModel", "breaths", "(I)V"⟩, 20) := ⟨⟨by decide +kernel, by decide +kernel⟩, List.mem_of_getElem? (i := 757) (by decide +kernel), List.mem_of_getElem? (i := 888) (by decide +kernel), List.mem_of_getElem? (i := 889) (by decide +kernel)⟩
theorem lw_p62 : lw_okq (⟨"PlaySpansModel", "sticks", "(I)V"⟩, 20) := ⟨⟨by decide +kernel, by decide +kernel⟩, List.mem_of_getElem? (i := 757) (by decide +kernel), List.mem_of_getElem? (i := 895) (by decide +kernel), List.mem_of_getElem? (i := 896) (by decide +kernel)⟩
theorem lw_p63 : lw_okq (⟨"PlaySpansModel", "isOther", "(II)Z"⟩, 20) := ⟨⟨by decide +kernel, by decide +kernel⟩, List.mem_of_getElem? (i := 757) (by decide +kernel), List.mem_of_getElem? (i := 899) (by decide +kernel), List.mem_of_getElem? (i := 900) (by decide +kernel)⟩
def lw_privs_4 : List (MethodName × Nat) := [(⟨"PlaySpans$Tally", "carry", "(IIII)V"⟩, 6), (⟨"PlaySpans$Tally", "gather", "(II)V"⟩, 6), (⟨"PlaySpans$Tally", "join", "(I)V"⟩, 6), (⟨"PlaySpans$Piece", "countOfHand", "(I)I"⟩, 8), (⟨"PlaySpans$Piece", "countPinned", "()I"⟩, 8), (⟨"PlaySpansModel", "isWell", "(IIIIII)Z"⟩, 20), (⟨"PlaySpansModel", "before", "(II)I"⟩, 20), (⟨"PlaySpansModel", "find", "()V"⟩, 20), (⟨"PlaySpansModel", "findOf", "(I)V"⟩, 20), (⟨"PlaySpansModel", "fingers", "(II)V"⟩, 20), (⟨"PlaySpansModel", "finger", "(III)I"⟩, 20), (⟨"PlaySpansModel", "add", "(IIII)V"⟩, 20), (⟨"PlaySpansModel", "strings", "(III)V"⟩, 20), (⟨"PlaySpansModel", "breaths", "(I)V"⟩, 20), (⟨"PlaySpansModel", "sticks", "(I)V"⟩, 20), (⟨"PlaySpansModel", "isOther", "(II)Z"⟩, 20)]
theorem lw_r4 : ∀ q ∈ lw_privs_4, lw_okq q := List.forall_mem_cons.mpr ⟨lw_p48, List.forall_mem_cons.mpr ⟨lw_p49, List.forall_mem_cons.mpr ⟨lw_p50, List.forall_mem_cons.mpr ⟨lw_p51, List.forall_mem_cons.mpr ⟨lw_p52, List.forall_mem_cons.mpr ⟨lw_p53, List.forall_mem_cons.mpr ⟨lw_p54, List.forall_mem_cons.mpr ⟨lw_p55, List.forall_mem_cons.mpr ⟨lw_p56, List.forall_mem_cons.mpr ⟨lw_p57, List.forall_mem_cons.mpr ⟨lw_p58, List.forall_mem_cons.mpr ⟨lw_p59, List.forall_mem_cons.mpr ⟨lw_p60, List.forall_mem_cons.mpr ⟨lw_p61, List.forall_mem_cons.mpr ⟨lw_p62, List.forall_mem_cons.mpr ⟨lw_p63, fun _ h => absurd h List.not_mem_nil⟩⟩⟩⟩⟩⟩⟩⟩⟩⟩⟩⟩⟩⟩⟩⟩
theorem lw_p64 : lw_okq (⟨"PlaySpansModel", "played", "(II)I"⟩, 20) := ⟨⟨by decide +kernel, by decide +kernel⟩, List.mem_of_getElem? (i := 757) (by decide +kernel), List.mem_of_getElem? (i := 903) (by decide +kernel), List.mem_of_getElem? (i := 904) (by decide +kernel)⟩
theorem lw_p65 : lw_okq (⟨"PlaySpansModel", "noState", "(II)Z"⟩, 20) := ⟨⟨by decide +kernel, by decide +kernel⟩, List.mem_of_getElem? (i := 757) (by decide +kernel), List.mem_of_getElem? (i := 911) (by decide +kernel), List.mem_of_getElem? (i := 912) (by decide +kernel)⟩
theorem lw_p66 : lw_okq (⟨"PlaySpansModel", "after", "(I)I"⟩, 20) := ⟨⟨by decide +kernel, by decide +kernel⟩, List.mem_of_getElem? (i := 757) (by decide +kernel), List.mem_of_getElem? (i := 919) (by decide +kernel), List.mem_of_getElem? (i := 920) (by decide +kernel)⟩
theorem lw_p67 : lw_okq (⟨"PlaySpansModel", "stepOf", "(IIII)I"⟩, 20) := ⟨⟨by decide +kernel, by decide +kernel⟩, List.mem_of_getElem? (i := 757) (by decide +kernel), List.mem_of_getElem? (i := 923) (by decide +kernel), List.mem_of_getElem? (i := 924) (by decide +kernel)⟩
theorem lw_p68 : lw_okq (⟨"PlaySpansModel", "moved", "(III)I"⟩, 20) := ⟨⟨by decide +kernel, by decide +kernel⟩, List.mem_of_getElem? (i := 757) (by decide +kernel), List.mem_of_getElem? (i := 927) (by decide +kernel), List.mem_of_getElem? (i := 928) (by decide +kernel)⟩
theorem lw_p69 : lw_okq (⟨"PlaySpansModel", "breathed", "(IIII)I"⟩, 20) := ⟨⟨by decide +kernel, by decide +kernel⟩, List.mem_of_getElem? (i := 757) (by decide +kernel), List.mem_of_getElem? (i := 931) (by decide +kernel), List.mem_of_getElem? (i := 932) (by decide +kernel)⟩
theorem lw_p70 : lw_okq (⟨"PlaySpansModel", "struck", "(IIII)I"⟩, 20) := ⟨⟨by decide +kernel, by decide +kernel⟩, List.mem_of_getElem? (i := 757) (by decide +kernel), List.mem_of_getElem? (i := 935) (by decide +kernel), List.mem_of_getElem? (i := 936) (by decide +kernel)⟩
theorem lw_p71 : lw_okq (⟨"PlaySpansModel", "latest", "(III)I"⟩, 20) := ⟨⟨by decide +kernel, by decide +kernel⟩, List.mem_of_getElem? (i := 757) (by decide +kernel), List.mem_of_getElem? (i := 939) (by decide +kernel), List.mem_of_getElem? (i := 940) (by decide +kernel)⟩
theorem lw_p72 : lw_okq (⟨"PlaySpansModel", "reckon", "()V"⟩, 20) := ⟨⟨by decide +kernel, by decide +kernel⟩, List.mem_of_getElem? (i := 757) (by decide +kernel), List.mem_of_getElem? (i := 947) (by decide +kernel), List.mem_of_getElem? (i := 948) (by decide +kernel)⟩
theorem lw_p73 : lw_okq (⟨"PlaySpansModel", "isLet", "(II)Z"⟩, 20) := ⟨⟨by decide +kernel, by decide +kernel⟩, List.mem_of_getElem? (i := 757) (by decide +kernel), List.mem_of_getElem? (i := 952) (by decide +kernel), List.mem_of_getElem? (i := 953) (by decide +kernel)⟩
theorem lw_p74 : lw_okq (⟨"PlaySpansModel", "chain", "(I)I"⟩, 20) := ⟨⟨by decide +kernel, by decide +kernel⟩, List.mem_of_getElem? (i := 757) (by decide +kernel), List.mem_of_getElem? (i := 956) (by decide +kernel), List.mem_of_getElem? (i := 957) (by decide +kernel)⟩
theorem lw_p75 : lw_okq (⟨"PlaySpansModel", "first", "(I)I"⟩, 20) := ⟨⟨by decide +kernel, by decide +kernel⟩, List.mem_of_getElem? (i := 757) (by decide +kernel), List.mem_of_getElem? (i := 960) (by decide +kernel), List.mem_of_getElem? (i := 961) (by decide +kernel)⟩
theorem lw_p76 : lw_okq (⟨"PlaySpansModel", "isOn", "(IIII)Z"⟩, 20) := ⟨⟨by decide +kernel, by decide +kernel⟩, List.mem_of_getElem? (i := 757) (by decide +kernel), List.mem_of_getElem? (i := 969) (by decide +kernel), List.mem_of_getElem? (i := 970) (by decide +kernel)⟩
theorem lw_p77 : lw_okq (⟨"PlaySpansModel", "countChain", "(I)V"⟩, 20) := ⟨⟨by decide +kernel, by decide +kernel⟩, List.mem_of_getElem? (i := 757) (by decide +kernel), List.mem_of_getElem? (i := 981) (by decide +kernel), List.mem_of_getElem? (i := 982) (by decide +kernel)⟩
theorem lw_p78 : lw_okq (⟨"PlaySpansModel", "beginCounts", "(I)V"⟩, 20) := ⟨⟨by decide +kernel, by decide +kernel⟩, List.mem_of_getElem? (i := 757) (by decide +kernel), List.mem_of_getElem? (i := 985) (by decide +kernel), List.mem_of_getElem? (i := 986) (by decide +kernel)⟩
theorem lw_p79 : lw_okq (⟨"PlaySpansModel", "goOn", "(III)V"⟩, 20) := ⟨⟨by decide +kernel, by decide +kernel⟩, List.mem_of_getElem? (i := 757) (by decide +kernel), List.mem_of_getElem? (i := 989) (by decide +kernel), List.mem_of_getElem? (i := 990) (by decide +kernel)⟩
def lw_privs_5 : List (MethodName × Nat) := [(⟨"PlaySpansModel", "played", "(II)I"⟩, 20), (⟨"PlaySpansModel", "noState", "(II)Z"⟩, 20), (⟨"PlaySpansModel", "after", "(I)I"⟩, 20), (⟨"PlaySpansModel", "stepOf", "(IIII)I"⟩, 20), (⟨"PlaySpansModel", "moved", "(III)I"⟩, 20), (⟨"PlaySpansModel", "breathed", "(IIII)I"⟩, 20), (⟨"PlaySpansModel", "struck", "(IIII)I"⟩, 20), (⟨"PlaySpansModel", "latest", "(III)I"⟩, 20), (⟨"PlaySpansModel", "reckon", "()V"⟩, 20), (⟨"PlaySpansModel", "isLet", "(II)Z"⟩, 20), (⟨"PlaySpansModel", "chain", "(I)I"⟩, 20), (⟨"PlaySpansModel", "first", "(I)I"⟩, 20), (⟨"PlaySpansModel", "isOn", "(IIII)Z"⟩, 20), (⟨"PlaySpansModel", "countChain", "(I)V"⟩, 20), (⟨"PlaySpansModel", "beginCounts", "(I)V"⟩, 20), (⟨"PlaySpansModel", "goOn", "(III)V"⟩, 20)]
theorem lw_r5 : ∀ q ∈ lw_privs_5, lw_okq q := List.forall_mem_cons.mpr ⟨lw_p64, List.forall_mem_cons.mpr ⟨lw_p65, List.forall_mem_cons.mpr ⟨lw_p66, List.forall_mem_cons.mpr ⟨lw_p67, List.forall_mem_cons.mpr ⟨lw_p68, List.forall_mem_cons.mpr ⟨lw_p69, List.forall_mem_cons.mpr ⟨lw_p70, List.forall_mem_cons.mpr ⟨lw_p71, List.forall_mem_cons.mpr ⟨lw_p72, List.forall_mem_cons.mpr ⟨lw_p73, List.forall_mem_cons.mpr ⟨lw_p74, List.forall_mem_cons.mpr ⟨lw_p75, List.forall_mem_cons.mpr ⟨lw_p76, List.forall_mem_cons.mpr ⟨lw_p77, List.forall_mem_cons.mpr ⟨lw_p78, List.forall_mem_cons.mpr ⟨lw_p79, fun _ h => absurd h List.not_mem_nil⟩⟩⟩⟩⟩⟩⟩⟩⟩⟩⟩⟩⟩⟩⟩⟩
def lw_privs : List (MethodName × Nat) := lw_privs_1 ++ (lw_privs_2 ++ (lw_privs_3 ++ (lw_privs_4 ++ (lw_privs_5))))
def lw_tbl : List Cond := k2_sels lw_privs ++ tables_1
theorem lw_privs_ok : ∀ q ∈ lw_privs, lw_okq q := by
  show ∀ q ∈ lw_privs_1 ++ (lw_privs_2 ++ (lw_privs_3 ++ (lw_privs_4 ++ (lw_privs_5)))), lw_okq q
  exact List.forall_mem_append.mpr ⟨lw_r1, List.forall_mem_append.mpr ⟨lw_r2, List.forall_mem_append.mpr ⟨lw_r3, List.forall_mem_append.mpr ⟨lw_r4, lw_r5⟩⟩⟩⟩
end
section
def RX0 : String := "PlaySpans$Keyboard"
def TX0 : u_T := fun k => match k with
  | 0 => ("PlaySpans$Player", "piece", "LPlaySpans$Piece;", true)
  | 1 => ("PlaySpans$Player", "width", "I", true)
  | 2 => ("PlaySpans$Player", "counts", "[I", true)
  | 3 => ("PlaySpans$Player", "prices", "[I", true)
  | 4 => ("PlaySpans$Player", "firsts", "[I", true)
  | 5 => ("PlaySpans$Player", "seconds", "[I", true)
  | _ => ("PlaySpans$Player", "listed", "I", false)
def tyX0 : Nat → FieldType := fun k => match k with
  | 0 => .object "PlaySpans$Piece"
  | 1 => .int
  | 2 => .array .int
  | 3 => .array .int
  | 4 => .array .int
  | 5 => .array .int
  | _ => .int
theorem nmX0 : ∀ a, a < 7 → ∀ b, b < 7 → a ≠ b → (TX0 a).2.1 ≠ (TX0 b).2.1 := by decide +kernel
theorem tyX0_ok : ∀ k, k < 7 → parseFieldDescriptor (TX0 k).2.2.1 = some (tyX0 k) := by decide +kernel
abbrev cX0_init : ByteArray := prog_2_method_1_code
def yX0_init : MethodName := ⟨RX0, "<init>", "()V"⟩
abbrev cX0_listOne : ByteArray := prog_2_method_2_code
def yX0_listOne : MethodName := ⟨RX0, "listOne", "(I)V"⟩
abbrev cX0_stretch : ByteArray := prog_2_method_3_code
def yX0_stretch : MethodName := ⟨RX0, "stretch", "(II)I"⟩
abbrev cX0_fingerAbove : ByteArray := prog_2_method_4_code
def yX0_fingerAbove : MethodName := ⟨RX0, "fingerAbove", "(II)I"⟩
abbrev cX0_noteOfFinger : ByteArray := prog_2_method_5_code
def yX0_noteOfFinger : MethodName := ⟨RX0, "noteOfFinger", "(II)I"⟩
abbrev cX0_placeOf : ByteArray := prog_2_method_6_code
def yX0_placeOf : MethodName := ⟨RX0, "placeOf", "(II)I"⟩
abbrev cX0_stepPrice : ByteArray := prog_2_method_7_code
def yX0_stepPrice : MethodName := ⟨RX0, "stepPrice", "(IIII)I"⟩
def RX1 : String := "PlaySpans$Piece"
def TX1 : u_T := fun k => match k with
  | 0 => ("PlaySpans$Piece", "bounds", "[I", true)
  | 1 => ("PlaySpans$Piece", "hands", "[I", true)
  | 2 => ("PlaySpans$Piece", "times", "[I", true)
  | 3 => ("PlaySpans$Piece", "lengths", "[I", true)
  | 4 => ("PlaySpans$Piece", "sizes", "[I", true)
  | 5 => ("PlaySpans$Piece", "pins", "[I", true)
  | 6 => ("PlaySpans$Piece", "pitches", "[I", true)
  | _ => ("PlaySpans$Piece", "count", "I", false)
def tyX1 : Nat → FieldType := fun k => match k with
  | 0 => .array .int
  | 1 => .array .int
  | 2 => .array .int
  | 3 => .array .int
  | 4 => .array .int
  | 5 => .array .int
  | 6 => .array .int
  | _ => .int
theorem nmX1 : ∀ a, a < 8 → ∀ b, b < 8 → a ≠ b → (TX1 a).2.1 ≠ (TX1 b).2.1 := by decide +kernel
theorem tyX1_ok : ∀ k, k < 8 → parseFieldDescriptor (TX1 k).2.2.1 = some (tyX1 k) := by decide +kernel
abbrev cX1_init : ByteArray := prog_3_method_1_code
def yX1_init : MethodName := ⟨RX1, "<init>", "()V"⟩
abbrev cX1_howMany : ByteArray := prog_3_method_2_code
def yX1_howMany : MethodName := ⟨RX1, "howMany", "(III)I"⟩
abbrev cX1_add : ByteArray := prog_3_method_3_code
def yX1_add : MethodName := ⟨RX1, "add", "(IIIIII)V"⟩
abbrev cX1_has : ByteArray := prog_3_method_4_code
def yX1_has : MethodName := ⟨RX1, "has", "(I)Z"⟩
abbrev cX1_boundOf : ByteArray := prog_3_method_5_code
def yX1_boundOf : MethodName := ⟨RX1, "boundOf", "(I)I"⟩
abbrev cX1_setBound : ByteArray := prog_3_method_6_code
def yX1_setBound : MethodName := ⟨RX1, "setBound", "(II)V"⟩
abbrev cX1_handOf : ByteArray := prog_3_method_7_code
def yX1_handOf : MethodName := ⟨RX1, "handOf", "(I)I"⟩
abbrev cX1_timeOf : ByteArray := prog_3_method_8_code
def yX1_timeOf : MethodName := ⟨RX1, "timeOf", "(I)I"⟩
abbrev cX1_lengthOf : ByteArray := prog_3_method_9_code
def yX1_lengthOf : MethodName := ⟨RX1, "lengthOf", "(I)I"⟩
abbrev cX1_sizeOf : ByteArray := prog_3_method_10_code
def yX1_sizeOf : MethodName := ⟨RX1, "sizeOf", "(I)I"⟩
abbrev cX1_pitchOf : ByteArray := prog_3_method_11_code
def yX1_pitchOf : MethodName := ⟨RX1, "pitchOf", "(II)I"⟩
abbrev cX1_lowestOf : ByteArray := prog_3_method_12_code
def yX1_lowestOf : MethodName := ⟨RX1, "lowestOf", "(I)I"⟩
abbrev cX1_highestOf : ByteArray := prog_3_method_13_code
def yX1_highestOf : MethodName := ⟨RX1, "highestOf", "(I)I"⟩
abbrev cX1_pinOf : ByteArray := prog_3_method_14_code
def yX1_pinOf : MethodName := ⟨RX1, "pinOf", "(I)I"⟩
abbrev cX1_setPin : ByteArray := prog_3_method_15_code
def yX1_setPin : MethodName := ⟨RX1, "setPin", "(II)V"⟩
abbrev cX1_allows : ByteArray := prog_3_method_16_code
def yX1_allows : MethodName := ⟨RX1, "allows", "(II)Z"⟩
abbrev cX1_inCompass : ByteArray := prog_3_method_17_code
def yX1_inCompass : MethodName := ⟨RX1, "inCompass", "(I)Z"⟩
abbrev cX1_firstOfHand : ByteArray := prog_3_method_18_code
def yX1_firstOfHand : MethodName := ⟨RX1, "firstOfHand", "(II)I"⟩
abbrev cX1_lastOfHand : ByteArray := prog_3_method_19_code
def yX1_lastOfHand : MethodName := ⟨RX1, "lastOfHand", "(II)I"⟩
abbrev cX1_after : ByteArray := prog_3_method_20_code
def yX1_after : MethodName := ⟨RX1, "after", "(I)I"⟩
abbrev cX1_before : ByteArray := prog_3_method_21_code
def yX1_before : MethodName := ⟨RX1, "before", "(I)I"⟩
abbrev cX1_countOfHand : ByteArray := prog_3_method_22_code
def yX1_countOfHand : MethodName := ⟨RX1, "countOfHand", "(I)I"⟩
abbrev cX1_countPinned : ByteArray := prog_3_method_23_code
def yX1_countPinned : MethodName := ⟨RX1, "countPinned", "()I"⟩
def RX2 : String := "PlaySpans$Player"
def TX2 : u_T := fun k => match k with
  | _ => ("", "", "", false)
def tyX2 : Nat → FieldType := fun k => match k with
  | _ => .int
theorem nmX2 : ∀ a, a < 0 → ∀ b, b < 0 → a ≠ b → (TX2 a).2.1 ≠ (TX2 b).2.1 := by decide +kernel
theorem tyX2_ok : ∀ k, k < 0 → parseFieldDescriptor (TX2 k).2.2.1 = some (tyX2 k) := by decide +kernel
abbrev cX2_init : ByteArray := prog_4_method_1_code
def yX2_init : MethodName := ⟨RX2, "<init>", "(I)V"⟩
abbrev cX2_listAll : ByteArray := prog_4_method_4_code
def yX2_listAll : MethodName := ⟨RX2, "listAll", "()V"⟩
abbrev cX2_addState : ByteArray := prog_4_method_5_code
def yX2_addState : MethodName := ⟨RX2, "addState", "(IIII)V"⟩
abbrev cX2_countOf : ByteArray := prog_4_method_6_code
def yX2_countOf : MethodName := ⟨RX2, "countOf", "(I)I"⟩
abbrev cX2_priceOf : ByteArray := prog_4_method_7_code
def yX2_priceOf : MethodName := ⟨RX2, "priceOf", "(II)I"⟩
abbrev cX2_firstOf : ByteArray := prog_4_method_8_code
def yX2_firstOf : MethodName := ⟨RX2, "firstOf", "(II)I"⟩
abbrev cX2_secondOf : ByteArray := prog_4_method_9_code
def yX2_secondOf : MethodName := ⟨RX2, "secondOf", "(II)I"⟩
abbrev cX2_tooFar : ByteArray := prog_4_method_10_code
def yX2_tooFar : MethodName := ⟨RX2, "tooFar", "(III)Z"⟩
def RX3 : String := "PlaySpans$Search"
def TX3 : u_T := fun k => match k with
  | 0 => ("PlaySpans$Search", "width", "I", true)
  | 1 => ("PlaySpans$Search", "pains", "[I", true)
  | 2 => ("PlaySpans$Search", "chosen", "[I", true)
  | 3 => ("PlaySpans$Search", "least", "I", false)
  | 4 => ("PlaySpans$Search", "stuckAt", "I", false)
  | _ => ("PlaySpans$Search", "current", "Z", false)
def tyX3 : Nat → FieldType := fun k => match k with
  | 0 => .int
  | 1 => .array .int
  | 2 => .array .int
  | 3 => .int
  | 4 => .int
  | _ => .boolean
theorem nmX3 : ∀ a, a < 6 → ∀ b, b < 6 → a ≠ b → (TX3 a).2.1 ≠ (TX3 b).2.1 := by decide +kernel
theorem tyX3_ok : ∀ k, k < 6 → parseFieldDescriptor (TX3 k).2.2.1 = some (tyX3 k) := by decide +kernel
abbrev cX3_init : ByteArray := prog_5_method_1_code
def yX3_init : MethodName := ⟨RX3, "<init>", "(I)V"⟩
abbrev cX3_refresh : ByteArray := prog_5_method_2_code
def yX3_refresh : MethodName := ⟨RX3, "refresh", "(LPlaySpans$Player;)V"⟩
abbrev cX3_chosenOf : ByteArray := prog_5_method_3_code
def yX3_chosenOf : MethodName := ⟨RX3, "chosenOf", "(I)I"⟩
abbrev cX3_painsOf : ByteArray := prog_5_method_4_code
def yX3_painsOf : MethodName := ⟨RX3, "painsOf", "(II)I"⟩
abbrev cX3_setPains : ByteArray := prog_5_method_5_code
def yX3_setPains : MethodName := ⟨RX3, "setPains", "(III)V"⟩
abbrev cX3_firstStuck : ByteArray := prog_5_method_6_code
def yX3_firstStuck : MethodName := ⟨RX3, "firstStuck", "(LPlaySpans$Player;)I"⟩
abbrev cX3_isReached : ByteArray := prog_5_method_7_code
def yX3_isReached : MethodName := ⟨RX3, "isReached", "(LPlaySpans$Player;I)Z"⟩
abbrev cX3_canCome : ByteArray := prog_5_method_8_code
def yX3_canCome : MethodName := ⟨RX3, "canCome", "(LPlaySpans$Player;III)Z"⟩
abbrev cX3_weighRests : ByteArray := prog_5_method_9_code
def yX3_weighRests : MethodName := ⟨RX3, "weighRests", "(LPlaySpans$Player;)V"⟩
abbrev cX3_cheapestOnward : ByteArray := prog_5_method_10_code
def yX3_cheapestOnward : MethodName := ⟨RX3, "cheapestOnward", "(LPlaySpans$Player;III)I"⟩
abbrev cX3_chooseWay : ByteArray := prog_5_method_11_code
def yX3_chooseWay : MethodName := ⟨RX3, "chooseWay", "(LPlaySpans$Player;)V"⟩
abbrev cX3_bestState : ByteArray := prog_5_method_12_code
def yX3_bestState : MethodName := ⟨RX3, "bestState", "(LPlaySpans$Player;II)I"⟩
abbrev cX3_sumOfChains : ByteArray := prog_5_method_13_code
def yX3_sumOfChains : MethodName := ⟨RX3, "sumOfChains", "(LPlaySpans$Piece;)I"⟩
def RX4 : String := "PlaySpans$Slide"
def TX4 : u_T := fun k => match k with
  | 0 => ("PlaySpans$Player", "piece", "LPlaySpans$Piece;", true)
  | 1 => ("PlaySpans$Player", "width", "I", true)
  | 2 => ("PlaySpans$Player", "counts", "[I", true)
  | 3 => ("PlaySpans$Player", "prices", "[I", true)
  | 4 => ("PlaySpans$Player", "firsts", "[I", true)
  | 5 => ("PlaySpans$Player", "seconds", "[I", true)
  | _ => ("PlaySpans$Player", "listed", "I", false)
def tyX4 : Nat → FieldType := fun k => match k with
  | 0 => .object "PlaySpans$Piece"
  | 1 => .int
  | 2 => .array .int
  | 3 => .array .int
  | 4 => .array .int
  | 5 => .array .int
  | _ => .int
theorem nmX4 : ∀ a, a < 7 → ∀ b, b < 7 → a ≠ b → (TX4 a).2.1 ≠ (TX4 b).2.1 := by decide +kernel
theorem tyX4_ok : ∀ k, k < 7 → parseFieldDescriptor (TX4 k).2.2.1 = some (tyX4 k) := by decide +kernel
abbrev cX4_init : ByteArray := prog_6_method_1_code
def yX4_init : MethodName := ⟨RX4, "<init>", "()V"⟩
abbrev cX4_listOne : ByteArray := prog_6_method_2_code
def yX4_listOne : MethodName := ⟨RX4, "listOne", "(I)V"⟩
abbrev cX4_isPartial : ByteArray := prog_6_method_3_code
def yX4_isPartial : MethodName := ⟨RX4, "isPartial", "(I)Z"⟩
abbrev cX4_stepPrice : ByteArray := prog_6_method_4_code
def yX4_stepPrice : MethodName := ⟨RX4, "stepPrice", "(IIII)I"⟩
def RX5 : String := "PlaySpans$Sticks"
def TX5 : u_T := fun k => match k with
  | 0 => ("PlaySpans$Player", "piece", "LPlaySpans$Piece;", true)
  | 1 => ("PlaySpans$Player", "width", "I", true)
  | 2 => ("PlaySpans$Player", "counts", "[I", true)
  | 3 => ("PlaySpans$Player", "prices", "[I", true)
  | 4 => ("PlaySpans$Player", "firsts", "[I", true)
  | 5 => ("PlaySpans$Player", "seconds", "[I", true)
  | _ => ("PlaySpans$Player", "listed", "I", false)
def tyX5 : Nat → FieldType := fun k => match k with
  | 0 => .object "PlaySpans$Piece"
  | 1 => .int
  | 2 => .array .int
  | 3 => .array .int
  | 4 => .array .int
  | 5 => .array .int
  | _ => .int
theorem nmX5 : ∀ a, a < 7 → ∀ b, b < 7 → a ≠ b → (TX5 a).2.1 ≠ (TX5 b).2.1 := by decide +kernel
theorem tyX5_ok : ∀ k, k < 7 → parseFieldDescriptor (TX5 k).2.2.1 = some (tyX5 k) := by decide +kernel
abbrev cX5_init : ByteArray := prog_7_method_1_code
def yX5_init : MethodName := ⟨RX5, "<init>", "()V"⟩
abbrev cX5_listOne : ByteArray := prog_7_method_2_code
def yX5_listOne : MethodName := ⟨RX5, "listOne", "(I)V"⟩
abbrev cX5_latestOfTwo : ByteArray := prog_7_method_3_code
def yX5_latestOfTwo : MethodName := ⟨RX5, "latestOfTwo", "(I)I"⟩
abbrev cX5_crossing : ByteArray := prog_7_method_4_code
def yX5_crossing : MethodName := ⟨RX5, "crossing", "(III)I"⟩
abbrev cX5_pitchBy : ByteArray := prog_7_method_5_code
def yX5_pitchBy : MethodName := ⟨RX5, "pitchBy", "(II)I"⟩
abbrev cX5_stepPrice : ByteArray := prog_7_method_6_code
def yX5_stepPrice : MethodName := ⟨RX5, "stepPrice", "(IIII)I"⟩
abbrev cX5_lastPlayed : ByteArray := prog_7_method_7_code
def yX5_lastPlayed : MethodName := ⟨RX5, "lastPlayed", "(III)I"⟩
def RX6 : String := "PlaySpans$Strings"
def TX6 : u_T := fun k => match k with
  | 0 => ("PlaySpans$Player", "piece", "LPlaySpans$Piece;", true)
  | 1 => ("PlaySpans$Player", "width", "I", true)
  | 2 => ("PlaySpans$Player", "counts", "[I", true)
  | 3 => ("PlaySpans$Player", "prices", "[I", true)
  | 4 => ("PlaySpans$Player", "firsts", "[I", true)
  | 5 => ("PlaySpans$Player", "seconds", "[I", true)
  | _ => ("PlaySpans$Player", "listed", "I", false)
def tyX6 : Nat → FieldType := fun k => match k with
  | 0 => .object "PlaySpans$Piece"
  | 1 => .int
  | 2 => .array .int
  | 3 => .array .int
  | 4 => .array .int
  | 5 => .array .int
  | _ => .int
theorem nmX6 : ∀ a, a < 7 → ∀ b, b < 7 → a ≠ b → (TX6 a).2.1 ≠ (TX6 b).2.1 := by decide +kernel
theorem tyX6_ok : ∀ k, k < 7 → parseFieldDescriptor (TX6 k).2.2.1 = some (tyX6 k) := by decide +kernel
abbrev cX6_init : ByteArray := prog_8_method_1_code
def yX6_init : MethodName := ⟨RX6, "<init>", "()V"⟩
abbrev cX6_listOne : ByteArray := prog_8_method_2_code
def yX6_listOne : MethodName := ⟨RX6, "listOne", "(I)V"⟩
abbrev cX6_stops : ByteArray := prog_8_method_3_code
def yX6_stops : MethodName := ⟨RX6, "stops", "(III)I"⟩
abbrev cX6_stepPrice : ByteArray := prog_8_method_4_code
def yX6_stepPrice : MethodName := ⟨RX6, "stepPrice", "(IIII)I"⟩
def RX7 : String := "PlaySpans$Tally"
def TX7 : u_T := fun k => match k with
  | 0 => ("PlaySpans$Tally", "here", "[I", false)
  | 1 => ("PlaySpans$Tally", "there", "[I", false)
  | 2 => ("PlaySpans$Tally", "all", "[I", false)
  | 3 => ("PlaySpans$Tally", "joined", "[I", false)
  | 4 => ("PlaySpans$Tally", "ofChain", "[I", true)
  | _ => ("PlaySpans$Tally", "upTo", "I", false)
def tyX7 : Nat → FieldType := fun k => match k with
  | 0 => .array .int
  | 1 => .array .int
  | 2 => .array .int
  | 3 => .array .int
  | 4 => .array .int
  | _ => .int
theorem nmX7 : ∀ a, a < 6 → ∀ b, b < 6 → a ≠ b → (TX7 a).2.1 ≠ (TX7 b).2.1 := by decide +kernel
theorem tyX7_ok : ∀ k, k < 6 → parseFieldDescriptor (TX7 k).2.2.1 = some (tyX7 k) := by decide +kernel
abbrev cX7_init : ByteArray := prog_9_method_1_code
def yX7_init : MethodName := ⟨RX7, "<init>", "(I)V"⟩
abbrev cX7_run : ByteArray := prog_9_method_2_code
def yX7_run : MethodName := ⟨RX7, "run", "(LPlaySpans$Player;I)V"⟩
abbrev cX7_sumTo : ByteArray := prog_9_method_3_code
def yX7_sumTo : MethodName := ⟨RX7, "sumTo", "(I)I"⟩
abbrev cX7_capped : ByteArray := prog_9_method_4_code
def yX7_capped : MethodName := ⟨RX7, "capped", "(II)I"⟩
abbrev cX7_tallyChain : ByteArray := prog_9_method_5_code
def yX7_tallyChain : MethodName := ⟨RX7, "tallyChain", "(LPlaySpans$Player;II)V"⟩
abbrev cX7_begin : ByteArray := prog_9_method_6_code
def yX7_begin : MethodName := ⟨RX7, "begin", "(LPlaySpans$Player;I)V"⟩
abbrev cX7_clearRows : ByteArray := prog_9_method_7_code
def yX7_clearRows : MethodName := ⟨RX7, "clearRows", "([II)V"⟩
abbrev cX7_advance : ByteArray := prog_9_method_8_code
def yX7_advance : MethodName := ⟨RX7, "advance", "(LPlaySpans$Player;III)V"⟩
abbrev cX7_cheapestOf : ByteArray := prog_9_method_9_code
def yX7_cheapestOf : MethodName := ⟨RX7, "cheapestOf", "(II)I"⟩
abbrev cX7_dearestOf : ByteArray := prog_9_method_10_code
def yX7_dearestOf : MethodName := ⟨RX7, "dearestOf", "(II)I"⟩
abbrev cX7_carry : ByteArray := prog_9_method_11_code
def yX7_carry : MethodName := ⟨RX7, "carry", "(IIII)V"⟩
abbrev cX7_gather : ByteArray := prog_9_method_12_code
def yX7_gather : MethodName := ⟨RX7, "gather", "(II)V"⟩
abbrev cX7_join : ByteArray := prog_9_method_13_code
def yX7_join : MethodName := ⟨RX7, "join", "(I)V"⟩
def RX8 : String := "PlaySpans$Wind"
def TX8 : u_T := fun k => match k with
  | 0 => ("PlaySpans$Player", "piece", "LPlaySpans$Piece;", true)
  | 1 => ("PlaySpans$Player", "width", "I", true)
  | 2 => ("PlaySpans$Player", "counts", "[I", true)
  | 3 => ("PlaySpans$Player", "prices", "[I", true)
  | 4 => ("PlaySpans$Player", "firsts", "[I", true)
  | 5 => ("PlaySpans$Player", "seconds", "[I", true)
  | _ => ("PlaySpans$Player", "listed", "I", false)
def tyX8 : Nat → FieldType := fun k => match k with
  | 0 => .object "PlaySpans$Piece"
  | 1 => .int
  | 2 => .array .int
  | 3 => .array .int
  | 4 => .array .int
  | 5 => .array .int
  | _ => .int
theorem nmX8 : ∀ a, a < 7 → ∀ b, b < 7 → a ≠ b → (TX8 a).2.1 ≠ (TX8 b).2.1 := by decide +kernel
theorem tyX8_ok : ∀ k, k < 7 → parseFieldDescriptor (TX8 k).2.2.1 = some (tyX8 k) := by decide +kernel
abbrev cX8_init : ByteArray := prog_10_method_1_code
def yX8_init : MethodName := ⟨RX8, "<init>", "()V"⟩
abbrev cX8_listOne : ByteArray := prog_10_method_2_code
def yX8_listOne : MethodName := ⟨RX8, "listOne", "(I)V"⟩
abbrev cX8_earliestBreath : ByteArray := prog_10_method_3_code
def yX8_earliestBreath : MethodName := ⟨RX8, "earliestBreath", "(I)I"⟩
abbrev cX8_stepPrice : ByteArray := prog_10_method_4_code
def yX8_stepPrice : MethodName := ⟨RX8, "stepPrice", "(IIII)I"⟩
abbrev cX8_breathPrice : ByteArray := prog_10_method_5_code
def yX8_breathPrice : MethodName := ⟨RX8, "breathPrice", "(II)I"⟩
def RX9 : String := "PlaySpans"
def TX9 : u_T := fun k => match k with
  | 0 => ("PlaySpans", "instrument", "I", true)
  | 1 => ("PlaySpans", "player", "LPlaySpans$Player;", true)
  | 2 => ("PlaySpans", "search", "LPlaySpans$Search;", true)
  | _ => ("PlaySpans", "tally", "LPlaySpans$Tally;", false)
def tyX9 : Nat → FieldType := fun k => match k with
  | 0 => .int
  | 1 => .object "PlaySpans$Player"
  | 2 => .object "PlaySpans$Search"
  | _ => .object "PlaySpans$Tally"
theorem nmX9 : ∀ a, a < 4 → ∀ b, b < 4 → a ≠ b → (TX9 a).2.1 ≠ (TX9 b).2.1 := by decide +kernel
theorem tyX9_ok : ∀ k, k < 4 → parseFieldDescriptor (TX9 k).2.2.1 = some (tyX9 k) := by decide +kernel
abbrev cX9_init : ByteArray := prog_1_method_1_code
def yX9_init : MethodName := ⟨RX9, "<init>", "(I)V"⟩
abbrev cX9_playerOf : ByteArray := prog_1_method_2_code
def yX9_playerOf : MethodName := ⟨RX9, "playerOf", "(I)LPlaySpans$Player;"⟩
abbrev cX9_event : ByteArray := prog_1_method_3_code
def yX9_event : MethodName := ⟨RX9, "event", "(IIIIII)I"⟩
abbrev cX9_drop : ByteArray := prog_1_method_4_code
def yX9_drop : MethodName := ⟨RX9, "drop", "()I"⟩
abbrev cX9_bound : ByteArray := prog_1_method_5_code
def yX9_bound : MethodName := ⟨RX9, "bound", "(II)I"⟩
abbrev cX9_pin : ByteArray := prog_1_method_6_code
def yX9_pin : MethodName := ⟨RX9, "pin", "(II)I"⟩
abbrev cX9_states : ByteArray := prog_1_method_7_code
def yX9_states : MethodName := ⟨RX9, "states", "(I)I"⟩
abbrev cX9_state : ByteArray := prog_1_method_8_code
def yX9_state : MethodName := ⟨RX9, "state", "(III)I"⟩
abbrev cX9_step : ByteArray := prog_1_method_9_code
def yX9_step : MethodName := ⟨RX9, "step", "(III)I"⟩
abbrev cX9_price : ByteArray := prog_1_method_10_code
def yX9_price : MethodName := ⟨RX9, "price", "()I"⟩
abbrev cX9_way : ByteArray := prog_1_method_11_code
def yX9_way : MethodName := ⟨RX9, "way", "(I)I"⟩
abbrev cX9_stuck : ByteArray := prog_1_method_12_code
def yX9_stuck : MethodName := ⟨RX9, "stuck", "()I"⟩
abbrev cX9_ways : ByteArray := prog_1_method_13_code
def yX9_ways : MethodName := ⟨RX9, "ways", "(I)I"⟩
abbrev cX9_told : ByteArray := prog_1_method_14_code
def yX9_told : MethodName := ⟨RX9, "told", "(I)I"⟩
abbrev cX9_about : ByteArray := prog_1_method_15_code
def yX9_about : MethodName := ⟨RX9, "about", "(II)I"⟩
abbrev cX9_hasHand : ByteArray := prog_1_method_16_code
def yX9_hasHand : MethodName := ⟨RX9, "hasHand", "(I)Z"⟩
abbrev cX9_hasState : ByteArray := prog_1_method_17_code
def yX9_hasState : MethodName := ⟨RX9, "hasState", "(II)Z"⟩
abbrev cX9_fits : ByteArray := prog_1_method_18_code
def yX9_fits : MethodName := ⟨RX9, "fits", "(II)Z"⟩
abbrev cX9_forgetAnswers : ByteArray := prog_1_method_19_code
def yX9_forgetAnswers : MethodName := ⟨RX9, "forgetAnswers", "()V"⟩
def RX10 : String := "PlaySpansModel"
def TX10 : u_T := fun k => match k with
  | 0 => ("PlaySpansModel", "instrument", "I", true)
  | 1 => ("PlaySpansModel", "events", "I", false)
  | 2 => ("PlaySpansModel", "hand", "[I", true)
  | 3 => ("PlaySpansModel", "time", "[I", true)
  | 4 => ("PlaySpansModel", "length", "[I", true)
  | 5 => ("PlaySpansModel", "notes", "[I", true)
  | 6 => ("PlaySpansModel", "pitch", "[I", true)
  | 7 => ("PlaySpansModel", "pinned", "[I", true)
  | 8 => ("PlaySpansModel", "bounds", "[I", true)
  | 9 => ("PlaySpansModel", "isFound", "Z", false)
  | 10 => ("PlaySpansModel", "count", "[I", true)
  | 11 => ("PlaySpansModel", "one", "[I", true)
  | 12 => ("PlaySpansModel", "two", "[I", true)
  | 13 => ("PlaySpansModel", "price", "[I", true)
  | 14 => ("PlaySpansModel", "rest", "[I", true)
  | 15 => ("PlaySpansModel", "taken", "[I", true)
  | 16 => ("PlaySpansModel", "comes", "[Z", true)
  | 17 => ("PlaySpansModel", "many", "[I", true)
  | 18 => ("PlaySpansModel", "all", "[I", true)
  | _ => ("PlaySpansModel", "both", "[I", true)
def tyX10 : Nat → FieldType := fun k => match k with
  | 0 => .int
  | 1 => .int
  | 2 => .array .int
  | 3 => .array .int
  | 4 => .array .int
  | 5 => .array .int
  | 6 => .array .int
  | 7 => .array .int
  | 8 => .array .int
  | 9 => .boolean
  | 10 => .array .int
  | 11 => .array .int
  | 12 => .array .int
  | 13 => .array .int
  | 14 => .array .int
  | 15 => .array .int
  | 16 => .array .boolean
  | 17 => .array .int
  | 18 => .array .int
  | _ => .array .int
theorem nmX10 : ∀ a, a < 20 → ∀ b, b < 20 → a ≠ b → (TX10 a).2.1 ≠ (TX10 b).2.1 := by decide +kernel
theorem tyX10_ok : ∀ k, k < 20 → parseFieldDescriptor (TX10 k).2.2.1 = some (tyX10 k) := by decide +kernel
abbrev cX10_init : ByteArray := prog_12_method_1_code
def yX10_init : MethodName := ⟨RX10, "<init>", "(I)V"⟩
abbrev cX10_in : ByteArray := prog_12_method_2_code
def yX10_in : MethodName := ⟨RX10, "in", "(III)Z"⟩
abbrev cX10_far : ByteArray := prog_12_method_3_code
def yX10_far : MethodName := ⟨RX10, "far", "(II)I"⟩
abbrev cX10_before : ByteArray := prog_12_method_4_code
def yX10_before : MethodName := ⟨RX10, "before", "(II)I"⟩
abbrev cX10_after : ByteArray := prog_12_method_5_code
def yX10_after : MethodName := ⟨RX10, "after", "(I)I"⟩
abbrev cX10_isWell : ByteArray := prog_12_method_6_code
def yX10_isWell : MethodName := ⟨RX10, "isWell", "(IIIIII)Z"⟩
abbrev cX10_event : ByteArray := prog_12_method_7_code
def yX10_event : MethodName := ⟨RX10, "event", "(IIIIII)I"⟩
abbrev cX10_drop : ByteArray := prog_12_method_8_code
def yX10_drop : MethodName := ⟨RX10, "drop", "()I"⟩
abbrev cX10_bound : ByteArray := prog_12_method_9_code
def yX10_bound : MethodName := ⟨RX10, "bound", "(II)I"⟩
abbrev cX10_pin : ByteArray := prog_12_method_10_code
def yX10_pin : MethodName := ⟨RX10, "pin", "(II)I"⟩
abbrev cX10_add : ByteArray := prog_12_method_11_code
def yX10_add : MethodName := ⟨RX10, "add", "(IIII)V"⟩
abbrev cX10_find : ByteArray := prog_12_method_12_code
def yX10_find : MethodName := ⟨RX10, "find", "()V"⟩
abbrev cX10_findOf : ByteArray := prog_12_method_13_code
def yX10_findOf : MethodName := ⟨RX10, "findOf", "(I)V"⟩
abbrev cX10_bits : ByteArray := prog_12_method_14_code
def yX10_bits : MethodName := ⟨RX10, "bits", "(I)I"⟩
abbrev cX10_finger : ByteArray := prog_12_method_15_code
def yX10_finger : MethodName := ⟨RX10, "finger", "(III)I"⟩
abbrev cX10_fingers : ByteArray := prog_12_method_16_code
def yX10_fingers : MethodName := ⟨RX10, "fingers", "(II)V"⟩
abbrev cX10_strings : ByteArray := prog_12_method_17_code
def yX10_strings : MethodName := ⟨RX10, "strings", "(III)V"⟩
abbrev cX10_breaths : ByteArray := prog_12_method_18_code
def yX10_breaths : MethodName := ⟨RX10, "breaths", "(I)V"⟩
abbrev cX10_isPartial : ByteArray := prog_12_method_19_code
def yX10_isPartial : MethodName := ⟨RX10, "isPartial", "(I)Z"⟩
abbrev cX10_played : ByteArray := prog_12_method_20_code
def yX10_played : MethodName := ⟨RX10, "played", "(II)I"⟩
abbrev cX10_isOther : ByteArray := prog_12_method_21_code
def yX10_isOther : MethodName := ⟨RX10, "isOther", "(II)Z"⟩
abbrev cX10_sticks : ByteArray := prog_12_method_22_code
def yX10_sticks : MethodName := ⟨RX10, "sticks", "(I)V"⟩
abbrev cX10_noState : ByteArray := prog_12_method_23_code
def yX10_noState : MethodName := ⟨RX10, "noState", "(II)Z"⟩
abbrev cX10_states : ByteArray := prog_12_method_24_code
def yX10_states : MethodName := ⟨RX10, "states", "(I)I"⟩
abbrev cX10_state : ByteArray := prog_12_method_25_code
def yX10_state : MethodName := ⟨RX10, "state", "(III)I"⟩
abbrev cX10_moved : ByteArray := prog_12_method_26_code
def yX10_moved : MethodName := ⟨RX10, "moved", "(III)I"⟩
abbrev cX10_stepOf : ByteArray := prog_12_method_27_code
def yX10_stepOf : MethodName := ⟨RX10, "stepOf", "(IIII)I"⟩
abbrev cX10_breathed : ByteArray := prog_12_method_28_code
def yX10_breathed : MethodName := ⟨RX10, "breathed", "(IIII)I"⟩
abbrev cX10_latest : ByteArray := prog_12_method_29_code
def yX10_latest : MethodName := ⟨RX10, "latest", "(III)I"⟩
abbrev cX10_struck : ByteArray := prog_12_method_30_code
def yX10_struck : MethodName := ⟨RX10, "struck", "(IIII)I"⟩
abbrev cX10_step : ByteArray := prog_12_method_31_code
def yX10_step : MethodName := ⟨RX10, "step", "(III)I"⟩
abbrev cX10_isLet : ByteArray := prog_12_method_32_code
def yX10_isLet : MethodName := ⟨RX10, "isLet", "(II)Z"⟩
abbrev cX10_reckon : ByteArray := prog_12_method_33_code
def yX10_reckon : MethodName := ⟨RX10, "reckon", "()V"⟩
abbrev cX10_first : ByteArray := prog_12_method_34_code
def yX10_first : MethodName := ⟨RX10, "first", "(I)I"⟩
abbrev cX10_chain : ByteArray := prog_12_method_35_code
def yX10_chain : MethodName := ⟨RX10, "chain", "(I)I"⟩
abbrev cX10_price : ByteArray := prog_12_method_36_code
def yX10_price : MethodName := ⟨RX10, "price", "()I"⟩
abbrev cX10_way : ByteArray := prog_12_method_37_code
def yX10_way : MethodName := ⟨RX10, "way", "(I)I"⟩
abbrev cX10_isOn : ByteArray := prog_12_method_38_code
def yX10_isOn : MethodName := ⟨RX10, "isOn", "(IIII)Z"⟩
abbrev cX10_stuck : ByteArray := prog_12_method_39_code
def yX10_stuck : MethodName := ⟨RX10, "stuck", "()I"⟩
abbrev cX10_more : ByteArray := prog_12_method_40_code
def yX10_more : MethodName := ⟨RX10, "more", "(II)I"⟩
abbrev cX10_countChain : ByteArray := prog_12_method_41_code
def yX10_countChain : MethodName := ⟨RX10, "countChain", "(I)V"⟩
abbrev cX10_beginCounts : ByteArray := prog_12_method_42_code
def yX10_beginCounts : MethodName := ⟨RX10, "beginCounts", "(I)V"⟩
abbrev cX10_goOn : ByteArray := prog_12_method_43_code
def yX10_goOn : MethodName := ⟨RX10, "goOn", "(III)V"⟩
abbrev cX10_ways : ByteArray := prog_12_method_44_code
def yX10_ways : MethodName := ⟨RX10, "ways", "(I)I"⟩
abbrev cX10_told : ByteArray := prog_12_method_45_code
def yX10_told : MethodName := ⟨RX10, "told", "(I)I"⟩
abbrev cX10_about : ByteArray := prog_12_method_46_code
def yX10_about : MethodName := ⟨RX10, "about", "(II)I"⟩
def RJ6 : String := "java/lang/Integer"
abbrev cJ6_bitCount_0f7a4 : ByteArray := prog_13_method_49_code
def yJ6_bitCount_0f7a4 : MethodName := ⟨RJ6, "bitCount", "(I)I"⟩
def RJ9 : String := "java/lang/Math"
abbrev cJ9_abs_0f7a4 : ByteArray := prog_14_method_59_code
def yJ9_abs_0f7a4 : MethodName := ⟨RJ9, "abs", "(I)I"⟩
abbrev cJ9_max_7cf53 : ByteArray := prog_14_method_65_code
def yJ9_max_7cf53 : MethodName := ⟨RJ9, "max", "(II)I"⟩
abbrev cJ9_min_7cf53 : ByteArray := prog_14_method_69_code
def yJ9_min_7cf53 : MethodName := ⟨RJ9, "min", "(II)I"⟩
abbrev cJ9_min_f86c9 : ByteArray := prog_14_method_70_code
def yJ9_min_f86c9 : MethodName := ⟨RJ9, "min", "(JJ)J"⟩
def RJ7 : String := "java/util/Arrays"
abbrev cJ7_rangeCheck_23922 : ByteArray := prog_15_method_30_code
def yJ7_rangeCheck_23922 : MethodName := ⟨RJ7, "rangeCheck", "(III)V"⟩
abbrev cJ7_fill_53178 : ByteArray := prog_15_method_103_code
def yJ7_fill_53178 : MethodName := ⟨RJ7, "fill", "([II)V"⟩
abbrev cJ7_fill_fda19 : ByteArray := prog_15_method_104_code
def yJ7_fill_fda19 : MethodName := ⟨RJ7, "fill", "([IIII)V"⟩
def RL : String := "PlaySpansLaw"
abbrev cL_cell : ByteArray := method_2_code
def yL_cell : MethodName := ⟨RL, "cell", "([II)I"⟩
abbrev cL_law : ByteArray := code
def yL_law : MethodName := ⟨RL, "law", "([I)Z"⟩
abbrev vwCl : List vw_C := [(RX0, TX0, 7), (RX1, TX1, 8), (RX3, TX3, 6), (RX4, TX4, 7), (RX5, TX5, 7), (RX6, TX6, 7), (RX7, TX7, 6), (RX8, TX8, 7), (RX9, TX9, 4), (RX10, TX10, 20)]
end
section
/-- every word of the tables that a contract may carry -/
def ALL : List Cond := lw_tbl.filter goodWord
theorem al_mem (i : Nat) (w : Cond) (h : tables_1[i]? = some w) (hg : goodWord w = true) : w ∈ ALL := List.mem_filter.mpr ⟨List.mem_append_right _ (List.mem_of_getElem? h), hg⟩
theorem al_sel (q : MethodName × Nat) (h : q ∈ lw_privs) (hg : goodWord (Cond.selects q.1.cls q.1 q.1) = true) : Cond.selects q.1.cls q.1 q.1 ∈ ALL := List.mem_filter.mpr ⟨List.mem_append_left _ (List.mem_map.mpr ⟨q, h, rfl⟩), hg⟩
theorem al_good : ∀ w ∈ ALL, goodWord w = true := fun w h => (List.mem_filter.mp h).2
theorem al_tbl : ∀ w ∈ ALL, w ∈ lw_tbl := fun w h => (List.mem_filter.mp h).1
theorem al_0 : Cond.initialized RL ∈ ALL := al_mem 0 _ (by decide +kernel) (by decide +kernel)
theorem al_1 : Cond.initialized RX9 ∈ ALL := al_mem 1 _ (by decide +kernel) (by decide +kernel)
theorem al_2 : Cond.initialized RJ9 ∈ ALL := al_mem 2 _ (by decide +kernel) (by decide +kernel)
theorem al_3 : Cond.initialized RX2 ∈ ALL := al_mem 3 _ (by decide +kernel) (by decide +kernel)
theorem al_4 : Cond.initialized RX0 ∈ ALL := al_mem 4 _ (by decide +kernel) (by decide +kernel)
theorem al_5 : Cond.initialized RX1 ∈ ALL := al_mem 5 _ (by decide +kernel) (by decide +kernel)
theorem al_6 : Cond.initialized RX6 ∈ ALL := al_mem 6 _ (by decide +kernel) (by decide +kernel)
theorem al_7 : Cond.initialized RX8 ∈ ALL := al_mem 7 _ (by decide +kernel) (by decide +kernel)
theorem al_8 : Cond.initialized RX4 ∈ ALL := al_mem 8 _ (by decide +kernel) (by decide +kernel)
theorem al_9 : Cond.initialized RX5 ∈ ALL := al_mem 9 _ (by decide +kernel) (by decide +kernel)
theorem al_10 : Cond.initialized RX3 ∈ ALL := al_mem 10 _ (by decide +kernel) (by decide +kernel)
theorem al_11 : Cond.initialized RX10 ∈ ALL := al_mem 11 _ (by decide +kernel) (by decide +kernel)
theorem al_12 : Cond.initialized RJ6 ∈ ALL := al_mem 12 _ (by decide +kernel) (by decide +kernel)
theorem al_13 : Cond.initialized RX7 ∈ ALL := al_mem 13 _ (by decide +kernel) (by decide +kernel)
theorem al_14 : Cond.initialized RJ7 ∈ ALL := al_mem 14 _ (by decide +kernel) (by decide +kernel)
theorem al_15 : Cond.classLink RL 7 RX9 ∈ ALL := al_mem 15 _ (by decide +kernel) (by decide +kernel)
theorem al_16 : Cond.instantiable RX9 4 ∈ ALL := al_mem 16 _ (by decide +kernel) (by decide +kernel)
theorem al_17 : Cond.methodLink RL 15 yX9_init ∈ ALL := al_mem 17 _ (by decide +kernel) (by decide +kernel)
theorem al_18 : Cond.instanceMethod yX9_init ∈ ALL := al_mem 18 _ (by decide +kernel) (by decide +kernel)
theorem al_19 : Cond.code yX9_init prog_1_method_1_code 2 (Option.none : Option Jvm.ClassFile.FieldType) ∈ ALL := al_mem 19 _ (by decide +kernel) (by decide +kernel)
theorem al_20 : Cond.methodLink RX9 1 ⟨"java/lang/Object", "<init>", "()V"⟩ ∈ ALL := al_mem 20 _ (by decide +kernel) (by decide +kernel)
theorem al_21 : Cond.instanceMethod ⟨"java/lang/Object", "<init>", "()V"⟩ ∈ ALL := al_mem 21 _ (by decide +kernel) (by decide +kernel)
theorem al_22 : Cond.code ⟨"java/lang/Object", "<init>", "()V"⟩ object_method_1_code 1 (Option.none : Option Jvm.ClassFile.FieldType) ∈ ALL := al_mem 22 _ (by decide +kernel) (by decide +kernel)
theorem al_23 : Cond.methodLink RX9 9 yJ9_min_7cf53 ∈ ALL := al_mem 23 _ (by decide +kernel) (by decide +kernel)
theorem al_24 : Cond.static yJ9_min_7cf53 ∈ ALL := al_mem 24 _ (by decide +kernel) (by decide +kernel)
theorem al_25 : Cond.code yJ9_min_7cf53 prog_14_method_69_code 2 (Option.some Jvm.ClassFile.FieldType.int) ∈ ALL := al_mem 25 _ (by decide +kernel) (by decide +kernel)
theorem al_26 : Cond.methodLink RX9 15 yJ9_max_7cf53 ∈ ALL := al_mem 26 _ (by decide +kernel) (by decide +kernel)
theorem al_27 : Cond.static yJ9_max_7cf53 ∈ ALL := al_mem 27 _ (by decide +kernel) (by decide +kernel)
theorem al_28 : Cond.code yJ9_max_7cf53 prog_14_method_65_code 2 (Option.some Jvm.ClassFile.FieldType.int) ∈ ALL := al_mem 28 _ (by decide +kernel) (by decide +kernel)
theorem al_29 : Cond.methodLink RX9 22 yX9_playerOf ∈ ALL := al_mem 29 _ (by decide +kernel) (by decide +kernel)
theorem al_30 : Cond.static yX9_playerOf ∈ ALL := al_mem 30 _ (by decide +kernel) (by decide +kernel)
theorem al_31 : Cond.code yX9_playerOf prog_1_method_2_code 1 (Option.some (Jvm.ClassFile.FieldType.object "PlaySpans$Player")) ∈ ALL := al_mem 31 _ (by decide +kernel) (by decide +kernel)
theorem al_32 : Cond.classLink RX9 48 RX0 ∈ ALL := al_mem 32 _ (by decide +kernel) (by decide +kernel)
theorem al_33 : Cond.instantiable RX0 7 ∈ ALL := al_mem 33 _ (by decide +kernel) (by decide +kernel)
theorem al_34 : Cond.methodLink RX9 50 yX0_init ∈ ALL := al_mem 34 _ (by decide +kernel) (by decide +kernel)
theorem al_35 : Cond.instanceMethod yX0_init ∈ ALL := al_mem 35 _ (by decide +kernel) (by decide +kernel)
theorem al_36 : Cond.code yX0_init prog_2_method_1_code 1 (Option.none : Option Jvm.ClassFile.FieldType) ∈ ALL := al_mem 36 _ (by decide +kernel) (by decide +kernel)
theorem al_37 : Cond.methodLink RX0 3 yX2_init ∈ ALL := al_mem 37 _ (by decide +kernel) (by decide +kernel)
theorem al_38 : Cond.instanceMethod yX2_init ∈ ALL := al_mem 38 _ (by decide +kernel) (by decide +kernel)
theorem al_39 : Cond.code yX2_init prog_4_method_1_code 2 (Option.none : Option Jvm.ClassFile.FieldType) ∈ ALL := al_mem 39 _ (by decide +kernel) (by decide +kernel)
theorem al_40 : Cond.methodLink RX2 3 ⟨"java/lang/Object", "<init>", "()V"⟩ ∈ ALL := al_mem 40 _ (by decide +kernel) (by decide +kernel)
theorem al_41 : Cond.classLink RX2 9 RX1 ∈ ALL := al_mem 41 _ (by decide +kernel) (by decide +kernel)
theorem al_42 : Cond.instantiable RX1 8 ∈ ALL := al_mem 42 _ (by decide +kernel) (by decide +kernel)
theorem al_44 : Cond.instanceMethod yX1_init ∈ ALL := al_mem 44 _ (by decide +kernel) (by decide +kernel)
theorem al_45 : Cond.code yX1_init prog_3_method_1_code 1 (Option.none : Option Jvm.ClassFile.FieldType) ∈ ALL := al_mem 45 _ (by decide +kernel) (by decide +kernel)
theorem al_46 : Cond.methodLink RX1 3 ⟨"java/lang/Object", "<init>", "()V"⟩ ∈ ALL := al_mem 46 _ (by decide +kernel) (by decide +kernel)
theorem al_47 : Cond.fieldLink RX1 9 "PlaySpans$Piece" "bounds" "[I" ∈ ALL := al_mem 47 _ (by decide +kernel) (by decide +kernel)
theorem al_48 : Cond.fieldLink RX1 15 "PlaySpans$Piece" "hands" "[I" ∈ ALL := al_mem 48 _ (by decide +kernel) (by decide +kernel)
theorem al_49 : Cond.fieldLink RX1 18 "PlaySpans$Piece" "times" "[I" ∈ ALL := al_mem 49 _ (by decide +kernel) (by decide +kernel)
theorem al_50 : Cond.fieldLink RX1 21 "PlaySpans$Piece" "lengths" "[I" ∈ ALL := al_mem 50 _ (by decide +kernel) (by decide +kernel)
theorem al_51 : Cond.fieldLink RX1 24 "PlaySpans$Piece" "sizes" "[I" ∈ ALL := al_mem 51 _ (by decide +kernel) (by decide +kernel)
theorem al_52 : Cond.fieldLink RX1 27 "PlaySpans$Piece" "pins" "[I" ∈ ALL := al_mem 52 _ (by decide +kernel) (by decide +kernel)
theorem al_53 : Cond.fieldLink RX1 30 "PlaySpans$Piece" "pitches" "[I" ∈ ALL := al_mem 53 _ (by decide +kernel) (by decide +kernel)
theorem al_54 : Cond.fieldLink RX1 33 "PlaySpans$Piece" "count" "I" ∈ ALL := al_mem 54 _ (by decide +kernel) (by decide +kernel)
theorem al_76 : Cond.arrayClass Jvm.ClassFile.FieldType.int ∈ ALL := al_mem 76 _ (by decide +kernel) (by decide +kernel)
theorem al_77 : Cond.methodLink RX2 26 yJ9_max_7cf53 ∈ ALL := al_mem 77 _ (by decide +kernel) (by decide +kernel)
theorem al_78 : Cond.fieldLink RX2 12 "PlaySpans$Player" "piece" "LPlaySpans$Piece;" ∈ ALL := al_mem 78 _ (by decide +kernel) (by decide +kernel)
theorem al_79 : Cond.fieldLink RX5 9 "PlaySpans$Sticks" "piece" "LPlaySpans$Piece;" ∈ ALL := al_mem 79 _ (by decide +kernel) (by decide +kernel)
theorem al_80 : Cond.sameField "PlaySpans$Sticks" "PlaySpans$Player" "piece" "LPlaySpans$Piece;" ∈ ALL := al_mem 80 _ (by decide +kernel) (by decide +kernel)
theorem al_81 : Cond.fieldLink RX4 11 "PlaySpans$Slide" "piece" "LPlaySpans$Piece;" ∈ ALL := al_mem 81 _ (by decide +kernel) (by decide +kernel)
theorem al_82 : Cond.sameField "PlaySpans$Slide" "PlaySpans$Player" "piece" "LPlaySpans$Piece;" ∈ ALL := al_mem 82 _ (by decide +kernel) (by decide +kernel)
theorem al_83 : Cond.fieldLink RX6 11 "PlaySpans$Strings" "piece" "LPlaySpans$Piece;" ∈ ALL := al_mem 83 _ (by decide +kernel) (by decide +kernel)
theorem al_84 : Cond.sameField "PlaySpans$Strings" "PlaySpans$Player" "piece" "LPlaySpans$Piece;" ∈ ALL := al_mem 84 _ (by decide +kernel) (by decide +kernel)
theorem al_85 : Cond.fieldLink RX0 17 "PlaySpans$Keyboard" "piece" "LPlaySpans$Piece;" ∈ ALL := al_mem 85 _ (by decide +kernel) (by decide +kernel)
theorem al_86 : Cond.sameField "PlaySpans$Keyboard" "PlaySpans$Player" "piece" "LPlaySpans$Piece;" ∈ ALL := al_mem 86 _ (by decide +kernel) (by decide +kernel)
theorem al_87 : Cond.fieldLink RX7 43 "PlaySpans$Player" "piece" "LPlaySpans$Piece;" ∈ ALL := al_mem 87 _ (by decide +kernel) (by decide +kernel)
theorem al_88 : Cond.fieldLink RX3 54 "PlaySpans$Player" "piece" "LPlaySpans$Piece;" ∈ ALL := al_mem 88 _ (by decide +kernel) (by decide +kernel)
theorem al_89 : Cond.fieldLink RX8 19 "PlaySpans$Wind" "piece" "LPlaySpans$Piece;" ∈ ALL := al_mem 89 _ (by decide +kernel) (by decide +kernel)
theorem al_90 : Cond.sameField "PlaySpans$Wind" "PlaySpans$Player" "piece" "LPlaySpans$Piece;" ∈ ALL := al_mem 90 _ (by decide +kernel) (by decide +kernel)
theorem al_91 : Cond.fieldLink RX9 82 "PlaySpans$Player" "piece" "LPlaySpans$Piece;" ∈ ALL := al_mem 91 _ (by decide +kernel) (by decide +kernel)
theorem al_92 : Cond.fieldLink RX2 32 "PlaySpans$Player" "width" "I" ∈ ALL := al_mem 92 _ (by decide +kernel) (by decide +kernel)
theorem al_93 : Cond.fieldLink RX9 32 "PlaySpans$Player" "width" "I" ∈ ALL := al_mem 93 _ (by decide +kernel) (by decide +kernel)
theorem al_94 : Cond.fieldLink RX2 18 "PlaySpans$Player" "counts" "[I" ∈ ALL := al_mem 94 _ (by decide +kernel) (by decide +kernel)
theorem al_95 : Cond.fieldLink RX2 35 "PlaySpans$Player" "prices" "[I" ∈ ALL := al_mem 95 _ (by decide +kernel) (by decide +kernel)
theorem al_96 : Cond.fieldLink RX2 38 "PlaySpans$Player" "firsts" "[I" ∈ ALL := al_mem 96 _ (by decide +kernel) (by decide +kernel)
theorem al_97 : Cond.fieldLink RX2 41 "PlaySpans$Player" "seconds" "[I" ∈ ALL := al_mem 97 _ (by decide +kernel) (by decide +kernel)
theorem al_98 : Cond.fieldLink RX2 22 "PlaySpans$Player" "listed" "I" ∈ ALL := al_mem 98 _ (by decide +kernel) (by decide +kernel)
theorem al_115 : Cond.classLink RX9 51 RX6 ∈ ALL := al_mem 115 _ (by decide +kernel) (by decide +kernel)
theorem al_116 : Cond.instantiable RX6 7 ∈ ALL := al_mem 116 _ (by decide +kernel) (by decide +kernel)
theorem al_117 : Cond.methodLink RX9 53 yX6_init ∈ ALL := al_mem 117 _ (by decide +kernel) (by decide +kernel)
theorem al_118 : Cond.instanceMethod yX6_init ∈ ALL := al_mem 118 _ (by decide +kernel) (by decide +kernel)
theorem al_119 : Cond.code yX6_init prog_8_method_1_code 1 (Option.none : Option Jvm.ClassFile.FieldType) ∈ ALL := al_mem 119 _ (by decide +kernel) (by decide +kernel)
theorem al_120 : Cond.methodLink RX6 5 yX2_init ∈ ALL := al_mem 120 _ (by decide +kernel) (by decide +kernel)
theorem al_129 : Cond.classLink RX9 54 RX8 ∈ ALL := al_mem 129 _ (by decide +kernel) (by decide +kernel)
theorem al_130 : Cond.instantiable RX8 7 ∈ ALL := al_mem 130 _ (by decide +kernel) (by decide +kernel)
theorem al_131 : Cond.methodLink RX9 56 yX8_init ∈ ALL := al_mem 131 _ (by decide +kernel) (by decide +kernel)
theorem al_132 : Cond.instanceMethod yX8_init ∈ ALL := al_mem 132 _ (by decide +kernel) (by decide +kernel)
theorem al_133 : Cond.code yX8_init prog_10_method_1_code 1 (Option.none : Option Jvm.ClassFile.FieldType) ∈ ALL := al_mem 133 _ (by decide +kernel) (by decide +kernel)
theorem al_134 : Cond.methodLink RX8 3 yX2_init ∈ ALL := al_mem 134 _ (by decide +kernel) (by decide +kernel)
theorem al_143 : Cond.classLink RX9 57 RX4 ∈ ALL := al_mem 143 _ (by decide +kernel) (by decide +kernel)
theorem al_144 : Cond.instantiable RX4 7 ∈ ALL := al_mem 144 _ (by decide +kernel) (by decide +kernel)
theorem al_145 : Cond.methodLink RX9 59 yX4_init ∈ ALL := al_mem 145 _ (by decide +kernel) (by decide +kernel)
theorem al_146 : Cond.instanceMethod yX4_init ∈ ALL := al_mem 146 _ (by decide +kernel) (by decide +kernel)
theorem al_147 : Cond.code yX4_init prog_6_method_1_code 1 (Option.none : Option Jvm.ClassFile.FieldType) ∈ ALL := al_mem 147 _ (by decide +kernel) (by decide +kernel)
theorem al_148 : Cond.methodLink RX4 5 yX2_init ∈ ALL := al_mem 148 _ (by decide +kernel) (by decide +kernel)
theorem al_157 : Cond.classLink RX9 60 RX5 ∈ ALL := al_mem 157 _ (by decide +kernel) (by decide +kernel)
theorem al_158 : Cond.instantiable RX5 7 ∈ ALL := al_mem 158 _ (by decide +kernel) (by decide +kernel)
theorem al_159 : Cond.methodLink RX9 62 yX5_init ∈ ALL := al_mem 159 _ (by decide +kernel) (by decide +kernel)
theorem al_160 : Cond.instanceMethod yX5_init ∈ ALL := al_mem 160 _ (by decide +kernel) (by decide +kernel)
theorem al_161 : Cond.code yX5_init prog_7_method_1_code 1 (Option.none : Option Jvm.ClassFile.FieldType) ∈ ALL := al_mem 161 _ (by decide +kernel) (by decide +kernel)
theorem al_162 : Cond.methodLink RX5 3 yX2_init ∈ ALL := al_mem 162 _ (by decide +kernel) (by decide +kernel)
theorem al_171 : Cond.classLink RX9 30 RX3 ∈ ALL := al_mem 171 _ (by decide +kernel) (by decide +kernel)
theorem al_172 : Cond.instantiable RX3 6 ∈ ALL := al_mem 172 _ (by decide +kernel) (by decide +kernel)
theorem al_173 : Cond.methodLink RX9 37 yX3_init ∈ ALL := al_mem 173 _ (by decide +kernel) (by decide +kernel)
theorem al_174 : Cond.instanceMethod yX3_init ∈ ALL := al_mem 174 _ (by decide +kernel) (by decide +kernel)
theorem al_175 : Cond.code yX3_init prog_5_method_1_code 2 (Option.none : Option Jvm.ClassFile.FieldType) ∈ ALL := al_mem 175 _ (by decide +kernel) (by decide +kernel)
theorem al_176 : Cond.methodLink RX3 3 ⟨"java/lang/Object", "<init>", "()V"⟩ ∈ ALL := al_mem 176 _ (by decide +kernel) (by decide +kernel)
theorem al_177 : Cond.methodLink RX3 26 yJ9_max_7cf53 ∈ ALL := al_mem 177 _ (by decide +kernel) (by decide +kernel)
theorem al_178 : Cond.fieldLink RX3 32 "PlaySpans$Search" "width" "I" ∈ ALL := al_mem 178 _ (by decide +kernel) (by decide +kernel)
theorem al_179 : Cond.fieldLink RX3 35 "PlaySpans$Search" "pains" "[I" ∈ ALL := al_mem 179 _ (by decide +kernel) (by decide +kernel)
theorem al_180 : Cond.fieldLink RX3 9 "PlaySpans$Search" "chosen" "[I" ∈ ALL := al_mem 180 _ (by decide +kernel) (by decide +kernel)
theorem al_181 : Cond.fieldLink RX3 15 "PlaySpans$Search" "least" "I" ∈ ALL := al_mem 181 _ (by decide +kernel) (by decide +kernel)
theorem al_183 : Cond.fieldLink RX3 19 "PlaySpans$Search" "stuckAt" "I" ∈ ALL := al_mem 183 _ (by decide +kernel) (by decide +kernel)
theorem al_185 : Cond.fieldLink RX3 22 "PlaySpans$Search" "current" "Z" ∈ ALL := al_mem 185 _ (by decide +kernel) (by decide +kernel)
theorem al_200 : Cond.fieldLink RX9 18 "PlaySpans" "instrument" "I" ∈ ALL := al_mem 200 _ (by decide +kernel) (by decide +kernel)
theorem al_201 : Cond.fieldLink RX9 26 "PlaySpans" "player" "LPlaySpans$Player;" ∈ ALL := al_mem 201 _ (by decide +kernel) (by decide +kernel)
theorem al_202 : Cond.fieldLink RX9 40 "PlaySpans" "search" "LPlaySpans$Search;" ∈ ALL := al_mem 202 _ (by decide +kernel) (by decide +kernel)
theorem al_203 : Cond.fieldLink RX9 44 "PlaySpans" "tally" "LPlaySpans$Tally;" ∈ ALL := al_mem 203 _ (by decide +kernel) (by decide +kernel)
theorem al_213 : Cond.methodLink RL 21 yX9_event ∈ ALL := al_mem 213 _ (by decide +kernel) (by decide +kernel)
theorem al_214 : Cond.instanceMethod yX9_event ∈ ALL := al_mem 214 _ (by decide +kernel) (by decide +kernel)
theorem al_215 : Cond.selects RX9 yX9_event yX9_event ∈ ALL := al_mem 215 _ (by decide +kernel) (by decide +kernel)
theorem al_216 : Cond.code yX9_event prog_1_method_3_code 8 (Option.some Jvm.ClassFile.FieldType.int) ∈ ALL := al_mem 216 _ (by decide +kernel) (by decide +kernel)
theorem al_218 : Cond.static yX1_howMany ∈ ALL := al_mem 218 _ (by decide +kernel) (by decide +kernel)
theorem al_219 : Cond.code yX1_howMany prog_3_method_2_code 3 (Option.some Jvm.ClassFile.FieldType.int) ∈ ALL := al_mem 219 _ (by decide +kernel) (by decide +kernel)
theorem al_220 : Cond.methodLink RX9 69 yX9_hasHand ∈ ALL := al_mem 220 _ (by decide +kernel) (by decide +kernel)
theorem al_222 : Cond.instanceMethod yX9_hasHand ∈ ALL := al_mem 222 _ (by decide +kernel) (by decide +kernel)
theorem al_223 : Cond.code yX9_hasHand prog_1_method_16_code 2 (Option.some Jvm.ClassFile.FieldType.boolean) ∈ ALL := al_mem 223 _ (by decide +kernel) (by decide +kernel)
theorem al_224 : Cond.constant RX9 73 100000 ∈ ALL := al_mem 224 _ (by decide +kernel) (by decide +kernel)
theorem al_225 : Cond.fieldLink RX9 74 "PlaySpans" "NOTES_AT_MOST" "[I" ∈ ALL := al_mem 225 _ (by decide +kernel) (by decide +kernel)
theorem al_227 : Cond.methodLink RX9 78 yX9_fits ∈ ALL := al_mem 227 _ (by decide +kernel) (by decide +kernel)
theorem al_229 : Cond.instanceMethod yX9_fits ∈ ALL := al_mem 229 _ (by decide +kernel) (by decide +kernel)
theorem al_230 : Cond.code yX9_fits prog_1_method_18_code 7 (Option.some Jvm.ClassFile.FieldType.boolean) ∈ ALL := al_mem 230 _ (by decide +kernel) (by decide +kernel)
theorem al_233 : Cond.instanceMethod yX1_lastOfHand ∈ ALL := al_mem 233 _ (by decide +kernel) (by decide +kernel)
theorem al_234 : Cond.code yX1_lastOfHand prog_3_method_19_code 4 (Option.some Jvm.ClassFile.FieldType.int) ∈ ALL := al_mem 234 _ (by decide +kernel) (by decide +kernel)
theorem al_235 : Cond.methodLink RX1 57 yJ9_min_7cf53 ∈ ALL := al_mem 235 _ (by decide +kernel) (by decide +kernel)
theorem al_238 : Cond.instanceMethod yX1_timeOf ∈ ALL := al_mem 238 _ (by decide +kernel) (by decide +kernel)
theorem al_239 : Cond.code yX1_timeOf prog_3_method_8_code 2 (Option.some Jvm.ClassFile.FieldType.int) ∈ ALL := al_mem 239 _ (by decide +kernel) (by decide +kernel)
theorem al_242 : Cond.instanceMethod yX1_lengthOf ∈ ALL := al_mem 242 _ (by decide +kernel) (by decide +kernel)
theorem al_243 : Cond.code yX1_lengthOf prog_3_method_9_code 2 (Option.some Jvm.ClassFile.FieldType.int) ∈ ALL := al_mem 243 _ (by decide +kernel) (by decide +kernel)
theorem al_246 : Cond.instanceMethod yX1_add ∈ ALL := al_mem 246 _ (by decide +kernel) (by decide +kernel)
theorem al_247 : Cond.code yX1_add prog_3_method_3_code 7 (Option.none : Option Jvm.ClassFile.FieldType) ∈ ALL := al_mem 247 _ (by decide +kernel) (by decide +kernel)
theorem al_248 : Cond.methodLink RX1 37 yX1_howMany ∈ ALL := al_mem 248 _ (by decide +kernel) (by decide +kernel)
theorem al_249 : Cond.methodLink RX9 93 yX9_forgetAnswers ∈ ALL := al_mem 249 _ (by decide +kernel) (by decide +kernel)
theorem al_251 : Cond.instanceMethod yX9_forgetAnswers ∈ ALL := al_mem 251 _ (by decide +kernel) (by decide +kernel)
theorem al_252 : Cond.code yX9_forgetAnswers prog_1_method_19_code 1 (Option.none : Option Jvm.ClassFile.FieldType) ∈ ALL := al_mem 252 _ (by decide +kernel) (by decide +kernel)
theorem al_253 : Cond.methodLink RL 26 yX9_drop ∈ ALL := al_mem 253 _ (by decide +kernel) (by decide +kernel)
theorem al_254 : Cond.instanceMethod yX9_drop ∈ ALL := al_mem 254 _ (by decide +kernel) (by decide +kernel)
theorem al_255 : Cond.selects RX9 yX9_drop yX9_drop ∈ ALL := al_mem 255 _ (by decide +kernel) (by decide +kernel)
theorem al_256 : Cond.code yX9_drop prog_1_method_4_code 1 (Option.some Jvm.ClassFile.FieldType.int) ∈ ALL := al_mem 256 _ (by decide +kernel) (by decide +kernel)
theorem al_257 : Cond.methodLink RL 31 yX9_bound ∈ ALL := al_mem 257 _ (by decide +kernel) (by decide +kernel)
theorem al_258 : Cond.instanceMethod yX9_bound ∈ ALL := al_mem 258 _ (by decide +kernel) (by decide +kernel)
theorem al_259 : Cond.selects RX9 yX9_bound yX9_bound ∈ ALL := al_mem 259 _ (by decide +kernel) (by decide +kernel)
theorem al_260 : Cond.code yX9_bound prog_1_method_5_code 4 (Option.some Jvm.ClassFile.FieldType.int) ∈ ALL := al_mem 260 _ (by decide +kernel) (by decide +kernel)
theorem al_261 : Cond.fieldLink RX9 99 "PlaySpans" "BOUND_FROM" "[I" ∈ ALL := al_mem 261 _ (by decide +kernel) (by decide +kernel)
theorem al_263 : Cond.fieldLink RX9 102 "PlaySpans" "BOUND_TO" "[I" ∈ ALL := al_mem 263 _ (by decide +kernel) (by decide +kernel)
theorem al_267 : Cond.instanceMethod yX1_boundOf ∈ ALL := al_mem 267 _ (by decide +kernel) (by decide +kernel)
theorem al_268 : Cond.code yX1_boundOf prog_3_method_5_code 2 (Option.some Jvm.ClassFile.FieldType.int) ∈ ALL := al_mem 268 _ (by decide +kernel) (by decide +kernel)
theorem al_271 : Cond.instanceMethod yX1_setBound ∈ ALL := al_mem 271 _ (by decide +kernel) (by decide +kernel)
theorem al_272 : Cond.code yX1_setBound prog_3_method_6_code 3 (Option.none : Option Jvm.ClassFile.FieldType) ∈ ALL := al_mem 272 _ (by decide +kernel) (by decide +kernel)
theorem al_273 : Cond.methodLink RL 36 yX9_pin ∈ ALL := al_mem 273 _ (by decide +kernel) (by decide +kernel)
theorem al_274 : Cond.instanceMethod yX9_pin ∈ ALL := al_mem 274 _ (by decide +kernel) (by decide +kernel)
theorem al_275 : Cond.selects RX9 yX9_pin yX9_pin ∈ ALL := al_mem 275 _ (by decide +kernel) (by decide +kernel)
theorem al_276 : Cond.code yX9_pin prog_1_method_6_code 4 (Option.some Jvm.ClassFile.FieldType.int) ∈ ALL := al_mem 276 _ (by decide +kernel) (by decide +kernel)
theorem al_279 : Cond.instanceMethod yX1_has ∈ ALL := al_mem 279 _ (by decide +kernel) (by decide +kernel)
theorem al_280 : Cond.code yX1_has prog_3_method_4_code 2 (Option.some Jvm.ClassFile.FieldType.boolean) ∈ ALL := al_mem 280 _ (by decide +kernel) (by decide +kernel)
theorem al_283 : Cond.instanceMethod yX1_pinOf ∈ ALL := al_mem 283 _ (by decide +kernel) (by decide +kernel)
theorem al_284 : Cond.code yX1_pinOf prog_3_method_14_code 2 (Option.some Jvm.ClassFile.FieldType.int) ∈ ALL := al_mem 284 _ (by decide +kernel) (by decide +kernel)
theorem al_287 : Cond.instanceMethod yX1_setPin ∈ ALL := al_mem 287 _ (by decide +kernel) (by decide +kernel)
theorem al_288 : Cond.code yX1_setPin prog_3_method_15_code 3 (Option.none : Option Jvm.ClassFile.FieldType) ∈ ALL := al_mem 288 _ (by decide +kernel) (by decide +kernel)
theorem al_289 : Cond.methodLink RL 40 yX9_states ∈ ALL := al_mem 289 _ (by decide +kernel) (by decide +kernel)
theorem al_290 : Cond.instanceMethod yX9_states ∈ ALL := al_mem 290 _ (by decide +kernel) (by decide +kernel)
theorem al_291 : Cond.selects RX9 yX9_states yX9_states ∈ ALL := al_mem 291 _ (by decide +kernel) (by decide +kernel)
theorem al_292 : Cond.code yX9_states prog_1_method_7_code 2 (Option.some Jvm.ClassFile.FieldType.int) ∈ ALL := al_mem 292 _ (by decide +kernel) (by decide +kernel)
theorem al_293 : Cond.methodLink RX9 122 yX2_listAll ∈ ALL := al_mem 293 _ (by decide +kernel) (by decide +kernel)
theorem al_294 : Cond.instanceMethod yX2_listAll ∈ ALL := al_mem 294 _ (by decide +kernel) (by decide +kernel)
theorem al_295 : Cond.sameMethod "PlaySpans$Player" "PlaySpans$Player" "listAll" "()V" ∈ ALL := al_mem 295 _ (by decide +kernel) (by decide +kernel)
theorem al_296 : Cond.selects RX0 yX2_listAll yX2_listAll ∈ ALL := al_mem 296 _ (by decide +kernel) (by decide +kernel)
theorem al_297 : Cond.selects RX4 yX2_listAll yX2_listAll ∈ ALL := al_mem 297 _ (by decide +kernel) (by decide +kernel)
theorem al_298 : Cond.selects RX5 yX2_listAll yX2_listAll ∈ ALL := al_mem 298 _ (by decide +kernel) (by decide +kernel)
theorem al_299 : Cond.selects RX6 yX2_listAll yX2_listAll ∈ ALL := al_mem 299 _ (by decide +kernel) (by decide +kernel)
theorem al_300 : Cond.selects RX8 yX2_listAll yX2_listAll ∈ ALL := al_mem 300 _ (by decide +kernel) (by decide +kernel)
theorem al_301 : Cond.code yX2_listAll prog_4_method_4_code 2 (Option.none : Option Jvm.ClassFile.FieldType) ∈ ALL := al_mem 301 _ (by decide +kernel) (by decide +kernel)
theorem al_304 : Cond.instanceMethod yX1_inCompass ∈ ALL := al_mem 304 _ (by decide +kernel) (by decide +kernel)
theorem al_305 : Cond.code yX1_inCompass prog_3_method_17_code 2 (Option.some Jvm.ClassFile.FieldType.boolean) ∈ ALL := al_mem 305 _ (by decide +kernel) (by decide +kernel)
theorem al_306 : Cond.methodLink RX1 45 yX1_lowestOf ∈ ALL := al_mem 306 _ (by decide +kernel) (by decide +kernel)
theorem al_308 : Cond.instanceMethod yX1_lowestOf ∈ ALL := al_mem 308 _ (by decide +kernel) (by decide +kernel)
theorem al_309 : Cond.code yX1_lowestOf prog_3_method_12_code 2 (Option.some Jvm.ClassFile.FieldType.int) ∈ ALL := al_mem 309 _ (by decide +kernel) (by decide +kernel)
theorem al_310 : Cond.methodLink RX1 48 yX1_highestOf ∈ ALL := al_mem 310 _ (by decide +kernel) (by decide +kernel)
theorem al_312 : Cond.instanceMethod yX1_highestOf ∈ ALL := al_mem 312 _ (by decide +kernel) (by decide +kernel)
theorem al_313 : Cond.code yX1_highestOf prog_3_method_13_code 3 (Option.some Jvm.ClassFile.FieldType.int) ∈ ALL := al_mem 313 _ (by decide +kernel) (by decide +kernel)
theorem al_314 : Cond.methodLink RX2 51 ⟨"PlaySpans$Player", "listOne", "(I)V"⟩ ∈ ALL := al_mem 314 _ (by decide +kernel) (by decide +kernel)
theorem al_316 : Cond.sameMethod "PlaySpans$Player" "PlaySpans$Player" "listOne" "(I)V" ∈ ALL := al_mem 316 _ (by decide +kernel) (by decide +kernel)
theorem al_317 : Cond.selects RX0 ⟨"PlaySpans$Player", "listOne", "(I)V"⟩ yX0_listOne ∈ ALL := al_mem 317 _ (by decide +kernel) (by decide +kernel)
theorem al_318 : Cond.instanceMethod yX0_listOne ∈ ALL := al_mem 318 _ (by decide +kernel) (by decide +kernel)
theorem al_319 : Cond.code yX0_listOne prog_2_method_2_code 4 (Option.none : Option Jvm.ClassFile.FieldType) ∈ ALL := al_mem 319 _ (by decide +kernel) (by decide +kernel)
theorem al_320 : Cond.methodLink RX0 11 yJ6_bitCount_0f7a4 ∈ ALL := al_mem 320 _ (by decide +kernel) (by decide +kernel)
theorem al_321 : Cond.static yJ6_bitCount_0f7a4 ∈ ALL := al_mem 321 _ (by decide +kernel) (by decide +kernel)
theorem al_322 : Cond.code yJ6_bitCount_0f7a4 prog_13_method_49_code 1 (Option.some Jvm.ClassFile.FieldType.int) ∈ ALL := al_mem 322 _ (by decide +kernel) (by decide +kernel)
theorem al_323 : Cond.constant RJ6 265 1431655765 ∈ ALL := al_mem 323 _ (by decide +kernel) (by decide +kernel)
theorem al_324 : Cond.constant RJ6 266 858993459 ∈ ALL := al_mem 324 _ (by decide +kernel) (by decide +kernel)
theorem al_325 : Cond.constant RJ6 267 252645135 ∈ ALL := al_mem 325 _ (by decide +kernel) (by decide +kernel)
theorem al_328 : Cond.instanceMethod yX1_sizeOf ∈ ALL := al_mem 328 _ (by decide +kernel) (by decide +kernel)
theorem al_329 : Cond.code yX1_sizeOf prog_3_method_10_code 2 (Option.some Jvm.ClassFile.FieldType.int) ∈ ALL := al_mem 329 _ (by decide +kernel) (by decide +kernel)
theorem al_330 : Cond.methodLink RX0 26 yX0_stretch ∈ ALL := al_mem 330 _ (by decide +kernel) (by decide +kernel)
theorem al_332 : Cond.instanceMethod yX0_stretch ∈ ALL := al_mem 332 _ (by decide +kernel) (by decide +kernel)
theorem al_333 : Cond.code yX0_stretch prog_2_method_3_code 10 (Option.some Jvm.ClassFile.FieldType.int) ∈ ALL := al_mem 333 _ (by decide +kernel) (by decide +kernel)
theorem al_334 : Cond.methodLink RX0 37 yX0_fingerAbove ∈ ALL := al_mem 334 _ (by decide +kernel) (by decide +kernel)
theorem al_335 : Cond.static yX0_fingerAbove ∈ ALL := al_mem 335 _ (by decide +kernel) (by decide +kernel)
theorem al_336 : Cond.code yX0_fingerAbove prog_2_method_4_code 3 (Option.some Jvm.ClassFile.FieldType.int) ∈ ALL := al_mem 336 _ (by decide +kernel) (by decide +kernel)
theorem al_337 : Cond.methodLink RX0 40 yX0_noteOfFinger ∈ ALL := al_mem 337 _ (by decide +kernel) (by decide +kernel)
theorem al_339 : Cond.instanceMethod yX0_noteOfFinger ∈ ALL := al_mem 339 _ (by decide +kernel) (by decide +kernel)
theorem al_340 : Cond.code yX0_noteOfFinger prog_2_method_5_code 3 (Option.some Jvm.ClassFile.FieldType.int) ∈ ALL := al_mem 340 _ (by decide +kernel) (by decide +kernel)
theorem al_343 : Cond.instanceMethod yX1_handOf ∈ ALL := al_mem 343 _ (by decide +kernel) (by decide +kernel)
theorem al_344 : Cond.code yX1_handOf prog_3_method_7_code 2 (Option.some Jvm.ClassFile.FieldType.int) ∈ ALL := al_mem 344 _ (by decide +kernel) (by decide +kernel)
theorem al_347 : Cond.instanceMethod yX1_pitchOf ∈ ALL := al_mem 347 _ (by decide +kernel) (by decide +kernel)
theorem al_348 : Cond.code yX1_pitchOf prog_3_method_11_code 4 (Option.some Jvm.ClassFile.FieldType.int) ∈ ALL := al_mem 348 _ (by decide +kernel) (by decide +kernel)
theorem al_349 : Cond.methodLink RX0 43 yJ9_abs_0f7a4 ∈ ALL := al_mem 349 _ (by decide +kernel) (by decide +kernel)
theorem al_350 : Cond.static yJ9_abs_0f7a4 ∈ ALL := al_mem 350 _ (by decide +kernel) (by decide +kernel)
theorem al_351 : Cond.code yJ9_abs_0f7a4 prog_14_method_59_code 1 (Option.some Jvm.ClassFile.FieldType.int) ∈ ALL := al_mem 351 _ (by decide +kernel) (by decide +kernel)
theorem al_352 : Cond.methodLink RX0 48 yJ9_max_7cf53 ∈ ALL := al_mem 352 _ (by decide +kernel) (by decide +kernel)
theorem al_353 : Cond.methodLink RX0 30 yX0_placeOf ∈ ALL := al_mem 353 _ (by decide +kernel) (by decide +kernel)
theorem al_355 : Cond.instanceMethod yX0_placeOf ∈ ALL := al_mem 355 _ (by decide +kernel) (by decide +kernel)
theorem al_356 : Cond.code yX0_placeOf prog_2_method_6_code 4 (Option.some Jvm.ClassFile.FieldType.int) ∈ ALL := al_mem 356 _ (by decide +kernel) (by decide +kernel)
theorem al_359 : Cond.methodLink RX0 33 ⟨"PlaySpans$Keyboard", "addState", "(IIII)V"⟩ ∈ ALL := al_mem 359 _ (by decide +kernel) (by decide +kernel)
theorem al_360 : Cond.sameMethod "PlaySpans$Keyboard" "PlaySpans$Player" "addState" "(IIII)V" ∈ ALL := al_mem 360 _ (by decide +kernel) (by decide +kernel)
theorem al_362 : Cond.selects RX0 ⟨"PlaySpans$Keyboard", "addState", "(IIII)V"⟩ yX2_addState ∈ ALL := al_mem 362 _ (by decide +kernel) (by decide +kernel)
theorem al_363 : Cond.instanceMethod yX2_addState ∈ ALL := al_mem 363 _ (by decide +kernel) (by decide +kernel)
theorem al_364 : Cond.code yX2_addState prog_4_method_5_code 6 (Option.none : Option Jvm.ClassFile.FieldType) ∈ ALL := al_mem 364 _ (by decide +kernel) (by decide +kernel)
theorem al_365 : Cond.selects RX4 ⟨"PlaySpans$Player", "listOne", "(I)V"⟩ yX4_listOne ∈ ALL := al_mem 365 _ (by decide +kernel) (by decide +kernel)
theorem al_366 : Cond.instanceMethod yX4_listOne ∈ ALL := al_mem 366 _ (by decide +kernel) (by decide +kernel)
theorem al_367 : Cond.code yX4_listOne prog_6_method_2_code 3 (Option.none : Option Jvm.ClassFile.FieldType) ∈ ALL := al_mem 367 _ (by decide +kernel) (by decide +kernel)
theorem al_370 : Cond.methodLink RX4 24 yX4_isPartial ∈ ALL := al_mem 370 _ (by decide +kernel) (by decide +kernel)
theorem al_371 : Cond.static yX4_isPartial ∈ ALL := al_mem 371 _ (by decide +kernel) (by decide +kernel)
theorem al_372 : Cond.code yX4_isPartial prog_6_method_3_code 5 (Option.some Jvm.ClassFile.FieldType.boolean) ∈ ALL := al_mem 372 _ (by decide +kernel) (by decide +kernel)
theorem al_373 : Cond.fieldLink RX4 38 "PlaySpans$Slide" "PARTIALS" "[I" ∈ ALL := al_mem 373 _ (by decide +kernel) (by decide +kernel)
theorem al_375 : Cond.methodLink RX4 28 yJ9_max_7cf53 ∈ ALL := al_mem 375 _ (by decide +kernel) (by decide +kernel)
theorem al_376 : Cond.methodLink RX4 34 ⟨"PlaySpans$Slide", "addState", "(IIII)V"⟩ ∈ ALL := al_mem 376 _ (by decide +kernel) (by decide +kernel)
theorem al_377 : Cond.sameMethod "PlaySpans$Slide" "PlaySpans$Player" "addState" "(IIII)V" ∈ ALL := al_mem 377 _ (by decide +kernel) (by decide +kernel)
theorem al_378 : Cond.selects RX4 ⟨"PlaySpans$Slide", "addState", "(IIII)V"⟩ yX2_addState ∈ ALL := al_mem 378 _ (by decide +kernel) (by decide +kernel)
theorem al_379 : Cond.selects RX5 ⟨"PlaySpans$Player", "listOne", "(I)V"⟩ yX5_listOne ∈ ALL := al_mem 379 _ (by decide +kernel) (by decide +kernel)
theorem al_380 : Cond.instanceMethod yX5_listOne ∈ ALL := al_mem 380 _ (by decide +kernel) (by decide +kernel)
theorem al_381 : Cond.code yX5_listOne prog_7_method_2_code 5 (Option.none : Option Jvm.ClassFile.FieldType) ∈ ALL := al_mem 381 _ (by decide +kernel) (by decide +kernel)
theorem al_383 : Cond.methodLink RX5 21 ⟨"PlaySpans$Sticks", "addState", "(IIII)V"⟩ ∈ ALL := al_mem 383 _ (by decide +kernel) (by decide +kernel)
theorem al_384 : Cond.sameMethod "PlaySpans$Sticks" "PlaySpans$Player" "addState" "(IIII)V" ∈ ALL := al_mem 384 _ (by decide +kernel) (by decide +kernel)
theorem al_385 : Cond.selects RX5 ⟨"PlaySpans$Sticks", "addState", "(IIII)V"⟩ yX2_addState ∈ ALL := al_mem 385 _ (by decide +kernel) (by decide +kernel)
theorem al_386 : Cond.methodLink RX5 25 yX5_latestOfTwo ∈ ALL := al_mem 386 _ (by decide +kernel) (by decide +kernel)
theorem al_388 : Cond.instanceMethod yX5_latestOfTwo ∈ ALL := al_mem 388 _ (by decide +kernel) (by decide +kernel)
theorem al_389 : Cond.code yX5_latestOfTwo prog_7_method_3_code 3 (Option.some Jvm.ClassFile.FieldType.int) ∈ ALL := al_mem 389 _ (by decide +kernel) (by decide +kernel)
theorem al_390 : Cond.methodLink RX5 28 yX5_crossing ∈ ALL := al_mem 390 _ (by decide +kernel) (by decide +kernel)
theorem al_392 : Cond.instanceMethod yX5_crossing ∈ ALL := al_mem 392 _ (by decide +kernel) (by decide +kernel)
theorem al_393 : Cond.code yX5_crossing prog_7_method_4_code 5 (Option.some Jvm.ClassFile.FieldType.int) ∈ ALL := al_mem 393 _ (by decide +kernel) (by decide +kernel)
theorem al_395 : Cond.methodLink RX5 35 yX5_pitchBy ∈ ALL := al_mem 395 _ (by decide +kernel) (by decide +kernel)
theorem al_397 : Cond.instanceMethod yX5_pitchBy ∈ ALL := al_mem 397 _ (by decide +kernel) (by decide +kernel)
theorem al_398 : Cond.code yX5_pitchBy prog_7_method_5_code 3 (Option.some Jvm.ClassFile.FieldType.int) ∈ ALL := al_mem 398 _ (by decide +kernel) (by decide +kernel)
theorem al_400 : Cond.selects RX6 ⟨"PlaySpans$Player", "listOne", "(I)V"⟩ yX6_listOne ∈ ALL := al_mem 400 _ (by decide +kernel) (by decide +kernel)
theorem al_401 : Cond.instanceMethod yX6_listOne ∈ ALL := al_mem 401 _ (by decide +kernel) (by decide +kernel)
theorem al_402 : Cond.code yX6_listOne prog_8_method_2_code 5 (Option.none : Option Jvm.ClassFile.FieldType) ∈ ALL := al_mem 402 _ (by decide +kernel) (by decide +kernel)
theorem al_404 : Cond.methodLink RX6 21 yX6_stops ∈ ALL := al_mem 404 _ (by decide +kernel) (by decide +kernel)
theorem al_406 : Cond.instanceMethod yX6_stops ∈ ALL := al_mem 406 _ (by decide +kernel) (by decide +kernel)
theorem al_407 : Cond.code yX6_stops prog_8_method_3_code 8 (Option.some Jvm.ClassFile.FieldType.int) ∈ ALL := al_mem 407 _ (by decide +kernel) (by decide +kernel)
theorem al_410 : Cond.methodLink RX6 25 ⟨"PlaySpans$Strings", "addState", "(IIII)V"⟩ ∈ ALL := al_mem 410 _ (by decide +kernel) (by decide +kernel)
theorem al_411 : Cond.sameMethod "PlaySpans$Strings" "PlaySpans$Player" "addState" "(IIII)V" ∈ ALL := al_mem 411 _ (by decide +kernel) (by decide +kernel)
theorem al_412 : Cond.selects RX6 ⟨"PlaySpans$Strings", "addState", "(IIII)V"⟩ yX2_addState ∈ ALL := al_mem 412 _ (by decide +kernel) (by decide +kernel)
theorem al_413 : Cond.selects RX8 ⟨"PlaySpans$Player", "listOne", "(I)V"⟩ yX8_listOne ∈ ALL := al_mem 413 _ (by decide +kernel) (by decide +kernel)
theorem al_414 : Cond.instanceMethod yX8_listOne ∈ ALL := al_mem 414 _ (by decide +kernel) (by decide +kernel)
theorem al_415 : Cond.code yX8_listOne prog_10_method_2_code 3 (Option.none : Option Jvm.ClassFile.FieldType) ∈ ALL := al_mem 415 _ (by decide +kernel) (by decide +kernel)
theorem al_416 : Cond.methodLink RX8 9 yX8_earliestBreath ∈ ALL := al_mem 416 _ (by decide +kernel) (by decide +kernel)
theorem al_418 : Cond.instanceMethod yX8_earliestBreath ∈ ALL := al_mem 418 _ (by decide +kernel) (by decide +kernel)
theorem al_419 : Cond.code yX8_earliestBreath prog_10_method_3_code 5 (Option.some Jvm.ClassFile.FieldType.int) ∈ ALL := al_mem 419 _ (by decide +kernel) (by decide +kernel)
theorem al_422 : Cond.methodLink RX8 15 ⟨"PlaySpans$Wind", "addState", "(IIII)V"⟩ ∈ ALL := al_mem 422 _ (by decide +kernel) (by decide +kernel)
theorem al_423 : Cond.sameMethod "PlaySpans$Wind" "PlaySpans$Player" "addState" "(IIII)V" ∈ ALL := al_mem 423 _ (by decide +kernel) (by decide +kernel)
theorem al_424 : Cond.selects RX8 ⟨"PlaySpans$Wind", "addState", "(IIII)V"⟩ yX2_addState ∈ ALL := al_mem 424 _ (by decide +kernel) (by decide +kernel)
theorem al_425 : Cond.methodLink RX9 125 yX2_countOf ∈ ALL := al_mem 425 _ (by decide +kernel) (by decide +kernel)
theorem al_426 : Cond.instanceMethod yX2_countOf ∈ ALL := al_mem 426 _ (by decide +kernel) (by decide +kernel)
theorem al_427 : Cond.sameMethod "PlaySpans$Player" "PlaySpans$Player" "countOf" "(I)I" ∈ ALL := al_mem 427 _ (by decide +kernel) (by decide +kernel)
theorem al_428 : Cond.selects RX0 yX2_countOf yX2_countOf ∈ ALL := al_mem 428 _ (by decide +kernel) (by decide +kernel)
theorem al_429 : Cond.selects RX4 yX2_countOf yX2_countOf ∈ ALL := al_mem 429 _ (by decide +kernel) (by decide +kernel)
theorem al_430 : Cond.selects RX5 yX2_countOf yX2_countOf ∈ ALL := al_mem 430 _ (by decide +kernel) (by decide +kernel)
theorem al_431 : Cond.selects RX6 yX2_countOf yX2_countOf ∈ ALL := al_mem 431 _ (by decide +kernel) (by decide +kernel)
theorem al_432 : Cond.selects RX8 yX2_countOf yX2_countOf ∈ ALL := al_mem 432 _ (by decide +kernel) (by decide +kernel)
theorem al_433 : Cond.code yX2_countOf prog_4_method_6_code 2 (Option.some Jvm.ClassFile.FieldType.int) ∈ ALL := al_mem 433 _ (by decide +kernel) (by decide +kernel)
theorem al_434 : Cond.methodLink RL 45 yX9_state ∈ ALL := al_mem 434 _ (by decide +kernel) (by decide +kernel)
theorem al_435 : Cond.instanceMethod yX9_state ∈ ALL := al_mem 435 _ (by decide +kernel) (by decide +kernel)
theorem al_436 : Cond.selects RX9 yX9_state yX9_state ∈ ALL := al_mem 436 _ (by decide +kernel) (by decide +kernel)
theorem al_437 : Cond.code yX9_state prog_1_method_8_code 4 (Option.some Jvm.ClassFile.FieldType.int) ∈ ALL := al_mem 437 _ (by decide +kernel) (by decide +kernel)
theorem al_438 : Cond.methodLink RX9 128 yX9_hasState ∈ ALL := al_mem 438 _ (by decide +kernel) (by decide +kernel)
theorem al_440 : Cond.instanceMethod yX9_hasState ∈ ALL := al_mem 440 _ (by decide +kernel) (by decide +kernel)
theorem al_441 : Cond.code yX9_hasState prog_1_method_17_code 3 (Option.some Jvm.ClassFile.FieldType.boolean) ∈ ALL := al_mem 441 _ (by decide +kernel) (by decide +kernel)
theorem al_442 : Cond.methodLink RX9 131 yX2_priceOf ∈ ALL := al_mem 442 _ (by decide +kernel) (by decide +kernel)
theorem al_443 : Cond.instanceMethod yX2_priceOf ∈ ALL := al_mem 443 _ (by decide +kernel) (by decide +kernel)
theorem al_444 : Cond.sameMethod "PlaySpans$Player" "PlaySpans$Player" "priceOf" "(II)I" ∈ ALL := al_mem 444 _ (by decide +kernel) (by decide +kernel)
theorem al_445 : Cond.selects RX0 yX2_priceOf yX2_priceOf ∈ ALL := al_mem 445 _ (by decide +kernel) (by decide +kernel)
theorem al_446 : Cond.selects RX4 yX2_priceOf yX2_priceOf ∈ ALL := al_mem 446 _ (by decide +kernel) (by decide +kernel)
theorem al_447 : Cond.selects RX5 yX2_priceOf yX2_priceOf ∈ ALL := al_mem 447 _ (by decide +kernel) (by decide +kernel)
theorem al_448 : Cond.selects RX6 yX2_priceOf yX2_priceOf ∈ ALL := al_mem 448 _ (by decide +kernel) (by decide +kernel)
theorem al_449 : Cond.selects RX8 yX2_priceOf yX2_priceOf ∈ ALL := al_mem 449 _ (by decide +kernel) (by decide +kernel)
theorem al_450 : Cond.code yX2_priceOf prog_4_method_7_code 4 (Option.some Jvm.ClassFile.FieldType.int) ∈ ALL := al_mem 450 _ (by decide +kernel) (by decide +kernel)
theorem al_451 : Cond.methodLink RX9 134 yX2_firstOf ∈ ALL := al_mem 451 _ (by decide +kernel) (by decide +kernel)
theorem al_452 : Cond.instanceMethod yX2_firstOf ∈ ALL := al_mem 452 _ (by decide +kernel) (by decide +kernel)
theorem al_453 : Cond.sameMethod "PlaySpans$Player" "PlaySpans$Player" "firstOf" "(II)I" ∈ ALL := al_mem 453 _ (by decide +kernel) (by decide +kernel)
theorem al_454 : Cond.selects RX0 yX2_firstOf yX2_firstOf ∈ ALL := al_mem 454 _ (by decide +kernel) (by decide +kernel)
theorem al_455 : Cond.selects RX4 yX2_firstOf yX2_firstOf ∈ ALL := al_mem 455 _ (by decide +kernel) (by decide +kernel)
theorem al_456 : Cond.selects RX5 yX2_firstOf yX2_firstOf ∈ ALL := al_mem 456 _ (by decide +kernel) (by decide +kernel)
theorem al_457 : Cond.selects RX6 yX2_firstOf yX2_firstOf ∈ ALL := al_mem 457 _ (by decide +kernel) (by decide +kernel)
theorem al_458 : Cond.selects RX8 yX2_firstOf yX2_firstOf ∈ ALL := al_mem 458 _ (by decide +kernel) (by decide +kernel)
theorem al_459 : Cond.code yX2_firstOf prog_4_method_8_code 4 (Option.some Jvm.ClassFile.FieldType.int) ∈ ALL := al_mem 459 _ (by decide +kernel) (by decide +kernel)
theorem al_460 : Cond.methodLink RX9 137 yX2_secondOf ∈ ALL := al_mem 460 _ (by decide +kernel) (by decide +kernel)
theorem al_461 : Cond.instanceMethod yX2_secondOf ∈ ALL := al_mem 461 _ (by decide +kernel) (by decide +kernel)
theorem al_462 : Cond.sameMethod "PlaySpans$Player" "PlaySpans$Player" "secondOf" "(II)I" ∈ ALL := al_mem 462 _ (by decide +kernel) (by decide +kernel)
theorem al_463 : Cond.selects RX0 yX2_secondOf yX2_secondOf ∈ ALL := al_mem 463 _ (by decide +kernel) (by decide +kernel)
theorem al_464 : Cond.selects RX4 yX2_secondOf yX2_secondOf ∈ ALL := al_mem 464 _ (by decide +kernel) (by decide +kernel)
theorem al_465 : Cond.selects RX5 yX2_secondOf yX2_secondOf ∈ ALL := al_mem 465 _ (by decide +kernel) (by decide +kernel)
theorem al_466 : Cond.selects RX6 yX2_secondOf yX2_secondOf ∈ ALL := al_mem 466 _ (by decide +kernel) (by decide +kernel)
theorem al_467 : Cond.selects RX8 yX2_secondOf yX2_secondOf ∈ ALL := al_mem 467 _ (by decide +kernel) (by decide +kernel)
theorem al_468 : Cond.code yX2_secondOf prog_4_method_9_code 4 (Option.some Jvm.ClassFile.FieldType.int) ∈ ALL := al_mem 468 _ (by decide +kernel) (by decide +kernel)
theorem al_469 : Cond.methodLink RL 50 yX9_step ∈ ALL := al_mem 469 _ (by decide +kernel) (by decide +kernel)
theorem al_470 : Cond.instanceMethod yX9_step ∈ ALL := al_mem 470 _ (by decide +kernel) (by decide +kernel)
theorem al_471 : Cond.selects RX9 yX9_step yX9_step ∈ ALL := al_mem 471 _ (by decide +kernel) (by decide +kernel)
theorem al_472 : Cond.code yX9_step prog_1_method_9_code 5 (Option.some Jvm.ClassFile.FieldType.int) ∈ ALL := al_mem 472 _ (by decide +kernel) (by decide +kernel)
theorem al_475 : Cond.instanceMethod yX1_after ∈ ALL := al_mem 475 _ (by decide +kernel) (by decide +kernel)
theorem al_476 : Cond.code yX1_after prog_3_method_20_code 2 (Option.some Jvm.ClassFile.FieldType.int) ∈ ALL := al_mem 476 _ (by decide +kernel) (by decide +kernel)
theorem al_477 : Cond.methodLink RX1 60 yX1_handOf ∈ ALL := al_mem 477 _ (by decide +kernel) (by decide +kernel)
theorem al_478 : Cond.methodLink RX1 63 yX1_firstOfHand ∈ ALL := al_mem 478 _ (by decide +kernel) (by decide +kernel)
theorem al_480 : Cond.instanceMethod yX1_firstOfHand ∈ ALL := al_mem 480 _ (by decide +kernel) (by decide +kernel)
theorem al_481 : Cond.code yX1_firstOfHand prog_3_method_18_code 4 (Option.some Jvm.ClassFile.FieldType.int) ∈ ALL := al_mem 481 _ (by decide +kernel) (by decide +kernel)
theorem al_482 : Cond.methodLink RX1 51 yJ9_max_7cf53 ∈ ALL := al_mem 482 _ (by decide +kernel) (by decide +kernel)
theorem al_483 : Cond.methodLink RX9 143 ⟨"PlaySpans$Player", "stepPrice", "(IIII)I"⟩ ∈ ALL := al_mem 483 _ (by decide +kernel) (by decide +kernel)
theorem al_485 : Cond.sameMethod "PlaySpans$Player" "PlaySpans$Player" "stepPrice" "(IIII)I" ∈ ALL := al_mem 485 _ (by decide +kernel) (by decide +kernel)
theorem al_486 : Cond.selects RX0 ⟨"PlaySpans$Player", "stepPrice", "(IIII)I"⟩ yX0_stepPrice ∈ ALL := al_mem 486 _ (by decide +kernel) (by decide +kernel)
theorem al_487 : Cond.instanceMethod yX0_stepPrice ∈ ALL := al_mem 487 _ (by decide +kernel) (by decide +kernel)
theorem al_488 : Cond.code yX0_stepPrice prog_2_method_7_code 8 (Option.some Jvm.ClassFile.FieldType.int) ∈ ALL := al_mem 488 _ (by decide +kernel) (by decide +kernel)
theorem al_489 : Cond.methodLink RX0 63 ⟨"PlaySpans$Keyboard", "secondOf", "(II)I"⟩ ∈ ALL := al_mem 489 _ (by decide +kernel) (by decide +kernel)
theorem al_490 : Cond.sameMethod "PlaySpans$Keyboard" "PlaySpans$Player" "secondOf" "(II)I" ∈ ALL := al_mem 490 _ (by decide +kernel) (by decide +kernel)
theorem al_492 : Cond.selects RX0 ⟨"PlaySpans$Keyboard", "secondOf", "(II)I"⟩ yX2_secondOf ∈ ALL := al_mem 492 _ (by decide +kernel) (by decide +kernel)
theorem al_493 : Cond.methodLink RX0 66 ⟨"PlaySpans$Keyboard", "tooFar", "(III)Z"⟩ ∈ ALL := al_mem 493 _ (by decide +kernel) (by decide +kernel)
theorem al_494 : Cond.sameMethod "PlaySpans$Keyboard" "PlaySpans$Player" "tooFar" "(III)Z" ∈ ALL := al_mem 494 _ (by decide +kernel) (by decide +kernel)
theorem al_496 : Cond.selects RX0 ⟨"PlaySpans$Keyboard", "tooFar", "(III)Z"⟩ yX2_tooFar ∈ ALL := al_mem 496 _ (by decide +kernel) (by decide +kernel)
theorem al_497 : Cond.instanceMethod yX2_tooFar ∈ ALL := al_mem 497 _ (by decide +kernel) (by decide +kernel)
theorem al_498 : Cond.code yX2_tooFar prog_4_method_10_code 4 (Option.some Jvm.ClassFile.FieldType.boolean) ∈ ALL := al_mem 498 _ (by decide +kernel) (by decide +kernel)
theorem al_501 : Cond.methodLink RX0 70 ⟨"PlaySpans$Keyboard", "firstOf", "(II)I"⟩ ∈ ALL := al_mem 501 _ (by decide +kernel) (by decide +kernel)
theorem al_502 : Cond.sameMethod "PlaySpans$Keyboard" "PlaySpans$Player" "firstOf" "(II)I" ∈ ALL := al_mem 502 _ (by decide +kernel) (by decide +kernel)
theorem al_504 : Cond.selects RX0 ⟨"PlaySpans$Keyboard", "firstOf", "(II)I"⟩ yX2_firstOf ∈ ALL := al_mem 504 _ (by decide +kernel) (by decide +kernel)
theorem al_505 : Cond.selects RX4 ⟨"PlaySpans$Player", "stepPrice", "(IIII)I"⟩ yX4_stepPrice ∈ ALL := al_mem 505 _ (by decide +kernel) (by decide +kernel)
theorem al_506 : Cond.instanceMethod yX4_stepPrice ∈ ALL := al_mem 506 _ (by decide +kernel) (by decide +kernel)
theorem al_507 : Cond.code yX4_stepPrice prog_6_method_4_code 6 (Option.some Jvm.ClassFile.FieldType.int) ∈ ALL := al_mem 507 _ (by decide +kernel) (by decide +kernel)
theorem al_508 : Cond.methodLink RX4 42 ⟨"PlaySpans$Slide", "firstOf", "(II)I"⟩ ∈ ALL := al_mem 508 _ (by decide +kernel) (by decide +kernel)
theorem al_509 : Cond.sameMethod "PlaySpans$Slide" "PlaySpans$Player" "firstOf" "(II)I" ∈ ALL := al_mem 509 _ (by decide +kernel) (by decide +kernel)
theorem al_510 : Cond.selects RX4 ⟨"PlaySpans$Slide", "firstOf", "(II)I"⟩ yX2_firstOf ∈ ALL := al_mem 510 _ (by decide +kernel) (by decide +kernel)
theorem al_511 : Cond.methodLink RX4 45 yJ9_abs_0f7a4 ∈ ALL := al_mem 511 _ (by decide +kernel) (by decide +kernel)
theorem al_512 : Cond.methodLink RX4 48 ⟨"PlaySpans$Slide", "tooFar", "(III)Z"⟩ ∈ ALL := al_mem 512 _ (by decide +kernel) (by decide +kernel)
theorem al_513 : Cond.sameMethod "PlaySpans$Slide" "PlaySpans$Player" "tooFar" "(III)Z" ∈ ALL := al_mem 513 _ (by decide +kernel) (by decide +kernel)
theorem al_514 : Cond.selects RX4 ⟨"PlaySpans$Slide", "tooFar", "(III)Z"⟩ yX2_tooFar ∈ ALL := al_mem 514 _ (by decide +kernel) (by decide +kernel)
theorem al_515 : Cond.selects RX5 ⟨"PlaySpans$Player", "stepPrice", "(IIII)I"⟩ yX5_stepPrice ∈ ALL := al_mem 515 _ (by decide +kernel) (by decide +kernel)
theorem al_516 : Cond.instanceMethod yX5_stepPrice ∈ ALL := al_mem 516 _ (by decide +kernel) (by decide +kernel)
theorem al_517 : Cond.code yX5_stepPrice prog_7_method_6_code 10 (Option.some Jvm.ClassFile.FieldType.int) ∈ ALL := al_mem 517 _ (by decide +kernel) (by decide +kernel)
theorem al_518 : Cond.methodLink RX5 42 ⟨"PlaySpans$Sticks", "firstOf", "(II)I"⟩ ∈ ALL := al_mem 518 _ (by decide +kernel) (by decide +kernel)
theorem al_519 : Cond.sameMethod "PlaySpans$Sticks" "PlaySpans$Player" "firstOf" "(II)I" ∈ ALL := al_mem 519 _ (by decide +kernel) (by decide +kernel)
theorem al_520 : Cond.selects RX5 ⟨"PlaySpans$Sticks", "firstOf", "(II)I"⟩ yX2_firstOf ∈ ALL := al_mem 520 _ (by decide +kernel) (by decide +kernel)
theorem al_521 : Cond.methodLink RX5 45 yX5_lastPlayed ∈ ALL := al_mem 521 _ (by decide +kernel) (by decide +kernel)
theorem al_523 : Cond.instanceMethod yX5_lastPlayed ∈ ALL := al_mem 523 _ (by decide +kernel) (by decide +kernel)
theorem al_524 : Cond.code yX5_lastPlayed prog_7_method_7_code 5 (Option.some Jvm.ClassFile.FieldType.int) ∈ ALL := al_mem 524 _ (by decide +kernel) (by decide +kernel)
theorem al_525 : Cond.methodLink RX5 48 ⟨"PlaySpans$Sticks", "secondOf", "(II)I"⟩ ∈ ALL := al_mem 525 _ (by decide +kernel) (by decide +kernel)
theorem al_526 : Cond.sameMethod "PlaySpans$Sticks" "PlaySpans$Player" "secondOf" "(II)I" ∈ ALL := al_mem 526 _ (by decide +kernel) (by decide +kernel)
theorem al_527 : Cond.selects RX5 ⟨"PlaySpans$Sticks", "secondOf", "(II)I"⟩ yX2_secondOf ∈ ALL := al_mem 527 _ (by decide +kernel) (by decide +kernel)
theorem al_528 : Cond.methodLink RX5 51 yJ9_abs_0f7a4 ∈ ALL := al_mem 528 _ (by decide +kernel) (by decide +kernel)
theorem al_529 : Cond.methodLink RX5 56 ⟨"PlaySpans$Sticks", "tooFar", "(III)Z"⟩ ∈ ALL := al_mem 529 _ (by decide +kernel) (by decide +kernel)
theorem al_530 : Cond.sameMethod "PlaySpans$Sticks" "PlaySpans$Player" "tooFar" "(III)Z" ∈ ALL := al_mem 530 _ (by decide +kernel) (by decide +kernel)
theorem al_531 : Cond.selects RX5 ⟨"PlaySpans$Sticks", "tooFar", "(III)Z"⟩ yX2_tooFar ∈ ALL := al_mem 531 _ (by decide +kernel) (by decide +kernel)
theorem al_532 : Cond.selects RX6 ⟨"PlaySpans$Player", "stepPrice", "(IIII)I"⟩ yX6_stepPrice ∈ ALL := al_mem 532 _ (by decide +kernel) (by decide +kernel)
theorem al_533 : Cond.instanceMethod yX6_stepPrice ∈ ALL := al_mem 533 _ (by decide +kernel) (by decide +kernel)
theorem al_534 : Cond.code yX6_stepPrice prog_8_method_4_code 6 (Option.some Jvm.ClassFile.FieldType.int) ∈ ALL := al_mem 534 _ (by decide +kernel) (by decide +kernel)
theorem al_535 : Cond.methodLink RX6 36 ⟨"PlaySpans$Strings", "firstOf", "(II)I"⟩ ∈ ALL := al_mem 535 _ (by decide +kernel) (by decide +kernel)
theorem al_536 : Cond.sameMethod "PlaySpans$Strings" "PlaySpans$Player" "firstOf" "(II)I" ∈ ALL := al_mem 536 _ (by decide +kernel) (by decide +kernel)
theorem al_537 : Cond.selects RX6 ⟨"PlaySpans$Strings", "firstOf", "(II)I"⟩ yX2_firstOf ∈ ALL := al_mem 537 _ (by decide +kernel) (by decide +kernel)
theorem al_538 : Cond.methodLink RX6 39 yJ9_abs_0f7a4 ∈ ALL := al_mem 538 _ (by decide +kernel) (by decide +kernel)
theorem al_539 : Cond.methodLink RX6 44 ⟨"PlaySpans$Strings", "tooFar", "(III)Z"⟩ ∈ ALL := al_mem 539 _ (by decide +kernel) (by decide +kernel)
theorem al_540 : Cond.sameMethod "PlaySpans$Strings" "PlaySpans$Player" "tooFar" "(III)Z" ∈ ALL := al_mem 540 _ (by decide +kernel) (by decide +kernel)
theorem al_541 : Cond.selects RX6 ⟨"PlaySpans$Strings", "tooFar", "(III)Z"⟩ yX2_tooFar ∈ ALL := al_mem 541 _ (by decide +kernel) (by decide +kernel)
theorem al_542 : Cond.methodLink RX6 48 ⟨"PlaySpans$Strings", "secondOf", "(II)I"⟩ ∈ ALL := al_mem 542 _ (by decide +kernel) (by decide +kernel)
theorem al_543 : Cond.sameMethod "PlaySpans$Strings" "PlaySpans$Player" "secondOf" "(II)I" ∈ ALL := al_mem 543 _ (by decide +kernel) (by decide +kernel)
theorem al_544 : Cond.selects RX6 ⟨"PlaySpans$Strings", "secondOf", "(II)I"⟩ yX2_secondOf ∈ ALL := al_mem 544 _ (by decide +kernel) (by decide +kernel)
theorem al_545 : Cond.selects RX8 ⟨"PlaySpans$Player", "stepPrice", "(IIII)I"⟩ yX8_stepPrice ∈ ALL := al_mem 545 _ (by decide +kernel) (by decide +kernel)
theorem al_546 : Cond.instanceMethod yX8_stepPrice ∈ ALL := al_mem 546 _ (by decide +kernel) (by decide +kernel)
theorem al_547 : Cond.code yX8_stepPrice prog_10_method_4_code 5 (Option.some Jvm.ClassFile.FieldType.int) ∈ ALL := al_mem 547 _ (by decide +kernel) (by decide +kernel)
theorem al_548 : Cond.methodLink RX8 31 ⟨"PlaySpans$Wind", "firstOf", "(II)I"⟩ ∈ ALL := al_mem 548 _ (by decide +kernel) (by decide +kernel)
theorem al_549 : Cond.sameMethod "PlaySpans$Wind" "PlaySpans$Player" "firstOf" "(II)I" ∈ ALL := al_mem 549 _ (by decide +kernel) (by decide +kernel)
theorem al_550 : Cond.selects RX8 ⟨"PlaySpans$Wind", "firstOf", "(II)I"⟩ yX2_firstOf ∈ ALL := al_mem 550 _ (by decide +kernel) (by decide +kernel)
theorem al_551 : Cond.methodLink RX8 35 yX8_breathPrice ∈ ALL := al_mem 551 _ (by decide +kernel) (by decide +kernel)
theorem al_553 : Cond.instanceMethod yX8_breathPrice ∈ ALL := al_mem 553 _ (by decide +kernel) (by decide +kernel)
theorem al_554 : Cond.code yX8_breathPrice prog_10_method_5_code 5 (Option.some Jvm.ClassFile.FieldType.int) ∈ ALL := al_mem 554 _ (by decide +kernel) (by decide +kernel)
theorem al_556 : Cond.methodLink RX8 41 yJ9_max_7cf53 ∈ ALL := al_mem 556 _ (by decide +kernel) (by decide +kernel)
theorem al_557 : Cond.methodLink RL 54 yX9_price ∈ ALL := al_mem 557 _ (by decide +kernel) (by decide +kernel)
theorem al_558 : Cond.instanceMethod yX9_price ∈ ALL := al_mem 558 _ (by decide +kernel) (by decide +kernel)
theorem al_559 : Cond.selects RX9 yX9_price yX9_price ∈ ALL := al_mem 559 _ (by decide +kernel) (by decide +kernel)
theorem al_560 : Cond.code yX9_price prog_1_method_10_code 1 (Option.some Jvm.ClassFile.FieldType.int) ∈ ALL := al_mem 560 _ (by decide +kernel) (by decide +kernel)
theorem al_561 : Cond.methodLink RX9 147 yX3_refresh ∈ ALL := al_mem 561 _ (by decide +kernel) (by decide +kernel)
theorem al_562 : Cond.instanceMethod yX3_refresh ∈ ALL := al_mem 562 _ (by decide +kernel) (by decide +kernel)
theorem al_563 : Cond.selects RX3 yX3_refresh yX3_refresh ∈ ALL := al_mem 563 _ (by decide +kernel) (by decide +kernel)
theorem al_564 : Cond.code yX3_refresh prog_5_method_2_code 2 (Option.none : Option Jvm.ClassFile.FieldType) ∈ ALL := al_mem 564 _ (by decide +kernel) (by decide +kernel)
theorem al_565 : Cond.methodLink RX3 38 yX2_listAll ∈ ALL := al_mem 565 _ (by decide +kernel) (by decide +kernel)
theorem al_566 : Cond.methodLink RX3 43 yX3_firstStuck ∈ ALL := al_mem 566 _ (by decide +kernel) (by decide +kernel)
theorem al_568 : Cond.instanceMethod yX3_firstStuck ∈ ALL := al_mem 568 _ (by decide +kernel) (by decide +kernel)
theorem al_569 : Cond.code yX3_firstStuck prog_5_method_6_code 3 (Option.some Jvm.ClassFile.FieldType.int) ∈ ALL := al_mem 569 _ (by decide +kernel) (by decide +kernel)
theorem al_570 : Cond.methodLink RX3 68 yX3_isReached ∈ ALL := al_mem 570 _ (by decide +kernel) (by decide +kernel)
theorem al_572 : Cond.instanceMethod yX3_isReached ∈ ALL := al_mem 572 _ (by decide +kernel) (by decide +kernel)
theorem al_573 : Cond.code yX3_isReached prog_5_method_7_code 7 (Option.some Jvm.ClassFile.FieldType.boolean) ∈ ALL := al_mem 573 _ (by decide +kernel) (by decide +kernel)
theorem al_576 : Cond.instanceMethod yX1_before ∈ ALL := al_mem 576 _ (by decide +kernel) (by decide +kernel)
theorem al_577 : Cond.code yX1_before prog_3_method_21_code 2 (Option.some Jvm.ClassFile.FieldType.int) ∈ ALL := al_mem 577 _ (by decide +kernel) (by decide +kernel)
theorem al_578 : Cond.methodLink RX1 66 yX1_lastOfHand ∈ ALL := al_mem 578 _ (by decide +kernel) (by decide +kernel)
theorem al_579 : Cond.methodLink RX3 76 yX2_countOf ∈ ALL := al_mem 579 _ (by decide +kernel) (by decide +kernel)
theorem al_582 : Cond.instanceMethod yX1_allows ∈ ALL := al_mem 582 _ (by decide +kernel) (by decide +kernel)
theorem al_583 : Cond.code yX1_allows prog_3_method_16_code 4 (Option.some Jvm.ClassFile.FieldType.boolean) ∈ ALL := al_mem 583 _ (by decide +kernel) (by decide +kernel)
theorem al_584 : Cond.methodLink RX1 41 yX1_pinOf ∈ ALL := al_mem 584 _ (by decide +kernel) (by decide +kernel)
theorem al_585 : Cond.methodLink RX3 83 yX3_canCome ∈ ALL := al_mem 585 _ (by decide +kernel) (by decide +kernel)
theorem al_587 : Cond.instanceMethod yX3_canCome ∈ ALL := al_mem 587 _ (by decide +kernel) (by decide +kernel)
theorem al_588 : Cond.code yX3_canCome prog_5_method_8_code 6 (Option.some Jvm.ClassFile.FieldType.boolean) ∈ ALL := al_mem 588 _ (by decide +kernel) (by decide +kernel)
theorem al_589 : Cond.methodLink RX3 91 yX3_painsOf ∈ ALL := al_mem 589 _ (by decide +kernel) (by decide +kernel)
theorem al_591 : Cond.instanceMethod yX3_painsOf ∈ ALL := al_mem 591 _ (by decide +kernel) (by decide +kernel)
theorem al_592 : Cond.code yX3_painsOf prog_5_method_4_code 4 (Option.some Jvm.ClassFile.FieldType.int) ∈ ALL := al_mem 592 _ (by decide +kernel) (by decide +kernel)
theorem al_593 : Cond.constant RX3 62 1000000000 ∈ ALL := al_mem 593 _ (by decide +kernel) (by decide +kernel)
theorem al_594 : Cond.methodLink RX3 94 ⟨"PlaySpans$Player", "stepPrice", "(IIII)I"⟩ ∈ ALL := al_mem 594 _ (by decide +kernel) (by decide +kernel)
theorem al_595 : Cond.methodLink RX3 87 yX3_setPains ∈ ALL := al_mem 595 _ (by decide +kernel) (by decide +kernel)
theorem al_597 : Cond.instanceMethod yX3_setPains ∈ ALL := al_mem 597 _ (by decide +kernel) (by decide +kernel)
theorem al_598 : Cond.code yX3_setPains prog_5_method_5_code 5 (Option.none : Option Jvm.ClassFile.FieldType) ∈ ALL := al_mem 598 _ (by decide +kernel) (by decide +kernel)
theorem al_599 : Cond.methodLink RX3 47 yX3_weighRests ∈ ALL := al_mem 599 _ (by decide +kernel) (by decide +kernel)
theorem al_601 : Cond.instanceMethod yX3_weighRests ∈ ALL := al_mem 601 _ (by decide +kernel) (by decide +kernel)
theorem al_602 : Cond.code yX3_weighRests prog_5_method_9_code 6 (Option.none : Option Jvm.ClassFile.FieldType) ∈ ALL := al_mem 602 _ (by decide +kernel) (by decide +kernel)
theorem al_604 : Cond.methodLink RX3 101 yX3_cheapestOnward ∈ ALL := al_mem 604 _ (by decide +kernel) (by decide +kernel)
theorem al_606 : Cond.instanceMethod yX3_cheapestOnward ∈ ALL := al_mem 606 _ (by decide +kernel) (by decide +kernel)
theorem al_607 : Cond.code yX3_cheapestOnward prog_5_method_10_code 8 (Option.some Jvm.ClassFile.FieldType.int) ∈ ALL := al_mem 607 _ (by decide +kernel) (by decide +kernel)
theorem al_608 : Cond.methodLink RX3 108 yJ9_min_7cf53 ∈ ALL := al_mem 608 _ (by decide +kernel) (by decide +kernel)
theorem al_609 : Cond.methodLink RX3 105 yX2_priceOf ∈ ALL := al_mem 609 _ (by decide +kernel) (by decide +kernel)
theorem al_610 : Cond.methodLink RX3 51 yX3_chooseWay ∈ ALL := al_mem 610 _ (by decide +kernel) (by decide +kernel)
theorem al_612 : Cond.instanceMethod yX3_chooseWay ∈ ALL := al_mem 612 _ (by decide +kernel) (by decide +kernel)
theorem al_613 : Cond.code yX3_chooseWay prog_5_method_11_code 3 (Option.none : Option Jvm.ClassFile.FieldType) ∈ ALL := al_mem 613 _ (by decide +kernel) (by decide +kernel)
theorem al_614 : Cond.methodLink RX3 111 yX3_bestState ∈ ALL := al_mem 614 _ (by decide +kernel) (by decide +kernel)
theorem al_616 : Cond.instanceMethod yX3_bestState ∈ ALL := al_mem 616 _ (by decide +kernel) (by decide +kernel)
theorem al_617 : Cond.code yX3_bestState prog_5_method_12_code 8 (Option.some Jvm.ClassFile.FieldType.int) ∈ ALL := al_mem 617 _ (by decide +kernel) (by decide +kernel)
theorem al_618 : Cond.methodLink RX3 115 yX3_chosenOf ∈ ALL := al_mem 618 _ (by decide +kernel) (by decide +kernel)
theorem al_619 : Cond.instanceMethod yX3_chosenOf ∈ ALL := al_mem 619 _ (by decide +kernel) (by decide +kernel)
theorem al_620 : Cond.selects RX3 yX3_chosenOf yX3_chosenOf ∈ ALL := al_mem 620 _ (by decide +kernel) (by decide +kernel)
theorem al_621 : Cond.code yX3_chosenOf prog_5_method_3_code 2 (Option.some Jvm.ClassFile.FieldType.int) ∈ ALL := al_mem 621 _ (by decide +kernel) (by decide +kernel)
theorem al_622 : Cond.methodLink RX3 58 yX3_sumOfChains ∈ ALL := al_mem 622 _ (by decide +kernel) (by decide +kernel)
theorem al_624 : Cond.instanceMethod yX3_sumOfChains ∈ ALL := al_mem 624 _ (by decide +kernel) (by decide +kernel)
theorem al_625 : Cond.code yX3_sumOfChains prog_5_method_13_code 5 (Option.some Jvm.ClassFile.FieldType.int) ∈ ALL := al_mem 625 _ (by decide +kernel) (by decide +kernel)
theorem al_627 : Cond.methodLink RL 58 yX9_way ∈ ALL := al_mem 627 _ (by decide +kernel) (by decide +kernel)
theorem al_628 : Cond.instanceMethod yX9_way ∈ ALL := al_mem 628 _ (by decide +kernel) (by decide +kernel)
theorem al_629 : Cond.selects RX9 yX9_way yX9_way ∈ ALL := al_mem 629 _ (by decide +kernel) (by decide +kernel)
theorem al_630 : Cond.code yX9_way prog_1_method_11_code 2 (Option.some Jvm.ClassFile.FieldType.int) ∈ ALL := al_mem 630 _ (by decide +kernel) (by decide +kernel)
theorem al_631 : Cond.methodLink RX9 154 yX3_chosenOf ∈ ALL := al_mem 631 _ (by decide +kernel) (by decide +kernel)
theorem al_632 : Cond.methodLink RL 62 yX9_stuck ∈ ALL := al_mem 632 _ (by decide +kernel) (by decide +kernel)
theorem al_633 : Cond.instanceMethod yX9_stuck ∈ ALL := al_mem 633 _ (by decide +kernel) (by decide +kernel)
theorem al_634 : Cond.selects RX9 yX9_stuck yX9_stuck ∈ ALL := al_mem 634 _ (by decide +kernel) (by decide +kernel)
theorem al_635 : Cond.code yX9_stuck prog_1_method_12_code 1 (Option.some Jvm.ClassFile.FieldType.int) ∈ ALL := al_mem 635 _ (by decide +kernel) (by decide +kernel)
theorem al_636 : Cond.methodLink RL 66 yX9_ways ∈ ALL := al_mem 636 _ (by decide +kernel) (by decide +kernel)
theorem al_637 : Cond.instanceMethod yX9_ways ∈ ALL := al_mem 637 _ (by decide +kernel) (by decide +kernel)
theorem al_638 : Cond.selects RX9 yX9_ways yX9_ways ∈ ALL := al_mem 638 _ (by decide +kernel) (by decide +kernel)
theorem al_639 : Cond.code yX9_ways prog_1_method_13_code 2 (Option.some Jvm.ClassFile.FieldType.int) ∈ ALL := al_mem 639 _ (by decide +kernel) (by decide +kernel)
theorem al_640 : Cond.classLink RX9 160 RX7 ∈ ALL := al_mem 640 _ (by decide +kernel) (by decide +kernel)
theorem al_641 : Cond.instantiable RX7 6 ∈ ALL := al_mem 641 _ (by decide +kernel) (by decide +kernel)
theorem al_642 : Cond.methodLink RX9 162 yX7_init ∈ ALL := al_mem 642 _ (by decide +kernel) (by decide +kernel)
theorem al_643 : Cond.instanceMethod yX7_init ∈ ALL := al_mem 643 _ (by decide +kernel) (by decide +kernel)
theorem al_644 : Cond.code yX7_init prog_9_method_1_code 2 (Option.none : Option Jvm.ClassFile.FieldType) ∈ ALL := al_mem 644 _ (by decide +kernel) (by decide +kernel)
theorem al_645 : Cond.methodLink RX7 3 ⟨"java/lang/Object", "<init>", "()V"⟩ ∈ ALL := al_mem 645 _ (by decide +kernel) (by decide +kernel)
theorem al_646 : Cond.methodLink RX7 25 yJ9_max_7cf53 ∈ ALL := al_mem 646 _ (by decide +kernel) (by decide +kernel)
theorem al_647 : Cond.fieldLink RX7 31 "PlaySpans$Tally" "here" "[I" ∈ ALL := al_mem 647 _ (by decide +kernel) (by decide +kernel)
theorem al_648 : Cond.fieldLink RX7 34 "PlaySpans$Tally" "there" "[I" ∈ ALL := al_mem 648 _ (by decide +kernel) (by decide +kernel)
theorem al_649 : Cond.fieldLink RX7 11 "PlaySpans$Tally" "all" "[I" ∈ ALL := al_mem 649 _ (by decide +kernel) (by decide +kernel)
theorem al_650 : Cond.fieldLink RX7 15 "PlaySpans$Tally" "joined" "[I" ∈ ALL := al_mem 650 _ (by decide +kernel) (by decide +kernel)
theorem al_651 : Cond.fieldLink RX7 18 "PlaySpans$Tally" "ofChain" "[I" ∈ ALL := al_mem 651 _ (by decide +kernel) (by decide +kernel)
theorem al_652 : Cond.fieldLink RX7 21 "PlaySpans$Tally" "upTo" "I" ∈ ALL := al_mem 652 _ (by decide +kernel) (by decide +kernel)
theorem al_667 : Cond.methodLink RX9 166 yX7_run ∈ ALL := al_mem 667 _ (by decide +kernel) (by decide +kernel)
theorem al_668 : Cond.instanceMethod yX7_run ∈ ALL := al_mem 668 _ (by decide +kernel) (by decide +kernel)
theorem al_669 : Cond.selects RX7 yX7_run yX7_run ∈ ALL := al_mem 669 _ (by decide +kernel) (by decide +kernel)
theorem al_670 : Cond.code yX7_run prog_9_method_2_code 4 (Option.none : Option Jvm.ClassFile.FieldType) ∈ ALL := al_mem 670 _ (by decide +kernel) (by decide +kernel)
theorem al_671 : Cond.methodLink RX7 37 yJ7_fill_53178 ∈ ALL := al_mem 671 _ (by decide +kernel) (by decide +kernel)
theorem al_672 : Cond.static yJ7_fill_53178 ∈ ALL := al_mem 672 _ (by decide +kernel) (by decide +kernel)
theorem al_673 : Cond.code yJ7_fill_53178 prog_15_method_103_code 4 (Option.none : Option Jvm.ClassFile.FieldType) ∈ ALL := al_mem 673 _ (by decide +kernel) (by decide +kernel)
theorem al_675 : Cond.methodLink RX7 54 yX7_tallyChain ∈ ALL := al_mem 675 _ (by decide +kernel) (by decide +kernel)
theorem al_677 : Cond.instanceMethod yX7_tallyChain ∈ ALL := al_mem 677 _ (by decide +kernel) (by decide +kernel)
theorem al_678 : Cond.code yX7_tallyChain prog_9_method_5_code 6 (Option.none : Option Jvm.ClassFile.FieldType) ∈ ALL := al_mem 678 _ (by decide +kernel) (by decide +kernel)
theorem al_679 : Cond.methodLink RX7 69 yX7_begin ∈ ALL := al_mem 679 _ (by decide +kernel) (by decide +kernel)
theorem al_681 : Cond.instanceMethod yX7_begin ∈ ALL := al_mem 681 _ (by decide +kernel) (by decide +kernel)
theorem al_682 : Cond.code yX7_begin prog_9_method_6_code 6 (Option.none : Option Jvm.ClassFile.FieldType) ∈ ALL := al_mem 682 _ (by decide +kernel) (by decide +kernel)
theorem al_683 : Cond.methodLink RX7 84 yX2_countOf ∈ ALL := al_mem 683 _ (by decide +kernel) (by decide +kernel)
theorem al_684 : Cond.methodLink RX7 91 yX7_clearRows ∈ ALL := al_mem 684 _ (by decide +kernel) (by decide +kernel)
theorem al_685 : Cond.static yX7_clearRows ∈ ALL := al_mem 685 _ (by decide +kernel) (by decide +kernel)
theorem al_686 : Cond.code yX7_clearRows prog_9_method_7_code 2 (Option.none : Option Jvm.ClassFile.FieldType) ∈ ALL := al_mem 686 _ (by decide +kernel) (by decide +kernel)
theorem al_687 : Cond.methodLink RX7 66 yJ9_min_7cf53 ∈ ALL := al_mem 687 _ (by decide +kernel) (by decide +kernel)
theorem al_688 : Cond.methodLink RX7 101 yJ7_fill_fda19 ∈ ALL := al_mem 688 _ (by decide +kernel) (by decide +kernel)
theorem al_689 : Cond.static yJ7_fill_fda19 ∈ ALL := al_mem 689 _ (by decide +kernel) (by decide +kernel)
theorem al_690 : Cond.code yJ7_fill_fda19 prog_15_method_104_code 5 (Option.none : Option Jvm.ClassFile.FieldType) ∈ ALL := al_mem 690 _ (by decide +kernel) (by decide +kernel)
theorem al_691 : Cond.methodLink RJ7 13 yJ7_rangeCheck_23922 ∈ ALL := al_mem 691 _ (by decide +kernel) (by decide +kernel)
theorem al_692 : Cond.static yJ7_rangeCheck_23922 ∈ ALL := al_mem 692 _ (by decide +kernel) (by decide +kernel)
theorem al_693 : Cond.code yJ7_rangeCheck_23922 prog_15_method_30_code 3 (Option.none : Option Jvm.ClassFile.FieldType) ∈ ALL := al_mem 693 _ (by decide +kernel) (by decide +kernel)
theorem al_694 : Cond.methodLink RX7 94 yX2_priceOf ∈ ALL := al_mem 694 _ (by decide +kernel) (by decide +kernel)
theorem al_697 : Cond.methodLink RX7 80 yX7_advance ∈ ALL := al_mem 697 _ (by decide +kernel) (by decide +kernel)
theorem al_699 : Cond.instanceMethod yX7_advance ∈ ALL := al_mem 699 _ (by decide +kernel) (by decide +kernel)
theorem al_700 : Cond.code yX7_advance prog_9_method_8_code 11 (Option.none : Option Jvm.ClassFile.FieldType) ∈ ALL := al_mem 700 _ (by decide +kernel) (by decide +kernel)
theorem al_701 : Cond.methodLink RX7 104 yX7_cheapestOf ∈ ALL := al_mem 701 _ (by decide +kernel) (by decide +kernel)
theorem al_703 : Cond.instanceMethod yX7_cheapestOf ∈ ALL := al_mem 703 _ (by decide +kernel) (by decide +kernel)
theorem al_704 : Cond.code yX7_cheapestOf prog_9_method_9_code 5 (Option.some Jvm.ClassFile.FieldType.int) ∈ ALL := al_mem 704 _ (by decide +kernel) (by decide +kernel)
theorem al_705 : Cond.methodLink RX7 107 yX7_dearestOf ∈ ALL := al_mem 705 _ (by decide +kernel) (by decide +kernel)
theorem al_707 : Cond.instanceMethod yX7_dearestOf ∈ ALL := al_mem 707 _ (by decide +kernel) (by decide +kernel)
theorem al_708 : Cond.code yX7_dearestOf prog_9_method_10_code 5 (Option.some Jvm.ClassFile.FieldType.int) ∈ ALL := al_mem 708 _ (by decide +kernel) (by decide +kernel)
theorem al_709 : Cond.methodLink RX7 110 ⟨"PlaySpans$Player", "stepPrice", "(IIII)I"⟩ ∈ ALL := al_mem 709 _ (by decide +kernel) (by decide +kernel)
theorem al_710 : Cond.methodLink RX7 114 yX7_carry ∈ ALL := al_mem 710 _ (by decide +kernel) (by decide +kernel)
theorem al_712 : Cond.instanceMethod yX7_carry ∈ ALL := al_mem 712 _ (by decide +kernel) (by decide +kernel)
theorem al_713 : Cond.code yX7_carry prog_9_method_11_code 6 (Option.none : Option Jvm.ClassFile.FieldType) ∈ ALL := al_mem 713 _ (by decide +kernel) (by decide +kernel)
theorem al_714 : Cond.methodLink RX7 62 yX7_capped ∈ ALL := al_mem 714 _ (by decide +kernel) (by decide +kernel)
theorem al_715 : Cond.static yX7_capped ∈ ALL := al_mem 715 _ (by decide +kernel) (by decide +kernel)
theorem al_716 : Cond.code yX7_capped prog_9_method_4_code 2 (Option.some Jvm.ClassFile.FieldType.int) ∈ ALL := al_mem 716 _ (by decide +kernel) (by decide +kernel)
theorem al_717 : Cond.constant RX7 65 1000000000 ∈ ALL := al_mem 717 _ (by decide +kernel) (by decide +kernel)
theorem al_718 : Cond.methodLink RX7 87 yX7_gather ∈ ALL := al_mem 718 _ (by decide +kernel) (by decide +kernel)
theorem al_720 : Cond.instanceMethod yX7_gather ∈ ALL := al_mem 720 _ (by decide +kernel) (by decide +kernel)
theorem al_721 : Cond.code yX7_gather prog_9_method_12_code 6 (Option.none : Option Jvm.ClassFile.FieldType) ∈ ALL := al_mem 721 _ (by decide +kernel) (by decide +kernel)
theorem al_722 : Cond.methodLink RX7 58 yX7_join ∈ ALL := al_mem 722 _ (by decide +kernel) (by decide +kernel)
theorem al_724 : Cond.instanceMethod yX7_join ∈ ALL := al_mem 724 _ (by decide +kernel) (by decide +kernel)
theorem al_725 : Cond.code yX7_join prog_9_method_13_code 6 (Option.none : Option Jvm.ClassFile.FieldType) ∈ ALL := al_mem 725 _ (by decide +kernel) (by decide +kernel)
theorem al_726 : Cond.constantLong RX7 118 1000000000 ∈ ALL := al_mem 726 _ (by decide +kernel) (by decide +kernel)
theorem al_727 : Cond.methodLink RX7 120 yJ9_min_f86c9 ∈ ALL := al_mem 727 _ (by decide +kernel) (by decide +kernel)
theorem al_728 : Cond.static yJ9_min_f86c9 ∈ ALL := al_mem 728 _ (by decide +kernel) (by decide +kernel)
theorem al_729 : Cond.code yJ9_min_f86c9 prog_14_method_70_code 4 (Option.some Jvm.ClassFile.FieldType.long) ∈ ALL := al_mem 729 _ (by decide +kernel) (by decide +kernel)
theorem al_730 : Cond.methodLink RX9 170 yX7_sumTo ∈ ALL := al_mem 730 _ (by decide +kernel) (by decide +kernel)
theorem al_731 : Cond.instanceMethod yX7_sumTo ∈ ALL := al_mem 731 _ (by decide +kernel) (by decide +kernel)
theorem al_732 : Cond.selects RX7 yX7_sumTo yX7_sumTo ∈ ALL := al_mem 732 _ (by decide +kernel) (by decide +kernel)
theorem al_733 : Cond.code yX7_sumTo prog_9_method_3_code 4 (Option.some Jvm.ClassFile.FieldType.int) ∈ ALL := al_mem 733 _ (by decide +kernel) (by decide +kernel)
theorem al_734 : Cond.methodLink RL 70 yX9_told ∈ ALL := al_mem 734 _ (by decide +kernel) (by decide +kernel)
theorem al_735 : Cond.instanceMethod yX9_told ∈ ALL := al_mem 735 _ (by decide +kernel) (by decide +kernel)
theorem al_736 : Cond.selects RX9 yX9_told yX9_told ∈ ALL := al_mem 736 _ (by decide +kernel) (by decide +kernel)
theorem al_737 : Cond.code yX9_told prog_1_method_14_code 2 (Option.some Jvm.ClassFile.FieldType.int) ∈ ALL := al_mem 737 _ (by decide +kernel) (by decide +kernel)
theorem al_740 : Cond.instanceMethod yX1_countOfHand ∈ ALL := al_mem 740 _ (by decide +kernel) (by decide +kernel)
theorem al_741 : Cond.code yX1_countOfHand prog_3_method_22_code 4 (Option.some Jvm.ClassFile.FieldType.int) ∈ ALL := al_mem 741 _ (by decide +kernel) (by decide +kernel)
theorem al_744 : Cond.instanceMethod yX1_countPinned ∈ ALL := al_mem 744 _ (by decide +kernel) (by decide +kernel)
theorem al_745 : Cond.code yX1_countPinned prog_3_method_23_code 3 (Option.some Jvm.ClassFile.FieldType.int) ∈ ALL := al_mem 745 _ (by decide +kernel) (by decide +kernel)
theorem al_746 : Cond.methodLink RL 74 yX9_about ∈ ALL := al_mem 746 _ (by decide +kernel) (by decide +kernel)
theorem al_747 : Cond.instanceMethod yX9_about ∈ ALL := al_mem 747 _ (by decide +kernel) (by decide +kernel)
theorem al_748 : Cond.selects RX9 yX9_about yX9_about ∈ ALL := al_mem 748 _ (by decide +kernel) (by decide +kernel)
theorem al_749 : Cond.code yX9_about prog_1_method_15_code 4 (Option.some Jvm.ClassFile.FieldType.int) ∈ ALL := al_mem 749 _ (by decide +kernel) (by decide +kernel)
theorem al_753 : Cond.methodLink RL 9 yL_cell ∈ ALL := al_mem 753 _ (by decide +kernel) (by decide +kernel)
theorem al_754 : Cond.static yL_cell ∈ ALL := al_mem 754 _ (by decide +kernel) (by decide +kernel)
theorem al_755 : Cond.code yL_cell method_2_code 2 (Option.some Jvm.ClassFile.FieldType.int) ∈ ALL := al_mem 755 _ (by decide +kernel) (by decide +kernel)
theorem al_756 : Cond.classLink RL 18 RX10 ∈ ALL := al_mem 756 _ (by decide +kernel) (by decide +kernel)
theorem al_757 : Cond.instantiable RX10 20 ∈ ALL := al_mem 757 _ (by decide +kernel) (by decide +kernel)
theorem al_758 : Cond.methodLink RL 20 yX10_init ∈ ALL := al_mem 758 _ (by decide +kernel) (by decide +kernel)
theorem al_759 : Cond.instanceMethod yX10_init ∈ ALL := al_mem 759 _ (by decide +kernel) (by decide +kernel)
theorem al_760 : Cond.code yX10_init prog_12_method_1_code 3 (Option.none : Option Jvm.ClassFile.FieldType) ∈ ALL := al_mem 760 _ (by decide +kernel) (by decide +kernel)
theorem al_761 : Cond.methodLink RX10 1 ⟨"java/lang/Object", "<init>", "()V"⟩ ∈ ALL := al_mem 761 _ (by decide +kernel) (by decide +kernel)
theorem al_762 : Cond.constant RX10 53 48160 ∈ ALL := al_mem 762 _ (by decide +kernel) (by decide +kernel)
theorem al_763 : Cond.fieldLink RX10 63 "PlaySpansModel" "instrument" "I" ∈ ALL := al_mem 763 _ (by decide +kernel) (by decide +kernel)
theorem al_764 : Cond.fieldLink RX10 67 "PlaySpansModel" "events" "I" ∈ ALL := al_mem 764 _ (by decide +kernel) (by decide +kernel)
theorem al_765 : Cond.fieldLink RX10 7 "PlaySpansModel" "hand" "[I" ∈ ALL := al_mem 765 _ (by decide +kernel) (by decide +kernel)
theorem al_766 : Cond.fieldLink RX10 13 "PlaySpansModel" "time" "[I" ∈ ALL := al_mem 766 _ (by decide +kernel) (by decide +kernel)
theorem al_767 : Cond.fieldLink RX10 16 "PlaySpansModel" "length" "[I" ∈ ALL := al_mem 767 _ (by decide +kernel) (by decide +kernel)
theorem al_768 : Cond.fieldLink RX10 19 "PlaySpansModel" "notes" "[I" ∈ ALL := al_mem 768 _ (by decide +kernel) (by decide +kernel)
theorem al_769 : Cond.fieldLink RX10 22 "PlaySpansModel" "pitch" "[I" ∈ ALL := al_mem 769 _ (by decide +kernel) (by decide +kernel)
theorem al_770 : Cond.fieldLink RX10 25 "PlaySpansModel" "pinned" "[I" ∈ ALL := al_mem 770 _ (by decide +kernel) (by decide +kernel)
theorem al_771 : Cond.fieldLink RX10 28 "PlaySpansModel" "bounds" "[I" ∈ ALL := al_mem 771 _ (by decide +kernel) (by decide +kernel)
theorem al_772 : Cond.fieldLink RX10 83 "PlaySpansModel" "isFound" "Z" ∈ ALL := al_mem 772 _ (by decide +kernel) (by decide +kernel)
theorem al_773 : Cond.fieldLink RX10 31 "PlaySpansModel" "count" "[I" ∈ ALL := al_mem 773 _ (by decide +kernel) (by decide +kernel)
theorem al_774 : Cond.fieldLink RX10 34 "PlaySpansModel" "one" "[I" ∈ ALL := al_mem 774 _ (by decide +kernel) (by decide +kernel)
theorem al_775 : Cond.fieldLink RX10 37 "PlaySpansModel" "two" "[I" ∈ ALL := al_mem 775 _ (by decide +kernel) (by decide +kernel)
theorem al_776 : Cond.fieldLink RX10 40 "PlaySpansModel" "price" "[I" ∈ ALL := al_mem 776 _ (by decide +kernel) (by decide +kernel)
theorem al_777 : Cond.fieldLink RX10 43 "PlaySpansModel" "rest" "[I" ∈ ALL := al_mem 777 _ (by decide +kernel) (by decide +kernel)
theorem al_778 : Cond.fieldLink RX10 46 "PlaySpansModel" "taken" "[I" ∈ ALL := al_mem 778 _ (by decide +kernel) (by decide +kernel)
theorem al_779 : Cond.fieldLink RX10 49 "PlaySpansModel" "comes" "[Z" ∈ ALL := al_mem 779 _ (by decide +kernel) (by decide +kernel)
theorem al_780 : Cond.fieldLink RX10 54 "PlaySpansModel" "many" "[I" ∈ ALL := al_mem 780 _ (by decide +kernel) (by decide +kernel)
theorem al_781 : Cond.fieldLink RX10 57 "PlaySpansModel" "all" "[I" ∈ ALL := al_mem 781 _ (by decide +kernel) (by decide +kernel)
theorem al_782 : Cond.fieldLink RX10 60 "PlaySpansModel" "both" "[I" ∈ ALL := al_mem 782 _ (by decide +kernel) (by decide +kernel)
theorem al_824 : Cond.arrayClass Jvm.ClassFile.FieldType.boolean ∈ ALL := al_mem 824 _ (by decide +kernel) (by decide +kernel)
theorem al_825 : Cond.methodLink RL 25 yX10_event ∈ ALL := al_mem 825 _ (by decide +kernel) (by decide +kernel)
theorem al_826 : Cond.instanceMethod yX10_event ∈ ALL := al_mem 826 _ (by decide +kernel) (by decide +kernel)
theorem al_827 : Cond.selects RX10 yX10_event yX10_event ∈ ALL := al_mem 827 _ (by decide +kernel) (by decide +kernel)
theorem al_828 : Cond.code yX10_event prog_12_method_7_code 10 (Option.some Jvm.ClassFile.FieldType.int) ∈ ALL := al_mem 828 _ (by decide +kernel) (by decide +kernel)
theorem al_829 : Cond.methodLink RX10 75 yX10_isWell ∈ ALL := al_mem 829 _ (by decide +kernel) (by decide +kernel)
theorem al_831 : Cond.instanceMethod yX10_isWell ∈ ALL := al_mem 831 _ (by decide +kernel) (by decide +kernel)
theorem al_832 : Cond.code yX10_isWell prog_12_method_6_code 7 (Option.some Jvm.ClassFile.FieldType.boolean) ∈ ALL := al_mem 832 _ (by decide +kernel) (by decide +kernel)
theorem al_833 : Cond.methodLink RX10 70 yX10_in ∈ ALL := al_mem 833 _ (by decide +kernel) (by decide +kernel)
theorem al_834 : Cond.static yX10_in ∈ ALL := al_mem 834 _ (by decide +kernel) (by decide +kernel)
theorem al_835 : Cond.code yX10_in prog_12_method_2_code 3 (Option.some Jvm.ClassFile.FieldType.boolean) ∈ ALL := al_mem 835 _ (by decide +kernel) (by decide +kernel)
theorem al_836 : Cond.constant RX10 74 100000 ∈ ALL := al_mem 836 _ (by decide +kernel) (by decide +kernel)
theorem al_837 : Cond.methodLink RX10 79 yX10_before ∈ ALL := al_mem 837 _ (by decide +kernel) (by decide +kernel)
theorem al_839 : Cond.instanceMethod yX10_before ∈ ALL := al_mem 839 _ (by decide +kernel) (by decide +kernel)
theorem al_840 : Cond.code yX10_before prog_12_method_4_code 4 (Option.some Jvm.ClassFile.FieldType.int) ∈ ALL := al_mem 840 _ (by decide +kernel) (by decide +kernel)
theorem al_841 : Cond.methodLink RL 30 yX10_drop ∈ ALL := al_mem 841 _ (by decide +kernel) (by decide +kernel)
theorem al_842 : Cond.instanceMethod yX10_drop ∈ ALL := al_mem 842 _ (by decide +kernel) (by decide +kernel)
theorem al_843 : Cond.selects RX10 yX10_drop yX10_drop ∈ ALL := al_mem 843 _ (by decide +kernel) (by decide +kernel)
theorem al_844 : Cond.code yX10_drop prog_12_method_8_code 1 (Option.some Jvm.ClassFile.FieldType.int) ∈ ALL := al_mem 844 _ (by decide +kernel) (by decide +kernel)
theorem al_845 : Cond.methodLink RL 35 yX10_bound ∈ ALL := al_mem 845 _ (by decide +kernel) (by decide +kernel)
theorem al_846 : Cond.instanceMethod yX10_bound ∈ ALL := al_mem 846 _ (by decide +kernel) (by decide +kernel)
theorem al_847 : Cond.selects RX10 yX10_bound yX10_bound ∈ ALL := al_mem 847 _ (by decide +kernel) (by decide +kernel)
theorem al_848 : Cond.code yX10_bound prog_12_method_9_code 6 (Option.some Jvm.ClassFile.FieldType.int) ∈ ALL := al_mem 848 _ (by decide +kernel) (by decide +kernel)
theorem al_849 : Cond.methodLink RL 39 yX10_pin ∈ ALL := al_mem 849 _ (by decide +kernel) (by decide +kernel)
theorem al_850 : Cond.instanceMethod yX10_pin ∈ ALL := al_mem 850 _ (by decide +kernel) (by decide +kernel)
theorem al_851 : Cond.selects RX10 yX10_pin yX10_pin ∈ ALL := al_mem 851 _ (by decide +kernel) (by decide +kernel)
theorem al_852 : Cond.code yX10_pin prog_12_method_10_code 4 (Option.some Jvm.ClassFile.FieldType.int) ∈ ALL := al_mem 852 _ (by decide +kernel) (by decide +kernel)
theorem al_853 : Cond.methodLink RL 44 yX10_states ∈ ALL := al_mem 853 _ (by decide +kernel) (by decide +kernel)
theorem al_854 : Cond.instanceMethod yX10_states ∈ ALL := al_mem 854 _ (by decide +kernel) (by decide +kernel)
theorem al_855 : Cond.selects RX10 yX10_states yX10_states ∈ ALL := al_mem 855 _ (by decide +kernel) (by decide +kernel)
theorem al_856 : Cond.code yX10_states prog_12_method_24_code 2 (Option.some Jvm.ClassFile.FieldType.int) ∈ ALL := al_mem 856 _ (by decide +kernel) (by decide +kernel)
theorem al_857 : Cond.methodLink RX10 131 yX10_find ∈ ALL := al_mem 857 _ (by decide +kernel) (by decide +kernel)
theorem al_859 : Cond.instanceMethod yX10_find ∈ ALL := al_mem 859 _ (by decide +kernel) (by decide +kernel)
theorem al_860 : Cond.code yX10_find prog_12_method_12_code 4 (Option.none : Option Jvm.ClassFile.FieldType) ∈ ALL := al_mem 860 _ (by decide +kernel) (by decide +kernel)
theorem al_861 : Cond.methodLink RX10 87 yX10_findOf ∈ ALL := al_mem 861 _ (by decide +kernel) (by decide +kernel)
theorem al_863 : Cond.instanceMethod yX10_findOf ∈ ALL := al_mem 863 _ (by decide +kernel) (by decide +kernel)
theorem al_864 : Cond.code yX10_findOf prog_12_method_13_code 4 (Option.none : Option Jvm.ClassFile.FieldType) ∈ ALL := al_mem 864 _ (by decide +kernel) (by decide +kernel)
theorem al_865 : Cond.methodLink RX10 91 yX10_bits ∈ ALL := al_mem 865 _ (by decide +kernel) (by decide +kernel)
theorem al_866 : Cond.static yX10_bits ∈ ALL := al_mem 866 _ (by decide +kernel) (by decide +kernel)
theorem al_867 : Cond.code yX10_bits prog_12_method_14_code 3 (Option.some Jvm.ClassFile.FieldType.int) ∈ ALL := al_mem 867 _ (by decide +kernel) (by decide +kernel)
theorem al_868 : Cond.methodLink RX10 95 yX10_fingers ∈ ALL := al_mem 868 _ (by decide +kernel) (by decide +kernel)
theorem al_870 : Cond.instanceMethod yX10_fingers ∈ ALL := al_mem 870 _ (by decide +kernel) (by decide +kernel)
theorem al_871 : Cond.code yX10_fingers prog_12_method_16_code 10 (Option.none : Option Jvm.ClassFile.FieldType) ∈ ALL := al_mem 871 _ (by decide +kernel) (by decide +kernel)
theorem al_872 : Cond.methodLink RX10 117 yX10_finger ∈ ALL := al_mem 872 _ (by decide +kernel) (by decide +kernel)
theorem al_874 : Cond.instanceMethod yX10_finger ∈ ALL := al_mem 874 _ (by decide +kernel) (by decide +kernel)
theorem al_875 : Cond.code yX10_finger prog_12_method_15_code 6 (Option.some Jvm.ClassFile.FieldType.int) ∈ ALL := al_mem 875 _ (by decide +kernel) (by decide +kernel)
theorem al_876 : Cond.methodLink RX10 121 yX10_far ∈ ALL := al_mem 876 _ (by decide +kernel) (by decide +kernel)
theorem al_877 : Cond.static yX10_far ∈ ALL := al_mem 877 _ (by decide +kernel) (by decide +kernel)
theorem al_878 : Cond.code yX10_far prog_12_method_3_code 2 (Option.some Jvm.ClassFile.FieldType.int) ∈ ALL := al_mem 878 _ (by decide +kernel) (by decide +kernel)
theorem al_879 : Cond.methodLink RX10 110 yX10_add ∈ ALL := al_mem 879 _ (by decide +kernel) (by decide +kernel)
theorem al_881 : Cond.instanceMethod yX10_add ∈ ALL := al_mem 881 _ (by decide +kernel) (by decide +kernel)
theorem al_882 : Cond.code yX10_add prog_12_method_11_code 6 (Option.none : Option Jvm.ClassFile.FieldType) ∈ ALL := al_mem 882 _ (by decide +kernel) (by decide +kernel)
theorem al_883 : Cond.methodLink RX10 99 yX10_strings ∈ ALL := al_mem 883 _ (by decide +kernel) (by decide +kernel)
theorem al_885 : Cond.instanceMethod yX10_strings ∈ ALL := al_mem 885 _ (by decide +kernel) (by decide +kernel)
theorem al_886 : Cond.code yX10_strings prog_12_method_17_code 7 (Option.none : Option Jvm.ClassFile.FieldType) ∈ ALL := al_mem 886 _ (by decide +kernel) (by decide +kernel)
theorem al_887 : Cond.methodLink RX10 103 yX10_breaths ∈ ALL := al_mem 887 _ (by decide +kernel) (by decide +kernel)
theorem al_889 : Cond.instanceMethod yX10_breaths ∈ ALL := al_mem 889 _ (by decide +kernel) (by decide +kernel)
theorem al_890 : Cond.code yX10_breaths prog_12_method_18_code 5 (Option.none : Option Jvm.ClassFile.FieldType) ∈ ALL := al_mem 890 _ (by decide +kernel) (by decide +kernel)
theorem al_891 : Cond.methodLink RX10 106 yX10_isPartial ∈ ALL := al_mem 891 _ (by decide +kernel) (by decide +kernel)
theorem al_892 : Cond.static yX10_isPartial ∈ ALL := al_mem 892 _ (by decide +kernel) (by decide +kernel)
theorem al_893 : Cond.code yX10_isPartial prog_12_method_19_code 1 (Option.some Jvm.ClassFile.FieldType.boolean) ∈ ALL := al_mem 893 _ (by decide +kernel) (by decide +kernel)
theorem al_894 : Cond.methodLink RX10 114 yX10_sticks ∈ ALL := al_mem 894 _ (by decide +kernel) (by decide +kernel)
theorem al_896 : Cond.instanceMethod yX10_sticks ∈ ALL := al_mem 896 _ (by decide +kernel) (by decide +kernel)
theorem al_897 : Cond.code yX10_sticks prog_12_method_22_code 6 (Option.none : Option Jvm.ClassFile.FieldType) ∈ ALL := al_mem 897 _ (by decide +kernel) (by decide +kernel)
theorem al_898 : Cond.methodLink RX10 124 yX10_isOther ∈ ALL := al_mem 898 _ (by decide +kernel) (by decide +kernel)
theorem al_900 : Cond.instanceMethod yX10_isOther ∈ ALL := al_mem 900 _ (by decide +kernel) (by decide +kernel)
theorem al_901 : Cond.code yX10_isOther prog_12_method_21_code 5 (Option.some Jvm.ClassFile.FieldType.boolean) ∈ ALL := al_mem 901 _ (by decide +kernel) (by decide +kernel)
theorem al_902 : Cond.methodLink RX10 128 yX10_played ∈ ALL := al_mem 902 _ (by decide +kernel) (by decide +kernel)
theorem al_904 : Cond.instanceMethod yX10_played ∈ ALL := al_mem 904 _ (by decide +kernel) (by decide +kernel)
theorem al_905 : Cond.code yX10_played prog_12_method_20_code 3 (Option.some Jvm.ClassFile.FieldType.int) ∈ ALL := al_mem 905 _ (by decide +kernel) (by decide +kernel)
theorem al_906 : Cond.methodLink RL 49 yX10_state ∈ ALL := al_mem 906 _ (by decide +kernel) (by decide +kernel)
theorem al_907 : Cond.instanceMethod yX10_state ∈ ALL := al_mem 907 _ (by decide +kernel) (by decide +kernel)
theorem al_908 : Cond.selects RX10 yX10_state yX10_state ∈ ALL := al_mem 908 _ (by decide +kernel) (by decide +kernel)
theorem al_909 : Cond.code yX10_state prog_12_method_25_code 5 (Option.some Jvm.ClassFile.FieldType.int) ∈ ALL := al_mem 909 _ (by decide +kernel) (by decide +kernel)
theorem al_910 : Cond.methodLink RX10 134 yX10_noState ∈ ALL := al_mem 910 _ (by decide +kernel) (by decide +kernel)
theorem al_912 : Cond.instanceMethod yX10_noState ∈ ALL := al_mem 912 _ (by decide +kernel) (by decide +kernel)
theorem al_913 : Cond.code yX10_noState prog_12_method_23_code 3 (Option.some Jvm.ClassFile.FieldType.boolean) ∈ ALL := al_mem 913 _ (by decide +kernel) (by decide +kernel)
theorem al_914 : Cond.methodLink RL 53 yX10_step ∈ ALL := al_mem 914 _ (by decide +kernel) (by decide +kernel)
theorem al_915 : Cond.instanceMethod yX10_step ∈ ALL := al_mem 915 _ (by decide +kernel) (by decide +kernel)
theorem al_916 : Cond.selects RX10 yX10_step yX10_step ∈ ALL := al_mem 916 _ (by decide +kernel) (by decide +kernel)
theorem al_917 : Cond.code yX10_step prog_12_method_31_code 4 (Option.some Jvm.ClassFile.FieldType.int) ∈ ALL := al_mem 917 _ (by decide +kernel) (by decide +kernel)
theorem al_918 : Cond.methodLink RX10 150 yX10_after ∈ ALL := al_mem 918 _ (by decide +kernel) (by decide +kernel)
theorem al_920 : Cond.instanceMethod yX10_after ∈ ALL := al_mem 920 _ (by decide +kernel) (by decide +kernel)
theorem al_921 : Cond.code yX10_after prog_12_method_5_code 3 (Option.some Jvm.ClassFile.FieldType.int) ∈ ALL := al_mem 921 _ (by decide +kernel) (by decide +kernel)
theorem al_922 : Cond.methodLink RX10 153 yX10_stepOf ∈ ALL := al_mem 922 _ (by decide +kernel) (by decide +kernel)
theorem al_924 : Cond.instanceMethod yX10_stepOf ∈ ALL := al_mem 924 _ (by decide +kernel) (by decide +kernel)
theorem al_925 : Cond.code yX10_stepOf prog_12_method_27_code 12 (Option.some Jvm.ClassFile.FieldType.int) ∈ ALL := al_mem 925 _ (by decide +kernel) (by decide +kernel)
theorem al_926 : Cond.methodLink RX10 137 yX10_moved ∈ ALL := al_mem 926 _ (by decide +kernel) (by decide +kernel)
theorem al_928 : Cond.instanceMethod yX10_moved ∈ ALL := al_mem 928 _ (by decide +kernel) (by decide +kernel)
theorem al_929 : Cond.code yX10_moved prog_12_method_26_code 4 (Option.some Jvm.ClassFile.FieldType.int) ∈ ALL := al_mem 929 _ (by decide +kernel) (by decide +kernel)
theorem al_930 : Cond.methodLink RX10 140 yX10_breathed ∈ ALL := al_mem 930 _ (by decide +kernel) (by decide +kernel)
theorem al_932 : Cond.instanceMethod yX10_breathed ∈ ALL := al_mem 932 _ (by decide +kernel) (by decide +kernel)
theorem al_933 : Cond.code yX10_breathed prog_12_method_28_code 6 (Option.some Jvm.ClassFile.FieldType.int) ∈ ALL := al_mem 933 _ (by decide +kernel) (by decide +kernel)
theorem al_934 : Cond.methodLink RX10 144 yX10_struck ∈ ALL := al_mem 934 _ (by decide +kernel) (by decide +kernel)
theorem al_936 : Cond.instanceMethod yX10_struck ∈ ALL := al_mem 936 _ (by decide +kernel) (by decide +kernel)
theorem al_937 : Cond.code yX10_struck prog_12_method_30_code 9 (Option.some Jvm.ClassFile.FieldType.int) ∈ ALL := al_mem 937 _ (by decide +kernel) (by decide +kernel)
theorem al_938 : Cond.methodLink RX10 147 yX10_latest ∈ ALL := al_mem 938 _ (by decide +kernel) (by decide +kernel)
theorem al_940 : Cond.instanceMethod yX10_latest ∈ ALL := al_mem 940 _ (by decide +kernel) (by decide +kernel)
theorem al_941 : Cond.code yX10_latest prog_12_method_29_code 4 (Option.some Jvm.ClassFile.FieldType.int) ∈ ALL := al_mem 941 _ (by decide +kernel) (by decide +kernel)
theorem al_942 : Cond.methodLink RL 57 yX10_price ∈ ALL := al_mem 942 _ (by decide +kernel) (by decide +kernel)
theorem al_943 : Cond.instanceMethod yX10_price ∈ ALL := al_mem 943 _ (by decide +kernel) (by decide +kernel)
theorem al_944 : Cond.selects RX10 yX10_price yX10_price ∈ ALL := al_mem 944 _ (by decide +kernel) (by decide +kernel)
theorem al_945 : Cond.code yX10_price prog_12_method_36_code 2 (Option.some Jvm.ClassFile.FieldType.int) ∈ ALL := al_mem 945 _ (by decide +kernel) (by decide +kernel)
theorem al_946 : Cond.methodLink RX10 163 yX10_reckon ∈ ALL := al_mem 946 _ (by decide +kernel) (by decide +kernel)
theorem al_948 : Cond.instanceMethod yX10_reckon ∈ ALL := al_mem 948 _ (by decide +kernel) (by decide +kernel)
theorem al_949 : Cond.code yX10_reckon prog_12_method_33_code 7 (Option.none : Option Jvm.ClassFile.FieldType) ∈ ALL := al_mem 949 _ (by decide +kernel) (by decide +kernel)
theorem al_950 : Cond.constant RX10 156 1000000000 ∈ ALL := al_mem 950 _ (by decide +kernel) (by decide +kernel)
theorem al_951 : Cond.methodLink RX10 157 yX10_isLet ∈ ALL := al_mem 951 _ (by decide +kernel) (by decide +kernel)
theorem al_953 : Cond.instanceMethod yX10_isLet ∈ ALL := al_mem 953 _ (by decide +kernel) (by decide +kernel)
theorem al_954 : Cond.code yX10_isLet prog_12_method_32_code 3 (Option.some Jvm.ClassFile.FieldType.boolean) ∈ ALL := al_mem 954 _ (by decide +kernel) (by decide +kernel)
theorem al_955 : Cond.methodLink RX10 166 yX10_chain ∈ ALL := al_mem 955 _ (by decide +kernel) (by decide +kernel)
theorem al_957 : Cond.instanceMethod yX10_chain ∈ ALL := al_mem 957 _ (by decide +kernel) (by decide +kernel)
theorem al_958 : Cond.code yX10_chain prog_12_method_35_code 5 (Option.some Jvm.ClassFile.FieldType.int) ∈ ALL := al_mem 958 _ (by decide +kernel) (by decide +kernel)
theorem al_959 : Cond.methodLink RX10 160 yX10_first ∈ ALL := al_mem 959 _ (by decide +kernel) (by decide +kernel)
theorem al_961 : Cond.instanceMethod yX10_first ∈ ALL := al_mem 961 _ (by decide +kernel) (by decide +kernel)
theorem al_962 : Cond.code yX10_first prog_12_method_34_code 3 (Option.some Jvm.ClassFile.FieldType.int) ∈ ALL := al_mem 962 _ (by decide +kernel) (by decide +kernel)
theorem al_963 : Cond.methodLink RL 61 yX10_way ∈ ALL := al_mem 963 _ (by decide +kernel) (by decide +kernel)
theorem al_964 : Cond.instanceMethod yX10_way ∈ ALL := al_mem 964 _ (by decide +kernel) (by decide +kernel)
theorem al_965 : Cond.selects RX10 yX10_way yX10_way ∈ ALL := al_mem 965 _ (by decide +kernel) (by decide +kernel)
theorem al_966 : Cond.code yX10_way prog_12_method_37_code 6 (Option.some Jvm.ClassFile.FieldType.int) ∈ ALL := al_mem 966 _ (by decide +kernel) (by decide +kernel)
theorem al_967 : Cond.methodLink RX10 169 yX10_price ∈ ALL := al_mem 967 _ (by decide +kernel) (by decide +kernel)
theorem al_968 : Cond.methodLink RX10 172 yX10_isOn ∈ ALL := al_mem 968 _ (by decide +kernel) (by decide +kernel)
theorem al_970 : Cond.instanceMethod yX10_isOn ∈ ALL := al_mem 970 _ (by decide +kernel) (by decide +kernel)
theorem al_971 : Cond.code yX10_isOn prog_12_method_38_code 6 (Option.some Jvm.ClassFile.FieldType.boolean) ∈ ALL := al_mem 971 _ (by decide +kernel) (by decide +kernel)
theorem al_972 : Cond.methodLink RL 65 yX10_stuck ∈ ALL := al_mem 972 _ (by decide +kernel) (by decide +kernel)
theorem al_973 : Cond.instanceMethod yX10_stuck ∈ ALL := al_mem 973 _ (by decide +kernel) (by decide +kernel)
theorem al_974 : Cond.selects RX10 yX10_stuck yX10_stuck ∈ ALL := al_mem 974 _ (by decide +kernel) (by decide +kernel)
theorem al_975 : Cond.code yX10_stuck prog_12_method_39_code 7 (Option.some Jvm.ClassFile.FieldType.int) ∈ ALL := al_mem 975 _ (by decide +kernel) (by decide +kernel)
theorem al_976 : Cond.methodLink RL 69 yX10_ways ∈ ALL := al_mem 976 _ (by decide +kernel) (by decide +kernel)
theorem al_977 : Cond.instanceMethod yX10_ways ∈ ALL := al_mem 977 _ (by decide +kernel) (by decide +kernel)
theorem al_978 : Cond.selects RX10 yX10_ways yX10_ways ∈ ALL := al_mem 978 _ (by decide +kernel) (by decide +kernel)
theorem al_979 : Cond.code yX10_ways prog_12_method_44_code 6 (Option.some Jvm.ClassFile.FieldType.int) ∈ ALL := al_mem 979 _ (by decide +kernel) (by decide +kernel)
theorem al_980 : Cond.methodLink RX10 185 yX10_countChain ∈ ALL := al_mem 980 _ (by decide +kernel) (by decide +kernel)
theorem al_982 : Cond.instanceMethod yX10_countChain ∈ ALL := al_mem 982 _ (by decide +kernel) (by decide +kernel)
theorem al_983 : Cond.code yX10_countChain prog_12_method_41_code 6 (Option.none : Option Jvm.ClassFile.FieldType) ∈ ALL := al_mem 983 _ (by decide +kernel) (by decide +kernel)
theorem al_984 : Cond.methodLink RX10 176 yX10_beginCounts ∈ ALL := al_mem 984 _ (by decide +kernel) (by decide +kernel)
theorem al_986 : Cond.instanceMethod yX10_beginCounts ∈ ALL := al_mem 986 _ (by decide +kernel) (by decide +kernel)
theorem al_987 : Cond.code yX10_beginCounts prog_12_method_42_code 4 (Option.none : Option Jvm.ClassFile.FieldType) ∈ ALL := al_mem 987 _ (by decide +kernel) (by decide +kernel)
theorem al_988 : Cond.methodLink RX10 179 yX10_goOn ∈ ALL := al_mem 988 _ (by decide +kernel) (by decide +kernel)
theorem al_990 : Cond.instanceMethod yX10_goOn ∈ ALL := al_mem 990 _ (by decide +kernel) (by decide +kernel)
theorem al_991 : Cond.code yX10_goOn prog_12_method_43_code 11 (Option.none : Option Jvm.ClassFile.FieldType) ∈ ALL := al_mem 991 _ (by decide +kernel) (by decide +kernel)
theorem al_992 : Cond.methodLink RX10 182 yX10_more ∈ ALL := al_mem 992 _ (by decide +kernel) (by decide +kernel)
theorem al_993 : Cond.static yX10_more ∈ ALL := al_mem 993 _ (by decide +kernel) (by decide +kernel)
theorem al_994 : Cond.code yX10_more prog_12_method_40_code 2 (Option.some Jvm.ClassFile.FieldType.int) ∈ ALL := al_mem 994 _ (by decide +kernel) (by decide +kernel)
theorem al_995 : Cond.constantLong RX10 188 1000000000 ∈ ALL := al_mem 995 _ (by decide +kernel) (by decide +kernel)
theorem al_996 : Cond.methodLink RL 73 yX10_told ∈ ALL := al_mem 996 _ (by decide +kernel) (by decide +kernel)
theorem al_997 : Cond.instanceMethod yX10_told ∈ ALL := al_mem 997 _ (by decide +kernel) (by decide +kernel)
theorem al_998 : Cond.selects RX10 yX10_told yX10_told ∈ ALL := al_mem 998 _ (by decide +kernel) (by decide +kernel)
theorem al_999 : Cond.code yX10_told prog_12_method_45_code 4 (Option.some Jvm.ClassFile.FieldType.int) ∈ ALL := al_mem 999 _ (by decide +kernel) (by decide +kernel)
theorem al_1000 : Cond.methodLink RL 77 yX10_about ∈ ALL := al_mem 1000 _ (by decide +kernel) (by decide +kernel)
theorem al_1001 : Cond.instanceMethod yX10_about ∈ ALL := al_mem 1001 _ (by decide +kernel) (by decide +kernel)
theorem al_1002 : Cond.selects RX10 yX10_about yX10_about ∈ ALL := al_mem 1002 _ (by decide +kernel) (by decide +kernel)
theorem al_1003 : Cond.code yX10_about prog_12_method_46_code 3 (Option.some Jvm.ClassFile.FieldType.int) ∈ ALL := al_mem 1003 _ (by decide +kernel) (by decide +kernel)
theorem sl_X9_hasHand : Cond.selects RX9 yX9_hasHand yX9_hasHand ∈ ALL := al_sel (yX9_hasHand, _) (List.mem_of_getElem? (i := 0) (by rfl)) (by decide +kernel)
theorem sl_X9_fits : Cond.selects RX9 yX9_fits yX9_fits ∈ ALL := al_sel (yX9_fits, _) (List.mem_of_getElem? (i := 1) (by rfl)) (by decide +kernel)
theorem sl_X1_lastOfHand : Cond.selects RX1 yX1_lastOfHand yX1_lastOfHand ∈ ALL := al_sel (yX1_lastOfHand, _) (List.mem_of_getElem? (i := 2) (by rfl)) (by decide +kernel)
theorem sl_X1_timeOf : Cond.selects RX1 yX1_timeOf yX1_timeOf ∈ ALL := al_sel (yX1_timeOf, _) (List.mem_of_getElem? (i := 3) (by rfl)) (by decide +kernel)
theorem sl_X1_lengthOf : Cond.selects RX1 yX1_lengthOf yX1_lengthOf ∈ ALL := al_sel (yX1_lengthOf, _) (List.mem_of_getElem? (i := 4) (by rfl)) (by decide +kernel)
theorem sl_X1_add : Cond.selects RX1 yX1_add yX1_add ∈ ALL := al_sel (yX1_add, _) (List.mem_of_getElem? (i := 5) (by rfl)) (by decide +kernel)
theorem sl_X9_forgetAnswers : Cond.selects RX9 yX9_forgetAnswers yX9_forgetAnswers ∈ ALL := al_sel (yX9_forgetAnswers, _) (List.mem_of_getElem? (i := 6) (by rfl)) (by decide +kernel)
theorem sl_X1_boundOf : Cond.selects RX1 yX1_boundOf yX1_boundOf ∈ ALL := al_sel (yX1_boundOf, _) (List.mem_of_getElem? (i := 7) (by rfl)) (by decide +kernel)
theorem sl_X1_setBound : Cond.selects RX1 yX1_setBound yX1_setBound ∈ ALL := al_sel (yX1_setBound, _) (List.mem_of_getElem? (i := 8) (by rfl)) (by decide +kernel)
theorem sl_X1_has : Cond.selects RX1 yX1_has yX1_has ∈ ALL := al_sel (yX1_has, _) (List.mem_of_getElem? (i := 9) (by rfl)) (by decide +kernel)
theorem sl_X1_pinOf : Cond.selects RX1 yX1_pinOf yX1_pinOf ∈ ALL := al_sel (yX1_pinOf, _) (List.mem_of_getElem? (i := 10) (by rfl)) (by decide +kernel)
theorem sl_X1_setPin : Cond.selects RX1 yX1_setPin yX1_setPin ∈ ALL := al_sel (yX1_setPin, _) (List.mem_of_getElem? (i := 11) (by rfl)) (by decide +kernel)
theorem sl_X1_inCompass : Cond.selects RX1 yX1_inCompass yX1_inCompass ∈ ALL := al_sel (yX1_inCompass, _) (List.mem_of_getElem? (i := 12) (by rfl)) (by decide +kernel)
theorem sl_X1_lowestOf : Cond.selects RX1 yX1_lowestOf yX1_lowestOf ∈ ALL := al_sel (yX1_lowestOf, _) (List.mem_of_getElem? (i := 13) (by rfl)) (by decide +kernel)
theorem sl_X1_highestOf : Cond.selects RX1 yX1_highestOf yX1_highestOf ∈ ALL := al_sel (yX1_highestOf, _) (List.mem_of_getElem? (i := 14) (by rfl)) (by decide +kernel)
theorem sl_X1_sizeOf : Cond.selects RX1 yX1_sizeOf yX1_sizeOf ∈ ALL := al_sel (yX1_sizeOf, _) (List.mem_of_getElem? (i := 15) (by rfl)) (by decide +kernel)
theorem sl_X0_stretch : Cond.selects RX0 yX0_stretch yX0_stretch ∈ ALL := al_sel (yX0_stretch, _) (List.mem_of_getElem? (i := 16) (by rfl)) (by decide +kernel)
theorem sl_X0_noteOfFinger : Cond.selects RX0 yX0_noteOfFinger yX0_noteOfFinger ∈ ALL := al_sel (yX0_noteOfFinger, _) (List.mem_of_getElem? (i := 17) (by rfl)) (by decide +kernel)
theorem sl_X1_handOf : Cond.selects RX1 yX1_handOf yX1_handOf ∈ ALL := al_sel (yX1_handOf, _) (List.mem_of_getElem? (i := 18) (by rfl)) (by decide +kernel)
theorem sl_X1_pitchOf : Cond.selects RX1 yX1_pitchOf yX1_pitchOf ∈ ALL := al_sel (yX1_pitchOf, _) (List.mem_of_getElem? (i := 19) (by rfl)) (by decide +kernel)
theorem sl_X0_placeOf : Cond.selects RX0 yX0_placeOf yX0_placeOf ∈ ALL := al_sel (yX0_placeOf, _) (List.mem_of_getElem? (i := 20) (by rfl)) (by decide +kernel)
theorem sl_X5_latestOfTwo : Cond.selects RX5 yX5_latestOfTwo yX5_latestOfTwo ∈ ALL := al_sel (yX5_latestOfTwo, _) (List.mem_of_getElem? (i := 21) (by rfl)) (by decide +kernel)
theorem sl_X5_crossing : Cond.selects RX5 yX5_crossing yX5_crossing ∈ ALL := al_sel (yX5_crossing, _) (List.mem_of_getElem? (i := 22) (by rfl)) (by decide +kernel)
theorem sl_X5_pitchBy : Cond.selects RX5 yX5_pitchBy yX5_pitchBy ∈ ALL := al_sel (yX5_pitchBy, _) (List.mem_of_getElem? (i := 23) (by rfl)) (by decide +kernel)
theorem sl_X6_stops : Cond.selects RX6 yX6_stops yX6_stops ∈ ALL := al_sel (yX6_stops, _) (List.mem_of_getElem? (i := 24) (by rfl)) (by decide +kernel)
theorem sl_X8_earliestBreath : Cond.selects RX8 yX8_earliestBreath yX8_earliestBreath ∈ ALL := al_sel (yX8_earliestBreath, _) (List.mem_of_getElem? (i := 25) (by rfl)) (by decide +kernel)
theorem sl_X9_hasState : Cond.selects RX9 yX9_hasState yX9_hasState ∈ ALL := al_sel (yX9_hasState, _) (List.mem_of_getElem? (i := 26) (by rfl)) (by decide +kernel)
theorem sl_X1_after : Cond.selects RX1 yX1_after yX1_after ∈ ALL := al_sel (yX1_after, _) (List.mem_of_getElem? (i := 27) (by rfl)) (by decide +kernel)
theorem sl_X1_firstOfHand : Cond.selects RX1 yX1_firstOfHand yX1_firstOfHand ∈ ALL := al_sel (yX1_firstOfHand, _) (List.mem_of_getElem? (i := 28) (by rfl)) (by decide +kernel)
theorem sl_X5_lastPlayed : Cond.selects RX5 yX5_lastPlayed yX5_lastPlayed ∈ ALL := al_sel (yX5_lastPlayed, _) (List.mem_of_getElem? (i := 29) (by rfl)) (by decide +kernel)
theorem sl_X8_breathPrice : Cond.selects RX8 yX8_breathPrice yX8_breathPrice ∈ ALL := al_sel (yX8_breathPrice, _) (List.mem_of_getElem? (i := 30) (by rfl)) (by decide +kernel)
theorem sl_X3_firstStuck : Cond.selects RX3 yX3_firstStuck yX3_firstStuck ∈ ALL := al_sel (yX3_firstStuck, _) (List.mem_of_getElem? (i := 31) (by rfl)) (by decide +kernel)
theorem sl_X3_isReached : Cond.selects RX3 yX3_isReached yX3_isReached ∈ ALL := al_sel (yX3_isReached, _) (List.mem_of_getElem? (i := 32) (by rfl)) (by decide +kernel)
theorem sl_X1_before : Cond.selects RX1 yX1_before yX1_before ∈ ALL := al_sel (yX1_before, _) (List.mem_of_getElem? (i := 33) (by rfl)) (by decide +kernel)
theorem sl_X1_allows : Cond.selects RX1 yX1_allows yX1_allows ∈ ALL := al_sel (yX1_allows, _) (List.mem_of_getElem? (i := 34) (by rfl)) (by decide +kernel)
theorem sl_X3_canCome : Cond.selects RX3 yX3_canCome yX3_canCome ∈ ALL := al_sel (yX3_canCome, _) (List.mem_of_getElem? (i := 35) (by rfl)) (by decide +kernel)
theorem sl_X3_painsOf : Cond.selects RX3 yX3_painsOf yX3_painsOf ∈ ALL := al_sel (yX3_painsOf, _) (List.mem_of_getElem? (i := 36) (by rfl)) (by decide +kernel)
theorem sl_X3_setPains : Cond.selects RX3 yX3_setPains yX3_setPains ∈ ALL := al_sel (yX3_setPains, _) (List.mem_of_getElem? (i := 37) (by rfl)) (by decide +kernel)
theorem sl_X3_weighRests : Cond.selects RX3 yX3_weighRests yX3_weighRests ∈ ALL := al_sel (yX3_weighRests, _) (List.mem_of_getElem? (i := 38) (by rfl)) (by decide +kernel)
theorem sl_X3_cheapestOnward : Cond.selects RX3 yX3_cheapestOnward yX3_cheapestOnward ∈ ALL := al_sel (yX3_cheapestOnward, _) (List.mem_of_getElem? (i := 39) (by rfl)) (by decide +kernel)
theorem sl_X3_chooseWay : Cond.selects RX3 yX3_chooseWay yX3_chooseWay ∈ ALL := al_sel (yX3_chooseWay, _) (List.mem_of_getElem? (i := 40) (by rfl)) (by decide +kernel)
theorem sl_X3_bestState : Cond.selects RX3 yX3_bestState yX3_bestState ∈ ALL := al_sel (yX3_bestState, _) (List.mem_of_getElem? (i := 41) (by rfl)) (by decide +kernel)
theorem sl_X3_sumOfChains : Cond.selects RX3 yX3_sumOfChains yX3_sumOfChains ∈ ALL := al_sel (yX3_sumOfChains, _) (List.mem_of_getElem? (i := 42) (by rfl)) (by decide +kernel)
theorem sl_X7_tallyChain : Cond.selects RX7 yX7_tallyChain yX7_tallyChain ∈ ALL := al_sel (yX7_tallyChain, _) (List.mem_of_getElem? (i := 43) (by rfl)) (by decide +kernel)
theorem sl_X7_begin : Cond.selects RX7 yX7_begin yX7_begin ∈ ALL := al_sel (yX7_begin, _) (List.mem_of_getElem? (i := 44) (by rfl)) (by decide +kernel)
theorem sl_X7_advance : Cond.selects RX7 yX7_advance yX7_advance ∈ ALL := al_sel (yX7_advance, _) (List.mem_of_getElem? (i := 45) (by rfl)) (by decide +kernel)
theorem sl_X7_cheapestOf : Cond.selects RX7 yX7_cheapestOf yX7_cheapestOf ∈ ALL := al_sel (yX7_cheapestOf, _) (List.mem_of_getElem? (i := 46) (by rfl)) (by decide +kernel)
theorem sl_X7_dearestOf : Cond.selects RX7 yX7_dearestOf yX7_dearestOf ∈ ALL := al_sel (yX7_dearestOf, _) (List.mem_of_getElem? (i := 47) (by rfl)) (by decide +kernel)
theorem sl_X7_carry : Cond.selects RX7 yX7_carry yX7_carry ∈ ALL := al_sel (yX7_carry, _) (List.mem_of_getElem? (i := 48) (by rfl)) (by decide +kernel)
theorem sl_X7_gather : Cond.selects RX7 yX7_gather yX7_gather ∈ ALL := al_sel (yX7_gather, _) (List.mem_of_getElem? (i := 49) (by rfl)) (by decide +kernel)
theorem sl_X7_join : Cond.selects RX7 yX7_join yX7_join ∈ ALL := al_sel (yX7_join, _) (List.mem_of_getElem? (i := 50) (by rfl)) (by decide +kernel)
theorem sl_X1_countOfHand : Cond.selects RX1 yX1_countOfHand yX1_countOfHand ∈ ALL := al_sel (yX1_countOfHand, _) (List.mem_of_getElem? (i := 51) (by rfl)) (by decide +kernel)
theorem sl_X1_countPinned : Cond.selects RX1 yX1_countPinned yX1_countPinned ∈ ALL := al_sel (yX1_countPinned, _) (List.mem_of_getElem? (i := 52) (by rfl)) (by decide +kernel)
theorem sl_X10_isWell : Cond.selects RX10 yX10_isWell yX10_isWell ∈ ALL := al_sel (yX10_isWell, _) (List.mem_of_getElem? (i := 53) (by rfl)) (by decide +kernel)
theorem sl_X10_before : Cond.selects RX10 yX10_before yX10_before ∈ ALL := al_sel (yX10_before, _) (List.mem_of_getElem? (i := 54) (by rfl)) (by decide +kernel)
theorem sl_X10_find : Cond.selects RX10 yX10_find yX10_find ∈ ALL := al_sel (yX10_find, _) (List.mem_of_getElem? (i := 55) (by rfl)) (by decide +kernel)
theorem sl_X10_findOf : Cond.selects RX10 yX10_findOf yX10_findOf ∈ ALL := al_sel (yX10_findOf, _) (List.mem_of_getElem? (i := 56) (by rfl)) (by decide +kernel)
theorem sl_X10_fingers : Cond.selects RX10 yX10_fingers yX10_fingers ∈ ALL := al_sel (yX10_fingers, _) (List.mem_of_getElem? (i := 57) (by rfl)) (by decide +kernel)
theorem sl_X10_finger : Cond.selects RX10 yX10_finger yX10_finger ∈ ALL := al_sel (yX10_finger, _) (List.mem_of_getElem? (i := 58) (by rfl)) (by decide +kernel)
theorem sl_X10_add : Cond.selects RX10 yX10_add yX10_add ∈ ALL := al_sel (yX10_add, _) (List.mem_of_getElem? (i := 59) (by rfl)) (by decide +kernel)
theorem sl_X10_strings : Cond.selects RX10 yX10_strings yX10_strings ∈ ALL := al_sel (yX10_strings, _) (List.mem_of_getElem? (i := 60) (by rfl)) (by decide +kernel)
theorem sl_X10_breaths : Cond.selects RX10 yX10_breaths yX10_breaths ∈ ALL := al_sel (yX10_breaths, _) (List.mem_of_getElem? (i := 61) (by rfl)) (by decide +kernel)
theorem sl_X10_sticks : Cond.selects RX10 yX10_sticks yX10_sticks ∈ ALL := al_sel (yX10_sticks, _) (List.mem_of_getElem? (i := 62) (by rfl)) (by decide +kernel)
theorem sl_X10_isOther : Cond.selects RX10 yX10_isOther yX10_isOther ∈ ALL := al_sel (yX10_isOther, _) (List.mem_of_getElem? (i := 63) (by rfl)) (by decide +kernel)
theorem sl_X10_played : Cond.selects RX10 yX10_played yX10_played ∈ ALL := al_sel (yX10_played, _) (List.mem_of_getElem? (i := 64) (by rfl)) (by decide +kernel)
theorem sl_X10_noState : Cond.selects RX10 yX10_noState yX10_noState ∈ ALL := al_sel (yX10_noState, _) (List.mem_of_getElem? (i := 65) (by rfl)) (by decide +kernel)
theorem sl_X10_after : Cond.selects RX10 yX10_after yX10_after ∈ ALL := al_sel (yX10_after, _) (List.mem_of_getElem? (i := 66) (by rfl)) (by decide +kernel)
theorem sl_X10_stepOf : Cond.selects RX10 yX10_stepOf yX10_stepOf ∈ ALL := al_sel (yX10_stepOf, _) (List.mem_of_getElem? (i := 67) (by rfl)) (by decide +kernel)
theorem sl_X10_moved : Cond.selects RX10 yX10_moved yX10_moved ∈ ALL := al_sel (yX10_moved, _) (List.mem_of_getElem? (i := 68) (by rfl)) (by decide +kernel)
theorem sl_X10_breathed : Cond.selects RX10 yX10_breathed yX10_breathed ∈ ALL := al_sel (yX10_breathed, _) (List.mem_of_getElem? (i := 69) (by rfl)) (by decide +kernel)
theorem sl_X10_struck : Cond.selects RX10 yX10_struck yX10_struck ∈ ALL := al_sel (yX10_struck, _) (List.mem_of_getElem? (i := 70) (by rfl)) (by decide +kernel)
theorem sl_X10_latest : Cond.selects RX10 yX10_latest yX10_latest ∈ ALL := al_sel (yX10_latest, _) (List.mem_of_getElem? (i := 71) (by rfl)) (by decide +kernel)
theorem sl_X10_reckon : Cond.selects RX10 yX10_reckon yX10_reckon ∈ ALL := al_sel (yX10_reckon, _) (List.mem_of_getElem? (i := 72) (by rfl)) (by decide +kernel)
theorem sl_X10_isLet : Cond.selects RX10 yX10_isLet yX10_isLet ∈ ALL := al_sel (yX10_isLet, _) (List.mem_of_getElem? (i := 73) (by rfl)) (by decide +kernel)
theorem sl_X10_chain : Cond.selects RX10 yX10_chain yX10_chain ∈ ALL := al_sel (yX10_chain, _) (List.mem_of_getElem? (i := 74) (by rfl)) (by decide +kernel)
theorem sl_X10_first : Cond.selects RX10 yX10_first yX10_first ∈ ALL := al_sel (yX10_first, _) (List.mem_of_getElem? (i := 75) (by rfl)) (by decide +kernel)
theorem sl_X10_isOn : Cond.selects RX10 yX10_isOn yX10_isOn ∈ ALL := al_sel (yX10_isOn, _) (List.mem_of_getElem? (i := 76) (by rfl)) (by decide +kernel)
theorem sl_X10_countChain : Cond.selects RX10 yX10_countChain yX10_countChain ∈ ALL := al_sel (yX10_countChain, _) (List.mem_of_getElem? (i := 77) (by rfl)) (by decide +kernel)
theorem sl_X10_beginCounts : Cond.selects RX10 yX10_beginCounts yX10_beginCounts ∈ ALL := al_sel (yX10_beginCounts, _) (List.mem_of_getElem? (i := 78) (by rfl)) (by decide +kernel)
theorem sl_X10_goOn : Cond.selects RX10 yX10_goOn yX10_goOn ∈ ALL := al_sel (yX10_goOn, _) (List.mem_of_getElem? (i := 79) (by rfl)) (by decide +kernel)
theorem uw_X0 : ∀ w ∈ u_ws RX0 TX0 7, w ∈ ALL := by
  have e : u_ws RX0 TX0 7 = ([100, 102, 104, 106, 108, 110, 112] : List Nat).filterMap (fun i => tables_1[i]?) := by decide +kernel
  intro w hw
  have hg : goodWord w = true := List.all_eq_true.mp (show (u_ws RX0 TX0 7).all goodWord = true by decide +kernel) w hw
  rw [e] at hw
  obtain ⟨i, -, hi⟩ := List.mem_filterMap.mp hw
  exact al_mem i w hi hg
theorem uw_X1 : ∀ w ∈ u_ws RX1 TX1 8, w ∈ ALL := by
  have e : u_ws RX1 TX1 8 = ([59, 61, 63, 65, 67, 69, 71, 73] : List Nat).filterMap (fun i => tables_1[i]?) := by decide +kernel
  intro w hw
  have hg : goodWord w = true := List.all_eq_true.mp (show (u_ws RX1 TX1 8).all goodWord = true by decide +kernel) w hw
  rw [e] at hw
  obtain ⟨i, -, hi⟩ := List.mem_filterMap.mp hw
  exact al_mem i w hi hg
theorem uw_X3 : ∀ w ∈ u_ws RX3 TX3 6, w ∈ ALL := by
  have e : u_ws RX3 TX3 6 = ([187, 189, 191, 193, 195, 197] : List Nat).filterMap (fun i => tables_1[i]?) := by decide +kernel
  intro w hw
  have hg : goodWord w = true := List.all_eq_true.mp (show (u_ws RX3 TX3 6).all goodWord = true by decide +kernel) w hw
  rw [e] at hw
  obtain ⟨i, -, hi⟩ := List.mem_filterMap.mp hw
  exact al_mem i w hi hg
theorem uw_X4 : ∀ w ∈ u_ws RX4 TX4 7, w ∈ ALL := by
  have e : u_ws RX4 TX4 7 = ([149, 150, 151, 152, 153, 154, 155] : List Nat).filterMap (fun i => tables_1[i]?) := by decide +kernel
  intro w hw
  have hg : goodWord w = true := List.all_eq_true.mp (show (u_ws RX4 TX4 7).all goodWord = true by decide +kernel) w hw
  rw [e] at hw
  obtain ⟨i, -, hi⟩ := List.mem_filterMap.mp hw
  exact al_mem i w hi hg
theorem uw_X5 : ∀ w ∈ u_ws RX5 TX5 7, w ∈ ALL := by
  have e : u_ws RX5 TX5 7 = ([163, 164, 165, 166, 167, 168, 169] : List Nat).filterMap (fun i => tables_1[i]?) := by decide +kernel
  intro w hw
  have hg : goodWord w = true := List.all_eq_true.mp (show (u_ws RX5 TX5 7).all goodWord = true by decide +kernel) w hw
  rw [e] at hw
  obtain ⟨i, -, hi⟩ := List.mem_filterMap.mp hw
  exact al_mem i w hi hg
theorem uw_X6 : ∀ w ∈ u_ws RX6 TX6 7, w ∈ ALL := by
  have e : u_ws RX6 TX6 7 = ([121, 122, 123, 124, 125, 126, 127] : List Nat).filterMap (fun i => tables_1[i]?) := by decide +kernel
  intro w hw
  have hg : goodWord w = true := List.all_eq_true.mp (show (u_ws RX6 TX6 7).all goodWord = true by decide +kernel) w hw
  rw [e] at hw
  obtain ⟨i, -, hi⟩ := List.mem_filterMap.mp hw
  exact al_mem i w hi hg
theorem uw_X7 : ∀ w ∈ u_ws RX7 TX7 6, w ∈ ALL := by
  have e : u_ws RX7 TX7 6 = ([654, 656, 658, 660, 662, 664] : List Nat).filterMap (fun i => tables_1[i]?) := by decide +kernel
  intro w hw
  have hg : goodWord w = true := List.all_eq_true.mp (show (u_ws RX7 TX7 6).all goodWord = true by decide +kernel) w hw
  rw [e] at hw
  obtain ⟨i, -, hi⟩ := List.mem_filterMap.mp hw
  exact al_mem i w hi hg
theorem uw_X8 : ∀ w ∈ u_ws RX8 TX8 7, w ∈ ALL := by
  have e : u_ws RX8 TX8 7 = ([135, 136, 137, 138, 139, 140, 141] : List Nat).filterMap (fun i => tables_1[i]?) := by decide +kernel
  intro w hw
  have hg : goodWord w = true := List.all_eq_true.mp (show (u_ws RX8 TX8 7).all goodWord = true by decide +kernel) w hw
  rw [e] at hw
  obtain ⟨i, -, hi⟩ := List.mem_filterMap.mp hw
  exact al_mem i w hi hg
theorem uw_X9 : ∀ w ∈ u_ws RX9 TX9 4, w ∈ ALL := by
  have e : u_ws RX9 TX9 4 = ([204, 206, 208, 210] : List Nat).filterMap (fun i => tables_1[i]?) := by decide +kernel
  intro w hw
  have hg : goodWord w = true := List.all_eq_true.mp (show (u_ws RX9 TX9 4).all goodWord = true by decide +kernel) w hw
  rw [e] at hw
  obtain ⟨i, -, hi⟩ := List.mem_filterMap.mp hw
  exact al_mem i w hi hg
theorem uw_X10 : ∀ w ∈ u_ws RX10 TX10 20, w ∈ ALL := by
  have e : u_ws RX10 TX10 20 = ([783, 785, 787, 789, 791, 793, 795, 797, 799, 801, 803, 805, 807, 809, 811, 813, 815, 817, 819, 821] : List Nat).filterMap (fun i => tables_1[i]?) := by decide +kernel
  intro w hw
  have hg : goodWord w = true := List.all_eq_true.mp (show (u_ws RX10 TX10 20).all goodWord = true by decide +kernel) w hw
  rw [e] at hw
  obtain ⟨i, -, hi⟩ := List.mem_filterMap.mp hw
  exact al_mem i w hi hg
end
section
theorem dX0_init_0 : decode cX0_init 0 = .ok (.aload_n 0, 1) := by decide +kernel
theorem dX0_init_1 : decode cX0_init 1 = .ok (.bipush 10, 2) := by decide +kernel
theorem dX0_init_3 : decode cX0_init 3 = .ok (.invokespecial 3, 3) := by decide +kernel
theorem dX0_init_6 : decode cX0_init 6 = .ok (.return_, 1) := by decide +kernel
theorem dX0_listOne_0 : decode cX0_listOne 0 = .ok (.iconst 1, 1) := by decide +kernel
theorem dX0_listOne_1 : decode cX0_listOne 1 = .ok (.istore_n 2, 1) := by decide +kernel
theorem dX0_listOne_2 : decode cX0_listOne 2 = .ok (.iload_n 2, 1) := by decide +kernel
theorem dX0_listOne_3 : decode cX0_listOne 3 = .ok (.bipush 32, 2) := by decide +kernel
theorem dX0_listOne_5 : decode cX0_listOne 5 = .ok (.if_icmp .ge 50, 3) := by decide +kernel
theorem dX0_listOne_8 : decode cX0_listOne 8 = .ok (.iload_n 2, 1) := by decide +kernel
theorem dX0_listOne_9 : decode cX0_listOne 9 = .ok (.invokestatic 11, 3) := by decide +kernel
theorem dX0_listOne_12 : decode cX0_listOne 12 = .ok (.aload_n 0, 1) := by decide +kernel
theorem dX0_listOne_13 : decode cX0_listOne 13 = .ok (.getfield 17, 3) := by decide +kernel
theorem dX0_listOne_16 : decode cX0_listOne 16 = .ok (.iload_n 1, 1) := by decide +kernel
theorem dX0_listOne_17 : decode cX0_listOne 17 = .ok (.invokevirtual 21, 3) := by decide +kernel
theorem dX0_listOne_20 : decode cX0_listOne 20 = .ok (.if_icmp .ne 29, 3) := by decide +kernel
theorem dX0_listOne_23 : decode cX0_listOne 23 = .ok (.aload_n 0, 1) := by decide +kernel
theorem dX0_listOne_24 : decode cX0_listOne 24 = .ok (.iload_n 1, 1) := by decide +kernel
theorem dX0_listOne_25 : decode cX0_listOne 25 = .ok (.iload_n 2, 1) := by decide +kernel
theorem dX0_listOne_26 : decode cX0_listOne 26 = .ok (.invokevirtual 26, 3) := by decide +kernel
theorem dX0_listOne_29 : decode cX0_listOne 29 = .ok (.istore_n 3, 1) := by decide +kernel
theorem dX0_listOne_30 : decode cX0_listOne 30 = .ok (.iload_n 3, 1) := by decide +kernel
theorem dX0_listOne_31 : decode cX0_listOne 31 = .ok (.bipush (-2), 2) := by decide +kernel
theorem dX0_listOne_33 : decode cX0_listOne 33 = .ok (.if_icmp .eq 16, 3) := by decide +kernel
theorem dX0_listOne_36 : decode cX0_listOne 36 = .ok (.aload_n 0, 1) := by decide +kernel
theorem dX0_listOne_37 : decode cX0_listOne 37 = .ok (.iload_n 1, 1) := by decide +kernel
theorem dX0_listOne_38 : decode cX0_listOne 38 = .ok (.iload_n 3, 1) := by decide +kernel
theorem dX0_listOne_39 : decode cX0_listOne 39 = .ok (.iload_n 2, 1) := by decide +kernel
theorem dX0_listOne_40 : decode cX0_listOne 40 = .ok (.aload_n 0, 1) := by decide +kernel
theorem dX0_listOne_41 : decode cX0_listOne 41 = .ok (.iload_n 1, 1) := by decide +kernel
theorem dX0_listOne_42 : decode cX0_listOne 42 = .ok (.iload_n 2, 1) := by decide +kernel
theorem dX0_listOne_43 : decode cX0_listOne 43 = .ok (.invokevirtual 30, 3) := by decide +kernel
theorem dX0_listOne_46 : decode cX0_listOne 46 = .ok (.invokevirtual 33, 3) := by decide +kernel
theorem dX0_listOne_49 : decode cX0_listOne 49 = .ok (.iinc 2 1, 3) := by decide +kernel
theorem dX0_listOne_52 : decode cX0_listOne 52 = .ok (.goto (-50), 3) := by decide +kernel
theorem dX0_listOne_55 : decode cX0_listOne 55 = .ok (.return_, 1) := by decide +kernel
theorem dX0_stretch_0 : decode cX0_stretch 0 = .ok (.iconst 0, 1) := by decide +kernel
theorem dX0_stretch_1 : decode cX0_stretch 1 = .ok (.istore_n 3, 1) := by decide +kernel
theorem dX0_stretch_2 : decode cX0_stretch 2 = .ok (.iload_n 2, 1) := by decide +kernel
theorem dX0_stretch_3 : decode cX0_stretch 3 = .ok (.iconst 0, 1) := by decide +kernel
theorem dX0_stretch_4 : decode cX0_stretch 4 = .ok (.invokestatic 37, 3) := by decide +kernel
theorem dX0_stretch_7 : decode cX0_stretch 7 = .ok (.istore 4, 2) := by decide +kernel
theorem dX0_stretch_9 : decode cX0_stretch 9 = .ok (.iconst 1, 1) := by decide +kernel
theorem dX0_stretch_10 : decode cX0_stretch 10 = .ok (.istore 5, 2) := by decide +kernel
theorem dX0_stretch_12 : decode cX0_stretch 12 = .ok (.iload 5, 2) := by decide +kernel
theorem dX0_stretch_14 : decode cX0_stretch 14 = .ok (.aload_n 0, 1) := by decide +kernel
theorem dX0_stretch_15 : decode cX0_stretch 15 = .ok (.getfield 17, 3) := by decide +kernel
theorem dX0_stretch_18 : decode cX0_stretch 18 = .ok (.iload_n 1, 1) := by decide +kernel
theorem dX0_stretch_19 : decode cX0_stretch 19 = .ok (.invokevirtual 21, 3) := by decide +kernel
theorem dX0_stretch_22 : decode cX0_stretch 22 = .ok (.if_icmp .ge 109, 3) := by decide +kernel
theorem dX0_stretch_25 : decode cX0_stretch 25 = .ok (.iload_n 2, 1) := by decide +kernel
theorem dX0_stretch_26 : decode cX0_stretch 26 = .ok (.iload 4, 2) := by decide +kernel
theorem dX0_stretch_28 : decode cX0_stretch 28 = .ok (.invokestatic 37, 3) := by decide +kernel
theorem dX0_stretch_31 : decode cX0_stretch 31 = .ok (.istore 6, 2) := by decide +kernel
theorem dX0_stretch_33 : decode cX0_stretch 33 = .ok (.iload 6, 2) := by decide +kernel
theorem dX0_stretch_35 : decode cX0_stretch 35 = .ok (.iload 4, 2) := by decide +kernel
theorem dX0_stretch_37 : decode cX0_stretch 37 = .ok (.isub, 1) := by decide +kernel
theorem dX0_stretch_38 : decode cX0_stretch 38 = .ok (.istore 7, 2) := by decide +kernel
theorem dX0_stretch_40 : decode cX0_stretch 40 = .ok (.iload 4, 2) := by decide +kernel
theorem dX0_stretch_42 : decode cX0_stretch 42 = .ok (.iconst 1, 1) := by decide +kernel
theorem dX0_stretch_43 : decode cX0_stretch 43 = .ok (.if_icmp .ne 7, 3) := by decide +kernel
theorem dX0_stretch_46 : decode cX0_stretch 46 = .ok (.iconst 1, 1) := by decide +kernel
theorem dX0_stretch_47 : decode cX0_stretch 47 = .ok (.goto 4, 3) := by decide +kernel
theorem dX0_stretch_50 : decode cX0_stretch 50 = .ok (.iconst 0, 1) := by decide +kernel
theorem dX0_stretch_51 : decode cX0_stretch 51 = .ok (.istore 8, 2) := by decide +kernel
theorem dX0_stretch_53 : decode cX0_stretch 53 = .ok (.aload_n 0, 1) := by decide +kernel
theorem dX0_stretch_54 : decode cX0_stretch 54 = .ok (.iload_n 1, 1) := by decide +kernel
theorem dX0_stretch_55 : decode cX0_stretch 55 = .ok (.iload 5, 2) := by decide +kernel
theorem dX0_stretch_57 : decode cX0_stretch 57 = .ok (.invokevirtual 40, 3) := by decide +kernel
theorem dX0_stretch_60 : decode cX0_stretch 60 = .ok (.aload_n 0, 1) := by decide +kernel
theorem dX0_stretch_61 : decode cX0_stretch 61 = .ok (.iload_n 1, 1) := by decide +kernel
theorem dX0_stretch_62 : decode cX0_stretch 62 = .ok (.iload 5, 2) := by decide +kernel
theorem dX0_stretch_64 : decode cX0_stretch 64 = .ok (.iconst 1, 1) := by decide +kernel
theorem dX0_stretch_65 : decode cX0_stretch 65 = .ok (.isub, 1) := by decide +kernel
theorem dX0_stretch_66 : decode cX0_stretch 66 = .ok (.invokevirtual 40, 3) := by decide +kernel
theorem dX0_stretch_69 : decode cX0_stretch 69 = .ok (.isub, 1) := by decide +kernel
theorem dX0_stretch_70 : decode cX0_stretch 70 = .ok (.invokestatic 43, 3) := by decide +kernel
theorem dX0_stretch_73 : decode cX0_stretch 73 = .ok (.istore 9, 2) := by decide +kernel
theorem dX0_stretch_75 : decode cX0_stretch 75 = .ok (.iload 9, 2) := by decide +kernel
theorem dX0_stretch_77 : decode cX0_stretch 77 = .ok (.iconst 3, 1) := by decide +kernel
theorem dX0_stretch_78 : decode cX0_stretch 78 = .ok (.iload 7, 2) := by decide +kernel
theorem dX0_stretch_80 : decode cX0_stretch 80 = .ok (.imul, 1) := by decide +kernel
theorem dX0_stretch_81 : decode cX0_stretch 81 = .ok (.iconst 4, 1) := by decide +kernel
theorem dX0_stretch_82 : decode cX0_stretch 82 = .ok (.iload 8, 2) := by decide +kernel
theorem dX0_stretch_84 : decode cX0_stretch 84 = .ok (.imul, 1) := by decide +kernel
theorem dX0_stretch_85 : decode cX0_stretch 85 = .ok (.iadd, 1) := by decide +kernel
theorem dX0_stretch_86 : decode cX0_stretch 86 = .ok (.if_icmp .le 6, 3) := by decide +kernel
theorem dX0_stretch_89 : decode cX0_stretch 89 = .ok (.bipush (-2), 2) := by decide +kernel
theorem dX0_stretch_91 : decode cX0_stretch 91 = .ok (.ireturn, 1) := by decide +kernel
theorem dX0_stretch_92 : decode cX0_stretch 92 = .ok (.iload_n 3, 1) := by decide +kernel
theorem dX0_stretch_93 : decode cX0_stretch 93 = .ok (.iconst 0, 1) := by decide +kernel
theorem dX0_stretch_94 : decode cX0_stretch 94 = .ok (.iload 9, 2) := by decide +kernel
theorem dX0_stretch_96 : decode cX0_stretch 96 = .ok (.iconst 2, 1) := by decide +kernel
theorem dX0_stretch_97 : decode cX0_stretch 97 = .ok (.iload 7, 2) := by decide +kernel
theorem dX0_stretch_99 : decode cX0_stretch 99 = .ok (.imul, 1) := by decide +kernel
theorem dX0_stretch_100 : decode cX0_stretch 100 = .ok (.isub, 1) := by decide +kernel
theorem dX0_stretch_101 : decode cX0_stretch 101 = .ok (.iconst 2, 1) := by decide +kernel
theorem dX0_stretch_102 : decode cX0_stretch 102 = .ok (.iload 8, 2) := by decide +kernel
theorem dX0_stretch_104 : decode cX0_stretch 104 = .ok (.imul, 1) := by decide +kernel
theorem dX0_stretch_105 : decode cX0_stretch 105 = .ok (.isub, 1) := by decide +kernel
theorem dX0_stretch_106 : decode cX0_stretch 106 = .ok (.invokestatic 48, 3) := by decide +kernel
theorem dX0_stretch_109 : decode cX0_stretch 109 = .ok (.iconst 0, 1) := by decide +kernel
theorem dX0_stretch_110 : decode cX0_stretch 110 = .ok (.iload 7, 2) := by decide +kernel
theorem dX0_stretch_112 : decode cX0_stretch 112 = .ok (.iload 9, 2) := by decide +kernel
theorem dX0_stretch_114 : decode cX0_stretch 114 = .ok (.isub, 1) := by decide +kernel
theorem dX0_stretch_115 : decode cX0_stretch 115 = .ok (.invokestatic 48, 3) := by decide +kernel
theorem dX0_stretch_118 : decode cX0_stretch 118 = .ok (.iadd, 1) := by decide +kernel
theorem dX0_stretch_119 : decode cX0_stretch 119 = .ok (.iadd, 1) := by decide +kernel
theorem dX0_stretch_120 : decode cX0_stretch 120 = .ok (.istore_n 3, 1) := by decide +kernel
theorem dX0_stretch_121 : decode cX0_stretch 121 = .ok (.iload 6, 2) := by decide +kernel
theorem dX0_stretch_123 : decode cX0_stretch 123 = .ok (.istore 4, 2) := by decide +kernel
theorem dX0_stretch_125 : decode cX0_stretch 125 = .ok (.iinc 5 1, 3) := by decide +kernel
theorem dX0_stretch_128 : decode cX0_stretch 128 = .ok (.goto (-116), 3) := by decide +kernel
theorem dX0_stretch_131 : decode cX0_stretch 131 = .ok (.iload_n 3, 1) := by decide +kernel
theorem dX0_stretch_132 : decode cX0_stretch 132 = .ok (.ireturn, 1) := by decide +kernel
theorem dX0_fingerAbove_0 : decode cX0_fingerAbove 0 = .ok (.iload_n 1, 1) := by decide +kernel
theorem dX0_fingerAbove_1 : decode cX0_fingerAbove 1 = .ok (.iconst 1, 1) := by decide +kernel
theorem dX0_fingerAbove_2 : decode cX0_fingerAbove 2 = .ok (.iadd, 1) := by decide +kernel
theorem dX0_fingerAbove_3 : decode cX0_fingerAbove 3 = .ok (.istore_n 2, 1) := by decide +kernel
theorem dX0_fingerAbove_4 : decode cX0_fingerAbove 4 = .ok (.iload_n 2, 1) := by decide +kernel
theorem dX0_fingerAbove_5 : decode cX0_fingerAbove 5 = .ok (.iconst 5, 1) := by decide +kernel
theorem dX0_fingerAbove_6 : decode cX0_fingerAbove 6 = .ok (.if_icmp .gt 22, 3) := by decide +kernel
theorem dX0_fingerAbove_9 : decode cX0_fingerAbove 9 = .ok (.iload_n 0, 1) := by decide +kernel
theorem dX0_fingerAbove_10 : decode cX0_fingerAbove 10 = .ok (.iload_n 2, 1) := by decide +kernel
theorem dX0_fingerAbove_11 : decode cX0_fingerAbove 11 = .ok (.iconst 1, 1) := by decide +kernel
theorem dX0_fingerAbove_12 : decode cX0_fingerAbove 12 = .ok (.isub, 1) := by decide +kernel
theorem dX0_fingerAbove_13 : decode cX0_fingerAbove 13 = .ok (.ishr, 1) := by decide +kernel
theorem dX0_fingerAbove_14 : decode cX0_fingerAbove 14 = .ok (.iconst 1, 1) := by decide +kernel
theorem dX0_fingerAbove_15 : decode cX0_fingerAbove 15 = .ok (.iand, 1) := by decide +kernel
theorem dX0_fingerAbove_16 : decode cX0_fingerAbove 16 = .ok (.iconst 1, 1) := by decide +kernel
theorem dX0_fingerAbove_17 : decode cX0_fingerAbove 17 = .ok (.if_icmp .ne 5, 3) := by decide +kernel
theorem dX0_fingerAbove_20 : decode cX0_fingerAbove 20 = .ok (.iload_n 2, 1) := by decide +kernel
theorem dX0_fingerAbove_21 : decode cX0_fingerAbove 21 = .ok (.ireturn, 1) := by decide +kernel
theorem dX0_fingerAbove_22 : decode cX0_fingerAbove 22 = .ok (.iinc 2 1, 3) := by decide +kernel
theorem dX0_fingerAbove_25 : decode cX0_fingerAbove 25 = .ok (.goto (-21), 3) := by decide +kernel
theorem dX0_fingerAbove_28 : decode cX0_fingerAbove 28 = .ok (.iconst 5, 1) := by decide +kernel
theorem dX0_fingerAbove_29 : decode cX0_fingerAbove 29 = .ok (.ireturn, 1) := by decide +kernel
theorem dX0_noteOfFinger_0 : decode cX0_noteOfFinger 0 = .ok (.aload_n 0, 1) := by decide +kernel
theorem dX0_noteOfFinger_1 : decode cX0_noteOfFinger 1 = .ok (.getfield 17, 3) := by decide +kernel
theorem dX0_noteOfFinger_4 : decode cX0_noteOfFinger 4 = .ok (.iload_n 1, 1) := by decide +kernel
theorem dX0_noteOfFinger_5 : decode cX0_noteOfFinger 5 = .ok (.aload_n 0, 1) := by decide +kernel
theorem dX0_noteOfFinger_6 : decode cX0_noteOfFinger 6 = .ok (.getfield 17, 3) := by decide +kernel
theorem dX0_noteOfFinger_9 : decode cX0_noteOfFinger 9 = .ok (.iload_n 1, 1) := by decide +kernel
theorem dX0_noteOfFinger_10 : decode cX0_noteOfFinger 10 = .ok (.invokevirtual 51, 3) := by decide +kernel
theorem dX0_noteOfFinger_13 : decode cX0_noteOfFinger 13 = .ok (.iconst 1, 1) := by decide +kernel
theorem dX0_noteOfFinger_14 : decode cX0_noteOfFinger 14 = .ok (.if_icmp .ne 7, 3) := by decide +kernel
theorem dX0_noteOfFinger_17 : decode cX0_noteOfFinger 17 = .ok (.iload_n 2, 1) := by decide +kernel
theorem dX0_noteOfFinger_18 : decode cX0_noteOfFinger 18 = .ok (.goto 15, 3) := by decide +kernel
theorem dX0_noteOfFinger_21 : decode cX0_noteOfFinger 21 = .ok (.aload_n 0, 1) := by decide +kernel
theorem dX0_noteOfFinger_22 : decode cX0_noteOfFinger 22 = .ok (.getfield 17, 3) := by decide +kernel
theorem dX0_noteOfFinger_25 : decode cX0_noteOfFinger 25 = .ok (.iload_n 1, 1) := by decide +kernel
theorem dX0_noteOfFinger_26 : decode cX0_noteOfFinger 26 = .ok (.invokevirtual 21, 3) := by decide +kernel
theorem dX0_noteOfFinger_29 : decode cX0_noteOfFinger 29 = .ok (.iconst 1, 1) := by decide +kernel
theorem dX0_noteOfFinger_30 : decode cX0_noteOfFinger 30 = .ok (.isub, 1) := by decide +kernel
theorem dX0_noteOfFinger_31 : decode cX0_noteOfFinger 31 = .ok (.iload_n 2, 1) := by decide +kernel
theorem dX0_noteOfFinger_32 : decode cX0_noteOfFinger 32 = .ok (.isub, 1) := by decide +kernel
theorem dX0_noteOfFinger_33 : decode cX0_noteOfFinger 33 = .ok (.invokevirtual 54, 3) := by decide +kernel
theorem dX0_noteOfFinger_36 : decode cX0_noteOfFinger 36 = .ok (.ireturn, 1) := by decide +kernel
theorem dX0_placeOf_0 : decode cX0_placeOf 0 = .ok (.iconst 2, 1) := by decide +kernel
theorem dX0_placeOf_1 : decode cX0_placeOf 1 = .ok (.iload_n 2, 1) := by decide +kernel
theorem dX0_placeOf_2 : decode cX0_placeOf 2 = .ok (.iconst 0, 1) := by decide +kernel
theorem dX0_placeOf_3 : decode cX0_placeOf 3 = .ok (.invokestatic 37, 3) := by decide +kernel
theorem dX0_placeOf_6 : decode cX0_placeOf 6 = .ok (.iconst 1, 1) := by decide +kernel
theorem dX0_placeOf_7 : decode cX0_placeOf 7 = .ok (.isub, 1) := by decide +kernel
theorem dX0_placeOf_8 : decode cX0_placeOf 8 = .ok (.imul, 1) := by decide +kernel
theorem dX0_placeOf_9 : decode cX0_placeOf 9 = .ok (.istore_n 3, 1) := by decide +kernel
theorem dX0_placeOf_10 : decode cX0_placeOf 10 = .ok (.aload_n 0, 1) := by decide +kernel
theorem dX0_placeOf_11 : decode cX0_placeOf 11 = .ok (.getfield 17, 3) := by decide +kernel
theorem dX0_placeOf_14 : decode cX0_placeOf 14 = .ok (.iload_n 1, 1) := by decide +kernel
theorem dX0_placeOf_15 : decode cX0_placeOf 15 = .ok (.invokevirtual 51, 3) := by decide +kernel
theorem dX0_placeOf_18 : decode cX0_placeOf 18 = .ok (.iconst 1, 1) := by decide +kernel
theorem dX0_placeOf_19 : decode cX0_placeOf 19 = .ok (.if_icmp .ne 16, 3) := by decide +kernel
theorem dX0_placeOf_22 : decode cX0_placeOf 22 = .ok (.aload_n 0, 1) := by decide +kernel
theorem dX0_placeOf_23 : decode cX0_placeOf 23 = .ok (.getfield 17, 3) := by decide +kernel
theorem dX0_placeOf_26 : decode cX0_placeOf 26 = .ok (.iload_n 1, 1) := by decide +kernel
theorem dX0_placeOf_27 : decode cX0_placeOf 27 = .ok (.invokevirtual 57, 3) := by decide +kernel
theorem dX0_placeOf_30 : decode cX0_placeOf 30 = .ok (.iload_n 3, 1) := by decide +kernel
theorem dX0_placeOf_31 : decode cX0_placeOf 31 = .ok (.isub, 1) := by decide +kernel
theorem dX0_placeOf_32 : decode cX0_placeOf 32 = .ok (.goto 13, 3) := by decide +kernel
theorem dX0_placeOf_35 : decode cX0_placeOf 35 = .ok (.aload_n 0, 1) := by decide +kernel
theorem dX0_placeOf_36 : decode cX0_placeOf 36 = .ok (.getfield 17, 3) := by decide +kernel
theorem dX0_placeOf_39 : decode cX0_placeOf 39 = .ok (.iload_n 1, 1) := by decide +kernel
theorem dX0_placeOf_40 : decode cX0_placeOf 40 = .ok (.invokevirtual 60, 3) := by decide +kernel
theorem dX0_placeOf_43 : decode cX0_placeOf 43 = .ok (.iload_n 3, 1) := by decide +kernel
theorem dX0_placeOf_44 : decode cX0_placeOf 44 = .ok (.iadd, 1) := by decide +kernel
theorem dX0_placeOf_45 : decode cX0_placeOf 45 = .ok (.ireturn, 1) := by decide +kernel
theorem dX0_stepPrice_0 : decode cX0_stepPrice 0 = .ok (.aload_n 0, 1) := by decide +kernel
theorem dX0_stepPrice_1 : decode cX0_stepPrice 1 = .ok (.iload_n 1, 1) := by decide +kernel
theorem dX0_stepPrice_2 : decode cX0_stepPrice 2 = .ok (.iload_n 2, 1) := by decide +kernel
theorem dX0_stepPrice_3 : decode cX0_stepPrice 3 = .ok (.invokevirtual 63, 3) := by decide +kernel
theorem dX0_stepPrice_6 : decode cX0_stepPrice 6 = .ok (.aload_n 0, 1) := by decide +kernel
theorem dX0_stepPrice_7 : decode cX0_stepPrice 7 = .ok (.iload_n 3, 1) := by decide +kernel
theorem dX0_stepPrice_8 : decode cX0_stepPrice 8 = .ok (.iload 4, 2) := by decide +kernel
theorem dX0_stepPrice_10 : decode cX0_stepPrice 10 = .ok (.invokevirtual 63, 3) := by decide +kernel
theorem dX0_stepPrice_13 : decode cX0_stepPrice 13 = .ok (.isub, 1) := by decide +kernel
theorem dX0_stepPrice_14 : decode cX0_stepPrice 14 = .ok (.invokestatic 43, 3) := by decide +kernel
theorem dX0_stepPrice_17 : decode cX0_stepPrice 17 = .ok (.istore 5, 2) := by decide +kernel
theorem dX0_stepPrice_19 : decode cX0_stepPrice 19 = .ok (.aload_n 0, 1) := by decide +kernel
theorem dX0_stepPrice_20 : decode cX0_stepPrice 20 = .ok (.iload 5, 2) := by decide +kernel
theorem dX0_stepPrice_22 : decode cX0_stepPrice 22 = .ok (.iload_n 1, 1) := by decide +kernel
theorem dX0_stepPrice_23 : decode cX0_stepPrice 23 = .ok (.iload_n 3, 1) := by decide +kernel
theorem dX0_stepPrice_24 : decode cX0_stepPrice 24 = .ok (.invokevirtual 66, 3) := by decide +kernel
theorem dX0_stepPrice_27 : decode cX0_stepPrice 27 = .ok (.ifCond .eq 6, 3) := by decide +kernel
theorem dX0_stepPrice_30 : decode cX0_stepPrice 30 = .ok (.bipush (-2), 2) := by decide +kernel
theorem dX0_stepPrice_32 : decode cX0_stepPrice 32 = .ok (.ireturn, 1) := by decide +kernel
theorem dX0_stepPrice_33 : decode cX0_stepPrice 33 = .ok (.aload_n 0, 1) := by decide +kernel
theorem dX0_stepPrice_34 : decode cX0_stepPrice 34 = .ok (.getfield 17, 3) := by decide +kernel
theorem dX0_stepPrice_37 : decode cX0_stepPrice 37 = .ok (.iload_n 1, 1) := by decide +kernel
theorem dX0_stepPrice_38 : decode cX0_stepPrice 38 = .ok (.invokevirtual 21, 3) := by decide +kernel
theorem dX0_stepPrice_41 : decode cX0_stepPrice 41 = .ok (.iconst 1, 1) := by decide +kernel
theorem dX0_stepPrice_42 : decode cX0_stepPrice 42 = .ok (.if_icmp .ne 19, 3) := by decide +kernel
theorem dX0_stepPrice_45 : decode cX0_stepPrice 45 = .ok (.aload_n 0, 1) := by decide +kernel
theorem dX0_stepPrice_46 : decode cX0_stepPrice 46 = .ok (.getfield 17, 3) := by decide +kernel
theorem dX0_stepPrice_49 : decode cX0_stepPrice 49 = .ok (.iload_n 3, 1) := by decide +kernel
theorem dX0_stepPrice_50 : decode cX0_stepPrice 50 = .ok (.invokevirtual 21, 3) := by decide +kernel
theorem dX0_stepPrice_53 : decode cX0_stepPrice 53 = .ok (.iconst 1, 1) := by decide +kernel
theorem dX0_stepPrice_54 : decode cX0_stepPrice 54 = .ok (.if_icmp .ne 7, 3) := by decide +kernel
theorem dX0_stepPrice_57 : decode cX0_stepPrice 57 = .ok (.iconst 1, 1) := by decide +kernel
theorem dX0_stepPrice_58 : decode cX0_stepPrice 58 = .ok (.goto 4, 3) := by decide +kernel
theorem dX0_stepPrice_61 : decode cX0_stepPrice 61 = .ok (.iconst 0, 1) := by decide +kernel
theorem dX0_stepPrice_62 : decode cX0_stepPrice 62 = .ok (.istore 6, 2) := by decide +kernel
theorem dX0_stepPrice_64 : decode cX0_stepPrice 64 = .ok (.iload 6, 2) := by decide +kernel
theorem dX0_stepPrice_66 : decode cX0_stepPrice 66 = .ok (.ifCond .eq 42, 3) := by decide +kernel
theorem dX0_stepPrice_69 : decode cX0_stepPrice 69 = .ok (.aload_n 0, 1) := by decide +kernel
theorem dX0_stepPrice_70 : decode cX0_stepPrice 70 = .ok (.getfield 17, 3) := by decide +kernel
theorem dX0_stepPrice_73 : decode cX0_stepPrice 73 = .ok (.iload_n 1, 1) := by decide +kernel
theorem dX0_stepPrice_74 : decode cX0_stepPrice 74 = .ok (.invokevirtual 57, 3) := by decide +kernel
theorem dX0_stepPrice_77 : decode cX0_stepPrice 77 = .ok (.aload_n 0, 1) := by decide +kernel
theorem dX0_stepPrice_78 : decode cX0_stepPrice 78 = .ok (.getfield 17, 3) := by decide +kernel
theorem dX0_stepPrice_81 : decode cX0_stepPrice 81 = .ok (.iload_n 3, 1) := by decide +kernel
theorem dX0_stepPrice_82 : decode cX0_stepPrice 82 = .ok (.invokevirtual 57, 3) := by decide +kernel
theorem dX0_stepPrice_85 : decode cX0_stepPrice 85 = .ok (.if_icmp .eq 23, 3) := by decide +kernel
theorem dX0_stepPrice_88 : decode cX0_stepPrice 88 = .ok (.aload_n 0, 1) := by decide +kernel
theorem dX0_stepPrice_89 : decode cX0_stepPrice 89 = .ok (.iload_n 1, 1) := by decide +kernel
theorem dX0_stepPrice_90 : decode cX0_stepPrice 90 = .ok (.iload_n 2, 1) := by decide +kernel
theorem dX0_stepPrice_91 : decode cX0_stepPrice 91 = .ok (.invokevirtual 70, 3) := by decide +kernel
theorem dX0_stepPrice_94 : decode cX0_stepPrice 94 = .ok (.aload_n 0, 1) := by decide +kernel
theorem dX0_stepPrice_95 : decode cX0_stepPrice 95 = .ok (.iload_n 3, 1) := by decide +kernel
theorem dX0_stepPrice_96 : decode cX0_stepPrice 96 = .ok (.iload 4, 2) := by decide +kernel
theorem dX0_stepPrice_98 : decode cX0_stepPrice 98 = .ok (.invokevirtual 70, 3) := by decide +kernel
theorem dX0_stepPrice_101 : decode cX0_stepPrice 101 = .ok (.if_icmp .ne 7, 3) := by decide +kernel
theorem dX0_stepPrice_104 : decode cX0_stepPrice 104 = .ok (.iconst 1, 1) := by decide +kernel
theorem dX0_stepPrice_105 : decode cX0_stepPrice 105 = .ok (.goto 4, 3) := by decide +kernel
theorem dX0_stepPrice_108 : decode cX0_stepPrice 108 = .ok (.iconst 0, 1) := by decide +kernel
theorem dX0_stepPrice_109 : decode cX0_stepPrice 109 = .ok (.istore 7, 2) := by decide +kernel
theorem dX0_stepPrice_111 : decode cX0_stepPrice 111 = .ok (.iload 5, 2) := by decide +kernel
theorem dX0_stepPrice_113 : decode cX0_stepPrice 113 = .ok (.iload 7, 2) := by decide +kernel
theorem dX0_stepPrice_115 : decode cX0_stepPrice 115 = .ok (.ifCond .eq 7, 3) := by decide +kernel
theorem dX0_stepPrice_118 : decode cX0_stepPrice 118 = .ok (.iconst 3, 1) := by decide +kernel
theorem dX0_stepPrice_119 : decode cX0_stepPrice 119 = .ok (.goto 4, 3) := by decide +kernel
theorem dX0_stepPrice_122 : decode cX0_stepPrice 122 = .ok (.iconst 0, 1) := by decide +kernel
theorem dX0_stepPrice_123 : decode cX0_stepPrice 123 = .ok (.iadd, 1) := by decide +kernel
theorem dX0_stepPrice_124 : decode cX0_stepPrice 124 = .ok (.ireturn, 1) := by decide +kernel
theorem dX1_init_0 : decode cX1_init 0 = .ok (.aload_n 0, 1) := by decide +kernel
theorem dX1_init_1 : decode cX1_init 1 = .ok (.invokespecial 3, 3) := by decide +kernel
theorem dX1_init_4 : decode cX1_init 4 = .ok (.aload_n 0, 1) := by decide +kernel
theorem dX1_init_5 : decode cX1_init 5 = .ok (.bipush 10, 2) := by decide +kernel
theorem dX1_init_7 : decode cX1_init 7 = .ok (.newarray .int, 2) := by decide +kernel
theorem dX1_init_9 : decode cX1_init 9 = .ok (.dup, 1) := by decide +kernel
theorem dX1_init_10 : decode cX1_init 10 = .ok (.iconst 0, 1) := by decide +kernel
theorem dX1_init_11 : decode cX1_init 11 = .ok (.bipush 10, 2) := by decide +kernel
theorem dX1_init_13 : decode cX1_init 13 = .ok (.iastore, 1) := by decide +kernel
theorem dX1_init_14 : decode cX1_init 14 = .ok (.dup, 1) := by decide +kernel
theorem dX1_init_15 : decode cX1_init 15 = .ok (.iconst 1, 1) := by decide +kernel
theorem dX1_init_16 : decode cX1_init 16 = .ok (.sipush 400, 3) := by decide +kernel
theorem dX1_init_19 : decode cX1_init 19 = .ok (.iastore, 1) := by decide +kernel
theorem dX1_init_20 : decode cX1_init 20 = .ok (.dup, 1) := by decide +kernel
theorem dX1_init_21 : decode cX1_init 21 = .ok (.iconst 2, 1) := by decide +kernel
theorem dX1_init_22 : decode cX1_init 22 = .ok (.bipush 30, 2) := by decide +kernel
theorem dX1_init_24 : decode cX1_init 24 = .ok (.iastore, 1) := by decide +kernel
theorem dX1_init_25 : decode cX1_init 25 = .ok (.dup, 1) := by decide +kernel
theorem dX1_init_26 : decode cX1_init 26 = .ok (.iconst 3, 1) := by decide +kernel
theorem dX1_init_27 : decode cX1_init 27 = .ok (.iconst 0, 1) := by decide +kernel
theorem dX1_init_28 : decode cX1_init 28 = .ok (.iastore, 1) := by decide +kernel
theorem dX1_init_29 : decode cX1_init 29 = .ok (.dup, 1) := by decide +kernel
theorem dX1_init_30 : decode cX1_init 30 = .ok (.iconst 4, 1) := by decide +kernel
theorem dX1_init_31 : decode cX1_init 31 = .ok (.bipush 127, 2) := by decide +kernel
theorem dX1_init_33 : decode cX1_init 33 = .ok (.iastore, 1) := by decide +kernel
theorem dX1_init_34 : decode cX1_init 34 = .ok (.dup, 1) := by decide +kernel
theorem dX1_init_35 : decode cX1_init 35 = .ok (.iconst 5, 1) := by decide +kernel
theorem dX1_init_36 : decode cX1_init 36 = .ok (.bipush 34, 2) := by decide +kernel
theorem dX1_init_38 : decode cX1_init 38 = .ok (.iastore, 1) := by decide +kernel
theorem dX1_init_39 : decode cX1_init 39 = .ok (.dup, 1) := by decide +kernel
theorem dX1_init_40 : decode cX1_init 40 = .ok (.bipush 6, 2) := by decide +kernel
theorem dX1_init_42 : decode cX1_init 42 = .ok (.bipush 55, 2) := by decide +kernel
theorem dX1_init_44 : decode cX1_init 44 = .ok (.iastore, 1) := by decide +kernel
theorem dX1_init_45 : decode cX1_init 45 = .ok (.dup, 1) := by decide +kernel
theorem dX1_init_46 : decode cX1_init 46 = .ok (.bipush 7, 2) := by decide +kernel
theorem dX1_init_48 : decode cX1_init 48 = .ok (.bipush 62, 2) := by decide +kernel
theorem dX1_init_50 : decode cX1_init 50 = .ok (.iastore, 1) := by decide +kernel
theorem dX1_init_51 : decode cX1_init 51 = .ok (.dup, 1) := by decide +kernel
theorem dX1_init_52 : decode cX1_init 52 = .ok (.bipush 8, 2) := by decide +kernel
theorem dX1_init_54 : decode cX1_init 54 = .ok (.bipush 69, 2) := by decide +kernel
theorem dX1_init_56 : decode cX1_init 56 = .ok (.iastore, 1) := by decide +kernel
theorem dX1_init_57 : decode cX1_init 57 = .ok (.dup, 1) := by decide +kernel
theorem dX1_init_58 : decode cX1_init 58 = .ok (.bipush 9, 2) := by decide +kernel
theorem dX1_init_60 : decode cX1_init 60 = .ok (.bipush 76, 2) := by decide +kernel
theorem dX1_init_62 : decode cX1_init 62 = .ok (.iastore, 1) := by decide +kernel
theorem dX1_init_63 : decode cX1_init 63 = .ok (.putfield 9, 3) := by decide +kernel
theorem dX1_init_66 : decode cX1_init 66 = .ok (.aload_n 0, 1) := by decide +kernel
theorem dX1_init_67 : decode cX1_init 67 = .ok (.bipush 40, 2) := by decide +kernel
theorem dX1_init_69 : decode cX1_init 69 = .ok (.newarray .int, 2) := by decide +kernel
theorem dX1_init_71 : decode cX1_init 71 = .ok (.putfield 15, 3) := by decide +kernel
theorem dX1_init_74 : decode cX1_init 74 = .ok (.aload_n 0, 1) := by decide +kernel
theorem dX1_init_75 : decode cX1_init 75 = .ok (.bipush 40, 2) := by decide +kernel
theorem dX1_init_77 : decode cX1_init 77 = .ok (.newarray .int, 2) := by decide +kernel
theorem dX1_init_79 : decode cX1_init 79 = .ok (.putfield 18, 3) := by decide +kernel
theorem dX1_init_82 : decode cX1_init 82 = .ok (.aload_n 0, 1) := by decide +kernel
theorem dX1_init_83 : decode cX1_init 83 = .ok (.bipush 40, 2) := by decide +kernel
theorem dX1_init_85 : decode cX1_init 85 = .ok (.newarray .int, 2) := by decide +kernel
theorem dX1_init_87 : decode cX1_init 87 = .ok (.putfield 21, 3) := by decide +kernel
theorem dX1_init_90 : decode cX1_init 90 = .ok (.aload_n 0, 1) := by decide +kernel
theorem dX1_init_91 : decode cX1_init 91 = .ok (.bipush 40, 2) := by decide +kernel
theorem dX1_init_93 : decode cX1_init 93 = .ok (.newarray .int, 2) := by decide +kernel
theorem dX1_init_95 : decode cX1_init 95 = .ok (.putfield 24, 3) := by decide +kernel
theorem dX1_init_98 : decode cX1_init 98 = .ok (.aload_n 0, 1) := by decide +kernel
theorem dX1_init_99 : decode cX1_init 99 = .ok (.bipush 40, 2) := by decide +kernel
theorem dX1_init_101 : decode cX1_init 101 = .ok (.newarray .int, 2) := by decide +kernel
theorem dX1_init_103 : decode cX1_init 103 = .ok (.putfield 27, 3) := by decide +kernel
theorem dX1_init_106 : decode cX1_init 106 = .ok (.aload_n 0, 1) := by decide +kernel
theorem dX1_init_107 : decode cX1_init 107 = .ok (.bipush 120, 2) := by decide +kernel
theorem dX1_init_109 : decode cX1_init 109 = .ok (.newarray .int, 2) := by decide +kernel
theorem dX1_init_111 : decode cX1_init 111 = .ok (.putfield 30, 3) := by decide +kernel
theorem dX1_init_114 : decode cX1_init 114 = .ok (.aload_n 0, 1) := by decide +kernel
theorem dX1_init_115 : decode cX1_init 115 = .ok (.iconst 0, 1) := by decide +kernel
theorem dX1_init_116 : decode cX1_init 116 = .ok (.putfield 33, 3) := by decide +kernel
theorem dX1_init_119 : decode cX1_init 119 = .ok (.return_, 1) := by decide +kernel
theorem dX1_howMany_0 : decode cX1_howMany 0 = .ok (.iload_n 0, 1) := by decide +kernel
theorem dX1_howMany_1 : decode cX1_howMany 1 = .ok (.ifCond .lt 9, 3) := by decide +kernel
theorem dX1_howMany_4 : decode cX1_howMany 4 = .ok (.iload_n 0, 1) := by decide +kernel
theorem dX1_howMany_5 : decode cX1_howMany 5 = .ok (.bipush 127, 2) := by decide +kernel
theorem dX1_howMany_7 : decode cX1_howMany 7 = .ok (.if_icmp .le 5, 3) := by decide +kernel
theorem dX1_howMany_10 : decode cX1_howMany 10 = .ok (.iconst 0, 1) := by decide +kernel
theorem dX1_howMany_11 : decode cX1_howMany 11 = .ok (.ireturn, 1) := by decide +kernel
theorem dX1_howMany_12 : decode cX1_howMany 12 = .ok (.iload_n 1, 1) := by decide +kernel
theorem dX1_howMany_13 : decode cX1_howMany 13 = .ok (.iconst (-1), 1) := by decide +kernel
theorem dX1_howMany_14 : decode cX1_howMany 14 = .ok (.if_icmp .ne 14, 3) := by decide +kernel
theorem dX1_howMany_17 : decode cX1_howMany 17 = .ok (.iload_n 2, 1) := by decide +kernel
theorem dX1_howMany_18 : decode cX1_howMany 18 = .ok (.iconst (-1), 1) := by decide +kernel
theorem dX1_howMany_19 : decode cX1_howMany 19 = .ok (.if_icmp .ne 7, 3) := by decide +kernel
theorem dX1_howMany_22 : decode cX1_howMany 22 = .ok (.iconst 1, 1) := by decide +kernel
theorem dX1_howMany_23 : decode cX1_howMany 23 = .ok (.goto 4, 3) := by decide +kernel
theorem dX1_howMany_26 : decode cX1_howMany 26 = .ok (.iconst 0, 1) := by decide +kernel
theorem dX1_howMany_27 : decode cX1_howMany 27 = .ok (.ireturn, 1) := by decide +kernel
theorem dX1_howMany_28 : decode cX1_howMany 28 = .ok (.iload_n 1, 1) := by decide +kernel
theorem dX1_howMany_29 : decode cX1_howMany 29 = .ok (.iload_n 0, 1) := by decide +kernel
theorem dX1_howMany_30 : decode cX1_howMany 30 = .ok (.if_icmp .le 9, 3) := by decide +kernel
theorem dX1_howMany_33 : decode cX1_howMany 33 = .ok (.iload_n 1, 1) := by decide +kernel
theorem dX1_howMany_34 : decode cX1_howMany 34 = .ok (.bipush 127, 2) := by decide +kernel
theorem dX1_howMany_36 : decode cX1_howMany 36 = .ok (.if_icmp .le 5, 3) := by decide +kernel
theorem dX1_howMany_39 : decode cX1_howMany 39 = .ok (.iconst 0, 1) := by decide +kernel
theorem dX1_howMany_40 : decode cX1_howMany 40 = .ok (.ireturn, 1) := by decide +kernel
theorem dX1_howMany_41 : decode cX1_howMany 41 = .ok (.iload_n 2, 1) := by decide +kernel
theorem dX1_howMany_42 : decode cX1_howMany 42 = .ok (.iconst (-1), 1) := by decide +kernel
theorem dX1_howMany_43 : decode cX1_howMany 43 = .ok (.if_icmp .ne 5, 3) := by decide +kernel
theorem dX1_howMany_46 : decode cX1_howMany 46 = .ok (.iconst 2, 1) := by decide +kernel
theorem dX1_howMany_47 : decode cX1_howMany 47 = .ok (.ireturn, 1) := by decide +kernel
theorem dX1_howMany_48 : decode cX1_howMany 48 = .ok (.iload_n 2, 1) := by decide +kernel
theorem dX1_howMany_49 : decode cX1_howMany 49 = .ok (.iload_n 1, 1) := by decide +kernel
theorem dX1_howMany_50 : decode cX1_howMany 50 = .ok (.if_icmp .le 13, 3) := by decide +kernel
theorem dX1_howMany_53 : decode cX1_howMany 53 = .ok (.iload_n 2, 1) := by decide +kernel
theorem dX1_howMany_54 : decode cX1_howMany 54 = .ok (.bipush 127, 2) := by decide +kernel
theorem dX1_howMany_56 : decode cX1_howMany 56 = .ok (.if_icmp .gt 7, 3) := by decide +kernel
theorem dX1_howMany_59 : decode cX1_howMany 59 = .ok (.iconst 3, 1) := by decide +kernel
theorem dX1_howMany_60 : decode cX1_howMany 60 = .ok (.goto 4, 3) := by decide +kernel
theorem dX1_howMany_63 : decode cX1_howMany 63 = .ok (.iconst 0, 1) := by decide +kernel
theorem dX1_howMany_64 : decode cX1_howMany 64 = .ok (.ireturn, 1) := by decide +kernel
theorem dX1_add_0 : decode cX1_add 0 = .ok (.aload_n 0, 1) := by decide +kernel
theorem dX1_add_1 : decode cX1_add 1 = .ok (.getfield 33, 3) := by decide +kernel
theorem dX1_add_4 : decode cX1_add 4 = .ok (.ifCond .lt 12, 3) := by decide +kernel
theorem dX1_add_7 : decode cX1_add 7 = .ok (.aload_n 0, 1) := by decide +kernel
theorem dX1_add_8 : decode cX1_add 8 = .ok (.getfield 33, 3) := by decide +kernel
theorem dX1_add_11 : decode cX1_add 11 = .ok (.bipush 40, 2) := by decide +kernel
theorem dX1_add_13 : decode cX1_add 13 = .ok (.if_icmp .lt 4, 3) := by decide +kernel
theorem dX1_add_16 : decode cX1_add 16 = .ok (.return_, 1) := by decide +kernel
theorem dX1_add_17 : decode cX1_add 17 = .ok (.aload_n 0, 1) := by decide +kernel
theorem dX1_add_18 : decode cX1_add 18 = .ok (.getfield 15, 3) := by decide +kernel
theorem dX1_add_21 : decode cX1_add 21 = .ok (.aload_n 0, 1) := by decide +kernel
theorem dX1_add_22 : decode cX1_add 22 = .ok (.getfield 33, 3) := by decide +kernel
theorem dX1_add_25 : decode cX1_add 25 = .ok (.iload_n 1, 1) := by decide +kernel
theorem dX1_add_26 : decode cX1_add 26 = .ok (.iastore, 1) := by decide +kernel
theorem dX1_add_27 : decode cX1_add 27 = .ok (.aload_n 0, 1) := by decide +kernel
theorem dX1_add_28 : decode cX1_add 28 = .ok (.getfield 18, 3) := by decide +kernel
theorem dX1_add_31 : decode cX1_add 31 = .ok (.aload_n 0, 1) := by decide +kernel
theorem dX1_add_32 : decode cX1_add 32 = .ok (.getfield 33, 3) := by decide +kernel
theorem dX1_add_35 : decode cX1_add 35 = .ok (.iload_n 2, 1) := by decide +kernel
theorem dX1_add_36 : decode cX1_add 36 = .ok (.iastore, 1) := by decide +kernel
theorem dX1_add_37 : decode cX1_add 37 = .ok (.aload_n 0, 1) := by decide +kernel
theorem dX1_add_38 : decode cX1_add 38 = .ok (.getfield 21, 3) := by decide +kernel
theorem dX1_add_41 : decode cX1_add 41 = .ok (.aload_n 0, 1) := by decide +kernel
theorem dX1_add_42 : decode cX1_add 42 = .ok (.getfield 33, 3) := by decide +kernel
theorem dX1_add_45 : decode cX1_add 45 = .ok (.iload_n 3, 1) := by decide +kernel
theorem dX1_add_46 : decode cX1_add 46 = .ok (.iastore, 1) := by decide +kernel
theorem dX1_add_47 : decode cX1_add 47 = .ok (.aload_n 0, 1) := by decide +kernel
theorem dX1_add_48 : decode cX1_add 48 = .ok (.getfield 24, 3) := by decide +kernel
theorem dX1_add_51 : decode cX1_add 51 = .ok (.aload_n 0, 1) := by decide +kernel
theorem dX1_add_52 : decode cX1_add 52 = .ok (.getfield 33, 3) := by decide +kernel
theorem dX1_add_55 : decode cX1_add 55 = .ok (.iload 4, 2) := by decide +kernel
theorem dX1_add_57 : decode cX1_add 57 = .ok (.iload 5, 2) := by decide +kernel
theorem dX1_add_59 : decode cX1_add 59 = .ok (.iload 6, 2) := by decide +kernel
theorem dX1_add_61 : decode cX1_add 61 = .ok (.invokestatic 37, 3) := by decide +kernel
theorem dX1_add_64 : decode cX1_add 64 = .ok (.iastore, 1) := by decide +kernel
theorem dX1_add_65 : decode cX1_add 65 = .ok (.aload_n 0, 1) := by decide +kernel
theorem dX1_add_66 : decode cX1_add 66 = .ok (.getfield 27, 3) := by decide +kernel
theorem dX1_add_69 : decode cX1_add 69 = .ok (.aload_n 0, 1) := by decide +kernel
theorem dX1_add_70 : decode cX1_add 70 = .ok (.getfield 33, 3) := by decide +kernel
theorem dX1_add_73 : decode cX1_add 73 = .ok (.bipush (-2), 2) := by decide +kernel
theorem dX1_add_75 : decode cX1_add 75 = .ok (.iastore, 1) := by decide +kernel
theorem dX1_add_76 : decode cX1_add 76 = .ok (.aload_n 0, 1) := by decide +kernel
theorem dX1_add_77 : decode cX1_add 77 = .ok (.getfield 30, 3) := by decide +kernel
theorem dX1_add_80 : decode cX1_add 80 = .ok (.aload_n 0, 1) := by decide +kernel
theorem dX1_add_81 : decode cX1_add 81 = .ok (.getfield 33, 3) := by decide +kernel
theorem dX1_add_84 : decode cX1_add 84 = .ok (.iconst 3, 1) := by decide +kernel
theorem dX1_add_85 : decode cX1_add 85 = .ok (.imul, 1) := by decide +kernel
theorem dX1_add_86 : decode cX1_add 86 = .ok (.iload 4, 2) := by decide +kernel
theorem dX1_add_88 : decode cX1_add 88 = .ok (.iastore, 1) := by decide +kernel
theorem dX1_add_89 : decode cX1_add 89 = .ok (.aload_n 0, 1) := by decide +kernel
theorem dX1_add_90 : decode cX1_add 90 = .ok (.getfield 30, 3) := by decide +kernel
theorem dX1_add_93 : decode cX1_add 93 = .ok (.aload_n 0, 1) := by decide +kernel
theorem dX1_add_94 : decode cX1_add 94 = .ok (.getfield 33, 3) := by decide +kernel
theorem dX1_add_97 : decode cX1_add 97 = .ok (.iconst 3, 1) := by decide +kernel
theorem dX1_add_98 : decode cX1_add 98 = .ok (.imul, 1) := by decide +kernel
theorem dX1_add_99 : decode cX1_add 99 = .ok (.iconst 1, 1) := by decide +kernel
theorem dX1_add_100 : decode cX1_add 100 = .ok (.iadd, 1) := by decide +kernel
theorem dX1_add_101 : decode cX1_add 101 = .ok (.iload 5, 2) := by decide +kernel
theorem dX1_add_103 : decode cX1_add 103 = .ok (.iastore, 1) := by decide +kernel
theorem dX1_add_104 : decode cX1_add 104 = .ok (.aload_n 0, 1) := by decide +kernel
theorem dX1_add_105 : decode cX1_add 105 = .ok (.getfield 30, 3) := by decide +kernel
theorem dX1_add_108 : decode cX1_add 108 = .ok (.aload_n 0, 1) := by decide +kernel
theorem dX1_add_109 : decode cX1_add 109 = .ok (.getfield 33, 3) := by decide +kernel
theorem dX1_add_112 : decode cX1_add 112 = .ok (.iconst 3, 1) := by decide +kernel
theorem dX1_add_113 : decode cX1_add 113 = .ok (.imul, 1) := by decide +kernel
theorem dX1_add_114 : decode cX1_add 114 = .ok (.iconst 2, 1) := by decide +kernel
theorem dX1_add_115 : decode cX1_add 115 = .ok (.iadd, 1) := by decide +kernel
theorem dX1_add_116 : decode cX1_add 116 = .ok (.iload 6, 2) := by decide +kernel
theorem dX1_add_118 : decode cX1_add 118 = .ok (.iastore, 1) := by decide +kernel
theorem dX1_add_119 : decode cX1_add 119 = .ok (.aload_n 0, 1) := by decide +kernel
theorem dX1_add_120 : decode cX1_add 120 = .ok (.dup, 1) := by decide +kernel
theorem dX1_add_121 : decode cX1_add 121 = .ok (.getfield 33, 3) := by decide +kernel
theorem dX1_add_124 : decode cX1_add 124 = .ok (.iconst 1, 1) := by decide +kernel
theorem dX1_add_125 : decode cX1_add 125 = .ok (.iadd, 1) := by decide +kernel
theorem dX1_add_126 : decode cX1_add 126 = .ok (.putfield 33, 3) := by decide +kernel
theorem dX1_add_129 : decode cX1_add 129 = .ok (.return_, 1) := by decide +kernel
theorem dX1_has_0 : decode cX1_has 0 = .ok (.iload_n 1, 1) := by decide +kernel
theorem dX1_has_1 : decode cX1_has 1 = .ok (.ifCond .lt 15, 3) := by decide +kernel
theorem dX1_has_4 : decode cX1_has 4 = .ok (.iload_n 1, 1) := by decide +kernel
theorem dX1_has_5 : decode cX1_has 5 = .ok (.aload_n 0, 1) := by decide +kernel
theorem dX1_has_6 : decode cX1_has 6 = .ok (.getfield 33, 3) := by decide +kernel
theorem dX1_has_9 : decode cX1_has 9 = .ok (.if_icmp .ge 7, 3) := by decide +kernel
theorem dX1_has_12 : decode cX1_has 12 = .ok (.iconst 1, 1) := by decide +kernel
theorem dX1_has_13 : decode cX1_has 13 = .ok (.goto 4, 3) := by decide +kernel
theorem dX1_has_16 : decode cX1_has 16 = .ok (.iconst 0, 1) := by decide +kernel
theorem dX1_has_17 : decode cX1_has 17 = .ok (.ireturn, 1) := by decide +kernel
theorem dX1_boundOf_0 : decode cX1_boundOf 0 = .ok (.iload_n 1, 1) := by decide +kernel
theorem dX1_boundOf_1 : decode cX1_boundOf 1 = .ok (.ifCond .lt 21, 3) := by decide +kernel
theorem dX1_boundOf_4 : decode cX1_boundOf 4 = .ok (.iload_n 1, 1) := by decide +kernel
theorem dX1_boundOf_5 : decode cX1_boundOf 5 = .ok (.aload_n 0, 1) := by decide +kernel
theorem dX1_boundOf_6 : decode cX1_boundOf 6 = .ok (.getfield 9, 3) := by decide +kernel
theorem dX1_boundOf_9 : decode cX1_boundOf 9 = .ok (.arraylength, 1) := by decide +kernel
theorem dX1_boundOf_10 : decode cX1_boundOf 10 = .ok (.if_icmp .ge 12, 3) := by decide +kernel
theorem dX1_boundOf_13 : decode cX1_boundOf 13 = .ok (.aload_n 0, 1) := by decide +kernel
theorem dX1_boundOf_14 : decode cX1_boundOf 14 = .ok (.getfield 9, 3) := by decide +kernel
theorem dX1_boundOf_17 : decode cX1_boundOf 17 = .ok (.iload_n 1, 1) := by decide +kernel
theorem dX1_boundOf_18 : decode cX1_boundOf 18 = .ok (.iaload, 1) := by decide +kernel
theorem dX1_boundOf_19 : decode cX1_boundOf 19 = .ok (.goto 4, 3) := by decide +kernel
theorem dX1_boundOf_22 : decode cX1_boundOf 22 = .ok (.iconst 0, 1) := by decide +kernel
theorem dX1_boundOf_23 : decode cX1_boundOf 23 = .ok (.ireturn, 1) := by decide +kernel
theorem dX1_setBound_0 : decode cX1_setBound 0 = .ok (.iload_n 1, 1) := by decide +kernel
theorem dX1_setBound_1 : decode cX1_setBound 1 = .ok (.ifCond .lt 19, 3) := by decide +kernel
theorem dX1_setBound_4 : decode cX1_setBound 4 = .ok (.iload_n 1, 1) := by decide +kernel
theorem dX1_setBound_5 : decode cX1_setBound 5 = .ok (.aload_n 0, 1) := by decide +kernel
theorem dX1_setBound_6 : decode cX1_setBound 6 = .ok (.getfield 9, 3) := by decide +kernel
theorem dX1_setBound_9 : decode cX1_setBound 9 = .ok (.arraylength, 1) := by decide +kernel
theorem dX1_setBound_10 : decode cX1_setBound 10 = .ok (.if_icmp .ge 10, 3) := by decide +kernel
theorem dX1_setBound_13 : decode cX1_setBound 13 = .ok (.aload_n 0, 1) := by decide +kernel
theorem dX1_setBound_14 : decode cX1_setBound 14 = .ok (.getfield 9, 3) := by decide +kernel
theorem dX1_setBound_17 : decode cX1_setBound 17 = .ok (.iload_n 1, 1) := by decide +kernel
theorem dX1_setBound_18 : decode cX1_setBound 18 = .ok (.iload_n 2, 1) := by decide +kernel
theorem dX1_setBound_19 : decode cX1_setBound 19 = .ok (.iastore, 1) := by decide +kernel
theorem dX1_setBound_20 : decode cX1_setBound 20 = .ok (.return_, 1) := by decide +kernel
theorem dX1_handOf_0 : decode cX1_handOf 0 = .ok (.iload_n 1, 1) := by decide +kernel
theorem dX1_handOf_1 : decode cX1_handOf 1 = .ok (.ifCond .lt 20, 3) := by decide +kernel
theorem dX1_handOf_4 : decode cX1_handOf 4 = .ok (.iload_n 1, 1) := by decide +kernel
theorem dX1_handOf_5 : decode cX1_handOf 5 = .ok (.aload_n 0, 1) := by decide +kernel
theorem dX1_handOf_6 : decode cX1_handOf 6 = .ok (.getfield 33, 3) := by decide +kernel
theorem dX1_handOf_9 : decode cX1_handOf 9 = .ok (.if_icmp .ge 12, 3) := by decide +kernel
theorem dX1_handOf_12 : decode cX1_handOf 12 = .ok (.aload_n 0, 1) := by decide +kernel
theorem dX1_handOf_13 : decode cX1_handOf 13 = .ok (.getfield 15, 3) := by decide +kernel
theorem dX1_handOf_16 : decode cX1_handOf 16 = .ok (.iload_n 1, 1) := by decide +kernel
theorem dX1_handOf_17 : decode cX1_handOf 17 = .ok (.iaload, 1) := by decide +kernel
theorem dX1_handOf_18 : decode cX1_handOf 18 = .ok (.goto 4, 3) := by decide +kernel
theorem dX1_handOf_21 : decode cX1_handOf 21 = .ok (.iconst 0, 1) := by decide +kernel
theorem dX1_handOf_22 : decode cX1_handOf 22 = .ok (.ireturn, 1) := by decide +kernel
theorem dX1_timeOf_0 : decode cX1_timeOf 0 = .ok (.iload_n 1, 1) := by decide +kernel
theorem dX1_timeOf_1 : decode cX1_timeOf 1 = .ok (.ifCond .lt 20, 3) := by decide +kernel
theorem dX1_timeOf_4 : decode cX1_timeOf 4 = .ok (.iload_n 1, 1) := by decide +kernel
theorem dX1_timeOf_5 : decode cX1_timeOf 5 = .ok (.aload_n 0, 1) := by decide +kernel
theorem dX1_timeOf_6 : decode cX1_timeOf 6 = .ok (.getfield 33, 3) := by decide +kernel
theorem dX1_timeOf_9 : decode cX1_timeOf 9 = .ok (.if_icmp .ge 12, 3) := by decide +kernel
theorem dX1_timeOf_12 : decode cX1_timeOf 12 = .ok (.aload_n 0, 1) := by decide +kernel
theorem dX1_timeOf_13 : decode cX1_timeOf 13 = .ok (.getfield 18, 3) := by decide +kernel
theorem dX1_timeOf_16 : decode cX1_timeOf 16 = .ok (.iload_n 1, 1) := by decide +kernel
theorem dX1_timeOf_17 : decode cX1_timeOf 17 = .ok (.iaload, 1) := by decide +kernel
theorem dX1_timeOf_18 : decode cX1_timeOf 18 = .ok (.goto 4, 3) := by decide +kernel
theorem dX1_timeOf_21 : decode cX1_timeOf 21 = .ok (.iconst 0, 1) := by decide +kernel
theorem dX1_timeOf_22 : decode cX1_timeOf 22 = .ok (.ireturn, 1) := by decide +kernel
theorem dX1_lengthOf_0 : decode cX1_lengthOf 0 = .ok (.iload_n 1, 1) := by decide +kernel
theorem dX1_lengthOf_1 : decode cX1_lengthOf 1 = .ok (.ifCond .lt 20, 3) := by decide +kernel
theorem dX1_lengthOf_4 : decode cX1_lengthOf 4 = .ok (.iload_n 1, 1) := by decide +kernel
theorem dX1_lengthOf_5 : decode cX1_lengthOf 5 = .ok (.aload_n 0, 1) := by decide +kernel
theorem dX1_lengthOf_6 : decode cX1_lengthOf 6 = .ok (.getfield 33, 3) := by decide +kernel
theorem dX1_lengthOf_9 : decode cX1_lengthOf 9 = .ok (.if_icmp .ge 12, 3) := by decide +kernel
theorem dX1_lengthOf_12 : decode cX1_lengthOf 12 = .ok (.aload_n 0, 1) := by decide +kernel
theorem dX1_lengthOf_13 : decode cX1_lengthOf 13 = .ok (.getfield 21, 3) := by decide +kernel
theorem dX1_lengthOf_16 : decode cX1_lengthOf 16 = .ok (.iload_n 1, 1) := by decide +kernel
theorem dX1_lengthOf_17 : decode cX1_lengthOf 17 = .ok (.iaload, 1) := by decide +kernel
theorem dX1_lengthOf_18 : decode cX1_lengthOf 18 = .ok (.goto 4, 3) := by decide +kernel
theorem dX1_lengthOf_21 : decode cX1_lengthOf 21 = .ok (.iconst 0, 1) := by decide +kernel
theorem dX1_lengthOf_22 : decode cX1_lengthOf 22 = .ok (.ireturn, 1) := by decide +kernel
theorem dX1_sizeOf_0 : decode cX1_sizeOf 0 = .ok (.iload_n 1, 1) := by decide +kernel
theorem dX1_sizeOf_1 : decode cX1_sizeOf 1 = .ok (.ifCond .lt 20, 3) := by decide +kernel
theorem dX1_sizeOf_4 : decode cX1_sizeOf 4 = .ok (.iload_n 1, 1) := by decide +kernel
theorem dX1_sizeOf_5 : decode cX1_sizeOf 5 = .ok (.aload_n 0, 1) := by decide +kernel
theorem dX1_sizeOf_6 : decode cX1_sizeOf 6 = .ok (.getfield 33, 3) := by decide +kernel
theorem dX1_sizeOf_9 : decode cX1_sizeOf 9 = .ok (.if_icmp .ge 12, 3) := by decide +kernel
theorem dX1_sizeOf_12 : decode cX1_sizeOf 12 = .ok (.aload_n 0, 1) := by decide +kernel
theorem dX1_sizeOf_13 : decode cX1_sizeOf 13 = .ok (.getfield 24, 3) := by decide +kernel
theorem dX1_sizeOf_16 : decode cX1_sizeOf 16 = .ok (.iload_n 1, 1) := by decide +kernel
theorem dX1_sizeOf_17 : decode cX1_sizeOf 17 = .ok (.iaload, 1) := by decide +kernel
theorem dX1_sizeOf_18 : decode cX1_sizeOf 18 = .ok (.goto 4, 3) := by decide +kernel
theorem dX1_sizeOf_21 : decode cX1_sizeOf 21 = .ok (.iconst 0, 1) := by decide +kernel
theorem dX1_sizeOf_22 : decode cX1_sizeOf 22 = .ok (.ireturn, 1) := by decide +kernel
theorem dX1_pitchOf_0 : decode cX1_pitchOf 0 = .ok (.iload_n 1, 1) := by decide +kernel
theorem dX1_pitchOf_1 : decode cX1_pitchOf 1 = .ok (.ifCond .lt 24, 3) := by decide +kernel
theorem dX1_pitchOf_4 : decode cX1_pitchOf 4 = .ok (.iload_n 1, 1) := by decide +kernel
theorem dX1_pitchOf_5 : decode cX1_pitchOf 5 = .ok (.aload_n 0, 1) := by decide +kernel
theorem dX1_pitchOf_6 : decode cX1_pitchOf 6 = .ok (.getfield 33, 3) := by decide +kernel
theorem dX1_pitchOf_9 : decode cX1_pitchOf 9 = .ok (.if_icmp .ge 16, 3) := by decide +kernel
theorem dX1_pitchOf_12 : decode cX1_pitchOf 12 = .ok (.iload_n 2, 1) := by decide +kernel
theorem dX1_pitchOf_13 : decode cX1_pitchOf 13 = .ok (.ifCond .lt 12, 3) := by decide +kernel
theorem dX1_pitchOf_16 : decode cX1_pitchOf 16 = .ok (.iload_n 2, 1) := by decide +kernel
theorem dX1_pitchOf_17 : decode cX1_pitchOf 17 = .ok (.iconst 3, 1) := by decide +kernel
theorem dX1_pitchOf_18 : decode cX1_pitchOf 18 = .ok (.if_icmp .ge 7, 3) := by decide +kernel
theorem dX1_pitchOf_21 : decode cX1_pitchOf 21 = .ok (.iconst 1, 1) := by decide +kernel
theorem dX1_pitchOf_22 : decode cX1_pitchOf 22 = .ok (.goto 4, 3) := by decide +kernel
theorem dX1_pitchOf_25 : decode cX1_pitchOf 25 = .ok (.iconst 0, 1) := by decide +kernel
theorem dX1_pitchOf_26 : decode cX1_pitchOf 26 = .ok (.istore_n 3, 1) := by decide +kernel
theorem dX1_pitchOf_27 : decode cX1_pitchOf 27 = .ok (.iload_n 3, 1) := by decide +kernel
theorem dX1_pitchOf_28 : decode cX1_pitchOf 28 = .ok (.ifCond .eq 16, 3) := by decide +kernel
theorem dX1_pitchOf_31 : decode cX1_pitchOf 31 = .ok (.aload_n 0, 1) := by decide +kernel
theorem dX1_pitchOf_32 : decode cX1_pitchOf 32 = .ok (.getfield 30, 3) := by decide +kernel
theorem dX1_pitchOf_35 : decode cX1_pitchOf 35 = .ok (.iload_n 1, 1) := by decide +kernel
theorem dX1_pitchOf_36 : decode cX1_pitchOf 36 = .ok (.iconst 3, 1) := by decide +kernel
theorem dX1_pitchOf_37 : decode cX1_pitchOf 37 = .ok (.imul, 1) := by decide +kernel
theorem dX1_pitchOf_38 : decode cX1_pitchOf 38 = .ok (.iload_n 2, 1) := by decide +kernel
theorem dX1_pitchOf_39 : decode cX1_pitchOf 39 = .ok (.iadd, 1) := by decide +kernel
theorem dX1_pitchOf_40 : decode cX1_pitchOf 40 = .ok (.iaload, 1) := by decide +kernel
theorem dX1_pitchOf_41 : decode cX1_pitchOf 41 = .ok (.goto 4, 3) := by decide +kernel
theorem dX1_pitchOf_44 : decode cX1_pitchOf 44 = .ok (.iconst (-1), 1) := by decide +kernel
theorem dX1_pitchOf_45 : decode cX1_pitchOf 45 = .ok (.ireturn, 1) := by decide +kernel
theorem dX1_lowestOf_0 : decode cX1_lowestOf 0 = .ok (.iload_n 1, 1) := by decide +kernel
theorem dX1_lowestOf_1 : decode cX1_lowestOf 1 = .ok (.ifCond .lt 22, 3) := by decide +kernel
theorem dX1_lowestOf_4 : decode cX1_lowestOf 4 = .ok (.iload_n 1, 1) := by decide +kernel
theorem dX1_lowestOf_5 : decode cX1_lowestOf 5 = .ok (.aload_n 0, 1) := by decide +kernel
theorem dX1_lowestOf_6 : decode cX1_lowestOf 6 = .ok (.getfield 33, 3) := by decide +kernel
theorem dX1_lowestOf_9 : decode cX1_lowestOf 9 = .ok (.if_icmp .ge 14, 3) := by decide +kernel
theorem dX1_lowestOf_12 : decode cX1_lowestOf 12 = .ok (.aload_n 0, 1) := by decide +kernel
theorem dX1_lowestOf_13 : decode cX1_lowestOf 13 = .ok (.getfield 30, 3) := by decide +kernel
theorem dX1_lowestOf_16 : decode cX1_lowestOf 16 = .ok (.iload_n 1, 1) := by decide +kernel
theorem dX1_lowestOf_17 : decode cX1_lowestOf 17 = .ok (.iconst 3, 1) := by decide +kernel
theorem dX1_lowestOf_18 : decode cX1_lowestOf 18 = .ok (.imul, 1) := by decide +kernel
theorem dX1_lowestOf_19 : decode cX1_lowestOf 19 = .ok (.iaload, 1) := by decide +kernel
theorem dX1_lowestOf_20 : decode cX1_lowestOf 20 = .ok (.goto 4, 3) := by decide +kernel
theorem dX1_lowestOf_23 : decode cX1_lowestOf 23 = .ok (.iconst (-1), 1) := by decide +kernel
theorem dX1_lowestOf_24 : decode cX1_lowestOf 24 = .ok (.ireturn, 1) := by decide +kernel
theorem dX1_highestOf_0 : decode cX1_highestOf 0 = .ok (.iload_n 1, 1) := by decide +kernel
theorem dX1_highestOf_1 : decode cX1_highestOf 1 = .ok (.ifCond .lt 26, 3) := by decide +kernel
theorem dX1_highestOf_4 : decode cX1_highestOf 4 = .ok (.iload_n 1, 1) := by decide +kernel
theorem dX1_highestOf_5 : decode cX1_highestOf 5 = .ok (.aload_n 0, 1) := by decide +kernel
theorem dX1_highestOf_6 : decode cX1_highestOf 6 = .ok (.getfield 33, 3) := by decide +kernel
theorem dX1_highestOf_9 : decode cX1_highestOf 9 = .ok (.if_icmp .ge 18, 3) := by decide +kernel
theorem dX1_highestOf_12 : decode cX1_highestOf 12 = .ok (.iload_n 1, 1) := by decide +kernel
theorem dX1_highestOf_13 : decode cX1_highestOf 13 = .ok (.iconst 3, 1) := by decide +kernel
theorem dX1_highestOf_14 : decode cX1_highestOf 14 = .ok (.imul, 1) := by decide +kernel
theorem dX1_highestOf_15 : decode cX1_highestOf 15 = .ok (.aload_n 0, 1) := by decide +kernel
theorem dX1_highestOf_16 : decode cX1_highestOf 16 = .ok (.getfield 24, 3) := by decide +kernel
theorem dX1_highestOf_19 : decode cX1_highestOf 19 = .ok (.iload_n 1, 1) := by decide +kernel
theorem dX1_highestOf_20 : decode cX1_highestOf 20 = .ok (.iaload, 1) := by decide +kernel
theorem dX1_highestOf_21 : decode cX1_highestOf 21 = .ok (.iadd, 1) := by decide +kernel
theorem dX1_highestOf_22 : decode cX1_highestOf 22 = .ok (.iconst 1, 1) := by decide +kernel
theorem dX1_highestOf_23 : decode cX1_highestOf 23 = .ok (.isub, 1) := by decide +kernel
theorem dX1_highestOf_24 : decode cX1_highestOf 24 = .ok (.goto 4, 3) := by decide +kernel
theorem dX1_highestOf_27 : decode cX1_highestOf 27 = .ok (.iconst (-1), 1) := by decide +kernel
theorem dX1_highestOf_28 : decode cX1_highestOf 28 = .ok (.istore_n 2, 1) := by decide +kernel
theorem dX1_highestOf_29 : decode cX1_highestOf 29 = .ok (.iload_n 2, 1) := by decide +kernel
theorem dX1_highestOf_30 : decode cX1_highestOf 30 = .ok (.ifCond .lt 21, 3) := by decide +kernel
theorem dX1_highestOf_33 : decode cX1_highestOf 33 = .ok (.iload_n 2, 1) := by decide +kernel
theorem dX1_highestOf_34 : decode cX1_highestOf 34 = .ok (.aload_n 0, 1) := by decide +kernel
theorem dX1_highestOf_35 : decode cX1_highestOf 35 = .ok (.getfield 30, 3) := by decide +kernel
theorem dX1_highestOf_38 : decode cX1_highestOf 38 = .ok (.arraylength, 1) := by decide +kernel
theorem dX1_highestOf_39 : decode cX1_highestOf 39 = .ok (.if_icmp .ge 12, 3) := by decide +kernel
theorem dX1_highestOf_42 : decode cX1_highestOf 42 = .ok (.aload_n 0, 1) := by decide +kernel
theorem dX1_highestOf_43 : decode cX1_highestOf 43 = .ok (.getfield 30, 3) := by decide +kernel
theorem dX1_highestOf_46 : decode cX1_highestOf 46 = .ok (.iload_n 2, 1) := by decide +kernel
theorem dX1_highestOf_47 : decode cX1_highestOf 47 = .ok (.iaload, 1) := by decide +kernel
theorem dX1_highestOf_48 : decode cX1_highestOf 48 = .ok (.goto 4, 3) := by decide +kernel
theorem dX1_highestOf_51 : decode cX1_highestOf 51 = .ok (.iconst (-1), 1) := by decide +kernel
theorem dX1_highestOf_52 : decode cX1_highestOf 52 = .ok (.ireturn, 1) := by decide +kernel
theorem dX1_pinOf_0 : decode cX1_pinOf 0 = .ok (.iload_n 1, 1) := by decide +kernel
theorem dX1_pinOf_1 : decode cX1_pinOf 1 = .ok (.ifCond .lt 20, 3) := by decide +kernel
theorem dX1_pinOf_4 : decode cX1_pinOf 4 = .ok (.iload_n 1, 1) := by decide +kernel
theorem dX1_pinOf_5 : decode cX1_pinOf 5 = .ok (.aload_n 0, 1) := by decide +kernel
theorem dX1_pinOf_6 : decode cX1_pinOf 6 = .ok (.getfield 33, 3) := by decide +kernel
theorem dX1_pinOf_9 : decode cX1_pinOf 9 = .ok (.if_icmp .ge 12, 3) := by decide +kernel
theorem dX1_pinOf_12 : decode cX1_pinOf 12 = .ok (.aload_n 0, 1) := by decide +kernel
theorem dX1_pinOf_13 : decode cX1_pinOf 13 = .ok (.getfield 27, 3) := by decide +kernel
theorem dX1_pinOf_16 : decode cX1_pinOf 16 = .ok (.iload_n 1, 1) := by decide +kernel
theorem dX1_pinOf_17 : decode cX1_pinOf 17 = .ok (.iaload, 1) := by decide +kernel
theorem dX1_pinOf_18 : decode cX1_pinOf 18 = .ok (.goto 5, 3) := by decide +kernel
theorem dX1_pinOf_21 : decode cX1_pinOf 21 = .ok (.bipush (-2), 2) := by decide +kernel
theorem dX1_pinOf_23 : decode cX1_pinOf 23 = .ok (.ireturn, 1) := by decide +kernel
theorem dX1_setPin_0 : decode cX1_setPin 0 = .ok (.iload_n 1, 1) := by decide +kernel
theorem dX1_setPin_1 : decode cX1_setPin 1 = .ok (.ifCond .lt 18, 3) := by decide +kernel
theorem dX1_setPin_4 : decode cX1_setPin 4 = .ok (.iload_n 1, 1) := by decide +kernel
theorem dX1_setPin_5 : decode cX1_setPin 5 = .ok (.aload_n 0, 1) := by decide +kernel
theorem dX1_setPin_6 : decode cX1_setPin 6 = .ok (.getfield 33, 3) := by decide +kernel
theorem dX1_setPin_9 : decode cX1_setPin 9 = .ok (.if_icmp .ge 10, 3) := by decide +kernel
theorem dX1_setPin_12 : decode cX1_setPin 12 = .ok (.aload_n 0, 1) := by decide +kernel
theorem dX1_setPin_13 : decode cX1_setPin 13 = .ok (.getfield 27, 3) := by decide +kernel
theorem dX1_setPin_16 : decode cX1_setPin 16 = .ok (.iload_n 1, 1) := by decide +kernel
theorem dX1_setPin_17 : decode cX1_setPin 17 = .ok (.iload_n 2, 1) := by decide +kernel
theorem dX1_setPin_18 : decode cX1_setPin 18 = .ok (.iastore, 1) := by decide +kernel
theorem dX1_setPin_19 : decode cX1_setPin 19 = .ok (.return_, 1) := by decide +kernel
theorem dX1_allows_0 : decode cX1_allows 0 = .ok (.aload_n 0, 1) := by decide +kernel
theorem dX1_allows_1 : decode cX1_allows 1 = .ok (.iload_n 1, 1) := by decide +kernel
theorem dX1_allows_2 : decode cX1_allows 2 = .ok (.invokevirtual 41, 3) := by decide +kernel
theorem dX1_allows_5 : decode cX1_allows 5 = .ok (.istore_n 3, 1) := by decide +kernel
theorem dX1_allows_6 : decode cX1_allows 6 = .ok (.iload_n 3, 1) := by decide +kernel
theorem dX1_allows_7 : decode cX1_allows 7 = .ok (.bipush (-2), 2) := by decide +kernel
theorem dX1_allows_9 : decode cX1_allows 9 = .ok (.if_icmp .eq 8, 3) := by decide +kernel
theorem dX1_allows_12 : decode cX1_allows 12 = .ok (.iload_n 3, 1) := by decide +kernel
theorem dX1_allows_13 : decode cX1_allows 13 = .ok (.iload_n 2, 1) := by decide +kernel
theorem dX1_allows_14 : decode cX1_allows 14 = .ok (.if_icmp .ne 7, 3) := by decide +kernel
theorem dX1_allows_17 : decode cX1_allows 17 = .ok (.iconst 1, 1) := by decide +kernel
theorem dX1_allows_18 : decode cX1_allows 18 = .ok (.goto 4, 3) := by decide +kernel
theorem dX1_allows_21 : decode cX1_allows 21 = .ok (.iconst 0, 1) := by decide +kernel
theorem dX1_allows_22 : decode cX1_allows 22 = .ok (.ireturn, 1) := by decide +kernel
theorem dX1_inCompass_0 : decode cX1_inCompass 0 = .ok (.aload_n 0, 1) := by decide +kernel
theorem dX1_inCompass_1 : decode cX1_inCompass 1 = .ok (.iload_n 1, 1) := by decide +kernel
theorem dX1_inCompass_2 : decode cX1_inCompass 2 = .ok (.invokevirtual 45, 3) := by decide +kernel
theorem dX1_inCompass_5 : decode cX1_inCompass 5 = .ok (.aload_n 0, 1) := by decide +kernel
theorem dX1_inCompass_6 : decode cX1_inCompass 6 = .ok (.getfield 9, 3) := by decide +kernel
theorem dX1_inCompass_9 : decode cX1_inCompass 9 = .ok (.iconst 3, 1) := by decide +kernel
theorem dX1_inCompass_10 : decode cX1_inCompass 10 = .ok (.iaload, 1) := by decide +kernel
theorem dX1_inCompass_11 : decode cX1_inCompass 11 = .ok (.if_icmp .lt 21, 3) := by decide +kernel
theorem dX1_inCompass_14 : decode cX1_inCompass 14 = .ok (.aload_n 0, 1) := by decide +kernel
theorem dX1_inCompass_15 : decode cX1_inCompass 15 = .ok (.iload_n 1, 1) := by decide +kernel
theorem dX1_inCompass_16 : decode cX1_inCompass 16 = .ok (.invokevirtual 48, 3) := by decide +kernel
theorem dX1_inCompass_19 : decode cX1_inCompass 19 = .ok (.aload_n 0, 1) := by decide +kernel
theorem dX1_inCompass_20 : decode cX1_inCompass 20 = .ok (.getfield 9, 3) := by decide +kernel
theorem dX1_inCompass_23 : decode cX1_inCompass 23 = .ok (.iconst 4, 1) := by decide +kernel
theorem dX1_inCompass_24 : decode cX1_inCompass 24 = .ok (.iaload, 1) := by decide +kernel
theorem dX1_inCompass_25 : decode cX1_inCompass 25 = .ok (.if_icmp .gt 7, 3) := by decide +kernel
theorem dX1_inCompass_28 : decode cX1_inCompass 28 = .ok (.iconst 1, 1) := by decide +kernel
theorem dX1_inCompass_29 : decode cX1_inCompass 29 = .ok (.goto 4, 3) := by decide +kernel
theorem dX1_inCompass_32 : decode cX1_inCompass 32 = .ok (.iconst 0, 1) := by decide +kernel
theorem dX1_inCompass_33 : decode cX1_inCompass 33 = .ok (.ireturn, 1) := by decide +kernel
theorem dX1_firstOfHand_0 : decode cX1_firstOfHand 0 = .ok (.iconst 0, 1) := by decide +kernel
theorem dX1_firstOfHand_1 : decode cX1_firstOfHand 1 = .ok (.iload_n 2, 1) := by decide +kernel
theorem dX1_firstOfHand_2 : decode cX1_firstOfHand 2 = .ok (.invokestatic 51, 3) := by decide +kernel
theorem dX1_firstOfHand_5 : decode cX1_firstOfHand 5 = .ok (.istore_n 3, 1) := by decide +kernel
theorem dX1_firstOfHand_6 : decode cX1_firstOfHand 6 = .ok (.iload_n 3, 1) := by decide +kernel
theorem dX1_firstOfHand_7 : decode cX1_firstOfHand 7 = .ok (.aload_n 0, 1) := by decide +kernel
theorem dX1_firstOfHand_8 : decode cX1_firstOfHand 8 = .ok (.getfield 33, 3) := by decide +kernel
theorem dX1_firstOfHand_11 : decode cX1_firstOfHand 11 = .ok (.if_icmp .ge 21, 3) := by decide +kernel
theorem dX1_firstOfHand_14 : decode cX1_firstOfHand 14 = .ok (.aload_n 0, 1) := by decide +kernel
theorem dX1_firstOfHand_15 : decode cX1_firstOfHand 15 = .ok (.getfield 15, 3) := by decide +kernel
theorem dX1_firstOfHand_18 : decode cX1_firstOfHand 18 = .ok (.iload_n 3, 1) := by decide +kernel
theorem dX1_firstOfHand_19 : decode cX1_firstOfHand 19 = .ok (.iaload, 1) := by decide +kernel
theorem dX1_firstOfHand_20 : decode cX1_firstOfHand 20 = .ok (.iload_n 1, 1) := by decide +kernel
theorem dX1_firstOfHand_21 : decode cX1_firstOfHand 21 = .ok (.if_icmp .ne 5, 3) := by decide +kernel
theorem dX1_firstOfHand_24 : decode cX1_firstOfHand 24 = .ok (.iload_n 3, 1) := by decide +kernel
theorem dX1_firstOfHand_25 : decode cX1_firstOfHand 25 = .ok (.ireturn, 1) := by decide +kernel
theorem dX1_firstOfHand_26 : decode cX1_firstOfHand 26 = .ok (.iinc 3 1, 3) := by decide +kernel
theorem dX1_firstOfHand_29 : decode cX1_firstOfHand 29 = .ok (.goto (-23), 3) := by decide +kernel
theorem dX1_firstOfHand_32 : decode cX1_firstOfHand 32 = .ok (.iconst (-1), 1) := by decide +kernel
theorem dX1_firstOfHand_33 : decode cX1_firstOfHand 33 = .ok (.ireturn, 1) := by decide +kernel
theorem dX1_lastOfHand_0 : decode cX1_lastOfHand 0 = .ok (.iload_n 2, 1) := by decide +kernel
theorem dX1_lastOfHand_1 : decode cX1_lastOfHand 1 = .ok (.aload_n 0, 1) := by decide +kernel
theorem dX1_lastOfHand_2 : decode cX1_lastOfHand 2 = .ok (.getfield 33, 3) := by decide +kernel
theorem dX1_lastOfHand_5 : decode cX1_lastOfHand 5 = .ok (.invokestatic 57, 3) := by decide +kernel
theorem dX1_lastOfHand_8 : decode cX1_lastOfHand 8 = .ok (.iconst 1, 1) := by decide +kernel
theorem dX1_lastOfHand_9 : decode cX1_lastOfHand 9 = .ok (.isub, 1) := by decide +kernel
theorem dX1_lastOfHand_10 : decode cX1_lastOfHand 10 = .ok (.istore_n 3, 1) := by decide +kernel
theorem dX1_lastOfHand_11 : decode cX1_lastOfHand 11 = .ok (.iload_n 3, 1) := by decide +kernel
theorem dX1_lastOfHand_12 : decode cX1_lastOfHand 12 = .ok (.ifCond .lt 21, 3) := by decide +kernel
theorem dX1_lastOfHand_15 : decode cX1_lastOfHand 15 = .ok (.aload_n 0, 1) := by decide +kernel
theorem dX1_lastOfHand_16 : decode cX1_lastOfHand 16 = .ok (.getfield 15, 3) := by decide +kernel
theorem dX1_lastOfHand_19 : decode cX1_lastOfHand 19 = .ok (.iload_n 3, 1) := by decide +kernel
theorem dX1_lastOfHand_20 : decode cX1_lastOfHand 20 = .ok (.iaload, 1) := by decide +kernel
theorem dX1_lastOfHand_21 : decode cX1_lastOfHand 21 = .ok (.iload_n 1, 1) := by decide +kernel
theorem dX1_lastOfHand_22 : decode cX1_lastOfHand 22 = .ok (.if_icmp .ne 5, 3) := by decide +kernel
theorem dX1_lastOfHand_25 : decode cX1_lastOfHand 25 = .ok (.iload_n 3, 1) := by decide +kernel
theorem dX1_lastOfHand_26 : decode cX1_lastOfHand 26 = .ok (.ireturn, 1) := by decide +kernel
theorem dX1_lastOfHand_27 : decode cX1_lastOfHand 27 = .ok (.iinc 3 (-1), 3) := by decide +kernel
theorem dX1_lastOfHand_30 : decode cX1_lastOfHand 30 = .ok (.goto (-19), 3) := by decide +kernel
theorem dX1_lastOfHand_33 : decode cX1_lastOfHand 33 = .ok (.iconst (-1), 1) := by decide +kernel
theorem dX1_lastOfHand_34 : decode cX1_lastOfHand 34 = .ok (.ireturn, 1) := by decide +kernel
theorem dX1_after_0 : decode cX1_after 0 = .ok (.aload_n 0, 1) := by decide +kernel
theorem dX1_after_1 : decode cX1_after 1 = .ok (.aload_n 0, 1) := by decide +kernel
theorem dX1_after_2 : decode cX1_after 2 = .ok (.iload_n 1, 1) := by decide +kernel
theorem dX1_after_3 : decode cX1_after 3 = .ok (.invokevirtual 60, 3) := by decide +kernel
theorem dX1_after_6 : decode cX1_after 6 = .ok (.iload_n 1, 1) := by decide +kernel
theorem dX1_after_7 : decode cX1_after 7 = .ok (.iconst 1, 1) := by decide +kernel
theorem dX1_after_8 : decode cX1_after 8 = .ok (.iadd, 1) := by decide +kernel
theorem dX1_after_9 : decode cX1_after 9 = .ok (.invokevirtual 63, 3) := by decide +kernel
theorem dX1_after_12 : decode cX1_after 12 = .ok (.ireturn, 1) := by decide +kernel
theorem dX1_before_0 : decode cX1_before 0 = .ok (.aload_n 0, 1) := by decide +kernel
theorem dX1_before_1 : decode cX1_before 1 = .ok (.aload_n 0, 1) := by decide +kernel
theorem dX1_before_2 : decode cX1_before 2 = .ok (.iload_n 1, 1) := by decide +kernel
theorem dX1_before_3 : decode cX1_before 3 = .ok (.invokevirtual 60, 3) := by decide +kernel
theorem dX1_before_6 : decode cX1_before 6 = .ok (.iload_n 1, 1) := by decide +kernel
theorem dX1_before_7 : decode cX1_before 7 = .ok (.invokevirtual 66, 3) := by decide +kernel
theorem dX1_before_10 : decode cX1_before 10 = .ok (.ireturn, 1) := by decide +kernel
theorem dX1_countOfHand_0 : decode cX1_countOfHand 0 = .ok (.iconst 0, 1) := by decide +kernel
theorem dX1_countOfHand_1 : decode cX1_countOfHand 1 = .ok (.istore_n 2, 1) := by decide +kernel
theorem dX1_countOfHand_2 : decode cX1_countOfHand 2 = .ok (.iconst 0, 1) := by decide +kernel
theorem dX1_countOfHand_3 : decode cX1_countOfHand 3 = .ok (.istore_n 3, 1) := by decide +kernel
theorem dX1_countOfHand_4 : decode cX1_countOfHand 4 = .ok (.iload_n 3, 1) := by decide +kernel
theorem dX1_countOfHand_5 : decode cX1_countOfHand 5 = .ok (.aload_n 0, 1) := by decide +kernel
theorem dX1_countOfHand_6 : decode cX1_countOfHand 6 = .ok (.getfield 33, 3) := by decide +kernel
theorem dX1_countOfHand_9 : decode cX1_countOfHand 9 = .ok (.if_icmp .ge 27, 3) := by decide +kernel
theorem dX1_countOfHand_12 : decode cX1_countOfHand 12 = .ok (.iload_n 2, 1) := by decide +kernel
theorem dX1_countOfHand_13 : decode cX1_countOfHand 13 = .ok (.aload_n 0, 1) := by decide +kernel
theorem dX1_countOfHand_14 : decode cX1_countOfHand 14 = .ok (.getfield 15, 3) := by decide +kernel
theorem dX1_countOfHand_17 : decode cX1_countOfHand 17 = .ok (.iload_n 3, 1) := by decide +kernel
theorem dX1_countOfHand_18 : decode cX1_countOfHand 18 = .ok (.iaload, 1) := by decide +kernel
theorem dX1_countOfHand_19 : decode cX1_countOfHand 19 = .ok (.iload_n 1, 1) := by decide +kernel
theorem dX1_countOfHand_20 : decode cX1_countOfHand 20 = .ok (.if_icmp .ne 7, 3) := by decide +kernel
theorem dX1_countOfHand_23 : decode cX1_countOfHand 23 = .ok (.iconst 1, 1) := by decide +kernel
theorem dX1_countOfHand_24 : decode cX1_countOfHand 24 = .ok (.goto 4, 3) := by decide +kernel
theorem dX1_countOfHand_27 : decode cX1_countOfHand 27 = .ok (.iconst 0, 1) := by decide +kernel
theorem dX1_countOfHand_28 : decode cX1_countOfHand 28 = .ok (.iadd, 1) := by decide +kernel
theorem dX1_countOfHand_29 : decode cX1_countOfHand 29 = .ok (.istore_n 2, 1) := by decide +kernel
theorem dX1_countOfHand_30 : decode cX1_countOfHand 30 = .ok (.iinc 3 1, 3) := by decide +kernel
theorem dX1_countOfHand_33 : decode cX1_countOfHand 33 = .ok (.goto (-29), 3) := by decide +kernel
theorem dX1_countOfHand_36 : decode cX1_countOfHand 36 = .ok (.iload_n 2, 1) := by decide +kernel
theorem dX1_countOfHand_37 : decode cX1_countOfHand 37 = .ok (.ireturn, 1) := by decide +kernel
theorem dX1_countPinned_0 : decode cX1_countPinned 0 = .ok (.iconst 0, 1) := by decide +kernel
theorem dX1_countPinned_1 : decode cX1_countPinned 1 = .ok (.istore_n 1, 1) := by decide +kernel
theorem dX1_countPinned_2 : decode cX1_countPinned 2 = .ok (.iconst 0, 1) := by decide +kernel
theorem dX1_countPinned_3 : decode cX1_countPinned 3 = .ok (.istore_n 2, 1) := by decide +kernel
theorem dX1_countPinned_4 : decode cX1_countPinned 4 = .ok (.iload_n 2, 1) := by decide +kernel
theorem dX1_countPinned_5 : decode cX1_countPinned 5 = .ok (.aload_n 0, 1) := by decide +kernel
theorem dX1_countPinned_6 : decode cX1_countPinned 6 = .ok (.getfield 33, 3) := by decide +kernel
theorem dX1_countPinned_9 : decode cX1_countPinned 9 = .ok (.if_icmp .ge 28, 3) := by decide +kernel
theorem dX1_countPinned_12 : decode cX1_countPinned 12 = .ok (.iload_n 1, 1) := by decide +kernel
theorem dX1_countPinned_13 : decode cX1_countPinned 13 = .ok (.aload_n 0, 1) := by decide +kernel
theorem dX1_countPinned_14 : decode cX1_countPinned 14 = .ok (.getfield 27, 3) := by decide +kernel
theorem dX1_countPinned_17 : decode cX1_countPinned 17 = .ok (.iload_n 2, 1) := by decide +kernel
theorem dX1_countPinned_18 : decode cX1_countPinned 18 = .ok (.iaload, 1) := by decide +kernel
theorem dX1_countPinned_19 : decode cX1_countPinned 19 = .ok (.bipush (-2), 2) := by decide +kernel
theorem dX1_countPinned_21 : decode cX1_countPinned 21 = .ok (.if_icmp .eq 7, 3) := by decide +kernel
theorem dX1_countPinned_24 : decode cX1_countPinned 24 = .ok (.iconst 1, 1) := by decide +kernel
theorem dX1_countPinned_25 : decode cX1_countPinned 25 = .ok (.goto 4, 3) := by decide +kernel
theorem dX1_countPinned_28 : decode cX1_countPinned 28 = .ok (.iconst 0, 1) := by decide +kernel
theorem dX1_countPinned_29 : decode cX1_countPinned 29 = .ok (.iadd, 1) := by decide +kernel
theorem dX1_countPinned_30 : decode cX1_countPinned 30 = .ok (.istore_n 1, 1) := by decide +kernel
theorem dX1_countPinned_31 : decode cX1_countPinned 31 = .ok (.iinc 2 1, 3) := by decide +kernel
theorem dX1_countPinned_34 : decode cX1_countPinned 34 = .ok (.goto (-30), 3) := by decide +kernel
theorem dX1_countPinned_37 : decode cX1_countPinned 37 = .ok (.iload_n 1, 1) := by decide +kernel
theorem dX1_countPinned_38 : decode cX1_countPinned 38 = .ok (.ireturn, 1) := by decide +kernel
theorem dX2_init_0 : decode cX2_init 0 = .ok (.aload_n 0, 1) := by decide +kernel
theorem dX2_init_1 : decode cX2_init 1 = .ok (.invokespecial 3, 3) := by decide +kernel
theorem dX2_init_4 : decode cX2_init 4 = .ok (.aload_n 0, 1) := by decide +kernel
theorem dX2_init_5 : decode cX2_init 5 = .ok (.new 9, 3) := by decide +kernel
theorem dX2_init_8 : decode cX2_init 8 = .ok (.dup, 1) := by decide +kernel
theorem dX2_init_9 : decode cX2_init 9 = .ok (.invokespecial 11, 3) := by decide +kernel
theorem dX2_init_12 : decode cX2_init 12 = .ok (.putfield 12, 3) := by decide +kernel
theorem dX2_init_15 : decode cX2_init 15 = .ok (.aload_n 0, 1) := by decide +kernel
theorem dX2_init_16 : decode cX2_init 16 = .ok (.bipush 40, 2) := by decide +kernel
theorem dX2_init_18 : decode cX2_init 18 = .ok (.newarray .int, 2) := by decide +kernel
theorem dX2_init_20 : decode cX2_init 20 = .ok (.putfield 18, 3) := by decide +kernel
theorem dX2_init_23 : decode cX2_init 23 = .ok (.aload_n 0, 1) := by decide +kernel
theorem dX2_init_24 : decode cX2_init 24 = .ok (.iconst 0, 1) := by decide +kernel
theorem dX2_init_25 : decode cX2_init 25 = .ok (.putfield 22, 3) := by decide +kernel
theorem dX2_init_28 : decode cX2_init 28 = .ok (.aload_n 0, 1) := by decide +kernel
theorem dX2_init_29 : decode cX2_init 29 = .ok (.iconst 1, 1) := by decide +kernel
theorem dX2_init_30 : decode cX2_init 30 = .ok (.iload_n 1, 1) := by decide +kernel
theorem dX2_init_31 : decode cX2_init 31 = .ok (.invokestatic 26, 3) := by decide +kernel
theorem dX2_init_34 : decode cX2_init 34 = .ok (.putfield 32, 3) := by decide +kernel
theorem dX2_init_37 : decode cX2_init 37 = .ok (.aload_n 0, 1) := by decide +kernel
theorem dX2_init_38 : decode cX2_init 38 = .ok (.bipush 40, 2) := by decide +kernel
theorem dX2_init_40 : decode cX2_init 40 = .ok (.aload_n 0, 1) := by decide +kernel
theorem dX2_init_41 : decode cX2_init 41 = .ok (.getfield 32, 3) := by decide +kernel
theorem dX2_init_44 : decode cX2_init 44 = .ok (.imul, 1) := by decide +kernel
theorem dX2_init_45 : decode cX2_init 45 = .ok (.newarray .int, 2) := by decide +kernel
theorem dX2_init_47 : decode cX2_init 47 = .ok (.putfield 35, 3) := by decide +kernel
theorem dX2_init_50 : decode cX2_init 50 = .ok (.aload_n 0, 1) := by decide +kernel
theorem dX2_init_51 : decode cX2_init 51 = .ok (.bipush 40, 2) := by decide +kernel
theorem dX2_init_53 : decode cX2_init 53 = .ok (.aload_n 0, 1) := by decide +kernel
theorem dX2_init_54 : decode cX2_init 54 = .ok (.getfield 32, 3) := by decide +kernel
theorem dX2_init_57 : decode cX2_init 57 = .ok (.imul, 1) := by decide +kernel
theorem dX2_init_58 : decode cX2_init 58 = .ok (.newarray .int, 2) := by decide +kernel
theorem dX2_init_60 : decode cX2_init 60 = .ok (.putfield 38, 3) := by decide +kernel
theorem dX2_init_63 : decode cX2_init 63 = .ok (.aload_n 0, 1) := by decide +kernel
theorem dX2_init_64 : decode cX2_init 64 = .ok (.bipush 40, 2) := by decide +kernel
theorem dX2_init_66 : decode cX2_init 66 = .ok (.aload_n 0, 1) := by decide +kernel
theorem dX2_init_67 : decode cX2_init 67 = .ok (.getfield 32, 3) := by decide +kernel
theorem dX2_init_70 : decode cX2_init 70 = .ok (.imul, 1) := by decide +kernel
theorem dX2_init_71 : decode cX2_init 71 = .ok (.newarray .int, 2) := by decide +kernel
theorem dX2_init_73 : decode cX2_init 73 = .ok (.putfield 41, 3) := by decide +kernel
theorem dX2_init_76 : decode cX2_init 76 = .ok (.return_, 1) := by decide +kernel
theorem dX2_listAll_0 : decode cX2_listAll 0 = .ok (.iconst 0, 1) := by decide +kernel
theorem dX2_listAll_1 : decode cX2_listAll 1 = .ok (.aload_n 0, 1) := by decide +kernel
theorem dX2_listAll_2 : decode cX2_listAll 2 = .ok (.getfield 22, 3) := by decide +kernel
theorem dX2_listAll_5 : decode cX2_listAll 5 = .ok (.invokestatic 26, 3) := by decide +kernel
theorem dX2_listAll_8 : decode cX2_listAll 8 = .ok (.istore_n 1, 1) := by decide +kernel
theorem dX2_listAll_9 : decode cX2_listAll 9 = .ok (.iload_n 1, 1) := by decide +kernel
theorem dX2_listAll_10 : decode cX2_listAll 10 = .ok (.aload_n 0, 1) := by decide +kernel
theorem dX2_listAll_11 : decode cX2_listAll 11 = .ok (.getfield 12, 3) := by decide +kernel
theorem dX2_listAll_14 : decode cX2_listAll 14 = .ok (.getfield 44, 3) := by decide +kernel
theorem dX2_listAll_17 : decode cX2_listAll 17 = .ok (.if_icmp .ge 38, 3) := by decide +kernel
theorem dX2_listAll_20 : decode cX2_listAll 20 = .ok (.iload_n 1, 1) := by decide +kernel
theorem dX2_listAll_21 : decode cX2_listAll 21 = .ok (.bipush 40, 2) := by decide +kernel
theorem dX2_listAll_23 : decode cX2_listAll 23 = .ok (.if_icmp .ge 32, 3) := by decide +kernel
theorem dX2_listAll_26 : decode cX2_listAll 26 = .ok (.aload_n 0, 1) := by decide +kernel
theorem dX2_listAll_27 : decode cX2_listAll 27 = .ok (.getfield 18, 3) := by decide +kernel
theorem dX2_listAll_30 : decode cX2_listAll 30 = .ok (.iload_n 1, 1) := by decide +kernel
theorem dX2_listAll_31 : decode cX2_listAll 31 = .ok (.iconst 0, 1) := by decide +kernel
theorem dX2_listAll_32 : decode cX2_listAll 32 = .ok (.iastore, 1) := by decide +kernel
theorem dX2_listAll_33 : decode cX2_listAll 33 = .ok (.aload_n 0, 1) := by decide +kernel
theorem dX2_listAll_34 : decode cX2_listAll 34 = .ok (.getfield 12, 3) := by decide +kernel
theorem dX2_listAll_37 : decode cX2_listAll 37 = .ok (.iload_n 1, 1) := by decide +kernel
theorem dX2_listAll_38 : decode cX2_listAll 38 = .ok (.invokevirtual 47, 3) := by decide +kernel
theorem dX2_listAll_41 : decode cX2_listAll 41 = .ok (.ifCond .eq 8, 3) := by decide +kernel
theorem dX2_listAll_44 : decode cX2_listAll 44 = .ok (.aload_n 0, 1) := by decide +kernel
theorem dX2_listAll_45 : decode cX2_listAll 45 = .ok (.iload_n 1, 1) := by decide +kernel
theorem dX2_listAll_46 : decode cX2_listAll 46 = .ok (.invokevirtual 51, 3) := by decide +kernel
theorem dX2_listAll_49 : decode cX2_listAll 49 = .ok (.iinc 1 1, 3) := by decide +kernel
theorem dX2_listAll_52 : decode cX2_listAll 52 = .ok (.goto (-43), 3) := by decide +kernel
theorem dX2_listAll_55 : decode cX2_listAll 55 = .ok (.aload_n 0, 1) := by decide +kernel
theorem dX2_listAll_56 : decode cX2_listAll 56 = .ok (.aload_n 0, 1) := by decide +kernel
theorem dX2_listAll_57 : decode cX2_listAll 57 = .ok (.getfield 12, 3) := by decide +kernel
theorem dX2_listAll_60 : decode cX2_listAll 60 = .ok (.getfield 44, 3) := by decide +kernel
theorem dX2_listAll_63 : decode cX2_listAll 63 = .ok (.putfield 22, 3) := by decide +kernel
theorem dX2_listAll_66 : decode cX2_listAll 66 = .ok (.return_, 1) := by decide +kernel
theorem dX2_addState_0 : decode cX2_addState 0 = .ok (.iload_n 1, 1) := by decide +kernel
theorem dX2_addState_1 : decode cX2_addState 1 = .ok (.ifCond .lt 31, 3) := by decide +kernel
theorem dX2_addState_4 : decode cX2_addState 4 = .ok (.iload_n 1, 1) := by decide +kernel
theorem dX2_addState_5 : decode cX2_addState 5 = .ok (.bipush 40, 2) := by decide +kernel
theorem dX2_addState_7 : decode cX2_addState 7 = .ok (.if_icmp .ge 25, 3) := by decide +kernel
theorem dX2_addState_10 : decode cX2_addState 10 = .ok (.aload_n 0, 1) := by decide +kernel
theorem dX2_addState_11 : decode cX2_addState 11 = .ok (.getfield 18, 3) := by decide +kernel
theorem dX2_addState_14 : decode cX2_addState 14 = .ok (.iload_n 1, 1) := by decide +kernel
theorem dX2_addState_15 : decode cX2_addState 15 = .ok (.iaload, 1) := by decide +kernel
theorem dX2_addState_16 : decode cX2_addState 16 = .ok (.ifCond .lt 16, 3) := by decide +kernel
theorem dX2_addState_19 : decode cX2_addState 19 = .ok (.aload_n 0, 1) := by decide +kernel
theorem dX2_addState_20 : decode cX2_addState 20 = .ok (.getfield 18, 3) := by decide +kernel
theorem dX2_addState_23 : decode cX2_addState 23 = .ok (.iload_n 1, 1) := by decide +kernel
theorem dX2_addState_24 : decode cX2_addState 24 = .ok (.iaload, 1) := by decide +kernel
theorem dX2_addState_25 : decode cX2_addState 25 = .ok (.aload_n 0, 1) := by decide +kernel
theorem dX2_addState_26 : decode cX2_addState 26 = .ok (.getfield 32, 3) := by decide +kernel
theorem dX2_addState_29 : decode cX2_addState 29 = .ok (.if_icmp .lt 4, 3) := by decide +kernel
theorem dX2_addState_32 : decode cX2_addState 32 = .ok (.return_, 1) := by decide +kernel
theorem dX2_addState_33 : decode cX2_addState 33 = .ok (.iload_n 1, 1) := by decide +kernel
theorem dX2_addState_34 : decode cX2_addState 34 = .ok (.aload_n 0, 1) := by decide +kernel
theorem dX2_addState_35 : decode cX2_addState 35 = .ok (.getfield 32, 3) := by decide +kernel
theorem dX2_addState_38 : decode cX2_addState 38 = .ok (.imul, 1) := by decide +kernel
theorem dX2_addState_39 : decode cX2_addState 39 = .ok (.aload_n 0, 1) := by decide +kernel
theorem dX2_addState_40 : decode cX2_addState 40 = .ok (.getfield 18, 3) := by decide +kernel
theorem dX2_addState_43 : decode cX2_addState 43 = .ok (.iload_n 1, 1) := by decide +kernel
theorem dX2_addState_44 : decode cX2_addState 44 = .ok (.iaload, 1) := by decide +kernel
theorem dX2_addState_45 : decode cX2_addState 45 = .ok (.iadd, 1) := by decide +kernel
theorem dX2_addState_46 : decode cX2_addState 46 = .ok (.istore 5, 2) := by decide +kernel
theorem dX2_addState_48 : decode cX2_addState 48 = .ok (.aload_n 0, 1) := by decide +kernel
theorem dX2_addState_49 : decode cX2_addState 49 = .ok (.getfield 35, 3) := by decide +kernel
theorem dX2_addState_52 : decode cX2_addState 52 = .ok (.iload 5, 2) := by decide +kernel
theorem dX2_addState_54 : decode cX2_addState 54 = .ok (.iload_n 2, 1) := by decide +kernel
theorem dX2_addState_55 : decode cX2_addState 55 = .ok (.iastore, 1) := by decide +kernel
theorem dX2_addState_56 : decode cX2_addState 56 = .ok (.aload_n 0, 1) := by decide +kernel
theorem dX2_addState_57 : decode cX2_addState 57 = .ok (.getfield 38, 3) := by decide +kernel
theorem dX2_addState_60 : decode cX2_addState 60 = .ok (.iload 5, 2) := by decide +kernel
theorem dX2_addState_62 : decode cX2_addState 62 = .ok (.iload_n 3, 1) := by decide +kernel
theorem dX2_addState_63 : decode cX2_addState 63 = .ok (.iastore, 1) := by decide +kernel
theorem dX2_addState_64 : decode cX2_addState 64 = .ok (.aload_n 0, 1) := by decide +kernel
theorem dX2_addState_65 : decode cX2_addState 65 = .ok (.getfield 41, 3) := by decide +kernel
theorem dX2_addState_68 : decode cX2_addState 68 = .ok (.iload 5, 2) := by decide +kernel
theorem dX2_addState_70 : decode cX2_addState 70 = .ok (.iload 4, 2) := by decide +kernel
theorem dX2_addState_72 : decode cX2_addState 72 = .ok (.iastore, 1) := by decide +kernel
theorem dX2_addState_73 : decode cX2_addState 73 = .ok (.aload_n 0, 1) := by decide +kernel
theorem dX2_addState_74 : decode cX2_addState 74 = .ok (.getfield 18, 3) := by decide +kernel
theorem dX2_addState_77 : decode cX2_addState 77 = .ok (.iload_n 1, 1) := by decide +kernel
theorem dX2_addState_78 : decode cX2_addState 78 = .ok (.dup2, 1) := by decide +kernel
theorem dX2_addState_79 : decode cX2_addState 79 = .ok (.iaload, 1) := by decide +kernel
theorem dX2_addState_80 : decode cX2_addState 80 = .ok (.iconst 1, 1) := by decide +kernel
theorem dX2_addState_81 : decode cX2_addState 81 = .ok (.iadd, 1) := by decide +kernel
theorem dX2_addState_82 : decode cX2_addState 82 = .ok (.iastore, 1) := by decide +kernel
theorem dX2_addState_83 : decode cX2_addState 83 = .ok (.return_, 1) := by decide +kernel
theorem dX2_countOf_0 : decode cX2_countOf 0 = .ok (.iload_n 1, 1) := by decide +kernel
theorem dX2_countOf_1 : decode cX2_countOf 1 = .ok (.ifCond .lt 18, 3) := by decide +kernel
theorem dX2_countOf_4 : decode cX2_countOf 4 = .ok (.iload_n 1, 1) := by decide +kernel
theorem dX2_countOf_5 : decode cX2_countOf 5 = .ok (.bipush 40, 2) := by decide +kernel
theorem dX2_countOf_7 : decode cX2_countOf 7 = .ok (.if_icmp .ge 12, 3) := by decide +kernel
theorem dX2_countOf_10 : decode cX2_countOf 10 = .ok (.aload_n 0, 1) := by decide +kernel
theorem dX2_countOf_11 : decode cX2_countOf 11 = .ok (.getfield 18, 3) := by decide +kernel
theorem dX2_countOf_14 : decode cX2_countOf 14 = .ok (.iload_n 1, 1) := by decide +kernel
theorem dX2_countOf_15 : decode cX2_countOf 15 = .ok (.iaload, 1) := by decide +kernel
theorem dX2_countOf_16 : decode cX2_countOf 16 = .ok (.goto 4, 3) := by decide +kernel
theorem dX2_countOf_19 : decode cX2_countOf 19 = .ok (.iconst 0, 1) := by decide +kernel
theorem dX2_countOf_20 : decode cX2_countOf 20 = .ok (.ireturn, 1) := by decide +kernel
theorem dX2_priceOf_0 : decode cX2_priceOf 0 = .ok (.iload_n 1, 1) := by decide +kernel
theorem dX2_priceOf_1 : decode cX2_priceOf 1 = .ok (.aload_n 0, 1) := by decide +kernel
theorem dX2_priceOf_2 : decode cX2_priceOf 2 = .ok (.getfield 32, 3) := by decide +kernel
theorem dX2_priceOf_5 : decode cX2_priceOf 5 = .ok (.imul, 1) := by decide +kernel
theorem dX2_priceOf_6 : decode cX2_priceOf 6 = .ok (.iload_n 2, 1) := by decide +kernel
theorem dX2_priceOf_7 : decode cX2_priceOf 7 = .ok (.iadd, 1) := by decide +kernel
theorem dX2_priceOf_8 : decode cX2_priceOf 8 = .ok (.istore_n 3, 1) := by decide +kernel
theorem dX2_priceOf_9 : decode cX2_priceOf 9 = .ok (.iload_n 3, 1) := by decide +kernel
theorem dX2_priceOf_10 : decode cX2_priceOf 10 = .ok (.ifCond .lt 21, 3) := by decide +kernel
theorem dX2_priceOf_13 : decode cX2_priceOf 13 = .ok (.iload_n 3, 1) := by decide +kernel
theorem dX2_priceOf_14 : decode cX2_priceOf 14 = .ok (.aload_n 0, 1) := by decide +kernel
theorem dX2_priceOf_15 : decode cX2_priceOf 15 = .ok (.getfield 35, 3) := by decide +kernel
theorem dX2_priceOf_18 : decode cX2_priceOf 18 = .ok (.arraylength, 1) := by decide +kernel
theorem dX2_priceOf_19 : decode cX2_priceOf 19 = .ok (.if_icmp .ge 12, 3) := by decide +kernel
theorem dX2_priceOf_22 : decode cX2_priceOf 22 = .ok (.aload_n 0, 1) := by decide +kernel
theorem dX2_priceOf_23 : decode cX2_priceOf 23 = .ok (.getfield 35, 3) := by decide +kernel
theorem dX2_priceOf_26 : decode cX2_priceOf 26 = .ok (.iload_n 3, 1) := by decide +kernel
theorem dX2_priceOf_27 : decode cX2_priceOf 27 = .ok (.iaload, 1) := by decide +kernel
theorem dX2_priceOf_28 : decode cX2_priceOf 28 = .ok (.goto 4, 3) := by decide +kernel
theorem dX2_priceOf_31 : decode cX2_priceOf 31 = .ok (.iconst 0, 1) := by decide +kernel
theorem dX2_priceOf_32 : decode cX2_priceOf 32 = .ok (.ireturn, 1) := by decide +kernel
theorem dX2_firstOf_0 : decode cX2_firstOf 0 = .ok (.iload_n 1, 1) := by decide +kernel
theorem dX2_firstOf_1 : decode cX2_firstOf 1 = .ok (.aload_n 0, 1) := by decide +kernel
theorem dX2_firstOf_2 : decode cX2_firstOf 2 = .ok (.getfield 32, 3) := by decide +kernel
theorem dX2_firstOf_5 : decode cX2_firstOf 5 = .ok (.imul, 1) := by decide +kernel
theorem dX2_firstOf_6 : decode cX2_firstOf 6 = .ok (.iload_n 2, 1) := by decide +kernel
theorem dX2_firstOf_7 : decode cX2_firstOf 7 = .ok (.iadd, 1) := by decide +kernel
theorem dX2_firstOf_8 : decode cX2_firstOf 8 = .ok (.istore_n 3, 1) := by decide +kernel
theorem dX2_firstOf_9 : decode cX2_firstOf 9 = .ok (.iload_n 3, 1) := by decide +kernel
theorem dX2_firstOf_10 : decode cX2_firstOf 10 = .ok (.ifCond .lt 21, 3) := by decide +kernel
theorem dX2_firstOf_13 : decode cX2_firstOf 13 = .ok (.iload_n 3, 1) := by decide +kernel
theorem dX2_firstOf_14 : decode cX2_firstOf 14 = .ok (.aload_n 0, 1) := by decide +kernel
theorem dX2_firstOf_15 : decode cX2_firstOf 15 = .ok (.getfield 38, 3) := by decide +kernel
theorem dX2_firstOf_18 : decode cX2_firstOf 18 = .ok (.arraylength, 1) := by decide +kernel
theorem dX2_firstOf_19 : decode cX2_firstOf 19 = .ok (.if_icmp .ge 12, 3) := by decide +kernel
theorem dX2_firstOf_22 : decode cX2_firstOf 22 = .ok (.aload_n 0, 1) := by decide +kernel
theorem dX2_firstOf_23 : decode cX2_firstOf 23 = .ok (.getfield 38, 3) := by decide +kernel
theorem dX2_firstOf_26 : decode cX2_firstOf 26 = .ok (.iload_n 3, 1) := by decide +kernel
theorem dX2_firstOf_27 : decode cX2_firstOf 27 = .ok (.iaload, 1) := by decide +kernel
theorem dX2_firstOf_28 : decode cX2_firstOf 28 = .ok (.goto 4, 3) := by decide +kernel
theorem dX2_firstOf_31 : decode cX2_firstOf 31 = .ok (.iconst 0, 1) := by decide +kernel
theorem dX2_firstOf_32 : decode cX2_firstOf 32 = .ok (.ireturn, 1) := by decide +kernel
theorem dX2_secondOf_0 : decode cX2_secondOf 0 = .ok (.iload_n 1, 1) := by decide +kernel
theorem dX2_secondOf_1 : decode cX2_secondOf 1 = .ok (.aload_n 0, 1) := by decide +kernel
theorem dX2_secondOf_2 : decode cX2_secondOf 2 = .ok (.getfield 32, 3) := by decide +kernel
theorem dX2_secondOf_5 : decode cX2_secondOf 5 = .ok (.imul, 1) := by decide +kernel
theorem dX2_secondOf_6 : decode cX2_secondOf 6 = .ok (.iload_n 2, 1) := by decide +kernel
theorem dX2_secondOf_7 : decode cX2_secondOf 7 = .ok (.iadd, 1) := by decide +kernel
theorem dX2_secondOf_8 : decode cX2_secondOf 8 = .ok (.istore_n 3, 1) := by decide +kernel
theorem dX2_secondOf_9 : decode cX2_secondOf 9 = .ok (.iload_n 3, 1) := by decide +kernel
theorem dX2_secondOf_10 : decode cX2_secondOf 10 = .ok (.ifCond .lt 21, 3) := by decide +kernel
theorem dX2_secondOf_13 : decode cX2_secondOf 13 = .ok (.iload_n 3, 1) := by decide +kernel
theorem dX2_secondOf_14 : decode cX2_secondOf 14 = .ok (.aload_n 0, 1) := by decide +kernel
theorem dX2_secondOf_15 : decode cX2_secondOf 15 = .ok (.getfield 41, 3) := by decide +kernel
theorem dX2_secondOf_18 : decode cX2_secondOf 18 = .ok (.arraylength, 1) := by decide +kernel
theorem dX2_secondOf_19 : decode cX2_secondOf 19 = .ok (.if_icmp .ge 12, 3) := by decide +kernel
theorem dX2_secondOf_22 : decode cX2_secondOf 22 = .ok (.aload_n 0, 1) := by decide +kernel
theorem dX2_secondOf_23 : decode cX2_secondOf 23 = .ok (.getfield 41, 3) := by decide +kernel
theorem dX2_secondOf_26 : decode cX2_secondOf 26 = .ok (.iload_n 3, 1) := by decide +kernel
theorem dX2_secondOf_27 : decode cX2_secondOf 27 = .ok (.iaload, 1) := by decide +kernel
theorem dX2_secondOf_28 : decode cX2_secondOf 28 = .ok (.goto 4, 3) := by decide +kernel
theorem dX2_secondOf_31 : decode cX2_secondOf 31 = .ok (.iconst 0, 1) := by decide +kernel
theorem dX2_secondOf_32 : decode cX2_secondOf 32 = .ok (.ireturn, 1) := by decide +kernel
theorem dX2_tooFar_0 : decode cX2_tooFar 0 = .ok (.iload_n 1, 1) := by decide +kernel
theorem dX2_tooFar_1 : decode cX2_tooFar 1 = .ok (.aload_n 0, 1) := by decide +kernel
theorem dX2_tooFar_2 : decode cX2_tooFar 2 = .ok (.getfield 12, 3) := by decide +kernel
theorem dX2_tooFar_5 : decode cX2_tooFar 5 = .ok (.iconst 0, 1) := by decide +kernel
theorem dX2_tooFar_6 : decode cX2_tooFar 6 = .ok (.invokevirtual 55, 3) := by decide +kernel
theorem dX2_tooFar_9 : decode cX2_tooFar 9 = .ok (.imul, 1) := by decide +kernel
theorem dX2_tooFar_10 : decode cX2_tooFar 10 = .ok (.aload_n 0, 1) := by decide +kernel
theorem dX2_tooFar_11 : decode cX2_tooFar 11 = .ok (.getfield 12, 3) := by decide +kernel
theorem dX2_tooFar_14 : decode cX2_tooFar 14 = .ok (.iload_n 3, 1) := by decide +kernel
theorem dX2_tooFar_15 : decode cX2_tooFar 15 = .ok (.invokevirtual 59, 3) := by decide +kernel
theorem dX2_tooFar_18 : decode cX2_tooFar 18 = .ok (.aload_n 0, 1) := by decide +kernel
theorem dX2_tooFar_19 : decode cX2_tooFar 19 = .ok (.getfield 12, 3) := by decide +kernel
theorem dX2_tooFar_22 : decode cX2_tooFar 22 = .ok (.iload_n 2, 1) := by decide +kernel
theorem dX2_tooFar_23 : decode cX2_tooFar 23 = .ok (.invokevirtual 59, 3) := by decide +kernel
theorem dX2_tooFar_26 : decode cX2_tooFar 26 = .ok (.isub, 1) := by decide +kernel
theorem dX2_tooFar_27 : decode cX2_tooFar 27 = .ok (.if_icmp .le 7, 3) := by decide +kernel
theorem dX2_tooFar_30 : decode cX2_tooFar 30 = .ok (.iconst 1, 1) := by decide +kernel
theorem dX2_tooFar_31 : decode cX2_tooFar 31 = .ok (.goto 4, 3) := by decide +kernel
theorem dX2_tooFar_34 : decode cX2_tooFar 34 = .ok (.iconst 0, 1) := by decide +kernel
theorem dX2_tooFar_35 : decode cX2_tooFar 35 = .ok (.ireturn, 1) := by decide +kernel
theorem dX3_init_0 : decode cX3_init 0 = .ok (.aload_n 0, 1) := by decide +kernel
theorem dX3_init_1 : decode cX3_init 1 = .ok (.invokespecial 3, 3) := by decide +kernel
theorem dX3_init_4 : decode cX3_init 4 = .ok (.aload_n 0, 1) := by decide +kernel
theorem dX3_init_5 : decode cX3_init 5 = .ok (.bipush 40, 2) := by decide +kernel
theorem dX3_init_7 : decode cX3_init 7 = .ok (.newarray .int, 2) := by decide +kernel
theorem dX3_init_9 : decode cX3_init 9 = .ok (.putfield 9, 3) := by decide +kernel
theorem dX3_init_12 : decode cX3_init 12 = .ok (.aload_n 0, 1) := by decide +kernel
theorem dX3_init_13 : decode cX3_init 13 = .ok (.iconst 0, 1) := by decide +kernel
theorem dX3_init_14 : decode cX3_init 14 = .ok (.putfield 15, 3) := by decide +kernel
theorem dX3_init_17 : decode cX3_init 17 = .ok (.aload_n 0, 1) := by decide +kernel
theorem dX3_init_18 : decode cX3_init 18 = .ok (.bipush (-2), 2) := by decide +kernel
theorem dX3_init_20 : decode cX3_init 20 = .ok (.putfield 19, 3) := by decide +kernel
theorem dX3_init_23 : decode cX3_init 23 = .ok (.aload_n 0, 1) := by decide +kernel
theorem dX3_init_24 : decode cX3_init 24 = .ok (.iconst 0, 1) := by decide +kernel
theorem dX3_init_25 : decode cX3_init 25 = .ok (.putfield 22, 3) := by decide +kernel
theorem dX3_init_28 : decode cX3_init 28 = .ok (.aload_n 0, 1) := by decide +kernel
theorem dX3_init_29 : decode cX3_init 29 = .ok (.iconst 1, 1) := by decide +kernel
theorem dX3_init_30 : decode cX3_init 30 = .ok (.iload_n 1, 1) := by decide +kernel
theorem dX3_init_31 : decode cX3_init 31 = .ok (.invokestatic 26, 3) := by decide +kernel
theorem dX3_init_34 : decode cX3_init 34 = .ok (.putfield 32, 3) := by decide +kernel
theorem dX3_init_37 : decode cX3_init 37 = .ok (.aload_n 0, 1) := by decide +kernel
theorem dX3_init_38 : decode cX3_init 38 = .ok (.bipush 40, 2) := by decide +kernel
theorem dX3_init_40 : decode cX3_init 40 = .ok (.aload_n 0, 1) := by decide +kernel
theorem dX3_init_41 : decode cX3_init 41 = .ok (.getfield 32, 3) := by decide +kernel
theorem dX3_init_44 : decode cX3_init 44 = .ok (.imul, 1) := by decide +kernel
theorem dX3_init_45 : decode cX3_init 45 = .ok (.newarray .int, 2) := by decide +kernel
theorem dX3_init_47 : decode cX3_init 47 = .ok (.putfield 35, 3) := by decide +kernel
theorem dX3_init_50 : decode cX3_init 50 = .ok (.return_, 1) := by decide +kernel
theorem dX3_refresh_0 : decode cX3_refresh 0 = .ok (.aload_n 0, 1) := by decide +kernel
theorem dX3_refresh_1 : decode cX3_refresh 1 = .ok (.getfield 22, 3) := by decide +kernel
theorem dX3_refresh_4 : decode cX3_refresh 4 = .ok (.ifCond .eq 4, 3) := by decide +kernel
theorem dX3_refresh_7 : decode cX3_refresh 7 = .ok (.return_, 1) := by decide +kernel
theorem dX3_refresh_8 : decode cX3_refresh 8 = .ok (.aload_n 1, 1) := by decide +kernel
theorem dX3_refresh_9 : decode cX3_refresh 9 = .ok (.invokevirtual 38, 3) := by decide +kernel
theorem dX3_refresh_12 : decode cX3_refresh 12 = .ok (.aload_n 0, 1) := by decide +kernel
theorem dX3_refresh_13 : decode cX3_refresh 13 = .ok (.aload_n 0, 1) := by decide +kernel
theorem dX3_refresh_14 : decode cX3_refresh 14 = .ok (.aload_n 1, 1) := by decide +kernel
theorem dX3_refresh_15 : decode cX3_refresh 15 = .ok (.invokevirtual 43, 3) := by decide +kernel
theorem dX3_refresh_18 : decode cX3_refresh 18 = .ok (.putfield 19, 3) := by decide +kernel
theorem dX3_refresh_21 : decode cX3_refresh 21 = .ok (.aload_n 0, 1) := by decide +kernel
theorem dX3_refresh_22 : decode cX3_refresh 22 = .ok (.bipush (-2), 2) := by decide +kernel
theorem dX3_refresh_24 : decode cX3_refresh 24 = .ok (.putfield 15, 3) := by decide +kernel
theorem dX3_refresh_27 : decode cX3_refresh 27 = .ok (.aload_n 0, 1) := by decide +kernel
theorem dX3_refresh_28 : decode cX3_refresh 28 = .ok (.getfield 19, 3) := by decide +kernel
theorem dX3_refresh_31 : decode cX3_refresh 31 = .ok (.bipush (-2), 2) := by decide +kernel
theorem dX3_refresh_33 : decode cX3_refresh 33 = .ok (.if_icmp .ne 25, 3) := by decide +kernel
theorem dX3_refresh_36 : decode cX3_refresh 36 = .ok (.aload_n 0, 1) := by decide +kernel
theorem dX3_refresh_37 : decode cX3_refresh 37 = .ok (.aload_n 1, 1) := by decide +kernel
theorem dX3_refresh_38 : decode cX3_refresh 38 = .ok (.invokevirtual 47, 3) := by decide +kernel
theorem dX3_refresh_41 : decode cX3_refresh 41 = .ok (.aload_n 0, 1) := by decide +kernel
theorem dX3_refresh_42 : decode cX3_refresh 42 = .ok (.aload_n 1, 1) := by decide +kernel
theorem dX3_refresh_43 : decode cX3_refresh 43 = .ok (.invokevirtual 51, 3) := by decide +kernel
theorem dX3_refresh_46 : decode cX3_refresh 46 = .ok (.aload_n 0, 1) := by decide +kernel
theorem dX3_refresh_47 : decode cX3_refresh 47 = .ok (.aload_n 0, 1) := by decide +kernel
theorem dX3_refresh_48 : decode cX3_refresh 48 = .ok (.aload_n 1, 1) := by decide +kernel
theorem dX3_refresh_49 : decode cX3_refresh 49 = .ok (.getfield 54, 3) := by decide +kernel
theorem dX3_refresh_52 : decode cX3_refresh 52 = .ok (.invokevirtual 58, 3) := by decide +kernel
theorem dX3_refresh_55 : decode cX3_refresh 55 = .ok (.putfield 15, 3) := by decide +kernel
theorem dX3_refresh_58 : decode cX3_refresh 58 = .ok (.aload_n 0, 1) := by decide +kernel
theorem dX3_refresh_59 : decode cX3_refresh 59 = .ok (.iconst 1, 1) := by decide +kernel
theorem dX3_refresh_60 : decode cX3_refresh 60 = .ok (.putfield 22, 3) := by decide +kernel
theorem dX3_refresh_63 : decode cX3_refresh 63 = .ok (.return_, 1) := by decide +kernel
theorem dX3_chosenOf_0 : decode cX3_chosenOf 0 = .ok (.iload_n 1, 1) := by decide +kernel
theorem dX3_chosenOf_1 : decode cX3_chosenOf 1 = .ok (.ifCond .lt 18, 3) := by decide +kernel
theorem dX3_chosenOf_4 : decode cX3_chosenOf 4 = .ok (.iload_n 1, 1) := by decide +kernel
theorem dX3_chosenOf_5 : decode cX3_chosenOf 5 = .ok (.bipush 40, 2) := by decide +kernel
theorem dX3_chosenOf_7 : decode cX3_chosenOf 7 = .ok (.if_icmp .ge 12, 3) := by decide +kernel
theorem dX3_chosenOf_10 : decode cX3_chosenOf 10 = .ok (.aload_n 0, 1) := by decide +kernel
theorem dX3_chosenOf_11 : decode cX3_chosenOf 11 = .ok (.getfield 9, 3) := by decide +kernel
theorem dX3_chosenOf_14 : decode cX3_chosenOf 14 = .ok (.iload_n 1, 1) := by decide +kernel
theorem dX3_chosenOf_15 : decode cX3_chosenOf 15 = .ok (.iaload, 1) := by decide +kernel
theorem dX3_chosenOf_16 : decode cX3_chosenOf 16 = .ok (.goto 5, 3) := by decide +kernel
theorem dX3_chosenOf_19 : decode cX3_chosenOf 19 = .ok (.bipush (-2), 2) := by decide +kernel
theorem dX3_chosenOf_21 : decode cX3_chosenOf 21 = .ok (.ireturn, 1) := by decide +kernel
theorem dX3_painsOf_0 : decode cX3_painsOf 0 = .ok (.iload_n 1, 1) := by decide +kernel
theorem dX3_painsOf_1 : decode cX3_painsOf 1 = .ok (.aload_n 0, 1) := by decide +kernel
theorem dX3_painsOf_2 : decode cX3_painsOf 2 = .ok (.getfield 32, 3) := by decide +kernel
theorem dX3_painsOf_5 : decode cX3_painsOf 5 = .ok (.imul, 1) := by decide +kernel
theorem dX3_painsOf_6 : decode cX3_painsOf 6 = .ok (.iload_n 2, 1) := by decide +kernel
theorem dX3_painsOf_7 : decode cX3_painsOf 7 = .ok (.iadd, 1) := by decide +kernel
theorem dX3_painsOf_8 : decode cX3_painsOf 8 = .ok (.istore_n 3, 1) := by decide +kernel
theorem dX3_painsOf_9 : decode cX3_painsOf 9 = .ok (.iload_n 3, 1) := by decide +kernel
theorem dX3_painsOf_10 : decode cX3_painsOf 10 = .ok (.ifCond .lt 21, 3) := by decide +kernel
theorem dX3_painsOf_13 : decode cX3_painsOf 13 = .ok (.iload_n 3, 1) := by decide +kernel
theorem dX3_painsOf_14 : decode cX3_painsOf 14 = .ok (.aload_n 0, 1) := by decide +kernel
theorem dX3_painsOf_15 : decode cX3_painsOf 15 = .ok (.getfield 35, 3) := by decide +kernel
theorem dX3_painsOf_18 : decode cX3_painsOf 18 = .ok (.arraylength, 1) := by decide +kernel
theorem dX3_painsOf_19 : decode cX3_painsOf 19 = .ok (.if_icmp .ge 12, 3) := by decide +kernel
theorem dX3_painsOf_22 : decode cX3_painsOf 22 = .ok (.aload_n 0, 1) := by decide +kernel
theorem dX3_painsOf_23 : decode cX3_painsOf 23 = .ok (.getfield 35, 3) := by decide +kernel
theorem dX3_painsOf_26 : decode cX3_painsOf 26 = .ok (.iload_n 3, 1) := by decide +kernel
theorem dX3_painsOf_27 : decode cX3_painsOf 27 = .ok (.iaload, 1) := by decide +kernel
theorem dX3_painsOf_28 : decode cX3_painsOf 28 = .ok (.goto 5, 3) := by decide +kernel
theorem dX3_painsOf_31 : decode cX3_painsOf 31 = .ok (.ldc 62, 2) := by decide +kernel
theorem dX3_painsOf_33 : decode cX3_painsOf 33 = .ok (.ireturn, 1) := by decide +kernel
theorem dX3_setPains_0 : decode cX3_setPains 0 = .ok (.iload_n 1, 1) := by decide +kernel
theorem dX3_setPains_1 : decode cX3_setPains 1 = .ok (.aload_n 0, 1) := by decide +kernel
theorem dX3_setPains_2 : decode cX3_setPains 2 = .ok (.getfield 32, 3) := by decide +kernel
theorem dX3_setPains_5 : decode cX3_setPains 5 = .ok (.imul, 1) := by decide +kernel
theorem dX3_setPains_6 : decode cX3_setPains 6 = .ok (.iload_n 2, 1) := by decide +kernel
theorem dX3_setPains_7 : decode cX3_setPains 7 = .ok (.iadd, 1) := by decide +kernel
theorem dX3_setPains_8 : decode cX3_setPains 8 = .ok (.istore 4, 2) := by decide +kernel
theorem dX3_setPains_10 : decode cX3_setPains 10 = .ok (.iload 4, 2) := by decide +kernel
theorem dX3_setPains_12 : decode cX3_setPains 12 = .ok (.ifCond .lt 21, 3) := by decide +kernel
theorem dX3_setPains_15 : decode cX3_setPains 15 = .ok (.iload 4, 2) := by decide +kernel
theorem dX3_setPains_17 : decode cX3_setPains 17 = .ok (.aload_n 0, 1) := by decide +kernel
theorem dX3_setPains_18 : decode cX3_setPains 18 = .ok (.getfield 35, 3) := by decide +kernel
theorem dX3_setPains_21 : decode cX3_setPains 21 = .ok (.arraylength, 1) := by decide +kernel
theorem dX3_setPains_22 : decode cX3_setPains 22 = .ok (.if_icmp .ge 11, 3) := by decide +kernel
theorem dX3_setPains_25 : decode cX3_setPains 25 = .ok (.aload_n 0, 1) := by decide +kernel
theorem dX3_setPains_26 : decode cX3_setPains 26 = .ok (.getfield 35, 3) := by decide +kernel
theorem dX3_setPains_29 : decode cX3_setPains 29 = .ok (.iload 4, 2) := by decide +kernel
theorem dX3_setPains_31 : decode cX3_setPains 31 = .ok (.iload_n 3, 1) := by decide +kernel
theorem dX3_setPains_32 : decode cX3_setPains 32 = .ok (.iastore, 1) := by decide +kernel
theorem dX3_setPains_33 : decode cX3_setPains 33 = .ok (.return_, 1) := by decide +kernel
theorem dX3_firstStuck_0 : decode cX3_firstStuck 0 = .ok (.iconst 0, 1) := by decide +kernel
theorem dX3_firstStuck_1 : decode cX3_firstStuck 1 = .ok (.istore_n 2, 1) := by decide +kernel
theorem dX3_firstStuck_2 : decode cX3_firstStuck 2 = .ok (.iload_n 2, 1) := by decide +kernel
theorem dX3_firstStuck_3 : decode cX3_firstStuck 3 = .ok (.aload_n 1, 1) := by decide +kernel
theorem dX3_firstStuck_4 : decode cX3_firstStuck 4 = .ok (.getfield 54, 3) := by decide +kernel
theorem dX3_firstStuck_7 : decode cX3_firstStuck 7 = .ok (.getfield 63, 3) := by decide +kernel
theorem dX3_firstStuck_10 : decode cX3_firstStuck 10 = .ok (.if_icmp .ge 20, 3) := by decide +kernel
theorem dX3_firstStuck_13 : decode cX3_firstStuck 13 = .ok (.aload_n 0, 1) := by decide +kernel
theorem dX3_firstStuck_14 : decode cX3_firstStuck 14 = .ok (.aload_n 1, 1) := by decide +kernel
theorem dX3_firstStuck_15 : decode cX3_firstStuck 15 = .ok (.iload_n 2, 1) := by decide +kernel
theorem dX3_firstStuck_16 : decode cX3_firstStuck 16 = .ok (.invokevirtual 68, 3) := by decide +kernel
theorem dX3_firstStuck_19 : decode cX3_firstStuck 19 = .ok (.ifCond .ne 5, 3) := by decide +kernel
theorem dX3_firstStuck_22 : decode cX3_firstStuck 22 = .ok (.iload_n 2, 1) := by decide +kernel
theorem dX3_firstStuck_23 : decode cX3_firstStuck 23 = .ok (.ireturn, 1) := by decide +kernel
theorem dX3_firstStuck_24 : decode cX3_firstStuck 24 = .ok (.iinc 2 1, 3) := by decide +kernel
theorem dX3_firstStuck_27 : decode cX3_firstStuck 27 = .ok (.goto (-25), 3) := by decide +kernel
theorem dX3_firstStuck_30 : decode cX3_firstStuck 30 = .ok (.bipush (-2), 2) := by decide +kernel
theorem dX3_firstStuck_32 : decode cX3_firstStuck 32 = .ok (.ireturn, 1) := by decide +kernel
theorem dX3_isReached_0 : decode cX3_isReached 0 = .ok (.aload_n 1, 1) := by decide +kernel
theorem dX3_isReached_1 : decode cX3_isReached 1 = .ok (.getfield 54, 3) := by decide +kernel
theorem dX3_isReached_4 : decode cX3_isReached 4 = .ok (.iload_n 2, 1) := by decide +kernel
theorem dX3_isReached_5 : decode cX3_isReached 5 = .ok (.invokevirtual 72, 3) := by decide +kernel
theorem dX3_isReached_8 : decode cX3_isReached 8 = .ok (.istore_n 3, 1) := by decide +kernel
theorem dX3_isReached_9 : decode cX3_isReached 9 = .ok (.iconst 0, 1) := by decide +kernel
theorem dX3_isReached_10 : decode cX3_isReached 10 = .ok (.istore 4, 2) := by decide +kernel
theorem dX3_isReached_12 : decode cX3_isReached 12 = .ok (.iconst 0, 1) := by decide +kernel
theorem dX3_isReached_13 : decode cX3_isReached 13 = .ok (.istore 5, 2) := by decide +kernel
theorem dX3_isReached_15 : decode cX3_isReached 15 = .ok (.iload 5, 2) := by decide +kernel
theorem dX3_isReached_17 : decode cX3_isReached 17 = .ok (.aload_n 1, 1) := by decide +kernel
theorem dX3_isReached_18 : decode cX3_isReached 18 = .ok (.iload_n 2, 1) := by decide +kernel
theorem dX3_isReached_19 : decode cX3_isReached 19 = .ok (.invokevirtual 76, 3) := by decide +kernel
theorem dX3_isReached_22 : decode cX3_isReached 22 = .ok (.if_icmp .ge 80, 3) := by decide +kernel
theorem dX3_isReached_25 : decode cX3_isReached 25 = .ok (.aload_n 1, 1) := by decide +kernel
theorem dX3_isReached_26 : decode cX3_isReached 26 = .ok (.getfield 54, 3) := by decide +kernel
theorem dX3_isReached_29 : decode cX3_isReached 29 = .ok (.iload_n 2, 1) := by decide +kernel
theorem dX3_isReached_30 : decode cX3_isReached 30 = .ok (.iload 5, 2) := by decide +kernel
theorem dX3_isReached_32 : decode cX3_isReached 32 = .ok (.invokevirtual 79, 3) := by decide +kernel
theorem dX3_isReached_35 : decode cX3_isReached 35 = .ok (.ifCond .eq 23, 3) := by decide +kernel
theorem dX3_isReached_38 : decode cX3_isReached 38 = .ok (.iload_n 3, 1) := by decide +kernel
theorem dX3_isReached_39 : decode cX3_isReached 39 = .ok (.ifCond .lt 15, 3) := by decide +kernel
theorem dX3_isReached_42 : decode cX3_isReached 42 = .ok (.aload_n 0, 1) := by decide +kernel
theorem dX3_isReached_43 : decode cX3_isReached 43 = .ok (.aload_n 1, 1) := by decide +kernel
theorem dX3_isReached_44 : decode cX3_isReached 44 = .ok (.iload_n 3, 1) := by decide +kernel
theorem dX3_isReached_45 : decode cX3_isReached 45 = .ok (.iload_n 2, 1) := by decide +kernel
theorem dX3_isReached_46 : decode cX3_isReached 46 = .ok (.iload 5, 2) := by decide +kernel
theorem dX3_isReached_48 : decode cX3_isReached 48 = .ok (.invokevirtual 83, 3) := by decide +kernel
theorem dX3_isReached_51 : decode cX3_isReached 51 = .ok (.ifCond .eq 7, 3) := by decide +kernel
theorem dX3_isReached_54 : decode cX3_isReached 54 = .ok (.iconst 1, 1) := by decide +kernel
theorem dX3_isReached_55 : decode cX3_isReached 55 = .ok (.goto 4, 3) := by decide +kernel
theorem dX3_isReached_58 : decode cX3_isReached 58 = .ok (.iconst 0, 1) := by decide +kernel
theorem dX3_isReached_59 : decode cX3_isReached 59 = .ok (.istore 6, 2) := by decide +kernel
theorem dX3_isReached_61 : decode cX3_isReached 61 = .ok (.aload_n 0, 1) := by decide +kernel
theorem dX3_isReached_62 : decode cX3_isReached 62 = .ok (.iload_n 2, 1) := by decide +kernel
theorem dX3_isReached_63 : decode cX3_isReached 63 = .ok (.iload 5, 2) := by decide +kernel
theorem dX3_isReached_65 : decode cX3_isReached 65 = .ok (.iload 6, 2) := by decide +kernel
theorem dX3_isReached_67 : decode cX3_isReached 67 = .ok (.ifCond .eq 7, 3) := by decide +kernel
theorem dX3_isReached_70 : decode cX3_isReached 70 = .ok (.iconst 0, 1) := by decide +kernel
theorem dX3_isReached_71 : decode cX3_isReached 71 = .ok (.goto 5, 3) := by decide +kernel
theorem dX3_isReached_74 : decode cX3_isReached 74 = .ok (.ldc 62, 2) := by decide +kernel
theorem dX3_isReached_76 : decode cX3_isReached 76 = .ok (.invokevirtual 87, 3) := by decide +kernel
theorem dX3_isReached_79 : decode cX3_isReached 79 = .ok (.iload 4, 2) := by decide +kernel
theorem dX3_isReached_81 : decode cX3_isReached 81 = .ok (.ifCond .ne 8, 3) := by decide +kernel
theorem dX3_isReached_84 : decode cX3_isReached 84 = .ok (.iload 6, 2) := by decide +kernel
theorem dX3_isReached_86 : decode cX3_isReached 86 = .ok (.ifCond .eq 7, 3) := by decide +kernel
theorem dX3_isReached_89 : decode cX3_isReached 89 = .ok (.iconst 1, 1) := by decide +kernel
theorem dX3_isReached_90 : decode cX3_isReached 90 = .ok (.goto 4, 3) := by decide +kernel
theorem dX3_isReached_93 : decode cX3_isReached 93 = .ok (.iconst 0, 1) := by decide +kernel
theorem dX3_isReached_94 : decode cX3_isReached 94 = .ok (.istore 4, 2) := by decide +kernel
theorem dX3_isReached_96 : decode cX3_isReached 96 = .ok (.iinc 5 1, 3) := by decide +kernel
theorem dX3_isReached_99 : decode cX3_isReached 99 = .ok (.goto (-84), 3) := by decide +kernel
theorem dX3_isReached_102 : decode cX3_isReached 102 = .ok (.iload 4, 2) := by decide +kernel
theorem dX3_isReached_104 : decode cX3_isReached 104 = .ok (.ireturn, 1) := by decide +kernel
theorem dX3_canCome_0 : decode cX3_canCome 0 = .ok (.iconst 0, 1) := by decide +kernel
theorem dX3_canCome_1 : decode cX3_canCome 1 = .ok (.istore 5, 2) := by decide +kernel
theorem dX3_canCome_3 : decode cX3_canCome 3 = .ok (.iload 5, 2) := by decide +kernel
theorem dX3_canCome_5 : decode cX3_canCome 5 = .ok (.aload_n 1, 1) := by decide +kernel
theorem dX3_canCome_6 : decode cX3_canCome 6 = .ok (.iload_n 2, 1) := by decide +kernel
theorem dX3_canCome_7 : decode cX3_canCome 7 = .ok (.invokevirtual 76, 3) := by decide +kernel
theorem dX3_canCome_10 : decode cX3_canCome 10 = .ok (.if_icmp .ge 36, 3) := by decide +kernel
theorem dX3_canCome_13 : decode cX3_canCome 13 = .ok (.aload_n 0, 1) := by decide +kernel
theorem dX3_canCome_14 : decode cX3_canCome 14 = .ok (.iload_n 2, 1) := by decide +kernel
theorem dX3_canCome_15 : decode cX3_canCome 15 = .ok (.iload 5, 2) := by decide +kernel
theorem dX3_canCome_17 : decode cX3_canCome 17 = .ok (.invokevirtual 91, 3) := by decide +kernel
theorem dX3_canCome_20 : decode cX3_canCome 20 = .ok (.ifCond .ne 20, 3) := by decide +kernel
theorem dX3_canCome_23 : decode cX3_canCome 23 = .ok (.aload_n 1, 1) := by decide +kernel
theorem dX3_canCome_24 : decode cX3_canCome 24 = .ok (.iload_n 2, 1) := by decide +kernel
theorem dX3_canCome_25 : decode cX3_canCome 25 = .ok (.iload 5, 2) := by decide +kernel
theorem dX3_canCome_27 : decode cX3_canCome 27 = .ok (.iload_n 3, 1) := by decide +kernel
theorem dX3_canCome_28 : decode cX3_canCome 28 = .ok (.iload 4, 2) := by decide +kernel
theorem dX3_canCome_30 : decode cX3_canCome 30 = .ok (.invokevirtual 94, 3) := by decide +kernel
theorem dX3_canCome_33 : decode cX3_canCome 33 = .ok (.bipush (-2), 2) := by decide +kernel
theorem dX3_canCome_35 : decode cX3_canCome 35 = .ok (.if_icmp .eq 5, 3) := by decide +kernel
theorem dX3_canCome_38 : decode cX3_canCome 38 = .ok (.iconst 1, 1) := by decide +kernel
theorem dX3_canCome_39 : decode cX3_canCome 39 = .ok (.ireturn, 1) := by decide +kernel
theorem dX3_canCome_40 : decode cX3_canCome 40 = .ok (.iinc 5 1, 3) := by decide +kernel
theorem dX3_canCome_43 : decode cX3_canCome 43 = .ok (.goto (-40), 3) := by decide +kernel
theorem dX3_canCome_46 : decode cX3_canCome 46 = .ok (.iconst 0, 1) := by decide +kernel
theorem dX3_canCome_47 : decode cX3_canCome 47 = .ok (.ireturn, 1) := by decide +kernel
theorem dX3_weighRests_0 : decode cX3_weighRests 0 = .ok (.aload_n 1, 1) := by decide +kernel
theorem dX3_weighRests_1 : decode cX3_weighRests 1 = .ok (.getfield 54, 3) := by decide +kernel
theorem dX3_weighRests_4 : decode cX3_weighRests 4 = .ok (.getfield 63, 3) := by decide +kernel
theorem dX3_weighRests_7 : decode cX3_weighRests 7 = .ok (.iconst 1, 1) := by decide +kernel
theorem dX3_weighRests_8 : decode cX3_weighRests 8 = .ok (.isub, 1) := by decide +kernel
theorem dX3_weighRests_9 : decode cX3_weighRests 9 = .ok (.istore_n 2, 1) := by decide +kernel
theorem dX3_weighRests_10 : decode cX3_weighRests 10 = .ok (.iload_n 2, 1) := by decide +kernel
theorem dX3_weighRests_11 : decode cX3_weighRests 11 = .ok (.ifCond .lt 95, 3) := by decide +kernel
theorem dX3_weighRests_14 : decode cX3_weighRests 14 = .ok (.aload_n 1, 1) := by decide +kernel
theorem dX3_weighRests_15 : decode cX3_weighRests 15 = .ok (.getfield 54, 3) := by decide +kernel
theorem dX3_weighRests_18 : decode cX3_weighRests 18 = .ok (.iload_n 2, 1) := by decide +kernel
theorem dX3_weighRests_19 : decode cX3_weighRests 19 = .ok (.invokevirtual 98, 3) := by decide +kernel
theorem dX3_weighRests_22 : decode cX3_weighRests 22 = .ok (.istore_n 3, 1) := by decide +kernel
theorem dX3_weighRests_23 : decode cX3_weighRests 23 = .ok (.iconst 0, 1) := by decide +kernel
theorem dX3_weighRests_24 : decode cX3_weighRests 24 = .ok (.istore 4, 2) := by decide +kernel
theorem dX3_weighRests_26 : decode cX3_weighRests 26 = .ok (.iload 4, 2) := by decide +kernel
theorem dX3_weighRests_28 : decode cX3_weighRests 28 = .ok (.aload_n 1, 1) := by decide +kernel
theorem dX3_weighRests_29 : decode cX3_weighRests 29 = .ok (.iload_n 2, 1) := by decide +kernel
theorem dX3_weighRests_30 : decode cX3_weighRests 30 = .ok (.invokevirtual 76, 3) := by decide +kernel
theorem dX3_weighRests_33 : decode cX3_weighRests 33 = .ok (.if_icmp .ge 67, 3) := by decide +kernel
theorem dX3_weighRests_36 : decode cX3_weighRests 36 = .ok (.ldc 62, 2) := by decide +kernel
theorem dX3_weighRests_38 : decode cX3_weighRests 38 = .ok (.istore 5, 2) := by decide +kernel
theorem dX3_weighRests_40 : decode cX3_weighRests 40 = .ok (.aload_n 1, 1) := by decide +kernel
theorem dX3_weighRests_41 : decode cX3_weighRests 41 = .ok (.getfield 54, 3) := by decide +kernel
theorem dX3_weighRests_44 : decode cX3_weighRests 44 = .ok (.iload_n 2, 1) := by decide +kernel
theorem dX3_weighRests_45 : decode cX3_weighRests 45 = .ok (.iload 4, 2) := by decide +kernel
theorem dX3_weighRests_47 : decode cX3_weighRests 47 = .ok (.invokevirtual 79, 3) := by decide +kernel
theorem dX3_weighRests_50 : decode cX3_weighRests 50 = .ok (.ifCond .eq 22, 3) := by decide +kernel
theorem dX3_weighRests_53 : decode cX3_weighRests 53 = .ok (.iload_n 3, 1) := by decide +kernel
theorem dX3_weighRests_54 : decode cX3_weighRests 54 = .ok (.ifCond .ge 7, 3) := by decide +kernel
theorem dX3_weighRests_57 : decode cX3_weighRests 57 = .ok (.iconst 0, 1) := by decide +kernel
theorem dX3_weighRests_58 : decode cX3_weighRests 58 = .ok (.goto 12, 3) := by decide +kernel
theorem dX3_weighRests_61 : decode cX3_weighRests 61 = .ok (.aload_n 0, 1) := by decide +kernel
theorem dX3_weighRests_62 : decode cX3_weighRests 62 = .ok (.aload_n 1, 1) := by decide +kernel
theorem dX3_weighRests_63 : decode cX3_weighRests 63 = .ok (.iload_n 2, 1) := by decide +kernel
theorem dX3_weighRests_64 : decode cX3_weighRests 64 = .ok (.iload 4, 2) := by decide +kernel
theorem dX3_weighRests_66 : decode cX3_weighRests 66 = .ok (.iload_n 3, 1) := by decide +kernel
theorem dX3_weighRests_67 : decode cX3_weighRests 67 = .ok (.invokevirtual 101, 3) := by decide +kernel
theorem dX3_weighRests_70 : decode cX3_weighRests 70 = .ok (.istore 5, 2) := by decide +kernel
theorem dX3_weighRests_72 : decode cX3_weighRests 72 = .ok (.aload_n 0, 1) := by decide +kernel
theorem dX3_weighRests_73 : decode cX3_weighRests 73 = .ok (.iload_n 2, 1) := by decide +kernel
theorem dX3_weighRests_74 : decode cX3_weighRests 74 = .ok (.iload 4, 2) := by decide +kernel
theorem dX3_weighRests_76 : decode cX3_weighRests 76 = .ok (.ldc 62, 2) := by decide +kernel
theorem dX3_weighRests_78 : decode cX3_weighRests 78 = .ok (.iload 5, 2) := by decide +kernel
theorem dX3_weighRests_80 : decode cX3_weighRests 80 = .ok (.aload_n 1, 1) := by decide +kernel
theorem dX3_weighRests_81 : decode cX3_weighRests 81 = .ok (.iload_n 2, 1) := by decide +kernel
theorem dX3_weighRests_82 : decode cX3_weighRests 82 = .ok (.iload 4, 2) := by decide +kernel
theorem dX3_weighRests_84 : decode cX3_weighRests 84 = .ok (.invokevirtual 105, 3) := by decide +kernel
theorem dX3_weighRests_87 : decode cX3_weighRests 87 = .ok (.iadd, 1) := by decide +kernel
theorem dX3_weighRests_88 : decode cX3_weighRests 88 = .ok (.invokestatic 108, 3) := by decide +kernel
theorem dX3_weighRests_91 : decode cX3_weighRests 91 = .ok (.invokevirtual 87, 3) := by decide +kernel
theorem dX3_weighRests_94 : decode cX3_weighRests 94 = .ok (.iinc 4 1, 3) := by decide +kernel
theorem dX3_weighRests_97 : decode cX3_weighRests 97 = .ok (.goto (-71), 3) := by decide +kernel
theorem dX3_weighRests_100 : decode cX3_weighRests 100 = .ok (.iinc 2 (-1), 3) := by decide +kernel
theorem dX3_weighRests_103 : decode cX3_weighRests 103 = .ok (.goto (-93), 3) := by decide +kernel
theorem dX3_weighRests_106 : decode cX3_weighRests 106 = .ok (.return_, 1) := by decide +kernel
theorem dX3_cheapestOnward_0 : decode cX3_cheapestOnward 0 = .ok (.ldc 62, 2) := by decide +kernel
theorem dX3_cheapestOnward_2 : decode cX3_cheapestOnward 2 = .ok (.istore 5, 2) := by decide +kernel
theorem dX3_cheapestOnward_4 : decode cX3_cheapestOnward 4 = .ok (.iconst 0, 1) := by decide +kernel
theorem dX3_cheapestOnward_5 : decode cX3_cheapestOnward 5 = .ok (.istore 6, 2) := by decide +kernel
theorem dX3_cheapestOnward_7 : decode cX3_cheapestOnward 7 = .ok (.iload 6, 2) := by decide +kernel
theorem dX3_cheapestOnward_9 : decode cX3_cheapestOnward 9 = .ok (.aload_n 1, 1) := by decide +kernel
theorem dX3_cheapestOnward_10 : decode cX3_cheapestOnward 10 = .ok (.iload 4, 2) := by decide +kernel
theorem dX3_cheapestOnward_12 : decode cX3_cheapestOnward 12 = .ok (.invokevirtual 76, 3) := by decide +kernel
theorem dX3_cheapestOnward_15 : decode cX3_cheapestOnward 15 = .ok (.if_icmp .ge 46, 3) := by decide +kernel
theorem dX3_cheapestOnward_18 : decode cX3_cheapestOnward 18 = .ok (.aload_n 1, 1) := by decide +kernel
theorem dX3_cheapestOnward_19 : decode cX3_cheapestOnward 19 = .ok (.iload_n 2, 1) := by decide +kernel
theorem dX3_cheapestOnward_20 : decode cX3_cheapestOnward 20 = .ok (.iload_n 3, 1) := by decide +kernel
theorem dX3_cheapestOnward_21 : decode cX3_cheapestOnward 21 = .ok (.iload 4, 2) := by decide +kernel
theorem dX3_cheapestOnward_23 : decode cX3_cheapestOnward 23 = .ok (.iload 6, 2) := by decide +kernel
theorem dX3_cheapestOnward_25 : decode cX3_cheapestOnward 25 = .ok (.invokevirtual 94, 3) := by decide +kernel
theorem dX3_cheapestOnward_28 : decode cX3_cheapestOnward 28 = .ok (.istore 7, 2) := by decide +kernel
theorem dX3_cheapestOnward_30 : decode cX3_cheapestOnward 30 = .ok (.iload 7, 2) := by decide +kernel
theorem dX3_cheapestOnward_32 : decode cX3_cheapestOnward 32 = .ok (.bipush (-2), 2) := by decide +kernel
theorem dX3_cheapestOnward_34 : decode cX3_cheapestOnward 34 = .ok (.if_icmp .eq 21, 3) := by decide +kernel
theorem dX3_cheapestOnward_37 : decode cX3_cheapestOnward 37 = .ok (.iload 5, 2) := by decide +kernel
theorem dX3_cheapestOnward_39 : decode cX3_cheapestOnward 39 = .ok (.iload 7, 2) := by decide +kernel
theorem dX3_cheapestOnward_41 : decode cX3_cheapestOnward 41 = .ok (.aload_n 0, 1) := by decide +kernel
theorem dX3_cheapestOnward_42 : decode cX3_cheapestOnward 42 = .ok (.iload 4, 2) := by decide +kernel
theorem dX3_cheapestOnward_44 : decode cX3_cheapestOnward 44 = .ok (.iload 6, 2) := by decide +kernel
theorem dX3_cheapestOnward_46 : decode cX3_cheapestOnward 46 = .ok (.invokevirtual 91, 3) := by decide +kernel
theorem dX3_cheapestOnward_49 : decode cX3_cheapestOnward 49 = .ok (.iadd, 1) := by decide +kernel
theorem dX3_cheapestOnward_50 : decode cX3_cheapestOnward 50 = .ok (.invokestatic 108, 3) := by decide +kernel
theorem dX3_cheapestOnward_53 : decode cX3_cheapestOnward 53 = .ok (.istore 5, 2) := by decide +kernel
theorem dX3_cheapestOnward_55 : decode cX3_cheapestOnward 55 = .ok (.iinc 6 1, 3) := by decide +kernel
theorem dX3_cheapestOnward_58 : decode cX3_cheapestOnward 58 = .ok (.goto (-51), 3) := by decide +kernel
theorem dX3_cheapestOnward_61 : decode cX3_cheapestOnward 61 = .ok (.iload 5, 2) := by decide +kernel
theorem dX3_cheapestOnward_63 : decode cX3_cheapestOnward 63 = .ok (.ireturn, 1) := by decide +kernel
theorem dX3_chooseWay_0 : decode cX3_chooseWay 0 = .ok (.iconst 0, 1) := by decide +kernel
theorem dX3_chooseWay_1 : decode cX3_chooseWay 1 = .ok (.istore_n 2, 1) := by decide +kernel
theorem dX3_chooseWay_2 : decode cX3_chooseWay 2 = .ok (.iload_n 2, 1) := by decide +kernel
theorem dX3_chooseWay_3 : decode cX3_chooseWay 3 = .ok (.aload_n 1, 1) := by decide +kernel
theorem dX3_chooseWay_4 : decode cX3_chooseWay 4 = .ok (.getfield 54, 3) := by decide +kernel
theorem dX3_chooseWay_7 : decode cX3_chooseWay 7 = .ok (.getfield 63, 3) := by decide +kernel
theorem dX3_chooseWay_10 : decode cX3_chooseWay 10 = .ok (.if_icmp .ge 35, 3) := by decide +kernel
theorem dX3_chooseWay_13 : decode cX3_chooseWay 13 = .ok (.iload_n 2, 1) := by decide +kernel
theorem dX3_chooseWay_14 : decode cX3_chooseWay 14 = .ok (.bipush 40, 2) := by decide +kernel
theorem dX3_chooseWay_16 : decode cX3_chooseWay 16 = .ok (.if_icmp .ge 29, 3) := by decide +kernel
theorem dX3_chooseWay_19 : decode cX3_chooseWay 19 = .ok (.aload_n 0, 1) := by decide +kernel
theorem dX3_chooseWay_20 : decode cX3_chooseWay 20 = .ok (.getfield 9, 3) := by decide +kernel
theorem dX3_chooseWay_23 : decode cX3_chooseWay 23 = .ok (.iload_n 2, 1) := by decide +kernel
theorem dX3_chooseWay_24 : decode cX3_chooseWay 24 = .ok (.aload_n 0, 1) := by decide +kernel
theorem dX3_chooseWay_25 : decode cX3_chooseWay 25 = .ok (.aload_n 1, 1) := by decide +kernel
theorem dX3_chooseWay_26 : decode cX3_chooseWay 26 = .ok (.aload_n 1, 1) := by decide +kernel
theorem dX3_chooseWay_27 : decode cX3_chooseWay 27 = .ok (.getfield 54, 3) := by decide +kernel
theorem dX3_chooseWay_30 : decode cX3_chooseWay 30 = .ok (.iload_n 2, 1) := by decide +kernel
theorem dX3_chooseWay_31 : decode cX3_chooseWay 31 = .ok (.invokevirtual 72, 3) := by decide +kernel
theorem dX3_chooseWay_34 : decode cX3_chooseWay 34 = .ok (.iload_n 2, 1) := by decide +kernel
theorem dX3_chooseWay_35 : decode cX3_chooseWay 35 = .ok (.invokevirtual 111, 3) := by decide +kernel
theorem dX3_chooseWay_38 : decode cX3_chooseWay 38 = .ok (.iastore, 1) := by decide +kernel
theorem dX3_chooseWay_39 : decode cX3_chooseWay 39 = .ok (.iinc 2 1, 3) := by decide +kernel
theorem dX3_chooseWay_42 : decode cX3_chooseWay 42 = .ok (.goto (-40), 3) := by decide +kernel
theorem dX3_chooseWay_45 : decode cX3_chooseWay 45 = .ok (.return_, 1) := by decide +kernel
theorem dX3_bestState_0 : decode cX3_bestState 0 = .ok (.iconst 0, 1) := by decide +kernel
theorem dX3_bestState_1 : decode cX3_bestState 1 = .ok (.istore 4, 2) := by decide +kernel
theorem dX3_bestState_3 : decode cX3_bestState 3 = .ok (.ldc 62, 2) := by decide +kernel
theorem dX3_bestState_5 : decode cX3_bestState 5 = .ok (.istore 5, 2) := by decide +kernel
theorem dX3_bestState_7 : decode cX3_bestState 7 = .ok (.iconst 0, 1) := by decide +kernel
theorem dX3_bestState_8 : decode cX3_bestState 8 = .ok (.istore 6, 2) := by decide +kernel
theorem dX3_bestState_10 : decode cX3_bestState 10 = .ok (.iload 6, 2) := by decide +kernel
theorem dX3_bestState_12 : decode cX3_bestState 12 = .ok (.aload_n 1, 1) := by decide +kernel
theorem dX3_bestState_13 : decode cX3_bestState 13 = .ok (.iload_n 3, 1) := by decide +kernel
theorem dX3_bestState_14 : decode cX3_bestState 14 = .ok (.invokevirtual 76, 3) := by decide +kernel
theorem dX3_bestState_17 : decode cX3_bestState 17 = .ok (.if_icmp .ge 70, 3) := by decide +kernel
theorem dX3_bestState_20 : decode cX3_bestState 20 = .ok (.iload_n 2, 1) := by decide +kernel
theorem dX3_bestState_21 : decode cX3_bestState 21 = .ok (.ifCond .ge 7, 3) := by decide +kernel
theorem dX3_bestState_24 : decode cX3_bestState 24 = .ok (.iconst 0, 1) := by decide +kernel
theorem dX3_bestState_25 : decode cX3_bestState 25 = .ok (.goto 16, 3) := by decide +kernel
theorem dX3_bestState_28 : decode cX3_bestState 28 = .ok (.aload_n 1, 1) := by decide +kernel
theorem dX3_bestState_29 : decode cX3_bestState 29 = .ok (.iload_n 2, 1) := by decide +kernel
theorem dX3_bestState_30 : decode cX3_bestState 30 = .ok (.aload_n 0, 1) := by decide +kernel
theorem dX3_bestState_31 : decode cX3_bestState 31 = .ok (.iload_n 2, 1) := by decide +kernel
theorem dX3_bestState_32 : decode cX3_bestState 32 = .ok (.invokevirtual 115, 3) := by decide +kernel
theorem dX3_bestState_35 : decode cX3_bestState 35 = .ok (.iload_n 3, 1) := by decide +kernel
theorem dX3_bestState_36 : decode cX3_bestState 36 = .ok (.iload 6, 2) := by decide +kernel
theorem dX3_bestState_38 : decode cX3_bestState 38 = .ok (.invokevirtual 94, 3) := by decide +kernel
theorem dX3_bestState_41 : decode cX3_bestState 41 = .ok (.istore 7, 2) := by decide +kernel
theorem dX3_bestState_43 : decode cX3_bestState 43 = .ok (.iload 7, 2) := by decide +kernel
theorem dX3_bestState_45 : decode cX3_bestState 45 = .ok (.bipush (-2), 2) := by decide +kernel
theorem dX3_bestState_47 : decode cX3_bestState 47 = .ok (.if_icmp .eq 34, 3) := by decide +kernel
theorem dX3_bestState_50 : decode cX3_bestState 50 = .ok (.iload 7, 2) := by decide +kernel
theorem dX3_bestState_52 : decode cX3_bestState 52 = .ok (.aload_n 0, 1) := by decide +kernel
theorem dX3_bestState_53 : decode cX3_bestState 53 = .ok (.iload_n 3, 1) := by decide +kernel
theorem dX3_bestState_54 : decode cX3_bestState 54 = .ok (.iload 6, 2) := by decide +kernel
theorem dX3_bestState_56 : decode cX3_bestState 56 = .ok (.invokevirtual 91, 3) := by decide +kernel
theorem dX3_bestState_59 : decode cX3_bestState 59 = .ok (.iadd, 1) := by decide +kernel
theorem dX3_bestState_60 : decode cX3_bestState 60 = .ok (.iload 5, 2) := by decide +kernel
theorem dX3_bestState_62 : decode cX3_bestState 62 = .ok (.if_icmp .ge 19, 3) := by decide +kernel
theorem dX3_bestState_65 : decode cX3_bestState 65 = .ok (.iload 6, 2) := by decide +kernel
theorem dX3_bestState_67 : decode cX3_bestState 67 = .ok (.istore 4, 2) := by decide +kernel
theorem dX3_bestState_69 : decode cX3_bestState 69 = .ok (.iload 7, 2) := by decide +kernel
theorem dX3_bestState_71 : decode cX3_bestState 71 = .ok (.aload_n 0, 1) := by decide +kernel
theorem dX3_bestState_72 : decode cX3_bestState 72 = .ok (.iload_n 3, 1) := by decide +kernel
theorem dX3_bestState_73 : decode cX3_bestState 73 = .ok (.iload 6, 2) := by decide +kernel
theorem dX3_bestState_75 : decode cX3_bestState 75 = .ok (.invokevirtual 91, 3) := by decide +kernel
theorem dX3_bestState_78 : decode cX3_bestState 78 = .ok (.iadd, 1) := by decide +kernel
theorem dX3_bestState_79 : decode cX3_bestState 79 = .ok (.istore 5, 2) := by decide +kernel
theorem dX3_bestState_81 : decode cX3_bestState 81 = .ok (.iinc 6 1, 3) := by decide +kernel
theorem dX3_bestState_84 : decode cX3_bestState 84 = .ok (.goto (-74), 3) := by decide +kernel
theorem dX3_bestState_87 : decode cX3_bestState 87 = .ok (.iload 4, 2) := by decide +kernel
theorem dX3_bestState_89 : decode cX3_bestState 89 = .ok (.ireturn, 1) := by decide +kernel
theorem dX3_sumOfChains_0 : decode cX3_sumOfChains 0 = .ok (.iconst 0, 1) := by decide +kernel
theorem dX3_sumOfChains_1 : decode cX3_sumOfChains 1 = .ok (.istore_n 2, 1) := by decide +kernel
theorem dX3_sumOfChains_2 : decode cX3_sumOfChains 2 = .ok (.iconst 0, 1) := by decide +kernel
theorem dX3_sumOfChains_3 : decode cX3_sumOfChains 3 = .ok (.istore_n 3, 1) := by decide +kernel
theorem dX3_sumOfChains_4 : decode cX3_sumOfChains 4 = .ok (.iload_n 3, 1) := by decide +kernel
theorem dX3_sumOfChains_5 : decode cX3_sumOfChains 5 = .ok (.iconst 2, 1) := by decide +kernel
theorem dX3_sumOfChains_6 : decode cX3_sumOfChains 6 = .ok (.if_icmp .ge 41, 3) := by decide +kernel
theorem dX3_sumOfChains_9 : decode cX3_sumOfChains 9 = .ok (.aload_n 1, 1) := by decide +kernel
theorem dX3_sumOfChains_10 : decode cX3_sumOfChains 10 = .ok (.iload_n 3, 1) := by decide +kernel
theorem dX3_sumOfChains_11 : decode cX3_sumOfChains 11 = .ok (.iconst 0, 1) := by decide +kernel
theorem dX3_sumOfChains_12 : decode cX3_sumOfChains 12 = .ok (.invokevirtual 118, 3) := by decide +kernel
theorem dX3_sumOfChains_15 : decode cX3_sumOfChains 15 = .ok (.istore 4, 2) := by decide +kernel
theorem dX3_sumOfChains_17 : decode cX3_sumOfChains 17 = .ok (.iload_n 2, 1) := by decide +kernel
theorem dX3_sumOfChains_18 : decode cX3_sumOfChains 18 = .ok (.iload 4, 2) := by decide +kernel
theorem dX3_sumOfChains_20 : decode cX3_sumOfChains 20 = .ok (.ifCond .ge 7, 3) := by decide +kernel
theorem dX3_sumOfChains_23 : decode cX3_sumOfChains 23 = .ok (.iconst 0, 1) := by decide +kernel
theorem dX3_sumOfChains_24 : decode cX3_sumOfChains 24 = .ok (.goto 15, 3) := by decide +kernel
theorem dX3_sumOfChains_27 : decode cX3_sumOfChains 27 = .ok (.aload_n 0, 1) := by decide +kernel
theorem dX3_sumOfChains_28 : decode cX3_sumOfChains 28 = .ok (.iload 4, 2) := by decide +kernel
theorem dX3_sumOfChains_30 : decode cX3_sumOfChains 30 = .ok (.aload_n 0, 1) := by decide +kernel
theorem dX3_sumOfChains_31 : decode cX3_sumOfChains 31 = .ok (.iload 4, 2) := by decide +kernel
theorem dX3_sumOfChains_33 : decode cX3_sumOfChains 33 = .ok (.invokevirtual 115, 3) := by decide +kernel
theorem dX3_sumOfChains_36 : decode cX3_sumOfChains 36 = .ok (.invokevirtual 91, 3) := by decide +kernel
theorem dX3_sumOfChains_39 : decode cX3_sumOfChains 39 = .ok (.iadd, 1) := by decide +kernel
theorem dX3_sumOfChains_40 : decode cX3_sumOfChains 40 = .ok (.istore_n 2, 1) := by decide +kernel
theorem dX3_sumOfChains_41 : decode cX3_sumOfChains 41 = .ok (.iinc 3 1, 3) := by decide +kernel
theorem dX3_sumOfChains_44 : decode cX3_sumOfChains 44 = .ok (.goto (-40), 3) := by decide +kernel
theorem dX3_sumOfChains_47 : decode cX3_sumOfChains 47 = .ok (.iload_n 2, 1) := by decide +kernel
theorem dX3_sumOfChains_48 : decode cX3_sumOfChains 48 = .ok (.ireturn, 1) := by decide +kernel
theorem dX4_init_0 : decode cX4_init 0 = .ok (.aload_n 0, 1) := by decide +kernel
theorem dX4_init_1 : decode cX4_init 1 = .ok (.bipush 7, 2) := by decide +kernel
theorem dX4_init_3 : decode cX4_init 3 = .ok (.invokespecial 5, 3) := by decide +kernel
theorem dX4_init_6 : decode cX4_init 6 = .ok (.return_, 1) := by decide +kernel
theorem dX4_listOne_0 : decode cX4_listOne 0 = .ok (.iconst 0, 1) := by decide +kernel
theorem dX4_listOne_1 : decode cX4_listOne 1 = .ok (.istore_n 2, 1) := by decide +kernel
theorem dX4_listOne_2 : decode cX4_listOne 2 = .ok (.iload_n 2, 1) := by decide +kernel
theorem dX4_listOne_3 : decode cX4_listOne 3 = .ok (.bipush 7, 2) := by decide +kernel
theorem dX4_listOne_5 : decode cX4_listOne 5 = .ok (.if_icmp .ge 48, 3) := by decide +kernel
theorem dX4_listOne_8 : decode cX4_listOne 8 = .ok (.aload_n 0, 1) := by decide +kernel
theorem dX4_listOne_9 : decode cX4_listOne 9 = .ok (.getfield 11, 3) := by decide +kernel
theorem dX4_listOne_12 : decode cX4_listOne 12 = .ok (.iload_n 1, 1) := by decide +kernel
theorem dX4_listOne_13 : decode cX4_listOne 13 = .ok (.invokevirtual 15, 3) := by decide +kernel
theorem dX4_listOne_16 : decode cX4_listOne 16 = .ok (.iload_n 2, 1) := by decide +kernel
theorem dX4_listOne_17 : decode cX4_listOne 17 = .ok (.iadd, 1) := by decide +kernel
theorem dX4_listOne_18 : decode cX4_listOne 18 = .ok (.aload_n 0, 1) := by decide +kernel
theorem dX4_listOne_19 : decode cX4_listOne 19 = .ok (.getfield 11, 3) := by decide +kernel
theorem dX4_listOne_22 : decode cX4_listOne 22 = .ok (.iconst 5, 1) := by decide +kernel
theorem dX4_listOne_23 : decode cX4_listOne 23 = .ok (.invokevirtual 21, 3) := by decide +kernel
theorem dX4_listOne_26 : decode cX4_listOne 26 = .ok (.isub, 1) := by decide +kernel
theorem dX4_listOne_27 : decode cX4_listOne 27 = .ok (.invokestatic 24, 3) := by decide +kernel
theorem dX4_listOne_30 : decode cX4_listOne 30 = .ok (.ifCond .eq 17, 3) := by decide +kernel
theorem dX4_listOne_33 : decode cX4_listOne 33 = .ok (.aload_n 0, 1) := by decide +kernel
theorem dX4_listOne_34 : decode cX4_listOne 34 = .ok (.iload_n 1, 1) := by decide +kernel
theorem dX4_listOne_35 : decode cX4_listOne 35 = .ok (.iconst 0, 1) := by decide +kernel
theorem dX4_listOne_36 : decode cX4_listOne 36 = .ok (.iload_n 2, 1) := by decide +kernel
theorem dX4_listOne_37 : decode cX4_listOne 37 = .ok (.iconst 4, 1) := by decide +kernel
theorem dX4_listOne_38 : decode cX4_listOne 38 = .ok (.isub, 1) := by decide +kernel
theorem dX4_listOne_39 : decode cX4_listOne 39 = .ok (.invokestatic 28, 3) := by decide +kernel
theorem dX4_listOne_42 : decode cX4_listOne 42 = .ok (.iload_n 2, 1) := by decide +kernel
theorem dX4_listOne_43 : decode cX4_listOne 43 = .ok (.iconst 0, 1) := by decide +kernel
theorem dX4_listOne_44 : decode cX4_listOne 44 = .ok (.invokevirtual 34, 3) := by decide +kernel
theorem dX4_listOne_47 : decode cX4_listOne 47 = .ok (.iinc 2 1, 3) := by decide +kernel
theorem dX4_listOne_50 : decode cX4_listOne 50 = .ok (.goto (-48), 3) := by decide +kernel
theorem dX4_listOne_53 : decode cX4_listOne 53 = .ok (.return_, 1) := by decide +kernel
theorem dX4_isPartial_0 : decode cX4_isPartial 0 = .ok (.getstatic 38, 3) := by decide +kernel
theorem dX4_isPartial_3 : decode cX4_isPartial 3 = .ok (.astore_n 1, 1) := by decide +kernel
theorem dX4_isPartial_4 : decode cX4_isPartial 4 = .ok (.aload_n 1, 1) := by decide +kernel
theorem dX4_isPartial_5 : decode cX4_isPartial 5 = .ok (.arraylength, 1) := by decide +kernel
theorem dX4_isPartial_6 : decode cX4_isPartial 6 = .ok (.istore_n 2, 1) := by decide +kernel
theorem dX4_isPartial_7 : decode cX4_isPartial 7 = .ok (.iconst 0, 1) := by decide +kernel
theorem dX4_isPartial_8 : decode cX4_isPartial 8 = .ok (.istore_n 3, 1) := by decide +kernel
theorem dX4_isPartial_9 : decode cX4_isPartial 9 = .ok (.iload_n 3, 1) := by decide +kernel
theorem dX4_isPartial_10 : decode cX4_isPartial 10 = .ok (.iload_n 2, 1) := by decide +kernel
theorem dX4_isPartial_11 : decode cX4_isPartial 11 = .ok (.if_icmp .ge 22, 3) := by decide +kernel
theorem dX4_isPartial_14 : decode cX4_isPartial 14 = .ok (.aload_n 1, 1) := by decide +kernel
theorem dX4_isPartial_15 : decode cX4_isPartial 15 = .ok (.iload_n 3, 1) := by decide +kernel
theorem dX4_isPartial_16 : decode cX4_isPartial 16 = .ok (.iaload, 1) := by decide +kernel
theorem dX4_isPartial_17 : decode cX4_isPartial 17 = .ok (.istore 4, 2) := by decide +kernel
theorem dX4_isPartial_19 : decode cX4_isPartial 19 = .ok (.iload 4, 2) := by decide +kernel
theorem dX4_isPartial_21 : decode cX4_isPartial 21 = .ok (.iload_n 0, 1) := by decide +kernel
theorem dX4_isPartial_22 : decode cX4_isPartial 22 = .ok (.if_icmp .ne 5, 3) := by decide +kernel
theorem dX4_isPartial_25 : decode cX4_isPartial 25 = .ok (.iconst 1, 1) := by decide +kernel
theorem dX4_isPartial_26 : decode cX4_isPartial 26 = .ok (.ireturn, 1) := by decide +kernel
theorem dX4_isPartial_27 : decode cX4_isPartial 27 = .ok (.iinc 3 1, 3) := by decide +kernel
theorem dX4_isPartial_30 : decode cX4_isPartial 30 = .ok (.goto (-21), 3) := by decide +kernel
theorem dX4_isPartial_33 : decode cX4_isPartial 33 = .ok (.iconst 0, 1) := by decide +kernel
theorem dX4_isPartial_34 : decode cX4_isPartial 34 = .ok (.ireturn, 1) := by decide +kernel
theorem dX4_stepPrice_0 : decode cX4_stepPrice 0 = .ok (.aload_n 0, 1) := by decide +kernel
theorem dX4_stepPrice_1 : decode cX4_stepPrice 1 = .ok (.iload_n 1, 1) := by decide +kernel
theorem dX4_stepPrice_2 : decode cX4_stepPrice 2 = .ok (.iload_n 2, 1) := by decide +kernel
theorem dX4_stepPrice_3 : decode cX4_stepPrice 3 = .ok (.invokevirtual 42, 3) := by decide +kernel
theorem dX4_stepPrice_6 : decode cX4_stepPrice 6 = .ok (.aload_n 0, 1) := by decide +kernel
theorem dX4_stepPrice_7 : decode cX4_stepPrice 7 = .ok (.iload_n 3, 1) := by decide +kernel
theorem dX4_stepPrice_8 : decode cX4_stepPrice 8 = .ok (.iload 4, 2) := by decide +kernel
theorem dX4_stepPrice_10 : decode cX4_stepPrice 10 = .ok (.invokevirtual 42, 3) := by decide +kernel
theorem dX4_stepPrice_13 : decode cX4_stepPrice 13 = .ok (.isub, 1) := by decide +kernel
theorem dX4_stepPrice_14 : decode cX4_stepPrice 14 = .ok (.invokestatic 45, 3) := by decide +kernel
theorem dX4_stepPrice_17 : decode cX4_stepPrice 17 = .ok (.istore 5, 2) := by decide +kernel
theorem dX4_stepPrice_19 : decode cX4_stepPrice 19 = .ok (.aload_n 0, 1) := by decide +kernel
theorem dX4_stepPrice_20 : decode cX4_stepPrice 20 = .ok (.iload 5, 2) := by decide +kernel
theorem dX4_stepPrice_22 : decode cX4_stepPrice 22 = .ok (.iload_n 1, 1) := by decide +kernel
theorem dX4_stepPrice_23 : decode cX4_stepPrice 23 = .ok (.iload_n 3, 1) := by decide +kernel
theorem dX4_stepPrice_24 : decode cX4_stepPrice 24 = .ok (.invokevirtual 48, 3) := by decide +kernel
theorem dX4_stepPrice_27 : decode cX4_stepPrice 27 = .ok (.ifCond .eq 8, 3) := by decide +kernel
theorem dX4_stepPrice_30 : decode cX4_stepPrice 30 = .ok (.bipush (-2), 2) := by decide +kernel
theorem dX4_stepPrice_32 : decode cX4_stepPrice 32 = .ok (.goto 5, 3) := by decide +kernel
theorem dX4_stepPrice_35 : decode cX4_stepPrice 35 = .ok (.iload 5, 2) := by decide +kernel
theorem dX4_stepPrice_37 : decode cX4_stepPrice 37 = .ok (.ireturn, 1) := by decide +kernel
theorem dX5_init_0 : decode cX5_init 0 = .ok (.aload_n 0, 1) := by decide +kernel
theorem dX5_init_1 : decode cX5_init 1 = .ok (.bipush 80, 2) := by decide +kernel
theorem dX5_init_3 : decode cX5_init 3 = .ok (.invokespecial 3, 3) := by decide +kernel
theorem dX5_init_6 : decode cX5_init 6 = .ok (.return_, 1) := by decide +kernel
theorem dX5_listOne_0 : decode cX5_listOne 0 = .ok (.aload_n 0, 1) := by decide +kernel
theorem dX5_listOne_1 : decode cX5_listOne 1 = .ok (.getfield 9, 3) := by decide +kernel
theorem dX5_listOne_4 : decode cX5_listOne 4 = .ok (.iload_n 1, 1) := by decide +kernel
theorem dX5_listOne_5 : decode cX5_listOne 5 = .ok (.invokevirtual 15, 3) := by decide +kernel
theorem dX5_listOne_8 : decode cX5_listOne 8 = .ok (.iconst 2, 1) := by decide +kernel
theorem dX5_listOne_9 : decode cX5_listOne 9 = .ok (.if_icmp .ne 12, 3) := by decide +kernel
theorem dX5_listOne_12 : decode cX5_listOne 12 = .ok (.aload_n 0, 1) := by decide +kernel
theorem dX5_listOne_13 : decode cX5_listOne 13 = .ok (.iload_n 1, 1) := by decide +kernel
theorem dX5_listOne_14 : decode cX5_listOne 14 = .ok (.iconst 0, 1) := by decide +kernel
theorem dX5_listOne_15 : decode cX5_listOne 15 = .ok (.iconst 2, 1) := by decide +kernel
theorem dX5_listOne_16 : decode cX5_listOne 16 = .ok (.iconst (-1), 1) := by decide +kernel
theorem dX5_listOne_17 : decode cX5_listOne 17 = .ok (.invokevirtual 21, 3) := by decide +kernel
theorem dX5_listOne_20 : decode cX5_listOne 20 = .ok (.return_, 1) := by decide +kernel
theorem dX5_listOne_21 : decode cX5_listOne 21 = .ok (.aload_n 0, 1) := by decide +kernel
theorem dX5_listOne_22 : decode cX5_listOne 22 = .ok (.iload_n 1, 1) := by decide +kernel
theorem dX5_listOne_23 : decode cX5_listOne 23 = .ok (.invokevirtual 25, 3) := by decide +kernel
theorem dX5_listOne_26 : decode cX5_listOne 26 = .ok (.istore_n 2, 1) := by decide +kernel
theorem dX5_listOne_27 : decode cX5_listOne 27 = .ok (.iconst 0, 1) := by decide +kernel
theorem dX5_listOne_28 : decode cX5_listOne 28 = .ok (.istore_n 3, 1) := by decide +kernel
theorem dX5_listOne_29 : decode cX5_listOne 29 = .ok (.iload_n 3, 1) := by decide +kernel
end
section
theorem dX5_listOne_30 : decode cX5_listOne 30 = .ok (.iconst 2, 1) := by decide +kernel
theorem dX5_listOne_31 : decode cX5_listOne 31 = .ok (.if_icmp .ge 40, 3) := by decide +kernel
theorem dX5_listOne_34 : decode cX5_listOne 34 = .ok (.iload_n 2, 1) := by decide +kernel
theorem dX5_listOne_35 : decode cX5_listOne 35 = .ok (.istore 4, 2) := by decide +kernel
theorem dX5_listOne_37 : decode cX5_listOne 37 = .ok (.iload 4, 2) := by decide +kernel
theorem dX5_listOne_39 : decode cX5_listOne 39 = .ok (.iload_n 1, 1) := by decide +kernel
theorem dX5_listOne_40 : decode cX5_listOne 40 = .ok (.if_icmp .ge 25, 3) := by decide +kernel
theorem dX5_listOne_43 : decode cX5_listOne 43 = .ok (.aload_n 0, 1) := by decide +kernel
theorem dX5_listOne_44 : decode cX5_listOne 44 = .ok (.iload_n 1, 1) := by decide +kernel
theorem dX5_listOne_45 : decode cX5_listOne 45 = .ok (.aload_n 0, 1) := by decide +kernel
theorem dX5_listOne_46 : decode cX5_listOne 46 = .ok (.iload_n 1, 1) := by decide +kernel
theorem dX5_listOne_47 : decode cX5_listOne 47 = .ok (.iload_n 3, 1) := by decide +kernel
theorem dX5_listOne_48 : decode cX5_listOne 48 = .ok (.iload 4, 2) := by decide +kernel
theorem dX5_listOne_50 : decode cX5_listOne 50 = .ok (.invokevirtual 28, 3) := by decide +kernel
theorem dX5_listOne_53 : decode cX5_listOne 53 = .ok (.iload_n 3, 1) := by decide +kernel
theorem dX5_listOne_54 : decode cX5_listOne 54 = .ok (.iload 4, 2) := by decide +kernel
theorem dX5_listOne_56 : decode cX5_listOne 56 = .ok (.invokevirtual 21, 3) := by decide +kernel
theorem dX5_listOne_59 : decode cX5_listOne 59 = .ok (.iinc 4 1, 3) := by decide +kernel
theorem dX5_listOne_62 : decode cX5_listOne 62 = .ok (.goto (-25), 3) := by decide +kernel
theorem dX5_listOne_65 : decode cX5_listOne 65 = .ok (.iinc 3 1, 3) := by decide +kernel
theorem dX5_listOne_68 : decode cX5_listOne 68 = .ok (.goto (-39), 3) := by decide +kernel
theorem dX5_listOne_71 : decode cX5_listOne 71 = .ok (.return_, 1) := by decide +kernel
theorem dX5_latestOfTwo_0 : decode cX5_latestOfTwo 0 = .ok (.iload_n 1, 1) := by decide +kernel
theorem dX5_latestOfTwo_1 : decode cX5_latestOfTwo 1 = .ok (.iconst 1, 1) := by decide +kernel
theorem dX5_latestOfTwo_2 : decode cX5_latestOfTwo 2 = .ok (.isub, 1) := by decide +kernel
theorem dX5_latestOfTwo_3 : decode cX5_latestOfTwo 3 = .ok (.istore_n 2, 1) := by decide +kernel
theorem dX5_latestOfTwo_4 : decode cX5_latestOfTwo 4 = .ok (.iload_n 2, 1) := by decide +kernel
theorem dX5_latestOfTwo_5 : decode cX5_latestOfTwo 5 = .ok (.ifCond .lt 23, 3) := by decide +kernel
theorem dX5_latestOfTwo_8 : decode cX5_latestOfTwo 8 = .ok (.aload_n 0, 1) := by decide +kernel
theorem dX5_latestOfTwo_9 : decode cX5_latestOfTwo 9 = .ok (.getfield 9, 3) := by decide +kernel
theorem dX5_latestOfTwo_12 : decode cX5_latestOfTwo 12 = .ok (.iload_n 2, 1) := by decide +kernel
theorem dX5_latestOfTwo_13 : decode cX5_latestOfTwo 13 = .ok (.invokevirtual 15, 3) := by decide +kernel
theorem dX5_latestOfTwo_16 : decode cX5_latestOfTwo 16 = .ok (.iconst 2, 1) := by decide +kernel
theorem dX5_latestOfTwo_17 : decode cX5_latestOfTwo 17 = .ok (.if_icmp .ne 5, 3) := by decide +kernel
theorem dX5_latestOfTwo_20 : decode cX5_latestOfTwo 20 = .ok (.iload_n 2, 1) := by decide +kernel
theorem dX5_latestOfTwo_21 : decode cX5_latestOfTwo 21 = .ok (.ireturn, 1) := by decide +kernel
theorem dX5_latestOfTwo_22 : decode cX5_latestOfTwo 22 = .ok (.iinc 2 (-1), 3) := by decide +kernel
theorem dX5_latestOfTwo_25 : decode cX5_latestOfTwo 25 = .ok (.goto (-21), 3) := by decide +kernel
theorem dX5_latestOfTwo_28 : decode cX5_latestOfTwo 28 = .ok (.iconst (-1), 1) := by decide +kernel
theorem dX5_latestOfTwo_29 : decode cX5_latestOfTwo 29 = .ok (.ireturn, 1) := by decide +kernel
theorem dX5_crossing_0 : decode cX5_crossing 0 = .ok (.iload_n 3, 1) := by decide +kernel
theorem dX5_crossing_1 : decode cX5_crossing 1 = .ok (.iconst (-1), 1) := by decide +kernel
theorem dX5_crossing_2 : decode cX5_crossing 2 = .ok (.if_icmp .ne 5, 3) := by decide +kernel
theorem dX5_crossing_5 : decode cX5_crossing 5 = .ok (.iconst 0, 1) := by decide +kernel
theorem dX5_crossing_6 : decode cX5_crossing 6 = .ok (.ireturn, 1) := by decide +kernel
theorem dX5_crossing_7 : decode cX5_crossing 7 = .ok (.aload_n 0, 1) := by decide +kernel
theorem dX5_crossing_8 : decode cX5_crossing 8 = .ok (.getfield 9, 3) := by decide +kernel
theorem dX5_crossing_11 : decode cX5_crossing 11 = .ok (.iload_n 1, 1) := by decide +kernel
theorem dX5_crossing_12 : decode cX5_crossing 12 = .ok (.invokevirtual 32, 3) := by decide +kernel
theorem dX5_crossing_15 : decode cX5_crossing 15 = .ok (.aload_n 0, 1) := by decide +kernel
theorem dX5_crossing_16 : decode cX5_crossing 16 = .ok (.iconst 1, 1) := by decide +kernel
theorem dX5_crossing_17 : decode cX5_crossing 17 = .ok (.iload_n 2, 1) := by decide +kernel
theorem dX5_crossing_18 : decode cX5_crossing 18 = .ok (.isub, 1) := by decide +kernel
theorem dX5_crossing_19 : decode cX5_crossing 19 = .ok (.iload_n 3, 1) := by decide +kernel
theorem dX5_crossing_20 : decode cX5_crossing 20 = .ok (.invokevirtual 35, 3) := by decide +kernel
theorem dX5_crossing_23 : decode cX5_crossing 23 = .ok (.isub, 1) := by decide +kernel
theorem dX5_crossing_24 : decode cX5_crossing 24 = .ok (.istore 4, 2) := by decide +kernel
theorem dX5_crossing_26 : decode cX5_crossing 26 = .ok (.iload_n 2, 1) := by decide +kernel
theorem dX5_crossing_27 : decode cX5_crossing 27 = .ok (.ifCond .ne 11, 3) := by decide +kernel
theorem dX5_crossing_30 : decode cX5_crossing 30 = .ok (.iload 4, 2) := by decide +kernel
theorem dX5_crossing_32 : decode cX5_crossing 32 = .ok (.ifCond .le 15, 3) := by decide +kernel
theorem dX5_crossing_35 : decode cX5_crossing 35 = .ok (.goto 8, 3) := by decide +kernel
theorem dX5_crossing_38 : decode cX5_crossing 38 = .ok (.iload 4, 2) := by decide +kernel
theorem dX5_crossing_40 : decode cX5_crossing 40 = .ok (.ifCond .ge 7, 3) := by decide +kernel
theorem dX5_crossing_43 : decode cX5_crossing 43 = .ok (.iconst 4, 1) := by decide +kernel
theorem dX5_crossing_44 : decode cX5_crossing 44 = .ok (.goto 4, 3) := by decide +kernel
theorem dX5_crossing_47 : decode cX5_crossing 47 = .ok (.iconst 0, 1) := by decide +kernel
theorem dX5_crossing_48 : decode cX5_crossing 48 = .ok (.ireturn, 1) := by decide +kernel
theorem dX5_pitchBy_0 : decode cX5_pitchBy 0 = .ok (.iload_n 1, 1) := by decide +kernel
theorem dX5_pitchBy_1 : decode cX5_pitchBy 1 = .ok (.ifCond .ne 14, 3) := by decide +kernel
theorem dX5_pitchBy_4 : decode cX5_pitchBy 4 = .ok (.aload_n 0, 1) := by decide +kernel
theorem dX5_pitchBy_5 : decode cX5_pitchBy 5 = .ok (.getfield 9, 3) := by decide +kernel
theorem dX5_pitchBy_8 : decode cX5_pitchBy 8 = .ok (.iload_n 2, 1) := by decide +kernel
theorem dX5_pitchBy_9 : decode cX5_pitchBy 9 = .ok (.invokevirtual 32, 3) := by decide +kernel
theorem dX5_pitchBy_12 : decode cX5_pitchBy 12 = .ok (.goto 11, 3) := by decide +kernel
theorem dX5_pitchBy_15 : decode cX5_pitchBy 15 = .ok (.aload_n 0, 1) := by decide +kernel
theorem dX5_pitchBy_16 : decode cX5_pitchBy 16 = .ok (.getfield 9, 3) := by decide +kernel
theorem dX5_pitchBy_19 : decode cX5_pitchBy 19 = .ok (.iload_n 2, 1) := by decide +kernel
theorem dX5_pitchBy_20 : decode cX5_pitchBy 20 = .ok (.invokevirtual 39, 3) := by decide +kernel
theorem dX5_pitchBy_23 : decode cX5_pitchBy 23 = .ok (.ireturn, 1) := by decide +kernel
theorem dX5_stepPrice_0 : decode cX5_stepPrice 0 = .ok (.aload_n 0, 1) := by decide +kernel
theorem dX5_stepPrice_1 : decode cX5_stepPrice 1 = .ok (.iload_n 3, 1) := by decide +kernel
theorem dX5_stepPrice_2 : decode cX5_stepPrice 2 = .ok (.iload 4, 2) := by decide +kernel
theorem dX5_stepPrice_4 : decode cX5_stepPrice 4 = .ok (.invokevirtual 42, 3) := by decide +kernel
theorem dX5_stepPrice_7 : decode cX5_stepPrice 7 = .ok (.istore 5, 2) := by decide +kernel
theorem dX5_stepPrice_9 : decode cX5_stepPrice 9 = .ok (.iload 5, 2) := by decide +kernel
theorem dX5_stepPrice_11 : decode cX5_stepPrice 11 = .ok (.iconst 2, 1) := by decide +kernel
theorem dX5_stepPrice_12 : decode cX5_stepPrice 12 = .ok (.if_icmp .eq 26, 3) := by decide +kernel
theorem dX5_stepPrice_15 : decode cX5_stepPrice 15 = .ok (.aload_n 0, 1) := by decide +kernel
theorem dX5_stepPrice_16 : decode cX5_stepPrice 16 = .ok (.iload_n 1, 1) := by decide +kernel
theorem dX5_stepPrice_17 : decode cX5_stepPrice 17 = .ok (.iload_n 2, 1) := by decide +kernel
theorem dX5_stepPrice_18 : decode cX5_stepPrice 18 = .ok (.iconst 1, 1) := by decide +kernel
theorem dX5_stepPrice_19 : decode cX5_stepPrice 19 = .ok (.iload 5, 2) := by decide +kernel
theorem dX5_stepPrice_21 : decode cX5_stepPrice 21 = .ok (.isub, 1) := by decide +kernel
theorem dX5_stepPrice_22 : decode cX5_stepPrice 22 = .ok (.invokevirtual 45, 3) := by decide +kernel
theorem dX5_stepPrice_25 : decode cX5_stepPrice 25 = .ok (.aload_n 0, 1) := by decide +kernel
theorem dX5_stepPrice_26 : decode cX5_stepPrice 26 = .ok (.iload_n 3, 1) := by decide +kernel
theorem dX5_stepPrice_27 : decode cX5_stepPrice 27 = .ok (.iload 4, 2) := by decide +kernel
theorem dX5_stepPrice_29 : decode cX5_stepPrice 29 = .ok (.invokevirtual 48, 3) := by decide +kernel
theorem dX5_stepPrice_32 : decode cX5_stepPrice 32 = .ok (.if_icmp .eq 6, 3) := by decide +kernel
theorem dX5_stepPrice_35 : decode cX5_stepPrice 35 = .ok (.bipush (-2), 2) := by decide +kernel
theorem dX5_stepPrice_37 : decode cX5_stepPrice 37 = .ok (.ireturn, 1) := by decide +kernel
theorem dX5_stepPrice_38 : decode cX5_stepPrice 38 = .ok (.iload 5, 2) := by decide +kernel
theorem dX5_stepPrice_40 : decode cX5_stepPrice 40 = .ok (.iconst 2, 1) := by decide +kernel
theorem dX5_stepPrice_41 : decode cX5_stepPrice 41 = .ok (.if_icmp .eq 18, 3) := by decide +kernel
theorem dX5_stepPrice_44 : decode cX5_stepPrice 44 = .ok (.aload_n 0, 1) := by decide +kernel
theorem dX5_stepPrice_45 : decode cX5_stepPrice 45 = .ok (.iload_n 1, 1) := by decide +kernel
theorem dX5_stepPrice_46 : decode cX5_stepPrice 46 = .ok (.iload_n 2, 1) := by decide +kernel
theorem dX5_stepPrice_47 : decode cX5_stepPrice 47 = .ok (.invokevirtual 42, 3) := by decide +kernel
theorem dX5_stepPrice_50 : decode cX5_stepPrice 50 = .ok (.iload 5, 2) := by decide +kernel
theorem dX5_stepPrice_52 : decode cX5_stepPrice 52 = .ok (.if_icmp .ne 7, 3) := by decide +kernel
theorem dX5_stepPrice_55 : decode cX5_stepPrice 55 = .ok (.iconst 2, 1) := by decide +kernel
theorem dX5_stepPrice_56 : decode cX5_stepPrice 56 = .ok (.goto 4, 3) := by decide +kernel
theorem dX5_stepPrice_59 : decode cX5_stepPrice 59 = .ok (.iconst 0, 1) := by decide +kernel
theorem dX5_stepPrice_60 : decode cX5_stepPrice 60 = .ok (.istore 6, 2) := by decide +kernel
theorem dX5_stepPrice_62 : decode cX5_stepPrice 62 = .ok (.iconst 0, 1) := by decide +kernel
theorem dX5_stepPrice_63 : decode cX5_stepPrice 63 = .ok (.istore 7, 2) := by decide +kernel
theorem dX5_stepPrice_65 : decode cX5_stepPrice 65 = .ok (.iload 7, 2) := by decide +kernel
theorem dX5_stepPrice_67 : decode cX5_stepPrice 67 = .ok (.iconst 2, 1) := by decide +kernel
theorem dX5_stepPrice_68 : decode cX5_stepPrice 68 = .ok (.if_icmp .ge 81, 3) := by decide +kernel
theorem dX5_stepPrice_71 : decode cX5_stepPrice 71 = .ok (.aload_n 0, 1) := by decide +kernel
theorem dX5_stepPrice_72 : decode cX5_stepPrice 72 = .ok (.iload_n 1, 1) := by decide +kernel
theorem dX5_stepPrice_73 : decode cX5_stepPrice 73 = .ok (.iload_n 2, 1) := by decide +kernel
theorem dX5_stepPrice_74 : decode cX5_stepPrice 74 = .ok (.iload 7, 2) := by decide +kernel
theorem dX5_stepPrice_76 : decode cX5_stepPrice 76 = .ok (.invokevirtual 45, 3) := by decide +kernel
theorem dX5_stepPrice_79 : decode cX5_stepPrice 79 = .ok (.istore 8, 2) := by decide +kernel
theorem dX5_stepPrice_81 : decode cX5_stepPrice 81 = .ok (.iload 8, 2) := by decide +kernel
theorem dX5_stepPrice_83 : decode cX5_stepPrice 83 = .ok (.iconst (-1), 1) := by decide +kernel
theorem dX5_stepPrice_84 : decode cX5_stepPrice 84 = .ok (.if_icmp .eq 59, 3) := by decide +kernel
theorem dX5_stepPrice_87 : decode cX5_stepPrice 87 = .ok (.iload 5, 2) := by decide +kernel
theorem dX5_stepPrice_89 : decode cX5_stepPrice 89 = .ok (.iconst 2, 1) := by decide +kernel
theorem dX5_stepPrice_90 : decode cX5_stepPrice 90 = .ok (.if_icmp .eq 10, 3) := by decide +kernel
theorem dX5_stepPrice_93 : decode cX5_stepPrice 93 = .ok (.iload 5, 2) := by decide +kernel
theorem dX5_stepPrice_95 : decode cX5_stepPrice 95 = .ok (.iload 7, 2) := by decide +kernel
theorem dX5_stepPrice_97 : decode cX5_stepPrice 97 = .ok (.if_icmp .ne 46, 3) := by decide +kernel
theorem dX5_stepPrice_100 : decode cX5_stepPrice 100 = .ok (.aload_n 0, 1) := by decide +kernel
theorem dX5_stepPrice_101 : decode cX5_stepPrice 101 = .ok (.iload 7, 2) := by decide +kernel
theorem dX5_stepPrice_103 : decode cX5_stepPrice 103 = .ok (.iload_n 3, 1) := by decide +kernel
theorem dX5_stepPrice_104 : decode cX5_stepPrice 104 = .ok (.invokevirtual 35, 3) := by decide +kernel
theorem dX5_stepPrice_107 : decode cX5_stepPrice 107 = .ok (.aload_n 0, 1) := by decide +kernel
theorem dX5_stepPrice_108 : decode cX5_stepPrice 108 = .ok (.iload 7, 2) := by decide +kernel
theorem dX5_stepPrice_110 : decode cX5_stepPrice 110 = .ok (.iload 8, 2) := by decide +kernel
theorem dX5_stepPrice_112 : decode cX5_stepPrice 112 = .ok (.invokevirtual 35, 3) := by decide +kernel
theorem dX5_stepPrice_115 : decode cX5_stepPrice 115 = .ok (.isub, 1) := by decide +kernel
theorem dX5_stepPrice_116 : decode cX5_stepPrice 116 = .ok (.invokestatic 51, 3) := by decide +kernel
theorem dX5_stepPrice_119 : decode cX5_stepPrice 119 = .ok (.istore 9, 2) := by decide +kernel
theorem dX5_stepPrice_121 : decode cX5_stepPrice 121 = .ok (.aload_n 0, 1) := by decide +kernel
theorem dX5_stepPrice_122 : decode cX5_stepPrice 122 = .ok (.iload 9, 2) := by decide +kernel
theorem dX5_stepPrice_124 : decode cX5_stepPrice 124 = .ok (.iload 8, 2) := by decide +kernel
theorem dX5_stepPrice_126 : decode cX5_stepPrice 126 = .ok (.iload_n 3, 1) := by decide +kernel
theorem dX5_stepPrice_127 : decode cX5_stepPrice 127 = .ok (.invokevirtual 56, 3) := by decide +kernel
theorem dX5_stepPrice_130 : decode cX5_stepPrice 130 = .ok (.ifCond .eq 6, 3) := by decide +kernel
theorem dX5_stepPrice_133 : decode cX5_stepPrice 133 = .ok (.bipush (-2), 2) := by decide +kernel
theorem dX5_stepPrice_135 : decode cX5_stepPrice 135 = .ok (.ireturn, 1) := by decide +kernel
theorem dX5_stepPrice_136 : decode cX5_stepPrice 136 = .ok (.iload 6, 2) := by decide +kernel
theorem dX5_stepPrice_138 : decode cX5_stepPrice 138 = .ok (.iload 9, 2) := by decide +kernel
theorem dX5_stepPrice_140 : decode cX5_stepPrice 140 = .ok (.iadd, 1) := by decide +kernel
theorem dX5_stepPrice_141 : decode cX5_stepPrice 141 = .ok (.istore 6, 2) := by decide +kernel
theorem dX5_stepPrice_143 : decode cX5_stepPrice 143 = .ok (.iinc 7 1, 3) := by decide +kernel
theorem dX5_stepPrice_146 : decode cX5_stepPrice 146 = .ok (.goto (-81), 3) := by decide +kernel
theorem dX5_stepPrice_149 : decode cX5_stepPrice 149 = .ok (.iload 6, 2) := by decide +kernel
theorem dX5_stepPrice_151 : decode cX5_stepPrice 151 = .ok (.ireturn, 1) := by decide +kernel
theorem dX5_lastPlayed_0 : decode cX5_lastPlayed 0 = .ok (.aload_n 0, 1) := by decide +kernel
theorem dX5_lastPlayed_1 : decode cX5_lastPlayed 1 = .ok (.iload_n 1, 1) := by decide +kernel
theorem dX5_lastPlayed_2 : decode cX5_lastPlayed 2 = .ok (.iload_n 2, 1) := by decide +kernel
theorem dX5_lastPlayed_3 : decode cX5_lastPlayed 3 = .ok (.invokevirtual 42, 3) := by decide +kernel
theorem dX5_lastPlayed_6 : decode cX5_lastPlayed 6 = .ok (.istore 4, 2) := by decide +kernel
theorem dX5_lastPlayed_8 : decode cX5_lastPlayed 8 = .ok (.iload 4, 2) := by decide +kernel
theorem dX5_lastPlayed_10 : decode cX5_lastPlayed 10 = .ok (.iconst 2, 1) := by decide +kernel
theorem dX5_lastPlayed_11 : decode cX5_lastPlayed 11 = .ok (.if_icmp .eq 9, 3) := by decide +kernel
theorem dX5_lastPlayed_14 : decode cX5_lastPlayed 14 = .ok (.iload 4, 2) := by decide +kernel
theorem dX5_lastPlayed_16 : decode cX5_lastPlayed 16 = .ok (.iload_n 3, 1) := by decide +kernel
theorem dX5_lastPlayed_17 : decode cX5_lastPlayed 17 = .ok (.if_icmp .ne 7, 3) := by decide +kernel
theorem dX5_lastPlayed_20 : decode cX5_lastPlayed 20 = .ok (.iload_n 1, 1) := by decide +kernel
theorem dX5_lastPlayed_21 : decode cX5_lastPlayed 21 = .ok (.goto 9, 3) := by decide +kernel
theorem dX5_lastPlayed_24 : decode cX5_lastPlayed 24 = .ok (.aload_n 0, 1) := by decide +kernel
theorem dX5_lastPlayed_25 : decode cX5_lastPlayed 25 = .ok (.iload_n 1, 1) := by decide +kernel
theorem dX5_lastPlayed_26 : decode cX5_lastPlayed 26 = .ok (.iload_n 2, 1) := by decide +kernel
theorem dX5_lastPlayed_27 : decode cX5_lastPlayed 27 = .ok (.invokevirtual 48, 3) := by decide +kernel
theorem dX5_lastPlayed_30 : decode cX5_lastPlayed 30 = .ok (.ireturn, 1) := by decide +kernel
theorem dX6_init_0 : decode cX6_init 0 = .ok (.aload_n 0, 1) := by decide +kernel
theorem dX6_init_1 : decode cX6_init 1 = .ok (.bipush 48, 2) := by decide +kernel
theorem dX6_init_3 : decode cX6_init 3 = .ok (.invokespecial 5, 3) := by decide +kernel
theorem dX6_init_6 : decode cX6_init 6 = .ok (.return_, 1) := by decide +kernel
theorem dX6_listOne_0 : decode cX6_listOne 0 = .ok (.iconst 0, 1) := by decide +kernel
theorem dX6_listOne_1 : decode cX6_listOne 1 = .ok (.istore_n 2, 1) := by decide +kernel
theorem dX6_listOne_2 : decode cX6_listOne 2 = .ok (.iload_n 2, 1) := by decide +kernel
theorem dX6_listOne_3 : decode cX6_listOne 3 = .ok (.bipush 12, 2) := by decide +kernel
theorem dX6_listOne_5 : decode cX6_listOne 5 = .ok (.if_icmp .ge 56, 3) := by decide +kernel
theorem dX6_listOne_8 : decode cX6_listOne 8 = .ok (.iconst 0, 1) := by decide +kernel
theorem dX6_listOne_9 : decode cX6_listOne 9 = .ok (.istore_n 3, 1) := by decide +kernel
theorem dX6_listOne_10 : decode cX6_listOne 10 = .ok (.iload_n 3, 1) := by decide +kernel
theorem dX6_listOne_11 : decode cX6_listOne 11 = .ok (.aload_n 0, 1) := by decide +kernel
theorem dX6_listOne_12 : decode cX6_listOne 12 = .ok (.getfield 11, 3) := by decide +kernel
theorem dX6_listOne_15 : decode cX6_listOne 15 = .ok (.iload_n 1, 1) := by decide +kernel
theorem dX6_listOne_16 : decode cX6_listOne 16 = .ok (.invokevirtual 15, 3) := by decide +kernel
theorem dX6_listOne_19 : decode cX6_listOne 19 = .ok (.iadd, 1) := by decide +kernel
theorem dX6_listOne_20 : decode cX6_listOne 20 = .ok (.iconst 4, 1) := by decide +kernel
theorem dX6_listOne_21 : decode cX6_listOne 21 = .ok (.if_icmp .gt 34, 3) := by decide +kernel
theorem dX6_listOne_24 : decode cX6_listOne 24 = .ok (.aload_n 0, 1) := by decide +kernel
theorem dX6_listOne_25 : decode cX6_listOne 25 = .ok (.iload_n 1, 1) := by decide +kernel
theorem dX6_listOne_26 : decode cX6_listOne 26 = .ok (.iload_n 2, 1) := by decide +kernel
theorem dX6_listOne_27 : decode cX6_listOne 27 = .ok (.iload_n 3, 1) := by decide +kernel
theorem dX6_listOne_28 : decode cX6_listOne 28 = .ok (.invokevirtual 21, 3) := by decide +kernel
theorem dX6_listOne_31 : decode cX6_listOne 31 = .ok (.istore 4, 2) := by decide +kernel
theorem dX6_listOne_33 : decode cX6_listOne 33 = .ok (.iload 4, 2) := by decide +kernel
theorem dX6_listOne_35 : decode cX6_listOne 35 = .ok (.bipush (-2), 2) := by decide +kernel
theorem dX6_listOne_37 : decode cX6_listOne 37 = .ok (.if_icmp .eq 12, 3) := by decide +kernel
theorem dX6_listOne_40 : decode cX6_listOne 40 = .ok (.aload_n 0, 1) := by decide +kernel
theorem dX6_listOne_41 : decode cX6_listOne 41 = .ok (.iload_n 1, 1) := by decide +kernel
theorem dX6_listOne_42 : decode cX6_listOne 42 = .ok (.iload 4, 2) := by decide +kernel
theorem dX6_listOne_44 : decode cX6_listOne 44 = .ok (.iload_n 2, 1) := by decide +kernel
theorem dX6_listOne_45 : decode cX6_listOne 45 = .ok (.iload_n 3, 1) := by decide +kernel
theorem dX6_listOne_46 : decode cX6_listOne 46 = .ok (.invokevirtual 25, 3) := by decide +kernel
theorem dX6_listOne_49 : decode cX6_listOne 49 = .ok (.iinc 3 1, 3) := by decide +kernel
theorem dX6_listOne_52 : decode cX6_listOne 52 = .ok (.goto (-42), 3) := by decide +kernel
theorem dX6_listOne_55 : decode cX6_listOne 55 = .ok (.iinc 2 1, 3) := by decide +kernel
theorem dX6_listOne_58 : decode cX6_listOne 58 = .ok (.goto (-56), 3) := by decide +kernel
theorem dX6_listOne_61 : decode cX6_listOne 61 = .ok (.return_, 1) := by decide +kernel
theorem dX6_stops_0 : decode cX6_stops 0 = .ok (.iconst 0, 1) := by decide +kernel
theorem dX6_stops_1 : decode cX6_stops 1 = .ok (.istore 4, 2) := by decide +kernel
theorem dX6_stops_3 : decode cX6_stops 3 = .ok (.iconst 0, 1) := by decide +kernel
theorem dX6_stops_4 : decode cX6_stops 4 = .ok (.istore 5, 2) := by decide +kernel
theorem dX6_stops_6 : decode cX6_stops 6 = .ok (.iload 5, 2) := by decide +kernel
theorem dX6_stops_8 : decode cX6_stops 8 = .ok (.aload_n 0, 1) := by decide +kernel
theorem dX6_stops_9 : decode cX6_stops 9 = .ok (.getfield 11, 3) := by decide +kernel
theorem dX6_stops_12 : decode cX6_stops 12 = .ok (.iload_n 1, 1) := by decide +kernel
theorem dX6_stops_13 : decode cX6_stops 13 = .ok (.invokevirtual 15, 3) := by decide +kernel
theorem dX6_stops_16 : decode cX6_stops 16 = .ok (.if_icmp .ge 78, 3) := by decide +kernel
theorem dX6_stops_19 : decode cX6_stops 19 = .ok (.aload_n 0, 1) := by decide +kernel
theorem dX6_stops_20 : decode cX6_stops 20 = .ok (.getfield 11, 3) := by decide +kernel
theorem dX6_stops_23 : decode cX6_stops 23 = .ok (.iload_n 1, 1) := by decide +kernel
theorem dX6_stops_24 : decode cX6_stops 24 = .ok (.iload 5, 2) := by decide +kernel
theorem dX6_stops_26 : decode cX6_stops 26 = .ok (.invokevirtual 29, 3) := by decide +kernel
theorem dX6_stops_29 : decode cX6_stops 29 = .ok (.aload_n 0, 1) := by decide +kernel
theorem dX6_stops_30 : decode cX6_stops 30 = .ok (.getfield 11, 3) := by decide +kernel
theorem dX6_stops_33 : decode cX6_stops 33 = .ok (.bipush 6, 2) := by decide +kernel
theorem dX6_stops_35 : decode cX6_stops 35 = .ok (.iload_n 3, 1) := by decide +kernel
theorem dX6_stops_36 : decode cX6_stops 36 = .ok (.iadd, 1) := by decide +kernel
theorem dX6_stops_37 : decode cX6_stops 37 = .ok (.iload 5, 2) := by decide +kernel
theorem dX6_stops_39 : decode cX6_stops 39 = .ok (.iadd, 1) := by decide +kernel
theorem dX6_stops_40 : decode cX6_stops 40 = .ok (.invokevirtual 33, 3) := by decide +kernel
theorem dX6_stops_43 : decode cX6_stops 43 = .ok (.isub, 1) := by decide +kernel
theorem dX6_stops_44 : decode cX6_stops 44 = .ok (.istore 6, 2) := by decide +kernel
theorem dX6_stops_46 : decode cX6_stops 46 = .ok (.iload 6, 2) := by decide +kernel
theorem dX6_stops_48 : decode cX6_stops 48 = .ok (.ifCond .eq 40, 3) := by decide +kernel
theorem dX6_stops_51 : decode cX6_stops 51 = .ok (.iload 6, 2) := by decide +kernel
theorem dX6_stops_53 : decode cX6_stops 53 = .ok (.iload_n 2, 1) := by decide +kernel
theorem dX6_stops_54 : decode cX6_stops 54 = .ok (.isub, 1) := by decide +kernel
theorem dX6_stops_55 : decode cX6_stops 55 = .ok (.istore 7, 2) := by decide +kernel
theorem dX6_stops_57 : decode cX6_stops 57 = .ok (.iload 7, 2) := by decide +kernel
theorem dX6_stops_59 : decode cX6_stops 59 = .ok (.iconst 1, 1) := by decide +kernel
theorem dX6_stops_60 : decode cX6_stops 60 = .ok (.if_icmp .lt 9, 3) := by decide +kernel
theorem dX6_stops_63 : decode cX6_stops 63 = .ok (.iload 7, 2) := by decide +kernel
theorem dX6_stops_65 : decode cX6_stops 65 = .ok (.iconst 4, 1) := by decide +kernel
theorem dX6_stops_66 : decode cX6_stops 66 = .ok (.if_icmp .le 6, 3) := by decide +kernel
theorem dX6_stops_69 : decode cX6_stops 69 = .ok (.bipush (-2), 2) := by decide +kernel
theorem dX6_stops_71 : decode cX6_stops 71 = .ok (.ireturn, 1) := by decide +kernel
theorem dX6_stops_72 : decode cX6_stops 72 = .ok (.iload 4, 2) := by decide +kernel
theorem dX6_stops_74 : decode cX6_stops 74 = .ok (.iload 7, 2) := by decide +kernel
theorem dX6_stops_76 : decode cX6_stops 76 = .ok (.iconst 4, 1) := by decide +kernel
theorem dX6_stops_77 : decode cX6_stops 77 = .ok (.if_icmp .ne 7, 3) := by decide +kernel
theorem dX6_stops_80 : decode cX6_stops 80 = .ok (.iconst 2, 1) := by decide +kernel
theorem dX6_stops_81 : decode cX6_stops 81 = .ok (.goto 4, 3) := by decide +kernel
theorem dX6_stops_84 : decode cX6_stops 84 = .ok (.iconst 1, 1) := by decide +kernel
theorem dX6_stops_85 : decode cX6_stops 85 = .ok (.iadd, 1) := by decide +kernel
theorem dX6_stops_86 : decode cX6_stops 86 = .ok (.istore 4, 2) := by decide +kernel
theorem dX6_stops_88 : decode cX6_stops 88 = .ok (.iinc 5 1, 3) := by decide +kernel
theorem dX6_stops_91 : decode cX6_stops 91 = .ok (.goto (-85), 3) := by decide +kernel
theorem dX6_stops_94 : decode cX6_stops 94 = .ok (.iload 4, 2) := by decide +kernel
theorem dX6_stops_96 : decode cX6_stops 96 = .ok (.ireturn, 1) := by decide +kernel
theorem dX6_stepPrice_0 : decode cX6_stepPrice 0 = .ok (.aload_n 0, 1) := by decide +kernel
theorem dX6_stepPrice_1 : decode cX6_stepPrice 1 = .ok (.iload_n 1, 1) := by decide +kernel
theorem dX6_stepPrice_2 : decode cX6_stepPrice 2 = .ok (.iload_n 2, 1) := by decide +kernel
theorem dX6_stepPrice_3 : decode cX6_stepPrice 3 = .ok (.invokevirtual 36, 3) := by decide +kernel
theorem dX6_stepPrice_6 : decode cX6_stepPrice 6 = .ok (.aload_n 0, 1) := by decide +kernel
theorem dX6_stepPrice_7 : decode cX6_stepPrice 7 = .ok (.iload_n 3, 1) := by decide +kernel
theorem dX6_stepPrice_8 : decode cX6_stepPrice 8 = .ok (.iload 4, 2) := by decide +kernel
theorem dX6_stepPrice_10 : decode cX6_stepPrice 10 = .ok (.invokevirtual 36, 3) := by decide +kernel
theorem dX6_stepPrice_13 : decode cX6_stepPrice 13 = .ok (.isub, 1) := by decide +kernel
theorem dX6_stepPrice_14 : decode cX6_stepPrice 14 = .ok (.invokestatic 39, 3) := by decide +kernel
theorem dX6_stepPrice_17 : decode cX6_stepPrice 17 = .ok (.istore 5, 2) := by decide +kernel
theorem dX6_stepPrice_19 : decode cX6_stepPrice 19 = .ok (.aload_n 0, 1) := by decide +kernel
theorem dX6_stepPrice_20 : decode cX6_stepPrice 20 = .ok (.iload 5, 2) := by decide +kernel
theorem dX6_stepPrice_22 : decode cX6_stepPrice 22 = .ok (.iload_n 1, 1) := by decide +kernel
theorem dX6_stepPrice_23 : decode cX6_stepPrice 23 = .ok (.iload_n 3, 1) := by decide +kernel
theorem dX6_stepPrice_24 : decode cX6_stepPrice 24 = .ok (.invokevirtual 44, 3) := by decide +kernel
theorem dX6_stepPrice_27 : decode cX6_stepPrice 27 = .ok (.ifCond .eq 6, 3) := by decide +kernel
theorem dX6_stepPrice_30 : decode cX6_stepPrice 30 = .ok (.bipush (-2), 2) := by decide +kernel
theorem dX6_stepPrice_32 : decode cX6_stepPrice 32 = .ok (.ireturn, 1) := by decide +kernel
theorem dX6_stepPrice_33 : decode cX6_stepPrice 33 = .ok (.iconst 2, 1) := by decide +kernel
theorem dX6_stepPrice_34 : decode cX6_stepPrice 34 = .ok (.iload 5, 2) := by decide +kernel
theorem dX6_stepPrice_36 : decode cX6_stepPrice 36 = .ok (.imul, 1) := by decide +kernel
theorem dX6_stepPrice_37 : decode cX6_stepPrice 37 = .ok (.aload_n 0, 1) := by decide +kernel
theorem dX6_stepPrice_38 : decode cX6_stepPrice 38 = .ok (.iload_n 1, 1) := by decide +kernel
theorem dX6_stepPrice_39 : decode cX6_stepPrice 39 = .ok (.iload_n 2, 1) := by decide +kernel
theorem dX6_stepPrice_40 : decode cX6_stepPrice 40 = .ok (.invokevirtual 48, 3) := by decide +kernel
theorem dX6_stepPrice_43 : decode cX6_stepPrice 43 = .ok (.aload_n 0, 1) := by decide +kernel
theorem dX6_stepPrice_44 : decode cX6_stepPrice 44 = .ok (.iload_n 3, 1) := by decide +kernel
theorem dX6_stepPrice_45 : decode cX6_stepPrice 45 = .ok (.iload 4, 2) := by decide +kernel
theorem dX6_stepPrice_47 : decode cX6_stepPrice 47 = .ok (.invokevirtual 48, 3) := by decide +kernel
theorem dX6_stepPrice_50 : decode cX6_stepPrice 50 = .ok (.isub, 1) := by decide +kernel
theorem dX6_stepPrice_51 : decode cX6_stepPrice 51 = .ok (.invokestatic 39, 3) := by decide +kernel
theorem dX6_stepPrice_54 : decode cX6_stepPrice 54 = .ok (.iadd, 1) := by decide +kernel
theorem dX6_stepPrice_55 : decode cX6_stepPrice 55 = .ok (.ireturn, 1) := by decide +kernel
theorem dX7_init_0 : decode cX7_init 0 = .ok (.aload_n 0, 1) := by decide +kernel
theorem dX7_init_1 : decode cX7_init 1 = .ok (.invokespecial 3, 3) := by decide +kernel
theorem dX7_init_4 : decode cX7_init 4 = .ok (.aload_n 0, 1) := by decide +kernel
theorem dX7_init_5 : decode cX7_init 5 = .ok (.sipush 301, 3) := by decide +kernel
theorem dX7_init_8 : decode cX7_init 8 = .ok (.newarray .int, 2) := by decide +kernel
theorem dX7_init_10 : decode cX7_init 10 = .ok (.putfield 11, 3) := by decide +kernel
theorem dX7_init_13 : decode cX7_init 13 = .ok (.aload_n 0, 1) := by decide +kernel
theorem dX7_init_14 : decode cX7_init 14 = .ok (.sipush 301, 3) := by decide +kernel
theorem dX7_init_17 : decode cX7_init 17 = .ok (.newarray .int, 2) := by decide +kernel
theorem dX7_init_19 : decode cX7_init 19 = .ok (.putfield 15, 3) := by decide +kernel
theorem dX7_init_22 : decode cX7_init 22 = .ok (.aload_n 0, 1) := by decide +kernel
theorem dX7_init_23 : decode cX7_init 23 = .ok (.sipush 301, 3) := by decide +kernel
theorem dX7_init_26 : decode cX7_init 26 = .ok (.newarray .int, 2) := by decide +kernel
theorem dX7_init_28 : decode cX7_init 28 = .ok (.putfield 18, 3) := by decide +kernel
theorem dX7_init_31 : decode cX7_init 31 = .ok (.aload_n 0, 1) := by decide +kernel
theorem dX7_init_32 : decode cX7_init 32 = .ok (.iconst (-1), 1) := by decide +kernel
theorem dX7_init_33 : decode cX7_init 33 = .ok (.putfield 21, 3) := by decide +kernel
theorem dX7_init_36 : decode cX7_init 36 = .ok (.aload_n 0, 1) := by decide +kernel
theorem dX7_init_37 : decode cX7_init 37 = .ok (.iconst 1, 1) := by decide +kernel
theorem dX7_init_38 : decode cX7_init 38 = .ok (.iload_n 1, 1) := by decide +kernel
theorem dX7_init_39 : decode cX7_init 39 = .ok (.invokestatic 25, 3) := by decide +kernel
theorem dX7_init_42 : decode cX7_init 42 = .ok (.sipush 301, 3) := by decide +kernel
theorem dX7_init_45 : decode cX7_init 45 = .ok (.imul, 1) := by decide +kernel
theorem dX7_init_46 : decode cX7_init 46 = .ok (.newarray .int, 2) := by decide +kernel
theorem dX7_init_48 : decode cX7_init 48 = .ok (.putfield 31, 3) := by decide +kernel
theorem dX7_init_51 : decode cX7_init 51 = .ok (.aload_n 0, 1) := by decide +kernel
theorem dX7_init_52 : decode cX7_init 52 = .ok (.iconst 1, 1) := by decide +kernel
theorem dX7_init_53 : decode cX7_init 53 = .ok (.iload_n 1, 1) := by decide +kernel
theorem dX7_init_54 : decode cX7_init 54 = .ok (.invokestatic 25, 3) := by decide +kernel
theorem dX7_init_57 : decode cX7_init 57 = .ok (.sipush 301, 3) := by decide +kernel
theorem dX7_init_60 : decode cX7_init 60 = .ok (.imul, 1) := by decide +kernel
theorem dX7_init_61 : decode cX7_init 61 = .ok (.newarray .int, 2) := by decide +kernel
theorem dX7_init_63 : decode cX7_init 63 = .ok (.putfield 34, 3) := by decide +kernel
theorem dX7_init_66 : decode cX7_init 66 = .ok (.return_, 1) := by decide +kernel
theorem dX7_run_0 : decode cX7_run 0 = .ok (.aload_n 0, 1) := by decide +kernel
theorem dX7_run_1 : decode cX7_run 1 = .ok (.getfield 11, 3) := by decide +kernel
theorem dX7_run_4 : decode cX7_run 4 = .ok (.iconst 0, 1) := by decide +kernel
theorem dX7_run_5 : decode cX7_run 5 = .ok (.invokestatic 37, 3) := by decide +kernel
theorem dX7_run_8 : decode cX7_run 8 = .ok (.aload_n 0, 1) := by decide +kernel
theorem dX7_run_9 : decode cX7_run 9 = .ok (.getfield 11, 3) := by decide +kernel
theorem dX7_run_12 : decode cX7_run 12 = .ok (.iconst 0, 1) := by decide +kernel
theorem dX7_run_13 : decode cX7_run 13 = .ok (.iconst 1, 1) := by decide +kernel
theorem dX7_run_14 : decode cX7_run 14 = .ok (.iastore, 1) := by decide +kernel
theorem dX7_run_15 : decode cX7_run 15 = .ok (.iconst 0, 1) := by decide +kernel
theorem dX7_run_16 : decode cX7_run 16 = .ok (.istore_n 3, 1) := by decide +kernel
theorem dX7_run_17 : decode cX7_run 17 = .ok (.iload_n 3, 1) := by decide +kernel
theorem dX7_run_18 : decode cX7_run 18 = .ok (.iconst 2, 1) := by decide +kernel
theorem dX7_run_19 : decode cX7_run 19 = .ok (.if_icmp .ge 33, 3) := by decide +kernel
theorem dX7_run_22 : decode cX7_run 22 = .ok (.aload_n 1, 1) := by decide +kernel
theorem dX7_run_23 : decode cX7_run 23 = .ok (.getfield 43, 3) := by decide +kernel
theorem dX7_run_26 : decode cX7_run 26 = .ok (.iload_n 3, 1) := by decide +kernel
theorem dX7_run_27 : decode cX7_run 27 = .ok (.iconst 0, 1) := by decide +kernel
theorem dX7_run_28 : decode cX7_run 28 = .ok (.invokevirtual 49, 3) := by decide +kernel
theorem dX7_run_31 : decode cX7_run 31 = .ok (.ifCond .lt 15, 3) := by decide +kernel
theorem dX7_run_34 : decode cX7_run 34 = .ok (.aload_n 0, 1) := by decide +kernel
theorem dX7_run_35 : decode cX7_run 35 = .ok (.aload_n 1, 1) := by decide +kernel
theorem dX7_run_36 : decode cX7_run 36 = .ok (.iload_n 3, 1) := by decide +kernel
theorem dX7_run_37 : decode cX7_run 37 = .ok (.iload_n 2, 1) := by decide +kernel
theorem dX7_run_38 : decode cX7_run 38 = .ok (.invokevirtual 54, 3) := by decide +kernel
theorem dX7_run_41 : decode cX7_run 41 = .ok (.aload_n 0, 1) := by decide +kernel
theorem dX7_run_42 : decode cX7_run 42 = .ok (.iload_n 2, 1) := by decide +kernel
theorem dX7_run_43 : decode cX7_run 43 = .ok (.invokevirtual 58, 3) := by decide +kernel
theorem dX7_run_46 : decode cX7_run 46 = .ok (.iinc 3 1, 3) := by decide +kernel
theorem dX7_run_49 : decode cX7_run 49 = .ok (.goto (-32), 3) := by decide +kernel
theorem dX7_run_52 : decode cX7_run 52 = .ok (.aload_n 0, 1) := by decide +kernel
theorem dX7_run_53 : decode cX7_run 53 = .ok (.iload_n 2, 1) := by decide +kernel
theorem dX7_run_54 : decode cX7_run 54 = .ok (.putfield 21, 3) := by decide +kernel
theorem dX7_run_57 : decode cX7_run 57 = .ok (.return_, 1) := by decide +kernel
theorem dX7_sumTo_0 : decode cX7_sumTo 0 = .ok (.iconst 0, 1) := by decide +kernel
theorem dX7_sumTo_1 : decode cX7_sumTo 1 = .ok (.istore_n 2, 1) := by decide +kernel
theorem dX7_sumTo_2 : decode cX7_sumTo 2 = .ok (.iconst 0, 1) := by decide +kernel
theorem dX7_sumTo_3 : decode cX7_sumTo 3 = .ok (.istore_n 3, 1) := by decide +kernel
theorem dX7_sumTo_4 : decode cX7_sumTo 4 = .ok (.iload_n 3, 1) := by decide +kernel
theorem dX7_sumTo_5 : decode cX7_sumTo 5 = .ok (.iload_n 1, 1) := by decide +kernel
theorem dX7_sumTo_6 : decode cX7_sumTo 6 = .ok (.if_icmp .gt 27, 3) := by decide +kernel
theorem dX7_sumTo_9 : decode cX7_sumTo 9 = .ok (.iload_n 3, 1) := by decide +kernel
theorem dX7_sumTo_10 : decode cX7_sumTo 10 = .ok (.sipush 301, 3) := by decide +kernel
theorem dX7_sumTo_13 : decode cX7_sumTo 13 = .ok (.if_icmp .ge 20, 3) := by decide +kernel
theorem dX7_sumTo_16 : decode cX7_sumTo 16 = .ok (.iload_n 2, 1) := by decide +kernel
theorem dX7_sumTo_17 : decode cX7_sumTo 17 = .ok (.aload_n 0, 1) := by decide +kernel
theorem dX7_sumTo_18 : decode cX7_sumTo 18 = .ok (.getfield 11, 3) := by decide +kernel
theorem dX7_sumTo_21 : decode cX7_sumTo 21 = .ok (.iload_n 3, 1) := by decide +kernel
theorem dX7_sumTo_22 : decode cX7_sumTo 22 = .ok (.iaload, 1) := by decide +kernel
theorem dX7_sumTo_23 : decode cX7_sumTo 23 = .ok (.invokestatic 62, 3) := by decide +kernel
theorem dX7_sumTo_26 : decode cX7_sumTo 26 = .ok (.istore_n 2, 1) := by decide +kernel
theorem dX7_sumTo_27 : decode cX7_sumTo 27 = .ok (.iinc 3 1, 3) := by decide +kernel
theorem dX7_sumTo_30 : decode cX7_sumTo 30 = .ok (.goto (-26), 3) := by decide +kernel
theorem dX7_sumTo_33 : decode cX7_sumTo 33 = .ok (.iload_n 2, 1) := by decide +kernel
theorem dX7_sumTo_34 : decode cX7_sumTo 34 = .ok (.ireturn, 1) := by decide +kernel
theorem dX7_capped_0 : decode cX7_capped 0 = .ok (.ldc 65, 2) := by decide +kernel
theorem dX7_capped_2 : decode cX7_capped 2 = .ok (.iload_n 0, 1) := by decide +kernel
theorem dX7_capped_3 : decode cX7_capped 3 = .ok (.iload_n 1, 1) := by decide +kernel
theorem dX7_capped_4 : decode cX7_capped 4 = .ok (.iadd, 1) := by decide +kernel
theorem dX7_capped_5 : decode cX7_capped 5 = .ok (.invokestatic 66, 3) := by decide +kernel
theorem dX7_capped_8 : decode cX7_capped 8 = .ok (.ireturn, 1) := by decide +kernel
theorem dX7_tallyChain_0 : decode cX7_tallyChain 0 = .ok (.aload_n 1, 1) := by decide +kernel
theorem dX7_tallyChain_1 : decode cX7_tallyChain 1 = .ok (.getfield 43, 3) := by decide +kernel
theorem dX7_tallyChain_4 : decode cX7_tallyChain 4 = .ok (.iload_n 2, 1) := by decide +kernel
theorem dX7_tallyChain_5 : decode cX7_tallyChain 5 = .ok (.iconst 0, 1) := by decide +kernel
theorem dX7_tallyChain_6 : decode cX7_tallyChain 6 = .ok (.invokevirtual 49, 3) := by decide +kernel
theorem dX7_tallyChain_9 : decode cX7_tallyChain 9 = .ok (.istore 4, 2) := by decide +kernel
theorem dX7_tallyChain_11 : decode cX7_tallyChain 11 = .ok (.aload_n 0, 1) := by decide +kernel
theorem dX7_tallyChain_12 : decode cX7_tallyChain 12 = .ok (.aload_n 1, 1) := by decide +kernel
theorem dX7_tallyChain_13 : decode cX7_tallyChain 13 = .ok (.iload 4, 2) := by decide +kernel
theorem dX7_tallyChain_15 : decode cX7_tallyChain 15 = .ok (.invokevirtual 69, 3) := by decide +kernel
theorem dX7_tallyChain_18 : decode cX7_tallyChain 18 = .ok (.iload 4, 2) := by decide +kernel
theorem dX7_tallyChain_20 : decode cX7_tallyChain 20 = .ok (.iconst 1, 1) := by decide +kernel
theorem dX7_tallyChain_21 : decode cX7_tallyChain 21 = .ok (.iadd, 1) := by decide +kernel
theorem dX7_tallyChain_22 : decode cX7_tallyChain 22 = .ok (.istore 5, 2) := by decide +kernel
theorem dX7_tallyChain_24 : decode cX7_tallyChain 24 = .ok (.iload 5, 2) := by decide +kernel
theorem dX7_tallyChain_26 : decode cX7_tallyChain 26 = .ok (.aload_n 1, 1) := by decide +kernel
theorem dX7_tallyChain_27 : decode cX7_tallyChain 27 = .ok (.getfield 43, 3) := by decide +kernel
theorem dX7_tallyChain_30 : decode cX7_tallyChain 30 = .ok (.getfield 73, 3) := by decide +kernel
theorem dX7_tallyChain_33 : decode cX7_tallyChain 33 = .ok (.if_icmp .ge 36, 3) := by decide +kernel
theorem dX7_tallyChain_36 : decode cX7_tallyChain 36 = .ok (.aload_n 1, 1) := by decide +kernel
theorem dX7_tallyChain_37 : decode cX7_tallyChain 37 = .ok (.getfield 43, 3) := by decide +kernel
theorem dX7_tallyChain_40 : decode cX7_tallyChain 40 = .ok (.iload 5, 2) := by decide +kernel
theorem dX7_tallyChain_42 : decode cX7_tallyChain 42 = .ok (.invokevirtual 76, 3) := by decide +kernel
theorem dX7_tallyChain_45 : decode cX7_tallyChain 45 = .ok (.iload_n 2, 1) := by decide +kernel
theorem dX7_tallyChain_46 : decode cX7_tallyChain 46 = .ok (.if_icmp .ne 17, 3) := by decide +kernel
theorem dX7_tallyChain_49 : decode cX7_tallyChain 49 = .ok (.aload_n 0, 1) := by decide +kernel
theorem dX7_tallyChain_50 : decode cX7_tallyChain 50 = .ok (.aload_n 1, 1) := by decide +kernel
theorem dX7_tallyChain_51 : decode cX7_tallyChain 51 = .ok (.iload 4, 2) := by decide +kernel
theorem dX7_tallyChain_53 : decode cX7_tallyChain 53 = .ok (.iload 5, 2) := by decide +kernel
theorem dX7_tallyChain_55 : decode cX7_tallyChain 55 = .ok (.iload_n 3, 1) := by decide +kernel
theorem dX7_tallyChain_56 : decode cX7_tallyChain 56 = .ok (.invokevirtual 80, 3) := by decide +kernel
theorem dX7_tallyChain_59 : decode cX7_tallyChain 59 = .ok (.iload 5, 2) := by decide +kernel
theorem dX7_tallyChain_61 : decode cX7_tallyChain 61 = .ok (.istore 4, 2) := by decide +kernel
theorem dX7_tallyChain_63 : decode cX7_tallyChain 63 = .ok (.iinc 5 1, 3) := by decide +kernel
theorem dX7_tallyChain_66 : decode cX7_tallyChain 66 = .ok (.goto (-42), 3) := by decide +kernel
theorem dX7_tallyChain_69 : decode cX7_tallyChain 69 = .ok (.aload_n 0, 1) := by decide +kernel
theorem dX7_tallyChain_70 : decode cX7_tallyChain 70 = .ok (.aload_n 1, 1) := by decide +kernel
theorem dX7_tallyChain_71 : decode cX7_tallyChain 71 = .ok (.iload 4, 2) := by decide +kernel
theorem dX7_tallyChain_73 : decode cX7_tallyChain 73 = .ok (.invokevirtual 84, 3) := by decide +kernel
theorem dX7_tallyChain_76 : decode cX7_tallyChain 76 = .ok (.iload_n 3, 1) := by decide +kernel
theorem dX7_tallyChain_77 : decode cX7_tallyChain 77 = .ok (.invokevirtual 87, 3) := by decide +kernel
theorem dX7_tallyChain_80 : decode cX7_tallyChain 80 = .ok (.return_, 1) := by decide +kernel
theorem dX7_begin_0 : decode cX7_begin 0 = .ok (.aload_n 0, 1) := by decide +kernel
theorem dX7_begin_1 : decode cX7_begin 1 = .ok (.getfield 31, 3) := by decide +kernel
theorem dX7_begin_4 : decode cX7_begin 4 = .ok (.aload_n 1, 1) := by decide +kernel
theorem dX7_begin_5 : decode cX7_begin 5 = .ok (.iload_n 2, 1) := by decide +kernel
theorem dX7_begin_6 : decode cX7_begin 6 = .ok (.invokevirtual 84, 3) := by decide +kernel
theorem dX7_begin_9 : decode cX7_begin 9 = .ok (.invokestatic 91, 3) := by decide +kernel
theorem dX7_begin_12 : decode cX7_begin 12 = .ok (.iconst 0, 1) := by decide +kernel
theorem dX7_begin_13 : decode cX7_begin 13 = .ok (.istore_n 3, 1) := by decide +kernel
theorem dX7_begin_14 : decode cX7_begin 14 = .ok (.iload_n 3, 1) := by decide +kernel
theorem dX7_begin_15 : decode cX7_begin 15 = .ok (.aload_n 1, 1) := by decide +kernel
theorem dX7_begin_16 : decode cX7_begin 16 = .ok (.iload_n 2, 1) := by decide +kernel
theorem dX7_begin_17 : decode cX7_begin 17 = .ok (.invokevirtual 84, 3) := by decide +kernel
theorem dX7_begin_20 : decode cX7_begin 20 = .ok (.if_icmp .ge 70, 3) := by decide +kernel
theorem dX7_begin_23 : decode cX7_begin 23 = .ok (.aload_n 1, 1) := by decide +kernel
theorem dX7_begin_24 : decode cX7_begin 24 = .ok (.iload_n 2, 1) := by decide +kernel
theorem dX7_begin_25 : decode cX7_begin 25 = .ok (.iload_n 3, 1) := by decide +kernel
theorem dX7_begin_26 : decode cX7_begin 26 = .ok (.invokevirtual 94, 3) := by decide +kernel
theorem dX7_begin_29 : decode cX7_begin 29 = .ok (.istore 4, 2) := by decide +kernel
theorem dX7_begin_31 : decode cX7_begin 31 = .ok (.iload_n 3, 1) := by decide +kernel
theorem dX7_begin_32 : decode cX7_begin 32 = .ok (.sipush 301, 3) := by decide +kernel
theorem dX7_begin_35 : decode cX7_begin 35 = .ok (.imul, 1) := by decide +kernel
theorem dX7_begin_36 : decode cX7_begin 36 = .ok (.iload 4, 2) := by decide +kernel
theorem dX7_begin_38 : decode cX7_begin 38 = .ok (.iadd, 1) := by decide +kernel
theorem dX7_begin_39 : decode cX7_begin 39 = .ok (.istore 5, 2) := by decide +kernel
theorem dX7_begin_41 : decode cX7_begin 41 = .ok (.aload_n 1, 1) := by decide +kernel
theorem dX7_begin_42 : decode cX7_begin 42 = .ok (.getfield 43, 3) := by decide +kernel
theorem dX7_begin_45 : decode cX7_begin 45 = .ok (.iload_n 2, 1) := by decide +kernel
theorem dX7_begin_46 : decode cX7_begin 46 = .ok (.iload_n 3, 1) := by decide +kernel
theorem dX7_begin_47 : decode cX7_begin 47 = .ok (.invokevirtual 97, 3) := by decide +kernel
theorem dX7_begin_50 : decode cX7_begin 50 = .ok (.ifCond .eq 34, 3) := by decide +kernel
theorem dX7_begin_53 : decode cX7_begin 53 = .ok (.iload 4, 2) := by decide +kernel
theorem dX7_begin_55 : decode cX7_begin 55 = .ok (.sipush 301, 3) := by decide +kernel
theorem dX7_begin_58 : decode cX7_begin 58 = .ok (.if_icmp .ge 26, 3) := by decide +kernel
theorem dX7_begin_61 : decode cX7_begin 61 = .ok (.iload 5, 2) := by decide +kernel
theorem dX7_begin_63 : decode cX7_begin 63 = .ok (.ifCond .lt 21, 3) := by decide +kernel
theorem dX7_begin_66 : decode cX7_begin 66 = .ok (.iload 5, 2) := by decide +kernel
theorem dX7_begin_68 : decode cX7_begin 68 = .ok (.aload_n 0, 1) := by decide +kernel
theorem dX7_begin_69 : decode cX7_begin 69 = .ok (.getfield 31, 3) := by decide +kernel
theorem dX7_begin_72 : decode cX7_begin 72 = .ok (.arraylength, 1) := by decide +kernel
theorem dX7_begin_73 : decode cX7_begin 73 = .ok (.if_icmp .ge 11, 3) := by decide +kernel
theorem dX7_begin_76 : decode cX7_begin 76 = .ok (.aload_n 0, 1) := by decide +kernel
theorem dX7_begin_77 : decode cX7_begin 77 = .ok (.getfield 31, 3) := by decide +kernel
theorem dX7_begin_80 : decode cX7_begin 80 = .ok (.iload 5, 2) := by decide +kernel
theorem dX7_begin_82 : decode cX7_begin 82 = .ok (.iconst 1, 1) := by decide +kernel
theorem dX7_begin_83 : decode cX7_begin 83 = .ok (.iastore, 1) := by decide +kernel
theorem dX7_begin_84 : decode cX7_begin 84 = .ok (.iinc 3 1, 3) := by decide +kernel
theorem dX7_begin_87 : decode cX7_begin 87 = .ok (.goto (-73), 3) := by decide +kernel
theorem dX7_begin_90 : decode cX7_begin 90 = .ok (.return_, 1) := by decide +kernel
theorem dX7_clearRows_0 : decode cX7_clearRows 0 = .ok (.aload_n 0, 1) := by decide +kernel
theorem dX7_clearRows_1 : decode cX7_clearRows 1 = .ok (.iconst 0, 1) := by decide +kernel
theorem dX7_clearRows_2 : decode cX7_clearRows 2 = .ok (.iconst 0, 1) := by decide +kernel
theorem dX7_clearRows_3 : decode cX7_clearRows 3 = .ok (.aload_n 0, 1) := by decide +kernel
theorem dX7_clearRows_4 : decode cX7_clearRows 4 = .ok (.arraylength, 1) := by decide +kernel
theorem dX7_clearRows_5 : decode cX7_clearRows 5 = .ok (.iload_n 1, 1) := by decide +kernel
theorem dX7_clearRows_6 : decode cX7_clearRows 6 = .ok (.sipush 301, 3) := by decide +kernel
theorem dX7_clearRows_9 : decode cX7_clearRows 9 = .ok (.imul, 1) := by decide +kernel
theorem dX7_clearRows_10 : decode cX7_clearRows 10 = .ok (.invokestatic 66, 3) := by decide +kernel
theorem dX7_clearRows_13 : decode cX7_clearRows 13 = .ok (.invokestatic 25, 3) := by decide +kernel
theorem dX7_clearRows_16 : decode cX7_clearRows 16 = .ok (.iconst 0, 1) := by decide +kernel
theorem dX7_clearRows_17 : decode cX7_clearRows 17 = .ok (.invokestatic 101, 3) := by decide +kernel
theorem dX7_clearRows_20 : decode cX7_clearRows 20 = .ok (.return_, 1) := by decide +kernel
theorem dX7_advance_0 : decode cX7_advance 0 = .ok (.aload_n 0, 1) := by decide +kernel
theorem dX7_advance_1 : decode cX7_advance 1 = .ok (.getfield 34, 3) := by decide +kernel
theorem dX7_advance_4 : decode cX7_advance 4 = .ok (.aload_n 1, 1) := by decide +kernel
theorem dX7_advance_5 : decode cX7_advance 5 = .ok (.iload_n 3, 1) := by decide +kernel
theorem dX7_advance_6 : decode cX7_advance 6 = .ok (.invokevirtual 84, 3) := by decide +kernel
theorem dX7_advance_9 : decode cX7_advance 9 = .ok (.invokestatic 91, 3) := by decide +kernel
theorem dX7_advance_12 : decode cX7_advance 12 = .ok (.iconst 0, 1) := by decide +kernel
theorem dX7_advance_13 : decode cX7_advance 13 = .ok (.istore 5, 2) := by decide +kernel
theorem dX7_advance_15 : decode cX7_advance 15 = .ok (.iload 5, 2) := by decide +kernel
theorem dX7_advance_17 : decode cX7_advance 17 = .ok (.aload_n 1, 1) := by decide +kernel
theorem dX7_advance_18 : decode cX7_advance 18 = .ok (.iload_n 2, 1) := by decide +kernel
theorem dX7_advance_19 : decode cX7_advance 19 = .ok (.invokevirtual 84, 3) := by decide +kernel
theorem dX7_advance_22 : decode cX7_advance 22 = .ok (.if_icmp .ge 135, 3) := by decide +kernel
theorem dX7_advance_25 : decode cX7_advance 25 = .ok (.aload_n 0, 1) := by decide +kernel
theorem dX7_advance_26 : decode cX7_advance 26 = .ok (.iload 5, 2) := by decide +kernel
theorem dX7_advance_28 : decode cX7_advance 28 = .ok (.iload 4, 2) := by decide +kernel
theorem dX7_advance_30 : decode cX7_advance 30 = .ok (.invokevirtual 104, 3) := by decide +kernel
theorem dX7_advance_33 : decode cX7_advance 33 = .ok (.istore 6, 2) := by decide +kernel
theorem dX7_advance_35 : decode cX7_advance 35 = .ok (.aload_n 0, 1) := by decide +kernel
theorem dX7_advance_36 : decode cX7_advance 36 = .ok (.iload 5, 2) := by decide +kernel
theorem dX7_advance_38 : decode cX7_advance 38 = .ok (.iload 4, 2) := by decide +kernel
theorem dX7_advance_40 : decode cX7_advance 40 = .ok (.invokevirtual 107, 3) := by decide +kernel
theorem dX7_advance_43 : decode cX7_advance 43 = .ok (.istore 7, 2) := by decide +kernel
theorem dX7_advance_45 : decode cX7_advance 45 = .ok (.iconst 0, 1) := by decide +kernel
theorem dX7_advance_46 : decode cX7_advance 46 = .ok (.istore 8, 2) := by decide +kernel
theorem dX7_advance_48 : decode cX7_advance 48 = .ok (.iload 6, 2) := by decide +kernel
theorem dX7_advance_50 : decode cX7_advance 50 = .ok (.iload 7, 2) := by decide +kernel
theorem dX7_advance_52 : decode cX7_advance 52 = .ok (.if_icmp .gt 99, 3) := by decide +kernel
theorem dX7_advance_55 : decode cX7_advance 55 = .ok (.iload 8, 2) := by decide +kernel
theorem dX7_advance_57 : decode cX7_advance 57 = .ok (.aload_n 1, 1) := by decide +kernel
theorem dX7_advance_58 : decode cX7_advance 58 = .ok (.iload_n 3, 1) := by decide +kernel
theorem dX7_advance_59 : decode cX7_advance 59 = .ok (.invokevirtual 84, 3) := by decide +kernel
theorem dX7_advance_62 : decode cX7_advance 62 = .ok (.if_icmp .ge 89, 3) := by decide +kernel
theorem dX7_advance_65 : decode cX7_advance 65 = .ok (.aload_n 1, 1) := by decide +kernel
theorem dX7_advance_66 : decode cX7_advance 66 = .ok (.getfield 43, 3) := by decide +kernel
theorem dX7_advance_69 : decode cX7_advance 69 = .ok (.iload_n 3, 1) := by decide +kernel
theorem dX7_advance_70 : decode cX7_advance 70 = .ok (.iload 8, 2) := by decide +kernel
theorem dX7_advance_72 : decode cX7_advance 72 = .ok (.invokevirtual 97, 3) := by decide +kernel
theorem dX7_advance_75 : decode cX7_advance 75 = .ok (.ifCond .eq 16, 3) := by decide +kernel
theorem dX7_advance_78 : decode cX7_advance 78 = .ok (.aload_n 1, 1) := by decide +kernel
theorem dX7_advance_79 : decode cX7_advance 79 = .ok (.iload_n 2, 1) := by decide +kernel
theorem dX7_advance_80 : decode cX7_advance 80 = .ok (.iload 5, 2) := by decide +kernel
theorem dX7_advance_82 : decode cX7_advance 82 = .ok (.iload_n 3, 1) := by decide +kernel
theorem dX7_advance_83 : decode cX7_advance 83 = .ok (.iload 8, 2) := by decide +kernel
theorem dX7_advance_85 : decode cX7_advance 85 = .ok (.invokevirtual 110, 3) := by decide +kernel
theorem dX7_advance_88 : decode cX7_advance 88 = .ok (.goto 5, 3) := by decide +kernel
theorem dX7_advance_91 : decode cX7_advance 91 = .ok (.bipush (-2), 2) := by decide +kernel
theorem dX7_advance_93 : decode cX7_advance 93 = .ok (.istore 9, 2) := by decide +kernel
theorem dX7_advance_95 : decode cX7_advance 95 = .ok (.iload 9, 2) := by decide +kernel
theorem dX7_advance_97 : decode cX7_advance 97 = .ok (.bipush (-2), 2) := by decide +kernel
theorem dX7_advance_99 : decode cX7_advance 99 = .ok (.if_icmp .eq 46, 3) := by decide +kernel
theorem dX7_advance_102 : decode cX7_advance 102 = .ok (.iload 9, 2) := by decide +kernel
theorem dX7_advance_104 : decode cX7_advance 104 = .ok (.aload_n 1, 1) := by decide +kernel
theorem dX7_advance_105 : decode cX7_advance 105 = .ok (.iload_n 3, 1) := by decide +kernel
theorem dX7_advance_106 : decode cX7_advance 106 = .ok (.iload 8, 2) := by decide +kernel
theorem dX7_advance_108 : decode cX7_advance 108 = .ok (.invokevirtual 94, 3) := by decide +kernel
theorem dX7_advance_111 : decode cX7_advance 111 = .ok (.iadd, 1) := by decide +kernel
theorem dX7_advance_112 : decode cX7_advance 112 = .ok (.istore 10, 2) := by decide +kernel
theorem dX7_advance_114 : decode cX7_advance 114 = .ok (.aload_n 0, 1) := by decide +kernel
theorem dX7_advance_115 : decode cX7_advance 115 = .ok (.iload 5, 2) := by decide +kernel
theorem dX7_advance_117 : decode cX7_advance 117 = .ok (.sipush 301, 3) := by decide +kernel
theorem dX7_advance_120 : decode cX7_advance 120 = .ok (.imul, 1) := by decide +kernel
theorem dX7_advance_121 : decode cX7_advance 121 = .ok (.iload 8, 2) := by decide +kernel
theorem dX7_advance_123 : decode cX7_advance 123 = .ok (.sipush 301, 3) := by decide +kernel
theorem dX7_advance_126 : decode cX7_advance 126 = .ok (.imul, 1) := by decide +kernel
theorem dX7_advance_127 : decode cX7_advance 127 = .ok (.iload 10, 2) := by decide +kernel
theorem dX7_advance_129 : decode cX7_advance 129 = .ok (.iadd, 1) := by decide +kernel
theorem dX7_advance_130 : decode cX7_advance 130 = .ok (.iload 6, 2) := by decide +kernel
theorem dX7_advance_132 : decode cX7_advance 132 = .ok (.iload 7, 2) := by decide +kernel
theorem dX7_advance_134 : decode cX7_advance 134 = .ok (.iload 4, 2) := by decide +kernel
theorem dX7_advance_136 : decode cX7_advance 136 = .ok (.iload 10, 2) := by decide +kernel
theorem dX7_advance_138 : decode cX7_advance 138 = .ok (.isub, 1) := by decide +kernel
theorem dX7_advance_139 : decode cX7_advance 139 = .ok (.invokestatic 66, 3) := by decide +kernel
theorem dX7_advance_142 : decode cX7_advance 142 = .ok (.invokevirtual 114, 3) := by decide +kernel
theorem dX7_advance_145 : decode cX7_advance 145 = .ok (.iinc 8 1, 3) := by decide +kernel
theorem dX7_advance_148 : decode cX7_advance 148 = .ok (.goto (-100), 3) := by decide +kernel
theorem dX7_advance_151 : decode cX7_advance 151 = .ok (.iinc 5 1, 3) := by decide +kernel
theorem dX7_advance_154 : decode cX7_advance 154 = .ok (.goto (-139), 3) := by decide +kernel
theorem dX7_advance_157 : decode cX7_advance 157 = .ok (.aload_n 0, 1) := by decide +kernel
theorem dX7_advance_158 : decode cX7_advance 158 = .ok (.getfield 31, 3) := by decide +kernel
theorem dX7_advance_161 : decode cX7_advance 161 = .ok (.astore 5, 2) := by decide +kernel
theorem dX7_advance_163 : decode cX7_advance 163 = .ok (.aload_n 0, 1) := by decide +kernel
theorem dX7_advance_164 : decode cX7_advance 164 = .ok (.aload_n 0, 1) := by decide +kernel
theorem dX7_advance_165 : decode cX7_advance 165 = .ok (.getfield 34, 3) := by decide +kernel
theorem dX7_advance_168 : decode cX7_advance 168 = .ok (.putfield 31, 3) := by decide +kernel
theorem dX7_advance_171 : decode cX7_advance 171 = .ok (.aload_n 0, 1) := by decide +kernel
theorem dX7_advance_172 : decode cX7_advance 172 = .ok (.aload 5, 2) := by decide +kernel
theorem dX7_advance_174 : decode cX7_advance 174 = .ok (.putfield 34, 3) := by decide +kernel
theorem dX7_advance_177 : decode cX7_advance 177 = .ok (.return_, 1) := by decide +kernel
theorem dX7_cheapestOf_0 : decode cX7_cheapestOf 0 = .ok (.iconst 0, 1) := by decide +kernel
theorem dX7_cheapestOf_1 : decode cX7_cheapestOf 1 = .ok (.istore_n 3, 1) := by decide +kernel
theorem dX7_cheapestOf_2 : decode cX7_cheapestOf 2 = .ok (.iload_n 3, 1) := by decide +kernel
theorem dX7_cheapestOf_3 : decode cX7_cheapestOf 3 = .ok (.iload_n 2, 1) := by decide +kernel
theorem dX7_cheapestOf_4 : decode cX7_cheapestOf 4 = .ok (.if_icmp .gt 45, 3) := by decide +kernel
theorem dX7_cheapestOf_7 : decode cX7_cheapestOf 7 = .ok (.iload_n 1, 1) := by decide +kernel
theorem dX7_cheapestOf_8 : decode cX7_cheapestOf 8 = .ok (.sipush 301, 3) := by decide +kernel
theorem dX7_cheapestOf_11 : decode cX7_cheapestOf 11 = .ok (.imul, 1) := by decide +kernel
theorem dX7_cheapestOf_12 : decode cX7_cheapestOf 12 = .ok (.iload_n 3, 1) := by decide +kernel
theorem dX7_cheapestOf_13 : decode cX7_cheapestOf 13 = .ok (.iadd, 1) := by decide +kernel
theorem dX7_cheapestOf_14 : decode cX7_cheapestOf 14 = .ok (.istore 4, 2) := by decide +kernel
theorem dX7_cheapestOf_16 : decode cX7_cheapestOf 16 = .ok (.iload 4, 2) := by decide +kernel
theorem dX7_cheapestOf_18 : decode cX7_cheapestOf 18 = .ok (.ifCond .lt 25, 3) := by decide +kernel
theorem dX7_cheapestOf_21 : decode cX7_cheapestOf 21 = .ok (.iload 4, 2) := by decide +kernel
theorem dX7_cheapestOf_23 : decode cX7_cheapestOf 23 = .ok (.aload_n 0, 1) := by decide +kernel
theorem dX7_cheapestOf_24 : decode cX7_cheapestOf 24 = .ok (.getfield 31, 3) := by decide +kernel
theorem dX7_cheapestOf_27 : decode cX7_cheapestOf 27 = .ok (.arraylength, 1) := by decide +kernel
theorem dX7_cheapestOf_28 : decode cX7_cheapestOf 28 = .ok (.if_icmp .ge 15, 3) := by decide +kernel
theorem dX7_cheapestOf_31 : decode cX7_cheapestOf 31 = .ok (.aload_n 0, 1) := by decide +kernel
theorem dX7_cheapestOf_32 : decode cX7_cheapestOf 32 = .ok (.getfield 31, 3) := by decide +kernel
theorem dX7_cheapestOf_35 : decode cX7_cheapestOf 35 = .ok (.iload 4, 2) := by decide +kernel
theorem dX7_cheapestOf_37 : decode cX7_cheapestOf 37 = .ok (.iaload, 1) := by decide +kernel
theorem dX7_cheapestOf_38 : decode cX7_cheapestOf 38 = .ok (.ifCond .eq 5, 3) := by decide +kernel
theorem dX7_cheapestOf_41 : decode cX7_cheapestOf 41 = .ok (.iload_n 3, 1) := by decide +kernel
theorem dX7_cheapestOf_42 : decode cX7_cheapestOf 42 = .ok (.ireturn, 1) := by decide +kernel
theorem dX7_cheapestOf_43 : decode cX7_cheapestOf 43 = .ok (.iinc 3 1, 3) := by decide +kernel
theorem dX7_cheapestOf_46 : decode cX7_cheapestOf 46 = .ok (.goto (-44), 3) := by decide +kernel
theorem dX7_cheapestOf_49 : decode cX7_cheapestOf 49 = .ok (.iload_n 2, 1) := by decide +kernel
theorem dX7_cheapestOf_50 : decode cX7_cheapestOf 50 = .ok (.iconst 1, 1) := by decide +kernel
theorem dX7_cheapestOf_51 : decode cX7_cheapestOf 51 = .ok (.iadd, 1) := by decide +kernel
theorem dX7_cheapestOf_52 : decode cX7_cheapestOf 52 = .ok (.ireturn, 1) := by decide +kernel
theorem dX7_dearestOf_0 : decode cX7_dearestOf 0 = .ok (.iload_n 2, 1) := by decide +kernel
theorem dX7_dearestOf_1 : decode cX7_dearestOf 1 = .ok (.istore_n 3, 1) := by decide +kernel
theorem dX7_dearestOf_2 : decode cX7_dearestOf 2 = .ok (.iload_n 3, 1) := by decide +kernel
theorem dX7_dearestOf_3 : decode cX7_dearestOf 3 = .ok (.ifCond .lt 45, 3) := by decide +kernel
theorem dX7_dearestOf_6 : decode cX7_dearestOf 6 = .ok (.iload_n 1, 1) := by decide +kernel
theorem dX7_dearestOf_7 : decode cX7_dearestOf 7 = .ok (.sipush 301, 3) := by decide +kernel
theorem dX7_dearestOf_10 : decode cX7_dearestOf 10 = .ok (.imul, 1) := by decide +kernel
theorem dX7_dearestOf_11 : decode cX7_dearestOf 11 = .ok (.iload_n 3, 1) := by decide +kernel
theorem dX7_dearestOf_12 : decode cX7_dearestOf 12 = .ok (.iadd, 1) := by decide +kernel
theorem dX7_dearestOf_13 : decode cX7_dearestOf 13 = .ok (.istore 4, 2) := by decide +kernel
theorem dX7_dearestOf_15 : decode cX7_dearestOf 15 = .ok (.iload 4, 2) := by decide +kernel
theorem dX7_dearestOf_17 : decode cX7_dearestOf 17 = .ok (.ifCond .lt 25, 3) := by decide +kernel
theorem dX7_dearestOf_20 : decode cX7_dearestOf 20 = .ok (.iload 4, 2) := by decide +kernel
theorem dX7_dearestOf_22 : decode cX7_dearestOf 22 = .ok (.aload_n 0, 1) := by decide +kernel
theorem dX7_dearestOf_23 : decode cX7_dearestOf 23 = .ok (.getfield 31, 3) := by decide +kernel
theorem dX7_dearestOf_26 : decode cX7_dearestOf 26 = .ok (.arraylength, 1) := by decide +kernel
theorem dX7_dearestOf_27 : decode cX7_dearestOf 27 = .ok (.if_icmp .ge 15, 3) := by decide +kernel
theorem dX7_dearestOf_30 : decode cX7_dearestOf 30 = .ok (.aload_n 0, 1) := by decide +kernel
theorem dX7_dearestOf_31 : decode cX7_dearestOf 31 = .ok (.getfield 31, 3) := by decide +kernel
theorem dX7_dearestOf_34 : decode cX7_dearestOf 34 = .ok (.iload 4, 2) := by decide +kernel
theorem dX7_dearestOf_36 : decode cX7_dearestOf 36 = .ok (.iaload, 1) := by decide +kernel
theorem dX7_dearestOf_37 : decode cX7_dearestOf 37 = .ok (.ifCond .eq 5, 3) := by decide +kernel
theorem dX7_dearestOf_40 : decode cX7_dearestOf 40 = .ok (.iload_n 3, 1) := by decide +kernel
theorem dX7_dearestOf_41 : decode cX7_dearestOf 41 = .ok (.ireturn, 1) := by decide +kernel
theorem dX7_dearestOf_42 : decode cX7_dearestOf 42 = .ok (.iinc 3 (-1), 3) := by decide +kernel
theorem dX7_dearestOf_45 : decode cX7_dearestOf 45 = .ok (.goto (-43), 3) := by decide +kernel
theorem dX7_dearestOf_48 : decode cX7_dearestOf 48 = .ok (.iconst (-1), 1) := by decide +kernel
theorem dX7_dearestOf_49 : decode cX7_dearestOf 49 = .ok (.ireturn, 1) := by decide +kernel
theorem dX7_carry_0 : decode cX7_carry 0 = .ok (.iload_n 1, 1) := by decide +kernel
theorem dX7_carry_1 : decode cX7_carry 1 = .ok (.ifCond .lt 35, 3) := by decide +kernel
theorem dX7_carry_4 : decode cX7_carry 4 = .ok (.iload_n 2, 1) := by decide +kernel
theorem dX7_carry_5 : decode cX7_carry 5 = .ok (.ifCond .lt 31, 3) := by decide +kernel
theorem dX7_carry_8 : decode cX7_carry 8 = .ok (.iload_n 3, 1) := by decide +kernel
theorem dX7_carry_9 : decode cX7_carry 9 = .ok (.ifCond .lt 27, 3) := by decide +kernel
theorem dX7_carry_12 : decode cX7_carry 12 = .ok (.iload 4, 2) := by decide +kernel
theorem dX7_carry_14 : decode cX7_carry 14 = .ok (.aload_n 0, 1) := by decide +kernel
theorem dX7_carry_15 : decode cX7_carry 15 = .ok (.getfield 31, 3) := by decide +kernel
theorem dX7_carry_18 : decode cX7_carry 18 = .ok (.arraylength, 1) := by decide +kernel
theorem dX7_carry_19 : decode cX7_carry 19 = .ok (.iload_n 1, 1) := by decide +kernel
theorem dX7_carry_20 : decode cX7_carry 20 = .ok (.isub, 1) := by decide +kernel
theorem dX7_carry_21 : decode cX7_carry 21 = .ok (.if_icmp .ge 15, 3) := by decide +kernel
theorem dX7_carry_24 : decode cX7_carry 24 = .ok (.iload 4, 2) := by decide +kernel
theorem dX7_carry_26 : decode cX7_carry 26 = .ok (.aload_n 0, 1) := by decide +kernel
theorem dX7_carry_27 : decode cX7_carry 27 = .ok (.getfield 34, 3) := by decide +kernel
theorem dX7_carry_30 : decode cX7_carry 30 = .ok (.arraylength, 1) := by decide +kernel
theorem dX7_carry_31 : decode cX7_carry 31 = .ok (.iload_n 2, 1) := by decide +kernel
theorem dX7_carry_32 : decode cX7_carry 32 = .ok (.isub, 1) := by decide +kernel
theorem dX7_carry_33 : decode cX7_carry 33 = .ok (.if_icmp .lt 4, 3) := by decide +kernel
theorem dX7_carry_36 : decode cX7_carry 36 = .ok (.return_, 1) := by decide +kernel
theorem dX7_carry_37 : decode cX7_carry 37 = .ok (.iload_n 3, 1) := by decide +kernel
theorem dX7_carry_38 : decode cX7_carry 38 = .ok (.istore 5, 2) := by decide +kernel
theorem dX7_carry_40 : decode cX7_carry 40 = .ok (.iload 5, 2) := by decide +kernel
theorem dX7_carry_42 : decode cX7_carry 42 = .ok (.iload 4, 2) := by decide +kernel
theorem dX7_carry_44 : decode cX7_carry 44 = .ok (.if_icmp .gt 39, 3) := by decide +kernel
theorem dX7_carry_47 : decode cX7_carry 47 = .ok (.aload_n 0, 1) := by decide +kernel
theorem dX7_carry_48 : decode cX7_carry 48 = .ok (.getfield 34, 3) := by decide +kernel
theorem dX7_carry_51 : decode cX7_carry 51 = .ok (.iload_n 2, 1) := by decide +kernel
theorem dX7_carry_52 : decode cX7_carry 52 = .ok (.iload 5, 2) := by decide +kernel
theorem dX7_carry_54 : decode cX7_carry 54 = .ok (.iadd, 1) := by decide +kernel
theorem dX7_carry_55 : decode cX7_carry 55 = .ok (.aload_n 0, 1) := by decide +kernel
theorem dX7_carry_56 : decode cX7_carry 56 = .ok (.getfield 34, 3) := by decide +kernel
theorem dX7_carry_59 : decode cX7_carry 59 = .ok (.iload_n 2, 1) := by decide +kernel
theorem dX7_carry_60 : decode cX7_carry 60 = .ok (.iload 5, 2) := by decide +kernel
theorem dX7_carry_62 : decode cX7_carry 62 = .ok (.iadd, 1) := by decide +kernel
theorem dX7_carry_63 : decode cX7_carry 63 = .ok (.iaload, 1) := by decide +kernel
theorem dX7_carry_64 : decode cX7_carry 64 = .ok (.aload_n 0, 1) := by decide +kernel
theorem dX7_carry_65 : decode cX7_carry 65 = .ok (.getfield 31, 3) := by decide +kernel
theorem dX7_carry_68 : decode cX7_carry 68 = .ok (.iload_n 1, 1) := by decide +kernel
theorem dX7_carry_69 : decode cX7_carry 69 = .ok (.iload 5, 2) := by decide +kernel
theorem dX7_carry_71 : decode cX7_carry 71 = .ok (.iadd, 1) := by decide +kernel
theorem dX7_carry_72 : decode cX7_carry 72 = .ok (.iaload, 1) := by decide +kernel
theorem dX7_carry_73 : decode cX7_carry 73 = .ok (.invokestatic 62, 3) := by decide +kernel
theorem dX7_carry_76 : decode cX7_carry 76 = .ok (.iastore, 1) := by decide +kernel
theorem dX7_carry_77 : decode cX7_carry 77 = .ok (.iinc 5 1, 3) := by decide +kernel
theorem dX7_carry_80 : decode cX7_carry 80 = .ok (.goto (-40), 3) := by decide +kernel
theorem dX7_carry_83 : decode cX7_carry 83 = .ok (.return_, 1) := by decide +kernel
theorem dX7_gather_0 : decode cX7_gather 0 = .ok (.aload_n 0, 1) := by decide +kernel
theorem dX7_gather_1 : decode cX7_gather 1 = .ok (.getfield 18, 3) := by decide +kernel
theorem dX7_gather_4 : decode cX7_gather 4 = .ok (.iconst 0, 1) := by decide +kernel
theorem dX7_gather_5 : decode cX7_gather 5 = .ok (.invokestatic 37, 3) := by decide +kernel
theorem dX7_gather_8 : decode cX7_gather 8 = .ok (.iconst 0, 1) := by decide +kernel
theorem dX7_gather_9 : decode cX7_gather 9 = .ok (.istore_n 3, 1) := by decide +kernel
theorem dX7_gather_10 : decode cX7_gather 10 = .ok (.iload_n 3, 1) := by decide +kernel
theorem dX7_gather_11 : decode cX7_gather 11 = .ok (.iload_n 1, 1) := by decide +kernel
theorem dX7_gather_12 : decode cX7_gather 12 = .ok (.if_icmp .ge 81, 3) := by decide +kernel
theorem dX7_gather_15 : decode cX7_gather 15 = .ok (.iconst 0, 1) := by decide +kernel
theorem dX7_gather_16 : decode cX7_gather 16 = .ok (.istore 4, 2) := by decide +kernel
theorem dX7_gather_18 : decode cX7_gather 18 = .ok (.iload 4, 2) := by decide +kernel
theorem dX7_gather_20 : decode cX7_gather 20 = .ok (.iload_n 2, 1) := by decide +kernel
theorem dX7_gather_21 : decode cX7_gather 21 = .ok (.if_icmp .gt 66, 3) := by decide +kernel
theorem dX7_gather_24 : decode cX7_gather 24 = .ok (.iload 4, 2) := by decide +kernel
theorem dX7_gather_26 : decode cX7_gather 26 = .ok (.sipush 301, 3) := by decide +kernel
theorem dX7_gather_29 : decode cX7_gather 29 = .ok (.if_icmp .ge 58, 3) := by decide +kernel
theorem dX7_gather_32 : decode cX7_gather 32 = .ok (.iload_n 3, 1) := by decide +kernel
theorem dX7_gather_33 : decode cX7_gather 33 = .ok (.sipush 301, 3) := by decide +kernel
theorem dX7_gather_36 : decode cX7_gather 36 = .ok (.imul, 1) := by decide +kernel
theorem dX7_gather_37 : decode cX7_gather 37 = .ok (.iload 4, 2) := by decide +kernel
theorem dX7_gather_39 : decode cX7_gather 39 = .ok (.iadd, 1) := by decide +kernel
theorem dX7_gather_40 : decode cX7_gather 40 = .ok (.istore 5, 2) := by decide +kernel
theorem dX7_gather_42 : decode cX7_gather 42 = .ok (.iload 5, 2) := by decide +kernel
theorem dX7_gather_44 : decode cX7_gather 44 = .ok (.ifCond .lt 37, 3) := by decide +kernel
theorem dX7_gather_47 : decode cX7_gather 47 = .ok (.iload 5, 2) := by decide +kernel
theorem dX7_gather_49 : decode cX7_gather 49 = .ok (.aload_n 0, 1) := by decide +kernel
theorem dX7_gather_50 : decode cX7_gather 50 = .ok (.getfield 31, 3) := by decide +kernel
theorem dX7_gather_53 : decode cX7_gather 53 = .ok (.arraylength, 1) := by decide +kernel
theorem dX7_gather_54 : decode cX7_gather 54 = .ok (.if_icmp .ge 27, 3) := by decide +kernel
theorem dX7_gather_57 : decode cX7_gather 57 = .ok (.aload_n 0, 1) := by decide +kernel
theorem dX7_gather_58 : decode cX7_gather 58 = .ok (.getfield 18, 3) := by decide +kernel
theorem dX7_gather_61 : decode cX7_gather 61 = .ok (.iload 4, 2) := by decide +kernel
theorem dX7_gather_63 : decode cX7_gather 63 = .ok (.aload_n 0, 1) := by decide +kernel
theorem dX7_gather_64 : decode cX7_gather 64 = .ok (.getfield 18, 3) := by decide +kernel
theorem dX7_gather_67 : decode cX7_gather 67 = .ok (.iload 4, 2) := by decide +kernel
theorem dX7_gather_69 : decode cX7_gather 69 = .ok (.iaload, 1) := by decide +kernel
theorem dX7_gather_70 : decode cX7_gather 70 = .ok (.aload_n 0, 1) := by decide +kernel
theorem dX7_gather_71 : decode cX7_gather 71 = .ok (.getfield 31, 3) := by decide +kernel
theorem dX7_gather_74 : decode cX7_gather 74 = .ok (.iload 5, 2) := by decide +kernel
theorem dX7_gather_76 : decode cX7_gather 76 = .ok (.iaload, 1) := by decide +kernel
theorem dX7_gather_77 : decode cX7_gather 77 = .ok (.invokestatic 62, 3) := by decide +kernel
theorem dX7_gather_80 : decode cX7_gather 80 = .ok (.iastore, 1) := by decide +kernel
theorem dX7_gather_81 : decode cX7_gather 81 = .ok (.iinc 4 1, 3) := by decide +kernel
theorem dX7_gather_84 : decode cX7_gather 84 = .ok (.goto (-66), 3) := by decide +kernel
theorem dX7_gather_87 : decode cX7_gather 87 = .ok (.iinc 3 1, 3) := by decide +kernel
theorem dX7_gather_90 : decode cX7_gather 90 = .ok (.goto (-80), 3) := by decide +kernel
theorem dX7_gather_93 : decode cX7_gather 93 = .ok (.return_, 1) := by decide +kernel
theorem dX7_join_0 : decode cX7_join 0 = .ok (.aload_n 0, 1) := by decide +kernel
theorem dX7_join_1 : decode cX7_join 1 = .ok (.getfield 15, 3) := by decide +kernel
theorem dX7_join_4 : decode cX7_join 4 = .ok (.iconst 0, 1) := by decide +kernel
theorem dX7_join_5 : decode cX7_join 5 = .ok (.invokestatic 37, 3) := by decide +kernel
theorem dX7_join_8 : decode cX7_join 8 = .ok (.iconst 0, 1) := by decide +kernel
theorem dX7_join_9 : decode cX7_join 9 = .ok (.istore_n 2, 1) := by decide +kernel
theorem dX7_join_10 : decode cX7_join 10 = .ok (.iload_n 2, 1) := by decide +kernel
theorem dX7_join_11 : decode cX7_join 11 = .ok (.iload_n 1, 1) := by decide +kernel
theorem dX7_join_12 : decode cX7_join 12 = .ok (.if_icmp .gt 94, 3) := by decide +kernel
theorem dX7_join_15 : decode cX7_join 15 = .ok (.iload_n 2, 1) := by decide +kernel
theorem dX7_join_16 : decode cX7_join 16 = .ok (.sipush 301, 3) := by decide +kernel
theorem dX7_join_19 : decode cX7_join 19 = .ok (.if_icmp .ge 87, 3) := by decide +kernel
theorem dX7_join_22 : decode cX7_join 22 = .ok (.iconst 0, 1) := by decide +kernel
theorem dX7_join_23 : decode cX7_join 23 = .ok (.istore_n 3, 1) := by decide +kernel
theorem dX7_join_24 : decode cX7_join 24 = .ok (.aload_n 0, 1) := by decide +kernel
theorem dX7_join_25 : decode cX7_join 25 = .ok (.getfield 11, 3) := by decide +kernel
theorem dX7_join_28 : decode cX7_join 28 = .ok (.iload_n 2, 1) := by decide +kernel
theorem dX7_join_29 : decode cX7_join 29 = .ok (.iaload, 1) := by decide +kernel
theorem dX7_join_30 : decode cX7_join 30 = .ok (.ifCond .eq 70, 3) := by decide +kernel
theorem dX7_join_33 : decode cX7_join 33 = .ok (.iload_n 2, 1) := by decide +kernel
theorem dX7_join_34 : decode cX7_join 34 = .ok (.iload_n 3, 1) := by decide +kernel
theorem dX7_join_35 : decode cX7_join 35 = .ok (.iadd, 1) := by decide +kernel
theorem dX7_join_36 : decode cX7_join 36 = .ok (.iload_n 1, 1) := by decide +kernel
theorem dX7_join_37 : decode cX7_join 37 = .ok (.if_icmp .gt 63, 3) := by decide +kernel
theorem dX7_join_40 : decode cX7_join 40 = .ok (.iload_n 2, 1) := by decide +kernel
theorem dX7_join_41 : decode cX7_join 41 = .ok (.iload_n 3, 1) := by decide +kernel
theorem dX7_join_42 : decode cX7_join 42 = .ok (.iadd, 1) := by decide +kernel
theorem dX7_join_43 : decode cX7_join 43 = .ok (.sipush 301, 3) := by decide +kernel
theorem dX7_join_46 : decode cX7_join 46 = .ok (.if_icmp .ge 54, 3) := by decide +kernel
theorem dX7_join_49 : decode cX7_join 49 = .ok (.aload_n 0, 1) := by decide +kernel
theorem dX7_join_50 : decode cX7_join 50 = .ok (.getfield 11, 3) := by decide +kernel
theorem dX7_join_53 : decode cX7_join 53 = .ok (.iload_n 2, 1) := by decide +kernel
theorem dX7_join_54 : decode cX7_join 54 = .ok (.iaload, 1) := by decide +kernel
theorem dX7_join_55 : decode cX7_join 55 = .ok (.i2l, 1) := by decide +kernel
theorem dX7_join_56 : decode cX7_join 56 = .ok (.aload_n 0, 1) := by decide +kernel
theorem dX7_join_57 : decode cX7_join 57 = .ok (.getfield 18, 3) := by decide +kernel
theorem dX7_join_60 : decode cX7_join 60 = .ok (.iload_n 3, 1) := by decide +kernel
theorem dX7_join_61 : decode cX7_join 61 = .ok (.iaload, 1) := by decide +kernel
theorem dX7_join_62 : decode cX7_join 62 = .ok (.i2l, 1) := by decide +kernel
theorem dX7_join_63 : decode cX7_join 63 = .ok (.lmul, 1) := by decide +kernel
theorem dX7_join_64 : decode cX7_join 64 = .ok (.lstore 4, 2) := by decide +kernel
theorem dX7_join_66 : decode cX7_join 66 = .ok (.aload_n 0, 1) := by decide +kernel
theorem dX7_join_67 : decode cX7_join 67 = .ok (.getfield 15, 3) := by decide +kernel
theorem dX7_join_70 : decode cX7_join 70 = .ok (.iload_n 2, 1) := by decide +kernel
theorem dX7_join_71 : decode cX7_join 71 = .ok (.iload_n 3, 1) := by decide +kernel
theorem dX7_join_72 : decode cX7_join 72 = .ok (.iadd, 1) := by decide +kernel
theorem dX7_join_73 : decode cX7_join 73 = .ok (.aload_n 0, 1) := by decide +kernel
theorem dX7_join_74 : decode cX7_join 74 = .ok (.getfield 15, 3) := by decide +kernel
theorem dX7_join_77 : decode cX7_join 77 = .ok (.iload_n 2, 1) := by decide +kernel
theorem dX7_join_78 : decode cX7_join 78 = .ok (.iload_n 3, 1) := by decide +kernel
theorem dX7_join_79 : decode cX7_join 79 = .ok (.iadd, 1) := by decide +kernel
theorem dX7_join_80 : decode cX7_join 80 = .ok (.iaload, 1) := by decide +kernel
theorem dX7_join_81 : decode cX7_join 81 = .ok (.ldc2_w 118, 3) := by decide +kernel
theorem dX7_join_84 : decode cX7_join 84 = .ok (.lload 4, 2) := by decide +kernel
theorem dX7_join_86 : decode cX7_join 86 = .ok (.invokestatic 120, 3) := by decide +kernel
theorem dX7_join_89 : decode cX7_join 89 = .ok (.l2i, 1) := by decide +kernel
theorem dX7_join_90 : decode cX7_join 90 = .ok (.invokestatic 62, 3) := by decide +kernel
theorem dX7_join_93 : decode cX7_join 93 = .ok (.iastore, 1) := by decide +kernel
theorem dX7_join_94 : decode cX7_join 94 = .ok (.iinc 3 1, 3) := by decide +kernel
theorem dX7_join_97 : decode cX7_join 97 = .ok (.goto (-73), 3) := by decide +kernel
theorem dX7_join_100 : decode cX7_join 100 = .ok (.iinc 2 1, 3) := by decide +kernel
theorem dX7_join_103 : decode cX7_join 103 = .ok (.goto (-93), 3) := by decide +kernel
theorem dX7_join_106 : decode cX7_join 106 = .ok (.aload_n 0, 1) := by decide +kernel
theorem dX7_join_107 : decode cX7_join 107 = .ok (.getfield 11, 3) := by decide +kernel
theorem dX7_join_110 : decode cX7_join 110 = .ok (.astore_n 2, 1) := by decide +kernel
theorem dX7_join_111 : decode cX7_join 111 = .ok (.aload_n 0, 1) := by decide +kernel
theorem dX7_join_112 : decode cX7_join 112 = .ok (.aload_n 0, 1) := by decide +kernel
theorem dX7_join_113 : decode cX7_join 113 = .ok (.getfield 15, 3) := by decide +kernel
theorem dX7_join_116 : decode cX7_join 116 = .ok (.putfield 11, 3) := by decide +kernel
theorem dX7_join_119 : decode cX7_join 119 = .ok (.aload_n 0, 1) := by decide +kernel
theorem dX7_join_120 : decode cX7_join 120 = .ok (.aload_n 2, 1) := by decide +kernel
theorem dX7_join_121 : decode cX7_join 121 = .ok (.putfield 15, 3) := by decide +kernel
theorem dX7_join_124 : decode cX7_join 124 = .ok (.return_, 1) := by decide +kernel
theorem dX8_init_0 : decode cX8_init 0 = .ok (.aload_n 0, 1) := by decide +kernel
theorem dX8_init_1 : decode cX8_init 1 = .ok (.bipush 40, 2) := by decide +kernel
theorem dX8_init_3 : decode cX8_init 3 = .ok (.invokespecial 3, 3) := by decide +kernel
theorem dX8_init_6 : decode cX8_init 6 = .ok (.return_, 1) := by decide +kernel
theorem dX8_listOne_0 : decode cX8_listOne 0 = .ok (.aload_n 0, 1) := by decide +kernel
theorem dX8_listOne_1 : decode cX8_listOne 1 = .ok (.iload_n 1, 1) := by decide +kernel
theorem dX8_listOne_2 : decode cX8_listOne 2 = .ok (.invokevirtual 9, 3) := by decide +kernel
theorem dX8_listOne_5 : decode cX8_listOne 5 = .ok (.istore_n 2, 1) := by decide +kernel
theorem dX8_listOne_6 : decode cX8_listOne 6 = .ok (.iload_n 2, 1) := by decide +kernel
theorem dX8_listOne_7 : decode cX8_listOne 7 = .ok (.iload_n 1, 1) := by decide +kernel
theorem dX8_listOne_8 : decode cX8_listOne 8 = .ok (.if_icmp .gt 17, 3) := by decide +kernel
theorem dX8_listOne_11 : decode cX8_listOne 11 = .ok (.aload_n 0, 1) := by decide +kernel
theorem dX8_listOne_12 : decode cX8_listOne 12 = .ok (.iload_n 1, 1) := by decide +kernel
theorem dX8_listOne_13 : decode cX8_listOne 13 = .ok (.iconst 0, 1) := by decide +kernel
theorem dX8_listOne_14 : decode cX8_listOne 14 = .ok (.iload_n 2, 1) := by decide +kernel
theorem dX8_listOne_15 : decode cX8_listOne 15 = .ok (.iconst 0, 1) := by decide +kernel
theorem dX8_listOne_16 : decode cX8_listOne 16 = .ok (.invokevirtual 15, 3) := by decide +kernel
theorem dX8_listOne_19 : decode cX8_listOne 19 = .ok (.iinc 2 1, 3) := by decide +kernel
theorem dX8_listOne_22 : decode cX8_listOne 22 = .ok (.goto (-16), 3) := by decide +kernel
theorem dX8_listOne_25 : decode cX8_listOne 25 = .ok (.return_, 1) := by decide +kernel
theorem dX8_earliestBreath_0 : decode cX8_earliestBreath 0 = .ok (.iload_n 1, 1) := by decide +kernel
theorem dX8_earliestBreath_1 : decode cX8_earliestBreath 1 = .ok (.iconst 1, 1) := by decide +kernel
theorem dX8_earliestBreath_2 : decode cX8_earliestBreath 2 = .ok (.iadd, 1) := by decide +kernel
theorem dX8_earliestBreath_3 : decode cX8_earliestBreath 3 = .ok (.istore_n 2, 1) := by decide +kernel
theorem dX8_earliestBreath_4 : decode cX8_earliestBreath 4 = .ok (.aload_n 0, 1) := by decide +kernel
theorem dX8_earliestBreath_5 : decode cX8_earliestBreath 5 = .ok (.getfield 19, 3) := by decide +kernel
theorem dX8_earliestBreath_8 : decode cX8_earliestBreath 8 = .ok (.iconst 1, 1) := by decide +kernel
theorem dX8_earliestBreath_9 : decode cX8_earliestBreath 9 = .ok (.invokevirtual 23, 3) := by decide +kernel
theorem dX8_earliestBreath_12 : decode cX8_earliestBreath 12 = .ok (.istore_n 3, 1) := by decide +kernel
theorem dX8_earliestBreath_13 : decode cX8_earliestBreath 13 = .ok (.iload_n 1, 1) := by decide +kernel
theorem dX8_earliestBreath_14 : decode cX8_earliestBreath 14 = .ok (.istore 4, 2) := by decide +kernel
theorem dX8_earliestBreath_16 : decode cX8_earliestBreath 16 = .ok (.iload 4, 2) := by decide +kernel
theorem dX8_earliestBreath_18 : decode cX8_earliestBreath 18 = .ok (.ifCond .lt 30, 3) := by decide +kernel
theorem dX8_earliestBreath_21 : decode cX8_earliestBreath 21 = .ok (.iload_n 3, 1) := by decide +kernel
theorem dX8_earliestBreath_22 : decode cX8_earliestBreath 22 = .ok (.aload_n 0, 1) := by decide +kernel
theorem dX8_earliestBreath_23 : decode cX8_earliestBreath 23 = .ok (.getfield 19, 3) := by decide +kernel
theorem dX8_earliestBreath_26 : decode cX8_earliestBreath 26 = .ok (.iload 4, 2) := by decide +kernel
theorem dX8_earliestBreath_28 : decode cX8_earliestBreath 28 = .ok (.invokevirtual 28, 3) := by decide +kernel
theorem dX8_earliestBreath_31 : decode cX8_earliestBreath 31 = .ok (.isub, 1) := by decide +kernel
theorem dX8_earliestBreath_32 : decode cX8_earliestBreath 32 = .ok (.istore_n 3, 1) := by decide +kernel
theorem dX8_earliestBreath_33 : decode cX8_earliestBreath 33 = .ok (.iload_n 3, 1) := by decide +kernel
theorem dX8_earliestBreath_34 : decode cX8_earliestBreath 34 = .ok (.ifCond .ge 5, 3) := by decide +kernel
theorem dX8_earliestBreath_37 : decode cX8_earliestBreath 37 = .ok (.iload_n 2, 1) := by decide +kernel
theorem dX8_earliestBreath_38 : decode cX8_earliestBreath 38 = .ok (.ireturn, 1) := by decide +kernel
theorem dX8_earliestBreath_39 : decode cX8_earliestBreath 39 = .ok (.iload 4, 2) := by decide +kernel
theorem dX8_earliestBreath_41 : decode cX8_earliestBreath 41 = .ok (.istore_n 2, 1) := by decide +kernel
theorem dX8_earliestBreath_42 : decode cX8_earliestBreath 42 = .ok (.iinc 4 (-1), 3) := by decide +kernel
theorem dX8_earliestBreath_45 : decode cX8_earliestBreath 45 = .ok (.goto (-29), 3) := by decide +kernel
theorem dX8_earliestBreath_48 : decode cX8_earliestBreath 48 = .ok (.iload_n 2, 1) := by decide +kernel
theorem dX8_earliestBreath_49 : decode cX8_earliestBreath 49 = .ok (.ireturn, 1) := by decide +kernel
theorem dX8_stepPrice_0 : decode cX8_stepPrice 0 = .ok (.aload_n 0, 1) := by decide +kernel
theorem dX8_stepPrice_1 : decode cX8_stepPrice 1 = .ok (.iload_n 1, 1) := by decide +kernel
theorem dX8_stepPrice_2 : decode cX8_stepPrice 2 = .ok (.iload_n 2, 1) := by decide +kernel
theorem dX8_stepPrice_3 : decode cX8_stepPrice 3 = .ok (.invokevirtual 31, 3) := by decide +kernel
theorem dX8_stepPrice_6 : decode cX8_stepPrice 6 = .ok (.aload_n 0, 1) := by decide +kernel
theorem dX8_stepPrice_7 : decode cX8_stepPrice 7 = .ok (.iload_n 3, 1) := by decide +kernel
theorem dX8_stepPrice_8 : decode cX8_stepPrice 8 = .ok (.iload 4, 2) := by decide +kernel
theorem dX8_stepPrice_10 : decode cX8_stepPrice 10 = .ok (.invokevirtual 31, 3) := by decide +kernel
theorem dX8_stepPrice_13 : decode cX8_stepPrice 13 = .ok (.if_icmp .ne 5, 3) := by decide +kernel
theorem dX8_stepPrice_16 : decode cX8_stepPrice 16 = .ok (.iconst 0, 1) := by decide +kernel
theorem dX8_stepPrice_17 : decode cX8_stepPrice 17 = .ok (.ireturn, 1) := by decide +kernel
theorem dX8_stepPrice_18 : decode cX8_stepPrice 18 = .ok (.aload_n 0, 1) := by decide +kernel
theorem dX8_stepPrice_19 : decode cX8_stepPrice 19 = .ok (.iload_n 3, 1) := by decide +kernel
theorem dX8_stepPrice_20 : decode cX8_stepPrice 20 = .ok (.iload 4, 2) := by decide +kernel
theorem dX8_stepPrice_22 : decode cX8_stepPrice 22 = .ok (.invokevirtual 31, 3) := by decide +kernel
theorem dX8_stepPrice_25 : decode cX8_stepPrice 25 = .ok (.iload_n 3, 1) := by decide +kernel
theorem dX8_stepPrice_26 : decode cX8_stepPrice 26 = .ok (.if_icmp .ne 12, 3) := by decide +kernel
theorem dX8_stepPrice_29 : decode cX8_stepPrice 29 = .ok (.aload_n 0, 1) := by decide +kernel
theorem dX8_stepPrice_30 : decode cX8_stepPrice 30 = .ok (.iload_n 1, 1) := by decide +kernel
theorem dX8_stepPrice_31 : decode cX8_stepPrice 31 = .ok (.iload_n 3, 1) := by decide +kernel
theorem dX8_stepPrice_32 : decode cX8_stepPrice 32 = .ok (.invokevirtual 35, 3) := by decide +kernel
theorem dX8_stepPrice_35 : decode cX8_stepPrice 35 = .ok (.goto 5, 3) := by decide +kernel
theorem dX8_stepPrice_38 : decode cX8_stepPrice 38 = .ok (.bipush (-2), 2) := by decide +kernel
theorem dX8_stepPrice_40 : decode cX8_stepPrice 40 = .ok (.ireturn, 1) := by decide +kernel
theorem dX8_breathPrice_0 : decode cX8_breathPrice 0 = .ok (.aload_n 0, 1) := by decide +kernel
theorem dX8_breathPrice_1 : decode cX8_breathPrice 1 = .ok (.getfield 19, 3) := by decide +kernel
theorem dX8_breathPrice_4 : decode cX8_breathPrice 4 = .ok (.iload_n 2, 1) := by decide +kernel
theorem dX8_breathPrice_5 : decode cX8_breathPrice 5 = .ok (.invokevirtual 38, 3) := by decide +kernel
theorem dX8_breathPrice_8 : decode cX8_breathPrice 8 = .ok (.aload_n 0, 1) := by decide +kernel
theorem dX8_breathPrice_9 : decode cX8_breathPrice 9 = .ok (.getfield 19, 3) := by decide +kernel
theorem dX8_breathPrice_12 : decode cX8_breathPrice 12 = .ok (.iload_n 1, 1) := by decide +kernel
theorem dX8_breathPrice_13 : decode cX8_breathPrice 13 = .ok (.invokevirtual 38, 3) := by decide +kernel
theorem dX8_breathPrice_16 : decode cX8_breathPrice 16 = .ok (.isub, 1) := by decide +kernel
theorem dX8_breathPrice_17 : decode cX8_breathPrice 17 = .ok (.aload_n 0, 1) := by decide +kernel
theorem dX8_breathPrice_18 : decode cX8_breathPrice 18 = .ok (.getfield 19, 3) := by decide +kernel
theorem dX8_breathPrice_21 : decode cX8_breathPrice 21 = .ok (.iload_n 1, 1) := by decide +kernel
theorem dX8_breathPrice_22 : decode cX8_breathPrice 22 = .ok (.invokevirtual 28, 3) := by decide +kernel
theorem dX8_breathPrice_25 : decode cX8_breathPrice 25 = .ok (.isub, 1) := by decide +kernel
theorem dX8_breathPrice_26 : decode cX8_breathPrice 26 = .ok (.istore_n 3, 1) := by decide +kernel
theorem dX8_breathPrice_27 : decode cX8_breathPrice 27 = .ok (.aload_n 0, 1) := by decide +kernel
theorem dX8_breathPrice_28 : decode cX8_breathPrice 28 = .ok (.getfield 19, 3) := by decide +kernel
theorem dX8_breathPrice_31 : decode cX8_breathPrice 31 = .ok (.iconst 2, 1) := by decide +kernel
theorem dX8_breathPrice_32 : decode cX8_breathPrice 32 = .ok (.invokevirtual 23, 3) := by decide +kernel
theorem dX8_breathPrice_35 : decode cX8_breathPrice 35 = .ok (.iload_n 3, 1) := by decide +kernel
theorem dX8_breathPrice_36 : decode cX8_breathPrice 36 = .ok (.isub, 1) := by decide +kernel
theorem dX8_breathPrice_37 : decode cX8_breathPrice 37 = .ok (.istore 4, 2) := by decide +kernel
theorem dX8_breathPrice_39 : decode cX8_breathPrice 39 = .ok (.iload 4, 2) := by decide +kernel
theorem dX8_breathPrice_41 : decode cX8_breathPrice 41 = .ok (.aload_n 0, 1) := by decide +kernel
theorem dX8_breathPrice_42 : decode cX8_breathPrice 42 = .ok (.getfield 19, 3) := by decide +kernel
theorem dX8_breathPrice_45 : decode cX8_breathPrice 45 = .ok (.iload_n 1, 1) := by decide +kernel
theorem dX8_breathPrice_46 : decode cX8_breathPrice 46 = .ok (.invokevirtual 28, 3) := by decide +kernel
theorem dX8_breathPrice_49 : decode cX8_breathPrice 49 = .ok (.if_icmp .lt 8, 3) := by decide +kernel
theorem dX8_breathPrice_52 : decode cX8_breathPrice 52 = .ok (.bipush (-2), 2) := by decide +kernel
theorem dX8_breathPrice_54 : decode cX8_breathPrice 54 = .ok (.goto 13, 3) := by decide +kernel
theorem dX8_breathPrice_57 : decode cX8_breathPrice 57 = .ok (.iconst 1, 1) := by decide +kernel
theorem dX8_breathPrice_58 : decode cX8_breathPrice 58 = .ok (.iconst 2, 1) := by decide +kernel
theorem dX8_breathPrice_59 : decode cX8_breathPrice 59 = .ok (.iconst 0, 1) := by decide +kernel
theorem dX8_breathPrice_60 : decode cX8_breathPrice 60 = .ok (.iload 4, 2) := by decide +kernel
theorem dX8_breathPrice_62 : decode cX8_breathPrice 62 = .ok (.invokestatic 41, 3) := by decide +kernel
theorem dX8_breathPrice_65 : decode cX8_breathPrice 65 = .ok (.imul, 1) := by decide +kernel
theorem dX8_breathPrice_66 : decode cX8_breathPrice 66 = .ok (.iadd, 1) := by decide +kernel
theorem dX8_breathPrice_67 : decode cX8_breathPrice 67 = .ok (.ireturn, 1) := by decide +kernel
theorem dX9_init_0 : decode cX9_init 0 = .ok (.aload_n 0, 1) := by decide +kernel
theorem dX9_init_1 : decode cX9_init 1 = .ok (.invokespecial 1, 3) := by decide +kernel
theorem dX9_init_4 : decode cX9_init 4 = .ok (.aload_n 0, 1) := by decide +kernel
theorem dX9_init_5 : decode cX9_init 5 = .ok (.iconst 0, 1) := by decide +kernel
theorem dX9_init_6 : decode cX9_init 6 = .ok (.iconst 4, 1) := by decide +kernel
theorem dX9_init_7 : decode cX9_init 7 = .ok (.iload_n 1, 1) := by decide +kernel
theorem dX9_init_8 : decode cX9_init 8 = .ok (.invokestatic 9, 3) := by decide +kernel
theorem dX9_init_11 : decode cX9_init 11 = .ok (.invokestatic 15, 3) := by decide +kernel
theorem dX9_init_14 : decode cX9_init 14 = .ok (.putfield 18, 3) := by decide +kernel
theorem dX9_init_17 : decode cX9_init 17 = .ok (.aload_n 0, 1) := by decide +kernel
theorem dX9_init_18 : decode cX9_init 18 = .ok (.aload_n 0, 1) := by decide +kernel
theorem dX9_init_19 : decode cX9_init 19 = .ok (.getfield 18, 3) := by decide +kernel
theorem dX9_init_22 : decode cX9_init 22 = .ok (.invokestatic 22, 3) := by decide +kernel
theorem dX9_init_25 : decode cX9_init 25 = .ok (.putfield 26, 3) := by decide +kernel
theorem dX9_init_28 : decode cX9_init 28 = .ok (.aload_n 0, 1) := by decide +kernel
theorem dX9_init_29 : decode cX9_init 29 = .ok (.new 30, 3) := by decide +kernel
theorem dX9_init_32 : decode cX9_init 32 = .ok (.dup, 1) := by decide +kernel
theorem dX9_init_33 : decode cX9_init 33 = .ok (.aload_n 0, 1) := by decide +kernel
theorem dX9_init_34 : decode cX9_init 34 = .ok (.getfield 26, 3) := by decide +kernel
theorem dX9_init_37 : decode cX9_init 37 = .ok (.getfield 32, 3) := by decide +kernel
theorem dX9_init_40 : decode cX9_init 40 = .ok (.invokespecial 37, 3) := by decide +kernel
theorem dX9_init_43 : decode cX9_init 43 = .ok (.putfield 40, 3) := by decide +kernel
theorem dX9_init_46 : decode cX9_init 46 = .ok (.aload_n 0, 1) := by decide +kernel
theorem dX9_init_47 : decode cX9_init 47 = .ok (.aconst_null, 1) := by decide +kernel
theorem dX9_init_48 : decode cX9_init 48 = .ok (.putfield 44, 3) := by decide +kernel
theorem dX9_init_51 : decode cX9_init 51 = .ok (.return_, 1) := by decide +kernel
theorem dX9_playerOf_0 : decode cX9_playerOf 0 = .ok (.iload_n 0, 1) := by decide +kernel
theorem dX9_playerOf_1 : decode cX9_playerOf 1 = .ok (.tableswitch 63 0 3 #[31, 39, 47, 55], 31) := by decide +kernel
theorem dX9_playerOf_32 : decode cX9_playerOf 32 = .ok (.new 48, 3) := by decide +kernel
theorem dX9_playerOf_35 : decode cX9_playerOf 35 = .ok (.dup, 1) := by decide +kernel
theorem dX9_playerOf_36 : decode cX9_playerOf 36 = .ok (.invokespecial 50, 3) := by decide +kernel
theorem dX9_playerOf_39 : decode cX9_playerOf 39 = .ok (.areturn, 1) := by decide +kernel
theorem dX9_playerOf_40 : decode cX9_playerOf 40 = .ok (.new 51, 3) := by decide +kernel
theorem dX9_playerOf_43 : decode cX9_playerOf 43 = .ok (.dup, 1) := by decide +kernel
theorem dX9_playerOf_44 : decode cX9_playerOf 44 = .ok (.invokespecial 53, 3) := by decide +kernel
theorem dX9_playerOf_47 : decode cX9_playerOf 47 = .ok (.areturn, 1) := by decide +kernel
theorem dX9_playerOf_48 : decode cX9_playerOf 48 = .ok (.new 54, 3) := by decide +kernel
theorem dX9_playerOf_51 : decode cX9_playerOf 51 = .ok (.dup, 1) := by decide +kernel
theorem dX9_playerOf_52 : decode cX9_playerOf 52 = .ok (.invokespecial 56, 3) := by decide +kernel
theorem dX9_playerOf_55 : decode cX9_playerOf 55 = .ok (.areturn, 1) := by decide +kernel
theorem dX9_playerOf_56 : decode cX9_playerOf 56 = .ok (.new 57, 3) := by decide +kernel
theorem dX9_playerOf_59 : decode cX9_playerOf 59 = .ok (.dup, 1) := by decide +kernel
theorem dX9_playerOf_60 : decode cX9_playerOf 60 = .ok (.invokespecial 59, 3) := by decide +kernel
theorem dX9_playerOf_63 : decode cX9_playerOf 63 = .ok (.areturn, 1) := by decide +kernel
theorem dX9_playerOf_64 : decode cX9_playerOf 64 = .ok (.new 60, 3) := by decide +kernel
theorem dX9_playerOf_67 : decode cX9_playerOf 67 = .ok (.dup, 1) := by decide +kernel
theorem dX9_playerOf_68 : decode cX9_playerOf 68 = .ok (.invokespecial 62, 3) := by decide +kernel
theorem dX9_playerOf_71 : decode cX9_playerOf 71 = .ok (.areturn, 1) := by decide +kernel
theorem dX9_event_0 : decode cX9_event 0 = .ok (.iload 4, 2) := by decide +kernel
theorem dX9_event_2 : decode cX9_event 2 = .ok (.iload 5, 2) := by decide +kernel
theorem dX9_event_4 : decode cX9_event 4 = .ok (.iload 6, 2) := by decide +kernel
theorem dX9_event_6 : decode cX9_event 6 = .ok (.invokestatic 63, 3) := by decide +kernel
theorem dX9_event_9 : decode cX9_event 9 = .ok (.istore 7, 2) := by decide +kernel
theorem dX9_event_11 : decode cX9_event 11 = .ok (.aload_n 0, 1) := by decide +kernel
theorem dX9_event_12 : decode cX9_event 12 = .ok (.iload_n 1, 1) := by decide +kernel
theorem dX9_event_13 : decode cX9_event 13 = .ok (.invokevirtual 69, 3) := by decide +kernel
theorem dX9_event_16 : decode cX9_event 16 = .ok (.ifCond .eq 44, 3) := by decide +kernel
theorem dX9_event_19 : decode cX9_event 19 = .ok (.iload_n 2, 1) := by decide +kernel
theorem dX9_event_20 : decode cX9_event 20 = .ok (.ifCond .lt 40, 3) := by decide +kernel
theorem dX9_event_23 : decode cX9_event 23 = .ok (.iload_n 2, 1) := by decide +kernel
theorem dX9_event_24 : decode cX9_event 24 = .ok (.ldc 73, 2) := by decide +kernel
theorem dX9_event_26 : decode cX9_event 26 = .ok (.if_icmp .gt 34, 3) := by decide +kernel
theorem dX9_event_29 : decode cX9_event 29 = .ok (.iload_n 3, 1) := by decide +kernel
theorem dX9_event_30 : decode cX9_event 30 = .ok (.iconst 1, 1) := by decide +kernel
theorem dX9_event_31 : decode cX9_event 31 = .ok (.if_icmp .lt 29, 3) := by decide +kernel
theorem dX9_event_34 : decode cX9_event 34 = .ok (.iload_n 3, 1) := by decide +kernel
theorem dX9_event_35 : decode cX9_event 35 = .ok (.sipush 1000, 3) := by decide +kernel
theorem dX9_event_38 : decode cX9_event 38 = .ok (.if_icmp .gt 22, 3) := by decide +kernel
theorem dX9_event_41 : decode cX9_event 41 = .ok (.iload 7, 2) := by decide +kernel
theorem dX9_event_43 : decode cX9_event 43 = .ok (.iconst 1, 1) := by decide +kernel
theorem dX9_event_44 : decode cX9_event 44 = .ok (.if_icmp .lt 16, 3) := by decide +kernel
theorem dX9_event_47 : decode cX9_event 47 = .ok (.iload 7, 2) := by decide +kernel
theorem dX9_event_49 : decode cX9_event 49 = .ok (.getstatic 74, 3) := by decide +kernel
theorem dX9_event_52 : decode cX9_event 52 = .ok (.aload_n 0, 1) := by decide +kernel
theorem dX9_event_53 : decode cX9_event 53 = .ok (.getfield 18, 3) := by decide +kernel
theorem dX9_event_56 : decode cX9_event 56 = .ok (.iaload, 1) := by decide +kernel
theorem dX9_event_57 : decode cX9_event 57 = .ok (.if_icmp .le 5, 3) := by decide +kernel
theorem dX9_event_60 : decode cX9_event 60 = .ok (.iconst (-1), 1) := by decide +kernel
theorem dX9_event_61 : decode cX9_event 61 = .ok (.ireturn, 1) := by decide +kernel
theorem dX9_event_62 : decode cX9_event 62 = .ok (.aload_n 0, 1) := by decide +kernel
theorem dX9_event_63 : decode cX9_event 63 = .ok (.iload_n 1, 1) := by decide +kernel
theorem dX9_event_64 : decode cX9_event 64 = .ok (.iload_n 2, 1) := by decide +kernel
theorem dX9_event_65 : decode cX9_event 65 = .ok (.invokevirtual 78, 3) := by decide +kernel
theorem dX9_event_68 : decode cX9_event 68 = .ok (.ifCond .ne 6, 3) := by decide +kernel
theorem dX9_event_71 : decode cX9_event 71 = .ok (.bipush (-3), 2) := by decide +kernel
theorem dX9_event_73 : decode cX9_event 73 = .ok (.ireturn, 1) := by decide +kernel
theorem dX9_event_74 : decode cX9_event 74 = .ok (.aload_n 0, 1) := by decide +kernel
theorem dX9_event_75 : decode cX9_event 75 = .ok (.getfield 26, 3) := by decide +kernel
theorem dX9_event_78 : decode cX9_event 78 = .ok (.getfield 82, 3) := by decide +kernel
theorem dX9_event_81 : decode cX9_event 81 = .ok (.getfield 86, 3) := by decide +kernel
theorem dX9_event_84 : decode cX9_event 84 = .ok (.bipush 40, 2) := by decide +kernel
theorem dX9_event_86 : decode cX9_event 86 = .ok (.if_icmp .lt 6, 3) := by decide +kernel
theorem dX9_event_89 : decode cX9_event 89 = .ok (.bipush (-4), 2) := by decide +kernel
theorem dX9_event_91 : decode cX9_event 91 = .ok (.ireturn, 1) := by decide +kernel
theorem dX9_event_92 : decode cX9_event 92 = .ok (.aload_n 0, 1) := by decide +kernel
theorem dX9_event_93 : decode cX9_event 93 = .ok (.getfield 26, 3) := by decide +kernel
theorem dX9_event_96 : decode cX9_event 96 = .ok (.getfield 82, 3) := by decide +kernel
theorem dX9_event_99 : decode cX9_event 99 = .ok (.iload_n 1, 1) := by decide +kernel
theorem dX9_event_100 : decode cX9_event 100 = .ok (.iload_n 2, 1) := by decide +kernel
theorem dX9_event_101 : decode cX9_event 101 = .ok (.iload_n 3, 1) := by decide +kernel
theorem dX9_event_102 : decode cX9_event 102 = .ok (.iload 4, 2) := by decide +kernel
theorem dX9_event_104 : decode cX9_event 104 = .ok (.iload 5, 2) := by decide +kernel
theorem dX9_event_106 : decode cX9_event 106 = .ok (.iload 6, 2) := by decide +kernel
theorem dX9_event_108 : decode cX9_event 108 = .ok (.invokevirtual 89, 3) := by decide +kernel
theorem dX9_event_111 : decode cX9_event 111 = .ok (.aload_n 0, 1) := by decide +kernel
theorem dX9_event_112 : decode cX9_event 112 = .ok (.invokevirtual 93, 3) := by decide +kernel
theorem dX9_event_115 : decode cX9_event 115 = .ok (.aload_n 0, 1) := by decide +kernel
theorem dX9_event_116 : decode cX9_event 116 = .ok (.getfield 26, 3) := by decide +kernel
theorem dX9_event_119 : decode cX9_event 119 = .ok (.getfield 82, 3) := by decide +kernel
theorem dX9_event_122 : decode cX9_event 122 = .ok (.getfield 86, 3) := by decide +kernel
theorem dX9_event_125 : decode cX9_event 125 = .ok (.iconst 1, 1) := by decide +kernel
theorem dX9_event_126 : decode cX9_event 126 = .ok (.isub, 1) := by decide +kernel
theorem dX9_event_127 : decode cX9_event 127 = .ok (.ireturn, 1) := by decide +kernel
theorem dX9_drop_0 : decode cX9_drop 0 = .ok (.aload_n 0, 1) := by decide +kernel
theorem dX9_drop_1 : decode cX9_drop 1 = .ok (.getfield 26, 3) := by decide +kernel
theorem dX9_drop_4 : decode cX9_drop 4 = .ok (.getfield 82, 3) := by decide +kernel
theorem dX9_drop_7 : decode cX9_drop 7 = .ok (.getfield 86, 3) := by decide +kernel
theorem dX9_drop_10 : decode cX9_drop 10 = .ok (.ifCond .ne 6, 3) := by decide +kernel
theorem dX9_drop_13 : decode cX9_drop 13 = .ok (.bipush (-2), 2) := by decide +kernel
theorem dX9_drop_15 : decode cX9_drop 15 = .ok (.ireturn, 1) := by decide +kernel
theorem dX9_drop_16 : decode cX9_drop 16 = .ok (.aload_n 0, 1) := by decide +kernel
theorem dX9_drop_17 : decode cX9_drop 17 = .ok (.getfield 26, 3) := by decide +kernel
theorem dX9_drop_20 : decode cX9_drop 20 = .ok (.getfield 82, 3) := by decide +kernel
theorem dX9_drop_23 : decode cX9_drop 23 = .ok (.dup, 1) := by decide +kernel
theorem dX9_drop_24 : decode cX9_drop 24 = .ok (.getfield 86, 3) := by decide +kernel
theorem dX9_drop_27 : decode cX9_drop 27 = .ok (.iconst 1, 1) := by decide +kernel
theorem dX9_drop_28 : decode cX9_drop 28 = .ok (.isub, 1) := by decide +kernel
theorem dX9_drop_29 : decode cX9_drop 29 = .ok (.putfield 86, 3) := by decide +kernel
theorem dX9_drop_32 : decode cX9_drop 32 = .ok (.aload_n 0, 1) := by decide +kernel
theorem dX9_drop_33 : decode cX9_drop 33 = .ok (.getfield 26, 3) := by decide +kernel
theorem dX9_drop_36 : decode cX9_drop 36 = .ok (.aload_n 0, 1) := by decide +kernel
theorem dX9_drop_37 : decode cX9_drop 37 = .ok (.getfield 26, 3) := by decide +kernel
theorem dX9_drop_40 : decode cX9_drop 40 = .ok (.getfield 96, 3) := by decide +kernel
theorem dX9_drop_43 : decode cX9_drop 43 = .ok (.aload_n 0, 1) := by decide +kernel
theorem dX9_drop_44 : decode cX9_drop 44 = .ok (.getfield 26, 3) := by decide +kernel
theorem dX9_drop_47 : decode cX9_drop 47 = .ok (.getfield 82, 3) := by decide +kernel
theorem dX9_drop_50 : decode cX9_drop 50 = .ok (.getfield 86, 3) := by decide +kernel
theorem dX9_drop_53 : decode cX9_drop 53 = .ok (.invokestatic 9, 3) := by decide +kernel
theorem dX9_drop_56 : decode cX9_drop 56 = .ok (.putfield 96, 3) := by decide +kernel
theorem dX9_drop_59 : decode cX9_drop 59 = .ok (.aload_n 0, 1) := by decide +kernel
theorem dX9_drop_60 : decode cX9_drop 60 = .ok (.invokevirtual 93, 3) := by decide +kernel
theorem dX9_drop_63 : decode cX9_drop 63 = .ok (.aload_n 0, 1) := by decide +kernel
theorem dX9_drop_64 : decode cX9_drop 64 = .ok (.getfield 26, 3) := by decide +kernel
theorem dX9_drop_67 : decode cX9_drop 67 = .ok (.getfield 82, 3) := by decide +kernel
theorem dX9_drop_70 : decode cX9_drop 70 = .ok (.getfield 86, 3) := by decide +kernel
theorem dX9_drop_73 : decode cX9_drop 73 = .ok (.ireturn, 1) := by decide +kernel
theorem dX9_bound_0 : decode cX9_bound 0 = .ok (.iload_n 1, 1) := by decide +kernel
theorem dX9_bound_1 : decode cX9_bound 1 = .ok (.ifCond .lt 29, 3) := by decide +kernel
theorem dX9_bound_4 : decode cX9_bound 4 = .ok (.iload_n 1, 1) := by decide +kernel
theorem dX9_bound_5 : decode cX9_bound 5 = .ok (.getstatic 99, 3) := by decide +kernel
theorem dX9_bound_8 : decode cX9_bound 8 = .ok (.arraylength, 1) := by decide +kernel
theorem dX9_bound_9 : decode cX9_bound 9 = .ok (.if_icmp .ge 21, 3) := by decide +kernel
theorem dX9_bound_12 : decode cX9_bound 12 = .ok (.iload_n 2, 1) := by decide +kernel
theorem dX9_bound_13 : decode cX9_bound 13 = .ok (.getstatic 99, 3) := by decide +kernel
theorem dX9_bound_16 : decode cX9_bound 16 = .ok (.iload_n 1, 1) := by decide +kernel
theorem dX9_bound_17 : decode cX9_bound 17 = .ok (.iaload, 1) := by decide +kernel
theorem dX9_bound_18 : decode cX9_bound 18 = .ok (.if_icmp .lt 12, 3) := by decide +kernel
theorem dX9_bound_21 : decode cX9_bound 21 = .ok (.iload_n 2, 1) := by decide +kernel
theorem dX9_bound_22 : decode cX9_bound 22 = .ok (.getstatic 102, 3) := by decide +kernel
theorem dX9_bound_25 : decode cX9_bound 25 = .ok (.iload_n 1, 1) := by decide +kernel
theorem dX9_bound_26 : decode cX9_bound 26 = .ok (.iaload, 1) := by decide +kernel
theorem dX9_bound_27 : decode cX9_bound 27 = .ok (.if_icmp .le 5, 3) := by decide +kernel
theorem dX9_bound_30 : decode cX9_bound 30 = .ok (.iconst (-1), 1) := by decide +kernel
theorem dX9_bound_31 : decode cX9_bound 31 = .ok (.ireturn, 1) := by decide +kernel
theorem dX9_bound_32 : decode cX9_bound 32 = .ok (.aload_n 0, 1) := by decide +kernel
theorem dX9_bound_33 : decode cX9_bound 33 = .ok (.getfield 26, 3) := by decide +kernel
theorem dX9_bound_36 : decode cX9_bound 36 = .ok (.getfield 82, 3) := by decide +kernel
theorem dX9_bound_39 : decode cX9_bound 39 = .ok (.iload_n 1, 1) := by decide +kernel
theorem dX9_bound_40 : decode cX9_bound 40 = .ok (.invokevirtual 105, 3) := by decide +kernel
theorem dX9_bound_43 : decode cX9_bound 43 = .ok (.istore_n 3, 1) := by decide +kernel
theorem dX9_bound_44 : decode cX9_bound 44 = .ok (.aload_n 0, 1) := by decide +kernel
theorem dX9_bound_45 : decode cX9_bound 45 = .ok (.getfield 26, 3) := by decide +kernel
theorem dX9_bound_48 : decode cX9_bound 48 = .ok (.getfield 82, 3) := by decide +kernel
theorem dX9_bound_51 : decode cX9_bound 51 = .ok (.iload_n 1, 1) := by decide +kernel
theorem dX9_bound_52 : decode cX9_bound 52 = .ok (.iload_n 2, 1) := by decide +kernel
theorem dX9_bound_53 : decode cX9_bound 53 = .ok (.invokevirtual 109, 3) := by decide +kernel
theorem dX9_bound_56 : decode cX9_bound 56 = .ok (.aload_n 0, 1) := by decide +kernel
theorem dX9_bound_57 : decode cX9_bound 57 = .ok (.getfield 26, 3) := by decide +kernel
theorem dX9_bound_60 : decode cX9_bound 60 = .ok (.iconst 0, 1) := by decide +kernel
theorem dX9_bound_61 : decode cX9_bound 61 = .ok (.putfield 96, 3) := by decide +kernel
theorem dX9_bound_64 : decode cX9_bound 64 = .ok (.aload_n 0, 1) := by decide +kernel
theorem dX9_bound_65 : decode cX9_bound 65 = .ok (.invokevirtual 93, 3) := by decide +kernel
theorem dX9_bound_68 : decode cX9_bound 68 = .ok (.iload_n 3, 1) := by decide +kernel
theorem dX9_bound_69 : decode cX9_bound 69 = .ok (.ireturn, 1) := by decide +kernel
theorem dX9_pin_0 : decode cX9_pin 0 = .ok (.aload_n 0, 1) := by decide +kernel
theorem dX9_pin_1 : decode cX9_pin 1 = .ok (.getfield 26, 3) := by decide +kernel
theorem dX9_pin_4 : decode cX9_pin 4 = .ok (.getfield 82, 3) := by decide +kernel
theorem dX9_pin_7 : decode cX9_pin 7 = .ok (.iload_n 1, 1) := by decide +kernel
theorem dX9_pin_8 : decode cX9_pin 8 = .ok (.invokevirtual 113, 3) := by decide +kernel
theorem dX9_pin_11 : decode cX9_pin 11 = .ok (.ifCond .eq 14, 3) := by decide +kernel
theorem dX9_pin_14 : decode cX9_pin 14 = .ok (.iload_n 2, 1) := by decide +kernel
theorem dX9_pin_15 : decode cX9_pin 15 = .ok (.iconst (-1), 1) := by decide +kernel
theorem dX9_pin_16 : decode cX9_pin 16 = .ok (.if_icmp .lt 9, 3) := by decide +kernel
theorem dX9_pin_19 : decode cX9_pin 19 = .ok (.iload_n 2, 1) := by decide +kernel
theorem dX9_pin_20 : decode cX9_pin 20 = .ok (.bipush 99, 2) := by decide +kernel
theorem dX9_pin_22 : decode cX9_pin 22 = .ok (.if_icmp .le 5, 3) := by decide +kernel
theorem dX9_pin_25 : decode cX9_pin 25 = .ok (.iconst (-1), 1) := by decide +kernel
theorem dX9_pin_26 : decode cX9_pin 26 = .ok (.ireturn, 1) := by decide +kernel
theorem dX9_pin_27 : decode cX9_pin 27 = .ok (.aload_n 0, 1) := by decide +kernel
theorem dX9_pin_28 : decode cX9_pin 28 = .ok (.getfield 26, 3) := by decide +kernel
theorem dX9_pin_31 : decode cX9_pin 31 = .ok (.getfield 82, 3) := by decide +kernel
theorem dX9_pin_34 : decode cX9_pin 34 = .ok (.iload_n 1, 1) := by decide +kernel
theorem dX9_pin_35 : decode cX9_pin 35 = .ok (.invokevirtual 116, 3) := by decide +kernel
theorem dX9_pin_38 : decode cX9_pin 38 = .ok (.istore_n 3, 1) := by decide +kernel
theorem dX9_pin_39 : decode cX9_pin 39 = .ok (.aload_n 0, 1) := by decide +kernel
theorem dX9_pin_40 : decode cX9_pin 40 = .ok (.getfield 26, 3) := by decide +kernel
theorem dX9_pin_43 : decode cX9_pin 43 = .ok (.getfield 82, 3) := by decide +kernel
theorem dX9_pin_46 : decode cX9_pin 46 = .ok (.iload_n 1, 1) := by decide +kernel
theorem dX9_pin_47 : decode cX9_pin 47 = .ok (.iload_n 2, 1) := by decide +kernel
theorem dX9_pin_48 : decode cX9_pin 48 = .ok (.iconst (-1), 1) := by decide +kernel
theorem dX9_pin_49 : decode cX9_pin 49 = .ok (.if_icmp .ne 8, 3) := by decide +kernel
theorem dX9_pin_52 : decode cX9_pin 52 = .ok (.bipush (-2), 2) := by decide +kernel
theorem dX9_pin_54 : decode cX9_pin 54 = .ok (.goto 4, 3) := by decide +kernel
theorem dX9_pin_57 : decode cX9_pin 57 = .ok (.iload_n 2, 1) := by decide +kernel
theorem dX9_pin_58 : decode cX9_pin 58 = .ok (.invokevirtual 119, 3) := by decide +kernel
theorem dX9_pin_61 : decode cX9_pin 61 = .ok (.aload_n 0, 1) := by decide +kernel
theorem dX9_pin_62 : decode cX9_pin 62 = .ok (.invokevirtual 93, 3) := by decide +kernel
theorem dX9_pin_65 : decode cX9_pin 65 = .ok (.iload_n 3, 1) := by decide +kernel
theorem dX9_pin_66 : decode cX9_pin 66 = .ok (.ireturn, 1) := by decide +kernel
theorem dX9_states_0 : decode cX9_states 0 = .ok (.aload_n 0, 1) := by decide +kernel
theorem dX9_states_1 : decode cX9_states 1 = .ok (.getfield 26, 3) := by decide +kernel
theorem dX9_states_4 : decode cX9_states 4 = .ok (.getfield 82, 3) := by decide +kernel
theorem dX9_states_7 : decode cX9_states 7 = .ok (.iload_n 1, 1) := by decide +kernel
theorem dX9_states_8 : decode cX9_states 8 = .ok (.invokevirtual 113, 3) := by decide +kernel
theorem dX9_states_11 : decode cX9_states 11 = .ok (.ifCond .ne 5, 3) := by decide +kernel
theorem dX9_states_14 : decode cX9_states 14 = .ok (.iconst (-1), 1) := by decide +kernel
theorem dX9_states_15 : decode cX9_states 15 = .ok (.ireturn, 1) := by decide +kernel
theorem dX9_states_16 : decode cX9_states 16 = .ok (.aload_n 0, 1) := by decide +kernel
theorem dX9_states_17 : decode cX9_states 17 = .ok (.getfield 26, 3) := by decide +kernel
theorem dX9_states_20 : decode cX9_states 20 = .ok (.invokevirtual 122, 3) := by decide +kernel
theorem dX9_states_23 : decode cX9_states 23 = .ok (.aload_n 0, 1) := by decide +kernel
theorem dX9_states_24 : decode cX9_states 24 = .ok (.getfield 26, 3) := by decide +kernel
theorem dX9_states_27 : decode cX9_states 27 = .ok (.iload_n 1, 1) := by decide +kernel
theorem dX9_states_28 : decode cX9_states 28 = .ok (.invokevirtual 125, 3) := by decide +kernel
theorem dX9_states_31 : decode cX9_states 31 = .ok (.ireturn, 1) := by decide +kernel
theorem dX9_state_0 : decode cX9_state 0 = .ok (.aload_n 0, 1) := by decide +kernel
theorem dX9_state_1 : decode cX9_state 1 = .ok (.iload_n 1, 1) := by decide +kernel
theorem dX9_state_2 : decode cX9_state 2 = .ok (.iload_n 2, 1) := by decide +kernel
theorem dX9_state_3 : decode cX9_state 3 = .ok (.invokevirtual 128, 3) := by decide +kernel
theorem dX9_state_6 : decode cX9_state 6 = .ok (.ifCond .ne 5, 3) := by decide +kernel
theorem dX9_state_9 : decode cX9_state 9 = .ok (.iconst (-1), 1) := by decide +kernel
theorem dX9_state_10 : decode cX9_state 10 = .ok (.ireturn, 1) := by decide +kernel
theorem dX9_state_11 : decode cX9_state 11 = .ok (.iload_n 3, 1) := by decide +kernel
theorem dX9_state_12 : decode cX9_state 12 = .ok (.tableswitch 58 0 2 #[28, 38, 48], 28) := by decide +kernel
theorem dX9_state_40 : decode cX9_state 40 = .ok (.aload_n 0, 1) := by decide +kernel
theorem dX9_state_41 : decode cX9_state 41 = .ok (.getfield 26, 3) := by decide +kernel
theorem dX9_state_44 : decode cX9_state 44 = .ok (.iload_n 1, 1) := by decide +kernel
theorem dX9_state_45 : decode cX9_state 45 = .ok (.iload_n 2, 1) := by decide +kernel
theorem dX9_state_46 : decode cX9_state 46 = .ok (.invokevirtual 131, 3) := by decide +kernel
theorem dX9_state_49 : decode cX9_state 49 = .ok (.ireturn, 1) := by decide +kernel
theorem dX9_state_50 : decode cX9_state 50 = .ok (.aload_n 0, 1) := by decide +kernel
theorem dX9_state_51 : decode cX9_state 51 = .ok (.getfield 26, 3) := by decide +kernel
theorem dX9_state_54 : decode cX9_state 54 = .ok (.iload_n 1, 1) := by decide +kernel
theorem dX9_state_55 : decode cX9_state 55 = .ok (.iload_n 2, 1) := by decide +kernel
theorem dX9_state_56 : decode cX9_state 56 = .ok (.invokevirtual 134, 3) := by decide +kernel
theorem dX9_state_59 : decode cX9_state 59 = .ok (.ireturn, 1) := by decide +kernel
theorem dX9_state_60 : decode cX9_state 60 = .ok (.aload_n 0, 1) := by decide +kernel
theorem dX9_state_61 : decode cX9_state 61 = .ok (.getfield 26, 3) := by decide +kernel
theorem dX9_state_64 : decode cX9_state 64 = .ok (.iload_n 1, 1) := by decide +kernel
theorem dX9_state_65 : decode cX9_state 65 = .ok (.iload_n 2, 1) := by decide +kernel
theorem dX9_state_66 : decode cX9_state 66 = .ok (.invokevirtual 137, 3) := by decide +kernel
theorem dX9_state_69 : decode cX9_state 69 = .ok (.ireturn, 1) := by decide +kernel
theorem dX9_state_70 : decode cX9_state 70 = .ok (.iconst (-1), 1) := by decide +kernel
theorem dX9_state_71 : decode cX9_state 71 = .ok (.ireturn, 1) := by decide +kernel
theorem dX9_step_0 : decode cX9_step 0 = .ok (.aload_n 0, 1) := by decide +kernel
theorem dX9_step_1 : decode cX9_step 1 = .ok (.iload_n 1, 1) := by decide +kernel
theorem dX9_step_2 : decode cX9_step 2 = .ok (.iload_n 2, 1) := by decide +kernel
theorem dX9_step_3 : decode cX9_step 3 = .ok (.invokevirtual 128, 3) := by decide +kernel
theorem dX9_step_6 : decode cX9_step 6 = .ok (.ifCond .ne 5, 3) := by decide +kernel
theorem dX9_step_9 : decode cX9_step 9 = .ok (.iconst (-1), 1) := by decide +kernel
theorem dX9_step_10 : decode cX9_step 10 = .ok (.ireturn, 1) := by decide +kernel
theorem dX9_step_11 : decode cX9_step 11 = .ok (.aload_n 0, 1) := by decide +kernel
theorem dX9_step_12 : decode cX9_step 12 = .ok (.getfield 26, 3) := by decide +kernel
theorem dX9_step_15 : decode cX9_step 15 = .ok (.getfield 82, 3) := by decide +kernel
theorem dX9_step_18 : decode cX9_step 18 = .ok (.iload_n 1, 1) := by decide +kernel
theorem dX9_step_19 : decode cX9_step 19 = .ok (.invokevirtual 140, 3) := by decide +kernel
theorem dX9_step_22 : decode cX9_step 22 = .ok (.istore 4, 2) := by decide +kernel
theorem dX9_step_24 : decode cX9_step 24 = .ok (.aload_n 0, 1) := by decide +kernel
theorem dX9_step_25 : decode cX9_step 25 = .ok (.iload 4, 2) := by decide +kernel
theorem dX9_step_27 : decode cX9_step 27 = .ok (.iload_n 3, 1) := by decide +kernel
theorem dX9_step_28 : decode cX9_step 28 = .ok (.invokevirtual 128, 3) := by decide +kernel
theorem dX9_step_31 : decode cX9_step 31 = .ok (.ifCond .eq 18, 3) := by decide +kernel
theorem dX9_step_34 : decode cX9_step 34 = .ok (.aload_n 0, 1) := by decide +kernel
theorem dX9_step_35 : decode cX9_step 35 = .ok (.getfield 26, 3) := by decide +kernel
theorem dX9_step_38 : decode cX9_step 38 = .ok (.iload_n 1, 1) := by decide +kernel
theorem dX9_step_39 : decode cX9_step 39 = .ok (.iload_n 2, 1) := by decide +kernel
theorem dX9_step_40 : decode cX9_step 40 = .ok (.iload 4, 2) := by decide +kernel
theorem dX9_step_42 : decode cX9_step 42 = .ok (.iload_n 3, 1) := by decide +kernel
theorem dX9_step_43 : decode cX9_step 43 = .ok (.invokevirtual 143, 3) := by decide +kernel
theorem dX9_step_46 : decode cX9_step 46 = .ok (.goto 4, 3) := by decide +kernel
theorem dX9_step_49 : decode cX9_step 49 = .ok (.iconst (-1), 1) := by decide +kernel
theorem dX9_step_50 : decode cX9_step 50 = .ok (.ireturn, 1) := by decide +kernel
theorem dX9_price_0 : decode cX9_price 0 = .ok (.aload_n 0, 1) := by decide +kernel
theorem dX9_price_1 : decode cX9_price 1 = .ok (.getfield 40, 3) := by decide +kernel
theorem dX9_price_4 : decode cX9_price 4 = .ok (.aload_n 0, 1) := by decide +kernel
theorem dX9_price_5 : decode cX9_price 5 = .ok (.getfield 26, 3) := by decide +kernel
theorem dX9_price_8 : decode cX9_price 8 = .ok (.invokevirtual 147, 3) := by decide +kernel
theorem dX9_price_11 : decode cX9_price 11 = .ok (.aload_n 0, 1) := by decide +kernel
theorem dX9_price_12 : decode cX9_price 12 = .ok (.getfield 40, 3) := by decide +kernel
theorem dX9_price_15 : decode cX9_price 15 = .ok (.getfield 151, 3) := by decide +kernel
theorem dX9_price_18 : decode cX9_price 18 = .ok (.ireturn, 1) := by decide +kernel
theorem dX9_way_0 : decode cX9_way 0 = .ok (.aload_n 0, 1) := by decide +kernel
theorem dX9_way_1 : decode cX9_way 1 = .ok (.getfield 26, 3) := by decide +kernel
theorem dX9_way_4 : decode cX9_way 4 = .ok (.getfield 82, 3) := by decide +kernel
theorem dX9_way_7 : decode cX9_way 7 = .ok (.iload_n 1, 1) := by decide +kernel
theorem dX9_way_8 : decode cX9_way 8 = .ok (.invokevirtual 113, 3) := by decide +kernel
theorem dX9_way_11 : decode cX9_way 11 = .ok (.ifCond .ne 5, 3) := by decide +kernel
theorem dX9_way_14 : decode cX9_way 14 = .ok (.iconst (-1), 1) := by decide +kernel
theorem dX9_way_15 : decode cX9_way 15 = .ok (.ireturn, 1) := by decide +kernel
theorem dX9_way_16 : decode cX9_way 16 = .ok (.aload_n 0, 1) := by decide +kernel
theorem dX9_way_17 : decode cX9_way 17 = .ok (.getfield 40, 3) := by decide +kernel
theorem dX9_way_20 : decode cX9_way 20 = .ok (.aload_n 0, 1) := by decide +kernel
theorem dX9_way_21 : decode cX9_way 21 = .ok (.getfield 26, 3) := by decide +kernel
theorem dX9_way_24 : decode cX9_way 24 = .ok (.invokevirtual 147, 3) := by decide +kernel
theorem dX9_way_27 : decode cX9_way 27 = .ok (.aload_n 0, 1) := by decide +kernel
theorem dX9_way_28 : decode cX9_way 28 = .ok (.getfield 40, 3) := by decide +kernel
theorem dX9_way_31 : decode cX9_way 31 = .ok (.getfield 151, 3) := by decide +kernel
theorem dX9_way_34 : decode cX9_way 34 = .ok (.ifCond .ge 8, 3) := by decide +kernel
theorem dX9_way_37 : decode cX9_way 37 = .ok (.bipush (-2), 2) := by decide +kernel
theorem dX9_way_39 : decode cX9_way 39 = .ok (.goto 11, 3) := by decide +kernel
theorem dX9_way_42 : decode cX9_way 42 = .ok (.aload_n 0, 1) := by decide +kernel
theorem dX9_way_43 : decode cX9_way 43 = .ok (.getfield 40, 3) := by decide +kernel
theorem dX9_way_46 : decode cX9_way 46 = .ok (.iload_n 1, 1) := by decide +kernel
theorem dX9_way_47 : decode cX9_way 47 = .ok (.invokevirtual 154, 3) := by decide +kernel
theorem dX9_way_50 : decode cX9_way 50 = .ok (.ireturn, 1) := by decide +kernel
theorem dX9_stuck_0 : decode cX9_stuck 0 = .ok (.aload_n 0, 1) := by decide +kernel
theorem dX9_stuck_1 : decode cX9_stuck 1 = .ok (.getfield 40, 3) := by decide +kernel
theorem dX9_stuck_4 : decode cX9_stuck 4 = .ok (.aload_n 0, 1) := by decide +kernel
theorem dX9_stuck_5 : decode cX9_stuck 5 = .ok (.getfield 26, 3) := by decide +kernel
theorem dX9_stuck_8 : decode cX9_stuck 8 = .ok (.invokevirtual 147, 3) := by decide +kernel
theorem dX9_stuck_11 : decode cX9_stuck 11 = .ok (.aload_n 0, 1) := by decide +kernel
theorem dX9_stuck_12 : decode cX9_stuck 12 = .ok (.getfield 40, 3) := by decide +kernel
theorem dX9_stuck_15 : decode cX9_stuck 15 = .ok (.getfield 157, 3) := by decide +kernel
theorem dX9_stuck_18 : decode cX9_stuck 18 = .ok (.ireturn, 1) := by decide +kernel
theorem dX9_ways_0 : decode cX9_ways 0 = .ok (.iload_n 1, 1) := by decide +kernel
theorem dX9_ways_1 : decode cX9_ways 1 = .ok (.ifCond .lt 10, 3) := by decide +kernel
theorem dX9_ways_4 : decode cX9_ways 4 = .ok (.iload_n 1, 1) := by decide +kernel
theorem dX9_ways_5 : decode cX9_ways 5 = .ok (.sipush 300, 3) := by decide +kernel
theorem dX9_ways_8 : decode cX9_ways 8 = .ok (.if_icmp .le 5, 3) := by decide +kernel
theorem dX9_ways_11 : decode cX9_ways 11 = .ok (.iconst (-1), 1) := by decide +kernel
theorem dX9_ways_12 : decode cX9_ways 12 = .ok (.ireturn, 1) := by decide +kernel
theorem dX9_ways_13 : decode cX9_ways 13 = .ok (.aload_n 0, 1) := by decide +kernel
theorem dX9_ways_14 : decode cX9_ways 14 = .ok (.getfield 44, 3) := by decide +kernel
theorem dX9_ways_17 : decode cX9_ways 17 = .ok (.ifnonnull 21, 3) := by decide +kernel
theorem dX9_ways_20 : decode cX9_ways 20 = .ok (.aload_n 0, 1) := by decide +kernel
theorem dX9_ways_21 : decode cX9_ways 21 = .ok (.new 160, 3) := by decide +kernel
theorem dX9_ways_24 : decode cX9_ways 24 = .ok (.dup, 1) := by decide +kernel
theorem dX9_ways_25 : decode cX9_ways 25 = .ok (.aload_n 0, 1) := by decide +kernel
theorem dX9_ways_26 : decode cX9_ways 26 = .ok (.getfield 26, 3) := by decide +kernel
theorem dX9_ways_29 : decode cX9_ways 29 = .ok (.getfield 32, 3) := by decide +kernel
theorem dX9_ways_32 : decode cX9_ways 32 = .ok (.invokespecial 162, 3) := by decide +kernel
theorem dX9_ways_35 : decode cX9_ways 35 = .ok (.putfield 44, 3) := by decide +kernel
theorem dX9_ways_38 : decode cX9_ways 38 = .ok (.aload_n 0, 1) := by decide +kernel
theorem dX9_ways_39 : decode cX9_ways 39 = .ok (.getfield 44, 3) := by decide +kernel
theorem dX9_ways_42 : decode cX9_ways 42 = .ok (.getfield 163, 3) := by decide +kernel
theorem dX9_ways_45 : decode cX9_ways 45 = .ok (.iload_n 1, 1) := by decide +kernel
theorem dX9_ways_46 : decode cX9_ways 46 = .ok (.if_icmp .ge 22, 3) := by decide +kernel
theorem dX9_ways_49 : decode cX9_ways 49 = .ok (.aload_n 0, 1) := by decide +kernel
theorem dX9_ways_50 : decode cX9_ways 50 = .ok (.getfield 26, 3) := by decide +kernel
theorem dX9_ways_53 : decode cX9_ways 53 = .ok (.invokevirtual 122, 3) := by decide +kernel
theorem dX9_ways_56 : decode cX9_ways 56 = .ok (.aload_n 0, 1) := by decide +kernel
theorem dX9_ways_57 : decode cX9_ways 57 = .ok (.getfield 44, 3) := by decide +kernel
theorem dX9_ways_60 : decode cX9_ways 60 = .ok (.aload_n 0, 1) := by decide +kernel
theorem dX9_ways_61 : decode cX9_ways 61 = .ok (.getfield 26, 3) := by decide +kernel
theorem dX9_ways_64 : decode cX9_ways 64 = .ok (.iload_n 1, 1) := by decide +kernel
theorem dX9_ways_65 : decode cX9_ways 65 = .ok (.invokevirtual 166, 3) := by decide +kernel
theorem dX9_ways_68 : decode cX9_ways 68 = .ok (.aload_n 0, 1) := by decide +kernel
theorem dX9_ways_69 : decode cX9_ways 69 = .ok (.getfield 44, 3) := by decide +kernel
theorem dX9_ways_72 : decode cX9_ways 72 = .ok (.iload_n 1, 1) := by decide +kernel
theorem dX9_ways_73 : decode cX9_ways 73 = .ok (.invokevirtual 170, 3) := by decide +kernel
theorem dX9_ways_76 : decode cX9_ways 76 = .ok (.ireturn, 1) := by decide +kernel
theorem dX9_told_0 : decode cX9_told 0 = .ok (.iload_n 1, 1) := by decide +kernel
theorem dX9_told_1 : decode cX9_told 1 = .ok (.tableswitch 86 0 4 #[35, 46, 58, 70, 75], 35) := by decide +kernel
theorem dX9_told_36 : decode cX9_told 36 = .ok (.aload_n 0, 1) := by decide +kernel
theorem dX9_told_37 : decode cX9_told 37 = .ok (.getfield 26, 3) := by decide +kernel
theorem dX9_told_40 : decode cX9_told 40 = .ok (.getfield 82, 3) := by decide +kernel
theorem dX9_told_43 : decode cX9_told 43 = .ok (.getfield 86, 3) := by decide +kernel
theorem dX9_told_46 : decode cX9_told 46 = .ok (.ireturn, 1) := by decide +kernel
theorem dX9_told_47 : decode cX9_told 47 = .ok (.aload_n 0, 1) := by decide +kernel
theorem dX9_told_48 : decode cX9_told 48 = .ok (.getfield 26, 3) := by decide +kernel
theorem dX9_told_51 : decode cX9_told 51 = .ok (.getfield 82, 3) := by decide +kernel
theorem dX9_told_54 : decode cX9_told 54 = .ok (.iconst 0, 1) := by decide +kernel
theorem dX9_told_55 : decode cX9_told 55 = .ok (.invokevirtual 173, 3) := by decide +kernel
theorem dX9_told_58 : decode cX9_told 58 = .ok (.ireturn, 1) := by decide +kernel
theorem dX9_told_59 : decode cX9_told 59 = .ok (.aload_n 0, 1) := by decide +kernel
theorem dX9_told_60 : decode cX9_told 60 = .ok (.getfield 26, 3) := by decide +kernel
theorem dX9_told_63 : decode cX9_told 63 = .ok (.getfield 82, 3) := by decide +kernel
theorem dX9_told_66 : decode cX9_told 66 = .ok (.iconst 1, 1) := by decide +kernel
theorem dX9_told_67 : decode cX9_told 67 = .ok (.invokevirtual 173, 3) := by decide +kernel
theorem dX9_told_70 : decode cX9_told 70 = .ok (.ireturn, 1) := by decide +kernel
theorem dX9_told_71 : decode cX9_told 71 = .ok (.aload_n 0, 1) := by decide +kernel
theorem dX9_told_72 : decode cX9_told 72 = .ok (.getfield 18, 3) := by decide +kernel
theorem dX9_told_75 : decode cX9_told 75 = .ok (.ireturn, 1) := by decide +kernel
theorem dX9_told_76 : decode cX9_told 76 = .ok (.aload_n 0, 1) := by decide +kernel
theorem dX9_told_77 : decode cX9_told 77 = .ok (.getfield 26, 3) := by decide +kernel
theorem dX9_told_80 : decode cX9_told 80 = .ok (.getfield 82, 3) := by decide +kernel
theorem dX9_told_83 : decode cX9_told 83 = .ok (.invokevirtual 176, 3) := by decide +kernel
theorem dX9_told_86 : decode cX9_told 86 = .ok (.ireturn, 1) := by decide +kernel
theorem dX9_told_87 : decode cX9_told 87 = .ok (.iconst (-1), 1) := by decide +kernel
theorem dX9_told_88 : decode cX9_told 88 = .ok (.ireturn, 1) := by decide +kernel
theorem dX9_about_0 : decode cX9_about 0 = .ok (.aload_n 0, 1) := by decide +kernel
theorem dX9_about_1 : decode cX9_about 1 = .ok (.getfield 26, 3) := by decide +kernel
theorem dX9_about_4 : decode cX9_about 4 = .ok (.getfield 82, 3) := by decide +kernel
theorem dX9_about_7 : decode cX9_about 7 = .ok (.astore_n 3, 1) := by decide +kernel
theorem dX9_about_8 : decode cX9_about 8 = .ok (.aload_n 3, 1) := by decide +kernel
theorem dX9_about_9 : decode cX9_about 9 = .ok (.iload_n 1, 1) := by decide +kernel
theorem dX9_about_10 : decode cX9_about 10 = .ok (.invokevirtual 113, 3) := by decide +kernel
theorem dX9_about_13 : decode cX9_about 13 = .ok (.ifCond .ne 5, 3) := by decide +kernel
theorem dX9_about_16 : decode cX9_about 16 = .ok (.iconst (-1), 1) := by decide +kernel
theorem dX9_about_17 : decode cX9_about 17 = .ok (.ireturn, 1) := by decide +kernel
theorem dX9_about_18 : decode cX9_about 18 = .ok (.iload_n 2, 1) := by decide +kernel
theorem dX9_about_19 : decode cX9_about 19 = .ok (.tableswitch 84 0 7 #[45, 51, 57, 63, 69, 69, 69, 78], 45) := by decide +kernel
theorem dX9_about_64 : decode cX9_about 64 = .ok (.aload_n 3, 1) := by decide +kernel
theorem dX9_about_65 : decode cX9_about 65 = .ok (.iload_n 1, 1) := by decide +kernel
theorem dX9_about_66 : decode cX9_about 66 = .ok (.invokevirtual 180, 3) := by decide +kernel
theorem dX9_about_69 : decode cX9_about 69 = .ok (.ireturn, 1) := by decide +kernel
theorem dX9_about_70 : decode cX9_about 70 = .ok (.aload_n 3, 1) := by decide +kernel
theorem dX9_about_71 : decode cX9_about 71 = .ok (.iload_n 1, 1) := by decide +kernel
theorem dX9_about_72 : decode cX9_about 72 = .ok (.invokevirtual 183, 3) := by decide +kernel
theorem dX9_about_75 : decode cX9_about 75 = .ok (.ireturn, 1) := by decide +kernel
theorem dX9_about_76 : decode cX9_about 76 = .ok (.aload_n 3, 1) := by decide +kernel
theorem dX9_about_77 : decode cX9_about 77 = .ok (.iload_n 1, 1) := by decide +kernel
theorem dX9_about_78 : decode cX9_about 78 = .ok (.invokevirtual 186, 3) := by decide +kernel
theorem dX9_about_81 : decode cX9_about 81 = .ok (.ireturn, 1) := by decide +kernel
theorem dX9_about_82 : decode cX9_about 82 = .ok (.aload_n 3, 1) := by decide +kernel
theorem dX9_about_83 : decode cX9_about 83 = .ok (.iload_n 1, 1) := by decide +kernel
theorem dX9_about_84 : decode cX9_about 84 = .ok (.invokevirtual 189, 3) := by decide +kernel
theorem dX9_about_87 : decode cX9_about 87 = .ok (.ireturn, 1) := by decide +kernel
theorem dX9_about_88 : decode cX9_about 88 = .ok (.aload_n 3, 1) := by decide +kernel
theorem dX9_about_89 : decode cX9_about 89 = .ok (.iload_n 1, 1) := by decide +kernel
theorem dX9_about_90 : decode cX9_about 90 = .ok (.iload_n 2, 1) := by decide +kernel
theorem dX9_about_91 : decode cX9_about 91 = .ok (.iconst 4, 1) := by decide +kernel
theorem dX9_about_92 : decode cX9_about 92 = .ok (.isub, 1) := by decide +kernel
theorem dX9_about_93 : decode cX9_about 93 = .ok (.invokevirtual 192, 3) := by decide +kernel
theorem dX9_about_96 : decode cX9_about 96 = .ok (.ireturn, 1) := by decide +kernel
theorem dX9_about_97 : decode cX9_about 97 = .ok (.aload_n 3, 1) := by decide +kernel
theorem dX9_about_98 : decode cX9_about 98 = .ok (.iload_n 1, 1) := by decide +kernel
theorem dX9_about_99 : decode cX9_about 99 = .ok (.invokevirtual 116, 3) := by decide +kernel
theorem dX9_about_102 : decode cX9_about 102 = .ok (.ireturn, 1) := by decide +kernel
theorem dX9_about_103 : decode cX9_about 103 = .ok (.iconst (-1), 1) := by decide +kernel
theorem dX9_about_104 : decode cX9_about 104 = .ok (.ireturn, 1) := by decide +kernel
theorem dX9_hasHand_0 : decode cX9_hasHand 0 = .ok (.iload_n 1, 1) := by decide +kernel
theorem dX9_hasHand_1 : decode cX9_hasHand 1 = .ok (.ifCond .eq 15, 3) := by decide +kernel
theorem dX9_hasHand_4 : decode cX9_hasHand 4 = .ok (.iload_n 1, 1) := by decide +kernel
theorem dX9_hasHand_5 : decode cX9_hasHand 5 = .ok (.iconst 1, 1) := by decide +kernel
theorem dX9_hasHand_6 : decode cX9_hasHand 6 = .ok (.if_icmp .ne 14, 3) := by decide +kernel
theorem dX9_hasHand_9 : decode cX9_hasHand 9 = .ok (.aload_n 0, 1) := by decide +kernel
theorem dX9_hasHand_10 : decode cX9_hasHand 10 = .ok (.getfield 18, 3) := by decide +kernel
theorem dX9_hasHand_13 : decode cX9_hasHand 13 = .ok (.ifCond .ne 7, 3) := by decide +kernel
theorem dX9_hasHand_16 : decode cX9_hasHand 16 = .ok (.iconst 1, 1) := by decide +kernel
theorem dX9_hasHand_17 : decode cX9_hasHand 17 = .ok (.goto 4, 3) := by decide +kernel
theorem dX9_hasHand_20 : decode cX9_hasHand 20 = .ok (.iconst 0, 1) := by decide +kernel
theorem dX9_hasHand_21 : decode cX9_hasHand 21 = .ok (.ireturn, 1) := by decide +kernel
theorem dX9_hasState_0 : decode cX9_hasState 0 = .ok (.aload_n 0, 1) := by decide +kernel
theorem dX9_hasState_1 : decode cX9_hasState 1 = .ok (.getfield 26, 3) := by decide +kernel
theorem dX9_hasState_4 : decode cX9_hasState 4 = .ok (.getfield 82, 3) := by decide +kernel
theorem dX9_hasState_7 : decode cX9_hasState 7 = .ok (.iload_n 1, 1) := by decide +kernel
theorem dX9_hasState_8 : decode cX9_hasState 8 = .ok (.invokevirtual 113, 3) := by decide +kernel
theorem dX9_hasState_11 : decode cX9_hasState 11 = .ok (.ifCond .ne 5, 3) := by decide +kernel
theorem dX9_hasState_14 : decode cX9_hasState 14 = .ok (.iconst 0, 1) := by decide +kernel
theorem dX9_hasState_15 : decode cX9_hasState 15 = .ok (.ireturn, 1) := by decide +kernel
theorem dX9_hasState_16 : decode cX9_hasState 16 = .ok (.aload_n 0, 1) := by decide +kernel
theorem dX9_hasState_17 : decode cX9_hasState 17 = .ok (.getfield 26, 3) := by decide +kernel
theorem dX9_hasState_20 : decode cX9_hasState 20 = .ok (.invokevirtual 122, 3) := by decide +kernel
theorem dX9_hasState_23 : decode cX9_hasState 23 = .ok (.iload_n 2, 1) := by decide +kernel
theorem dX9_hasState_24 : decode cX9_hasState 24 = .ok (.ifCond .lt 19, 3) := by decide +kernel
theorem dX9_hasState_27 : decode cX9_hasState 27 = .ok (.iload_n 2, 1) := by decide +kernel
theorem dX9_hasState_28 : decode cX9_hasState 28 = .ok (.aload_n 0, 1) := by decide +kernel
theorem dX9_hasState_29 : decode cX9_hasState 29 = .ok (.getfield 26, 3) := by decide +kernel
theorem dX9_hasState_32 : decode cX9_hasState 32 = .ok (.iload_n 1, 1) := by decide +kernel
theorem dX9_hasState_33 : decode cX9_hasState 33 = .ok (.invokevirtual 125, 3) := by decide +kernel
theorem dX9_hasState_36 : decode cX9_hasState 36 = .ok (.if_icmp .ge 7, 3) := by decide +kernel
theorem dX9_hasState_39 : decode cX9_hasState 39 = .ok (.iconst 1, 1) := by decide +kernel
theorem dX9_hasState_40 : decode cX9_hasState 40 = .ok (.goto 4, 3) := by decide +kernel
theorem dX9_hasState_43 : decode cX9_hasState 43 = .ok (.iconst 0, 1) := by decide +kernel
theorem dX9_hasState_44 : decode cX9_hasState 44 = .ok (.ireturn, 1) := by decide +kernel
theorem dX9_fits_0 : decode cX9_fits 0 = .ok (.aload_n 0, 1) := by decide +kernel
theorem dX9_fits_1 : decode cX9_fits 1 = .ok (.getfield 26, 3) := by decide +kernel
theorem dX9_fits_4 : decode cX9_fits 4 = .ok (.getfield 82, 3) := by decide +kernel
theorem dX9_fits_7 : decode cX9_fits 7 = .ok (.astore_n 3, 1) := by decide +kernel
theorem dX9_fits_8 : decode cX9_fits 8 = .ok (.aload_n 3, 1) := by decide +kernel
theorem dX9_fits_9 : decode cX9_fits 9 = .ok (.iload_n 1, 1) := by decide +kernel
theorem dX9_fits_10 : decode cX9_fits 10 = .ok (.aload_n 3, 1) := by decide +kernel
theorem dX9_fits_11 : decode cX9_fits 11 = .ok (.getfield 86, 3) := by decide +kernel
theorem dX9_fits_14 : decode cX9_fits 14 = .ok (.invokevirtual 195, 3) := by decide +kernel
theorem dX9_fits_17 : decode cX9_fits 17 = .ok (.istore 4, 2) := by decide +kernel
theorem dX9_fits_19 : decode cX9_fits 19 = .ok (.iload 4, 2) := by decide +kernel
theorem dX9_fits_21 : decode cX9_fits 21 = .ok (.ifCond .lt 60, 3) := by decide +kernel
theorem dX9_fits_24 : decode cX9_fits 24 = .ok (.aload_n 0, 1) := by decide +kernel
theorem dX9_fits_25 : decode cX9_fits 25 = .ok (.getfield 18, 3) := by decide +kernel
theorem dX9_fits_28 : decode cX9_fits 28 = .ok (.iconst 2, 1) := by decide +kernel
theorem dX9_fits_29 : decode cX9_fits 29 = .ok (.if_icmp .eq 11, 3) := by decide +kernel
theorem dX9_fits_32 : decode cX9_fits 32 = .ok (.aload_n 0, 1) := by decide +kernel
theorem dX9_fits_33 : decode cX9_fits 33 = .ok (.getfield 18, 3) := by decide +kernel
theorem dX9_fits_36 : decode cX9_fits 36 = .ok (.iconst 3, 1) := by decide +kernel
theorem dX9_fits_37 : decode cX9_fits 37 = .ok (.if_icmp .ne 7, 3) := by decide +kernel
theorem dX9_fits_40 : decode cX9_fits 40 = .ok (.iconst 1, 1) := by decide +kernel
theorem dX9_fits_41 : decode cX9_fits 41 = .ok (.goto 4, 3) := by decide +kernel
theorem dX9_fits_44 : decode cX9_fits 44 = .ok (.iconst 0, 1) := by decide +kernel
theorem dX9_fits_45 : decode cX9_fits 45 = .ok (.istore 5, 2) := by decide +kernel
theorem dX9_fits_47 : decode cX9_fits 47 = .ok (.aload_n 3, 1) := by decide +kernel
theorem dX9_fits_48 : decode cX9_fits 48 = .ok (.iload 4, 2) := by decide +kernel
theorem dX9_fits_50 : decode cX9_fits 50 = .ok (.invokevirtual 183, 3) := by decide +kernel
theorem dX9_fits_53 : decode cX9_fits 53 = .ok (.istore 6, 2) := by decide +kernel
theorem dX9_fits_55 : decode cX9_fits 55 = .ok (.iload_n 2, 1) := by decide +kernel
theorem dX9_fits_56 : decode cX9_fits 56 = .ok (.iload 6, 2) := by decide +kernel
theorem dX9_fits_58 : decode cX9_fits 58 = .ok (.if_icmp .le 21, 3) := by decide +kernel
theorem dX9_fits_61 : decode cX9_fits 61 = .ok (.iload 5, 2) := by decide +kernel
theorem dX9_fits_63 : decode cX9_fits 63 = .ok (.ifCond .eq 18, 3) := by decide +kernel
theorem dX9_fits_66 : decode cX9_fits 66 = .ok (.iload_n 2, 1) := by decide +kernel
theorem dX9_fits_67 : decode cX9_fits 67 = .ok (.iload 6, 2) := by decide +kernel
theorem dX9_fits_69 : decode cX9_fits 69 = .ok (.aload_n 3, 1) := by decide +kernel
theorem dX9_fits_70 : decode cX9_fits 70 = .ok (.iload 4, 2) := by decide +kernel
theorem dX9_fits_72 : decode cX9_fits 72 = .ok (.invokevirtual 186, 3) := by decide +kernel
theorem dX9_fits_75 : decode cX9_fits 75 = .ok (.iadd, 1) := by decide +kernel
theorem dX9_fits_76 : decode cX9_fits 76 = .ok (.if_icmp .ge 5, 3) := by decide +kernel
theorem dX9_fits_79 : decode cX9_fits 79 = .ok (.iconst 0, 1) := by decide +kernel
theorem dX9_fits_80 : decode cX9_fits 80 = .ok (.ireturn, 1) := by decide +kernel
theorem dX9_fits_81 : decode cX9_fits 81 = .ok (.aload_n 3, 1) := by decide +kernel
theorem dX9_fits_82 : decode cX9_fits 82 = .ok (.getfield 86, 3) := by decide +kernel
theorem dX9_fits_85 : decode cX9_fits 85 = .ok (.ifCond .eq 17, 3) := by decide +kernel
theorem dX9_fits_88 : decode cX9_fits 88 = .ok (.iload_n 2, 1) := by decide +kernel
theorem dX9_fits_89 : decode cX9_fits 89 = .ok (.aload_n 3, 1) := by decide +kernel
theorem dX9_fits_90 : decode cX9_fits 90 = .ok (.aload_n 3, 1) := by decide +kernel
theorem dX9_fits_91 : decode cX9_fits 91 = .ok (.getfield 86, 3) := by decide +kernel
theorem dX9_fits_94 : decode cX9_fits 94 = .ok (.iconst 1, 1) := by decide +kernel
theorem dX9_fits_95 : decode cX9_fits 95 = .ok (.isub, 1) := by decide +kernel
theorem dX9_fits_96 : decode cX9_fits 96 = .ok (.invokevirtual 183, 3) := by decide +kernel
theorem dX9_fits_99 : decode cX9_fits 99 = .ok (.if_icmp .lt 7, 3) := by decide +kernel
theorem dX9_fits_102 : decode cX9_fits 102 = .ok (.iconst 1, 1) := by decide +kernel
theorem dX9_fits_103 : decode cX9_fits 103 = .ok (.goto 4, 3) := by decide +kernel
theorem dX9_fits_106 : decode cX9_fits 106 = .ok (.iconst 0, 1) := by decide +kernel
theorem dX9_fits_107 : decode cX9_fits 107 = .ok (.ireturn, 1) := by decide +kernel
theorem dX9_forgetAnswers_0 : decode cX9_forgetAnswers 0 = .ok (.aload_n 0, 1) := by decide +kernel
theorem dX9_forgetAnswers_1 : decode cX9_forgetAnswers 1 = .ok (.getfield 40, 3) := by decide +kernel
theorem dX9_forgetAnswers_4 : decode cX9_forgetAnswers 4 = .ok (.iconst 0, 1) := by decide +kernel
theorem dX9_forgetAnswers_5 : decode cX9_forgetAnswers 5 = .ok (.putfield 198, 3) := by decide +kernel
theorem dX9_forgetAnswers_8 : decode cX9_forgetAnswers 8 = .ok (.aload_n 0, 1) := by decide +kernel
theorem dX9_forgetAnswers_9 : decode cX9_forgetAnswers 9 = .ok (.getfield 44, 3) := by decide +kernel
theorem dX9_forgetAnswers_12 : decode cX9_forgetAnswers 12 = .ok (.ifnull 11, 3) := by decide +kernel
theorem dX9_forgetAnswers_15 : decode cX9_forgetAnswers 15 = .ok (.aload_n 0, 1) := by decide +kernel
theorem dX9_forgetAnswers_16 : decode cX9_forgetAnswers 16 = .ok (.getfield 44, 3) := by decide +kernel
theorem dX9_forgetAnswers_19 : decode cX9_forgetAnswers 19 = .ok (.iconst (-1), 1) := by decide +kernel
theorem dX9_forgetAnswers_20 : decode cX9_forgetAnswers 20 = .ok (.putfield 163, 3) := by decide +kernel
theorem dX9_forgetAnswers_23 : decode cX9_forgetAnswers 23 = .ok (.return_, 1) := by decide +kernel
theorem dX10_init_0 : decode cX10_init 0 = .ok (.aload_n 0, 1) := by decide +kernel
theorem dX10_init_1 : decode cX10_init 1 = .ok (.invokespecial 1, 3) := by decide +kernel
theorem dX10_init_4 : decode cX10_init 4 = .ok (.aload_n 0, 1) := by decide +kernel
theorem dX10_init_5 : decode cX10_init 5 = .ok (.bipush 40, 2) := by decide +kernel
theorem dX10_init_7 : decode cX10_init 7 = .ok (.newarray .int, 2) := by decide +kernel
theorem dX10_init_9 : decode cX10_init 9 = .ok (.putfield 7, 3) := by decide +kernel
theorem dX10_init_12 : decode cX10_init 12 = .ok (.aload_n 0, 1) := by decide +kernel
theorem dX10_init_13 : decode cX10_init 13 = .ok (.bipush 40, 2) := by decide +kernel
theorem dX10_init_15 : decode cX10_init 15 = .ok (.newarray .int, 2) := by decide +kernel
theorem dX10_init_17 : decode cX10_init 17 = .ok (.putfield 13, 3) := by decide +kernel
theorem dX10_init_20 : decode cX10_init 20 = .ok (.aload_n 0, 1) := by decide +kernel
theorem dX10_init_21 : decode cX10_init 21 = .ok (.bipush 40, 2) := by decide +kernel
theorem dX10_init_23 : decode cX10_init 23 = .ok (.newarray .int, 2) := by decide +kernel
theorem dX10_init_25 : decode cX10_init 25 = .ok (.putfield 16, 3) := by decide +kernel
theorem dX10_init_28 : decode cX10_init 28 = .ok (.aload_n 0, 1) := by decide +kernel
theorem dX10_init_29 : decode cX10_init 29 = .ok (.bipush 40, 2) := by decide +kernel
theorem dX10_init_31 : decode cX10_init 31 = .ok (.newarray .int, 2) := by decide +kernel
theorem dX10_init_33 : decode cX10_init 33 = .ok (.putfield 19, 3) := by decide +kernel
theorem dX10_init_36 : decode cX10_init 36 = .ok (.aload_n 0, 1) := by decide +kernel
theorem dX10_init_37 : decode cX10_init 37 = .ok (.bipush 120, 2) := by decide +kernel
theorem dX10_init_39 : decode cX10_init 39 = .ok (.newarray .int, 2) := by decide +kernel
theorem dX10_init_41 : decode cX10_init 41 = .ok (.putfield 22, 3) := by decide +kernel
theorem dX10_init_44 : decode cX10_init 44 = .ok (.aload_n 0, 1) := by decide +kernel
end
section
theorem dX10_init_45 : decode cX10_init 45 = .ok (.bipush 40, 2) := by decide +kernel
theorem dX10_init_47 : decode cX10_init 47 = .ok (.newarray .int, 2) := by decide +kernel
theorem dX10_init_49 : decode cX10_init 49 = .ok (.putfield 25, 3) := by decide +kernel
theorem dX10_init_52 : decode cX10_init 52 = .ok (.aload_n 0, 1) := by decide +kernel
theorem dX10_init_53 : decode cX10_init 53 = .ok (.bipush 10, 2) := by decide +kernel
theorem dX10_init_55 : decode cX10_init 55 = .ok (.newarray .int, 2) := by decide +kernel
theorem dX10_init_57 : decode cX10_init 57 = .ok (.putfield 28, 3) := by decide +kernel
theorem dX10_init_60 : decode cX10_init 60 = .ok (.aload_n 0, 1) := by decide +kernel
theorem dX10_init_61 : decode cX10_init 61 = .ok (.bipush 40, 2) := by decide +kernel
theorem dX10_init_63 : decode cX10_init 63 = .ok (.newarray .int, 2) := by decide +kernel
theorem dX10_init_65 : decode cX10_init 65 = .ok (.putfield 31, 3) := by decide +kernel
theorem dX10_init_68 : decode cX10_init 68 = .ok (.aload_n 0, 1) := by decide +kernel
theorem dX10_init_69 : decode cX10_init 69 = .ok (.sipush 3200, 3) := by decide +kernel
theorem dX10_init_72 : decode cX10_init 72 = .ok (.newarray .int, 2) := by decide +kernel
theorem dX10_init_74 : decode cX10_init 74 = .ok (.putfield 34, 3) := by decide +kernel
theorem dX10_init_77 : decode cX10_init 77 = .ok (.aload_n 0, 1) := by decide +kernel
theorem dX10_init_78 : decode cX10_init 78 = .ok (.sipush 3200, 3) := by decide +kernel
theorem dX10_init_81 : decode cX10_init 81 = .ok (.newarray .int, 2) := by decide +kernel
theorem dX10_init_83 : decode cX10_init 83 = .ok (.putfield 37, 3) := by decide +kernel
theorem dX10_init_86 : decode cX10_init 86 = .ok (.aload_n 0, 1) := by decide +kernel
theorem dX10_init_87 : decode cX10_init 87 = .ok (.sipush 3200, 3) := by decide +kernel
theorem dX10_init_90 : decode cX10_init 90 = .ok (.newarray .int, 2) := by decide +kernel
theorem dX10_init_92 : decode cX10_init 92 = .ok (.putfield 40, 3) := by decide +kernel
theorem dX10_init_95 : decode cX10_init 95 = .ok (.aload_n 0, 1) := by decide +kernel
theorem dX10_init_96 : decode cX10_init 96 = .ok (.sipush 3200, 3) := by decide +kernel
theorem dX10_init_99 : decode cX10_init 99 = .ok (.newarray .int, 2) := by decide +kernel
theorem dX10_init_101 : decode cX10_init 101 = .ok (.putfield 43, 3) := by decide +kernel
theorem dX10_init_104 : decode cX10_init 104 = .ok (.aload_n 0, 1) := by decide +kernel
theorem dX10_init_105 : decode cX10_init 105 = .ok (.bipush 40, 2) := by decide +kernel
theorem dX10_init_107 : decode cX10_init 107 = .ok (.newarray .int, 2) := by decide +kernel
theorem dX10_init_109 : decode cX10_init 109 = .ok (.putfield 46, 3) := by decide +kernel
theorem dX10_init_112 : decode cX10_init 112 = .ok (.aload_n 0, 1) := by decide +kernel
theorem dX10_init_113 : decode cX10_init 113 = .ok (.sipush 3200, 3) := by decide +kernel
theorem dX10_init_116 : decode cX10_init 116 = .ok (.newarray .boolean, 2) := by decide +kernel
theorem dX10_init_118 : decode cX10_init 118 = .ok (.putfield 49, 3) := by decide +kernel
theorem dX10_init_121 : decode cX10_init 121 = .ok (.aload_n 0, 1) := by decide +kernel
theorem dX10_init_122 : decode cX10_init 122 = .ok (.ldc 53, 2) := by decide +kernel
theorem dX10_init_124 : decode cX10_init 124 = .ok (.newarray .int, 2) := by decide +kernel
theorem dX10_init_126 : decode cX10_init 126 = .ok (.putfield 54, 3) := by decide +kernel
theorem dX10_init_129 : decode cX10_init 129 = .ok (.aload_n 0, 1) := by decide +kernel
theorem dX10_init_130 : decode cX10_init 130 = .ok (.sipush 301, 3) := by decide +kernel
theorem dX10_init_133 : decode cX10_init 133 = .ok (.newarray .int, 2) := by decide +kernel
theorem dX10_init_135 : decode cX10_init 135 = .ok (.putfield 57, 3) := by decide +kernel
theorem dX10_init_138 : decode cX10_init 138 = .ok (.aload_n 0, 1) := by decide +kernel
theorem dX10_init_139 : decode cX10_init 139 = .ok (.sipush 301, 3) := by decide +kernel
theorem dX10_init_142 : decode cX10_init 142 = .ok (.newarray .int, 2) := by decide +kernel
theorem dX10_init_144 : decode cX10_init 144 = .ok (.putfield 60, 3) := by decide +kernel
theorem dX10_init_147 : decode cX10_init 147 = .ok (.aload_n 0, 1) := by decide +kernel
theorem dX10_init_148 : decode cX10_init 148 = .ok (.iload_n 1, 1) := by decide +kernel
theorem dX10_init_149 : decode cX10_init 149 = .ok (.ifCond .ge 7, 3) := by decide +kernel
theorem dX10_init_152 : decode cX10_init 152 = .ok (.iconst 0, 1) := by decide +kernel
theorem dX10_init_153 : decode cX10_init 153 = .ok (.goto 13, 3) := by decide +kernel
theorem dX10_init_156 : decode cX10_init 156 = .ok (.iload_n 1, 1) := by decide +kernel
theorem dX10_init_157 : decode cX10_init 157 = .ok (.iconst 4, 1) := by decide +kernel
theorem dX10_init_158 : decode cX10_init 158 = .ok (.if_icmp .le 7, 3) := by decide +kernel
theorem dX10_init_161 : decode cX10_init 161 = .ok (.iconst 4, 1) := by decide +kernel
theorem dX10_init_162 : decode cX10_init 162 = .ok (.goto 4, 3) := by decide +kernel
theorem dX10_init_165 : decode cX10_init 165 = .ok (.iload_n 1, 1) := by decide +kernel
theorem dX10_init_166 : decode cX10_init 166 = .ok (.putfield 63, 3) := by decide +kernel
theorem dX10_init_169 : decode cX10_init 169 = .ok (.aload_n 0, 1) := by decide +kernel
theorem dX10_init_170 : decode cX10_init 170 = .ok (.getfield 28, 3) := by decide +kernel
theorem dX10_init_173 : decode cX10_init 173 = .ok (.iconst 0, 1) := by decide +kernel
theorem dX10_init_174 : decode cX10_init 174 = .ok (.bipush 10, 2) := by decide +kernel
theorem dX10_init_176 : decode cX10_init 176 = .ok (.iastore, 1) := by decide +kernel
theorem dX10_init_177 : decode cX10_init 177 = .ok (.aload_n 0, 1) := by decide +kernel
theorem dX10_init_178 : decode cX10_init 178 = .ok (.getfield 28, 3) := by decide +kernel
theorem dX10_init_181 : decode cX10_init 181 = .ok (.iconst 1, 1) := by decide +kernel
theorem dX10_init_182 : decode cX10_init 182 = .ok (.sipush 400, 3) := by decide +kernel
theorem dX10_init_185 : decode cX10_init 185 = .ok (.iastore, 1) := by decide +kernel
theorem dX10_init_186 : decode cX10_init 186 = .ok (.aload_n 0, 1) := by decide +kernel
theorem dX10_init_187 : decode cX10_init 187 = .ok (.getfield 28, 3) := by decide +kernel
theorem dX10_init_190 : decode cX10_init 190 = .ok (.iconst 2, 1) := by decide +kernel
theorem dX10_init_191 : decode cX10_init 191 = .ok (.bipush 30, 2) := by decide +kernel
theorem dX10_init_193 : decode cX10_init 193 = .ok (.iastore, 1) := by decide +kernel
theorem dX10_init_194 : decode cX10_init 194 = .ok (.aload_n 0, 1) := by decide +kernel
theorem dX10_init_195 : decode cX10_init 195 = .ok (.getfield 28, 3) := by decide +kernel
theorem dX10_init_198 : decode cX10_init 198 = .ok (.iconst 4, 1) := by decide +kernel
theorem dX10_init_199 : decode cX10_init 199 = .ok (.bipush 127, 2) := by decide +kernel
theorem dX10_init_201 : decode cX10_init 201 = .ok (.iastore, 1) := by decide +kernel
theorem dX10_init_202 : decode cX10_init 202 = .ok (.aload_n 0, 1) := by decide +kernel
theorem dX10_init_203 : decode cX10_init 203 = .ok (.getfield 28, 3) := by decide +kernel
theorem dX10_init_206 : decode cX10_init 206 = .ok (.iconst 5, 1) := by decide +kernel
theorem dX10_init_207 : decode cX10_init 207 = .ok (.bipush 34, 2) := by decide +kernel
theorem dX10_init_209 : decode cX10_init 209 = .ok (.iastore, 1) := by decide +kernel
theorem dX10_init_210 : decode cX10_init 210 = .ok (.iconst 0, 1) := by decide +kernel
theorem dX10_init_211 : decode cX10_init 211 = .ok (.istore_n 2, 1) := by decide +kernel
theorem dX10_init_212 : decode cX10_init 212 = .ok (.iload_n 2, 1) := by decide +kernel
theorem dX10_init_213 : decode cX10_init 213 = .ok (.iconst 4, 1) := by decide +kernel
theorem dX10_init_214 : decode cX10_init 214 = .ok (.if_icmp .ge 25, 3) := by decide +kernel
theorem dX10_init_217 : decode cX10_init 217 = .ok (.aload_n 0, 1) := by decide +kernel
theorem dX10_init_218 : decode cX10_init 218 = .ok (.getfield 28, 3) := by decide +kernel
theorem dX10_init_221 : decode cX10_init 221 = .ok (.bipush 6, 2) := by decide +kernel
theorem dX10_init_223 : decode cX10_init 223 = .ok (.iload_n 2, 1) := by decide +kernel
theorem dX10_init_224 : decode cX10_init 224 = .ok (.iadd, 1) := by decide +kernel
theorem dX10_init_225 : decode cX10_init 225 = .ok (.bipush 55, 2) := by decide +kernel
theorem dX10_init_227 : decode cX10_init 227 = .ok (.bipush 7, 2) := by decide +kernel
theorem dX10_init_229 : decode cX10_init 229 = .ok (.iload_n 2, 1) := by decide +kernel
theorem dX10_init_230 : decode cX10_init 230 = .ok (.imul, 1) := by decide +kernel
theorem dX10_init_231 : decode cX10_init 231 = .ok (.iadd, 1) := by decide +kernel
theorem dX10_init_232 : decode cX10_init 232 = .ok (.iastore, 1) := by decide +kernel
theorem dX10_init_233 : decode cX10_init 233 = .ok (.iinc 2 1, 3) := by decide +kernel
theorem dX10_init_236 : decode cX10_init 236 = .ok (.goto (-24), 3) := by decide +kernel
theorem dX10_init_239 : decode cX10_init 239 = .ok (.return_, 1) := by decide +kernel
theorem dX10_in_0 : decode cX10_in 0 = .ok (.iload_n 0, 1) := by decide +kernel
theorem dX10_in_1 : decode cX10_in 1 = .ok (.iload_n 1, 1) := by decide +kernel
theorem dX10_in_2 : decode cX10_in 2 = .ok (.if_icmp .lt 12, 3) := by decide +kernel
theorem dX10_in_5 : decode cX10_in 5 = .ok (.iload_n 0, 1) := by decide +kernel
theorem dX10_in_6 : decode cX10_in 6 = .ok (.iload_n 2, 1) := by decide +kernel
theorem dX10_in_7 : decode cX10_in 7 = .ok (.if_icmp .gt 7, 3) := by decide +kernel
theorem dX10_in_10 : decode cX10_in 10 = .ok (.iconst 1, 1) := by decide +kernel
theorem dX10_in_11 : decode cX10_in 11 = .ok (.goto 4, 3) := by decide +kernel
theorem dX10_in_14 : decode cX10_in 14 = .ok (.iconst 0, 1) := by decide +kernel
theorem dX10_in_15 : decode cX10_in 15 = .ok (.ireturn, 1) := by decide +kernel
theorem dX10_far_0 : decode cX10_far 0 = .ok (.iload_n 0, 1) := by decide +kernel
theorem dX10_far_1 : decode cX10_far 1 = .ok (.iload_n 1, 1) := by decide +kernel
theorem dX10_far_2 : decode cX10_far 2 = .ok (.if_icmp .le 9, 3) := by decide +kernel
theorem dX10_far_5 : decode cX10_far 5 = .ok (.iload_n 0, 1) := by decide +kernel
theorem dX10_far_6 : decode cX10_far 6 = .ok (.iload_n 1, 1) := by decide +kernel
theorem dX10_far_7 : decode cX10_far 7 = .ok (.isub, 1) := by decide +kernel
theorem dX10_far_8 : decode cX10_far 8 = .ok (.goto 6, 3) := by decide +kernel
theorem dX10_far_11 : decode cX10_far 11 = .ok (.iload_n 1, 1) := by decide +kernel
theorem dX10_far_12 : decode cX10_far 12 = .ok (.iload_n 0, 1) := by decide +kernel
theorem dX10_far_13 : decode cX10_far 13 = .ok (.isub, 1) := by decide +kernel
theorem dX10_far_14 : decode cX10_far 14 = .ok (.ireturn, 1) := by decide +kernel
theorem dX10_before_0 : decode cX10_before 0 = .ok (.iload_n 1, 1) := by decide +kernel
theorem dX10_before_1 : decode cX10_before 1 = .ok (.iconst 1, 1) := by decide +kernel
theorem dX10_before_2 : decode cX10_before 2 = .ok (.isub, 1) := by decide +kernel
theorem dX10_before_3 : decode cX10_before 3 = .ok (.istore_n 3, 1) := by decide +kernel
theorem dX10_before_4 : decode cX10_before 4 = .ok (.iload_n 3, 1) := by decide +kernel
theorem dX10_before_5 : decode cX10_before 5 = .ok (.ifCond .lt 19, 3) := by decide +kernel
theorem dX10_before_8 : decode cX10_before 8 = .ok (.aload_n 0, 1) := by decide +kernel
theorem dX10_before_9 : decode cX10_before 9 = .ok (.getfield 7, 3) := by decide +kernel
theorem dX10_before_12 : decode cX10_before 12 = .ok (.iload_n 3, 1) := by decide +kernel
theorem dX10_before_13 : decode cX10_before 13 = .ok (.iaload, 1) := by decide +kernel
theorem dX10_before_14 : decode cX10_before 14 = .ok (.iload_n 2, 1) := by decide +kernel
theorem dX10_before_15 : decode cX10_before 15 = .ok (.if_icmp .eq 9, 3) := by decide +kernel
theorem dX10_before_18 : decode cX10_before 18 = .ok (.iinc 3 (-1), 3) := by decide +kernel
theorem dX10_before_21 : decode cX10_before 21 = .ok (.goto (-17), 3) := by decide +kernel
theorem dX10_before_24 : decode cX10_before 24 = .ok (.iload_n 3, 1) := by decide +kernel
theorem dX10_before_25 : decode cX10_before 25 = .ok (.ifCond .ge 8, 3) := by decide +kernel
theorem dX10_before_28 : decode cX10_before 28 = .ok (.bipush (-2), 2) := by decide +kernel
theorem dX10_before_30 : decode cX10_before 30 = .ok (.goto 4, 3) := by decide +kernel
theorem dX10_before_33 : decode cX10_before 33 = .ok (.iload_n 3, 1) := by decide +kernel
theorem dX10_before_34 : decode cX10_before 34 = .ok (.ireturn, 1) := by decide +kernel
theorem dX10_after_0 : decode cX10_after 0 = .ok (.iload_n 1, 1) := by decide +kernel
theorem dX10_after_1 : decode cX10_after 1 = .ok (.iconst 1, 1) := by decide +kernel
theorem dX10_after_2 : decode cX10_after 2 = .ok (.iadd, 1) := by decide +kernel
theorem dX10_after_3 : decode cX10_after 3 = .ok (.istore_n 2, 1) := by decide +kernel
theorem dX10_after_4 : decode cX10_after 4 = .ok (.iload_n 2, 1) := by decide +kernel
theorem dX10_after_5 : decode cX10_after 5 = .ok (.aload_n 0, 1) := by decide +kernel
theorem dX10_after_6 : decode cX10_after 6 = .ok (.getfield 67, 3) := by decide +kernel
theorem dX10_after_9 : decode cX10_after 9 = .ok (.if_icmp .ge 24, 3) := by decide +kernel
theorem dX10_after_12 : decode cX10_after 12 = .ok (.aload_n 0, 1) := by decide +kernel
theorem dX10_after_13 : decode cX10_after 13 = .ok (.getfield 7, 3) := by decide +kernel
theorem dX10_after_16 : decode cX10_after 16 = .ok (.iload_n 2, 1) := by decide +kernel
theorem dX10_after_17 : decode cX10_after 17 = .ok (.iaload, 1) := by decide +kernel
theorem dX10_after_18 : decode cX10_after 18 = .ok (.aload_n 0, 1) := by decide +kernel
theorem dX10_after_19 : decode cX10_after 19 = .ok (.getfield 7, 3) := by decide +kernel
theorem dX10_after_22 : decode cX10_after 22 = .ok (.iload_n 1, 1) := by decide +kernel
theorem dX10_after_23 : decode cX10_after 23 = .ok (.iaload, 1) := by decide +kernel
theorem dX10_after_24 : decode cX10_after 24 = .ok (.if_icmp .eq 9, 3) := by decide +kernel
theorem dX10_after_27 : decode cX10_after 27 = .ok (.iinc 2 1, 3) := by decide +kernel
theorem dX10_after_30 : decode cX10_after 30 = .ok (.goto (-26), 3) := by decide +kernel
theorem dX10_after_33 : decode cX10_after 33 = .ok (.iload_n 2, 1) := by decide +kernel
theorem dX10_after_34 : decode cX10_after 34 = .ok (.aload_n 0, 1) := by decide +kernel
theorem dX10_after_35 : decode cX10_after 35 = .ok (.getfield 67, 3) := by decide +kernel
theorem dX10_after_38 : decode cX10_after 38 = .ok (.if_icmp .ge 7, 3) := by decide +kernel
theorem dX10_after_41 : decode cX10_after 41 = .ok (.iload_n 2, 1) := by decide +kernel
theorem dX10_after_42 : decode cX10_after 42 = .ok (.goto 5, 3) := by decide +kernel
theorem dX10_after_45 : decode cX10_after 45 = .ok (.bipush (-2), 2) := by decide +kernel
theorem dX10_after_47 : decode cX10_after 47 = .ok (.ireturn, 1) := by decide +kernel
theorem dX10_isWell_0 : decode cX10_isWell 0 = .ok (.iload_n 1, 1) := by decide +kernel
theorem dX10_isWell_1 : decode cX10_isWell 1 = .ok (.iconst 0, 1) := by decide +kernel
theorem dX10_isWell_2 : decode cX10_isWell 2 = .ok (.aload_n 0, 1) := by decide +kernel
theorem dX10_isWell_3 : decode cX10_isWell 3 = .ok (.getfield 63, 3) := by decide +kernel
theorem dX10_isWell_6 : decode cX10_isWell 6 = .ok (.ifCond .ne 7, 3) := by decide +kernel
theorem dX10_isWell_9 : decode cX10_isWell 9 = .ok (.iconst 1, 1) := by decide +kernel
theorem dX10_isWell_10 : decode cX10_isWell 10 = .ok (.goto 4, 3) := by decide +kernel
theorem dX10_isWell_13 : decode cX10_isWell 13 = .ok (.iconst 0, 1) := by decide +kernel
theorem dX10_isWell_14 : decode cX10_isWell 14 = .ok (.invokestatic 70, 3) := by decide +kernel
theorem dX10_isWell_17 : decode cX10_isWell 17 = .ok (.ifCond .eq 35, 3) := by decide +kernel
theorem dX10_isWell_20 : decode cX10_isWell 20 = .ok (.iload_n 2, 1) := by decide +kernel
theorem dX10_isWell_21 : decode cX10_isWell 21 = .ok (.iconst 0, 1) := by decide +kernel
theorem dX10_isWell_22 : decode cX10_isWell 22 = .ok (.ldc 74, 2) := by decide +kernel
theorem dX10_isWell_24 : decode cX10_isWell 24 = .ok (.invokestatic 70, 3) := by decide +kernel
theorem dX10_isWell_27 : decode cX10_isWell 27 = .ok (.ifCond .eq 25, 3) := by decide +kernel
theorem dX10_isWell_30 : decode cX10_isWell 30 = .ok (.iload_n 3, 1) := by decide +kernel
theorem dX10_isWell_31 : decode cX10_isWell 31 = .ok (.iconst 1, 1) := by decide +kernel
theorem dX10_isWell_32 : decode cX10_isWell 32 = .ok (.sipush 1000, 3) := by decide +kernel
theorem dX10_isWell_35 : decode cX10_isWell 35 = .ok (.invokestatic 70, 3) := by decide +kernel
theorem dX10_isWell_38 : decode cX10_isWell 38 = .ok (.ifCond .eq 14, 3) := by decide +kernel
theorem dX10_isWell_41 : decode cX10_isWell 41 = .ok (.iload 4, 2) := by decide +kernel
theorem dX10_isWell_43 : decode cX10_isWell 43 = .ok (.iconst 0, 1) := by decide +kernel
theorem dX10_isWell_44 : decode cX10_isWell 44 = .ok (.bipush 127, 2) := by decide +kernel
theorem dX10_isWell_46 : decode cX10_isWell 46 = .ok (.invokestatic 70, 3) := by decide +kernel
theorem dX10_isWell_49 : decode cX10_isWell 49 = .ok (.ifCond .ne 5, 3) := by decide +kernel
theorem dX10_isWell_52 : decode cX10_isWell 52 = .ok (.iconst 0, 1) := by decide +kernel
theorem dX10_isWell_53 : decode cX10_isWell 53 = .ok (.ireturn, 1) := by decide +kernel
theorem dX10_isWell_54 : decode cX10_isWell 54 = .ok (.iload 5, 2) := by decide +kernel
theorem dX10_isWell_56 : decode cX10_isWell 56 = .ok (.iconst (-1), 1) := by decide +kernel
theorem dX10_isWell_57 : decode cX10_isWell 57 = .ok (.if_icmp .ne 15, 3) := by decide +kernel
theorem dX10_isWell_60 : decode cX10_isWell 60 = .ok (.iload 6, 2) := by decide +kernel
theorem dX10_isWell_62 : decode cX10_isWell 62 = .ok (.iconst (-1), 1) := by decide +kernel
theorem dX10_isWell_63 : decode cX10_isWell 63 = .ok (.if_icmp .ne 7, 3) := by decide +kernel
theorem dX10_isWell_66 : decode cX10_isWell 66 = .ok (.iconst 1, 1) := by decide +kernel
theorem dX10_isWell_67 : decode cX10_isWell 67 = .ok (.goto 4, 3) := by decide +kernel
theorem dX10_isWell_70 : decode cX10_isWell 70 = .ok (.iconst 0, 1) := by decide +kernel
theorem dX10_isWell_71 : decode cX10_isWell 71 = .ok (.ireturn, 1) := by decide +kernel
theorem dX10_isWell_72 : decode cX10_isWell 72 = .ok (.aload_n 0, 1) := by decide +kernel
theorem dX10_isWell_73 : decode cX10_isWell 73 = .ok (.getfield 63, 3) := by decide +kernel
theorem dX10_isWell_76 : decode cX10_isWell 76 = .ok (.iconst 2, 1) := by decide +kernel
theorem dX10_isWell_77 : decode cX10_isWell 77 = .ok (.if_icmp .eq 25, 3) := by decide +kernel
theorem dX10_isWell_80 : decode cX10_isWell 80 = .ok (.aload_n 0, 1) := by decide +kernel
theorem dX10_isWell_81 : decode cX10_isWell 81 = .ok (.getfield 63, 3) := by decide +kernel
theorem dX10_isWell_84 : decode cX10_isWell 84 = .ok (.iconst 3, 1) := by decide +kernel
theorem dX10_isWell_85 : decode cX10_isWell 85 = .ok (.if_icmp .eq 17, 3) := by decide +kernel
theorem dX10_isWell_88 : decode cX10_isWell 88 = .ok (.iload 5, 2) := by decide +kernel
theorem dX10_isWell_90 : decode cX10_isWell 90 = .ok (.iload 4, 2) := by decide +kernel
theorem dX10_isWell_92 : decode cX10_isWell 92 = .ok (.iconst 1, 1) := by decide +kernel
theorem dX10_isWell_93 : decode cX10_isWell 93 = .ok (.iadd, 1) := by decide +kernel
theorem dX10_isWell_94 : decode cX10_isWell 94 = .ok (.bipush 127, 2) := by decide +kernel
theorem dX10_isWell_96 : decode cX10_isWell 96 = .ok (.invokestatic 70, 3) := by decide +kernel
theorem dX10_isWell_99 : decode cX10_isWell 99 = .ok (.ifCond .ne 5, 3) := by decide +kernel
theorem dX10_isWell_102 : decode cX10_isWell 102 = .ok (.iconst 0, 1) := by decide +kernel
theorem dX10_isWell_103 : decode cX10_isWell 103 = .ok (.ireturn, 1) := by decide +kernel
theorem dX10_isWell_104 : decode cX10_isWell 104 = .ok (.iload 6, 2) := by decide +kernel
theorem dX10_isWell_106 : decode cX10_isWell 106 = .ok (.iconst (-1), 1) := by decide +kernel
theorem dX10_isWell_107 : decode cX10_isWell 107 = .ok (.if_icmp .eq 25, 3) := by decide +kernel
theorem dX10_isWell_110 : decode cX10_isWell 110 = .ok (.aload_n 0, 1) := by decide +kernel
theorem dX10_isWell_111 : decode cX10_isWell 111 = .ok (.getfield 63, 3) := by decide +kernel
theorem dX10_isWell_114 : decode cX10_isWell 114 = .ok (.iconst 4, 1) := by decide +kernel
theorem dX10_isWell_115 : decode cX10_isWell 115 = .ok (.if_icmp .eq 21, 3) := by decide +kernel
theorem dX10_isWell_118 : decode cX10_isWell 118 = .ok (.iload 6, 2) := by decide +kernel
theorem dX10_isWell_120 : decode cX10_isWell 120 = .ok (.iload 5, 2) := by decide +kernel
theorem dX10_isWell_122 : decode cX10_isWell 122 = .ok (.iconst 1, 1) := by decide +kernel
theorem dX10_isWell_123 : decode cX10_isWell 123 = .ok (.iadd, 1) := by decide +kernel
theorem dX10_isWell_124 : decode cX10_isWell 124 = .ok (.bipush 127, 2) := by decide +kernel
theorem dX10_isWell_126 : decode cX10_isWell 126 = .ok (.invokestatic 70, 3) := by decide +kernel
theorem dX10_isWell_129 : decode cX10_isWell 129 = .ok (.ifCond .eq 7, 3) := by decide +kernel
theorem dX10_isWell_132 : decode cX10_isWell 132 = .ok (.iconst 1, 1) := by decide +kernel
theorem dX10_isWell_133 : decode cX10_isWell 133 = .ok (.goto 4, 3) := by decide +kernel
theorem dX10_isWell_136 : decode cX10_isWell 136 = .ok (.iconst 0, 1) := by decide +kernel
theorem dX10_isWell_137 : decode cX10_isWell 137 = .ok (.ireturn, 1) := by decide +kernel
theorem dX10_event_0 : decode cX10_event 0 = .ok (.aload_n 0, 1) := by decide +kernel
theorem dX10_event_1 : decode cX10_event 1 = .ok (.iload_n 1, 1) := by decide +kernel
theorem dX10_event_2 : decode cX10_event 2 = .ok (.iload_n 2, 1) := by decide +kernel
theorem dX10_event_3 : decode cX10_event 3 = .ok (.iload_n 3, 1) := by decide +kernel
theorem dX10_event_4 : decode cX10_event 4 = .ok (.iload 4, 2) := by decide +kernel
theorem dX10_event_6 : decode cX10_event 6 = .ok (.iload 5, 2) := by decide +kernel
theorem dX10_event_8 : decode cX10_event 8 = .ok (.iload 6, 2) := by decide +kernel
theorem dX10_event_10 : decode cX10_event 10 = .ok (.invokevirtual 75, 3) := by decide +kernel
theorem dX10_event_13 : decode cX10_event 13 = .ok (.ifCond .ne 5, 3) := by decide +kernel
theorem dX10_event_16 : decode cX10_event 16 = .ok (.iconst (-1), 1) := by decide +kernel
theorem dX10_event_17 : decode cX10_event 17 = .ok (.ireturn, 1) := by decide +kernel
theorem dX10_event_18 : decode cX10_event 18 = .ok (.aload_n 0, 1) := by decide +kernel
theorem dX10_event_19 : decode cX10_event 19 = .ok (.aload_n 0, 1) := by decide +kernel
theorem dX10_event_20 : decode cX10_event 20 = .ok (.getfield 67, 3) := by decide +kernel
theorem dX10_event_23 : decode cX10_event 23 = .ok (.iload_n 1, 1) := by decide +kernel
theorem dX10_event_24 : decode cX10_event 24 = .ok (.invokevirtual 79, 3) := by decide +kernel
theorem dX10_event_27 : decode cX10_event 27 = .ok (.istore 7, 2) := by decide +kernel
theorem dX10_event_29 : decode cX10_event 29 = .ok (.iload 7, 2) := by decide +kernel
theorem dX10_event_31 : decode cX10_event 31 = .ok (.ifCond .lt 53, 3) := by decide +kernel
theorem dX10_event_34 : decode cX10_event 34 = .ok (.iload_n 2, 1) := by decide +kernel
theorem dX10_event_35 : decode cX10_event 35 = .ok (.aload_n 0, 1) := by decide +kernel
theorem dX10_event_36 : decode cX10_event 36 = .ok (.getfield 13, 3) := by decide +kernel
theorem dX10_event_39 : decode cX10_event 39 = .ok (.iload 7, 2) := by decide +kernel
theorem dX10_event_41 : decode cX10_event 41 = .ok (.iaload, 1) := by decide +kernel
theorem dX10_event_42 : decode cX10_event 42 = .ok (.if_icmp .le 38, 3) := by decide +kernel
theorem dX10_event_45 : decode cX10_event 45 = .ok (.aload_n 0, 1) := by decide +kernel
theorem dX10_event_46 : decode cX10_event 46 = .ok (.getfield 63, 3) := by decide +kernel
theorem dX10_event_49 : decode cX10_event 49 = .ok (.iconst 2, 1) := by decide +kernel
theorem dX10_event_50 : decode cX10_event 50 = .ok (.if_icmp .eq 11, 3) := by decide +kernel
theorem dX10_event_53 : decode cX10_event 53 = .ok (.aload_n 0, 1) := by decide +kernel
theorem dX10_event_54 : decode cX10_event 54 = .ok (.getfield 63, 3) := by decide +kernel
theorem dX10_event_57 : decode cX10_event 57 = .ok (.iconst 3, 1) := by decide +kernel
theorem dX10_event_58 : decode cX10_event 58 = .ok (.if_icmp .ne 26, 3) := by decide +kernel
theorem dX10_event_61 : decode cX10_event 61 = .ok (.iload_n 2, 1) := by decide +kernel
theorem dX10_event_62 : decode cX10_event 62 = .ok (.aload_n 0, 1) := by decide +kernel
theorem dX10_event_63 : decode cX10_event 63 = .ok (.getfield 13, 3) := by decide +kernel
theorem dX10_event_66 : decode cX10_event 66 = .ok (.iload 7, 2) := by decide +kernel
theorem dX10_event_68 : decode cX10_event 68 = .ok (.iaload, 1) := by decide +kernel
theorem dX10_event_69 : decode cX10_event 69 = .ok (.aload_n 0, 1) := by decide +kernel
theorem dX10_event_70 : decode cX10_event 70 = .ok (.getfield 16, 3) := by decide +kernel
theorem dX10_event_73 : decode cX10_event 73 = .ok (.iload 7, 2) := by decide +kernel
theorem dX10_event_75 : decode cX10_event 75 = .ok (.iaload, 1) := by decide +kernel
theorem dX10_event_76 : decode cX10_event 76 = .ok (.iadd, 1) := by decide +kernel
theorem dX10_event_77 : decode cX10_event 77 = .ok (.if_icmp .ge 7, 3) := by decide +kernel
theorem dX10_event_80 : decode cX10_event 80 = .ok (.iconst 1, 1) := by decide +kernel
theorem dX10_event_81 : decode cX10_event 81 = .ok (.goto 4, 3) := by decide +kernel
theorem dX10_event_84 : decode cX10_event 84 = .ok (.iconst 0, 1) := by decide +kernel
theorem dX10_event_85 : decode cX10_event 85 = .ok (.istore 8, 2) := by decide +kernel
theorem dX10_event_87 : decode cX10_event 87 = .ok (.iload 8, 2) := by decide +kernel
theorem dX10_event_89 : decode cX10_event 89 = .ok (.ifCond .ne 25, 3) := by decide +kernel
theorem dX10_event_92 : decode cX10_event 92 = .ok (.aload_n 0, 1) := by decide +kernel
theorem dX10_event_93 : decode cX10_event 93 = .ok (.getfield 67, 3) := by decide +kernel
theorem dX10_event_96 : decode cX10_event 96 = .ok (.ifCond .le 21, 3) := by decide +kernel
theorem dX10_event_99 : decode cX10_event 99 = .ok (.iload_n 2, 1) := by decide +kernel
theorem dX10_event_100 : decode cX10_event 100 = .ok (.aload_n 0, 1) := by decide +kernel
theorem dX10_event_101 : decode cX10_event 101 = .ok (.getfield 13, 3) := by decide +kernel
theorem dX10_event_104 : decode cX10_event 104 = .ok (.aload_n 0, 1) := by decide +kernel
theorem dX10_event_105 : decode cX10_event 105 = .ok (.getfield 67, 3) := by decide +kernel
theorem dX10_event_108 : decode cX10_event 108 = .ok (.iconst 1, 1) := by decide +kernel
theorem dX10_event_109 : decode cX10_event 109 = .ok (.isub, 1) := by decide +kernel
theorem dX10_event_110 : decode cX10_event 110 = .ok (.iaload, 1) := by decide +kernel
theorem dX10_event_111 : decode cX10_event 111 = .ok (.if_icmp .ge 6, 3) := by decide +kernel
theorem dX10_event_114 : decode cX10_event 114 = .ok (.bipush (-3), 2) := by decide +kernel
theorem dX10_event_116 : decode cX10_event 116 = .ok (.ireturn, 1) := by decide +kernel
theorem dX10_event_117 : decode cX10_event 117 = .ok (.aload_n 0, 1) := by decide +kernel
theorem dX10_event_118 : decode cX10_event 118 = .ok (.getfield 67, 3) := by decide +kernel
theorem dX10_event_121 : decode cX10_event 121 = .ok (.bipush 40, 2) := by decide +kernel
theorem dX10_event_123 : decode cX10_event 123 = .ok (.if_icmp .ne 6, 3) := by decide +kernel
theorem dX10_event_126 : decode cX10_event 126 = .ok (.bipush (-4), 2) := by decide +kernel
theorem dX10_event_128 : decode cX10_event 128 = .ok (.ireturn, 1) := by decide +kernel
theorem dX10_event_129 : decode cX10_event 129 = .ok (.aload_n 0, 1) := by decide +kernel
theorem dX10_event_130 : decode cX10_event 130 = .ok (.dup, 1) := by decide +kernel
theorem dX10_event_131 : decode cX10_event 131 = .ok (.getfield 67, 3) := by decide +kernel
theorem dX10_event_134 : decode cX10_event 134 = .ok (.dup_x1, 1) := by decide +kernel
theorem dX10_event_135 : decode cX10_event 135 = .ok (.iconst 1, 1) := by decide +kernel
theorem dX10_event_136 : decode cX10_event 136 = .ok (.iadd, 1) := by decide +kernel
theorem dX10_event_137 : decode cX10_event 137 = .ok (.putfield 67, 3) := by decide +kernel
theorem dX10_event_140 : decode cX10_event 140 = .ok (.istore 9, 2) := by decide +kernel
theorem dX10_event_142 : decode cX10_event 142 = .ok (.aload_n 0, 1) := by decide +kernel
theorem dX10_event_143 : decode cX10_event 143 = .ok (.getfield 7, 3) := by decide +kernel
theorem dX10_event_146 : decode cX10_event 146 = .ok (.iload 9, 2) := by decide +kernel
theorem dX10_event_148 : decode cX10_event 148 = .ok (.iload_n 1, 1) := by decide +kernel
theorem dX10_event_149 : decode cX10_event 149 = .ok (.iastore, 1) := by decide +kernel
theorem dX10_event_150 : decode cX10_event 150 = .ok (.aload_n 0, 1) := by decide +kernel
theorem dX10_event_151 : decode cX10_event 151 = .ok (.getfield 13, 3) := by decide +kernel
theorem dX10_event_154 : decode cX10_event 154 = .ok (.iload 9, 2) := by decide +kernel
theorem dX10_event_156 : decode cX10_event 156 = .ok (.iload_n 2, 1) := by decide +kernel
theorem dX10_event_157 : decode cX10_event 157 = .ok (.iastore, 1) := by decide +kernel
theorem dX10_event_158 : decode cX10_event 158 = .ok (.aload_n 0, 1) := by decide +kernel
theorem dX10_event_159 : decode cX10_event 159 = .ok (.getfield 16, 3) := by decide +kernel
theorem dX10_event_162 : decode cX10_event 162 = .ok (.iload 9, 2) := by decide +kernel
theorem dX10_event_164 : decode cX10_event 164 = .ok (.iload_n 3, 1) := by decide +kernel
theorem dX10_event_165 : decode cX10_event 165 = .ok (.iastore, 1) := by decide +kernel
theorem dX10_event_166 : decode cX10_event 166 = .ok (.aload_n 0, 1) := by decide +kernel
theorem dX10_event_167 : decode cX10_event 167 = .ok (.getfield 19, 3) := by decide +kernel
theorem dX10_event_170 : decode cX10_event 170 = .ok (.iload 9, 2) := by decide +kernel
theorem dX10_event_172 : decode cX10_event 172 = .ok (.iload 5, 2) := by decide +kernel
theorem dX10_event_174 : decode cX10_event 174 = .ok (.ifCond .ge 7, 3) := by decide +kernel
theorem dX10_event_177 : decode cX10_event 177 = .ok (.iconst 1, 1) := by decide +kernel
theorem dX10_event_178 : decode cX10_event 178 = .ok (.goto 13, 3) := by decide +kernel
theorem dX10_event_181 : decode cX10_event 181 = .ok (.iload 6, 2) := by decide +kernel
theorem dX10_event_183 : decode cX10_event 183 = .ok (.ifCond .ge 7, 3) := by decide +kernel
theorem dX10_event_186 : decode cX10_event 186 = .ok (.iconst 2, 1) := by decide +kernel
theorem dX10_event_187 : decode cX10_event 187 = .ok (.goto 4, 3) := by decide +kernel
theorem dX10_event_190 : decode cX10_event 190 = .ok (.iconst 3, 1) := by decide +kernel
theorem dX10_event_191 : decode cX10_event 191 = .ok (.iastore, 1) := by decide +kernel
theorem dX10_event_192 : decode cX10_event 192 = .ok (.aload_n 0, 1) := by decide +kernel
theorem dX10_event_193 : decode cX10_event 193 = .ok (.getfield 22, 3) := by decide +kernel
theorem dX10_event_196 : decode cX10_event 196 = .ok (.iconst 3, 1) := by decide +kernel
theorem dX10_event_197 : decode cX10_event 197 = .ok (.iload 9, 2) := by decide +kernel
theorem dX10_event_199 : decode cX10_event 199 = .ok (.imul, 1) := by decide +kernel
theorem dX10_event_200 : decode cX10_event 200 = .ok (.iload 4, 2) := by decide +kernel
theorem dX10_event_202 : decode cX10_event 202 = .ok (.iastore, 1) := by decide +kernel
theorem dX10_event_203 : decode cX10_event 203 = .ok (.aload_n 0, 1) := by decide +kernel
theorem dX10_event_204 : decode cX10_event 204 = .ok (.getfield 22, 3) := by decide +kernel
theorem dX10_event_207 : decode cX10_event 207 = .ok (.iconst 3, 1) := by decide +kernel
theorem dX10_event_208 : decode cX10_event 208 = .ok (.iload 9, 2) := by decide +kernel
theorem dX10_event_210 : decode cX10_event 210 = .ok (.imul, 1) := by decide +kernel
theorem dX10_event_211 : decode cX10_event 211 = .ok (.iconst 1, 1) := by decide +kernel
theorem dX10_event_212 : decode cX10_event 212 = .ok (.iadd, 1) := by decide +kernel
theorem dX10_event_213 : decode cX10_event 213 = .ok (.iload 5, 2) := by decide +kernel
theorem dX10_event_215 : decode cX10_event 215 = .ok (.iastore, 1) := by decide +kernel
theorem dX10_event_216 : decode cX10_event 216 = .ok (.aload_n 0, 1) := by decide +kernel
theorem dX10_event_217 : decode cX10_event 217 = .ok (.getfield 22, 3) := by decide +kernel
theorem dX10_event_220 : decode cX10_event 220 = .ok (.iconst 3, 1) := by decide +kernel
theorem dX10_event_221 : decode cX10_event 221 = .ok (.iload 9, 2) := by decide +kernel
theorem dX10_event_223 : decode cX10_event 223 = .ok (.imul, 1) := by decide +kernel
theorem dX10_event_224 : decode cX10_event 224 = .ok (.iconst 2, 1) := by decide +kernel
theorem dX10_event_225 : decode cX10_event 225 = .ok (.iadd, 1) := by decide +kernel
theorem dX10_event_226 : decode cX10_event 226 = .ok (.iload 6, 2) := by decide +kernel
theorem dX10_event_228 : decode cX10_event 228 = .ok (.iastore, 1) := by decide +kernel
theorem dX10_event_229 : decode cX10_event 229 = .ok (.aload_n 0, 1) := by decide +kernel
theorem dX10_event_230 : decode cX10_event 230 = .ok (.getfield 25, 3) := by decide +kernel
theorem dX10_event_233 : decode cX10_event 233 = .ok (.iload 9, 2) := by decide +kernel
theorem dX10_event_235 : decode cX10_event 235 = .ok (.bipush (-2), 2) := by decide +kernel
theorem dX10_event_237 : decode cX10_event 237 = .ok (.iastore, 1) := by decide +kernel
theorem dX10_event_238 : decode cX10_event 238 = .ok (.aload_n 0, 1) := by decide +kernel
theorem dX10_event_239 : decode cX10_event 239 = .ok (.iconst 0, 1) := by decide +kernel
theorem dX10_event_240 : decode cX10_event 240 = .ok (.putfield 83, 3) := by decide +kernel
theorem dX10_event_243 : decode cX10_event 243 = .ok (.iload 9, 2) := by decide +kernel
theorem dX10_event_245 : decode cX10_event 245 = .ok (.ireturn, 1) := by decide +kernel
theorem dX10_drop_0 : decode cX10_drop 0 = .ok (.aload_n 0, 1) := by decide +kernel
theorem dX10_drop_1 : decode cX10_drop 1 = .ok (.getfield 67, 3) := by decide +kernel
theorem dX10_drop_4 : decode cX10_drop 4 = .ok (.ifCond .ne 6, 3) := by decide +kernel
theorem dX10_drop_7 : decode cX10_drop 7 = .ok (.bipush (-2), 2) := by decide +kernel
theorem dX10_drop_9 : decode cX10_drop 9 = .ok (.ireturn, 1) := by decide +kernel
theorem dX10_drop_10 : decode cX10_drop 10 = .ok (.aload_n 0, 1) := by decide +kernel
theorem dX10_drop_11 : decode cX10_drop 11 = .ok (.dup, 1) := by decide +kernel
theorem dX10_drop_12 : decode cX10_drop 12 = .ok (.getfield 67, 3) := by decide +kernel
theorem dX10_drop_15 : decode cX10_drop 15 = .ok (.iconst 1, 1) := by decide +kernel
theorem dX10_drop_16 : decode cX10_drop 16 = .ok (.isub, 1) := by decide +kernel
theorem dX10_drop_17 : decode cX10_drop 17 = .ok (.putfield 67, 3) := by decide +kernel
theorem dX10_drop_20 : decode cX10_drop 20 = .ok (.aload_n 0, 1) := by decide +kernel
theorem dX10_drop_21 : decode cX10_drop 21 = .ok (.iconst 0, 1) := by decide +kernel
theorem dX10_drop_22 : decode cX10_drop 22 = .ok (.putfield 83, 3) := by decide +kernel
theorem dX10_drop_25 : decode cX10_drop 25 = .ok (.aload_n 0, 1) := by decide +kernel
theorem dX10_drop_26 : decode cX10_drop 26 = .ok (.getfield 67, 3) := by decide +kernel
theorem dX10_drop_29 : decode cX10_drop 29 = .ok (.ireturn, 1) := by decide +kernel
theorem dX10_bound_0 : decode cX10_bound 0 = .ok (.iload_n 1, 1) := by decide +kernel
theorem dX10_bound_1 : decode cX10_bound 1 = .ok (.iconst 0, 1) := by decide +kernel
theorem dX10_bound_2 : decode cX10_bound 2 = .ok (.bipush 9, 2) := by decide +kernel
theorem dX10_bound_4 : decode cX10_bound 4 = .ok (.invokestatic 70, 3) := by decide +kernel
theorem dX10_bound_7 : decode cX10_bound 7 = .ok (.ifCond .ne 5, 3) := by decide +kernel
theorem dX10_bound_10 : decode cX10_bound 10 = .ok (.iconst (-1), 1) := by decide +kernel
theorem dX10_bound_11 : decode cX10_bound 11 = .ok (.ireturn, 1) := by decide +kernel
theorem dX10_bound_12 : decode cX10_bound 12 = .ok (.iload_n 1, 1) := by decide +kernel
theorem dX10_bound_13 : decode cX10_bound 13 = .ok (.iconst 1, 1) := by decide +kernel
theorem dX10_bound_14 : decode cX10_bound 14 = .ok (.if_icmp .ne 7, 3) := by decide +kernel
theorem dX10_bound_17 : decode cX10_bound 17 = .ok (.iconst 1, 1) := by decide +kernel
theorem dX10_bound_18 : decode cX10_bound 18 = .ok (.goto 4, 3) := by decide +kernel
theorem dX10_bound_21 : decode cX10_bound 21 = .ok (.iconst 0, 1) := by decide +kernel
theorem dX10_bound_22 : decode cX10_bound 22 = .ok (.istore_n 3, 1) := by decide +kernel
theorem dX10_bound_23 : decode cX10_bound 23 = .ok (.iload_n 1, 1) := by decide +kernel
theorem dX10_bound_24 : decode cX10_bound 24 = .ok (.ifCond .eq 8, 3) := by decide +kernel
theorem dX10_bound_27 : decode cX10_bound 27 = .ok (.iload_n 1, 1) := by decide +kernel
theorem dX10_bound_28 : decode cX10_bound 28 = .ok (.iconst 5, 1) := by decide +kernel
theorem dX10_bound_29 : decode cX10_bound 29 = .ok (.if_icmp .ne 8, 3) := by decide +kernel
theorem dX10_bound_32 : decode cX10_bound 32 = .ok (.bipush 100, 2) := by decide +kernel
theorem dX10_bound_34 : decode cX10_bound 34 = .ok (.goto 27, 3) := by decide +kernel
theorem dX10_bound_37 : decode cX10_bound 37 = .ok (.iload_n 1, 1) := by decide +kernel
theorem dX10_bound_38 : decode cX10_bound 38 = .ok (.iconst 1, 1) := by decide +kernel
theorem dX10_bound_39 : decode cX10_bound 39 = .ok (.if_icmp .ne 9, 3) := by decide +kernel
theorem dX10_bound_42 : decode cX10_bound 42 = .ok (.sipush 2000, 3) := by decide +kernel
theorem dX10_bound_45 : decode cX10_bound 45 = .ok (.goto 16, 3) := by decide +kernel
theorem dX10_bound_48 : decode cX10_bound 48 = .ok (.iload_n 1, 1) := by decide +kernel
theorem dX10_bound_49 : decode cX10_bound 49 = .ok (.iconst 2, 1) := by decide +kernel
theorem dX10_bound_50 : decode cX10_bound 50 = .ok (.if_icmp .ne 9, 3) := by decide +kernel
theorem dX10_bound_53 : decode cX10_bound 53 = .ok (.sipush 200, 3) := by decide +kernel
theorem dX10_bound_56 : decode cX10_bound 56 = .ok (.goto 5, 3) := by decide +kernel
theorem dX10_bound_59 : decode cX10_bound 59 = .ok (.bipush 127, 2) := by decide +kernel
theorem dX10_bound_61 : decode cX10_bound 61 = .ok (.istore 4, 2) := by decide +kernel
theorem dX10_bound_63 : decode cX10_bound 63 = .ok (.iload_n 2, 1) := by decide +kernel
theorem dX10_bound_64 : decode cX10_bound 64 = .ok (.iload_n 3, 1) := by decide +kernel
theorem dX10_bound_65 : decode cX10_bound 65 = .ok (.iload 4, 2) := by decide +kernel
theorem dX10_bound_67 : decode cX10_bound 67 = .ok (.invokestatic 70, 3) := by decide +kernel
theorem dX10_bound_70 : decode cX10_bound 70 = .ok (.ifCond .ne 5, 3) := by decide +kernel
theorem dX10_bound_73 : decode cX10_bound 73 = .ok (.iconst (-1), 1) := by decide +kernel
theorem dX10_bound_74 : decode cX10_bound 74 = .ok (.ireturn, 1) := by decide +kernel
theorem dX10_bound_75 : decode cX10_bound 75 = .ok (.aload_n 0, 1) := by decide +kernel
theorem dX10_bound_76 : decode cX10_bound 76 = .ok (.getfield 28, 3) := by decide +kernel
theorem dX10_bound_79 : decode cX10_bound 79 = .ok (.iload_n 1, 1) := by decide +kernel
theorem dX10_bound_80 : decode cX10_bound 80 = .ok (.iaload, 1) := by decide +kernel
theorem dX10_bound_81 : decode cX10_bound 81 = .ok (.istore 5, 2) := by decide +kernel
theorem dX10_bound_83 : decode cX10_bound 83 = .ok (.aload_n 0, 1) := by decide +kernel
theorem dX10_bound_84 : decode cX10_bound 84 = .ok (.getfield 28, 3) := by decide +kernel
theorem dX10_bound_87 : decode cX10_bound 87 = .ok (.iload_n 1, 1) := by decide +kernel
theorem dX10_bound_88 : decode cX10_bound 88 = .ok (.iload_n 2, 1) := by decide +kernel
theorem dX10_bound_89 : decode cX10_bound 89 = .ok (.iastore, 1) := by decide +kernel
theorem dX10_bound_90 : decode cX10_bound 90 = .ok (.aload_n 0, 1) := by decide +kernel
theorem dX10_bound_91 : decode cX10_bound 91 = .ok (.iconst 0, 1) := by decide +kernel
theorem dX10_bound_92 : decode cX10_bound 92 = .ok (.putfield 83, 3) := by decide +kernel
theorem dX10_bound_95 : decode cX10_bound 95 = .ok (.iload 5, 2) := by decide +kernel
theorem dX10_bound_97 : decode cX10_bound 97 = .ok (.ireturn, 1) := by decide +kernel
theorem dX10_pin_0 : decode cX10_pin 0 = .ok (.iload_n 1, 1) := by decide +kernel
theorem dX10_pin_1 : decode cX10_pin 1 = .ok (.iconst 0, 1) := by decide +kernel
theorem dX10_pin_2 : decode cX10_pin 2 = .ok (.aload_n 0, 1) := by decide +kernel
theorem dX10_pin_3 : decode cX10_pin 3 = .ok (.getfield 67, 3) := by decide +kernel
theorem dX10_pin_6 : decode cX10_pin 6 = .ok (.iconst 1, 1) := by decide +kernel
theorem dX10_pin_7 : decode cX10_pin 7 = .ok (.isub, 1) := by decide +kernel
theorem dX10_pin_8 : decode cX10_pin 8 = .ok (.invokestatic 70, 3) := by decide +kernel
theorem dX10_pin_11 : decode cX10_pin 11 = .ok (.ifCond .eq 13, 3) := by decide +kernel
theorem dX10_pin_14 : decode cX10_pin 14 = .ok (.iload_n 2, 1) := by decide +kernel
theorem dX10_pin_15 : decode cX10_pin 15 = .ok (.iconst (-1), 1) := by decide +kernel
theorem dX10_pin_16 : decode cX10_pin 16 = .ok (.bipush 99, 2) := by decide +kernel
theorem dX10_pin_18 : decode cX10_pin 18 = .ok (.invokestatic 70, 3) := by decide +kernel
theorem dX10_pin_21 : decode cX10_pin 21 = .ok (.ifCond .ne 5, 3) := by decide +kernel
theorem dX10_pin_24 : decode cX10_pin 24 = .ok (.iconst (-1), 1) := by decide +kernel
theorem dX10_pin_25 : decode cX10_pin 25 = .ok (.ireturn, 1) := by decide +kernel
theorem dX10_pin_26 : decode cX10_pin 26 = .ok (.aload_n 0, 1) := by decide +kernel
theorem dX10_pin_27 : decode cX10_pin 27 = .ok (.getfield 25, 3) := by decide +kernel
theorem dX10_pin_30 : decode cX10_pin 30 = .ok (.iload_n 1, 1) := by decide +kernel
theorem dX10_pin_31 : decode cX10_pin 31 = .ok (.iaload, 1) := by decide +kernel
theorem dX10_pin_32 : decode cX10_pin 32 = .ok (.istore_n 3, 1) := by decide +kernel
theorem dX10_pin_33 : decode cX10_pin 33 = .ok (.aload_n 0, 1) := by decide +kernel
theorem dX10_pin_34 : decode cX10_pin 34 = .ok (.getfield 25, 3) := by decide +kernel
theorem dX10_pin_37 : decode cX10_pin 37 = .ok (.iload_n 1, 1) := by decide +kernel
theorem dX10_pin_38 : decode cX10_pin 38 = .ok (.iload_n 2, 1) := by decide +kernel
theorem dX10_pin_39 : decode cX10_pin 39 = .ok (.ifCond .ge 8, 3) := by decide +kernel
theorem dX10_pin_42 : decode cX10_pin 42 = .ok (.bipush (-2), 2) := by decide +kernel
theorem dX10_pin_44 : decode cX10_pin 44 = .ok (.goto 4, 3) := by decide +kernel
theorem dX10_pin_47 : decode cX10_pin 47 = .ok (.iload_n 2, 1) := by decide +kernel
theorem dX10_pin_48 : decode cX10_pin 48 = .ok (.iastore, 1) := by decide +kernel
theorem dX10_pin_49 : decode cX10_pin 49 = .ok (.iload_n 3, 1) := by decide +kernel
theorem dX10_pin_50 : decode cX10_pin 50 = .ok (.ireturn, 1) := by decide +kernel
theorem dX10_add_0 : decode cX10_add 0 = .ok (.bipush 80, 2) := by decide +kernel
theorem dX10_add_2 : decode cX10_add 2 = .ok (.iload_n 1, 1) := by decide +kernel
theorem dX10_add_3 : decode cX10_add 3 = .ok (.imul, 1) := by decide +kernel
theorem dX10_add_4 : decode cX10_add 4 = .ok (.aload_n 0, 1) := by decide +kernel
theorem dX10_add_5 : decode cX10_add 5 = .ok (.getfield 31, 3) := by decide +kernel
theorem dX10_add_8 : decode cX10_add 8 = .ok (.iload_n 1, 1) := by decide +kernel
theorem dX10_add_9 : decode cX10_add 9 = .ok (.iaload, 1) := by decide +kernel
theorem dX10_add_10 : decode cX10_add 10 = .ok (.iadd, 1) := by decide +kernel
theorem dX10_add_11 : decode cX10_add 11 = .ok (.istore 5, 2) := by decide +kernel
theorem dX10_add_13 : decode cX10_add 13 = .ok (.aload_n 0, 1) := by decide +kernel
theorem dX10_add_14 : decode cX10_add 14 = .ok (.getfield 34, 3) := by decide +kernel
theorem dX10_add_17 : decode cX10_add 17 = .ok (.iload 5, 2) := by decide +kernel
theorem dX10_add_19 : decode cX10_add 19 = .ok (.iload_n 2, 1) := by decide +kernel
theorem dX10_add_20 : decode cX10_add 20 = .ok (.iastore, 1) := by decide +kernel
theorem dX10_add_21 : decode cX10_add 21 = .ok (.aload_n 0, 1) := by decide +kernel
theorem dX10_add_22 : decode cX10_add 22 = .ok (.getfield 37, 3) := by decide +kernel
theorem dX10_add_25 : decode cX10_add 25 = .ok (.iload 5, 2) := by decide +kernel
theorem dX10_add_27 : decode cX10_add 27 = .ok (.iload_n 3, 1) := by decide +kernel
theorem dX10_add_28 : decode cX10_add 28 = .ok (.iastore, 1) := by decide +kernel
theorem dX10_add_29 : decode cX10_add 29 = .ok (.aload_n 0, 1) := by decide +kernel
theorem dX10_add_30 : decode cX10_add 30 = .ok (.getfield 40, 3) := by decide +kernel
theorem dX10_add_33 : decode cX10_add 33 = .ok (.iload 5, 2) := by decide +kernel
theorem dX10_add_35 : decode cX10_add 35 = .ok (.iload 4, 2) := by decide +kernel
theorem dX10_add_37 : decode cX10_add 37 = .ok (.iastore, 1) := by decide +kernel
theorem dX10_add_38 : decode cX10_add 38 = .ok (.aload_n 0, 1) := by decide +kernel
theorem dX10_add_39 : decode cX10_add 39 = .ok (.getfield 31, 3) := by decide +kernel
theorem dX10_add_42 : decode cX10_add 42 = .ok (.iload_n 1, 1) := by decide +kernel
theorem dX10_add_43 : decode cX10_add 43 = .ok (.dup2, 1) := by decide +kernel
theorem dX10_add_44 : decode cX10_add 44 = .ok (.iaload, 1) := by decide +kernel
theorem dX10_add_45 : decode cX10_add 45 = .ok (.iconst 1, 1) := by decide +kernel
theorem dX10_add_46 : decode cX10_add 46 = .ok (.iadd, 1) := by decide +kernel
theorem dX10_add_47 : decode cX10_add 47 = .ok (.iastore, 1) := by decide +kernel
theorem dX10_add_48 : decode cX10_add 48 = .ok (.return_, 1) := by decide +kernel
theorem dX10_find_0 : decode cX10_find 0 = .ok (.aload_n 0, 1) := by decide +kernel
theorem dX10_find_1 : decode cX10_find 1 = .ok (.getfield 83, 3) := by decide +kernel
theorem dX10_find_4 : decode cX10_find 4 = .ok (.ifCond .eq 4, 3) := by decide +kernel
theorem dX10_find_7 : decode cX10_find 7 = .ok (.return_, 1) := by decide +kernel
theorem dX10_find_8 : decode cX10_find 8 = .ok (.aload_n 0, 1) := by decide +kernel
theorem dX10_find_9 : decode cX10_find 9 = .ok (.iconst 1, 1) := by decide +kernel
theorem dX10_find_10 : decode cX10_find 10 = .ok (.putfield 83, 3) := by decide +kernel
theorem dX10_find_13 : decode cX10_find 13 = .ok (.iconst 0, 1) := by decide +kernel
theorem dX10_find_14 : decode cX10_find 14 = .ok (.istore_n 1, 1) := by decide +kernel
theorem dX10_find_15 : decode cX10_find 15 = .ok (.iload_n 1, 1) := by decide +kernel
theorem dX10_find_16 : decode cX10_find 16 = .ok (.aload_n 0, 1) := by decide +kernel
theorem dX10_find_17 : decode cX10_find 17 = .ok (.getfield 67, 3) := by decide +kernel
theorem dX10_find_20 : decode cX10_find 20 = .ok (.if_icmp .ge 83, 3) := by decide +kernel
theorem dX10_find_23 : decode cX10_find 23 = .ok (.aload_n 0, 1) := by decide +kernel
theorem dX10_find_24 : decode cX10_find 24 = .ok (.getfield 31, 3) := by decide +kernel
theorem dX10_find_27 : decode cX10_find 27 = .ok (.iload_n 1, 1) := by decide +kernel
theorem dX10_find_28 : decode cX10_find 28 = .ok (.iconst 0, 1) := by decide +kernel
theorem dX10_find_29 : decode cX10_find 29 = .ok (.iastore, 1) := by decide +kernel
theorem dX10_find_30 : decode cX10_find 30 = .ok (.iconst 1, 1) := by decide +kernel
theorem dX10_find_31 : decode cX10_find 31 = .ok (.istore_n 2, 1) := by decide +kernel
theorem dX10_find_32 : decode cX10_find 32 = .ok (.iconst 0, 1) := by decide +kernel
theorem dX10_find_33 : decode cX10_find 33 = .ok (.istore_n 3, 1) := by decide +kernel
theorem dX10_find_34 : decode cX10_find 34 = .ok (.iload_n 3, 1) := by decide +kernel
theorem dX10_find_35 : decode cX10_find 35 = .ok (.aload_n 0, 1) := by decide +kernel
theorem dX10_find_36 : decode cX10_find 36 = .ok (.getfield 19, 3) := by decide +kernel
theorem dX10_find_39 : decode cX10_find 39 = .ok (.iload_n 1, 1) := by decide +kernel
theorem dX10_find_40 : decode cX10_find 40 = .ok (.iaload, 1) := by decide +kernel
theorem dX10_find_41 : decode cX10_find 41 = .ok (.if_icmp .ge 47, 3) := by decide +kernel
theorem dX10_find_44 : decode cX10_find 44 = .ok (.iload_n 2, 1) := by decide +kernel
theorem dX10_find_45 : decode cX10_find 45 = .ok (.ifCond .eq 35, 3) := by decide +kernel
theorem dX10_find_48 : decode cX10_find 48 = .ok (.aload_n 0, 1) := by decide +kernel
theorem dX10_find_49 : decode cX10_find 49 = .ok (.getfield 22, 3) := by decide +kernel
theorem dX10_find_52 : decode cX10_find 52 = .ok (.iconst 3, 1) := by decide +kernel
theorem dX10_find_53 : decode cX10_find 53 = .ok (.iload_n 1, 1) := by decide +kernel
theorem dX10_find_54 : decode cX10_find 54 = .ok (.imul, 1) := by decide +kernel
theorem dX10_find_55 : decode cX10_find 55 = .ok (.iload_n 3, 1) := by decide +kernel
theorem dX10_find_56 : decode cX10_find 56 = .ok (.iadd, 1) := by decide +kernel
theorem dX10_find_57 : decode cX10_find 57 = .ok (.iaload, 1) := by decide +kernel
theorem dX10_find_58 : decode cX10_find 58 = .ok (.aload_n 0, 1) := by decide +kernel
theorem dX10_find_59 : decode cX10_find 59 = .ok (.getfield 28, 3) := by decide +kernel
theorem dX10_find_62 : decode cX10_find 62 = .ok (.iconst 3, 1) := by decide +kernel
theorem dX10_find_63 : decode cX10_find 63 = .ok (.iaload, 1) := by decide +kernel
theorem dX10_find_64 : decode cX10_find 64 = .ok (.aload_n 0, 1) := by decide +kernel
theorem dX10_find_65 : decode cX10_find 65 = .ok (.getfield 28, 3) := by decide +kernel
theorem dX10_find_68 : decode cX10_find 68 = .ok (.iconst 4, 1) := by decide +kernel
theorem dX10_find_69 : decode cX10_find 69 = .ok (.iaload, 1) := by decide +kernel
theorem dX10_find_70 : decode cX10_find 70 = .ok (.invokestatic 70, 3) := by decide +kernel
theorem dX10_find_73 : decode cX10_find 73 = .ok (.ifCond .eq 7, 3) := by decide +kernel
theorem dX10_find_76 : decode cX10_find 76 = .ok (.iconst 1, 1) := by decide +kernel
theorem dX10_find_77 : decode cX10_find 77 = .ok (.goto 4, 3) := by decide +kernel
theorem dX10_find_80 : decode cX10_find 80 = .ok (.iconst 0, 1) := by decide +kernel
theorem dX10_find_81 : decode cX10_find 81 = .ok (.istore_n 2, 1) := by decide +kernel
theorem dX10_find_82 : decode cX10_find 82 = .ok (.iinc 3 1, 3) := by decide +kernel
theorem dX10_find_85 : decode cX10_find 85 = .ok (.goto (-51), 3) := by decide +kernel
theorem dX10_find_88 : decode cX10_find 88 = .ok (.iload_n 2, 1) := by decide +kernel
theorem dX10_find_89 : decode cX10_find 89 = .ok (.ifCond .eq 8, 3) := by decide +kernel
theorem dX10_find_92 : decode cX10_find 92 = .ok (.aload_n 0, 1) := by decide +kernel
theorem dX10_find_93 : decode cX10_find 93 = .ok (.iload_n 1, 1) := by decide +kernel
theorem dX10_find_94 : decode cX10_find 94 = .ok (.invokevirtual 87, 3) := by decide +kernel
theorem dX10_find_97 : decode cX10_find 97 = .ok (.iinc 1 1, 3) := by decide +kernel
theorem dX10_find_100 : decode cX10_find 100 = .ok (.goto (-85), 3) := by decide +kernel
theorem dX10_find_103 : decode cX10_find 103 = .ok (.return_, 1) := by decide +kernel
theorem dX10_findOf_0 : decode cX10_findOf 0 = .ok (.aload_n 0, 1) := by decide +kernel
theorem dX10_findOf_1 : decode cX10_findOf 1 = .ok (.getfield 63, 3) := by decide +kernel
theorem dX10_findOf_4 : decode cX10_findOf 4 = .ok (.tableswitch 179 0 3 #[32, 68, 112, 120], 32) := by decide +kernel
theorem dX10_findOf_36 : decode cX10_findOf 36 = .ok (.iconst 1, 1) := by decide +kernel
theorem dX10_findOf_37 : decode cX10_findOf 37 = .ok (.istore_n 2, 1) := by decide +kernel
theorem dX10_findOf_38 : decode cX10_findOf 38 = .ok (.iload_n 2, 1) := by decide +kernel
theorem dX10_findOf_39 : decode cX10_findOf 39 = .ok (.bipush 32, 2) := by decide +kernel
theorem dX10_findOf_41 : decode cX10_findOf 41 = .ok (.if_icmp .ge 28, 3) := by decide +kernel
theorem dX10_findOf_44 : decode cX10_findOf 44 = .ok (.iload_n 2, 1) := by decide +kernel
theorem dX10_findOf_45 : decode cX10_findOf 45 = .ok (.invokestatic 91, 3) := by decide +kernel
theorem dX10_findOf_48 : decode cX10_findOf 48 = .ok (.aload_n 0, 1) := by decide +kernel
theorem dX10_findOf_49 : decode cX10_findOf 49 = .ok (.getfield 19, 3) := by decide +kernel
theorem dX10_findOf_52 : decode cX10_findOf 52 = .ok (.iload_n 1, 1) := by decide +kernel
theorem dX10_findOf_53 : decode cX10_findOf 53 = .ok (.iaload, 1) := by decide +kernel
theorem dX10_findOf_54 : decode cX10_findOf 54 = .ok (.if_icmp .ne 9, 3) := by decide +kernel
theorem dX10_findOf_57 : decode cX10_findOf 57 = .ok (.aload_n 0, 1) := by decide +kernel
theorem dX10_findOf_58 : decode cX10_findOf 58 = .ok (.iload_n 1, 1) := by decide +kernel
theorem dX10_findOf_59 : decode cX10_findOf 59 = .ok (.iload_n 2, 1) := by decide +kernel
theorem dX10_findOf_60 : decode cX10_findOf 60 = .ok (.invokevirtual 95, 3) := by decide +kernel
theorem dX10_findOf_63 : decode cX10_findOf 63 = .ok (.iinc 2 1, 3) := by decide +kernel
theorem dX10_findOf_66 : decode cX10_findOf 66 = .ok (.goto (-28), 3) := by decide +kernel
theorem dX10_findOf_69 : decode cX10_findOf 69 = .ok (.goto 119, 3) := by decide +kernel
theorem dX10_findOf_72 : decode cX10_findOf 72 = .ok (.iconst 0, 1) := by decide +kernel
theorem dX10_findOf_73 : decode cX10_findOf 73 = .ok (.istore_n 2, 1) := by decide +kernel
theorem dX10_findOf_74 : decode cX10_findOf 74 = .ok (.iload_n 2, 1) := by decide +kernel
theorem dX10_findOf_75 : decode cX10_findOf 75 = .ok (.bipush 12, 2) := by decide +kernel
theorem dX10_findOf_77 : decode cX10_findOf 77 = .ok (.if_icmp .ge 36, 3) := by decide +kernel
theorem dX10_findOf_80 : decode cX10_findOf 80 = .ok (.iconst 0, 1) := by decide +kernel
theorem dX10_findOf_81 : decode cX10_findOf 81 = .ok (.istore_n 3, 1) := by decide +kernel
theorem dX10_findOf_82 : decode cX10_findOf 82 = .ok (.iload_n 3, 1) := by decide +kernel
theorem dX10_findOf_83 : decode cX10_findOf 83 = .ok (.aload_n 0, 1) := by decide +kernel
theorem dX10_findOf_84 : decode cX10_findOf 84 = .ok (.getfield 19, 3) := by decide +kernel
theorem dX10_findOf_87 : decode cX10_findOf 87 = .ok (.iload_n 1, 1) := by decide +kernel
theorem dX10_findOf_88 : decode cX10_findOf 88 = .ok (.iaload, 1) := by decide +kernel
theorem dX10_findOf_89 : decode cX10_findOf 89 = .ok (.iadd, 1) := by decide +kernel
theorem dX10_findOf_90 : decode cX10_findOf 90 = .ok (.iconst 4, 1) := by decide +kernel
theorem dX10_findOf_91 : decode cX10_findOf 91 = .ok (.if_icmp .gt 16, 3) := by decide +kernel
theorem dX10_findOf_94 : decode cX10_findOf 94 = .ok (.aload_n 0, 1) := by decide +kernel
theorem dX10_findOf_95 : decode cX10_findOf 95 = .ok (.iload_n 1, 1) := by decide +kernel
theorem dX10_findOf_96 : decode cX10_findOf 96 = .ok (.iload_n 2, 1) := by decide +kernel
theorem dX10_findOf_97 : decode cX10_findOf 97 = .ok (.iload_n 3, 1) := by decide +kernel
theorem dX10_findOf_98 : decode cX10_findOf 98 = .ok (.invokevirtual 99, 3) := by decide +kernel
theorem dX10_findOf_101 : decode cX10_findOf 101 = .ok (.iinc 3 1, 3) := by decide +kernel
theorem dX10_findOf_104 : decode cX10_findOf 104 = .ok (.goto (-22), 3) := by decide +kernel
theorem dX10_findOf_107 : decode cX10_findOf 107 = .ok (.iinc 2 1, 3) := by decide +kernel
theorem dX10_findOf_110 : decode cX10_findOf 110 = .ok (.goto (-36), 3) := by decide +kernel
theorem dX10_findOf_113 : decode cX10_findOf 113 = .ok (.goto 75, 3) := by decide +kernel
theorem dX10_findOf_116 : decode cX10_findOf 116 = .ok (.aload_n 0, 1) := by decide +kernel
theorem dX10_findOf_117 : decode cX10_findOf 117 = .ok (.iload_n 1, 1) := by decide +kernel
theorem dX10_findOf_118 : decode cX10_findOf 118 = .ok (.invokevirtual 103, 3) := by decide +kernel
theorem dX10_findOf_121 : decode cX10_findOf 121 = .ok (.goto 67, 3) := by decide +kernel
theorem dX10_findOf_124 : decode cX10_findOf 124 = .ok (.iconst 0, 1) := by decide +kernel
theorem dX10_findOf_125 : decode cX10_findOf 125 = .ok (.istore_n 2, 1) := by decide +kernel
theorem dX10_findOf_126 : decode cX10_findOf 126 = .ok (.iload_n 2, 1) := by decide +kernel
theorem dX10_findOf_127 : decode cX10_findOf 127 = .ok (.bipush 7, 2) := by decide +kernel
theorem dX10_findOf_129 : decode cX10_findOf 129 = .ok (.if_icmp .ge 51, 3) := by decide +kernel
theorem dX10_findOf_132 : decode cX10_findOf 132 = .ok (.aload_n 0, 1) := by decide +kernel
theorem dX10_findOf_133 : decode cX10_findOf 133 = .ok (.getfield 22, 3) := by decide +kernel
theorem dX10_findOf_136 : decode cX10_findOf 136 = .ok (.iconst 3, 1) := by decide +kernel
theorem dX10_findOf_137 : decode cX10_findOf 137 = .ok (.iload_n 1, 1) := by decide +kernel
theorem dX10_findOf_138 : decode cX10_findOf 138 = .ok (.imul, 1) := by decide +kernel
theorem dX10_findOf_139 : decode cX10_findOf 139 = .ok (.iaload, 1) := by decide +kernel
theorem dX10_findOf_140 : decode cX10_findOf 140 = .ok (.iload_n 2, 1) := by decide +kernel
theorem dX10_findOf_141 : decode cX10_findOf 141 = .ok (.iadd, 1) := by decide +kernel
theorem dX10_findOf_142 : decode cX10_findOf 142 = .ok (.aload_n 0, 1) := by decide +kernel
theorem dX10_findOf_143 : decode cX10_findOf 143 = .ok (.getfield 28, 3) := by decide +kernel
theorem dX10_findOf_146 : decode cX10_findOf 146 = .ok (.iconst 5, 1) := by decide +kernel
theorem dX10_findOf_147 : decode cX10_findOf 147 = .ok (.iaload, 1) := by decide +kernel
theorem dX10_findOf_148 : decode cX10_findOf 148 = .ok (.isub, 1) := by decide +kernel
theorem dX10_findOf_149 : decode cX10_findOf 149 = .ok (.invokestatic 106, 3) := by decide +kernel
theorem dX10_findOf_152 : decode cX10_findOf 152 = .ok (.ifCond .eq 22, 3) := by decide +kernel
theorem dX10_findOf_155 : decode cX10_findOf 155 = .ok (.aload_n 0, 1) := by decide +kernel
theorem dX10_findOf_156 : decode cX10_findOf 156 = .ok (.iload_n 1, 1) := by decide +kernel
theorem dX10_findOf_157 : decode cX10_findOf 157 = .ok (.iload_n 2, 1) := by decide +kernel
theorem dX10_findOf_158 : decode cX10_findOf 158 = .ok (.iconst 0, 1) := by decide +kernel
theorem dX10_findOf_159 : decode cX10_findOf 159 = .ok (.iload_n 2, 1) := by decide +kernel
theorem dX10_findOf_160 : decode cX10_findOf 160 = .ok (.iconst 5, 1) := by decide +kernel
theorem dX10_findOf_161 : decode cX10_findOf 161 = .ok (.if_icmp .ge 7, 3) := by decide +kernel
theorem dX10_findOf_164 : decode cX10_findOf 164 = .ok (.iconst 0, 1) := by decide +kernel
theorem dX10_findOf_165 : decode cX10_findOf 165 = .ok (.goto 6, 3) := by decide +kernel
theorem dX10_findOf_168 : decode cX10_findOf 168 = .ok (.iload_n 2, 1) := by decide +kernel
theorem dX10_findOf_169 : decode cX10_findOf 169 = .ok (.iconst 4, 1) := by decide +kernel
theorem dX10_findOf_170 : decode cX10_findOf 170 = .ok (.isub, 1) := by decide +kernel
theorem dX10_findOf_171 : decode cX10_findOf 171 = .ok (.invokevirtual 110, 3) := by decide +kernel
theorem dX10_findOf_174 : decode cX10_findOf 174 = .ok (.iinc 2 1, 3) := by decide +kernel
theorem dX10_findOf_177 : decode cX10_findOf 177 = .ok (.goto (-51), 3) := by decide +kernel
theorem dX10_findOf_180 : decode cX10_findOf 180 = .ok (.goto 8, 3) := by decide +kernel
theorem dX10_findOf_183 : decode cX10_findOf 183 = .ok (.aload_n 0, 1) := by decide +kernel
theorem dX10_findOf_184 : decode cX10_findOf 184 = .ok (.iload_n 1, 1) := by decide +kernel
theorem dX10_findOf_185 : decode cX10_findOf 185 = .ok (.invokevirtual 114, 3) := by decide +kernel
theorem dX10_findOf_188 : decode cX10_findOf 188 = .ok (.return_, 1) := by decide +kernel
theorem dX10_bits_0 : decode cX10_bits 0 = .ok (.iconst 0, 1) := by decide +kernel
theorem dX10_bits_1 : decode cX10_bits 1 = .ok (.istore_n 1, 1) := by decide +kernel
theorem dX10_bits_2 : decode cX10_bits 2 = .ok (.iconst 0, 1) := by decide +kernel
theorem dX10_bits_3 : decode cX10_bits 3 = .ok (.istore_n 2, 1) := by decide +kernel
theorem dX10_bits_4 : decode cX10_bits 4 = .ok (.iload_n 2, 1) := by decide +kernel
theorem dX10_bits_5 : decode cX10_bits 5 = .ok (.iconst 5, 1) := by decide +kernel
theorem dX10_bits_6 : decode cX10_bits 6 = .ok (.if_icmp .ge 17, 3) := by decide +kernel
theorem dX10_bits_9 : decode cX10_bits 9 = .ok (.iload_n 1, 1) := by decide +kernel
theorem dX10_bits_10 : decode cX10_bits 10 = .ok (.iload_n 0, 1) := by decide +kernel
theorem dX10_bits_11 : decode cX10_bits 11 = .ok (.iload_n 2, 1) := by decide +kernel
theorem dX10_bits_12 : decode cX10_bits 12 = .ok (.ishr, 1) := by decide +kernel
theorem dX10_bits_13 : decode cX10_bits 13 = .ok (.iconst 1, 1) := by decide +kernel
theorem dX10_bits_14 : decode cX10_bits 14 = .ok (.iand, 1) := by decide +kernel
theorem dX10_bits_15 : decode cX10_bits 15 = .ok (.iadd, 1) := by decide +kernel
theorem dX10_bits_16 : decode cX10_bits 16 = .ok (.istore_n 1, 1) := by decide +kernel
theorem dX10_bits_17 : decode cX10_bits 17 = .ok (.iinc 2 1, 3) := by decide +kernel
theorem dX10_bits_20 : decode cX10_bits 20 = .ok (.goto (-16), 3) := by decide +kernel
theorem dX10_bits_23 : decode cX10_bits 23 = .ok (.iload_n 1, 1) := by decide +kernel
theorem dX10_bits_24 : decode cX10_bits 24 = .ok (.ireturn, 1) := by decide +kernel
theorem dX10_finger_0 : decode cX10_finger 0 = .ok (.aload_n 0, 1) := by decide +kernel
theorem dX10_finger_1 : decode cX10_finger 1 = .ok (.getfield 7, 3) := by decide +kernel
theorem dX10_finger_4 : decode cX10_finger 4 = .ok (.iload_n 1, 1) := by decide +kernel
theorem dX10_finger_5 : decode cX10_finger 5 = .ok (.iaload, 1) := by decide +kernel
theorem dX10_finger_6 : decode cX10_finger 6 = .ok (.iconst 1, 1) := by decide +kernel
theorem dX10_finger_7 : decode cX10_finger 7 = .ok (.if_icmp .ne 7, 3) := by decide +kernel
theorem dX10_finger_10 : decode cX10_finger 10 = .ok (.iload_n 3, 1) := by decide +kernel
theorem dX10_finger_11 : decode cX10_finger 11 = .ok (.goto 13, 3) := by decide +kernel
theorem dX10_finger_14 : decode cX10_finger 14 = .ok (.aload_n 0, 1) := by decide +kernel
theorem dX10_finger_15 : decode cX10_finger 15 = .ok (.getfield 19, 3) := by decide +kernel
theorem dX10_finger_18 : decode cX10_finger 18 = .ok (.iload_n 1, 1) := by decide +kernel
theorem dX10_finger_19 : decode cX10_finger 19 = .ok (.iaload, 1) := by decide +kernel
theorem dX10_finger_20 : decode cX10_finger 20 = .ok (.iconst 1, 1) := by decide +kernel
theorem dX10_finger_21 : decode cX10_finger 21 = .ok (.isub, 1) := by decide +kernel
theorem dX10_finger_22 : decode cX10_finger 22 = .ok (.iload_n 3, 1) := by decide +kernel
theorem dX10_finger_23 : decode cX10_finger 23 = .ok (.isub, 1) := by decide +kernel
theorem dX10_finger_24 : decode cX10_finger 24 = .ok (.istore 4, 2) := by decide +kernel
theorem dX10_finger_26 : decode cX10_finger 26 = .ok (.iconst 1, 1) := by decide +kernel
theorem dX10_finger_27 : decode cX10_finger 27 = .ok (.istore 5, 2) := by decide +kernel
theorem dX10_finger_29 : decode cX10_finger 29 = .ok (.iload_n 2, 1) := by decide +kernel
theorem dX10_finger_30 : decode cX10_finger 30 = .ok (.iload 5, 2) := by decide +kernel
theorem dX10_finger_32 : decode cX10_finger 32 = .ok (.iconst 1, 1) := by decide +kernel
theorem dX10_finger_33 : decode cX10_finger 33 = .ok (.isub, 1) := by decide +kernel
theorem dX10_finger_34 : decode cX10_finger 34 = .ok (.ishr, 1) := by decide +kernel
theorem dX10_finger_35 : decode cX10_finger 35 = .ok (.iconst 1, 1) := by decide +kernel
theorem dX10_finger_36 : decode cX10_finger 36 = .ok (.iand, 1) := by decide +kernel
theorem dX10_finger_37 : decode cX10_finger 37 = .ok (.ifCond .eq 8, 3) := by decide +kernel
theorem dX10_finger_40 : decode cX10_finger 40 = .ok (.iload 4, 2) := by decide +kernel
theorem dX10_finger_42 : decode cX10_finger 42 = .ok (.ifCond .le 22, 3) := by decide +kernel
theorem dX10_finger_45 : decode cX10_finger 45 = .ok (.iload 4, 2) := by decide +kernel
theorem dX10_finger_47 : decode cX10_finger 47 = .ok (.iload_n 2, 1) := by decide +kernel
theorem dX10_finger_48 : decode cX10_finger 48 = .ok (.iload 5, 2) := by decide +kernel
theorem dX10_finger_50 : decode cX10_finger 50 = .ok (.iconst 1, 1) := by decide +kernel
theorem dX10_finger_51 : decode cX10_finger 51 = .ok (.isub, 1) := by decide +kernel
theorem dX10_finger_52 : decode cX10_finger 52 = .ok (.ishr, 1) := by decide +kernel
theorem dX10_finger_53 : decode cX10_finger 53 = .ok (.iconst 1, 1) := by decide +kernel
theorem dX10_finger_54 : decode cX10_finger 54 = .ok (.iand, 1) := by decide +kernel
theorem dX10_finger_55 : decode cX10_finger 55 = .ok (.isub, 1) := by decide +kernel
theorem dX10_finger_56 : decode cX10_finger 56 = .ok (.istore 4, 2) := by decide +kernel
theorem dX10_finger_58 : decode cX10_finger 58 = .ok (.iinc 5 1, 3) := by decide +kernel
theorem dX10_finger_61 : decode cX10_finger 61 = .ok (.goto (-32), 3) := by decide +kernel
theorem dX10_finger_64 : decode cX10_finger 64 = .ok (.iload 5, 2) := by decide +kernel
theorem dX10_finger_66 : decode cX10_finger 66 = .ok (.ireturn, 1) := by decide +kernel
theorem dX10_fingers_0 : decode cX10_fingers 0 = .ok (.iconst 0, 1) := by decide +kernel
theorem dX10_fingers_1 : decode cX10_fingers 1 = .ok (.istore_n 3, 1) := by decide +kernel
theorem dX10_fingers_2 : decode cX10_fingers 2 = .ok (.iconst 0, 1) := by decide +kernel
theorem dX10_fingers_3 : decode cX10_fingers 3 = .ok (.istore 4, 2) := by decide +kernel
theorem dX10_fingers_5 : decode cX10_fingers 5 = .ok (.iload 4, 2) := by decide +kernel
theorem dX10_fingers_7 : decode cX10_fingers 7 = .ok (.iconst 1, 1) := by decide +kernel
theorem dX10_fingers_8 : decode cX10_fingers 8 = .ok (.iadd, 1) := by decide +kernel
theorem dX10_fingers_9 : decode cX10_fingers 9 = .ok (.aload_n 0, 1) := by decide +kernel
theorem dX10_fingers_10 : decode cX10_fingers 10 = .ok (.getfield 19, 3) := by decide +kernel
theorem dX10_fingers_13 : decode cX10_fingers 13 = .ok (.iload_n 1, 1) := by decide +kernel
theorem dX10_fingers_14 : decode cX10_fingers 14 = .ok (.iaload, 1) := by decide +kernel
theorem dX10_fingers_15 : decode cX10_fingers 15 = .ok (.if_icmp .ge 149, 3) := by decide +kernel
theorem dX10_fingers_18 : decode cX10_fingers 18 = .ok (.aload_n 0, 1) := by decide +kernel
theorem dX10_fingers_19 : decode cX10_fingers 19 = .ok (.iload_n 1, 1) := by decide +kernel
theorem dX10_fingers_20 : decode cX10_fingers 20 = .ok (.iload_n 2, 1) := by decide +kernel
theorem dX10_fingers_21 : decode cX10_fingers 21 = .ok (.iload 4, 2) := by decide +kernel
theorem dX10_fingers_23 : decode cX10_fingers 23 = .ok (.invokevirtual 117, 3) := by decide +kernel
theorem dX10_fingers_26 : decode cX10_fingers 26 = .ok (.istore 5, 2) := by decide +kernel
theorem dX10_fingers_28 : decode cX10_fingers 28 = .ok (.aload_n 0, 1) := by decide +kernel
theorem dX10_fingers_29 : decode cX10_fingers 29 = .ok (.iload_n 1, 1) := by decide +kernel
theorem dX10_fingers_30 : decode cX10_fingers 30 = .ok (.iload_n 2, 1) := by decide +kernel
theorem dX10_fingers_31 : decode cX10_fingers 31 = .ok (.iload 4, 2) := by decide +kernel
theorem dX10_fingers_33 : decode cX10_fingers 33 = .ok (.iconst 1, 1) := by decide +kernel
theorem dX10_fingers_34 : decode cX10_fingers 34 = .ok (.iadd, 1) := by decide +kernel
theorem dX10_fingers_35 : decode cX10_fingers 35 = .ok (.invokevirtual 117, 3) := by decide +kernel
theorem dX10_fingers_38 : decode cX10_fingers 38 = .ok (.istore 6, 2) := by decide +kernel
theorem dX10_fingers_40 : decode cX10_fingers 40 = .ok (.iload 5, 2) := by decide +kernel
theorem dX10_fingers_42 : decode cX10_fingers 42 = .ok (.iload 6, 2) := by decide +kernel
theorem dX10_fingers_44 : decode cX10_fingers 44 = .ok (.invokestatic 121, 3) := by decide +kernel
theorem dX10_fingers_47 : decode cX10_fingers 47 = .ok (.istore 7, 2) := by decide +kernel
theorem dX10_fingers_49 : decode cX10_fingers 49 = .ok (.aload_n 0, 1) := by decide +kernel
theorem dX10_fingers_50 : decode cX10_fingers 50 = .ok (.getfield 22, 3) := by decide +kernel
theorem dX10_fingers_53 : decode cX10_fingers 53 = .ok (.iconst 3, 1) := by decide +kernel
theorem dX10_fingers_54 : decode cX10_fingers 54 = .ok (.iload_n 1, 1) := by decide +kernel
theorem dX10_fingers_55 : decode cX10_fingers 55 = .ok (.imul, 1) := by decide +kernel
theorem dX10_fingers_56 : decode cX10_fingers 56 = .ok (.iload 4, 2) := by decide +kernel
theorem dX10_fingers_58 : decode cX10_fingers 58 = .ok (.iadd, 1) := by decide +kernel
theorem dX10_fingers_59 : decode cX10_fingers 59 = .ok (.iconst 1, 1) := by decide +kernel
theorem dX10_fingers_60 : decode cX10_fingers 60 = .ok (.iadd, 1) := by decide +kernel
theorem dX10_fingers_61 : decode cX10_fingers 61 = .ok (.iaload, 1) := by decide +kernel
theorem dX10_fingers_62 : decode cX10_fingers 62 = .ok (.aload_n 0, 1) := by decide +kernel
theorem dX10_fingers_63 : decode cX10_fingers 63 = .ok (.getfield 22, 3) := by decide +kernel
theorem dX10_fingers_66 : decode cX10_fingers 66 = .ok (.iconst 3, 1) := by decide +kernel
theorem dX10_fingers_67 : decode cX10_fingers 67 = .ok (.iload_n 1, 1) := by decide +kernel
theorem dX10_fingers_68 : decode cX10_fingers 68 = .ok (.imul, 1) := by decide +kernel
theorem dX10_fingers_69 : decode cX10_fingers 69 = .ok (.iload 4, 2) := by decide +kernel
theorem dX10_fingers_71 : decode cX10_fingers 71 = .ok (.iadd, 1) := by decide +kernel
theorem dX10_fingers_72 : decode cX10_fingers 72 = .ok (.iaload, 1) := by decide +kernel
theorem dX10_fingers_73 : decode cX10_fingers 73 = .ok (.isub, 1) := by decide +kernel
theorem dX10_fingers_74 : decode cX10_fingers 74 = .ok (.istore 8, 2) := by decide +kernel
theorem dX10_fingers_76 : decode cX10_fingers 76 = .ok (.iload 5, 2) := by decide +kernel
theorem dX10_fingers_78 : decode cX10_fingers 78 = .ok (.iconst 1, 1) := by decide +kernel
theorem dX10_fingers_79 : decode cX10_fingers 79 = .ok (.if_icmp .eq 9, 3) := by decide +kernel
theorem dX10_fingers_82 : decode cX10_fingers 82 = .ok (.iload 6, 2) := by decide +kernel
theorem dX10_fingers_84 : decode cX10_fingers 84 = .ok (.iconst 1, 1) := by decide +kernel
theorem dX10_fingers_85 : decode cX10_fingers 85 = .ok (.if_icmp .ne 7, 3) := by decide +kernel
theorem dX10_fingers_88 : decode cX10_fingers 88 = .ok (.iconst 1, 1) := by decide +kernel
theorem dX10_fingers_89 : decode cX10_fingers 89 = .ok (.goto 4, 3) := by decide +kernel
theorem dX10_fingers_92 : decode cX10_fingers 92 = .ok (.iconst 0, 1) := by decide +kernel
theorem dX10_fingers_93 : decode cX10_fingers 93 = .ok (.istore 9, 2) := by decide +kernel
theorem dX10_fingers_95 : decode cX10_fingers 95 = .ok (.iload 8, 2) := by decide +kernel
theorem dX10_fingers_97 : decode cX10_fingers 97 = .ok (.iconst 3, 1) := by decide +kernel
theorem dX10_fingers_98 : decode cX10_fingers 98 = .ok (.iload 7, 2) := by decide +kernel
theorem dX10_fingers_100 : decode cX10_fingers 100 = .ok (.imul, 1) := by decide +kernel
theorem dX10_fingers_101 : decode cX10_fingers 101 = .ok (.iconst 4, 1) := by decide +kernel
theorem dX10_fingers_102 : decode cX10_fingers 102 = .ok (.iload 9, 2) := by decide +kernel
theorem dX10_fingers_104 : decode cX10_fingers 104 = .ok (.imul, 1) := by decide +kernel
theorem dX10_fingers_105 : decode cX10_fingers 105 = .ok (.iadd, 1) := by decide +kernel
theorem dX10_fingers_106 : decode cX10_fingers 106 = .ok (.if_icmp .le 4, 3) := by decide +kernel
theorem dX10_fingers_109 : decode cX10_fingers 109 = .ok (.return_, 1) := by decide +kernel
theorem dX10_fingers_110 : decode cX10_fingers 110 = .ok (.iload_n 3, 1) := by decide +kernel
theorem dX10_fingers_111 : decode cX10_fingers 111 = .ok (.iload 8, 2) := by decide +kernel
theorem dX10_fingers_113 : decode cX10_fingers 113 = .ok (.iconst 2, 1) := by decide +kernel
theorem dX10_fingers_114 : decode cX10_fingers 114 = .ok (.iload 7, 2) := by decide +kernel
theorem dX10_fingers_116 : decode cX10_fingers 116 = .ok (.imul, 1) := by decide +kernel
theorem dX10_fingers_117 : decode cX10_fingers 117 = .ok (.iconst 2, 1) := by decide +kernel
theorem dX10_fingers_118 : decode cX10_fingers 118 = .ok (.iload 9, 2) := by decide +kernel
theorem dX10_fingers_120 : decode cX10_fingers 120 = .ok (.imul, 1) := by decide +kernel
theorem dX10_fingers_121 : decode cX10_fingers 121 = .ok (.iadd, 1) := by decide +kernel
theorem dX10_fingers_122 : decode cX10_fingers 122 = .ok (.if_icmp .le 18, 3) := by decide +kernel
theorem dX10_fingers_125 : decode cX10_fingers 125 = .ok (.iload 8, 2) := by decide +kernel
theorem dX10_fingers_127 : decode cX10_fingers 127 = .ok (.iconst 2, 1) := by decide +kernel
theorem dX10_fingers_128 : decode cX10_fingers 128 = .ok (.iload 7, 2) := by decide +kernel
theorem dX10_fingers_130 : decode cX10_fingers 130 = .ok (.imul, 1) := by decide +kernel
theorem dX10_fingers_131 : decode cX10_fingers 131 = .ok (.isub, 1) := by decide +kernel
theorem dX10_fingers_132 : decode cX10_fingers 132 = .ok (.iconst 2, 1) := by decide +kernel
theorem dX10_fingers_133 : decode cX10_fingers 133 = .ok (.iload 9, 2) := by decide +kernel
theorem dX10_fingers_135 : decode cX10_fingers 135 = .ok (.imul, 1) := by decide +kernel
theorem dX10_fingers_136 : decode cX10_fingers 136 = .ok (.isub, 1) := by decide +kernel
theorem dX10_fingers_137 : decode cX10_fingers 137 = .ok (.goto 19, 3) := by decide +kernel
theorem dX10_fingers_140 : decode cX10_fingers 140 = .ok (.iload 8, 2) := by decide +kernel
theorem dX10_fingers_142 : decode cX10_fingers 142 = .ok (.iload 7, 2) := by decide +kernel
theorem dX10_fingers_144 : decode cX10_fingers 144 = .ok (.if_icmp .ge 11, 3) := by decide +kernel
theorem dX10_fingers_147 : decode cX10_fingers 147 = .ok (.iload 7, 2) := by decide +kernel
theorem dX10_fingers_149 : decode cX10_fingers 149 = .ok (.iload 8, 2) := by decide +kernel
theorem dX10_fingers_151 : decode cX10_fingers 151 = .ok (.isub, 1) := by decide +kernel
theorem dX10_fingers_152 : decode cX10_fingers 152 = .ok (.goto 4, 3) := by decide +kernel
theorem dX10_fingers_155 : decode cX10_fingers 155 = .ok (.iconst 0, 1) := by decide +kernel
theorem dX10_fingers_156 : decode cX10_fingers 156 = .ok (.iadd, 1) := by decide +kernel
theorem dX10_fingers_157 : decode cX10_fingers 157 = .ok (.istore_n 3, 1) := by decide +kernel
theorem dX10_fingers_158 : decode cX10_fingers 158 = .ok (.iinc 4 1, 3) := by decide +kernel
theorem dX10_fingers_161 : decode cX10_fingers 161 = .ok (.goto (-156), 3) := by decide +kernel
theorem dX10_fingers_164 : decode cX10_fingers 164 = .ok (.aload_n 0, 1) := by decide +kernel
theorem dX10_fingers_165 : decode cX10_fingers 165 = .ok (.getfield 7, 3) := by decide +kernel
theorem dX10_fingers_168 : decode cX10_fingers 168 = .ok (.iload_n 1, 1) := by decide +kernel
theorem dX10_fingers_169 : decode cX10_fingers 169 = .ok (.iaload, 1) := by decide +kernel
theorem dX10_fingers_170 : decode cX10_fingers 170 = .ok (.iconst 1, 1) := by decide +kernel
theorem dX10_fingers_171 : decode cX10_fingers 171 = .ok (.if_icmp .ne 7, 3) := by decide +kernel
theorem dX10_fingers_174 : decode cX10_fingers 174 = .ok (.iconst 0, 1) := by decide +kernel
theorem dX10_fingers_175 : decode cX10_fingers 175 = .ok (.goto 11, 3) := by decide +kernel
theorem dX10_fingers_178 : decode cX10_fingers 178 = .ok (.aload_n 0, 1) := by decide +kernel
theorem dX10_fingers_179 : decode cX10_fingers 179 = .ok (.getfield 19, 3) := by decide +kernel
theorem dX10_fingers_182 : decode cX10_fingers 182 = .ok (.iload_n 1, 1) := by decide +kernel
theorem dX10_fingers_183 : decode cX10_fingers 183 = .ok (.iaload, 1) := by decide +kernel
theorem dX10_fingers_184 : decode cX10_fingers 184 = .ok (.iconst 1, 1) := by decide +kernel
theorem dX10_fingers_185 : decode cX10_fingers 185 = .ok (.isub, 1) := by decide +kernel
theorem dX10_fingers_186 : decode cX10_fingers 186 = .ok (.istore 4, 2) := by decide +kernel
theorem dX10_fingers_188 : decode cX10_fingers 188 = .ok (.iconst 2, 1) := by decide +kernel
theorem dX10_fingers_189 : decode cX10_fingers 189 = .ok (.aload_n 0, 1) := by decide +kernel
theorem dX10_fingers_190 : decode cX10_fingers 190 = .ok (.iload_n 1, 1) := by decide +kernel
theorem dX10_fingers_191 : decode cX10_fingers 191 = .ok (.iload_n 2, 1) := by decide +kernel
theorem dX10_fingers_192 : decode cX10_fingers 192 = .ok (.iload 4, 2) := by decide +kernel
theorem dX10_fingers_194 : decode cX10_fingers 194 = .ok (.invokevirtual 117, 3) := by decide +kernel
theorem dX10_fingers_197 : decode cX10_fingers 197 = .ok (.iconst 1, 1) := by decide +kernel
theorem dX10_fingers_198 : decode cX10_fingers 198 = .ok (.isub, 1) := by decide +kernel
theorem dX10_fingers_199 : decode cX10_fingers 199 = .ok (.imul, 1) := by decide +kernel
theorem dX10_fingers_200 : decode cX10_fingers 200 = .ok (.istore 5, 2) := by decide +kernel
theorem dX10_fingers_202 : decode cX10_fingers 202 = .ok (.aload_n 0, 1) := by decide +kernel
theorem dX10_fingers_203 : decode cX10_fingers 203 = .ok (.iload_n 1, 1) := by decide +kernel
theorem dX10_fingers_204 : decode cX10_fingers 204 = .ok (.iload_n 2, 1) := by decide +kernel
theorem dX10_fingers_205 : decode cX10_fingers 205 = .ok (.aload_n 0, 1) := by decide +kernel
theorem dX10_fingers_206 : decode cX10_fingers 206 = .ok (.getfield 7, 3) := by decide +kernel
theorem dX10_fingers_209 : decode cX10_fingers 209 = .ok (.iload_n 1, 1) := by decide +kernel
theorem dX10_fingers_210 : decode cX10_fingers 210 = .ok (.iaload, 1) := by decide +kernel
theorem dX10_fingers_211 : decode cX10_fingers 211 = .ok (.iconst 1, 1) := by decide +kernel
theorem dX10_fingers_212 : decode cX10_fingers 212 = .ok (.if_icmp .ne 17, 3) := by decide +kernel
theorem dX10_fingers_215 : decode cX10_fingers 215 = .ok (.aload_n 0, 1) := by decide +kernel
theorem dX10_fingers_216 : decode cX10_fingers 216 = .ok (.getfield 22, 3) := by decide +kernel
theorem dX10_fingers_219 : decode cX10_fingers 219 = .ok (.iconst 3, 1) := by decide +kernel
theorem dX10_fingers_220 : decode cX10_fingers 220 = .ok (.iload_n 1, 1) := by decide +kernel
theorem dX10_fingers_221 : decode cX10_fingers 221 = .ok (.imul, 1) := by decide +kernel
theorem dX10_fingers_222 : decode cX10_fingers 222 = .ok (.iaload, 1) := by decide +kernel
theorem dX10_fingers_223 : decode cX10_fingers 223 = .ok (.iload 5, 2) := by decide +kernel
theorem dX10_fingers_225 : decode cX10_fingers 225 = .ok (.isub, 1) := by decide +kernel
theorem dX10_fingers_226 : decode cX10_fingers 226 = .ok (.goto 17, 3) := by decide +kernel
theorem dX10_fingers_229 : decode cX10_fingers 229 = .ok (.aload_n 0, 1) := by decide +kernel
theorem dX10_fingers_230 : decode cX10_fingers 230 = .ok (.getfield 22, 3) := by decide +kernel
theorem dX10_fingers_233 : decode cX10_fingers 233 = .ok (.iconst 3, 1) := by decide +kernel
theorem dX10_fingers_234 : decode cX10_fingers 234 = .ok (.iload_n 1, 1) := by decide +kernel
theorem dX10_fingers_235 : decode cX10_fingers 235 = .ok (.imul, 1) := by decide +kernel
theorem dX10_fingers_236 : decode cX10_fingers 236 = .ok (.iload 4, 2) := by decide +kernel
theorem dX10_fingers_238 : decode cX10_fingers 238 = .ok (.iadd, 1) := by decide +kernel
theorem dX10_fingers_239 : decode cX10_fingers 239 = .ok (.iaload, 1) := by decide +kernel
theorem dX10_fingers_240 : decode cX10_fingers 240 = .ok (.iload 5, 2) := by decide +kernel
theorem dX10_fingers_242 : decode cX10_fingers 242 = .ok (.iadd, 1) := by decide +kernel
theorem dX10_fingers_243 : decode cX10_fingers 243 = .ok (.iload_n 3, 1) := by decide +kernel
theorem dX10_fingers_244 : decode cX10_fingers 244 = .ok (.invokevirtual 110, 3) := by decide +kernel
theorem dX10_fingers_247 : decode cX10_fingers 247 = .ok (.return_, 1) := by decide +kernel
theorem dX10_strings_0 : decode cX10_strings 0 = .ok (.iconst 0, 1) := by decide +kernel
theorem dX10_strings_1 : decode cX10_strings 1 = .ok (.istore 4, 2) := by decide +kernel
theorem dX10_strings_3 : decode cX10_strings 3 = .ok (.iconst 0, 1) := by decide +kernel
theorem dX10_strings_4 : decode cX10_strings 4 = .ok (.istore 5, 2) := by decide +kernel
theorem dX10_strings_6 : decode cX10_strings 6 = .ok (.iload 5, 2) := by decide +kernel
theorem dX10_strings_8 : decode cX10_strings 8 = .ok (.aload_n 0, 1) := by decide +kernel
theorem dX10_strings_9 : decode cX10_strings 9 = .ok (.getfield 19, 3) := by decide +kernel
theorem dX10_strings_12 : decode cX10_strings 12 = .ok (.iload_n 1, 1) := by decide +kernel
theorem dX10_strings_13 : decode cX10_strings 13 = .ok (.iaload, 1) := by decide +kernel
theorem dX10_strings_14 : decode cX10_strings 14 = .ok (.if_icmp .ge 82, 3) := by decide +kernel
theorem dX10_strings_17 : decode cX10_strings 17 = .ok (.aload_n 0, 1) := by decide +kernel
theorem dX10_strings_18 : decode cX10_strings 18 = .ok (.getfield 22, 3) := by decide +kernel
theorem dX10_strings_21 : decode cX10_strings 21 = .ok (.iconst 3, 1) := by decide +kernel
theorem dX10_strings_22 : decode cX10_strings 22 = .ok (.iload_n 1, 1) := by decide +kernel
theorem dX10_strings_23 : decode cX10_strings 23 = .ok (.imul, 1) := by decide +kernel
theorem dX10_strings_24 : decode cX10_strings 24 = .ok (.iload 5, 2) := by decide +kernel
theorem dX10_strings_26 : decode cX10_strings 26 = .ok (.iadd, 1) := by decide +kernel
theorem dX10_strings_27 : decode cX10_strings 27 = .ok (.iaload, 1) := by decide +kernel
theorem dX10_strings_28 : decode cX10_strings 28 = .ok (.aload_n 0, 1) := by decide +kernel
theorem dX10_strings_29 : decode cX10_strings 29 = .ok (.getfield 28, 3) := by decide +kernel
theorem dX10_strings_32 : decode cX10_strings 32 = .ok (.bipush 6, 2) := by decide +kernel
theorem dX10_strings_34 : decode cX10_strings 34 = .ok (.iload_n 3, 1) := by decide +kernel
theorem dX10_strings_35 : decode cX10_strings 35 = .ok (.iadd, 1) := by decide +kernel
theorem dX10_strings_36 : decode cX10_strings 36 = .ok (.iload 5, 2) := by decide +kernel
theorem dX10_strings_38 : decode cX10_strings 38 = .ok (.iadd, 1) := by decide +kernel
theorem dX10_strings_39 : decode cX10_strings 39 = .ok (.iaload, 1) := by decide +kernel
theorem dX10_strings_40 : decode cX10_strings 40 = .ok (.isub, 1) := by decide +kernel
theorem dX10_strings_41 : decode cX10_strings 41 = .ok (.istore 6, 2) := by decide +kernel
theorem dX10_strings_43 : decode cX10_strings 43 = .ok (.iload 6, 2) := by decide +kernel
theorem dX10_strings_45 : decode cX10_strings 45 = .ok (.ifCond .eq 18, 3) := by decide +kernel
theorem dX10_strings_48 : decode cX10_strings 48 = .ok (.iload 6, 2) := by decide +kernel
theorem dX10_strings_50 : decode cX10_strings 50 = .ok (.iload_n 2, 1) := by decide +kernel
theorem dX10_strings_51 : decode cX10_strings 51 = .ok (.iconst 1, 1) := by decide +kernel
theorem dX10_strings_52 : decode cX10_strings 52 = .ok (.iadd, 1) := by decide +kernel
theorem dX10_strings_53 : decode cX10_strings 53 = .ok (.iload_n 2, 1) := by decide +kernel
theorem dX10_strings_54 : decode cX10_strings 54 = .ok (.iconst 4, 1) := by decide +kernel
theorem dX10_strings_55 : decode cX10_strings 55 = .ok (.iadd, 1) := by decide +kernel
theorem dX10_strings_56 : decode cX10_strings 56 = .ok (.invokestatic 70, 3) := by decide +kernel
theorem dX10_strings_59 : decode cX10_strings 59 = .ok (.ifCond .ne 4, 3) := by decide +kernel
theorem dX10_strings_62 : decode cX10_strings 62 = .ok (.return_, 1) := by decide +kernel
theorem dX10_strings_63 : decode cX10_strings 63 = .ok (.iload 4, 2) := by decide +kernel
theorem dX10_strings_65 : decode cX10_strings 65 = .ok (.iload 6, 2) := by decide +kernel
theorem dX10_strings_67 : decode cX10_strings 67 = .ok (.ifCond .ne 7, 3) := by decide +kernel
theorem dX10_strings_70 : decode cX10_strings 70 = .ok (.iconst 0, 1) := by decide +kernel
theorem dX10_strings_71 : decode cX10_strings 71 = .ok (.goto 16, 3) := by decide +kernel
theorem dX10_strings_74 : decode cX10_strings 74 = .ok (.iload 6, 2) := by decide +kernel
theorem dX10_strings_76 : decode cX10_strings 76 = .ok (.iload_n 2, 1) := by decide +kernel
theorem dX10_strings_77 : decode cX10_strings 77 = .ok (.iconst 4, 1) := by decide +kernel
theorem dX10_strings_78 : decode cX10_strings 78 = .ok (.iadd, 1) := by decide +kernel
theorem dX10_strings_79 : decode cX10_strings 79 = .ok (.if_icmp .ne 7, 3) := by decide +kernel
theorem dX10_strings_82 : decode cX10_strings 82 = .ok (.iconst 2, 1) := by decide +kernel
theorem dX10_strings_83 : decode cX10_strings 83 = .ok (.goto 4, 3) := by decide +kernel
theorem dX10_strings_86 : decode cX10_strings 86 = .ok (.iconst 1, 1) := by decide +kernel
theorem dX10_strings_87 : decode cX10_strings 87 = .ok (.iadd, 1) := by decide +kernel
theorem dX10_strings_88 : decode cX10_strings 88 = .ok (.istore 4, 2) := by decide +kernel
theorem dX10_strings_90 : decode cX10_strings 90 = .ok (.iinc 5 1, 3) := by decide +kernel
theorem dX10_strings_93 : decode cX10_strings 93 = .ok (.goto (-87), 3) := by decide +kernel
theorem dX10_strings_96 : decode cX10_strings 96 = .ok (.aload_n 0, 1) := by decide +kernel
theorem dX10_strings_97 : decode cX10_strings 97 = .ok (.iload_n 1, 1) := by decide +kernel
theorem dX10_strings_98 : decode cX10_strings 98 = .ok (.iload_n 2, 1) := by decide +kernel
theorem dX10_strings_99 : decode cX10_strings 99 = .ok (.iload_n 3, 1) := by decide +kernel
theorem dX10_strings_100 : decode cX10_strings 100 = .ok (.iload 4, 2) := by decide +kernel
theorem dX10_strings_102 : decode cX10_strings 102 = .ok (.invokevirtual 110, 3) := by decide +kernel
theorem dX10_strings_105 : decode cX10_strings 105 = .ok (.return_, 1) := by decide +kernel
theorem dX10_breaths_0 : decode cX10_breaths 0 = .ok (.iconst 0, 1) := by decide +kernel
theorem dX10_breaths_1 : decode cX10_breaths 1 = .ok (.istore_n 2, 1) := by decide +kernel
theorem dX10_breaths_2 : decode cX10_breaths 2 = .ok (.iload_n 2, 1) := by decide +kernel
theorem dX10_breaths_3 : decode cX10_breaths 3 = .ok (.iload_n 1, 1) := by decide +kernel
theorem dX10_breaths_4 : decode cX10_breaths 4 = .ok (.if_icmp .gt 54, 3) := by decide +kernel
theorem dX10_breaths_7 : decode cX10_breaths 7 = .ok (.iconst 0, 1) := by decide +kernel
theorem dX10_breaths_8 : decode cX10_breaths 8 = .ok (.istore_n 3, 1) := by decide +kernel
theorem dX10_breaths_9 : decode cX10_breaths 9 = .ok (.iload_n 2, 1) := by decide +kernel
theorem dX10_breaths_10 : decode cX10_breaths 10 = .ok (.istore 4, 2) := by decide +kernel
theorem dX10_breaths_12 : decode cX10_breaths 12 = .ok (.iload 4, 2) := by decide +kernel
theorem dX10_breaths_14 : decode cX10_breaths 14 = .ok (.iload_n 1, 1) := by decide +kernel
theorem dX10_breaths_15 : decode cX10_breaths 15 = .ok (.if_icmp .gt 19, 3) := by decide +kernel
theorem dX10_breaths_18 : decode cX10_breaths 18 = .ok (.iload_n 3, 1) := by decide +kernel
theorem dX10_breaths_19 : decode cX10_breaths 19 = .ok (.aload_n 0, 1) := by decide +kernel
theorem dX10_breaths_20 : decode cX10_breaths 20 = .ok (.getfield 16, 3) := by decide +kernel
theorem dX10_breaths_23 : decode cX10_breaths 23 = .ok (.iload 4, 2) := by decide +kernel
theorem dX10_breaths_25 : decode cX10_breaths 25 = .ok (.iaload, 1) := by decide +kernel
theorem dX10_breaths_26 : decode cX10_breaths 26 = .ok (.iadd, 1) := by decide +kernel
theorem dX10_breaths_27 : decode cX10_breaths 27 = .ok (.istore_n 3, 1) := by decide +kernel
theorem dX10_breaths_28 : decode cX10_breaths 28 = .ok (.iinc 4 1, 3) := by decide +kernel
theorem dX10_breaths_31 : decode cX10_breaths 31 = .ok (.goto (-19), 3) := by decide +kernel
theorem dX10_breaths_34 : decode cX10_breaths 34 = .ok (.iload_n 3, 1) := by decide +kernel
theorem dX10_breaths_35 : decode cX10_breaths 35 = .ok (.aload_n 0, 1) := by decide +kernel
theorem dX10_breaths_36 : decode cX10_breaths 36 = .ok (.getfield 28, 3) := by decide +kernel
theorem dX10_breaths_39 : decode cX10_breaths 39 = .ok (.iconst 1, 1) := by decide +kernel
theorem dX10_breaths_40 : decode cX10_breaths 40 = .ok (.iaload, 1) := by decide +kernel
theorem dX10_breaths_41 : decode cX10_breaths 41 = .ok (.if_icmp .gt 11, 3) := by decide +kernel
theorem dX10_breaths_44 : decode cX10_breaths 44 = .ok (.aload_n 0, 1) := by decide +kernel
theorem dX10_breaths_45 : decode cX10_breaths 45 = .ok (.iload_n 1, 1) := by decide +kernel
theorem dX10_breaths_46 : decode cX10_breaths 46 = .ok (.iload_n 2, 1) := by decide +kernel
theorem dX10_breaths_47 : decode cX10_breaths 47 = .ok (.iconst 0, 1) := by decide +kernel
theorem dX10_breaths_48 : decode cX10_breaths 48 = .ok (.iconst 0, 1) := by decide +kernel
theorem dX10_breaths_49 : decode cX10_breaths 49 = .ok (.invokevirtual 110, 3) := by decide +kernel
theorem dX10_breaths_52 : decode cX10_breaths 52 = .ok (.iinc 2 1, 3) := by decide +kernel
theorem dX10_breaths_55 : decode cX10_breaths 55 = .ok (.goto (-53), 3) := by decide +kernel
theorem dX10_breaths_58 : decode cX10_breaths 58 = .ok (.return_, 1) := by decide +kernel
theorem dX10_isPartial_0 : decode cX10_isPartial 0 = .ok (.iload_n 0, 1) := by decide +kernel
theorem dX10_isPartial_1 : decode cX10_isPartial 1 = .ok (.bipush 12, 2) := by decide +kernel
theorem dX10_isPartial_3 : decode cX10_isPartial 3 = .ok (.if_icmp .eq 51, 3) := by decide +kernel
theorem dX10_isPartial_6 : decode cX10_isPartial 6 = .ok (.iload_n 0, 1) := by decide +kernel
theorem dX10_isPartial_7 : decode cX10_isPartial 7 = .ok (.bipush 19, 2) := by decide +kernel
theorem dX10_isPartial_9 : decode cX10_isPartial 9 = .ok (.if_icmp .eq 45, 3) := by decide +kernel
theorem dX10_isPartial_12 : decode cX10_isPartial 12 = .ok (.iload_n 0, 1) := by decide +kernel
theorem dX10_isPartial_13 : decode cX10_isPartial 13 = .ok (.bipush 24, 2) := by decide +kernel
theorem dX10_isPartial_15 : decode cX10_isPartial 15 = .ok (.if_icmp .eq 39, 3) := by decide +kernel
theorem dX10_isPartial_18 : decode cX10_isPartial 18 = .ok (.iload_n 0, 1) := by decide +kernel
theorem dX10_isPartial_19 : decode cX10_isPartial 19 = .ok (.bipush 28, 2) := by decide +kernel
theorem dX10_isPartial_21 : decode cX10_isPartial 21 = .ok (.if_icmp .eq 33, 3) := by decide +kernel
theorem dX10_isPartial_24 : decode cX10_isPartial 24 = .ok (.iload_n 0, 1) := by decide +kernel
theorem dX10_isPartial_25 : decode cX10_isPartial 25 = .ok (.bipush 31, 2) := by decide +kernel
theorem dX10_isPartial_27 : decode cX10_isPartial 27 = .ok (.if_icmp .eq 27, 3) := by decide +kernel
theorem dX10_isPartial_30 : decode cX10_isPartial 30 = .ok (.iload_n 0, 1) := by decide +kernel
theorem dX10_isPartial_31 : decode cX10_isPartial 31 = .ok (.bipush 34, 2) := by decide +kernel
theorem dX10_isPartial_33 : decode cX10_isPartial 33 = .ok (.if_icmp .eq 21, 3) := by decide +kernel
theorem dX10_isPartial_36 : decode cX10_isPartial 36 = .ok (.iload_n 0, 1) := by decide +kernel
theorem dX10_isPartial_37 : decode cX10_isPartial 37 = .ok (.bipush 36, 2) := by decide +kernel
theorem dX10_isPartial_39 : decode cX10_isPartial 39 = .ok (.if_icmp .eq 15, 3) := by decide +kernel
theorem dX10_isPartial_42 : decode cX10_isPartial 42 = .ok (.iload_n 0, 1) := by decide +kernel
theorem dX10_isPartial_43 : decode cX10_isPartial 43 = .ok (.bipush 38, 2) := by decide +kernel
theorem dX10_isPartial_45 : decode cX10_isPartial 45 = .ok (.if_icmp .eq 9, 3) := by decide +kernel
theorem dX10_isPartial_48 : decode cX10_isPartial 48 = .ok (.iload_n 0, 1) := by decide +kernel
theorem dX10_isPartial_49 : decode cX10_isPartial 49 = .ok (.bipush 40, 2) := by decide +kernel
theorem dX10_isPartial_51 : decode cX10_isPartial 51 = .ok (.if_icmp .ne 7, 3) := by decide +kernel
theorem dX10_isPartial_54 : decode cX10_isPartial 54 = .ok (.iconst 1, 1) := by decide +kernel
theorem dX10_isPartial_55 : decode cX10_isPartial 55 = .ok (.goto 4, 3) := by decide +kernel
theorem dX10_isPartial_58 : decode cX10_isPartial 58 = .ok (.iconst 0, 1) := by decide +kernel
theorem dX10_isPartial_59 : decode cX10_isPartial 59 = .ok (.ireturn, 1) := by decide +kernel
theorem dX10_played_0 : decode cX10_played 0 = .ok (.aload_n 0, 1) := by decide +kernel
theorem dX10_played_1 : decode cX10_played 1 = .ok (.getfield 19, 3) := by decide +kernel
theorem dX10_played_4 : decode cX10_played 4 = .ok (.iload_n 1, 1) := by decide +kernel
theorem dX10_played_5 : decode cX10_played 5 = .ok (.iaload, 1) := by decide +kernel
theorem dX10_played_6 : decode cX10_played 6 = .ok (.iconst 2, 1) := by decide +kernel
theorem dX10_played_7 : decode cX10_played 7 = .ok (.if_icmp .ne 16, 3) := by decide +kernel
theorem dX10_played_10 : decode cX10_played 10 = .ok (.aload_n 0, 1) := by decide +kernel
theorem dX10_played_11 : decode cX10_played 11 = .ok (.getfield 22, 3) := by decide +kernel
theorem dX10_played_14 : decode cX10_played 14 = .ok (.iconst 3, 1) := by decide +kernel
theorem dX10_played_15 : decode cX10_played 15 = .ok (.iload_n 1, 1) := by decide +kernel
theorem dX10_played_16 : decode cX10_played 16 = .ok (.imul, 1) := by decide +kernel
theorem dX10_played_17 : decode cX10_played 17 = .ok (.iload_n 2, 1) := by decide +kernel
theorem dX10_played_18 : decode cX10_played 18 = .ok (.iadd, 1) := by decide +kernel
theorem dX10_played_19 : decode cX10_played 19 = .ok (.iaload, 1) := by decide +kernel
theorem dX10_played_20 : decode cX10_played 20 = .ok (.goto 11, 3) := by decide +kernel
theorem dX10_played_23 : decode cX10_played 23 = .ok (.aload_n 0, 1) := by decide +kernel
theorem dX10_played_24 : decode cX10_played 24 = .ok (.getfield 22, 3) := by decide +kernel
theorem dX10_played_27 : decode cX10_played 27 = .ok (.iconst 3, 1) := by decide +kernel
theorem dX10_played_28 : decode cX10_played 28 = .ok (.iload_n 1, 1) := by decide +kernel
theorem dX10_played_29 : decode cX10_played 29 = .ok (.imul, 1) := by decide +kernel
theorem dX10_played_30 : decode cX10_played 30 = .ok (.iaload, 1) := by decide +kernel
theorem dX10_played_31 : decode cX10_played 31 = .ok (.ireturn, 1) := by decide +kernel
theorem dX10_isOther_0 : decode cX10_isOther 0 = .ok (.iconst 1, 1) := by decide +kernel
theorem dX10_isOther_1 : decode cX10_isOther 1 = .ok (.istore_n 3, 1) := by decide +kernel
theorem dX10_isOther_2 : decode cX10_isOther 2 = .ok (.iload_n 1, 1) := by decide +kernel
theorem dX10_isOther_3 : decode cX10_isOther 3 = .ok (.iconst 1, 1) := by decide +kernel
theorem dX10_isOther_4 : decode cX10_isOther 4 = .ok (.iadd, 1) := by decide +kernel
theorem dX10_isOther_5 : decode cX10_isOther 5 = .ok (.istore 4, 2) := by decide +kernel
theorem dX10_isOther_7 : decode cX10_isOther 7 = .ok (.iload 4, 2) := by decide +kernel
theorem dX10_isOther_9 : decode cX10_isOther 9 = .ok (.iload_n 2, 1) := by decide +kernel
theorem dX10_isOther_10 : decode cX10_isOther 10 = .ok (.if_icmp .ge 30, 3) := by decide +kernel
theorem dX10_isOther_13 : decode cX10_isOther 13 = .ok (.iload_n 3, 1) := by decide +kernel
theorem dX10_isOther_14 : decode cX10_isOther 14 = .ok (.ifCond .eq 18, 3) := by decide +kernel
theorem dX10_isOther_17 : decode cX10_isOther 17 = .ok (.aload_n 0, 1) := by decide +kernel
theorem dX10_isOther_18 : decode cX10_isOther 18 = .ok (.getfield 19, 3) := by decide +kernel
theorem dX10_isOther_21 : decode cX10_isOther 21 = .ok (.iload 4, 2) := by decide +kernel
theorem dX10_isOther_23 : decode cX10_isOther 23 = .ok (.iaload, 1) := by decide +kernel
theorem dX10_isOther_24 : decode cX10_isOther 24 = .ok (.iconst 1, 1) := by decide +kernel
theorem dX10_isOther_25 : decode cX10_isOther 25 = .ok (.if_icmp .ne 7, 3) := by decide +kernel
theorem dX10_isOther_28 : decode cX10_isOther 28 = .ok (.iconst 1, 1) := by decide +kernel
theorem dX10_isOther_29 : decode cX10_isOther 29 = .ok (.goto 4, 3) := by decide +kernel
theorem dX10_isOther_32 : decode cX10_isOther 32 = .ok (.iconst 0, 1) := by decide +kernel
theorem dX10_isOther_33 : decode cX10_isOther 33 = .ok (.istore_n 3, 1) := by decide +kernel
theorem dX10_isOther_34 : decode cX10_isOther 34 = .ok (.iinc 4 1, 3) := by decide +kernel
theorem dX10_isOther_37 : decode cX10_isOther 37 = .ok (.goto (-30), 3) := by decide +kernel
theorem dX10_isOther_40 : decode cX10_isOther 40 = .ok (.iload_n 3, 1) := by decide +kernel
theorem dX10_isOther_41 : decode cX10_isOther 41 = .ok (.ireturn, 1) := by decide +kernel
theorem dX10_sticks_0 : decode cX10_sticks 0 = .ok (.aload_n 0, 1) := by decide +kernel
theorem dX10_sticks_1 : decode cX10_sticks 1 = .ok (.getfield 19, 3) := by decide +kernel
theorem dX10_sticks_4 : decode cX10_sticks 4 = .ok (.iload_n 1, 1) := by decide +kernel
theorem dX10_sticks_5 : decode cX10_sticks 5 = .ok (.iaload, 1) := by decide +kernel
theorem dX10_sticks_6 : decode cX10_sticks 6 = .ok (.iconst 2, 1) := by decide +kernel
theorem dX10_sticks_7 : decode cX10_sticks 7 = .ok (.if_icmp .ne 12, 3) := by decide +kernel
theorem dX10_sticks_10 : decode cX10_sticks 10 = .ok (.aload_n 0, 1) := by decide +kernel
theorem dX10_sticks_11 : decode cX10_sticks 11 = .ok (.iload_n 1, 1) := by decide +kernel
theorem dX10_sticks_12 : decode cX10_sticks 12 = .ok (.iconst 2, 1) := by decide +kernel
theorem dX10_sticks_13 : decode cX10_sticks 13 = .ok (.iconst (-1), 1) := by decide +kernel
theorem dX10_sticks_14 : decode cX10_sticks 14 = .ok (.iconst 0, 1) := by decide +kernel
theorem dX10_sticks_15 : decode cX10_sticks 15 = .ok (.invokevirtual 110, 3) := by decide +kernel
theorem dX10_sticks_18 : decode cX10_sticks 18 = .ok (.return_, 1) := by decide +kernel
theorem dX10_sticks_19 : decode cX10_sticks 19 = .ok (.iconst 0, 1) := by decide +kernel
theorem dX10_sticks_20 : decode cX10_sticks 20 = .ok (.istore_n 2, 1) := by decide +kernel
theorem dX10_sticks_21 : decode cX10_sticks 21 = .ok (.iload_n 2, 1) := by decide +kernel
theorem dX10_sticks_22 : decode cX10_sticks 22 = .ok (.iconst 2, 1) := by decide +kernel
theorem dX10_sticks_23 : decode cX10_sticks 23 = .ok (.if_icmp .ge 98, 3) := by decide +kernel
theorem dX10_sticks_26 : decode cX10_sticks 26 = .ok (.iconst (-1), 1) := by decide +kernel
theorem dX10_sticks_27 : decode cX10_sticks 27 = .ok (.istore_n 3, 1) := by decide +kernel
theorem dX10_sticks_28 : decode cX10_sticks 28 = .ok (.iload_n 3, 1) := by decide +kernel
theorem dX10_sticks_29 : decode cX10_sticks 29 = .ok (.iload_n 1, 1) := by decide +kernel
theorem dX10_sticks_30 : decode cX10_sticks 30 = .ok (.if_icmp .ge 85, 3) := by decide +kernel
theorem dX10_sticks_33 : decode cX10_sticks 33 = .ok (.aload_n 0, 1) := by decide +kernel
theorem dX10_sticks_34 : decode cX10_sticks 34 = .ok (.iload_n 3, 1) := by decide +kernel
theorem dX10_sticks_35 : decode cX10_sticks 35 = .ok (.iload_n 1, 1) := by decide +kernel
theorem dX10_sticks_36 : decode cX10_sticks 36 = .ok (.invokevirtual 124, 3) := by decide +kernel
theorem dX10_sticks_39 : decode cX10_sticks 39 = .ok (.ifCond .ne 6, 3) := by decide +kernel
theorem dX10_sticks_42 : decode cX10_sticks 42 = .ok (.goto 67, 3) := by decide +kernel
theorem dX10_sticks_45 : decode cX10_sticks 45 = .ok (.aload_n 0, 1) := by decide +kernel
theorem dX10_sticks_46 : decode cX10_sticks 46 = .ok (.getfield 22, 3) := by decide +kernel
theorem dX10_sticks_49 : decode cX10_sticks 49 = .ok (.iconst 3, 1) := by decide +kernel
theorem dX10_sticks_50 : decode cX10_sticks 50 = .ok (.iload_n 1, 1) := by decide +kernel
theorem dX10_sticks_51 : decode cX10_sticks 51 = .ok (.imul, 1) := by decide +kernel
theorem dX10_sticks_52 : decode cX10_sticks 52 = .ok (.iaload, 1) := by decide +kernel
theorem dX10_sticks_53 : decode cX10_sticks 53 = .ok (.istore 4, 2) := by decide +kernel
theorem dX10_sticks_55 : decode cX10_sticks 55 = .ok (.iload_n 3, 1) := by decide +kernel
theorem dX10_sticks_56 : decode cX10_sticks 56 = .ok (.ifCond .ge 8, 3) := by decide +kernel
theorem dX10_sticks_59 : decode cX10_sticks 59 = .ok (.iload 4, 2) := by decide +kernel
theorem dX10_sticks_61 : decode cX10_sticks 61 = .ok (.goto 11, 3) := by decide +kernel
theorem dX10_sticks_64 : decode cX10_sticks 64 = .ok (.aload_n 0, 1) := by decide +kernel
theorem dX10_sticks_65 : decode cX10_sticks 65 = .ok (.iload_n 3, 1) := by decide +kernel
theorem dX10_sticks_66 : decode cX10_sticks 66 = .ok (.iconst 1, 1) := by decide +kernel
theorem dX10_sticks_67 : decode cX10_sticks 67 = .ok (.iload_n 2, 1) := by decide +kernel
theorem dX10_sticks_68 : decode cX10_sticks 68 = .ok (.isub, 1) := by decide +kernel
theorem dX10_sticks_69 : decode cX10_sticks 69 = .ok (.invokevirtual 128, 3) := by decide +kernel
theorem dX10_sticks_72 : decode cX10_sticks 72 = .ok (.istore 5, 2) := by decide +kernel
theorem dX10_sticks_74 : decode cX10_sticks 74 = .ok (.aload_n 0, 1) := by decide +kernel
theorem dX10_sticks_75 : decode cX10_sticks 75 = .ok (.iload_n 1, 1) := by decide +kernel
theorem dX10_sticks_76 : decode cX10_sticks 76 = .ok (.iload_n 2, 1) := by decide +kernel
theorem dX10_sticks_77 : decode cX10_sticks 77 = .ok (.iload_n 3, 1) := by decide +kernel
theorem dX10_sticks_78 : decode cX10_sticks 78 = .ok (.iload_n 2, 1) := by decide +kernel
theorem dX10_sticks_79 : decode cX10_sticks 79 = .ok (.ifCond .ne 10, 3) := by decide +kernel
theorem dX10_sticks_82 : decode cX10_sticks 82 = .ok (.iload 4, 2) := by decide +kernel
theorem dX10_sticks_84 : decode cX10_sticks 84 = .ok (.iload 5, 2) := by decide +kernel
theorem dX10_sticks_86 : decode cX10_sticks 86 = .ok (.if_icmp .gt 15, 3) := by decide +kernel
theorem dX10_sticks_89 : decode cX10_sticks 89 = .ok (.iload_n 2, 1) := by decide +kernel
theorem dX10_sticks_90 : decode cX10_sticks 90 = .ok (.iconst 1, 1) := by decide +kernel
theorem dX10_sticks_91 : decode cX10_sticks 91 = .ok (.if_icmp .ne 14, 3) := by decide +kernel
theorem dX10_sticks_94 : decode cX10_sticks 94 = .ok (.iload 4, 2) := by decide +kernel
theorem dX10_sticks_96 : decode cX10_sticks 96 = .ok (.iload 5, 2) := by decide +kernel
theorem dX10_sticks_98 : decode cX10_sticks 98 = .ok (.if_icmp .ge 7, 3) := by decide +kernel
theorem dX10_sticks_101 : decode cX10_sticks 101 = .ok (.iconst 4, 1) := by decide +kernel
theorem dX10_sticks_102 : decode cX10_sticks 102 = .ok (.goto 4, 3) := by decide +kernel
theorem dX10_sticks_105 : decode cX10_sticks 105 = .ok (.iconst 0, 1) := by decide +kernel
theorem dX10_sticks_106 : decode cX10_sticks 106 = .ok (.invokevirtual 110, 3) := by decide +kernel
theorem dX10_sticks_109 : decode cX10_sticks 109 = .ok (.iinc 3 1, 3) := by decide +kernel
theorem dX10_sticks_112 : decode cX10_sticks 112 = .ok (.goto (-84), 3) := by decide +kernel
theorem dX10_sticks_115 : decode cX10_sticks 115 = .ok (.iinc 2 1, 3) := by decide +kernel
theorem dX10_sticks_118 : decode cX10_sticks 118 = .ok (.goto (-97), 3) := by decide +kernel
theorem dX10_sticks_121 : decode cX10_sticks 121 = .ok (.return_, 1) := by decide +kernel
theorem dX10_noState_0 : decode cX10_noState 0 = .ok (.iload_n 1, 1) := by decide +kernel
theorem dX10_noState_1 : decode cX10_noState 1 = .ok (.iconst 0, 1) := by decide +kernel
theorem dX10_noState_2 : decode cX10_noState 2 = .ok (.aload_n 0, 1) := by decide +kernel
theorem dX10_noState_3 : decode cX10_noState 3 = .ok (.getfield 67, 3) := by decide +kernel
theorem dX10_noState_6 : decode cX10_noState 6 = .ok (.iconst 1, 1) := by decide +kernel
theorem dX10_noState_7 : decode cX10_noState 7 = .ok (.isub, 1) := by decide +kernel
theorem dX10_noState_8 : decode cX10_noState 8 = .ok (.invokestatic 70, 3) := by decide +kernel
theorem dX10_noState_11 : decode cX10_noState 11 = .ok (.ifCond .eq 17, 3) := by decide +kernel
theorem dX10_noState_14 : decode cX10_noState 14 = .ok (.iload_n 2, 1) := by decide +kernel
theorem dX10_noState_15 : decode cX10_noState 15 = .ok (.ifCond .lt 13, 3) := by decide +kernel
theorem dX10_noState_18 : decode cX10_noState 18 = .ok (.iload_n 2, 1) := by decide +kernel
theorem dX10_noState_19 : decode cX10_noState 19 = .ok (.aload_n 0, 1) := by decide +kernel
theorem dX10_noState_20 : decode cX10_noState 20 = .ok (.getfield 31, 3) := by decide +kernel
theorem dX10_noState_23 : decode cX10_noState 23 = .ok (.iload_n 1, 1) := by decide +kernel
theorem dX10_noState_24 : decode cX10_noState 24 = .ok (.iaload, 1) := by decide +kernel
theorem dX10_noState_25 : decode cX10_noState 25 = .ok (.if_icmp .lt 7, 3) := by decide +kernel
theorem dX10_noState_28 : decode cX10_noState 28 = .ok (.iconst 1, 1) := by decide +kernel
theorem dX10_noState_29 : decode cX10_noState 29 = .ok (.goto 4, 3) := by decide +kernel
theorem dX10_noState_32 : decode cX10_noState 32 = .ok (.iconst 0, 1) := by decide +kernel
theorem dX10_noState_33 : decode cX10_noState 33 = .ok (.ireturn, 1) := by decide +kernel
theorem dX10_states_0 : decode cX10_states 0 = .ok (.aload_n 0, 1) := by decide +kernel
theorem dX10_states_1 : decode cX10_states 1 = .ok (.invokevirtual 131, 3) := by decide +kernel
theorem dX10_states_4 : decode cX10_states 4 = .ok (.iload_n 1, 1) := by decide +kernel
theorem dX10_states_5 : decode cX10_states 5 = .ok (.iconst 0, 1) := by decide +kernel
theorem dX10_states_6 : decode cX10_states 6 = .ok (.aload_n 0, 1) := by decide +kernel
theorem dX10_states_7 : decode cX10_states 7 = .ok (.getfield 67, 3) := by decide +kernel
theorem dX10_states_10 : decode cX10_states 10 = .ok (.iconst 1, 1) := by decide +kernel
theorem dX10_states_11 : decode cX10_states 11 = .ok (.isub, 1) := by decide +kernel
theorem dX10_states_12 : decode cX10_states 12 = .ok (.invokestatic 70, 3) := by decide +kernel
theorem dX10_states_15 : decode cX10_states 15 = .ok (.ifCond .eq 12, 3) := by decide +kernel
theorem dX10_states_18 : decode cX10_states 18 = .ok (.aload_n 0, 1) := by decide +kernel
theorem dX10_states_19 : decode cX10_states 19 = .ok (.getfield 31, 3) := by decide +kernel
theorem dX10_states_22 : decode cX10_states 22 = .ok (.iload_n 1, 1) := by decide +kernel
theorem dX10_states_23 : decode cX10_states 23 = .ok (.iaload, 1) := by decide +kernel
theorem dX10_states_24 : decode cX10_states 24 = .ok (.goto 4, 3) := by decide +kernel
theorem dX10_states_27 : decode cX10_states 27 = .ok (.iconst (-1), 1) := by decide +kernel
theorem dX10_states_28 : decode cX10_states 28 = .ok (.ireturn, 1) := by decide +kernel
theorem dX10_state_0 : decode cX10_state 0 = .ok (.aload_n 0, 1) := by decide +kernel
theorem dX10_state_1 : decode cX10_state 1 = .ok (.invokevirtual 131, 3) := by decide +kernel
theorem dX10_state_4 : decode cX10_state 4 = .ok (.aload_n 0, 1) := by decide +kernel
theorem dX10_state_5 : decode cX10_state 5 = .ok (.iload_n 1, 1) := by decide +kernel
theorem dX10_state_6 : decode cX10_state 6 = .ok (.iload_n 2, 1) := by decide +kernel
theorem dX10_state_7 : decode cX10_state 7 = .ok (.invokevirtual 134, 3) := by decide +kernel
theorem dX10_state_10 : decode cX10_state 10 = .ok (.ifCond .ne 12, 3) := by decide +kernel
theorem dX10_state_13 : decode cX10_state 13 = .ok (.iload_n 3, 1) := by decide +kernel
theorem dX10_state_14 : decode cX10_state 14 = .ok (.iconst 0, 1) := by decide +kernel
theorem dX10_state_15 : decode cX10_state 15 = .ok (.iconst 2, 1) := by decide +kernel
theorem dX10_state_16 : decode cX10_state 16 = .ok (.invokestatic 70, 3) := by decide +kernel
theorem dX10_state_19 : decode cX10_state 19 = .ok (.ifCond .ne 5, 3) := by decide +kernel
theorem dX10_state_22 : decode cX10_state 22 = .ok (.iconst (-1), 1) := by decide +kernel
theorem dX10_state_23 : decode cX10_state 23 = .ok (.ireturn, 1) := by decide +kernel
theorem dX10_state_24 : decode cX10_state 24 = .ok (.bipush 80, 2) := by decide +kernel
theorem dX10_state_26 : decode cX10_state 26 = .ok (.iload_n 1, 1) := by decide +kernel
theorem dX10_state_27 : decode cX10_state 27 = .ok (.imul, 1) := by decide +kernel
theorem dX10_state_28 : decode cX10_state 28 = .ok (.iload_n 2, 1) := by decide +kernel
theorem dX10_state_29 : decode cX10_state 29 = .ok (.iadd, 1) := by decide +kernel
theorem dX10_state_30 : decode cX10_state 30 = .ok (.istore 4, 2) := by decide +kernel
theorem dX10_state_32 : decode cX10_state 32 = .ok (.iload_n 3, 1) := by decide +kernel
theorem dX10_state_33 : decode cX10_state 33 = .ok (.ifCond .ne 13, 3) := by decide +kernel
theorem dX10_state_36 : decode cX10_state 36 = .ok (.aload_n 0, 1) := by decide +kernel
theorem dX10_state_37 : decode cX10_state 37 = .ok (.getfield 40, 3) := by decide +kernel
theorem dX10_state_40 : decode cX10_state 40 = .ok (.iload 4, 2) := by decide +kernel
theorem dX10_state_42 : decode cX10_state 42 = .ok (.iaload, 1) := by decide +kernel
theorem dX10_state_43 : decode cX10_state 43 = .ok (.goto 25, 3) := by decide +kernel
theorem dX10_state_46 : decode cX10_state 46 = .ok (.iload_n 3, 1) := by decide +kernel
theorem dX10_state_47 : decode cX10_state 47 = .ok (.iconst 1, 1) := by decide +kernel
theorem dX10_state_48 : decode cX10_state 48 = .ok (.if_icmp .ne 13, 3) := by decide +kernel
theorem dX10_state_51 : decode cX10_state 51 = .ok (.aload_n 0, 1) := by decide +kernel
theorem dX10_state_52 : decode cX10_state 52 = .ok (.getfield 34, 3) := by decide +kernel
theorem dX10_state_55 : decode cX10_state 55 = .ok (.iload 4, 2) := by decide +kernel
theorem dX10_state_57 : decode cX10_state 57 = .ok (.iaload, 1) := by decide +kernel
theorem dX10_state_58 : decode cX10_state 58 = .ok (.goto 10, 3) := by decide +kernel
theorem dX10_state_61 : decode cX10_state 61 = .ok (.aload_n 0, 1) := by decide +kernel
theorem dX10_state_62 : decode cX10_state 62 = .ok (.getfield 37, 3) := by decide +kernel
theorem dX10_state_65 : decode cX10_state 65 = .ok (.iload 4, 2) := by decide +kernel
theorem dX10_state_67 : decode cX10_state 67 = .ok (.iaload, 1) := by decide +kernel
theorem dX10_state_68 : decode cX10_state 68 = .ok (.ireturn, 1) := by decide +kernel
theorem dX10_moved_0 : decode cX10_moved 0 = .ok (.iload_n 1, 1) := by decide +kernel
theorem dX10_moved_1 : decode cX10_moved 1 = .ok (.aload_n 0, 1) := by decide +kernel
theorem dX10_moved_2 : decode cX10_moved 2 = .ok (.getfield 28, 3) := by decide +kernel
theorem dX10_moved_5 : decode cX10_moved 5 = .ok (.iconst 0, 1) := by decide +kernel
theorem dX10_moved_6 : decode cX10_moved 6 = .ok (.iaload, 1) := by decide +kernel
theorem dX10_moved_7 : decode cX10_moved 7 = .ok (.imul, 1) := by decide +kernel
theorem dX10_moved_8 : decode cX10_moved 8 = .ok (.iload_n 2, 1) := by decide +kernel
theorem dX10_moved_9 : decode cX10_moved 9 = .ok (.if_icmp .le 8, 3) := by decide +kernel
theorem dX10_moved_12 : decode cX10_moved 12 = .ok (.bipush (-2), 2) := by decide +kernel
theorem dX10_moved_14 : decode cX10_moved 14 = .ok (.goto 4, 3) := by decide +kernel
theorem dX10_moved_17 : decode cX10_moved 17 = .ok (.iload_n 3, 1) := by decide +kernel
theorem dX10_moved_18 : decode cX10_moved 18 = .ok (.ireturn, 1) := by decide +kernel
theorem dX10_stepOf_0 : decode cX10_stepOf 0 = .ok (.bipush 80, 2) := by decide +kernel
theorem dX10_stepOf_2 : decode cX10_stepOf 2 = .ok (.iload_n 1, 1) := by decide +kernel
theorem dX10_stepOf_3 : decode cX10_stepOf 3 = .ok (.imul, 1) := by decide +kernel
theorem dX10_stepOf_4 : decode cX10_stepOf 4 = .ok (.iload_n 2, 1) := by decide +kernel
theorem dX10_stepOf_5 : decode cX10_stepOf 5 = .ok (.iadd, 1) := by decide +kernel
theorem dX10_stepOf_6 : decode cX10_stepOf 6 = .ok (.istore 5, 2) := by decide +kernel
theorem dX10_stepOf_8 : decode cX10_stepOf 8 = .ok (.bipush 80, 2) := by decide +kernel
theorem dX10_stepOf_10 : decode cX10_stepOf 10 = .ok (.iload_n 3, 1) := by decide +kernel
theorem dX10_stepOf_11 : decode cX10_stepOf 11 = .ok (.imul, 1) := by decide +kernel
theorem dX10_stepOf_12 : decode cX10_stepOf 12 = .ok (.iload 4, 2) := by decide +kernel
theorem dX10_stepOf_14 : decode cX10_stepOf 14 = .ok (.iadd, 1) := by decide +kernel
theorem dX10_stepOf_15 : decode cX10_stepOf 15 = .ok (.istore 6, 2) := by decide +kernel
theorem dX10_stepOf_17 : decode cX10_stepOf 17 = .ok (.aload_n 0, 1) := by decide +kernel
theorem dX10_stepOf_18 : decode cX10_stepOf 18 = .ok (.getfield 13, 3) := by decide +kernel
theorem dX10_stepOf_21 : decode cX10_stepOf 21 = .ok (.iload_n 3, 1) := by decide +kernel
theorem dX10_stepOf_22 : decode cX10_stepOf 22 = .ok (.iaload, 1) := by decide +kernel
theorem dX10_stepOf_23 : decode cX10_stepOf 23 = .ok (.aload_n 0, 1) := by decide +kernel
theorem dX10_stepOf_24 : decode cX10_stepOf 24 = .ok (.getfield 13, 3) := by decide +kernel
theorem dX10_stepOf_27 : decode cX10_stepOf 27 = .ok (.iload_n 1, 1) := by decide +kernel
theorem dX10_stepOf_28 : decode cX10_stepOf 28 = .ok (.iaload, 1) := by decide +kernel
theorem dX10_stepOf_29 : decode cX10_stepOf 29 = .ok (.isub, 1) := by decide +kernel
theorem dX10_stepOf_30 : decode cX10_stepOf 30 = .ok (.istore 7, 2) := by decide +kernel
theorem dX10_stepOf_32 : decode cX10_stepOf 32 = .ok (.aload_n 0, 1) := by decide +kernel
theorem dX10_stepOf_33 : decode cX10_stepOf 33 = .ok (.getfield 63, 3) := by decide +kernel
theorem dX10_stepOf_36 : decode cX10_stepOf 36 = .ok (.tableswitch 237 0 3 #[32, 136, 186, 207], 32) := by decide +kernel
theorem dX10_stepOf_68 : decode cX10_stepOf 68 = .ok (.aload_n 0, 1) := by decide +kernel
theorem dX10_stepOf_69 : decode cX10_stepOf 69 = .ok (.getfield 19, 3) := by decide +kernel
theorem dX10_stepOf_72 : decode cX10_stepOf 72 = .ok (.iload_n 1, 1) := by decide +kernel
theorem dX10_stepOf_73 : decode cX10_stepOf 73 = .ok (.iaload, 1) := by decide +kernel
theorem dX10_stepOf_74 : decode cX10_stepOf 74 = .ok (.iconst 1, 1) := by decide +kernel
theorem dX10_stepOf_75 : decode cX10_stepOf 75 = .ok (.if_icmp .ne 53, 3) := by decide +kernel
theorem dX10_stepOf_78 : decode cX10_stepOf 78 = .ok (.aload_n 0, 1) := by decide +kernel
theorem dX10_stepOf_79 : decode cX10_stepOf 79 = .ok (.getfield 19, 3) := by decide +kernel
theorem dX10_stepOf_82 : decode cX10_stepOf 82 = .ok (.iload_n 3, 1) := by decide +kernel
theorem dX10_stepOf_83 : decode cX10_stepOf 83 = .ok (.iaload, 1) := by decide +kernel
theorem dX10_stepOf_84 : decode cX10_stepOf 84 = .ok (.iconst 1, 1) := by decide +kernel
theorem dX10_stepOf_85 : decode cX10_stepOf 85 = .ok (.if_icmp .ne 43, 3) := by decide +kernel
theorem dX10_stepOf_88 : decode cX10_stepOf 88 = .ok (.aload_n 0, 1) := by decide +kernel
theorem dX10_stepOf_89 : decode cX10_stepOf 89 = .ok (.getfield 22, 3) := by decide +kernel
theorem dX10_stepOf_92 : decode cX10_stepOf 92 = .ok (.iconst 3, 1) := by decide +kernel
theorem dX10_stepOf_93 : decode cX10_stepOf 93 = .ok (.iload_n 1, 1) := by decide +kernel
theorem dX10_stepOf_94 : decode cX10_stepOf 94 = .ok (.imul, 1) := by decide +kernel
theorem dX10_stepOf_95 : decode cX10_stepOf 95 = .ok (.iaload, 1) := by decide +kernel
theorem dX10_stepOf_96 : decode cX10_stepOf 96 = .ok (.aload_n 0, 1) := by decide +kernel
theorem dX10_stepOf_97 : decode cX10_stepOf 97 = .ok (.getfield 22, 3) := by decide +kernel
theorem dX10_stepOf_100 : decode cX10_stepOf 100 = .ok (.iconst 3, 1) := by decide +kernel
theorem dX10_stepOf_101 : decode cX10_stepOf 101 = .ok (.iload_n 3, 1) := by decide +kernel
theorem dX10_stepOf_102 : decode cX10_stepOf 102 = .ok (.imul, 1) := by decide +kernel
theorem dX10_stepOf_103 : decode cX10_stepOf 103 = .ok (.iaload, 1) := by decide +kernel
theorem dX10_stepOf_104 : decode cX10_stepOf 104 = .ok (.if_icmp .eq 24, 3) := by decide +kernel
theorem dX10_stepOf_107 : decode cX10_stepOf 107 = .ok (.aload_n 0, 1) := by decide +kernel
theorem dX10_stepOf_108 : decode cX10_stepOf 108 = .ok (.getfield 34, 3) := by decide +kernel
theorem dX10_stepOf_111 : decode cX10_stepOf 111 = .ok (.iload 5, 2) := by decide +kernel
theorem dX10_stepOf_113 : decode cX10_stepOf 113 = .ok (.iaload, 1) := by decide +kernel
theorem dX10_stepOf_114 : decode cX10_stepOf 114 = .ok (.aload_n 0, 1) := by decide +kernel
theorem dX10_stepOf_115 : decode cX10_stepOf 115 = .ok (.getfield 34, 3) := by decide +kernel
theorem dX10_stepOf_118 : decode cX10_stepOf 118 = .ok (.iload 6, 2) := by decide +kernel
theorem dX10_stepOf_120 : decode cX10_stepOf 120 = .ok (.iaload, 1) := by decide +kernel
theorem dX10_stepOf_121 : decode cX10_stepOf 121 = .ok (.if_icmp .ne 7, 3) := by decide +kernel
theorem dX10_stepOf_124 : decode cX10_stepOf 124 = .ok (.iconst 1, 1) := by decide +kernel
theorem dX10_stepOf_125 : decode cX10_stepOf 125 = .ok (.goto 4, 3) := by decide +kernel
theorem dX10_stepOf_128 : decode cX10_stepOf 128 = .ok (.iconst 0, 1) := by decide +kernel
theorem dX10_stepOf_129 : decode cX10_stepOf 129 = .ok (.istore 8, 2) := by decide +kernel
theorem dX10_stepOf_131 : decode cX10_stepOf 131 = .ok (.aload_n 0, 1) := by decide +kernel
theorem dX10_stepOf_132 : decode cX10_stepOf 132 = .ok (.getfield 37, 3) := by decide +kernel
theorem dX10_stepOf_135 : decode cX10_stepOf 135 = .ok (.iload 5, 2) := by decide +kernel
theorem dX10_stepOf_137 : decode cX10_stepOf 137 = .ok (.iaload, 1) := by decide +kernel
theorem dX10_stepOf_138 : decode cX10_stepOf 138 = .ok (.aload_n 0, 1) := by decide +kernel
theorem dX10_stepOf_139 : decode cX10_stepOf 139 = .ok (.getfield 37, 3) := by decide +kernel
theorem dX10_stepOf_142 : decode cX10_stepOf 142 = .ok (.iload 6, 2) := by decide +kernel
theorem dX10_stepOf_144 : decode cX10_stepOf 144 = .ok (.iaload, 1) := by decide +kernel
theorem dX10_stepOf_145 : decode cX10_stepOf 145 = .ok (.invokestatic 121, 3) := by decide +kernel
theorem dX10_stepOf_148 : decode cX10_stepOf 148 = .ok (.istore 9, 2) := by decide +kernel
theorem dX10_stepOf_150 : decode cX10_stepOf 150 = .ok (.aload_n 0, 1) := by decide +kernel
theorem dX10_stepOf_151 : decode cX10_stepOf 151 = .ok (.iload 9, 2) := by decide +kernel
theorem dX10_stepOf_153 : decode cX10_stepOf 153 = .ok (.iload 7, 2) := by decide +kernel
theorem dX10_stepOf_155 : decode cX10_stepOf 155 = .ok (.iload 9, 2) := by decide +kernel
theorem dX10_stepOf_157 : decode cX10_stepOf 157 = .ok (.iload 8, 2) := by decide +kernel
theorem dX10_stepOf_159 : decode cX10_stepOf 159 = .ok (.ifCond .eq 7, 3) := by decide +kernel
theorem dX10_stepOf_162 : decode cX10_stepOf 162 = .ok (.iconst 3, 1) := by decide +kernel
theorem dX10_stepOf_163 : decode cX10_stepOf 163 = .ok (.goto 4, 3) := by decide +kernel
theorem dX10_stepOf_166 : decode cX10_stepOf 166 = .ok (.iconst 0, 1) := by decide +kernel
theorem dX10_stepOf_167 : decode cX10_stepOf 167 = .ok (.iadd, 1) := by decide +kernel
theorem dX10_stepOf_168 : decode cX10_stepOf 168 = .ok (.invokevirtual 137, 3) := by decide +kernel
theorem dX10_stepOf_171 : decode cX10_stepOf 171 = .ok (.ireturn, 1) := by decide +kernel
theorem dX10_stepOf_172 : decode cX10_stepOf 172 = .ok (.aload_n 0, 1) := by decide +kernel
theorem dX10_stepOf_173 : decode cX10_stepOf 173 = .ok (.getfield 34, 3) := by decide +kernel
theorem dX10_stepOf_176 : decode cX10_stepOf 176 = .ok (.iload 5, 2) := by decide +kernel
theorem dX10_stepOf_178 : decode cX10_stepOf 178 = .ok (.iaload, 1) := by decide +kernel
theorem dX10_stepOf_179 : decode cX10_stepOf 179 = .ok (.aload_n 0, 1) := by decide +kernel
theorem dX10_stepOf_180 : decode cX10_stepOf 180 = .ok (.getfield 34, 3) := by decide +kernel
theorem dX10_stepOf_183 : decode cX10_stepOf 183 = .ok (.iload 6, 2) := by decide +kernel
theorem dX10_stepOf_185 : decode cX10_stepOf 185 = .ok (.iaload, 1) := by decide +kernel
theorem dX10_stepOf_186 : decode cX10_stepOf 186 = .ok (.invokestatic 121, 3) := by decide +kernel
theorem dX10_stepOf_189 : decode cX10_stepOf 189 = .ok (.istore 10, 2) := by decide +kernel
theorem dX10_stepOf_191 : decode cX10_stepOf 191 = .ok (.aload_n 0, 1) := by decide +kernel
theorem dX10_stepOf_192 : decode cX10_stepOf 192 = .ok (.iload 10, 2) := by decide +kernel
theorem dX10_stepOf_194 : decode cX10_stepOf 194 = .ok (.iload 7, 2) := by decide +kernel
theorem dX10_stepOf_196 : decode cX10_stepOf 196 = .ok (.iconst 2, 1) := by decide +kernel
theorem dX10_stepOf_197 : decode cX10_stepOf 197 = .ok (.iload 10, 2) := by decide +kernel
theorem dX10_stepOf_199 : decode cX10_stepOf 199 = .ok (.imul, 1) := by decide +kernel
theorem dX10_stepOf_200 : decode cX10_stepOf 200 = .ok (.aload_n 0, 1) := by decide +kernel
theorem dX10_stepOf_201 : decode cX10_stepOf 201 = .ok (.getfield 37, 3) := by decide +kernel
theorem dX10_stepOf_204 : decode cX10_stepOf 204 = .ok (.iload 5, 2) := by decide +kernel
theorem dX10_stepOf_206 : decode cX10_stepOf 206 = .ok (.iaload, 1) := by decide +kernel
theorem dX10_stepOf_207 : decode cX10_stepOf 207 = .ok (.aload_n 0, 1) := by decide +kernel
theorem dX10_stepOf_208 : decode cX10_stepOf 208 = .ok (.getfield 37, 3) := by decide +kernel
theorem dX10_stepOf_211 : decode cX10_stepOf 211 = .ok (.iload 6, 2) := by decide +kernel
theorem dX10_stepOf_213 : decode cX10_stepOf 213 = .ok (.iaload, 1) := by decide +kernel
theorem dX10_stepOf_214 : decode cX10_stepOf 214 = .ok (.invokestatic 121, 3) := by decide +kernel
theorem dX10_stepOf_217 : decode cX10_stepOf 217 = .ok (.iadd, 1) := by decide +kernel
theorem dX10_stepOf_218 : decode cX10_stepOf 218 = .ok (.invokevirtual 137, 3) := by decide +kernel
theorem dX10_stepOf_221 : decode cX10_stepOf 221 = .ok (.ireturn, 1) := by decide +kernel
theorem dX10_stepOf_222 : decode cX10_stepOf 222 = .ok (.aload_n 0, 1) := by decide +kernel
theorem dX10_stepOf_223 : decode cX10_stepOf 223 = .ok (.iload_n 1, 1) := by decide +kernel
theorem dX10_stepOf_224 : decode cX10_stepOf 224 = .ok (.aload_n 0, 1) := by decide +kernel
theorem dX10_stepOf_225 : decode cX10_stepOf 225 = .ok (.getfield 34, 3) := by decide +kernel
theorem dX10_stepOf_228 : decode cX10_stepOf 228 = .ok (.iload 5, 2) := by decide +kernel
theorem dX10_stepOf_230 : decode cX10_stepOf 230 = .ok (.iaload, 1) := by decide +kernel
theorem dX10_stepOf_231 : decode cX10_stepOf 231 = .ok (.iload_n 3, 1) := by decide +kernel
theorem dX10_stepOf_232 : decode cX10_stepOf 232 = .ok (.aload_n 0, 1) := by decide +kernel
theorem dX10_stepOf_233 : decode cX10_stepOf 233 = .ok (.getfield 34, 3) := by decide +kernel
theorem dX10_stepOf_236 : decode cX10_stepOf 236 = .ok (.iload 6, 2) := by decide +kernel
theorem dX10_stepOf_238 : decode cX10_stepOf 238 = .ok (.iaload, 1) := by decide +kernel
theorem dX10_stepOf_239 : decode cX10_stepOf 239 = .ok (.invokevirtual 140, 3) := by decide +kernel
theorem dX10_stepOf_242 : decode cX10_stepOf 242 = .ok (.ireturn, 1) := by decide +kernel
theorem dX10_stepOf_243 : decode cX10_stepOf 243 = .ok (.aload_n 0, 1) := by decide +kernel
theorem dX10_stepOf_244 : decode cX10_stepOf 244 = .ok (.getfield 34, 3) := by decide +kernel
theorem dX10_stepOf_247 : decode cX10_stepOf 247 = .ok (.iload 5, 2) := by decide +kernel
theorem dX10_stepOf_249 : decode cX10_stepOf 249 = .ok (.iaload, 1) := by decide +kernel
theorem dX10_stepOf_250 : decode cX10_stepOf 250 = .ok (.aload_n 0, 1) := by decide +kernel
theorem dX10_stepOf_251 : decode cX10_stepOf 251 = .ok (.getfield 34, 3) := by decide +kernel
theorem dX10_stepOf_254 : decode cX10_stepOf 254 = .ok (.iload 6, 2) := by decide +kernel
theorem dX10_stepOf_256 : decode cX10_stepOf 256 = .ok (.iaload, 1) := by decide +kernel
theorem dX10_stepOf_257 : decode cX10_stepOf 257 = .ok (.invokestatic 121, 3) := by decide +kernel
theorem dX10_stepOf_260 : decode cX10_stepOf 260 = .ok (.istore 11, 2) := by decide +kernel
theorem dX10_stepOf_262 : decode cX10_stepOf 262 = .ok (.aload_n 0, 1) := by decide +kernel
theorem dX10_stepOf_263 : decode cX10_stepOf 263 = .ok (.iload 11, 2) := by decide +kernel
theorem dX10_stepOf_265 : decode cX10_stepOf 265 = .ok (.iload 7, 2) := by decide +kernel
theorem dX10_stepOf_267 : decode cX10_stepOf 267 = .ok (.iload 11, 2) := by decide +kernel
theorem dX10_stepOf_269 : decode cX10_stepOf 269 = .ok (.invokevirtual 137, 3) := by decide +kernel
theorem dX10_stepOf_272 : decode cX10_stepOf 272 = .ok (.ireturn, 1) := by decide +kernel
theorem dX10_stepOf_273 : decode cX10_stepOf 273 = .ok (.aload_n 0, 1) := by decide +kernel
theorem dX10_stepOf_274 : decode cX10_stepOf 274 = .ok (.iload_n 1, 1) := by decide +kernel
theorem dX10_stepOf_275 : decode cX10_stepOf 275 = .ok (.iload 5, 2) := by decide +kernel
theorem dX10_stepOf_277 : decode cX10_stepOf 277 = .ok (.iload_n 3, 1) := by decide +kernel
theorem dX10_stepOf_278 : decode cX10_stepOf 278 = .ok (.iload 6, 2) := by decide +kernel
theorem dX10_stepOf_280 : decode cX10_stepOf 280 = .ok (.invokevirtual 144, 3) := by decide +kernel
theorem dX10_stepOf_283 : decode cX10_stepOf 283 = .ok (.ireturn, 1) := by decide +kernel
theorem dX10_breathed_0 : decode cX10_breathed 0 = .ok (.iload_n 2, 1) := by decide +kernel
theorem dX10_breathed_1 : decode cX10_breathed 1 = .ok (.iload 4, 2) := by decide +kernel
theorem dX10_breathed_3 : decode cX10_breathed 3 = .ok (.if_icmp .ne 5, 3) := by decide +kernel
theorem dX10_breathed_6 : decode cX10_breathed 6 = .ok (.iconst 0, 1) := by decide +kernel
theorem dX10_breathed_7 : decode cX10_breathed 7 = .ok (.ireturn, 1) := by decide +kernel
theorem dX10_breathed_8 : decode cX10_breathed 8 = .ok (.aload_n 0, 1) := by decide +kernel
theorem dX10_breathed_9 : decode cX10_breathed 9 = .ok (.getfield 28, 3) := by decide +kernel
theorem dX10_breathed_12 : decode cX10_breathed 12 = .ok (.iconst 2, 1) := by decide +kernel
theorem dX10_breathed_13 : decode cX10_breathed 13 = .ok (.iaload, 1) := by decide +kernel
theorem dX10_breathed_14 : decode cX10_breathed 14 = .ok (.aload_n 0, 1) := by decide +kernel
theorem dX10_breathed_15 : decode cX10_breathed 15 = .ok (.getfield 13, 3) := by decide +kernel
theorem dX10_breathed_18 : decode cX10_breathed 18 = .ok (.iload_n 3, 1) := by decide +kernel
theorem dX10_breathed_19 : decode cX10_breathed 19 = .ok (.iaload, 1) := by decide +kernel
theorem dX10_breathed_20 : decode cX10_breathed 20 = .ok (.aload_n 0, 1) := by decide +kernel
theorem dX10_breathed_21 : decode cX10_breathed 21 = .ok (.getfield 13, 3) := by decide +kernel
theorem dX10_breathed_24 : decode cX10_breathed 24 = .ok (.iload_n 1, 1) := by decide +kernel
theorem dX10_breathed_25 : decode cX10_breathed 25 = .ok (.iaload, 1) := by decide +kernel
theorem dX10_breathed_26 : decode cX10_breathed 26 = .ok (.isub, 1) := by decide +kernel
theorem dX10_breathed_27 : decode cX10_breathed 27 = .ok (.aload_n 0, 1) := by decide +kernel
theorem dX10_breathed_28 : decode cX10_breathed 28 = .ok (.getfield 16, 3) := by decide +kernel
theorem dX10_breathed_31 : decode cX10_breathed 31 = .ok (.iload_n 1, 1) := by decide +kernel
theorem dX10_breathed_32 : decode cX10_breathed 32 = .ok (.iaload, 1) := by decide +kernel
theorem dX10_breathed_33 : decode cX10_breathed 33 = .ok (.isub, 1) := by decide +kernel
theorem dX10_breathed_34 : decode cX10_breathed 34 = .ok (.isub, 1) := by decide +kernel
theorem dX10_breathed_35 : decode cX10_breathed 35 = .ok (.istore 5, 2) := by decide +kernel
theorem dX10_breathed_37 : decode cX10_breathed 37 = .ok (.iload 4, 2) := by decide +kernel
theorem dX10_breathed_39 : decode cX10_breathed 39 = .ok (.iload_n 3, 1) := by decide +kernel
theorem dX10_breathed_40 : decode cX10_breathed 40 = .ok (.if_icmp .ne 14, 3) := by decide +kernel
theorem dX10_breathed_43 : decode cX10_breathed 43 = .ok (.iload 5, 2) := by decide +kernel
theorem dX10_breathed_45 : decode cX10_breathed 45 = .ok (.aload_n 0, 1) := by decide +kernel
theorem dX10_breathed_46 : decode cX10_breathed 46 = .ok (.getfield 16, 3) := by decide +kernel
theorem dX10_breathed_49 : decode cX10_breathed 49 = .ok (.iload_n 1, 1) := by decide +kernel
theorem dX10_breathed_50 : decode cX10_breathed 50 = .ok (.iaload, 1) := by decide +kernel
theorem dX10_breathed_51 : decode cX10_breathed 51 = .ok (.if_icmp .lt 6, 3) := by decide +kernel
theorem dX10_breathed_54 : decode cX10_breathed 54 = .ok (.bipush (-2), 2) := by decide +kernel
theorem dX10_breathed_56 : decode cX10_breathed 56 = .ok (.ireturn, 1) := by decide +kernel
theorem dX10_breathed_57 : decode cX10_breathed 57 = .ok (.iconst 1, 1) := by decide +kernel
theorem dX10_breathed_58 : decode cX10_breathed 58 = .ok (.iload 5, 2) := by decide +kernel
theorem dX10_breathed_60 : decode cX10_breathed 60 = .ok (.ifCond .le 10, 3) := by decide +kernel
theorem dX10_breathed_63 : decode cX10_breathed 63 = .ok (.iconst 2, 1) := by decide +kernel
theorem dX10_breathed_64 : decode cX10_breathed 64 = .ok (.iload 5, 2) := by decide +kernel
theorem dX10_breathed_66 : decode cX10_breathed 66 = .ok (.imul, 1) := by decide +kernel
theorem dX10_breathed_67 : decode cX10_breathed 67 = .ok (.goto 4, 3) := by decide +kernel
theorem dX10_breathed_70 : decode cX10_breathed 70 = .ok (.iconst 0, 1) := by decide +kernel
theorem dX10_breathed_71 : decode cX10_breathed 71 = .ok (.iadd, 1) := by decide +kernel
theorem dX10_breathed_72 : decode cX10_breathed 72 = .ok (.ireturn, 1) := by decide +kernel
theorem dX10_latest_0 : decode cX10_latest 0 = .ok (.aload_n 0, 1) := by decide +kernel
theorem dX10_latest_1 : decode cX10_latest 1 = .ok (.getfield 34, 3) := by decide +kernel
theorem dX10_latest_4 : decode cX10_latest 4 = .ok (.iload_n 2, 1) := by decide +kernel
theorem dX10_latest_5 : decode cX10_latest 5 = .ok (.iaload, 1) := by decide +kernel
theorem dX10_latest_6 : decode cX10_latest 6 = .ok (.iconst 2, 1) := by decide +kernel
theorem dX10_latest_7 : decode cX10_latest 7 = .ok (.if_icmp .eq 13, 3) := by decide +kernel
theorem dX10_latest_10 : decode cX10_latest 10 = .ok (.aload_n 0, 1) := by decide +kernel
theorem dX10_latest_11 : decode cX10_latest 11 = .ok (.getfield 34, 3) := by decide +kernel
theorem dX10_latest_14 : decode cX10_latest 14 = .ok (.iload_n 2, 1) := by decide +kernel
theorem dX10_latest_15 : decode cX10_latest 15 = .ok (.iaload, 1) := by decide +kernel
theorem dX10_latest_16 : decode cX10_latest 16 = .ok (.iload_n 3, 1) := by decide +kernel
theorem dX10_latest_17 : decode cX10_latest 17 = .ok (.if_icmp .ne 7, 3) := by decide +kernel
theorem dX10_latest_20 : decode cX10_latest 20 = .ok (.iload_n 1, 1) := by decide +kernel
theorem dX10_latest_21 : decode cX10_latest 21 = .ok (.goto 9, 3) := by decide +kernel
theorem dX10_latest_24 : decode cX10_latest 24 = .ok (.aload_n 0, 1) := by decide +kernel
theorem dX10_latest_25 : decode cX10_latest 25 = .ok (.getfield 37, 3) := by decide +kernel
theorem dX10_latest_28 : decode cX10_latest 28 = .ok (.iload_n 2, 1) := by decide +kernel
theorem dX10_latest_29 : decode cX10_latest 29 = .ok (.iaload, 1) := by decide +kernel
theorem dX10_latest_30 : decode cX10_latest 30 = .ok (.ireturn, 1) := by decide +kernel
theorem dX10_struck_0 : decode cX10_struck 0 = .ok (.iconst 0, 1) := by decide +kernel
theorem dX10_struck_1 : decode cX10_struck 1 = .ok (.istore 5, 2) := by decide +kernel
theorem dX10_struck_3 : decode cX10_struck 3 = .ok (.iconst 0, 1) := by decide +kernel
theorem dX10_struck_4 : decode cX10_struck 4 = .ok (.istore 6, 2) := by decide +kernel
theorem dX10_struck_6 : decode cX10_struck 6 = .ok (.iload 6, 2) := by decide +kernel
theorem dX10_struck_8 : decode cX10_struck 8 = .ok (.iconst 2, 1) := by decide +kernel
theorem dX10_struck_9 : decode cX10_struck 9 = .ok (.if_icmp .ge 156, 3) := by decide +kernel
theorem dX10_struck_12 : decode cX10_struck 12 = .ok (.aload_n 0, 1) := by decide +kernel
theorem dX10_struck_13 : decode cX10_struck 13 = .ok (.iload_n 1, 1) := by decide +kernel
theorem dX10_struck_14 : decode cX10_struck 14 = .ok (.iload_n 2, 1) := by decide +kernel
theorem dX10_struck_15 : decode cX10_struck 15 = .ok (.iload 6, 2) := by decide +kernel
theorem dX10_struck_17 : decode cX10_struck 17 = .ok (.invokevirtual 147, 3) := by decide +kernel
theorem dX10_struck_20 : decode cX10_struck 20 = .ok (.istore 7, 2) := by decide +kernel
theorem dX10_struck_22 : decode cX10_struck 22 = .ok (.aload_n 0, 1) := by decide +kernel
theorem dX10_struck_23 : decode cX10_struck 23 = .ok (.getfield 34, 3) := by decide +kernel
theorem dX10_struck_26 : decode cX10_struck 26 = .ok (.iload 4, 2) := by decide +kernel
theorem dX10_struck_28 : decode cX10_struck 28 = .ok (.iaload, 1) := by decide +kernel
theorem dX10_struck_29 : decode cX10_struck 29 = .ok (.iconst 2, 1) := by decide +kernel
theorem dX10_struck_30 : decode cX10_struck 30 = .ok (.if_icmp .eq 30, 3) := by decide +kernel
theorem dX10_struck_33 : decode cX10_struck 33 = .ok (.aload_n 0, 1) := by decide +kernel
theorem dX10_struck_34 : decode cX10_struck 34 = .ok (.getfield 34, 3) := by decide +kernel
theorem dX10_struck_37 : decode cX10_struck 37 = .ok (.iload 4, 2) := by decide +kernel
theorem dX10_struck_39 : decode cX10_struck 39 = .ok (.iaload, 1) := by decide +kernel
theorem dX10_struck_40 : decode cX10_struck 40 = .ok (.iload 6, 2) := by decide +kernel
theorem dX10_struck_42 : decode cX10_struck 42 = .ok (.if_icmp .eq 18, 3) := by decide +kernel
theorem dX10_struck_45 : decode cX10_struck 45 = .ok (.aload_n 0, 1) := by decide +kernel
theorem dX10_struck_46 : decode cX10_struck 46 = .ok (.getfield 37, 3) := by decide +kernel
theorem dX10_struck_49 : decode cX10_struck 49 = .ok (.iload 4, 2) := by decide +kernel
theorem dX10_struck_51 : decode cX10_struck 51 = .ok (.iaload, 1) := by decide +kernel
theorem dX10_struck_52 : decode cX10_struck 52 = .ok (.iload 7, 2) := by decide +kernel
theorem dX10_struck_54 : decode cX10_struck 54 = .ok (.if_icmp .eq 105, 3) := by decide +kernel
theorem dX10_struck_57 : decode cX10_struck 57 = .ok (.bipush (-2), 2) := by decide +kernel
theorem dX10_struck_59 : decode cX10_struck 59 = .ok (.ireturn, 1) := by decide +kernel
theorem dX10_struck_60 : decode cX10_struck 60 = .ok (.iload 7, 2) := by decide +kernel
theorem dX10_struck_62 : decode cX10_struck 62 = .ok (.ifCond .ge 7, 3) := by decide +kernel
theorem dX10_struck_65 : decode cX10_struck 65 = .ok (.iconst 0, 1) := by decide +kernel
theorem dX10_struck_66 : decode cX10_struck 66 = .ok (.goto 21, 3) := by decide +kernel
theorem dX10_struck_69 : decode cX10_struck 69 = .ok (.aload_n 0, 1) := by decide +kernel
theorem dX10_struck_70 : decode cX10_struck 70 = .ok (.iload 7, 2) := by decide +kernel
theorem dX10_struck_72 : decode cX10_struck 72 = .ok (.iload 6, 2) := by decide +kernel
theorem dX10_struck_74 : decode cX10_struck 74 = .ok (.invokevirtual 128, 3) := by decide +kernel
theorem dX10_struck_77 : decode cX10_struck 77 = .ok (.aload_n 0, 1) := by decide +kernel
theorem dX10_struck_78 : decode cX10_struck 78 = .ok (.iload_n 3, 1) := by decide +kernel
theorem dX10_struck_79 : decode cX10_struck 79 = .ok (.iload 6, 2) := by decide +kernel
theorem dX10_struck_81 : decode cX10_struck 81 = .ok (.invokevirtual 128, 3) := by decide +kernel
theorem dX10_struck_84 : decode cX10_struck 84 = .ok (.invokestatic 121, 3) := by decide +kernel
theorem dX10_struck_87 : decode cX10_struck 87 = .ok (.istore 8, 2) := by decide +kernel
theorem dX10_struck_89 : decode cX10_struck 89 = .ok (.iload 7, 2) := by decide +kernel
theorem dX10_struck_91 : decode cX10_struck 91 = .ok (.ifCond .lt 32, 3) := by decide +kernel
theorem dX10_struck_94 : decode cX10_struck 94 = .ok (.iload 8, 2) := by decide +kernel
theorem dX10_struck_96 : decode cX10_struck 96 = .ok (.aload_n 0, 1) := by decide +kernel
theorem dX10_struck_97 : decode cX10_struck 97 = .ok (.getfield 28, 3) := by decide +kernel
theorem dX10_struck_100 : decode cX10_struck 100 = .ok (.iconst 0, 1) := by decide +kernel
theorem dX10_struck_101 : decode cX10_struck 101 = .ok (.iaload, 1) := by decide +kernel
theorem dX10_struck_102 : decode cX10_struck 102 = .ok (.imul, 1) := by decide +kernel
end
section
theorem dX10_struck_103 : decode cX10_struck 103 = .ok (.aload_n 0, 1) := by decide +kernel
theorem dX10_struck_104 : decode cX10_struck 104 = .ok (.getfield 13, 3) := by decide +kernel
theorem dX10_struck_107 : decode cX10_struck 107 = .ok (.iload_n 3, 1) := by decide +kernel
theorem dX10_struck_108 : decode cX10_struck 108 = .ok (.iaload, 1) := by decide +kernel
theorem dX10_struck_109 : decode cX10_struck 109 = .ok (.aload_n 0, 1) := by decide +kernel
theorem dX10_struck_110 : decode cX10_struck 110 = .ok (.getfield 13, 3) := by decide +kernel
theorem dX10_struck_113 : decode cX10_struck 113 = .ok (.iload 7, 2) := by decide +kernel
theorem dX10_struck_115 : decode cX10_struck 115 = .ok (.iaload, 1) := by decide +kernel
theorem dX10_struck_116 : decode cX10_struck 116 = .ok (.isub, 1) := by decide +kernel
theorem dX10_struck_117 : decode cX10_struck 117 = .ok (.if_icmp .le 6, 3) := by decide +kernel
theorem dX10_struck_120 : decode cX10_struck 120 = .ok (.bipush (-2), 2) := by decide +kernel
theorem dX10_struck_122 : decode cX10_struck 122 = .ok (.ireturn, 1) := by decide +kernel
theorem dX10_struck_123 : decode cX10_struck 123 = .ok (.iload 5, 2) := by decide +kernel
theorem dX10_struck_125 : decode cX10_struck 125 = .ok (.iload 8, 2) := by decide +kernel
theorem dX10_struck_127 : decode cX10_struck 127 = .ok (.aload_n 0, 1) := by decide +kernel
theorem dX10_struck_128 : decode cX10_struck 128 = .ok (.getfield 34, 3) := by decide +kernel
theorem dX10_struck_131 : decode cX10_struck 131 = .ok (.iload_n 2, 1) := by decide +kernel
theorem dX10_struck_132 : decode cX10_struck 132 = .ok (.iaload, 1) := by decide +kernel
theorem dX10_struck_133 : decode cX10_struck 133 = .ok (.iload 6, 2) := by decide +kernel
theorem dX10_struck_135 : decode cX10_struck 135 = .ok (.if_icmp .ne 19, 3) := by decide +kernel
theorem dX10_struck_138 : decode cX10_struck 138 = .ok (.aload_n 0, 1) := by decide +kernel
theorem dX10_struck_139 : decode cX10_struck 139 = .ok (.getfield 34, 3) := by decide +kernel
theorem dX10_struck_142 : decode cX10_struck 142 = .ok (.iload 4, 2) := by decide +kernel
theorem dX10_struck_144 : decode cX10_struck 144 = .ok (.iaload, 1) := by decide +kernel
theorem dX10_struck_145 : decode cX10_struck 145 = .ok (.iload 6, 2) := by decide +kernel
theorem dX10_struck_147 : decode cX10_struck 147 = .ok (.if_icmp .ne 7, 3) := by decide +kernel
theorem dX10_struck_150 : decode cX10_struck 150 = .ok (.iconst 2, 1) := by decide +kernel
theorem dX10_struck_151 : decode cX10_struck 151 = .ok (.goto 4, 3) := by decide +kernel
theorem dX10_struck_154 : decode cX10_struck 154 = .ok (.iconst 0, 1) := by decide +kernel
theorem dX10_struck_155 : decode cX10_struck 155 = .ok (.iadd, 1) := by decide +kernel
theorem dX10_struck_156 : decode cX10_struck 156 = .ok (.iadd, 1) := by decide +kernel
theorem dX10_struck_157 : decode cX10_struck 157 = .ok (.istore 5, 2) := by decide +kernel
theorem dX10_struck_159 : decode cX10_struck 159 = .ok (.iinc 6 1, 3) := by decide +kernel
theorem dX10_struck_162 : decode cX10_struck 162 = .ok (.goto (-156), 3) := by decide +kernel
theorem dX10_struck_165 : decode cX10_struck 165 = .ok (.iload 5, 2) := by decide +kernel
theorem dX10_struck_167 : decode cX10_struck 167 = .ok (.ireturn, 1) := by decide +kernel
theorem dX10_step_0 : decode cX10_step 0 = .ok (.aload_n 0, 1) := by decide +kernel
theorem dX10_step_1 : decode cX10_step 1 = .ok (.invokevirtual 131, 3) := by decide +kernel
theorem dX10_step_4 : decode cX10_step 4 = .ok (.aload_n 0, 1) := by decide +kernel
theorem dX10_step_5 : decode cX10_step 5 = .ok (.iload_n 1, 1) := by decide +kernel
theorem dX10_step_6 : decode cX10_step 6 = .ok (.iload_n 2, 1) := by decide +kernel
theorem dX10_step_7 : decode cX10_step 7 = .ok (.invokevirtual 134, 3) := by decide +kernel
theorem dX10_step_10 : decode cX10_step 10 = .ok (.ifCond .ne 24, 3) := by decide +kernel
theorem dX10_step_13 : decode cX10_step 13 = .ok (.aload_n 0, 1) := by decide +kernel
theorem dX10_step_14 : decode cX10_step 14 = .ok (.iload_n 1, 1) := by decide +kernel
theorem dX10_step_15 : decode cX10_step 15 = .ok (.invokevirtual 150, 3) := by decide +kernel
theorem dX10_step_18 : decode cX10_step 18 = .ok (.ifCond .lt 16, 3) := by decide +kernel
theorem dX10_step_21 : decode cX10_step 21 = .ok (.aload_n 0, 1) := by decide +kernel
theorem dX10_step_22 : decode cX10_step 22 = .ok (.aload_n 0, 1) := by decide +kernel
theorem dX10_step_23 : decode cX10_step 23 = .ok (.iload_n 1, 1) := by decide +kernel
theorem dX10_step_24 : decode cX10_step 24 = .ok (.invokevirtual 150, 3) := by decide +kernel
theorem dX10_step_27 : decode cX10_step 27 = .ok (.iload_n 3, 1) := by decide +kernel
theorem dX10_step_28 : decode cX10_step 28 = .ok (.invokevirtual 134, 3) := by decide +kernel
theorem dX10_step_31 : decode cX10_step 31 = .ok (.ifCond .eq 5, 3) := by decide +kernel
theorem dX10_step_34 : decode cX10_step 34 = .ok (.iconst (-1), 1) := by decide +kernel
theorem dX10_step_35 : decode cX10_step 35 = .ok (.ireturn, 1) := by decide +kernel
theorem dX10_step_36 : decode cX10_step 36 = .ok (.aload_n 0, 1) := by decide +kernel
theorem dX10_step_37 : decode cX10_step 37 = .ok (.iload_n 1, 1) := by decide +kernel
theorem dX10_step_38 : decode cX10_step 38 = .ok (.iload_n 2, 1) := by decide +kernel
theorem dX10_step_39 : decode cX10_step 39 = .ok (.aload_n 0, 1) := by decide +kernel
theorem dX10_step_40 : decode cX10_step 40 = .ok (.iload_n 1, 1) := by decide +kernel
theorem dX10_step_41 : decode cX10_step 41 = .ok (.invokevirtual 150, 3) := by decide +kernel
theorem dX10_step_44 : decode cX10_step 44 = .ok (.iload_n 3, 1) := by decide +kernel
theorem dX10_step_45 : decode cX10_step 45 = .ok (.invokevirtual 153, 3) := by decide +kernel
theorem dX10_step_48 : decode cX10_step 48 = .ok (.ireturn, 1) := by decide +kernel
theorem dX10_isLet_0 : decode cX10_isLet 0 = .ok (.aload_n 0, 1) := by decide +kernel
theorem dX10_isLet_1 : decode cX10_isLet 1 = .ok (.getfield 25, 3) := by decide +kernel
theorem dX10_isLet_4 : decode cX10_isLet 4 = .ok (.iload_n 1, 1) := by decide +kernel
theorem dX10_isLet_5 : decode cX10_isLet 5 = .ok (.iaload, 1) := by decide +kernel
theorem dX10_isLet_6 : decode cX10_isLet 6 = .ok (.ifCond .lt 13, 3) := by decide +kernel
theorem dX10_isLet_9 : decode cX10_isLet 9 = .ok (.aload_n 0, 1) := by decide +kernel
theorem dX10_isLet_10 : decode cX10_isLet 10 = .ok (.getfield 25, 3) := by decide +kernel
theorem dX10_isLet_13 : decode cX10_isLet 13 = .ok (.iload_n 1, 1) := by decide +kernel
theorem dX10_isLet_14 : decode cX10_isLet 14 = .ok (.iaload, 1) := by decide +kernel
theorem dX10_isLet_15 : decode cX10_isLet 15 = .ok (.iload_n 2, 1) := by decide +kernel
theorem dX10_isLet_16 : decode cX10_isLet 16 = .ok (.if_icmp .ne 7, 3) := by decide +kernel
theorem dX10_isLet_19 : decode cX10_isLet 19 = .ok (.iconst 1, 1) := by decide +kernel
theorem dX10_isLet_20 : decode cX10_isLet 20 = .ok (.goto 4, 3) := by decide +kernel
theorem dX10_isLet_23 : decode cX10_isLet 23 = .ok (.iconst 0, 1) := by decide +kernel
theorem dX10_isLet_24 : decode cX10_isLet 24 = .ok (.ireturn, 1) := by decide +kernel
theorem dX10_reckon_0 : decode cX10_reckon 0 = .ok (.aload_n 0, 1) := by decide +kernel
theorem dX10_reckon_1 : decode cX10_reckon 1 = .ok (.invokevirtual 131, 3) := by decide +kernel
theorem dX10_reckon_4 : decode cX10_reckon 4 = .ok (.aload_n 0, 1) := by decide +kernel
theorem dX10_reckon_5 : decode cX10_reckon 5 = .ok (.getfield 67, 3) := by decide +kernel
theorem dX10_reckon_8 : decode cX10_reckon 8 = .ok (.iconst 1, 1) := by decide +kernel
theorem dX10_reckon_9 : decode cX10_reckon 9 = .ok (.isub, 1) := by decide +kernel
theorem dX10_reckon_10 : decode cX10_reckon 10 = .ok (.istore_n 1, 1) := by decide +kernel
theorem dX10_reckon_11 : decode cX10_reckon 11 = .ok (.iload_n 1, 1) := by decide +kernel
theorem dX10_reckon_12 : decode cX10_reckon 12 = .ok (.ifCond .lt 190, 3) := by decide +kernel
theorem dX10_reckon_15 : decode cX10_reckon 15 = .ok (.aload_n 0, 1) := by decide +kernel
theorem dX10_reckon_16 : decode cX10_reckon 16 = .ok (.iload_n 1, 1) := by decide +kernel
theorem dX10_reckon_17 : decode cX10_reckon 17 = .ok (.invokevirtual 150, 3) := by decide +kernel
theorem dX10_reckon_20 : decode cX10_reckon 20 = .ok (.istore_n 2, 1) := by decide +kernel
theorem dX10_reckon_21 : decode cX10_reckon 21 = .ok (.iconst 0, 1) := by decide +kernel
theorem dX10_reckon_22 : decode cX10_reckon 22 = .ok (.istore_n 3, 1) := by decide +kernel
theorem dX10_reckon_23 : decode cX10_reckon 23 = .ok (.iload_n 3, 1) := by decide +kernel
theorem dX10_reckon_24 : decode cX10_reckon 24 = .ok (.aload_n 0, 1) := by decide +kernel
theorem dX10_reckon_25 : decode cX10_reckon 25 = .ok (.getfield 31, 3) := by decide +kernel
theorem dX10_reckon_28 : decode cX10_reckon 28 = .ok (.iload_n 1, 1) := by decide +kernel
theorem dX10_reckon_29 : decode cX10_reckon 29 = .ok (.iaload, 1) := by decide +kernel
theorem dX10_reckon_30 : decode cX10_reckon 30 = .ok (.if_icmp .ge 166, 3) := by decide +kernel
theorem dX10_reckon_33 : decode cX10_reckon 33 = .ok (.iload_n 2, 1) := by decide +kernel
theorem dX10_reckon_34 : decode cX10_reckon 34 = .ok (.ifCond .ge 7, 3) := by decide +kernel
theorem dX10_reckon_37 : decode cX10_reckon 37 = .ok (.iconst 0, 1) := by decide +kernel
theorem dX10_reckon_38 : decode cX10_reckon 38 = .ok (.goto 5, 3) := by decide +kernel
theorem dX10_reckon_41 : decode cX10_reckon 41 = .ok (.ldc 156, 2) := by decide +kernel
theorem dX10_reckon_43 : decode cX10_reckon 43 = .ok (.istore 4, 2) := by decide +kernel
theorem dX10_reckon_45 : decode cX10_reckon 45 = .ok (.iconst 0, 1) := by decide +kernel
theorem dX10_reckon_46 : decode cX10_reckon 46 = .ok (.istore 5, 2) := by decide +kernel
theorem dX10_reckon_48 : decode cX10_reckon 48 = .ok (.iload_n 2, 1) := by decide +kernel
theorem dX10_reckon_49 : decode cX10_reckon 49 = .ok (.ifCond .lt 95, 3) := by decide +kernel
theorem dX10_reckon_52 : decode cX10_reckon 52 = .ok (.iload 5, 2) := by decide +kernel
theorem dX10_reckon_54 : decode cX10_reckon 54 = .ok (.aload_n 0, 1) := by decide +kernel
theorem dX10_reckon_55 : decode cX10_reckon 55 = .ok (.getfield 31, 3) := by decide +kernel
theorem dX10_reckon_58 : decode cX10_reckon 58 = .ok (.iload_n 2, 1) := by decide +kernel
theorem dX10_reckon_59 : decode cX10_reckon 59 = .ok (.iaload, 1) := by decide +kernel
theorem dX10_reckon_60 : decode cX10_reckon 60 = .ok (.if_icmp .ge 84, 3) := by decide +kernel
theorem dX10_reckon_63 : decode cX10_reckon 63 = .ok (.aload_n 0, 1) := by decide +kernel
theorem dX10_reckon_64 : decode cX10_reckon 64 = .ok (.getfield 43, 3) := by decide +kernel
theorem dX10_reckon_67 : decode cX10_reckon 67 = .ok (.bipush 80, 2) := by decide +kernel
theorem dX10_reckon_69 : decode cX10_reckon 69 = .ok (.iload_n 2, 1) := by decide +kernel
theorem dX10_reckon_70 : decode cX10_reckon 70 = .ok (.imul, 1) := by decide +kernel
theorem dX10_reckon_71 : decode cX10_reckon 71 = .ok (.iload 5, 2) := by decide +kernel
theorem dX10_reckon_73 : decode cX10_reckon 73 = .ok (.iadd, 1) := by decide +kernel
theorem dX10_reckon_74 : decode cX10_reckon 74 = .ok (.iaload, 1) := by decide +kernel
theorem dX10_reckon_75 : decode cX10_reckon 75 = .ok (.ldc 156, 2) := by decide +kernel
theorem dX10_reckon_77 : decode cX10_reckon 77 = .ok (.if_icmp .ge 15, 3) := by decide +kernel
theorem dX10_reckon_80 : decode cX10_reckon 80 = .ok (.aload_n 0, 1) := by decide +kernel
theorem dX10_reckon_81 : decode cX10_reckon 81 = .ok (.iload_n 1, 1) := by decide +kernel
theorem dX10_reckon_82 : decode cX10_reckon 82 = .ok (.iload_n 3, 1) := by decide +kernel
theorem dX10_reckon_83 : decode cX10_reckon 83 = .ok (.iload_n 2, 1) := by decide +kernel
theorem dX10_reckon_84 : decode cX10_reckon 84 = .ok (.iload 5, 2) := by decide +kernel
theorem dX10_reckon_86 : decode cX10_reckon 86 = .ok (.invokevirtual 153, 3) := by decide +kernel
theorem dX10_reckon_89 : decode cX10_reckon 89 = .ok (.goto 5, 3) := by decide +kernel
theorem dX10_reckon_92 : decode cX10_reckon 92 = .ok (.bipush (-2), 2) := by decide +kernel
theorem dX10_reckon_94 : decode cX10_reckon 94 = .ok (.istore 6, 2) := by decide +kernel
theorem dX10_reckon_96 : decode cX10_reckon 96 = .ok (.iload 6, 2) := by decide +kernel
theorem dX10_reckon_98 : decode cX10_reckon 98 = .ok (.ifCond .lt 40, 3) := by decide +kernel
theorem dX10_reckon_101 : decode cX10_reckon 101 = .ok (.iload 6, 2) := by decide +kernel
theorem dX10_reckon_103 : decode cX10_reckon 103 = .ok (.aload_n 0, 1) := by decide +kernel
theorem dX10_reckon_104 : decode cX10_reckon 104 = .ok (.getfield 43, 3) := by decide +kernel
theorem dX10_reckon_107 : decode cX10_reckon 107 = .ok (.bipush 80, 2) := by decide +kernel
theorem dX10_reckon_109 : decode cX10_reckon 109 = .ok (.iload_n 2, 1) := by decide +kernel
theorem dX10_reckon_110 : decode cX10_reckon 110 = .ok (.imul, 1) := by decide +kernel
theorem dX10_reckon_111 : decode cX10_reckon 111 = .ok (.iload 5, 2) := by decide +kernel
theorem dX10_reckon_113 : decode cX10_reckon 113 = .ok (.iadd, 1) := by decide +kernel
theorem dX10_reckon_114 : decode cX10_reckon 114 = .ok (.iaload, 1) := by decide +kernel
theorem dX10_reckon_115 : decode cX10_reckon 115 = .ok (.iadd, 1) := by decide +kernel
theorem dX10_reckon_116 : decode cX10_reckon 116 = .ok (.iload 4, 2) := by decide +kernel
theorem dX10_reckon_118 : decode cX10_reckon 118 = .ok (.if_icmp .ge 20, 3) := by decide +kernel
theorem dX10_reckon_121 : decode cX10_reckon 121 = .ok (.iload 6, 2) := by decide +kernel
theorem dX10_reckon_123 : decode cX10_reckon 123 = .ok (.aload_n 0, 1) := by decide +kernel
theorem dX10_reckon_124 : decode cX10_reckon 124 = .ok (.getfield 43, 3) := by decide +kernel
theorem dX10_reckon_127 : decode cX10_reckon 127 = .ok (.bipush 80, 2) := by decide +kernel
theorem dX10_reckon_129 : decode cX10_reckon 129 = .ok (.iload_n 2, 1) := by decide +kernel
theorem dX10_reckon_130 : decode cX10_reckon 130 = .ok (.imul, 1) := by decide +kernel
theorem dX10_reckon_131 : decode cX10_reckon 131 = .ok (.iload 5, 2) := by decide +kernel
theorem dX10_reckon_133 : decode cX10_reckon 133 = .ok (.iadd, 1) := by decide +kernel
theorem dX10_reckon_134 : decode cX10_reckon 134 = .ok (.iaload, 1) := by decide +kernel
theorem dX10_reckon_135 : decode cX10_reckon 135 = .ok (.iadd, 1) := by decide +kernel
theorem dX10_reckon_136 : decode cX10_reckon 136 = .ok (.istore 4, 2) := by decide +kernel
theorem dX10_reckon_138 : decode cX10_reckon 138 = .ok (.iinc 5 1, 3) := by decide +kernel
theorem dX10_reckon_141 : decode cX10_reckon 141 = .ok (.goto (-93), 3) := by decide +kernel
theorem dX10_reckon_144 : decode cX10_reckon 144 = .ok (.aload_n 0, 1) := by decide +kernel
theorem dX10_reckon_145 : decode cX10_reckon 145 = .ok (.getfield 43, 3) := by decide +kernel
theorem dX10_reckon_148 : decode cX10_reckon 148 = .ok (.bipush 80, 2) := by decide +kernel
theorem dX10_reckon_150 : decode cX10_reckon 150 = .ok (.iload_n 1, 1) := by decide +kernel
theorem dX10_reckon_151 : decode cX10_reckon 151 = .ok (.imul, 1) := by decide +kernel
theorem dX10_reckon_152 : decode cX10_reckon 152 = .ok (.iload_n 3, 1) := by decide +kernel
theorem dX10_reckon_153 : decode cX10_reckon 153 = .ok (.iadd, 1) := by decide +kernel
theorem dX10_reckon_154 : decode cX10_reckon 154 = .ok (.iload 4, 2) := by decide +kernel
theorem dX10_reckon_156 : decode cX10_reckon 156 = .ok (.ldc 156, 2) := by decide +kernel
theorem dX10_reckon_158 : decode cX10_reckon 158 = .ok (.if_icmp .ge 12, 3) := by decide +kernel
theorem dX10_reckon_161 : decode cX10_reckon 161 = .ok (.aload_n 0, 1) := by decide +kernel
theorem dX10_reckon_162 : decode cX10_reckon 162 = .ok (.iload_n 1, 1) := by decide +kernel
theorem dX10_reckon_163 : decode cX10_reckon 163 = .ok (.iload_n 3, 1) := by decide +kernel
theorem dX10_reckon_164 : decode cX10_reckon 164 = .ok (.invokevirtual 157, 3) := by decide +kernel
theorem dX10_reckon_167 : decode cX10_reckon 167 = .ok (.ifCond .ne 8, 3) := by decide +kernel
theorem dX10_reckon_170 : decode cX10_reckon 170 = .ok (.ldc 156, 2) := by decide +kernel
theorem dX10_reckon_172 : decode cX10_reckon 172 = .ok (.goto 17, 3) := by decide +kernel
theorem dX10_reckon_175 : decode cX10_reckon 175 = .ok (.iload 4, 2) := by decide +kernel
theorem dX10_reckon_177 : decode cX10_reckon 177 = .ok (.aload_n 0, 1) := by decide +kernel
theorem dX10_reckon_178 : decode cX10_reckon 178 = .ok (.getfield 40, 3) := by decide +kernel
theorem dX10_reckon_181 : decode cX10_reckon 181 = .ok (.bipush 80, 2) := by decide +kernel
theorem dX10_reckon_183 : decode cX10_reckon 183 = .ok (.iload_n 1, 1) := by decide +kernel
theorem dX10_reckon_184 : decode cX10_reckon 184 = .ok (.imul, 1) := by decide +kernel
theorem dX10_reckon_185 : decode cX10_reckon 185 = .ok (.iload_n 3, 1) := by decide +kernel
theorem dX10_reckon_186 : decode cX10_reckon 186 = .ok (.iadd, 1) := by decide +kernel
theorem dX10_reckon_187 : decode cX10_reckon 187 = .ok (.iaload, 1) := by decide +kernel
theorem dX10_reckon_188 : decode cX10_reckon 188 = .ok (.iadd, 1) := by decide +kernel
theorem dX10_reckon_189 : decode cX10_reckon 189 = .ok (.iastore, 1) := by decide +kernel
theorem dX10_reckon_190 : decode cX10_reckon 190 = .ok (.iinc 3 1, 3) := by decide +kernel
theorem dX10_reckon_193 : decode cX10_reckon 193 = .ok (.goto (-170), 3) := by decide +kernel
theorem dX10_reckon_196 : decode cX10_reckon 196 = .ok (.iinc 1 (-1), 3) := by decide +kernel
theorem dX10_reckon_199 : decode cX10_reckon 199 = .ok (.goto (-188), 3) := by decide +kernel
theorem dX10_reckon_202 : decode cX10_reckon 202 = .ok (.return_, 1) := by decide +kernel
theorem dX10_first_0 : decode cX10_first 0 = .ok (.iconst 0, 1) := by decide +kernel
theorem dX10_first_1 : decode cX10_first 1 = .ok (.istore_n 2, 1) := by decide +kernel
theorem dX10_first_2 : decode cX10_first 2 = .ok (.iload_n 2, 1) := by decide +kernel
theorem dX10_first_3 : decode cX10_first 3 = .ok (.aload_n 0, 1) := by decide +kernel
theorem dX10_first_4 : decode cX10_first 4 = .ok (.getfield 67, 3) := by decide +kernel
theorem dX10_first_7 : decode cX10_first 7 = .ok (.if_icmp .ge 19, 3) := by decide +kernel
theorem dX10_first_10 : decode cX10_first 10 = .ok (.aload_n 0, 1) := by decide +kernel
theorem dX10_first_11 : decode cX10_first 11 = .ok (.getfield 7, 3) := by decide +kernel
theorem dX10_first_14 : decode cX10_first 14 = .ok (.iload_n 2, 1) := by decide +kernel
theorem dX10_first_15 : decode cX10_first 15 = .ok (.iaload, 1) := by decide +kernel
theorem dX10_first_16 : decode cX10_first 16 = .ok (.iload_n 1, 1) := by decide +kernel
theorem dX10_first_17 : decode cX10_first 17 = .ok (.if_icmp .eq 9, 3) := by decide +kernel
theorem dX10_first_20 : decode cX10_first 20 = .ok (.iinc 2 1, 3) := by decide +kernel
theorem dX10_first_23 : decode cX10_first 23 = .ok (.goto (-21), 3) := by decide +kernel
theorem dX10_first_26 : decode cX10_first 26 = .ok (.iload_n 2, 1) := by decide +kernel
theorem dX10_first_27 : decode cX10_first 27 = .ok (.aload_n 0, 1) := by decide +kernel
theorem dX10_first_28 : decode cX10_first 28 = .ok (.getfield 67, 3) := by decide +kernel
theorem dX10_first_31 : decode cX10_first 31 = .ok (.if_icmp .ge 7, 3) := by decide +kernel
theorem dX10_first_34 : decode cX10_first 34 = .ok (.iload_n 2, 1) := by decide +kernel
theorem dX10_first_35 : decode cX10_first 35 = .ok (.goto 5, 3) := by decide +kernel
theorem dX10_first_38 : decode cX10_first 38 = .ok (.bipush (-2), 2) := by decide +kernel
theorem dX10_first_40 : decode cX10_first 40 = .ok (.ireturn, 1) := by decide +kernel
theorem dX10_chain_0 : decode cX10_chain 0 = .ok (.aload_n 0, 1) := by decide +kernel
theorem dX10_chain_1 : decode cX10_chain 1 = .ok (.iload_n 1, 1) := by decide +kernel
theorem dX10_chain_2 : decode cX10_chain 2 = .ok (.invokevirtual 160, 3) := by decide +kernel
theorem dX10_chain_5 : decode cX10_chain 5 = .ok (.istore_n 2, 1) := by decide +kernel
theorem dX10_chain_6 : decode cX10_chain 6 = .ok (.iload_n 2, 1) := by decide +kernel
theorem dX10_chain_7 : decode cX10_chain 7 = .ok (.ifCond .ge 5, 3) := by decide +kernel
theorem dX10_chain_10 : decode cX10_chain 10 = .ok (.iconst 0, 1) := by decide +kernel
theorem dX10_chain_11 : decode cX10_chain 11 = .ok (.ireturn, 1) := by decide +kernel
theorem dX10_chain_12 : decode cX10_chain 12 = .ok (.ldc 156, 2) := by decide +kernel
theorem dX10_chain_14 : decode cX10_chain 14 = .ok (.istore_n 3, 1) := by decide +kernel
theorem dX10_chain_15 : decode cX10_chain 15 = .ok (.iconst 0, 1) := by decide +kernel
theorem dX10_chain_16 : decode cX10_chain 16 = .ok (.istore 4, 2) := by decide +kernel
theorem dX10_chain_18 : decode cX10_chain 18 = .ok (.iload 4, 2) := by decide +kernel
theorem dX10_chain_20 : decode cX10_chain 20 = .ok (.aload_n 0, 1) := by decide +kernel
theorem dX10_chain_21 : decode cX10_chain 21 = .ok (.getfield 31, 3) := by decide +kernel
theorem dX10_chain_24 : decode cX10_chain 24 = .ok (.iload_n 2, 1) := by decide +kernel
theorem dX10_chain_25 : decode cX10_chain 25 = .ok (.iaload, 1) := by decide +kernel
theorem dX10_chain_26 : decode cX10_chain 26 = .ok (.if_icmp .ge 42, 3) := by decide +kernel
theorem dX10_chain_29 : decode cX10_chain 29 = .ok (.aload_n 0, 1) := by decide +kernel
theorem dX10_chain_30 : decode cX10_chain 30 = .ok (.getfield 43, 3) := by decide +kernel
theorem dX10_chain_33 : decode cX10_chain 33 = .ok (.bipush 80, 2) := by decide +kernel
theorem dX10_chain_35 : decode cX10_chain 35 = .ok (.iload_n 2, 1) := by decide +kernel
theorem dX10_chain_36 : decode cX10_chain 36 = .ok (.imul, 1) := by decide +kernel
theorem dX10_chain_37 : decode cX10_chain 37 = .ok (.iload 4, 2) := by decide +kernel
theorem dX10_chain_39 : decode cX10_chain 39 = .ok (.iadd, 1) := by decide +kernel
theorem dX10_chain_40 : decode cX10_chain 40 = .ok (.iaload, 1) := by decide +kernel
theorem dX10_chain_41 : decode cX10_chain 41 = .ok (.iload_n 3, 1) := by decide +kernel
theorem dX10_chain_42 : decode cX10_chain 42 = .ok (.if_icmp .ge 18, 3) := by decide +kernel
theorem dX10_chain_45 : decode cX10_chain 45 = .ok (.aload_n 0, 1) := by decide +kernel
theorem dX10_chain_46 : decode cX10_chain 46 = .ok (.getfield 43, 3) := by decide +kernel
theorem dX10_chain_49 : decode cX10_chain 49 = .ok (.bipush 80, 2) := by decide +kernel
theorem dX10_chain_51 : decode cX10_chain 51 = .ok (.iload_n 2, 1) := by decide +kernel
theorem dX10_chain_52 : decode cX10_chain 52 = .ok (.imul, 1) := by decide +kernel
theorem dX10_chain_53 : decode cX10_chain 53 = .ok (.iload 4, 2) := by decide +kernel
theorem dX10_chain_55 : decode cX10_chain 55 = .ok (.iadd, 1) := by decide +kernel
theorem dX10_chain_56 : decode cX10_chain 56 = .ok (.iaload, 1) := by decide +kernel
theorem dX10_chain_57 : decode cX10_chain 57 = .ok (.goto 4, 3) := by decide +kernel
theorem dX10_chain_60 : decode cX10_chain 60 = .ok (.iload_n 3, 1) := by decide +kernel
theorem dX10_chain_61 : decode cX10_chain 61 = .ok (.istore_n 3, 1) := by decide +kernel
theorem dX10_chain_62 : decode cX10_chain 62 = .ok (.iinc 4 1, 3) := by decide +kernel
theorem dX10_chain_65 : decode cX10_chain 65 = .ok (.goto (-47), 3) := by decide +kernel
theorem dX10_chain_68 : decode cX10_chain 68 = .ok (.iload_n 3, 1) := by decide +kernel
theorem dX10_chain_69 : decode cX10_chain 69 = .ok (.ireturn, 1) := by decide +kernel
theorem dX10_price_0 : decode cX10_price 0 = .ok (.aload_n 0, 1) := by decide +kernel
theorem dX10_price_1 : decode cX10_price 1 = .ok (.invokevirtual 163, 3) := by decide +kernel
theorem dX10_price_4 : decode cX10_price 4 = .ok (.aload_n 0, 1) := by decide +kernel
theorem dX10_price_5 : decode cX10_price 5 = .ok (.iconst 0, 1) := by decide +kernel
theorem dX10_price_6 : decode cX10_price 6 = .ok (.invokevirtual 166, 3) := by decide +kernel
theorem dX10_price_9 : decode cX10_price 9 = .ok (.ldc 156, 2) := by decide +kernel
theorem dX10_price_11 : decode cX10_price 11 = .ok (.if_icmp .ge 13, 3) := by decide +kernel
theorem dX10_price_14 : decode cX10_price 14 = .ok (.aload_n 0, 1) := by decide +kernel
theorem dX10_price_15 : decode cX10_price 15 = .ok (.iconst 1, 1) := by decide +kernel
theorem dX10_price_16 : decode cX10_price 16 = .ok (.invokevirtual 166, 3) := by decide +kernel
theorem dX10_price_19 : decode cX10_price 19 = .ok (.ldc 156, 2) := by decide +kernel
theorem dX10_price_21 : decode cX10_price 21 = .ok (.if_icmp .lt 8, 3) := by decide +kernel
theorem dX10_price_24 : decode cX10_price 24 = .ok (.ldc 156, 2) := by decide +kernel
theorem dX10_price_26 : decode cX10_price 26 = .ok (.goto 14, 3) := by decide +kernel
theorem dX10_price_29 : decode cX10_price 29 = .ok (.aload_n 0, 1) := by decide +kernel
theorem dX10_price_30 : decode cX10_price 30 = .ok (.iconst 0, 1) := by decide +kernel
theorem dX10_price_31 : decode cX10_price 31 = .ok (.invokevirtual 166, 3) := by decide +kernel
theorem dX10_price_34 : decode cX10_price 34 = .ok (.aload_n 0, 1) := by decide +kernel
theorem dX10_price_35 : decode cX10_price 35 = .ok (.iconst 1, 1) := by decide +kernel
theorem dX10_price_36 : decode cX10_price 36 = .ok (.invokevirtual 166, 3) := by decide +kernel
theorem dX10_price_39 : decode cX10_price 39 = .ok (.iadd, 1) := by decide +kernel
theorem dX10_price_40 : decode cX10_price 40 = .ok (.istore_n 1, 1) := by decide +kernel
theorem dX10_price_41 : decode cX10_price 41 = .ok (.iload_n 1, 1) := by decide +kernel
theorem dX10_price_42 : decode cX10_price 42 = .ok (.ldc 156, 2) := by decide +kernel
theorem dX10_price_44 : decode cX10_price 44 = .ok (.if_icmp .lt 8, 3) := by decide +kernel
theorem dX10_price_47 : decode cX10_price 47 = .ok (.bipush (-2), 2) := by decide +kernel
theorem dX10_price_49 : decode cX10_price 49 = .ok (.goto 4, 3) := by decide +kernel
theorem dX10_price_52 : decode cX10_price 52 = .ok (.iload_n 1, 1) := by decide +kernel
theorem dX10_price_53 : decode cX10_price 53 = .ok (.ireturn, 1) := by decide +kernel
theorem dX10_way_0 : decode cX10_way 0 = .ok (.iload_n 1, 1) := by decide +kernel
theorem dX10_way_1 : decode cX10_way 1 = .ok (.iconst 0, 1) := by decide +kernel
theorem dX10_way_2 : decode cX10_way 2 = .ok (.aload_n 0, 1) := by decide +kernel
theorem dX10_way_3 : decode cX10_way 3 = .ok (.getfield 67, 3) := by decide +kernel
theorem dX10_way_6 : decode cX10_way 6 = .ok (.iconst 1, 1) := by decide +kernel
theorem dX10_way_7 : decode cX10_way 7 = .ok (.isub, 1) := by decide +kernel
theorem dX10_way_8 : decode cX10_way 8 = .ok (.invokestatic 70, 3) := by decide +kernel
theorem dX10_way_11 : decode cX10_way 11 = .ok (.ifCond .ne 5, 3) := by decide +kernel
theorem dX10_way_14 : decode cX10_way 14 = .ok (.iconst (-1), 1) := by decide +kernel
theorem dX10_way_15 : decode cX10_way 15 = .ok (.ireturn, 1) := by decide +kernel
theorem dX10_way_16 : decode cX10_way 16 = .ok (.aload_n 0, 1) := by decide +kernel
theorem dX10_way_17 : decode cX10_way 17 = .ok (.invokevirtual 169, 3) := by decide +kernel
theorem dX10_way_20 : decode cX10_way 20 = .ok (.ifCond .ge 6, 3) := by decide +kernel
theorem dX10_way_23 : decode cX10_way 23 = .ok (.bipush (-2), 2) := by decide +kernel
theorem dX10_way_25 : decode cX10_way 25 = .ok (.ireturn, 1) := by decide +kernel
theorem dX10_way_26 : decode cX10_way 26 = .ok (.aload_n 0, 1) := by decide +kernel
theorem dX10_way_27 : decode cX10_way 27 = .ok (.aload_n 0, 1) := by decide +kernel
theorem dX10_way_28 : decode cX10_way 28 = .ok (.getfield 7, 3) := by decide +kernel
theorem dX10_way_31 : decode cX10_way 31 = .ok (.iload_n 1, 1) := by decide +kernel
theorem dX10_way_32 : decode cX10_way 32 = .ok (.iaload, 1) := by decide +kernel
theorem dX10_way_33 : decode cX10_way 33 = .ok (.invokevirtual 166, 3) := by decide +kernel
theorem dX10_way_36 : decode cX10_way 36 = .ok (.istore_n 2, 1) := by decide +kernel
theorem dX10_way_37 : decode cX10_way 37 = .ok (.bipush (-2), 2) := by decide +kernel
theorem dX10_way_39 : decode cX10_way 39 = .ok (.istore_n 3, 1) := by decide +kernel
theorem dX10_way_40 : decode cX10_way 40 = .ok (.aload_n 0, 1) := by decide +kernel
theorem dX10_way_41 : decode cX10_way 41 = .ok (.aload_n 0, 1) := by decide +kernel
theorem dX10_way_42 : decode cX10_way 42 = .ok (.getfield 7, 3) := by decide +kernel
theorem dX10_way_45 : decode cX10_way 45 = .ok (.iload_n 1, 1) := by decide +kernel
theorem dX10_way_46 : decode cX10_way 46 = .ok (.iaload, 1) := by decide +kernel
theorem dX10_way_47 : decode cX10_way 47 = .ok (.invokevirtual 160, 3) := by decide +kernel
theorem dX10_way_50 : decode cX10_way 50 = .ok (.istore 4, 2) := by decide +kernel
theorem dX10_way_52 : decode cX10_way 52 = .ok (.iload 4, 2) := by decide +kernel
theorem dX10_way_54 : decode cX10_way 54 = .ok (.ifCond .lt 94, 3) := by decide +kernel
theorem dX10_way_57 : decode cX10_way 57 = .ok (.iload 4, 2) := by decide +kernel
theorem dX10_way_59 : decode cX10_way 59 = .ok (.iload_n 1, 1) := by decide +kernel
theorem dX10_way_60 : decode cX10_way 60 = .ok (.if_icmp .gt 88, 3) := by decide +kernel
theorem dX10_way_63 : decode cX10_way 63 = .ok (.iconst 0, 1) := by decide +kernel
theorem dX10_way_64 : decode cX10_way 64 = .ok (.istore 5, 2) := by decide +kernel
theorem dX10_way_66 : decode cX10_way 66 = .ok (.aload_n 0, 1) := by decide +kernel
theorem dX10_way_67 : decode cX10_way 67 = .ok (.iload_n 3, 1) := by decide +kernel
theorem dX10_way_68 : decode cX10_way 68 = .ok (.iload 4, 2) := by decide +kernel
theorem dX10_way_70 : decode cX10_way 70 = .ok (.iload 5, 2) := by decide +kernel
theorem dX10_way_72 : decode cX10_way 72 = .ok (.iload_n 2, 1) := by decide +kernel
theorem dX10_way_73 : decode cX10_way 73 = .ok (.invokevirtual 172, 3) := by decide +kernel
theorem dX10_way_76 : decode cX10_way 76 = .ok (.ifCond .ne 9, 3) := by decide +kernel
theorem dX10_way_79 : decode cX10_way 79 = .ok (.iinc 5 1, 3) := by decide +kernel
theorem dX10_way_82 : decode cX10_way 82 = .ok (.goto (-16), 3) := by decide +kernel
theorem dX10_way_85 : decode cX10_way 85 = .ok (.iload_n 2, 1) := by decide +kernel
theorem dX10_way_86 : decode cX10_way 86 = .ok (.aload_n 0, 1) := by decide +kernel
theorem dX10_way_87 : decode cX10_way 87 = .ok (.getfield 40, 3) := by decide +kernel
theorem dX10_way_90 : decode cX10_way 90 = .ok (.bipush 80, 2) := by decide +kernel
theorem dX10_way_92 : decode cX10_way 92 = .ok (.iload 4, 2) := by decide +kernel
theorem dX10_way_94 : decode cX10_way 94 = .ok (.imul, 1) := by decide +kernel
theorem dX10_way_95 : decode cX10_way 95 = .ok (.iload 5, 2) := by decide +kernel
theorem dX10_way_97 : decode cX10_way 97 = .ok (.iadd, 1) := by decide +kernel
theorem dX10_way_98 : decode cX10_way 98 = .ok (.iaload, 1) := by decide +kernel
theorem dX10_way_99 : decode cX10_way 99 = .ok (.iload_n 3, 1) := by decide +kernel
theorem dX10_way_100 : decode cX10_way 100 = .ok (.ifCond .ge 7, 3) := by decide +kernel
theorem dX10_way_103 : decode cX10_way 103 = .ok (.iconst 0, 1) := by decide +kernel
theorem dX10_way_104 : decode cX10_way 104 = .ok (.goto 18, 3) := by decide +kernel
theorem dX10_way_107 : decode cX10_way 107 = .ok (.aload_n 0, 1) := by decide +kernel
theorem dX10_way_108 : decode cX10_way 108 = .ok (.iload_n 3, 1) := by decide +kernel
theorem dX10_way_109 : decode cX10_way 109 = .ok (.aload_n 0, 1) := by decide +kernel
theorem dX10_way_110 : decode cX10_way 110 = .ok (.getfield 46, 3) := by decide +kernel
theorem dX10_way_113 : decode cX10_way 113 = .ok (.iload_n 3, 1) := by decide +kernel
theorem dX10_way_114 : decode cX10_way 114 = .ok (.iaload, 1) := by decide +kernel
theorem dX10_way_115 : decode cX10_way 115 = .ok (.iload 4, 2) := by decide +kernel
theorem dX10_way_117 : decode cX10_way 117 = .ok (.iload 5, 2) := by decide +kernel
theorem dX10_way_119 : decode cX10_way 119 = .ok (.invokevirtual 153, 3) := by decide +kernel
theorem dX10_way_122 : decode cX10_way 122 = .ok (.iadd, 1) := by decide +kernel
theorem dX10_way_123 : decode cX10_way 123 = .ok (.isub, 1) := by decide +kernel
theorem dX10_way_124 : decode cX10_way 124 = .ok (.istore_n 2, 1) := by decide +kernel
theorem dX10_way_125 : decode cX10_way 125 = .ok (.aload_n 0, 1) := by decide +kernel
theorem dX10_way_126 : decode cX10_way 126 = .ok (.getfield 46, 3) := by decide +kernel
theorem dX10_way_129 : decode cX10_way 129 = .ok (.iload 4, 2) := by decide +kernel
theorem dX10_way_131 : decode cX10_way 131 = .ok (.iload 5, 2) := by decide +kernel
theorem dX10_way_133 : decode cX10_way 133 = .ok (.iastore, 1) := by decide +kernel
theorem dX10_way_134 : decode cX10_way 134 = .ok (.iload 4, 2) := by decide +kernel
theorem dX10_way_136 : decode cX10_way 136 = .ok (.istore_n 3, 1) := by decide +kernel
theorem dX10_way_137 : decode cX10_way 137 = .ok (.aload_n 0, 1) := by decide +kernel
theorem dX10_way_138 : decode cX10_way 138 = .ok (.iload 4, 2) := by decide +kernel
theorem dX10_way_140 : decode cX10_way 140 = .ok (.invokevirtual 150, 3) := by decide +kernel
theorem dX10_way_143 : decode cX10_way 143 = .ok (.istore 4, 2) := by decide +kernel
theorem dX10_way_145 : decode cX10_way 145 = .ok (.goto (-93), 3) := by decide +kernel
theorem dX10_way_148 : decode cX10_way 148 = .ok (.aload_n 0, 1) := by decide +kernel
theorem dX10_way_149 : decode cX10_way 149 = .ok (.getfield 46, 3) := by decide +kernel
theorem dX10_way_152 : decode cX10_way 152 = .ok (.iload_n 1, 1) := by decide +kernel
theorem dX10_way_153 : decode cX10_way 153 = .ok (.iaload, 1) := by decide +kernel
theorem dX10_way_154 : decode cX10_way 154 = .ok (.ireturn, 1) := by decide +kernel
theorem dX10_isOn_0 : decode cX10_isOn 0 = .ok (.aload_n 0, 1) := by decide +kernel
theorem dX10_isOn_1 : decode cX10_isOn 1 = .ok (.getfield 43, 3) := by decide +kernel
theorem dX10_isOn_4 : decode cX10_isOn 4 = .ok (.bipush 80, 2) := by decide +kernel
theorem dX10_isOn_6 : decode cX10_isOn 6 = .ok (.iload_n 2, 1) := by decide +kernel
theorem dX10_isOn_7 : decode cX10_isOn 7 = .ok (.imul, 1) := by decide +kernel
theorem dX10_isOn_8 : decode cX10_isOn 8 = .ok (.iload_n 3, 1) := by decide +kernel
theorem dX10_isOn_9 : decode cX10_isOn 9 = .ok (.iadd, 1) := by decide +kernel
theorem dX10_isOn_10 : decode cX10_isOn 10 = .ok (.iaload, 1) := by decide +kernel
theorem dX10_isOn_11 : decode cX10_isOn 11 = .ok (.ldc 156, 2) := by decide +kernel
theorem dX10_isOn_13 : decode cX10_isOn 13 = .ok (.if_icmp .lt 5, 3) := by decide +kernel
theorem dX10_isOn_16 : decode cX10_isOn 16 = .ok (.iconst 0, 1) := by decide +kernel
theorem dX10_isOn_17 : decode cX10_isOn 17 = .ok (.ireturn, 1) := by decide +kernel
theorem dX10_isOn_18 : decode cX10_isOn 18 = .ok (.iload_n 1, 1) := by decide +kernel
theorem dX10_isOn_19 : decode cX10_isOn 19 = .ok (.ifCond .ge 7, 3) := by decide +kernel
theorem dX10_isOn_22 : decode cX10_isOn 22 = .ok (.iconst 0, 1) := by decide +kernel
theorem dX10_isOn_23 : decode cX10_isOn 23 = .ok (.goto 16, 3) := by decide +kernel
theorem dX10_isOn_26 : decode cX10_isOn 26 = .ok (.aload_n 0, 1) := by decide +kernel
theorem dX10_isOn_27 : decode cX10_isOn 27 = .ok (.iload_n 1, 1) := by decide +kernel
theorem dX10_isOn_28 : decode cX10_isOn 28 = .ok (.aload_n 0, 1) := by decide +kernel
theorem dX10_isOn_29 : decode cX10_isOn 29 = .ok (.getfield 46, 3) := by decide +kernel
theorem dX10_isOn_32 : decode cX10_isOn 32 = .ok (.iload_n 1, 1) := by decide +kernel
theorem dX10_isOn_33 : decode cX10_isOn 33 = .ok (.iaload, 1) := by decide +kernel
theorem dX10_isOn_34 : decode cX10_isOn 34 = .ok (.iload_n 2, 1) := by decide +kernel
theorem dX10_isOn_35 : decode cX10_isOn 35 = .ok (.iload_n 3, 1) := by decide +kernel
theorem dX10_isOn_36 : decode cX10_isOn 36 = .ok (.invokevirtual 153, 3) := by decide +kernel
theorem dX10_isOn_39 : decode cX10_isOn 39 = .ok (.istore 5, 2) := by decide +kernel
theorem dX10_isOn_41 : decode cX10_isOn 41 = .ok (.iload 5, 2) := by decide +kernel
theorem dX10_isOn_43 : decode cX10_isOn 43 = .ok (.ifCond .lt 26, 3) := by decide +kernel
theorem dX10_isOn_46 : decode cX10_isOn 46 = .ok (.iload 5, 2) := by decide +kernel
theorem dX10_isOn_48 : decode cX10_isOn 48 = .ok (.aload_n 0, 1) := by decide +kernel
theorem dX10_isOn_49 : decode cX10_isOn 49 = .ok (.getfield 43, 3) := by decide +kernel
theorem dX10_isOn_52 : decode cX10_isOn 52 = .ok (.bipush 80, 2) := by decide +kernel
theorem dX10_isOn_54 : decode cX10_isOn 54 = .ok (.iload_n 2, 1) := by decide +kernel
theorem dX10_isOn_55 : decode cX10_isOn 55 = .ok (.imul, 1) := by decide +kernel
theorem dX10_isOn_56 : decode cX10_isOn 56 = .ok (.iload_n 3, 1) := by decide +kernel
theorem dX10_isOn_57 : decode cX10_isOn 57 = .ok (.iadd, 1) := by decide +kernel
theorem dX10_isOn_58 : decode cX10_isOn 58 = .ok (.iaload, 1) := by decide +kernel
theorem dX10_isOn_59 : decode cX10_isOn 59 = .ok (.iadd, 1) := by decide +kernel
theorem dX10_isOn_60 : decode cX10_isOn 60 = .ok (.iload 4, 2) := by decide +kernel
theorem dX10_isOn_62 : decode cX10_isOn 62 = .ok (.if_icmp .ne 7, 3) := by decide +kernel
theorem dX10_isOn_65 : decode cX10_isOn 65 = .ok (.iconst 1, 1) := by decide +kernel
theorem dX10_isOn_66 : decode cX10_isOn 66 = .ok (.goto 4, 3) := by decide +kernel
theorem dX10_isOn_69 : decode cX10_isOn 69 = .ok (.iconst 0, 1) := by decide +kernel
theorem dX10_isOn_70 : decode cX10_isOn 70 = .ok (.ireturn, 1) := by decide +kernel
theorem dX10_stuck_0 : decode cX10_stuck 0 = .ok (.aload_n 0, 1) := by decide +kernel
theorem dX10_stuck_1 : decode cX10_stuck 1 = .ok (.invokevirtual 131, 3) := by decide +kernel
theorem dX10_stuck_4 : decode cX10_stuck 4 = .ok (.iconst 0, 1) := by decide +kernel
theorem dX10_stuck_5 : decode cX10_stuck 5 = .ok (.istore_n 1, 1) := by decide +kernel
theorem dX10_stuck_6 : decode cX10_stuck 6 = .ok (.iload_n 1, 1) := by decide +kernel
theorem dX10_stuck_7 : decode cX10_stuck 7 = .ok (.aload_n 0, 1) := by decide +kernel
theorem dX10_stuck_8 : decode cX10_stuck 8 = .ok (.getfield 67, 3) := by decide +kernel
theorem dX10_stuck_11 : decode cX10_stuck 11 = .ok (.if_icmp .ge 171, 3) := by decide +kernel
theorem dX10_stuck_14 : decode cX10_stuck 14 = .ok (.aload_n 0, 1) := by decide +kernel
theorem dX10_stuck_15 : decode cX10_stuck 15 = .ok (.iload_n 1, 1) := by decide +kernel
theorem dX10_stuck_16 : decode cX10_stuck 16 = .ok (.aload_n 0, 1) := by decide +kernel
theorem dX10_stuck_17 : decode cX10_stuck 17 = .ok (.getfield 7, 3) := by decide +kernel
theorem dX10_stuck_20 : decode cX10_stuck 20 = .ok (.iload_n 1, 1) := by decide +kernel
theorem dX10_stuck_21 : decode cX10_stuck 21 = .ok (.iaload, 1) := by decide +kernel
theorem dX10_stuck_22 : decode cX10_stuck 22 = .ok (.invokevirtual 79, 3) := by decide +kernel
theorem dX10_stuck_25 : decode cX10_stuck 25 = .ok (.istore_n 2, 1) := by decide +kernel
theorem dX10_stuck_26 : decode cX10_stuck 26 = .ok (.iconst 0, 1) := by decide +kernel
theorem dX10_stuck_27 : decode cX10_stuck 27 = .ok (.istore_n 3, 1) := by decide +kernel
theorem dX10_stuck_28 : decode cX10_stuck 28 = .ok (.iconst 0, 1) := by decide +kernel
theorem dX10_stuck_29 : decode cX10_stuck 29 = .ok (.istore 4, 2) := by decide +kernel
theorem dX10_stuck_31 : decode cX10_stuck 31 = .ok (.iload 4, 2) := by decide +kernel
theorem dX10_stuck_33 : decode cX10_stuck 33 = .ok (.aload_n 0, 1) := by decide +kernel
theorem dX10_stuck_34 : decode cX10_stuck 34 = .ok (.getfield 31, 3) := by decide +kernel
theorem dX10_stuck_37 : decode cX10_stuck 37 = .ok (.iload_n 1, 1) := by decide +kernel
theorem dX10_stuck_38 : decode cX10_stuck 38 = .ok (.iaload, 1) := by decide +kernel
theorem dX10_stuck_39 : decode cX10_stuck 39 = .ok (.if_icmp .ge 131, 3) := by decide +kernel
theorem dX10_stuck_42 : decode cX10_stuck 42 = .ok (.iload_n 2, 1) := by decide +kernel
theorem dX10_stuck_43 : decode cX10_stuck 43 = .ok (.ifCond .ge 7, 3) := by decide +kernel
theorem dX10_stuck_46 : decode cX10_stuck 46 = .ok (.iconst 1, 1) := by decide +kernel
theorem dX10_stuck_47 : decode cX10_stuck 47 = .ok (.goto 4, 3) := by decide +kernel
theorem dX10_stuck_50 : decode cX10_stuck 50 = .ok (.iconst 0, 1) := by decide +kernel
theorem dX10_stuck_51 : decode cX10_stuck 51 = .ok (.istore 5, 2) := by decide +kernel
theorem dX10_stuck_53 : decode cX10_stuck 53 = .ok (.iconst 0, 1) := by decide +kernel
theorem dX10_stuck_54 : decode cX10_stuck 54 = .ok (.istore 6, 2) := by decide +kernel
theorem dX10_stuck_56 : decode cX10_stuck 56 = .ok (.iload_n 2, 1) := by decide +kernel
theorem dX10_stuck_57 : decode cX10_stuck 57 = .ok (.ifCond .lt 60, 3) := by decide +kernel
theorem dX10_stuck_60 : decode cX10_stuck 60 = .ok (.iload 6, 2) := by decide +kernel
theorem dX10_stuck_62 : decode cX10_stuck 62 = .ok (.aload_n 0, 1) := by decide +kernel
theorem dX10_stuck_63 : decode cX10_stuck 63 = .ok (.getfield 31, 3) := by decide +kernel
theorem dX10_stuck_66 : decode cX10_stuck 66 = .ok (.iload_n 2, 1) := by decide +kernel
theorem dX10_stuck_67 : decode cX10_stuck 67 = .ok (.iaload, 1) := by decide +kernel
theorem dX10_stuck_68 : decode cX10_stuck 68 = .ok (.if_icmp .ge 49, 3) := by decide +kernel
theorem dX10_stuck_71 : decode cX10_stuck 71 = .ok (.iload 5, 2) := by decide +kernel
theorem dX10_stuck_73 : decode cX10_stuck 73 = .ok (.ifCond .ne 44, 3) := by decide +kernel
theorem dX10_stuck_76 : decode cX10_stuck 76 = .ok (.aload_n 0, 1) := by decide +kernel
theorem dX10_stuck_77 : decode cX10_stuck 77 = .ok (.getfield 49, 3) := by decide +kernel
theorem dX10_stuck_80 : decode cX10_stuck 80 = .ok (.bipush 80, 2) := by decide +kernel
theorem dX10_stuck_82 : decode cX10_stuck 82 = .ok (.iload_n 2, 1) := by decide +kernel
theorem dX10_stuck_83 : decode cX10_stuck 83 = .ok (.imul, 1) := by decide +kernel
theorem dX10_stuck_84 : decode cX10_stuck 84 = .ok (.iload 6, 2) := by decide +kernel
theorem dX10_stuck_86 : decode cX10_stuck 86 = .ok (.iadd, 1) := by decide +kernel
theorem dX10_stuck_87 : decode cX10_stuck 87 = .ok (.baload, 1) := by decide +kernel
theorem dX10_stuck_88 : decode cX10_stuck 88 = .ok (.ifCond .eq 20, 3) := by decide +kernel
theorem dX10_stuck_91 : decode cX10_stuck 91 = .ok (.aload_n 0, 1) := by decide +kernel
theorem dX10_stuck_92 : decode cX10_stuck 92 = .ok (.iload_n 2, 1) := by decide +kernel
theorem dX10_stuck_93 : decode cX10_stuck 93 = .ok (.iload 6, 2) := by decide +kernel
theorem dX10_stuck_95 : decode cX10_stuck 95 = .ok (.iload_n 1, 1) := by decide +kernel
theorem dX10_stuck_96 : decode cX10_stuck 96 = .ok (.iload 4, 2) := by decide +kernel
theorem dX10_stuck_98 : decode cX10_stuck 98 = .ok (.invokevirtual 153, 3) := by decide +kernel
theorem dX10_stuck_101 : decode cX10_stuck 101 = .ok (.ifCond .lt 7, 3) := by decide +kernel
theorem dX10_stuck_104 : decode cX10_stuck 104 = .ok (.iconst 1, 1) := by decide +kernel
theorem dX10_stuck_105 : decode cX10_stuck 105 = .ok (.goto 4, 3) := by decide +kernel
theorem dX10_stuck_108 : decode cX10_stuck 108 = .ok (.iconst 0, 1) := by decide +kernel
theorem dX10_stuck_109 : decode cX10_stuck 109 = .ok (.istore 5, 2) := by decide +kernel
theorem dX10_stuck_111 : decode cX10_stuck 111 = .ok (.iinc 6 1, 3) := by decide +kernel
theorem dX10_stuck_114 : decode cX10_stuck 114 = .ok (.goto (-58), 3) := by decide +kernel
theorem dX10_stuck_117 : decode cX10_stuck 117 = .ok (.aload_n 0, 1) := by decide +kernel
theorem dX10_stuck_118 : decode cX10_stuck 118 = .ok (.getfield 49, 3) := by decide +kernel
theorem dX10_stuck_121 : decode cX10_stuck 121 = .ok (.bipush 80, 2) := by decide +kernel
theorem dX10_stuck_123 : decode cX10_stuck 123 = .ok (.iload_n 1, 1) := by decide +kernel
theorem dX10_stuck_124 : decode cX10_stuck 124 = .ok (.imul, 1) := by decide +kernel
theorem dX10_stuck_125 : decode cX10_stuck 125 = .ok (.iload 4, 2) := by decide +kernel
theorem dX10_stuck_127 : decode cX10_stuck 127 = .ok (.iadd, 1) := by decide +kernel
theorem dX10_stuck_128 : decode cX10_stuck 128 = .ok (.iload 5, 2) := by decide +kernel
theorem dX10_stuck_130 : decode cX10_stuck 130 = .ok (.ifCond .eq 17, 3) := by decide +kernel
theorem dX10_stuck_133 : decode cX10_stuck 133 = .ok (.aload_n 0, 1) := by decide +kernel
theorem dX10_stuck_134 : decode cX10_stuck 134 = .ok (.iload_n 1, 1) := by decide +kernel
theorem dX10_stuck_135 : decode cX10_stuck 135 = .ok (.iload 4, 2) := by decide +kernel
theorem dX10_stuck_137 : decode cX10_stuck 137 = .ok (.invokevirtual 157, 3) := by decide +kernel
theorem dX10_stuck_140 : decode cX10_stuck 140 = .ok (.ifCond .eq 7, 3) := by decide +kernel
theorem dX10_stuck_143 : decode cX10_stuck 143 = .ok (.iconst 1, 1) := by decide +kernel
theorem dX10_stuck_144 : decode cX10_stuck 144 = .ok (.goto 4, 3) := by decide +kernel
theorem dX10_stuck_147 : decode cX10_stuck 147 = .ok (.iconst 0, 1) := by decide +kernel
theorem dX10_stuck_148 : decode cX10_stuck 148 = .ok (.bastore, 1) := by decide +kernel
theorem dX10_stuck_149 : decode cX10_stuck 149 = .ok (.iload_n 3, 1) := by decide +kernel
theorem dX10_stuck_150 : decode cX10_stuck 150 = .ok (.aload_n 0, 1) := by decide +kernel
theorem dX10_stuck_151 : decode cX10_stuck 151 = .ok (.getfield 49, 3) := by decide +kernel
theorem dX10_stuck_154 : decode cX10_stuck 154 = .ok (.bipush 80, 2) := by decide +kernel
theorem dX10_stuck_156 : decode cX10_stuck 156 = .ok (.iload_n 1, 1) := by decide +kernel
theorem dX10_stuck_157 : decode cX10_stuck 157 = .ok (.imul, 1) := by decide +kernel
theorem dX10_stuck_158 : decode cX10_stuck 158 = .ok (.iload 4, 2) := by decide +kernel
theorem dX10_stuck_160 : decode cX10_stuck 160 = .ok (.iadd, 1) := by decide +kernel
theorem dX10_stuck_161 : decode cX10_stuck 161 = .ok (.baload, 1) := by decide +kernel
theorem dX10_stuck_162 : decode cX10_stuck 162 = .ok (.ior, 1) := by decide +kernel
theorem dX10_stuck_163 : decode cX10_stuck 163 = .ok (.istore_n 3, 1) := by decide +kernel
theorem dX10_stuck_164 : decode cX10_stuck 164 = .ok (.iinc 4 1, 3) := by decide +kernel
theorem dX10_stuck_167 : decode cX10_stuck 167 = .ok (.goto (-136), 3) := by decide +kernel
theorem dX10_stuck_170 : decode cX10_stuck 170 = .ok (.iload_n 3, 1) := by decide +kernel
theorem dX10_stuck_171 : decode cX10_stuck 171 = .ok (.ifCond .ne 5, 3) := by decide +kernel
theorem dX10_stuck_174 : decode cX10_stuck 174 = .ok (.iload_n 1, 1) := by decide +kernel
theorem dX10_stuck_175 : decode cX10_stuck 175 = .ok (.ireturn, 1) := by decide +kernel
theorem dX10_stuck_176 : decode cX10_stuck 176 = .ok (.iinc 1 1, 3) := by decide +kernel
theorem dX10_stuck_179 : decode cX10_stuck 179 = .ok (.goto (-173), 3) := by decide +kernel
theorem dX10_stuck_182 : decode cX10_stuck 182 = .ok (.bipush (-2), 2) := by decide +kernel
theorem dX10_stuck_184 : decode cX10_stuck 184 = .ok (.ireturn, 1) := by decide +kernel
theorem dX10_more_0 : decode cX10_more 0 = .ok (.iload_n 0, 1) := by decide +kernel
theorem dX10_more_1 : decode cX10_more 1 = .ok (.iload_n 1, 1) := by decide +kernel
theorem dX10_more_2 : decode cX10_more 2 = .ok (.iadd, 1) := by decide +kernel
theorem dX10_more_3 : decode cX10_more 3 = .ok (.ldc 156, 2) := by decide +kernel
theorem dX10_more_5 : decode cX10_more 5 = .ok (.if_icmp .le 8, 3) := by decide +kernel
theorem dX10_more_8 : decode cX10_more 8 = .ok (.ldc 156, 2) := by decide +kernel
theorem dX10_more_10 : decode cX10_more 10 = .ok (.goto 6, 3) := by decide +kernel
theorem dX10_more_13 : decode cX10_more 13 = .ok (.iload_n 0, 1) := by decide +kernel
theorem dX10_more_14 : decode cX10_more 14 = .ok (.iload_n 1, 1) := by decide +kernel
theorem dX10_more_15 : decode cX10_more 15 = .ok (.iadd, 1) := by decide +kernel
theorem dX10_more_16 : decode cX10_more 16 = .ok (.ireturn, 1) := by decide +kernel
theorem dX10_countChain_0 : decode cX10_countChain 0 = .ok (.iconst 0, 1) := by decide +kernel
theorem dX10_countChain_1 : decode cX10_countChain 1 = .ok (.istore_n 2, 1) := by decide +kernel
theorem dX10_countChain_2 : decode cX10_countChain 2 = .ok (.iload_n 2, 1) := by decide +kernel
theorem dX10_countChain_3 : decode cX10_countChain 3 = .ok (.sipush 301, 3) := by decide +kernel
theorem dX10_countChain_6 : decode cX10_countChain 6 = .ok (.if_icmp .ge 16, 3) := by decide +kernel
theorem dX10_countChain_9 : decode cX10_countChain 9 = .ok (.aload_n 0, 1) := by decide +kernel
theorem dX10_countChain_10 : decode cX10_countChain 10 = .ok (.getfield 57, 3) := by decide +kernel
theorem dX10_countChain_13 : decode cX10_countChain 13 = .ok (.iload_n 2, 1) := by decide +kernel
theorem dX10_countChain_14 : decode cX10_countChain 14 = .ok (.iconst 0, 1) := by decide +kernel
theorem dX10_countChain_15 : decode cX10_countChain 15 = .ok (.iastore, 1) := by decide +kernel
theorem dX10_countChain_16 : decode cX10_countChain 16 = .ok (.iinc 2 1, 3) := by decide +kernel
theorem dX10_countChain_19 : decode cX10_countChain 19 = .ok (.goto (-17), 3) := by decide +kernel
theorem dX10_countChain_22 : decode cX10_countChain 22 = .ok (.aload_n 0, 1) := by decide +kernel
theorem dX10_countChain_23 : decode cX10_countChain 23 = .ok (.iload_n 1, 1) := by decide +kernel
theorem dX10_countChain_24 : decode cX10_countChain 24 = .ok (.invokevirtual 160, 3) := by decide +kernel
theorem dX10_countChain_27 : decode cX10_countChain 27 = .ok (.istore_n 2, 1) := by decide +kernel
theorem dX10_countChain_28 : decode cX10_countChain 28 = .ok (.iload_n 2, 1) := by decide +kernel
theorem dX10_countChain_29 : decode cX10_countChain 29 = .ok (.ifCond .ge 11, 3) := by decide +kernel
theorem dX10_countChain_32 : decode cX10_countChain 32 = .ok (.aload_n 0, 1) := by decide +kernel
theorem dX10_countChain_33 : decode cX10_countChain 33 = .ok (.getfield 57, 3) := by decide +kernel
theorem dX10_countChain_36 : decode cX10_countChain 36 = .ok (.iconst 0, 1) := by decide +kernel
theorem dX10_countChain_37 : decode cX10_countChain 37 = .ok (.iconst 1, 1) := by decide +kernel
theorem dX10_countChain_38 : decode cX10_countChain 38 = .ok (.iastore, 1) := by decide +kernel
theorem dX10_countChain_39 : decode cX10_countChain 39 = .ok (.return_, 1) := by decide +kernel
theorem dX10_countChain_40 : decode cX10_countChain 40 = .ok (.iconst 0, 1) := by decide +kernel
theorem dX10_countChain_41 : decode cX10_countChain 41 = .ok (.istore_n 3, 1) := by decide +kernel
theorem dX10_countChain_42 : decode cX10_countChain 42 = .ok (.aload_n 0, 1) := by decide +kernel
theorem dX10_countChain_43 : decode cX10_countChain 43 = .ok (.iload_n 2, 1) := by decide +kernel
theorem dX10_countChain_44 : decode cX10_countChain 44 = .ok (.invokevirtual 176, 3) := by decide +kernel
theorem dX10_countChain_47 : decode cX10_countChain 47 = .ok (.aload_n 0, 1) := by decide +kernel
theorem dX10_countChain_48 : decode cX10_countChain 48 = .ok (.iload_n 2, 1) := by decide +kernel
theorem dX10_countChain_49 : decode cX10_countChain 49 = .ok (.invokevirtual 150, 3) := by decide +kernel
theorem dX10_countChain_52 : decode cX10_countChain 52 = .ok (.istore 4, 2) := by decide +kernel
theorem dX10_countChain_54 : decode cX10_countChain 54 = .ok (.iload 4, 2) := by decide +kernel
theorem dX10_countChain_56 : decode cX10_countChain 56 = .ok (.ifCond .lt 29, 3) := by decide +kernel
theorem dX10_countChain_59 : decode cX10_countChain 59 = .ok (.aload_n 0, 1) := by decide +kernel
theorem dX10_countChain_60 : decode cX10_countChain 60 = .ok (.iload_n 2, 1) := by decide +kernel
theorem dX10_countChain_61 : decode cX10_countChain 61 = .ok (.iload 4, 2) := by decide +kernel
theorem dX10_countChain_63 : decode cX10_countChain 63 = .ok (.iload_n 3, 1) := by decide +kernel
theorem dX10_countChain_64 : decode cX10_countChain 64 = .ok (.invokevirtual 179, 3) := by decide +kernel
theorem dX10_countChain_67 : decode cX10_countChain 67 = .ok (.iconst 1, 1) := by decide +kernel
theorem dX10_countChain_68 : decode cX10_countChain 68 = .ok (.iload_n 3, 1) := by decide +kernel
theorem dX10_countChain_69 : decode cX10_countChain 69 = .ok (.isub, 1) := by decide +kernel
theorem dX10_countChain_70 : decode cX10_countChain 70 = .ok (.istore_n 3, 1) := by decide +kernel
theorem dX10_countChain_71 : decode cX10_countChain 71 = .ok (.iload 4, 2) := by decide +kernel
theorem dX10_countChain_73 : decode cX10_countChain 73 = .ok (.istore_n 2, 1) := by decide +kernel
theorem dX10_countChain_74 : decode cX10_countChain 74 = .ok (.aload_n 0, 1) := by decide +kernel
theorem dX10_countChain_75 : decode cX10_countChain 75 = .ok (.iload 4, 2) := by decide +kernel
theorem dX10_countChain_77 : decode cX10_countChain 77 = .ok (.invokevirtual 150, 3) := by decide +kernel
theorem dX10_countChain_80 : decode cX10_countChain 80 = .ok (.istore 4, 2) := by decide +kernel
theorem dX10_countChain_82 : decode cX10_countChain 82 = .ok (.goto (-28), 3) := by decide +kernel
theorem dX10_countChain_85 : decode cX10_countChain 85 = .ok (.iconst 0, 1) := by decide +kernel
theorem dX10_countChain_86 : decode cX10_countChain 86 = .ok (.istore 4, 2) := by decide +kernel
theorem dX10_countChain_88 : decode cX10_countChain 88 = .ok (.iload 4, 2) := by decide +kernel
theorem dX10_countChain_90 : decode cX10_countChain 90 = .ok (.aload_n 0, 1) := by decide +kernel
theorem dX10_countChain_91 : decode cX10_countChain 91 = .ok (.getfield 31, 3) := by decide +kernel
theorem dX10_countChain_94 : decode cX10_countChain 94 = .ok (.iload_n 2, 1) := by decide +kernel
theorem dX10_countChain_95 : decode cX10_countChain 95 = .ok (.iaload, 1) := by decide +kernel
theorem dX10_countChain_96 : decode cX10_countChain 96 = .ok (.if_icmp .ge 63, 3) := by decide +kernel
theorem dX10_countChain_99 : decode cX10_countChain 99 = .ok (.iconst 0, 1) := by decide +kernel
theorem dX10_countChain_100 : decode cX10_countChain 100 = .ok (.istore 5, 2) := by decide +kernel
theorem dX10_countChain_102 : decode cX10_countChain 102 = .ok (.iload 5, 2) := by decide +kernel
theorem dX10_countChain_104 : decode cX10_countChain 104 = .ok (.sipush 301, 3) := by decide +kernel
theorem dX10_countChain_107 : decode cX10_countChain 107 = .ok (.if_icmp .ge 46, 3) := by decide +kernel
theorem dX10_countChain_110 : decode cX10_countChain 110 = .ok (.aload_n 0, 1) := by decide +kernel
theorem dX10_countChain_111 : decode cX10_countChain 111 = .ok (.getfield 57, 3) := by decide +kernel
theorem dX10_countChain_114 : decode cX10_countChain 114 = .ok (.iload 5, 2) := by decide +kernel
theorem dX10_countChain_116 : decode cX10_countChain 116 = .ok (.aload_n 0, 1) := by decide +kernel
theorem dX10_countChain_117 : decode cX10_countChain 117 = .ok (.getfield 57, 3) := by decide +kernel
theorem dX10_countChain_120 : decode cX10_countChain 120 = .ok (.iload 5, 2) := by decide +kernel
theorem dX10_countChain_122 : decode cX10_countChain 122 = .ok (.iaload, 1) := by decide +kernel
theorem dX10_countChain_123 : decode cX10_countChain 123 = .ok (.aload_n 0, 1) := by decide +kernel
theorem dX10_countChain_124 : decode cX10_countChain 124 = .ok (.getfield 54, 3) := by decide +kernel
theorem dX10_countChain_127 : decode cX10_countChain 127 = .ok (.sipush 24080, 3) := by decide +kernel
theorem dX10_countChain_130 : decode cX10_countChain 130 = .ok (.iload_n 3, 1) := by decide +kernel
theorem dX10_countChain_131 : decode cX10_countChain 131 = .ok (.imul, 1) := by decide +kernel
theorem dX10_countChain_132 : decode cX10_countChain 132 = .ok (.sipush 301, 3) := by decide +kernel
theorem dX10_countChain_135 : decode cX10_countChain 135 = .ok (.iload 4, 2) := by decide +kernel
theorem dX10_countChain_137 : decode cX10_countChain 137 = .ok (.imul, 1) := by decide +kernel
theorem dX10_countChain_138 : decode cX10_countChain 138 = .ok (.iadd, 1) := by decide +kernel
theorem dX10_countChain_139 : decode cX10_countChain 139 = .ok (.iload 5, 2) := by decide +kernel
theorem dX10_countChain_141 : decode cX10_countChain 141 = .ok (.iadd, 1) := by decide +kernel
theorem dX10_countChain_142 : decode cX10_countChain 142 = .ok (.iaload, 1) := by decide +kernel
theorem dX10_countChain_143 : decode cX10_countChain 143 = .ok (.invokestatic 182, 3) := by decide +kernel
theorem dX10_countChain_146 : decode cX10_countChain 146 = .ok (.iastore, 1) := by decide +kernel
theorem dX10_countChain_147 : decode cX10_countChain 147 = .ok (.iinc 5 1, 3) := by decide +kernel
theorem dX10_countChain_150 : decode cX10_countChain 150 = .ok (.goto (-48), 3) := by decide +kernel
theorem dX10_countChain_153 : decode cX10_countChain 153 = .ok (.iinc 4 1, 3) := by decide +kernel
theorem dX10_countChain_156 : decode cX10_countChain 156 = .ok (.goto (-68), 3) := by decide +kernel
theorem dX10_countChain_159 : decode cX10_countChain 159 = .ok (.return_, 1) := by decide +kernel
theorem dX10_beginCounts_0 : decode cX10_beginCounts 0 = .ok (.iconst 0, 1) := by decide +kernel
theorem dX10_beginCounts_1 : decode cX10_beginCounts 1 = .ok (.istore_n 2, 1) := by decide +kernel
theorem dX10_beginCounts_2 : decode cX10_beginCounts 2 = .ok (.iload_n 2, 1) := by decide +kernel
theorem dX10_beginCounts_3 : decode cX10_beginCounts 3 = .ok (.aload_n 0, 1) := by decide +kernel
theorem dX10_beginCounts_4 : decode cX10_beginCounts 4 = .ok (.getfield 31, 3) := by decide +kernel
theorem dX10_beginCounts_7 : decode cX10_beginCounts 7 = .ok (.iload_n 1, 1) := by decide +kernel
theorem dX10_beginCounts_8 : decode cX10_beginCounts 8 = .ok (.iaload, 1) := by decide +kernel
theorem dX10_beginCounts_9 : decode cX10_beginCounts 9 = .ok (.if_icmp .ge 65, 3) := by decide +kernel
theorem dX10_beginCounts_12 : decode cX10_beginCounts 12 = .ok (.iconst 0, 1) := by decide +kernel
theorem dX10_beginCounts_13 : decode cX10_beginCounts 13 = .ok (.istore_n 3, 1) := by decide +kernel
theorem dX10_beginCounts_14 : decode cX10_beginCounts 14 = .ok (.iload_n 3, 1) := by decide +kernel
theorem dX10_beginCounts_15 : decode cX10_beginCounts 15 = .ok (.sipush 301, 3) := by decide +kernel
theorem dX10_beginCounts_18 : decode cX10_beginCounts 18 = .ok (.if_icmp .ge 50, 3) := by decide +kernel
theorem dX10_beginCounts_21 : decode cX10_beginCounts 21 = .ok (.aload_n 0, 1) := by decide +kernel
theorem dX10_beginCounts_22 : decode cX10_beginCounts 22 = .ok (.getfield 54, 3) := by decide +kernel
theorem dX10_beginCounts_25 : decode cX10_beginCounts 25 = .ok (.sipush 301, 3) := by decide +kernel
theorem dX10_beginCounts_28 : decode cX10_beginCounts 28 = .ok (.iload_n 2, 1) := by decide +kernel
theorem dX10_beginCounts_29 : decode cX10_beginCounts 29 = .ok (.imul, 1) := by decide +kernel
theorem dX10_beginCounts_30 : decode cX10_beginCounts 30 = .ok (.iload_n 3, 1) := by decide +kernel
theorem dX10_beginCounts_31 : decode cX10_beginCounts 31 = .ok (.iadd, 1) := by decide +kernel
theorem dX10_beginCounts_32 : decode cX10_beginCounts 32 = .ok (.aload_n 0, 1) := by decide +kernel
theorem dX10_beginCounts_33 : decode cX10_beginCounts 33 = .ok (.iload_n 1, 1) := by decide +kernel
theorem dX10_beginCounts_34 : decode cX10_beginCounts 34 = .ok (.iload_n 2, 1) := by decide +kernel
theorem dX10_beginCounts_35 : decode cX10_beginCounts 35 = .ok (.invokevirtual 157, 3) := by decide +kernel
theorem dX10_beginCounts_38 : decode cX10_beginCounts 38 = .ok (.ifCond .eq 22, 3) := by decide +kernel
theorem dX10_beginCounts_41 : decode cX10_beginCounts 41 = .ok (.aload_n 0, 1) := by decide +kernel
theorem dX10_beginCounts_42 : decode cX10_beginCounts 42 = .ok (.getfield 40, 3) := by decide +kernel
theorem dX10_beginCounts_45 : decode cX10_beginCounts 45 = .ok (.bipush 80, 2) := by decide +kernel
theorem dX10_beginCounts_47 : decode cX10_beginCounts 47 = .ok (.iload_n 1, 1) := by decide +kernel
theorem dX10_beginCounts_48 : decode cX10_beginCounts 48 = .ok (.imul, 1) := by decide +kernel
theorem dX10_beginCounts_49 : decode cX10_beginCounts 49 = .ok (.iload_n 2, 1) := by decide +kernel
theorem dX10_beginCounts_50 : decode cX10_beginCounts 50 = .ok (.iadd, 1) := by decide +kernel
theorem dX10_beginCounts_51 : decode cX10_beginCounts 51 = .ok (.iaload, 1) := by decide +kernel
theorem dX10_beginCounts_52 : decode cX10_beginCounts 52 = .ok (.iload_n 3, 1) := by decide +kernel
theorem dX10_beginCounts_53 : decode cX10_beginCounts 53 = .ok (.if_icmp .ne 7, 3) := by decide +kernel
theorem dX10_beginCounts_56 : decode cX10_beginCounts 56 = .ok (.iconst 1, 1) := by decide +kernel
theorem dX10_beginCounts_57 : decode cX10_beginCounts 57 = .ok (.goto 4, 3) := by decide +kernel
theorem dX10_beginCounts_60 : decode cX10_beginCounts 60 = .ok (.iconst 0, 1) := by decide +kernel
theorem dX10_beginCounts_61 : decode cX10_beginCounts 61 = .ok (.iastore, 1) := by decide +kernel
theorem dX10_beginCounts_62 : decode cX10_beginCounts 62 = .ok (.iinc 3 1, 3) := by decide +kernel
theorem dX10_beginCounts_65 : decode cX10_beginCounts 65 = .ok (.goto (-51), 3) := by decide +kernel
theorem dX10_beginCounts_68 : decode cX10_beginCounts 68 = .ok (.iinc 2 1, 3) := by decide +kernel
theorem dX10_beginCounts_71 : decode cX10_beginCounts 71 = .ok (.goto (-69), 3) := by decide +kernel
theorem dX10_beginCounts_74 : decode cX10_beginCounts 74 = .ok (.return_, 1) := by decide +kernel
theorem dX10_goOn_0 : decode cX10_goOn 0 = .ok (.sipush 24080, 3) := by decide +kernel
theorem dX10_goOn_3 : decode cX10_goOn 3 = .ok (.iload_n 3, 1) := by decide +kernel
theorem dX10_goOn_4 : decode cX10_goOn 4 = .ok (.imul, 1) := by decide +kernel
theorem dX10_goOn_5 : decode cX10_goOn 5 = .ok (.istore 4, 2) := by decide +kernel
theorem dX10_goOn_7 : decode cX10_goOn 7 = .ok (.sipush 24080, 3) := by decide +kernel
theorem dX10_goOn_10 : decode cX10_goOn 10 = .ok (.iconst 1, 1) := by decide +kernel
theorem dX10_goOn_11 : decode cX10_goOn 11 = .ok (.iload_n 3, 1) := by decide +kernel
theorem dX10_goOn_12 : decode cX10_goOn 12 = .ok (.isub, 1) := by decide +kernel
theorem dX10_goOn_13 : decode cX10_goOn 13 = .ok (.imul, 1) := by decide +kernel
theorem dX10_goOn_14 : decode cX10_goOn 14 = .ok (.istore 5, 2) := by decide +kernel
theorem dX10_goOn_16 : decode cX10_goOn 16 = .ok (.iconst 0, 1) := by decide +kernel
theorem dX10_goOn_17 : decode cX10_goOn 17 = .ok (.istore 6, 2) := by decide +kernel
theorem dX10_goOn_19 : decode cX10_goOn 19 = .ok (.iload 6, 2) := by decide +kernel
theorem dX10_goOn_21 : decode cX10_goOn 21 = .ok (.aload_n 0, 1) := by decide +kernel
theorem dX10_goOn_22 : decode cX10_goOn 22 = .ok (.getfield 31, 3) := by decide +kernel
theorem dX10_goOn_25 : decode cX10_goOn 25 = .ok (.iload_n 2, 1) := by decide +kernel
theorem dX10_goOn_26 : decode cX10_goOn 26 = .ok (.iaload, 1) := by decide +kernel
theorem dX10_goOn_27 : decode cX10_goOn 27 = .ok (.if_icmp .ge 188, 3) := by decide +kernel
theorem dX10_goOn_30 : decode cX10_goOn 30 = .ok (.iconst 0, 1) := by decide +kernel
theorem dX10_goOn_31 : decode cX10_goOn 31 = .ok (.istore 7, 2) := by decide +kernel
theorem dX10_goOn_33 : decode cX10_goOn 33 = .ok (.iload 7, 2) := by decide +kernel
theorem dX10_goOn_35 : decode cX10_goOn 35 = .ok (.sipush 301, 3) := by decide +kernel
theorem dX10_goOn_38 : decode cX10_goOn 38 = .ok (.if_icmp .ge 27, 3) := by decide +kernel
theorem dX10_goOn_41 : decode cX10_goOn 41 = .ok (.aload_n 0, 1) := by decide +kernel
theorem dX10_goOn_42 : decode cX10_goOn 42 = .ok (.getfield 54, 3) := by decide +kernel
theorem dX10_goOn_45 : decode cX10_goOn 45 = .ok (.iload 5, 2) := by decide +kernel
theorem dX10_goOn_47 : decode cX10_goOn 47 = .ok (.sipush 301, 3) := by decide +kernel
theorem dX10_goOn_50 : decode cX10_goOn 50 = .ok (.iload 6, 2) := by decide +kernel
theorem dX10_goOn_52 : decode cX10_goOn 52 = .ok (.imul, 1) := by decide +kernel
theorem dX10_goOn_53 : decode cX10_goOn 53 = .ok (.iadd, 1) := by decide +kernel
theorem dX10_goOn_54 : decode cX10_goOn 54 = .ok (.iload 7, 2) := by decide +kernel
theorem dX10_goOn_56 : decode cX10_goOn 56 = .ok (.iadd, 1) := by decide +kernel
theorem dX10_goOn_57 : decode cX10_goOn 57 = .ok (.iconst 0, 1) := by decide +kernel
theorem dX10_goOn_58 : decode cX10_goOn 58 = .ok (.iastore, 1) := by decide +kernel
theorem dX10_goOn_59 : decode cX10_goOn 59 = .ok (.iinc 7 1, 3) := by decide +kernel
theorem dX10_goOn_62 : decode cX10_goOn 62 = .ok (.goto (-29), 3) := by decide +kernel
theorem dX10_goOn_65 : decode cX10_goOn 65 = .ok (.iconst 0, 1) := by decide +kernel
theorem dX10_goOn_66 : decode cX10_goOn 66 = .ok (.istore 7, 2) := by decide +kernel
theorem dX10_goOn_68 : decode cX10_goOn 68 = .ok (.iload 7, 2) := by decide +kernel
theorem dX10_goOn_70 : decode cX10_goOn 70 = .ok (.aload_n 0, 1) := by decide +kernel
theorem dX10_goOn_71 : decode cX10_goOn 71 = .ok (.getfield 31, 3) := by decide +kernel
theorem dX10_goOn_74 : decode cX10_goOn 74 = .ok (.iload_n 1, 1) := by decide +kernel
theorem dX10_goOn_75 : decode cX10_goOn 75 = .ok (.iaload, 1) := by decide +kernel
theorem dX10_goOn_76 : decode cX10_goOn 76 = .ok (.if_icmp .ge 133, 3) := by decide +kernel
theorem dX10_goOn_79 : decode cX10_goOn 79 = .ok (.aload_n 0, 1) := by decide +kernel
theorem dX10_goOn_80 : decode cX10_goOn 80 = .ok (.iload_n 2, 1) := by decide +kernel
theorem dX10_goOn_81 : decode cX10_goOn 81 = .ok (.iload 6, 2) := by decide +kernel
theorem dX10_goOn_83 : decode cX10_goOn 83 = .ok (.invokevirtual 157, 3) := by decide +kernel
theorem dX10_goOn_86 : decode cX10_goOn 86 = .ok (.ifCond .eq 123, 3) := by decide +kernel
theorem dX10_goOn_89 : decode cX10_goOn 89 = .ok (.aload_n 0, 1) := by decide +kernel
theorem dX10_goOn_90 : decode cX10_goOn 90 = .ok (.iload_n 1, 1) := by decide +kernel
theorem dX10_goOn_91 : decode cX10_goOn 91 = .ok (.iload 7, 2) := by decide +kernel
theorem dX10_goOn_93 : decode cX10_goOn 93 = .ok (.iload_n 2, 1) := by decide +kernel
theorem dX10_goOn_94 : decode cX10_goOn 94 = .ok (.iload 6, 2) := by decide +kernel
theorem dX10_goOn_96 : decode cX10_goOn 96 = .ok (.invokevirtual 153, 3) := by decide +kernel
theorem dX10_goOn_99 : decode cX10_goOn 99 = .ok (.istore 8, 2) := by decide +kernel
theorem dX10_goOn_101 : decode cX10_goOn 101 = .ok (.iload 8, 2) := by decide +kernel
theorem dX10_goOn_103 : decode cX10_goOn 103 = .ok (.aload_n 0, 1) := by decide +kernel
theorem dX10_goOn_104 : decode cX10_goOn 104 = .ok (.getfield 40, 3) := by decide +kernel
theorem dX10_goOn_107 : decode cX10_goOn 107 = .ok (.bipush 80, 2) := by decide +kernel
theorem dX10_goOn_109 : decode cX10_goOn 109 = .ok (.iload_n 2, 1) := by decide +kernel
theorem dX10_goOn_110 : decode cX10_goOn 110 = .ok (.imul, 1) := by decide +kernel
theorem dX10_goOn_111 : decode cX10_goOn 111 = .ok (.iload 6, 2) := by decide +kernel
theorem dX10_goOn_113 : decode cX10_goOn 113 = .ok (.iadd, 1) := by decide +kernel
theorem dX10_goOn_114 : decode cX10_goOn 114 = .ok (.iaload, 1) := by decide +kernel
theorem dX10_goOn_115 : decode cX10_goOn 115 = .ok (.iadd, 1) := by decide +kernel
theorem dX10_goOn_116 : decode cX10_goOn 116 = .ok (.istore 9, 2) := by decide +kernel
theorem dX10_goOn_118 : decode cX10_goOn 118 = .ok (.iconst 0, 1) := by decide +kernel
theorem dX10_goOn_119 : decode cX10_goOn 119 = .ok (.istore 10, 2) := by decide +kernel
theorem dX10_goOn_121 : decode cX10_goOn 121 = .ok (.iload 8, 2) := by decide +kernel
theorem dX10_goOn_123 : decode cX10_goOn 123 = .ok (.ifCond .lt 80, 3) := by decide +kernel
theorem dX10_goOn_126 : decode cX10_goOn 126 = .ok (.iload 10, 2) := by decide +kernel
theorem dX10_goOn_128 : decode cX10_goOn 128 = .ok (.iload 9, 2) := by decide +kernel
theorem dX10_goOn_130 : decode cX10_goOn 130 = .ok (.iadd, 1) := by decide +kernel
theorem dX10_goOn_131 : decode cX10_goOn 131 = .ok (.sipush 301, 3) := by decide +kernel
theorem dX10_goOn_134 : decode cX10_goOn 134 = .ok (.if_icmp .ge 69, 3) := by decide +kernel
theorem dX10_goOn_137 : decode cX10_goOn 137 = .ok (.aload_n 0, 1) := by decide +kernel
theorem dX10_goOn_138 : decode cX10_goOn 138 = .ok (.getfield 54, 3) := by decide +kernel
theorem dX10_goOn_141 : decode cX10_goOn 141 = .ok (.iload 5, 2) := by decide +kernel
theorem dX10_goOn_143 : decode cX10_goOn 143 = .ok (.sipush 301, 3) := by decide +kernel
theorem dX10_goOn_146 : decode cX10_goOn 146 = .ok (.iload 6, 2) := by decide +kernel
theorem dX10_goOn_148 : decode cX10_goOn 148 = .ok (.imul, 1) := by decide +kernel
theorem dX10_goOn_149 : decode cX10_goOn 149 = .ok (.iadd, 1) := by decide +kernel
theorem dX10_goOn_150 : decode cX10_goOn 150 = .ok (.iload 10, 2) := by decide +kernel
theorem dX10_goOn_152 : decode cX10_goOn 152 = .ok (.iadd, 1) := by decide +kernel
theorem dX10_goOn_153 : decode cX10_goOn 153 = .ok (.iload 9, 2) := by decide +kernel
theorem dX10_goOn_155 : decode cX10_goOn 155 = .ok (.iadd, 1) := by decide +kernel
theorem dX10_goOn_156 : decode cX10_goOn 156 = .ok (.aload_n 0, 1) := by decide +kernel
theorem dX10_goOn_157 : decode cX10_goOn 157 = .ok (.getfield 54, 3) := by decide +kernel
theorem dX10_goOn_160 : decode cX10_goOn 160 = .ok (.iload 5, 2) := by decide +kernel
theorem dX10_goOn_162 : decode cX10_goOn 162 = .ok (.sipush 301, 3) := by decide +kernel
theorem dX10_goOn_165 : decode cX10_goOn 165 = .ok (.iload 6, 2) := by decide +kernel
theorem dX10_goOn_167 : decode cX10_goOn 167 = .ok (.imul, 1) := by decide +kernel
theorem dX10_goOn_168 : decode cX10_goOn 168 = .ok (.iadd, 1) := by decide +kernel
theorem dX10_goOn_169 : decode cX10_goOn 169 = .ok (.iload 10, 2) := by decide +kernel
theorem dX10_goOn_171 : decode cX10_goOn 171 = .ok (.iadd, 1) := by decide +kernel
theorem dX10_goOn_172 : decode cX10_goOn 172 = .ok (.iload 9, 2) := by decide +kernel
theorem dX10_goOn_174 : decode cX10_goOn 174 = .ok (.iadd, 1) := by decide +kernel
theorem dX10_goOn_175 : decode cX10_goOn 175 = .ok (.iaload, 1) := by decide +kernel
theorem dX10_goOn_176 : decode cX10_goOn 176 = .ok (.aload_n 0, 1) := by decide +kernel
theorem dX10_goOn_177 : decode cX10_goOn 177 = .ok (.getfield 54, 3) := by decide +kernel
theorem dX10_goOn_180 : decode cX10_goOn 180 = .ok (.iload 4, 2) := by decide +kernel
theorem dX10_goOn_182 : decode cX10_goOn 182 = .ok (.sipush 301, 3) := by decide +kernel
theorem dX10_goOn_185 : decode cX10_goOn 185 = .ok (.iload 7, 2) := by decide +kernel
theorem dX10_goOn_187 : decode cX10_goOn 187 = .ok (.imul, 1) := by decide +kernel
theorem dX10_goOn_188 : decode cX10_goOn 188 = .ok (.iadd, 1) := by decide +kernel
theorem dX10_goOn_189 : decode cX10_goOn 189 = .ok (.iload 10, 2) := by decide +kernel
theorem dX10_goOn_191 : decode cX10_goOn 191 = .ok (.iadd, 1) := by decide +kernel
theorem dX10_goOn_192 : decode cX10_goOn 192 = .ok (.iaload, 1) := by decide +kernel
theorem dX10_goOn_193 : decode cX10_goOn 193 = .ok (.invokestatic 182, 3) := by decide +kernel
theorem dX10_goOn_196 : decode cX10_goOn 196 = .ok (.iastore, 1) := by decide +kernel
theorem dX10_goOn_197 : decode cX10_goOn 197 = .ok (.iinc 10 1, 3) := by decide +kernel
theorem dX10_goOn_200 : decode cX10_goOn 200 = .ok (.goto (-79), 3) := by decide +kernel
theorem dX10_goOn_203 : decode cX10_goOn 203 = .ok (.iinc 7 1, 3) := by decide +kernel
theorem dX10_goOn_206 : decode cX10_goOn 206 = .ok (.goto (-138), 3) := by decide +kernel
theorem dX10_goOn_209 : decode cX10_goOn 209 = .ok (.iinc 6 1, 3) := by decide +kernel
theorem dX10_goOn_212 : decode cX10_goOn 212 = .ok (.goto (-193), 3) := by decide +kernel
theorem dX10_goOn_215 : decode cX10_goOn 215 = .ok (.return_, 1) := by decide +kernel
theorem dX10_ways_0 : decode cX10_ways 0 = .ok (.iload_n 1, 1) := by decide +kernel
theorem dX10_ways_1 : decode cX10_ways 1 = .ok (.iconst 0, 1) := by decide +kernel
theorem dX10_ways_2 : decode cX10_ways 2 = .ok (.sipush 300, 3) := by decide +kernel
theorem dX10_ways_5 : decode cX10_ways 5 = .ok (.invokestatic 70, 3) := by decide +kernel
theorem dX10_ways_8 : decode cX10_ways 8 = .ok (.ifCond .ne 5, 3) := by decide +kernel
theorem dX10_ways_11 : decode cX10_ways 11 = .ok (.iconst (-1), 1) := by decide +kernel
theorem dX10_ways_12 : decode cX10_ways 12 = .ok (.ireturn, 1) := by decide +kernel
theorem dX10_ways_13 : decode cX10_ways 13 = .ok (.aload_n 0, 1) := by decide +kernel
theorem dX10_ways_14 : decode cX10_ways 14 = .ok (.invokevirtual 131, 3) := by decide +kernel
theorem dX10_ways_17 : decode cX10_ways 17 = .ok (.aload_n 0, 1) := by decide +kernel
theorem dX10_ways_18 : decode cX10_ways 18 = .ok (.iconst 0, 1) := by decide +kernel
theorem dX10_ways_19 : decode cX10_ways 19 = .ok (.invokevirtual 185, 3) := by decide +kernel
theorem dX10_ways_22 : decode cX10_ways 22 = .ok (.iconst 0, 1) := by decide +kernel
theorem dX10_ways_23 : decode cX10_ways 23 = .ok (.istore_n 2, 1) := by decide +kernel
theorem dX10_ways_24 : decode cX10_ways 24 = .ok (.iload_n 2, 1) := by decide +kernel
theorem dX10_ways_25 : decode cX10_ways 25 = .ok (.sipush 301, 3) := by decide +kernel
theorem dX10_ways_28 : decode cX10_ways 28 = .ok (.if_icmp .ge 21, 3) := by decide +kernel
theorem dX10_ways_31 : decode cX10_ways 31 = .ok (.aload_n 0, 1) := by decide +kernel
theorem dX10_ways_32 : decode cX10_ways 32 = .ok (.getfield 60, 3) := by decide +kernel
theorem dX10_ways_35 : decode cX10_ways 35 = .ok (.iload_n 2, 1) := by decide +kernel
theorem dX10_ways_36 : decode cX10_ways 36 = .ok (.aload_n 0, 1) := by decide +kernel
theorem dX10_ways_37 : decode cX10_ways 37 = .ok (.getfield 57, 3) := by decide +kernel
theorem dX10_ways_40 : decode cX10_ways 40 = .ok (.iload_n 2, 1) := by decide +kernel
theorem dX10_ways_41 : decode cX10_ways 41 = .ok (.iaload, 1) := by decide +kernel
theorem dX10_ways_42 : decode cX10_ways 42 = .ok (.iastore, 1) := by decide +kernel
theorem dX10_ways_43 : decode cX10_ways 43 = .ok (.iinc 2 1, 3) := by decide +kernel
theorem dX10_ways_46 : decode cX10_ways 46 = .ok (.goto (-22), 3) := by decide +kernel
theorem dX10_ways_49 : decode cX10_ways 49 = .ok (.aload_n 0, 1) := by decide +kernel
theorem dX10_ways_50 : decode cX10_ways 50 = .ok (.iconst 1, 1) := by decide +kernel
theorem dX10_ways_51 : decode cX10_ways 51 = .ok (.invokevirtual 185, 3) := by decide +kernel
theorem dX10_ways_54 : decode cX10_ways 54 = .ok (.lconst 0, 1) := by decide +kernel
theorem dX10_ways_55 : decode cX10_ways 55 = .ok (.lstore_n 2, 1) := by decide +kernel
theorem dX10_ways_56 : decode cX10_ways 56 = .ok (.iconst 0, 1) := by decide +kernel
theorem dX10_ways_57 : decode cX10_ways 57 = .ok (.istore 4, 2) := by decide +kernel
theorem dX10_ways_59 : decode cX10_ways 59 = .ok (.iload 4, 2) := by decide +kernel
theorem dX10_ways_61 : decode cX10_ways 61 = .ok (.iload_n 1, 1) := by decide +kernel
theorem dX10_ways_62 : decode cX10_ways 62 = .ok (.if_icmp .gt 64, 3) := by decide +kernel
theorem dX10_ways_65 : decode cX10_ways 65 = .ok (.iconst 0, 1) := by decide +kernel
theorem dX10_ways_66 : decode cX10_ways 66 = .ok (.istore 5, 2) := by decide +kernel
theorem dX10_ways_68 : decode cX10_ways 68 = .ok (.iload 5, 2) := by decide +kernel
theorem dX10_ways_70 : decode cX10_ways 70 = .ok (.iload 4, 2) := by decide +kernel
theorem dX10_ways_72 : decode cX10_ways 72 = .ok (.if_icmp .gt 48, 3) := by decide +kernel
theorem dX10_ways_75 : decode cX10_ways 75 = .ok (.lload_n 2, 1) := by decide +kernel
theorem dX10_ways_76 : decode cX10_ways 76 = .ok (.aload_n 0, 1) := by decide +kernel
theorem dX10_ways_77 : decode cX10_ways 77 = .ok (.getfield 60, 3) := by decide +kernel
theorem dX10_ways_80 : decode cX10_ways 80 = .ok (.iload 5, 2) := by decide +kernel
theorem dX10_ways_82 : decode cX10_ways 82 = .ok (.iaload, 1) := by decide +kernel
theorem dX10_ways_83 : decode cX10_ways 83 = .ok (.i2l, 1) := by decide +kernel
theorem dX10_ways_84 : decode cX10_ways 84 = .ok (.aload_n 0, 1) := by decide +kernel
theorem dX10_ways_85 : decode cX10_ways 85 = .ok (.getfield 57, 3) := by decide +kernel
theorem dX10_ways_88 : decode cX10_ways 88 = .ok (.iload 4, 2) := by decide +kernel
theorem dX10_ways_90 : decode cX10_ways 90 = .ok (.iload 5, 2) := by decide +kernel
theorem dX10_ways_92 : decode cX10_ways 92 = .ok (.isub, 1) := by decide +kernel
theorem dX10_ways_93 : decode cX10_ways 93 = .ok (.iaload, 1) := by decide +kernel
theorem dX10_ways_94 : decode cX10_ways 94 = .ok (.i2l, 1) := by decide +kernel
theorem dX10_ways_95 : decode cX10_ways 95 = .ok (.lmul, 1) := by decide +kernel
theorem dX10_ways_96 : decode cX10_ways 96 = .ok (.ladd, 1) := by decide +kernel
theorem dX10_ways_97 : decode cX10_ways 97 = .ok (.lstore_n 2, 1) := by decide +kernel
theorem dX10_ways_98 : decode cX10_ways 98 = .ok (.lload_n 2, 1) := by decide +kernel
theorem dX10_ways_99 : decode cX10_ways 99 = .ok (.ldc2_w 188, 3) := by decide +kernel
theorem dX10_ways_102 : decode cX10_ways 102 = .ok (.lcmp, 1) := by decide +kernel
theorem dX10_ways_103 : decode cX10_ways 103 = .ok (.ifCond .le 9, 3) := by decide +kernel
theorem dX10_ways_106 : decode cX10_ways 106 = .ok (.ldc2_w 188, 3) := by decide +kernel
theorem dX10_ways_109 : decode cX10_ways 109 = .ok (.goto 4, 3) := by decide +kernel
theorem dX10_ways_112 : decode cX10_ways 112 = .ok (.lload_n 2, 1) := by decide +kernel
theorem dX10_ways_113 : decode cX10_ways 113 = .ok (.lstore_n 2, 1) := by decide +kernel
theorem dX10_ways_114 : decode cX10_ways 114 = .ok (.iinc 5 1, 3) := by decide +kernel
theorem dX10_ways_117 : decode cX10_ways 117 = .ok (.goto (-49), 3) := by decide +kernel
theorem dX10_ways_120 : decode cX10_ways 120 = .ok (.iinc 4 1, 3) := by decide +kernel
theorem dX10_ways_123 : decode cX10_ways 123 = .ok (.goto (-64), 3) := by decide +kernel
theorem dX10_ways_126 : decode cX10_ways 126 = .ok (.lload_n 2, 1) := by decide +kernel
theorem dX10_ways_127 : decode cX10_ways 127 = .ok (.l2i, 1) := by decide +kernel
theorem dX10_ways_128 : decode cX10_ways 128 = .ok (.ireturn, 1) := by decide +kernel
theorem dX10_told_0 : decode cX10_told 0 = .ok (.iload_n 1, 1) := by decide +kernel
theorem dX10_told_1 : decode cX10_told 1 = .ok (.iconst 0, 1) := by decide +kernel
theorem dX10_told_2 : decode cX10_told 2 = .ok (.iconst 4, 1) := by decide +kernel
theorem dX10_told_3 : decode cX10_told 3 = .ok (.invokestatic 70, 3) := by decide +kernel
theorem dX10_told_6 : decode cX10_told 6 = .ok (.ifCond .ne 5, 3) := by decide +kernel
theorem dX10_told_9 : decode cX10_told 9 = .ok (.iconst (-1), 1) := by decide +kernel
theorem dX10_told_10 : decode cX10_told 10 = .ok (.ireturn, 1) := by decide +kernel
theorem dX10_told_11 : decode cX10_told 11 = .ok (.iconst 0, 1) := by decide +kernel
theorem dX10_told_12 : decode cX10_told 12 = .ok (.istore_n 2, 1) := by decide +kernel
theorem dX10_told_13 : decode cX10_told 13 = .ok (.iconst 0, 1) := by decide +kernel
theorem dX10_told_14 : decode cX10_told 14 = .ok (.istore_n 3, 1) := by decide +kernel
theorem dX10_told_15 : decode cX10_told 15 = .ok (.iload_n 3, 1) := by decide +kernel
theorem dX10_told_16 : decode cX10_told 16 = .ok (.aload_n 0, 1) := by decide +kernel
theorem dX10_told_17 : decode cX10_told 17 = .ok (.getfield 67, 3) := by decide +kernel
theorem dX10_told_20 : decode cX10_told 20 = .ok (.if_icmp .ge 52, 3) := by decide +kernel
theorem dX10_told_23 : decode cX10_told 23 = .ok (.iload_n 2, 1) := by decide +kernel
theorem dX10_told_24 : decode cX10_told 24 = .ok (.iload_n 1, 1) := by decide +kernel
theorem dX10_told_25 : decode cX10_told 25 = .ok (.ifCond .eq 34, 3) := by decide +kernel
theorem dX10_told_28 : decode cX10_told 28 = .ok (.iload_n 1, 1) := by decide +kernel
theorem dX10_told_29 : decode cX10_told 29 = .ok (.iconst 3, 1) := by decide +kernel
theorem dX10_told_30 : decode cX10_told 30 = .ok (.if_icmp .ge 15, 3) := by decide +kernel
theorem dX10_told_33 : decode cX10_told 33 = .ok (.aload_n 0, 1) := by decide +kernel
theorem dX10_told_34 : decode cX10_told 34 = .ok (.getfield 7, 3) := by decide +kernel
theorem dX10_told_37 : decode cX10_told 37 = .ok (.iload_n 3, 1) := by decide +kernel
theorem dX10_told_38 : decode cX10_told 38 = .ok (.iaload, 1) := by decide +kernel
theorem dX10_told_39 : decode cX10_told 39 = .ok (.iload_n 1, 1) := by decide +kernel
theorem dX10_told_40 : decode cX10_told 40 = .ok (.iconst 1, 1) := by decide +kernel
theorem dX10_told_41 : decode cX10_told 41 = .ok (.isub, 1) := by decide +kernel
theorem dX10_told_42 : decode cX10_told 42 = .ok (.if_icmp .eq 17, 3) := by decide +kernel
theorem dX10_told_45 : decode cX10_told 45 = .ok (.iload_n 1, 1) := by decide +kernel
theorem dX10_told_46 : decode cX10_told 46 = .ok (.iconst 4, 1) := by decide +kernel
theorem dX10_told_47 : decode cX10_told 47 = .ok (.if_icmp .ne 16, 3) := by decide +kernel
theorem dX10_told_50 : decode cX10_told 50 = .ok (.aload_n 0, 1) := by decide +kernel
theorem dX10_told_51 : decode cX10_told 51 = .ok (.getfield 25, 3) := by decide +kernel
theorem dX10_told_54 : decode cX10_told 54 = .ok (.iload_n 3, 1) := by decide +kernel
theorem dX10_told_55 : decode cX10_told 55 = .ok (.iaload, 1) := by decide +kernel
theorem dX10_told_56 : decode cX10_told 56 = .ok (.ifCond .lt 7, 3) := by decide +kernel
theorem dX10_told_59 : decode cX10_told 59 = .ok (.iconst 1, 1) := by decide +kernel
theorem dX10_told_60 : decode cX10_told 60 = .ok (.goto 4, 3) := by decide +kernel
theorem dX10_told_63 : decode cX10_told 63 = .ok (.iconst 0, 1) := by decide +kernel
theorem dX10_told_64 : decode cX10_told 64 = .ok (.iadd, 1) := by decide +kernel
theorem dX10_told_65 : decode cX10_told 65 = .ok (.istore_n 2, 1) := by decide +kernel
theorem dX10_told_66 : decode cX10_told 66 = .ok (.iinc 3 1, 3) := by decide +kernel
theorem dX10_told_69 : decode cX10_told 69 = .ok (.goto (-54), 3) := by decide +kernel
theorem dX10_told_72 : decode cX10_told 72 = .ok (.iload_n 1, 1) := by decide +kernel
theorem dX10_told_73 : decode cX10_told 73 = .ok (.iconst 3, 1) := by decide +kernel
theorem dX10_told_74 : decode cX10_told 74 = .ok (.if_icmp .ne 10, 3) := by decide +kernel
theorem dX10_told_77 : decode cX10_told 77 = .ok (.aload_n 0, 1) := by decide +kernel
theorem dX10_told_78 : decode cX10_told 78 = .ok (.getfield 63, 3) := by decide +kernel
theorem dX10_told_81 : decode cX10_told 81 = .ok (.goto 4, 3) := by decide +kernel
theorem dX10_told_84 : decode cX10_told 84 = .ok (.iload_n 2, 1) := by decide +kernel
theorem dX10_told_85 : decode cX10_told 85 = .ok (.ireturn, 1) := by decide +kernel
theorem dX10_about_0 : decode cX10_about 0 = .ok (.iload_n 1, 1) := by decide +kernel
theorem dX10_about_1 : decode cX10_about 1 = .ok (.iconst 0, 1) := by decide +kernel
theorem dX10_about_2 : decode cX10_about 2 = .ok (.aload_n 0, 1) := by decide +kernel
theorem dX10_about_3 : decode cX10_about 3 = .ok (.getfield 67, 3) := by decide +kernel
theorem dX10_about_6 : decode cX10_about 6 = .ok (.iconst 1, 1) := by decide +kernel
theorem dX10_about_7 : decode cX10_about 7 = .ok (.isub, 1) := by decide +kernel
theorem dX10_about_8 : decode cX10_about 8 = .ok (.invokestatic 70, 3) := by decide +kernel
theorem dX10_about_11 : decode cX10_about 11 = .ok (.ifCond .eq 13, 3) := by decide +kernel
theorem dX10_about_14 : decode cX10_about 14 = .ok (.iload_n 2, 1) := by decide +kernel
theorem dX10_about_15 : decode cX10_about 15 = .ok (.iconst 0, 1) := by decide +kernel
theorem dX10_about_16 : decode cX10_about 16 = .ok (.bipush 7, 2) := by decide +kernel
theorem dX10_about_18 : decode cX10_about 18 = .ok (.invokestatic 70, 3) := by decide +kernel
theorem dX10_about_21 : decode cX10_about 21 = .ok (.ifCond .ne 5, 3) := by decide +kernel
theorem dX10_about_24 : decode cX10_about 24 = .ok (.iconst (-1), 1) := by decide +kernel
theorem dX10_about_25 : decode cX10_about 25 = .ok (.ireturn, 1) := by decide +kernel
theorem dX10_about_26 : decode cX10_about 26 = .ok (.iload_n 2, 1) := by decide +kernel
theorem dX10_about_27 : decode cX10_about 27 = .ok (.tableswitch 80 0 7 #[45, 52, 59, 66, 80, 80, 80, 73], 45) := by decide +kernel
theorem dX10_about_72 : decode cX10_about 72 = .ok (.aload_n 0, 1) := by decide +kernel
theorem dX10_about_73 : decode cX10_about 73 = .ok (.getfield 7, 3) := by decide +kernel
theorem dX10_about_76 : decode cX10_about 76 = .ok (.iload_n 1, 1) := by decide +kernel
theorem dX10_about_77 : decode cX10_about 77 = .ok (.iaload, 1) := by decide +kernel
theorem dX10_about_78 : decode cX10_about 78 = .ok (.ireturn, 1) := by decide +kernel
theorem dX10_about_79 : decode cX10_about 79 = .ok (.aload_n 0, 1) := by decide +kernel
theorem dX10_about_80 : decode cX10_about 80 = .ok (.getfield 13, 3) := by decide +kernel
theorem dX10_about_83 : decode cX10_about 83 = .ok (.iload_n 1, 1) := by decide +kernel
theorem dX10_about_84 : decode cX10_about 84 = .ok (.iaload, 1) := by decide +kernel
theorem dX10_about_85 : decode cX10_about 85 = .ok (.ireturn, 1) := by decide +kernel
theorem dX10_about_86 : decode cX10_about 86 = .ok (.aload_n 0, 1) := by decide +kernel
theorem dX10_about_87 : decode cX10_about 87 = .ok (.getfield 16, 3) := by decide +kernel
theorem dX10_about_90 : decode cX10_about 90 = .ok (.iload_n 1, 1) := by decide +kernel
theorem dX10_about_91 : decode cX10_about 91 = .ok (.iaload, 1) := by decide +kernel
theorem dX10_about_92 : decode cX10_about 92 = .ok (.ireturn, 1) := by decide +kernel
theorem dX10_about_93 : decode cX10_about 93 = .ok (.aload_n 0, 1) := by decide +kernel
theorem dX10_about_94 : decode cX10_about 94 = .ok (.getfield 19, 3) := by decide +kernel
theorem dX10_about_97 : decode cX10_about 97 = .ok (.iload_n 1, 1) := by decide +kernel
theorem dX10_about_98 : decode cX10_about 98 = .ok (.iaload, 1) := by decide +kernel
theorem dX10_about_99 : decode cX10_about 99 = .ok (.ireturn, 1) := by decide +kernel
theorem dX10_about_100 : decode cX10_about 100 = .ok (.aload_n 0, 1) := by decide +kernel
theorem dX10_about_101 : decode cX10_about 101 = .ok (.getfield 25, 3) := by decide +kernel
theorem dX10_about_104 : decode cX10_about 104 = .ok (.iload_n 1, 1) := by decide +kernel
theorem dX10_about_105 : decode cX10_about 105 = .ok (.iaload, 1) := by decide +kernel
theorem dX10_about_106 : decode cX10_about 106 = .ok (.ireturn, 1) := by decide +kernel
theorem dX10_about_107 : decode cX10_about 107 = .ok (.aload_n 0, 1) := by decide +kernel
theorem dX10_about_108 : decode cX10_about 108 = .ok (.getfield 22, 3) := by decide +kernel
theorem dX10_about_111 : decode cX10_about 111 = .ok (.iconst 3, 1) := by decide +kernel
theorem dX10_about_112 : decode cX10_about 112 = .ok (.iload_n 1, 1) := by decide +kernel
theorem dX10_about_113 : decode cX10_about 113 = .ok (.imul, 1) := by decide +kernel
theorem dX10_about_114 : decode cX10_about 114 = .ok (.iload_n 2, 1) := by decide +kernel
theorem dX10_about_115 : decode cX10_about 115 = .ok (.iadd, 1) := by decide +kernel
theorem dX10_about_116 : decode cX10_about 116 = .ok (.iconst 4, 1) := by decide +kernel
theorem dX10_about_117 : decode cX10_about 117 = .ok (.isub, 1) := by decide +kernel
theorem dX10_about_118 : decode cX10_about 118 = .ok (.iaload, 1) := by decide +kernel
theorem dX10_about_119 : decode cX10_about 119 = .ok (.ireturn, 1) := by decide +kernel
theorem dJ6_bitCount_0f7a4_0 : decode cJ6_bitCount_0f7a4 0 = .ok (.iload_n 0, 1) := by decide +kernel
theorem dJ6_bitCount_0f7a4_1 : decode cJ6_bitCount_0f7a4 1 = .ok (.iload_n 0, 1) := by decide +kernel
theorem dJ6_bitCount_0f7a4_2 : decode cJ6_bitCount_0f7a4 2 = .ok (.iconst 1, 1) := by decide +kernel
theorem dJ6_bitCount_0f7a4_3 : decode cJ6_bitCount_0f7a4 3 = .ok (.iushr, 1) := by decide +kernel
theorem dJ6_bitCount_0f7a4_4 : decode cJ6_bitCount_0f7a4 4 = .ok (.ldc_w 265, 3) := by decide +kernel
theorem dJ6_bitCount_0f7a4_7 : decode cJ6_bitCount_0f7a4 7 = .ok (.iand, 1) := by decide +kernel
theorem dJ6_bitCount_0f7a4_8 : decode cJ6_bitCount_0f7a4 8 = .ok (.isub, 1) := by decide +kernel
theorem dJ6_bitCount_0f7a4_9 : decode cJ6_bitCount_0f7a4 9 = .ok (.istore_n 0, 1) := by decide +kernel
theorem dJ6_bitCount_0f7a4_10 : decode cJ6_bitCount_0f7a4 10 = .ok (.iload_n 0, 1) := by decide +kernel
theorem dJ6_bitCount_0f7a4_11 : decode cJ6_bitCount_0f7a4 11 = .ok (.ldc_w 266, 3) := by decide +kernel
theorem dJ6_bitCount_0f7a4_14 : decode cJ6_bitCount_0f7a4 14 = .ok (.iand, 1) := by decide +kernel
theorem dJ6_bitCount_0f7a4_15 : decode cJ6_bitCount_0f7a4 15 = .ok (.iload_n 0, 1) := by decide +kernel
theorem dJ6_bitCount_0f7a4_16 : decode cJ6_bitCount_0f7a4 16 = .ok (.iconst 2, 1) := by decide +kernel
theorem dJ6_bitCount_0f7a4_17 : decode cJ6_bitCount_0f7a4 17 = .ok (.iushr, 1) := by decide +kernel
theorem dJ6_bitCount_0f7a4_18 : decode cJ6_bitCount_0f7a4 18 = .ok (.ldc_w 266, 3) := by decide +kernel
theorem dJ6_bitCount_0f7a4_21 : decode cJ6_bitCount_0f7a4 21 = .ok (.iand, 1) := by decide +kernel
theorem dJ6_bitCount_0f7a4_22 : decode cJ6_bitCount_0f7a4 22 = .ok (.iadd, 1) := by decide +kernel
theorem dJ6_bitCount_0f7a4_23 : decode cJ6_bitCount_0f7a4 23 = .ok (.istore_n 0, 1) := by decide +kernel
theorem dJ6_bitCount_0f7a4_24 : decode cJ6_bitCount_0f7a4 24 = .ok (.iload_n 0, 1) := by decide +kernel
theorem dJ6_bitCount_0f7a4_25 : decode cJ6_bitCount_0f7a4 25 = .ok (.iload_n 0, 1) := by decide +kernel
theorem dJ6_bitCount_0f7a4_26 : decode cJ6_bitCount_0f7a4 26 = .ok (.iconst 4, 1) := by decide +kernel
theorem dJ6_bitCount_0f7a4_27 : decode cJ6_bitCount_0f7a4 27 = .ok (.iushr, 1) := by decide +kernel
theorem dJ6_bitCount_0f7a4_28 : decode cJ6_bitCount_0f7a4 28 = .ok (.iadd, 1) := by decide +kernel
theorem dJ6_bitCount_0f7a4_29 : decode cJ6_bitCount_0f7a4 29 = .ok (.ldc_w 267, 3) := by decide +kernel
theorem dJ6_bitCount_0f7a4_32 : decode cJ6_bitCount_0f7a4 32 = .ok (.iand, 1) := by decide +kernel
theorem dJ6_bitCount_0f7a4_33 : decode cJ6_bitCount_0f7a4 33 = .ok (.istore_n 0, 1) := by decide +kernel
theorem dJ6_bitCount_0f7a4_34 : decode cJ6_bitCount_0f7a4 34 = .ok (.iload_n 0, 1) := by decide +kernel
theorem dJ6_bitCount_0f7a4_35 : decode cJ6_bitCount_0f7a4 35 = .ok (.iload_n 0, 1) := by decide +kernel
theorem dJ6_bitCount_0f7a4_36 : decode cJ6_bitCount_0f7a4 36 = .ok (.bipush 8, 2) := by decide +kernel
theorem dJ6_bitCount_0f7a4_38 : decode cJ6_bitCount_0f7a4 38 = .ok (.iushr, 1) := by decide +kernel
theorem dJ6_bitCount_0f7a4_39 : decode cJ6_bitCount_0f7a4 39 = .ok (.iadd, 1) := by decide +kernel
theorem dJ6_bitCount_0f7a4_40 : decode cJ6_bitCount_0f7a4 40 = .ok (.istore_n 0, 1) := by decide +kernel
theorem dJ6_bitCount_0f7a4_41 : decode cJ6_bitCount_0f7a4 41 = .ok (.iload_n 0, 1) := by decide +kernel
theorem dJ6_bitCount_0f7a4_42 : decode cJ6_bitCount_0f7a4 42 = .ok (.iload_n 0, 1) := by decide +kernel
theorem dJ6_bitCount_0f7a4_43 : decode cJ6_bitCount_0f7a4 43 = .ok (.bipush 16, 2) := by decide +kernel
theorem dJ6_bitCount_0f7a4_45 : decode cJ6_bitCount_0f7a4 45 = .ok (.iushr, 1) := by decide +kernel
theorem dJ6_bitCount_0f7a4_46 : decode cJ6_bitCount_0f7a4 46 = .ok (.iadd, 1) := by decide +kernel
theorem dJ6_bitCount_0f7a4_47 : decode cJ6_bitCount_0f7a4 47 = .ok (.istore_n 0, 1) := by decide +kernel
theorem dJ6_bitCount_0f7a4_48 : decode cJ6_bitCount_0f7a4 48 = .ok (.iload_n 0, 1) := by decide +kernel
theorem dJ6_bitCount_0f7a4_49 : decode cJ6_bitCount_0f7a4 49 = .ok (.bipush 63, 2) := by decide +kernel
theorem dJ6_bitCount_0f7a4_51 : decode cJ6_bitCount_0f7a4 51 = .ok (.iand, 1) := by decide +kernel
theorem dJ6_bitCount_0f7a4_52 : decode cJ6_bitCount_0f7a4 52 = .ok (.ireturn, 1) := by decide +kernel
theorem dJ9_abs_0f7a4_0 : decode cJ9_abs_0f7a4 0 = .ok (.iload_n 0, 1) := by decide +kernel
theorem dJ9_abs_0f7a4_1 : decode cJ9_abs_0f7a4 1 = .ok (.ifCond .ge 8, 3) := by decide +kernel
theorem dJ9_abs_0f7a4_4 : decode cJ9_abs_0f7a4 4 = .ok (.iload_n 0, 1) := by decide +kernel
theorem dJ9_abs_0f7a4_5 : decode cJ9_abs_0f7a4 5 = .ok (.ineg, 1) := by decide +kernel
theorem dJ9_abs_0f7a4_6 : decode cJ9_abs_0f7a4 6 = .ok (.goto 4, 3) := by decide +kernel
theorem dJ9_abs_0f7a4_9 : decode cJ9_abs_0f7a4 9 = .ok (.iload_n 0, 1) := by decide +kernel
theorem dJ9_abs_0f7a4_10 : decode cJ9_abs_0f7a4 10 = .ok (.ireturn, 1) := by decide +kernel
theorem dJ9_max_7cf53_0 : decode cJ9_max_7cf53 0 = .ok (.iload_n 0, 1) := by decide +kernel
theorem dJ9_max_7cf53_1 : decode cJ9_max_7cf53 1 = .ok (.iload_n 1, 1) := by decide +kernel
theorem dJ9_max_7cf53_2 : decode cJ9_max_7cf53 2 = .ok (.if_icmp .lt 7, 3) := by decide +kernel
theorem dJ9_max_7cf53_5 : decode cJ9_max_7cf53 5 = .ok (.iload_n 0, 1) := by decide +kernel
theorem dJ9_max_7cf53_6 : decode cJ9_max_7cf53 6 = .ok (.goto 4, 3) := by decide +kernel
theorem dJ9_max_7cf53_9 : decode cJ9_max_7cf53 9 = .ok (.iload_n 1, 1) := by decide +kernel
theorem dJ9_max_7cf53_10 : decode cJ9_max_7cf53 10 = .ok (.ireturn, 1) := by decide +kernel
theorem dJ9_min_7cf53_0 : decode cJ9_min_7cf53 0 = .ok (.iload_n 0, 1) := by decide +kernel
theorem dJ9_min_7cf53_1 : decode cJ9_min_7cf53 1 = .ok (.iload_n 1, 1) := by decide +kernel
theorem dJ9_min_7cf53_2 : decode cJ9_min_7cf53 2 = .ok (.if_icmp .gt 7, 3) := by decide +kernel
theorem dJ9_min_7cf53_5 : decode cJ9_min_7cf53 5 = .ok (.iload_n 0, 1) := by decide +kernel
theorem dJ9_min_7cf53_6 : decode cJ9_min_7cf53 6 = .ok (.goto 4, 3) := by decide +kernel
theorem dJ9_min_7cf53_9 : decode cJ9_min_7cf53 9 = .ok (.iload_n 1, 1) := by decide +kernel
theorem dJ9_min_7cf53_10 : decode cJ9_min_7cf53 10 = .ok (.ireturn, 1) := by decide +kernel
theorem dJ9_min_f86c9_0 : decode cJ9_min_f86c9 0 = .ok (.lload_n 0, 1) := by decide +kernel
theorem dJ9_min_f86c9_1 : decode cJ9_min_f86c9 1 = .ok (.lload_n 2, 1) := by decide +kernel
theorem dJ9_min_f86c9_2 : decode cJ9_min_f86c9 2 = .ok (.lcmp, 1) := by decide +kernel
theorem dJ9_min_f86c9_3 : decode cJ9_min_f86c9 3 = .ok (.ifCond .gt 7, 3) := by decide +kernel
theorem dJ9_min_f86c9_6 : decode cJ9_min_f86c9 6 = .ok (.lload_n 0, 1) := by decide +kernel
theorem dJ9_min_f86c9_7 : decode cJ9_min_f86c9 7 = .ok (.goto 4, 3) := by decide +kernel
theorem dJ9_min_f86c9_10 : decode cJ9_min_f86c9 10 = .ok (.lload_n 2, 1) := by decide +kernel
theorem dJ9_min_f86c9_11 : decode cJ9_min_f86c9 11 = .ok (.lreturn, 1) := by decide +kernel
theorem dJ7_rangeCheck_23922_0 : decode cJ7_rangeCheck_23922 0 = .ok (.iload_n 1, 1) := by decide +kernel
theorem dJ7_rangeCheck_23922_1 : decode cJ7_rangeCheck_23922 1 = .ok (.iload_n 2, 1) := by decide +kernel
theorem dJ7_rangeCheck_23922_2 : decode cJ7_rangeCheck_23922 2 = .ok (.if_icmp .le 44, 3) := by decide +kernel
theorem dJ7_rangeCheck_23922_5 : decode cJ7_rangeCheck_23922 5 = .ok (.new 43, 3) := by decide +kernel
theorem dJ7_rangeCheck_23922_8 : decode cJ7_rangeCheck_23922 8 = .ok (.dup, 1) := by decide +kernel
theorem dJ7_rangeCheck_23922_9 : decode cJ7_rangeCheck_23922 9 = .ok (.new 45, 3) := by decide +kernel
theorem dJ7_rangeCheck_23922_12 : decode cJ7_rangeCheck_23922 12 = .ok (.dup, 1) := by decide +kernel
theorem dJ7_rangeCheck_23922_13 : decode cJ7_rangeCheck_23922 13 = .ok (.invokespecial 47, 3) := by decide +kernel
theorem dJ7_rangeCheck_23922_16 : decode cJ7_rangeCheck_23922 16 = .ok (.ldc 48, 2) := by decide +kernel
theorem dJ7_rangeCheck_23922_18 : decode cJ7_rangeCheck_23922 18 = .ok (.invokevirtual 50, 3) := by decide +kernel
theorem dJ7_rangeCheck_23922_21 : decode cJ7_rangeCheck_23922 21 = .ok (.iload_n 1, 1) := by decide +kernel
theorem dJ7_rangeCheck_23922_22 : decode cJ7_rangeCheck_23922 22 = .ok (.invokevirtual 54, 3) := by decide +kernel
theorem dJ7_rangeCheck_23922_25 : decode cJ7_rangeCheck_23922 25 = .ok (.ldc 57, 2) := by decide +kernel
theorem dJ7_rangeCheck_23922_27 : decode cJ7_rangeCheck_23922 27 = .ok (.invokevirtual 50, 3) := by decide +kernel
theorem dJ7_rangeCheck_23922_30 : decode cJ7_rangeCheck_23922 30 = .ok (.iload_n 2, 1) := by decide +kernel
theorem dJ7_rangeCheck_23922_31 : decode cJ7_rangeCheck_23922 31 = .ok (.invokevirtual 54, 3) := by decide +kernel
theorem dJ7_rangeCheck_23922_34 : decode cJ7_rangeCheck_23922 34 = .ok (.ldc 59, 2) := by decide +kernel
theorem dJ7_rangeCheck_23922_36 : decode cJ7_rangeCheck_23922 36 = .ok (.invokevirtual 50, 3) := by decide +kernel
theorem dJ7_rangeCheck_23922_39 : decode cJ7_rangeCheck_23922 39 = .ok (.invokevirtual 61, 3) := by decide +kernel
theorem dJ7_rangeCheck_23922_42 : decode cJ7_rangeCheck_23922 42 = .ok (.invokespecial 65, 3) := by decide +kernel
theorem dJ7_rangeCheck_23922_45 : decode cJ7_rangeCheck_23922 45 = .ok (.athrow, 1) := by decide +kernel
theorem dJ7_rangeCheck_23922_46 : decode cJ7_rangeCheck_23922 46 = .ok (.iload_n 1, 1) := by decide +kernel
theorem dJ7_rangeCheck_23922_47 : decode cJ7_rangeCheck_23922 47 = .ok (.ifCond .ge 12, 3) := by decide +kernel
theorem dJ7_rangeCheck_23922_50 : decode cJ7_rangeCheck_23922 50 = .ok (.new 68, 3) := by decide +kernel
theorem dJ7_rangeCheck_23922_53 : decode cJ7_rangeCheck_23922 53 = .ok (.dup, 1) := by decide +kernel
theorem dJ7_rangeCheck_23922_54 : decode cJ7_rangeCheck_23922 54 = .ok (.iload_n 1, 1) := by decide +kernel
theorem dJ7_rangeCheck_23922_55 : decode cJ7_rangeCheck_23922 55 = .ok (.invokespecial 70, 3) := by decide +kernel
theorem dJ7_rangeCheck_23922_58 : decode cJ7_rangeCheck_23922 58 = .ok (.athrow, 1) := by decide +kernel
theorem dJ7_rangeCheck_23922_59 : decode cJ7_rangeCheck_23922 59 = .ok (.iload_n 2, 1) := by decide +kernel
theorem dJ7_rangeCheck_23922_60 : decode cJ7_rangeCheck_23922 60 = .ok (.iload_n 0, 1) := by decide +kernel
theorem dJ7_rangeCheck_23922_61 : decode cJ7_rangeCheck_23922 61 = .ok (.if_icmp .le 12, 3) := by decide +kernel
theorem dJ7_rangeCheck_23922_64 : decode cJ7_rangeCheck_23922 64 = .ok (.new 68, 3) := by decide +kernel
theorem dJ7_rangeCheck_23922_67 : decode cJ7_rangeCheck_23922 67 = .ok (.dup, 1) := by decide +kernel
theorem dJ7_rangeCheck_23922_68 : decode cJ7_rangeCheck_23922 68 = .ok (.iload_n 2, 1) := by decide +kernel
theorem dJ7_rangeCheck_23922_69 : decode cJ7_rangeCheck_23922 69 = .ok (.invokespecial 70, 3) := by decide +kernel
theorem dJ7_rangeCheck_23922_72 : decode cJ7_rangeCheck_23922 72 = .ok (.athrow, 1) := by decide +kernel
theorem dJ7_rangeCheck_23922_73 : decode cJ7_rangeCheck_23922 73 = .ok (.return_, 1) := by decide +kernel
theorem dJ7_fill_53178_0 : decode cJ7_fill_53178 0 = .ok (.iconst 0, 1) := by decide +kernel
theorem dJ7_fill_53178_1 : decode cJ7_fill_53178 1 = .ok (.istore_n 2, 1) := by decide +kernel
theorem dJ7_fill_53178_2 : decode cJ7_fill_53178 2 = .ok (.aload_n 0, 1) := by decide +kernel
theorem dJ7_fill_53178_3 : decode cJ7_fill_53178 3 = .ok (.arraylength, 1) := by decide +kernel
theorem dJ7_fill_53178_4 : decode cJ7_fill_53178 4 = .ok (.istore_n 3, 1) := by decide +kernel
theorem dJ7_fill_53178_5 : decode cJ7_fill_53178 5 = .ok (.iload_n 2, 1) := by decide +kernel
theorem dJ7_fill_53178_6 : decode cJ7_fill_53178 6 = .ok (.iload_n 3, 1) := by decide +kernel
theorem dJ7_fill_53178_7 : decode cJ7_fill_53178 7 = .ok (.if_icmp .ge 13, 3) := by decide +kernel
theorem dJ7_fill_53178_10 : decode cJ7_fill_53178 10 = .ok (.aload_n 0, 1) := by decide +kernel
theorem dJ7_fill_53178_11 : decode cJ7_fill_53178 11 = .ok (.iload_n 2, 1) := by decide +kernel
theorem dJ7_fill_53178_12 : decode cJ7_fill_53178 12 = .ok (.iload_n 1, 1) := by decide +kernel
theorem dJ7_fill_53178_13 : decode cJ7_fill_53178 13 = .ok (.iastore, 1) := by decide +kernel
theorem dJ7_fill_53178_14 : decode cJ7_fill_53178 14 = .ok (.iinc 2 1, 3) := by decide +kernel
theorem dJ7_fill_53178_17 : decode cJ7_fill_53178 17 = .ok (.goto (-12), 3) := by decide +kernel
theorem dJ7_fill_53178_20 : decode cJ7_fill_53178 20 = .ok (.return_, 1) := by decide +kernel
theorem dJ7_fill_fda19_0 : decode cJ7_fill_fda19 0 = .ok (.aload_n 0, 1) := by decide +kernel
theorem dJ7_fill_fda19_1 : decode cJ7_fill_fda19 1 = .ok (.arraylength, 1) := by decide +kernel
theorem dJ7_fill_fda19_2 : decode cJ7_fill_fda19 2 = .ok (.iload_n 1, 1) := by decide +kernel
theorem dJ7_fill_fda19_3 : decode cJ7_fill_fda19 3 = .ok (.iload_n 2, 1) := by decide +kernel
theorem dJ7_fill_fda19_4 : decode cJ7_fill_fda19 4 = .ok (.invokestatic 13, 3) := by decide +kernel
theorem dJ7_fill_fda19_7 : decode cJ7_fill_fda19 7 = .ok (.iload_n 1, 1) := by decide +kernel
theorem dJ7_fill_fda19_8 : decode cJ7_fill_fda19 8 = .ok (.istore 4, 2) := by decide +kernel
theorem dJ7_fill_fda19_10 : decode cJ7_fill_fda19 10 = .ok (.iload 4, 2) := by decide +kernel
theorem dJ7_fill_fda19_12 : decode cJ7_fill_fda19 12 = .ok (.iload_n 2, 1) := by decide +kernel
theorem dJ7_fill_fda19_13 : decode cJ7_fill_fda19 13 = .ok (.if_icmp .ge 14, 3) := by decide +kernel
theorem dJ7_fill_fda19_16 : decode cJ7_fill_fda19 16 = .ok (.aload_n 0, 1) := by decide +kernel
theorem dJ7_fill_fda19_17 : decode cJ7_fill_fda19 17 = .ok (.iload 4, 2) := by decide +kernel
theorem dJ7_fill_fda19_19 : decode cJ7_fill_fda19 19 = .ok (.iload_n 3, 1) := by decide +kernel
theorem dJ7_fill_fda19_20 : decode cJ7_fill_fda19 20 = .ok (.iastore, 1) := by decide +kernel
theorem dJ7_fill_fda19_21 : decode cJ7_fill_fda19 21 = .ok (.iinc 4 1, 3) := by decide +kernel
theorem dJ7_fill_fda19_24 : decode cJ7_fill_fda19 24 = .ok (.goto (-14), 3) := by decide +kernel
theorem dJ7_fill_fda19_27 : decode cJ7_fill_fda19 27 = .ok (.return_, 1) := by decide +kernel
theorem dL_cell_0 : decode cL_cell 0 = .ok (.iload_n 1, 1) := by decide +kernel
theorem dL_cell_1 : decode cL_cell 1 = .ok (.aload_n 0, 1) := by decide +kernel
theorem dL_cell_2 : decode cL_cell 2 = .ok (.arraylength, 1) := by decide +kernel
theorem dL_cell_3 : decode cL_cell 3 = .ok (.if_icmp .ge 9, 3) := by decide +kernel
theorem dL_cell_6 : decode cL_cell 6 = .ok (.aload_n 0, 1) := by decide +kernel
theorem dL_cell_7 : decode cL_cell 7 = .ok (.iload_n 1, 1) := by decide +kernel
theorem dL_cell_8 : decode cL_cell 8 = .ok (.iaload, 1) := by decide +kernel
theorem dL_cell_9 : decode cL_cell 9 = .ok (.goto 4, 3) := by decide +kernel
theorem dL_cell_12 : decode cL_cell 12 = .ok (.iconst 0, 1) := by decide +kernel
theorem dL_cell_13 : decode cL_cell 13 = .ok (.ireturn, 1) := by decide +kernel
theorem dL_law_0 : decode cL_law 0 = .ok (.new 7, 3) := by decide +kernel
theorem dL_law_3 : decode cL_law 3 = .ok (.dup, 1) := by decide +kernel
theorem dL_law_4 : decode cL_law 4 = .ok (.aload_n 0, 1) := by decide +kernel
theorem dL_law_5 : decode cL_law 5 = .ok (.iconst 0, 1) := by decide +kernel
theorem dL_law_6 : decode cL_law 6 = .ok (.invokestatic 9, 3) := by decide +kernel
theorem dL_law_9 : decode cL_law 9 = .ok (.invokespecial 15, 3) := by decide +kernel
theorem dL_law_12 : decode cL_law 12 = .ok (.astore_n 1, 1) := by decide +kernel
theorem dL_law_13 : decode cL_law 13 = .ok (.new 18, 3) := by decide +kernel
theorem dL_law_16 : decode cL_law 16 = .ok (.dup, 1) := by decide +kernel
theorem dL_law_17 : decode cL_law 17 = .ok (.aload_n 0, 1) := by decide +kernel
theorem dL_law_18 : decode cL_law 18 = .ok (.iconst 0, 1) := by decide +kernel
theorem dL_law_19 : decode cL_law 19 = .ok (.invokestatic 9, 3) := by decide +kernel
theorem dL_law_22 : decode cL_law 22 = .ok (.invokespecial 20, 3) := by decide +kernel
theorem dL_law_25 : decode cL_law 25 = .ok (.astore_n 2, 1) := by decide +kernel
theorem dL_law_26 : decode cL_law 26 = .ok (.iconst 1, 1) := by decide +kernel
theorem dL_law_27 : decode cL_law 27 = .ok (.istore_n 3, 1) := by decide +kernel
theorem dL_law_28 : decode cL_law 28 = .ok (.iload_n 3, 1) := by decide +kernel
theorem dL_law_29 : decode cL_law 29 = .ok (.aload_n 0, 1) := by decide +kernel
theorem dL_law_30 : decode cL_law 30 = .ok (.arraylength, 1) := by decide +kernel
theorem dL_law_31 : decode cL_law 31 = .ok (.bipush 7, 2) := by decide +kernel
theorem dL_law_33 : decode cL_law 33 = .ok (.isub, 1) := by decide +kernel
theorem dL_law_34 : decode cL_law 34 = .ok (.if_icmp .gt 471, 3) := by decide +kernel
theorem dL_law_37 : decode cL_law 37 = .ok (.aload_n 0, 1) := by decide +kernel
theorem dL_law_38 : decode cL_law 38 = .ok (.iload_n 3, 1) := by decide +kernel
theorem dL_law_39 : decode cL_law 39 = .ok (.iaload, 1) := by decide +kernel
theorem dL_law_40 : decode cL_law 40 = .ok (.bipush 15, 2) := by decide +kernel
theorem dL_law_42 : decode cL_law 42 = .ok (.iand, 1) := by decide +kernel
theorem dL_law_43 : decode cL_law 43 = .ok (.tableswitch 456 0 12 #[65, 140, 153, 186, 219, 242, 285, 328, 341, 364, 377, 400, 423], 65) := by decide +kernel
theorem dL_law_108 : decode cL_law 108 = .ok (.aload_n 1, 1) := by decide +kernel
theorem dL_law_109 : decode cL_law 109 = .ok (.aload_n 0, 1) := by decide +kernel
theorem dL_law_110 : decode cL_law 110 = .ok (.iload_n 3, 1) := by decide +kernel
theorem dL_law_111 : decode cL_law 111 = .ok (.iconst 1, 1) := by decide +kernel
theorem dL_law_112 : decode cL_law 112 = .ok (.iadd, 1) := by decide +kernel
theorem dL_law_113 : decode cL_law 113 = .ok (.iaload, 1) := by decide +kernel
theorem dL_law_114 : decode cL_law 114 = .ok (.aload_n 0, 1) := by decide +kernel
theorem dL_law_115 : decode cL_law 115 = .ok (.iload_n 3, 1) := by decide +kernel
theorem dL_law_116 : decode cL_law 116 = .ok (.iconst 2, 1) := by decide +kernel
theorem dL_law_117 : decode cL_law 117 = .ok (.iadd, 1) := by decide +kernel
theorem dL_law_118 : decode cL_law 118 = .ok (.iaload, 1) := by decide +kernel
theorem dL_law_119 : decode cL_law 119 = .ok (.aload_n 0, 1) := by decide +kernel
theorem dL_law_120 : decode cL_law 120 = .ok (.iload_n 3, 1) := by decide +kernel
theorem dL_law_121 : decode cL_law 121 = .ok (.iconst 3, 1) := by decide +kernel
theorem dL_law_122 : decode cL_law 122 = .ok (.iadd, 1) := by decide +kernel
theorem dL_law_123 : decode cL_law 123 = .ok (.iaload, 1) := by decide +kernel
theorem dL_law_124 : decode cL_law 124 = .ok (.aload_n 0, 1) := by decide +kernel
theorem dL_law_125 : decode cL_law 125 = .ok (.iload_n 3, 1) := by decide +kernel
theorem dL_law_126 : decode cL_law 126 = .ok (.iconst 4, 1) := by decide +kernel
theorem dL_law_127 : decode cL_law 127 = .ok (.iadd, 1) := by decide +kernel
theorem dL_law_128 : decode cL_law 128 = .ok (.iaload, 1) := by decide +kernel
theorem dL_law_129 : decode cL_law 129 = .ok (.aload_n 0, 1) := by decide +kernel
theorem dL_law_130 : decode cL_law 130 = .ok (.iload_n 3, 1) := by decide +kernel
theorem dL_law_131 : decode cL_law 131 = .ok (.iconst 5, 1) := by decide +kernel
theorem dL_law_132 : decode cL_law 132 = .ok (.iadd, 1) := by decide +kernel
theorem dL_law_133 : decode cL_law 133 = .ok (.iaload, 1) := by decide +kernel
theorem dL_law_134 : decode cL_law 134 = .ok (.aload_n 0, 1) := by decide +kernel
theorem dL_law_135 : decode cL_law 135 = .ok (.iload_n 3, 1) := by decide +kernel
theorem dL_law_136 : decode cL_law 136 = .ok (.bipush 6, 2) := by decide +kernel
theorem dL_law_138 : decode cL_law 138 = .ok (.iadd, 1) := by decide +kernel
theorem dL_law_139 : decode cL_law 139 = .ok (.iaload, 1) := by decide +kernel
theorem dL_law_140 : decode cL_law 140 = .ok (.invokevirtual 21, 3) := by decide +kernel
theorem dL_law_143 : decode cL_law 143 = .ok (.aload_n 2, 1) := by decide +kernel
theorem dL_law_144 : decode cL_law 144 = .ok (.aload_n 0, 1) := by decide +kernel
theorem dL_law_145 : decode cL_law 145 = .ok (.iload_n 3, 1) := by decide +kernel
theorem dL_law_146 : decode cL_law 146 = .ok (.iconst 1, 1) := by decide +kernel
theorem dL_law_147 : decode cL_law 147 = .ok (.iadd, 1) := by decide +kernel
theorem dL_law_148 : decode cL_law 148 = .ok (.iaload, 1) := by decide +kernel
theorem dL_law_149 : decode cL_law 149 = .ok (.aload_n 0, 1) := by decide +kernel
theorem dL_law_150 : decode cL_law 150 = .ok (.iload_n 3, 1) := by decide +kernel
theorem dL_law_151 : decode cL_law 151 = .ok (.iconst 2, 1) := by decide +kernel
theorem dL_law_152 : decode cL_law 152 = .ok (.iadd, 1) := by decide +kernel
theorem dL_law_153 : decode cL_law 153 = .ok (.iaload, 1) := by decide +kernel
theorem dL_law_154 : decode cL_law 154 = .ok (.aload_n 0, 1) := by decide +kernel
theorem dL_law_155 : decode cL_law 155 = .ok (.iload_n 3, 1) := by decide +kernel
theorem dL_law_156 : decode cL_law 156 = .ok (.iconst 3, 1) := by decide +kernel
theorem dL_law_157 : decode cL_law 157 = .ok (.iadd, 1) := by decide +kernel
theorem dL_law_158 : decode cL_law 158 = .ok (.iaload, 1) := by decide +kernel
theorem dL_law_159 : decode cL_law 159 = .ok (.aload_n 0, 1) := by decide +kernel
theorem dL_law_160 : decode cL_law 160 = .ok (.iload_n 3, 1) := by decide +kernel
theorem dL_law_161 : decode cL_law 161 = .ok (.iconst 4, 1) := by decide +kernel
theorem dL_law_162 : decode cL_law 162 = .ok (.iadd, 1) := by decide +kernel
theorem dL_law_163 : decode cL_law 163 = .ok (.iaload, 1) := by decide +kernel
theorem dL_law_164 : decode cL_law 164 = .ok (.aload_n 0, 1) := by decide +kernel
theorem dL_law_165 : decode cL_law 165 = .ok (.iload_n 3, 1) := by decide +kernel
theorem dL_law_166 : decode cL_law 166 = .ok (.iconst 5, 1) := by decide +kernel
theorem dL_law_167 : decode cL_law 167 = .ok (.iadd, 1) := by decide +kernel
theorem dL_law_168 : decode cL_law 168 = .ok (.iaload, 1) := by decide +kernel
theorem dL_law_169 : decode cL_law 169 = .ok (.aload_n 0, 1) := by decide +kernel
theorem dL_law_170 : decode cL_law 170 = .ok (.iload_n 3, 1) := by decide +kernel
theorem dL_law_171 : decode cL_law 171 = .ok (.bipush 6, 2) := by decide +kernel
theorem dL_law_173 : decode cL_law 173 = .ok (.iadd, 1) := by decide +kernel
theorem dL_law_174 : decode cL_law 174 = .ok (.iaload, 1) := by decide +kernel
theorem dL_law_175 : decode cL_law 175 = .ok (.invokevirtual 25, 3) := by decide +kernel
theorem dL_law_178 : decode cL_law 178 = .ok (.if_icmp .eq 321, 3) := by decide +kernel
theorem dL_law_181 : decode cL_law 181 = .ok (.iconst 0, 1) := by decide +kernel
theorem dL_law_182 : decode cL_law 182 = .ok (.ireturn, 1) := by decide +kernel
theorem dL_law_183 : decode cL_law 183 = .ok (.aload_n 1, 1) := by decide +kernel
theorem dL_law_184 : decode cL_law 184 = .ok (.invokevirtual 26, 3) := by decide +kernel
theorem dL_law_187 : decode cL_law 187 = .ok (.aload_n 2, 1) := by decide +kernel
theorem dL_law_188 : decode cL_law 188 = .ok (.invokevirtual 30, 3) := by decide +kernel
theorem dL_law_191 : decode cL_law 191 = .ok (.if_icmp .eq 308, 3) := by decide +kernel
theorem dL_law_194 : decode cL_law 194 = .ok (.iconst 0, 1) := by decide +kernel
theorem dL_law_195 : decode cL_law 195 = .ok (.ireturn, 1) := by decide +kernel
theorem dL_law_196 : decode cL_law 196 = .ok (.aload_n 1, 1) := by decide +kernel
theorem dL_law_197 : decode cL_law 197 = .ok (.aload_n 0, 1) := by decide +kernel
theorem dL_law_198 : decode cL_law 198 = .ok (.iload_n 3, 1) := by decide +kernel
theorem dL_law_199 : decode cL_law 199 = .ok (.iconst 1, 1) := by decide +kernel
theorem dL_law_200 : decode cL_law 200 = .ok (.iadd, 1) := by decide +kernel
theorem dL_law_201 : decode cL_law 201 = .ok (.iaload, 1) := by decide +kernel
theorem dL_law_202 : decode cL_law 202 = .ok (.aload_n 0, 1) := by decide +kernel
theorem dL_law_203 : decode cL_law 203 = .ok (.iload_n 3, 1) := by decide +kernel
theorem dL_law_204 : decode cL_law 204 = .ok (.iconst 2, 1) := by decide +kernel
theorem dL_law_205 : decode cL_law 205 = .ok (.iadd, 1) := by decide +kernel
theorem dL_law_206 : decode cL_law 206 = .ok (.iaload, 1) := by decide +kernel
theorem dL_law_207 : decode cL_law 207 = .ok (.invokevirtual 31, 3) := by decide +kernel
theorem dL_law_210 : decode cL_law 210 = .ok (.aload_n 2, 1) := by decide +kernel
theorem dL_law_211 : decode cL_law 211 = .ok (.aload_n 0, 1) := by decide +kernel
theorem dL_law_212 : decode cL_law 212 = .ok (.iload_n 3, 1) := by decide +kernel
theorem dL_law_213 : decode cL_law 213 = .ok (.iconst 1, 1) := by decide +kernel
theorem dL_law_214 : decode cL_law 214 = .ok (.iadd, 1) := by decide +kernel
theorem dL_law_215 : decode cL_law 215 = .ok (.iaload, 1) := by decide +kernel
theorem dL_law_216 : decode cL_law 216 = .ok (.aload_n 0, 1) := by decide +kernel
theorem dL_law_217 : decode cL_law 217 = .ok (.iload_n 3, 1) := by decide +kernel
theorem dL_law_218 : decode cL_law 218 = .ok (.iconst 2, 1) := by decide +kernel
theorem dL_law_219 : decode cL_law 219 = .ok (.iadd, 1) := by decide +kernel
theorem dL_law_220 : decode cL_law 220 = .ok (.iaload, 1) := by decide +kernel
theorem dL_law_221 : decode cL_law 221 = .ok (.invokevirtual 35, 3) := by decide +kernel
theorem dL_law_224 : decode cL_law 224 = .ok (.if_icmp .eq 275, 3) := by decide +kernel
theorem dL_law_227 : decode cL_law 227 = .ok (.iconst 0, 1) := by decide +kernel
theorem dL_law_228 : decode cL_law 228 = .ok (.ireturn, 1) := by decide +kernel
theorem dL_law_229 : decode cL_law 229 = .ok (.aload_n 1, 1) := by decide +kernel
theorem dL_law_230 : decode cL_law 230 = .ok (.aload_n 0, 1) := by decide +kernel
theorem dL_law_231 : decode cL_law 231 = .ok (.iload_n 3, 1) := by decide +kernel
theorem dL_law_232 : decode cL_law 232 = .ok (.iconst 1, 1) := by decide +kernel
theorem dL_law_233 : decode cL_law 233 = .ok (.iadd, 1) := by decide +kernel
theorem dL_law_234 : decode cL_law 234 = .ok (.iaload, 1) := by decide +kernel
theorem dL_law_235 : decode cL_law 235 = .ok (.aload_n 0, 1) := by decide +kernel
theorem dL_law_236 : decode cL_law 236 = .ok (.iload_n 3, 1) := by decide +kernel
theorem dL_law_237 : decode cL_law 237 = .ok (.iconst 2, 1) := by decide +kernel
theorem dL_law_238 : decode cL_law 238 = .ok (.iadd, 1) := by decide +kernel
theorem dL_law_239 : decode cL_law 239 = .ok (.iaload, 1) := by decide +kernel
theorem dL_law_240 : decode cL_law 240 = .ok (.invokevirtual 36, 3) := by decide +kernel
theorem dL_law_243 : decode cL_law 243 = .ok (.aload_n 2, 1) := by decide +kernel
theorem dL_law_244 : decode cL_law 244 = .ok (.aload_n 0, 1) := by decide +kernel
theorem dL_law_245 : decode cL_law 245 = .ok (.iload_n 3, 1) := by decide +kernel
theorem dL_law_246 : decode cL_law 246 = .ok (.iconst 1, 1) := by decide +kernel
theorem dL_law_247 : decode cL_law 247 = .ok (.iadd, 1) := by decide +kernel
theorem dL_law_248 : decode cL_law 248 = .ok (.iaload, 1) := by decide +kernel
theorem dL_law_249 : decode cL_law 249 = .ok (.aload_n 0, 1) := by decide +kernel
theorem dL_law_250 : decode cL_law 250 = .ok (.iload_n 3, 1) := by decide +kernel
theorem dL_law_251 : decode cL_law 251 = .ok (.iconst 2, 1) := by decide +kernel
theorem dL_law_252 : decode cL_law 252 = .ok (.iadd, 1) := by decide +kernel
theorem dL_law_253 : decode cL_law 253 = .ok (.iaload, 1) := by decide +kernel
theorem dL_law_254 : decode cL_law 254 = .ok (.invokevirtual 39, 3) := by decide +kernel
theorem dL_law_257 : decode cL_law 257 = .ok (.if_icmp .eq 242, 3) := by decide +kernel
theorem dL_law_260 : decode cL_law 260 = .ok (.iconst 0, 1) := by decide +kernel
theorem dL_law_261 : decode cL_law 261 = .ok (.ireturn, 1) := by decide +kernel
theorem dL_law_262 : decode cL_law 262 = .ok (.aload_n 1, 1) := by decide +kernel
theorem dL_law_263 : decode cL_law 263 = .ok (.aload_n 0, 1) := by decide +kernel
theorem dL_law_264 : decode cL_law 264 = .ok (.iload_n 3, 1) := by decide +kernel
theorem dL_law_265 : decode cL_law 265 = .ok (.iconst 1, 1) := by decide +kernel
theorem dL_law_266 : decode cL_law 266 = .ok (.iadd, 1) := by decide +kernel
theorem dL_law_267 : decode cL_law 267 = .ok (.iaload, 1) := by decide +kernel
theorem dL_law_268 : decode cL_law 268 = .ok (.invokevirtual 40, 3) := by decide +kernel
theorem dL_law_271 : decode cL_law 271 = .ok (.aload_n 2, 1) := by decide +kernel
theorem dL_law_272 : decode cL_law 272 = .ok (.aload_n 0, 1) := by decide +kernel
theorem dL_law_273 : decode cL_law 273 = .ok (.iload_n 3, 1) := by decide +kernel
theorem dL_law_274 : decode cL_law 274 = .ok (.iconst 1, 1) := by decide +kernel
theorem dL_law_275 : decode cL_law 275 = .ok (.iadd, 1) := by decide +kernel
theorem dL_law_276 : decode cL_law 276 = .ok (.iaload, 1) := by decide +kernel
theorem dL_law_277 : decode cL_law 277 = .ok (.invokevirtual 44, 3) := by decide +kernel
theorem dL_law_280 : decode cL_law 280 = .ok (.if_icmp .eq 219, 3) := by decide +kernel
theorem dL_law_283 : decode cL_law 283 = .ok (.iconst 0, 1) := by decide +kernel
theorem dL_law_284 : decode cL_law 284 = .ok (.ireturn, 1) := by decide +kernel
theorem dL_law_285 : decode cL_law 285 = .ok (.aload_n 1, 1) := by decide +kernel
theorem dL_law_286 : decode cL_law 286 = .ok (.aload_n 0, 1) := by decide +kernel
theorem dL_law_287 : decode cL_law 287 = .ok (.iload_n 3, 1) := by decide +kernel
theorem dL_law_288 : decode cL_law 288 = .ok (.iconst 1, 1) := by decide +kernel
theorem dL_law_289 : decode cL_law 289 = .ok (.iadd, 1) := by decide +kernel
theorem dL_law_290 : decode cL_law 290 = .ok (.iaload, 1) := by decide +kernel
theorem dL_law_291 : decode cL_law 291 = .ok (.aload_n 0, 1) := by decide +kernel
theorem dL_law_292 : decode cL_law 292 = .ok (.iload_n 3, 1) := by decide +kernel
theorem dL_law_293 : decode cL_law 293 = .ok (.iconst 2, 1) := by decide +kernel
theorem dL_law_294 : decode cL_law 294 = .ok (.iadd, 1) := by decide +kernel
theorem dL_law_295 : decode cL_law 295 = .ok (.iaload, 1) := by decide +kernel
theorem dL_law_296 : decode cL_law 296 = .ok (.aload_n 0, 1) := by decide +kernel
theorem dL_law_297 : decode cL_law 297 = .ok (.iload_n 3, 1) := by decide +kernel
theorem dL_law_298 : decode cL_law 298 = .ok (.iconst 3, 1) := by decide +kernel
theorem dL_law_299 : decode cL_law 299 = .ok (.iadd, 1) := by decide +kernel
theorem dL_law_300 : decode cL_law 300 = .ok (.iaload, 1) := by decide +kernel
theorem dL_law_301 : decode cL_law 301 = .ok (.invokevirtual 45, 3) := by decide +kernel
theorem dL_law_304 : decode cL_law 304 = .ok (.aload_n 2, 1) := by decide +kernel
theorem dL_law_305 : decode cL_law 305 = .ok (.aload_n 0, 1) := by decide +kernel
theorem dL_law_306 : decode cL_law 306 = .ok (.iload_n 3, 1) := by decide +kernel
theorem dL_law_307 : decode cL_law 307 = .ok (.iconst 1, 1) := by decide +kernel
theorem dL_law_308 : decode cL_law 308 = .ok (.iadd, 1) := by decide +kernel
theorem dL_law_309 : decode cL_law 309 = .ok (.iaload, 1) := by decide +kernel
theorem dL_law_310 : decode cL_law 310 = .ok (.aload_n 0, 1) := by decide +kernel
theorem dL_law_311 : decode cL_law 311 = .ok (.iload_n 3, 1) := by decide +kernel
theorem dL_law_312 : decode cL_law 312 = .ok (.iconst 2, 1) := by decide +kernel
theorem dL_law_313 : decode cL_law 313 = .ok (.iadd, 1) := by decide +kernel
theorem dL_law_314 : decode cL_law 314 = .ok (.iaload, 1) := by decide +kernel
theorem dL_law_315 : decode cL_law 315 = .ok (.aload_n 0, 1) := by decide +kernel
theorem dL_law_316 : decode cL_law 316 = .ok (.iload_n 3, 1) := by decide +kernel
theorem dL_law_317 : decode cL_law 317 = .ok (.iconst 3, 1) := by decide +kernel
theorem dL_law_318 : decode cL_law 318 = .ok (.iadd, 1) := by decide +kernel
theorem dL_law_319 : decode cL_law 319 = .ok (.iaload, 1) := by decide +kernel
theorem dL_law_320 : decode cL_law 320 = .ok (.invokevirtual 49, 3) := by decide +kernel
theorem dL_law_323 : decode cL_law 323 = .ok (.if_icmp .eq 176, 3) := by decide +kernel
theorem dL_law_326 : decode cL_law 326 = .ok (.iconst 0, 1) := by decide +kernel
theorem dL_law_327 : decode cL_law 327 = .ok (.ireturn, 1) := by decide +kernel
theorem dL_law_328 : decode cL_law 328 = .ok (.aload_n 1, 1) := by decide +kernel
theorem dL_law_329 : decode cL_law 329 = .ok (.aload_n 0, 1) := by decide +kernel
theorem dL_law_330 : decode cL_law 330 = .ok (.iload_n 3, 1) := by decide +kernel
theorem dL_law_331 : decode cL_law 331 = .ok (.iconst 1, 1) := by decide +kernel
theorem dL_law_332 : decode cL_law 332 = .ok (.iadd, 1) := by decide +kernel
theorem dL_law_333 : decode cL_law 333 = .ok (.iaload, 1) := by decide +kernel
theorem dL_law_334 : decode cL_law 334 = .ok (.aload_n 0, 1) := by decide +kernel
theorem dL_law_335 : decode cL_law 335 = .ok (.iload_n 3, 1) := by decide +kernel
theorem dL_law_336 : decode cL_law 336 = .ok (.iconst 2, 1) := by decide +kernel
theorem dL_law_337 : decode cL_law 337 = .ok (.iadd, 1) := by decide +kernel
theorem dL_law_338 : decode cL_law 338 = .ok (.iaload, 1) := by decide +kernel
theorem dL_law_339 : decode cL_law 339 = .ok (.aload_n 0, 1) := by decide +kernel
theorem dL_law_340 : decode cL_law 340 = .ok (.iload_n 3, 1) := by decide +kernel
theorem dL_law_341 : decode cL_law 341 = .ok (.iconst 3, 1) := by decide +kernel
theorem dL_law_342 : decode cL_law 342 = .ok (.iadd, 1) := by decide +kernel
theorem dL_law_343 : decode cL_law 343 = .ok (.iaload, 1) := by decide +kernel
theorem dL_law_344 : decode cL_law 344 = .ok (.invokevirtual 50, 3) := by decide +kernel
theorem dL_law_347 : decode cL_law 347 = .ok (.aload_n 2, 1) := by decide +kernel
theorem dL_law_348 : decode cL_law 348 = .ok (.aload_n 0, 1) := by decide +kernel
theorem dL_law_349 : decode cL_law 349 = .ok (.iload_n 3, 1) := by decide +kernel
theorem dL_law_350 : decode cL_law 350 = .ok (.iconst 1, 1) := by decide +kernel
theorem dL_law_351 : decode cL_law 351 = .ok (.iadd, 1) := by decide +kernel
theorem dL_law_352 : decode cL_law 352 = .ok (.iaload, 1) := by decide +kernel
theorem dL_law_353 : decode cL_law 353 = .ok (.aload_n 0, 1) := by decide +kernel
theorem dL_law_354 : decode cL_law 354 = .ok (.iload_n 3, 1) := by decide +kernel
theorem dL_law_355 : decode cL_law 355 = .ok (.iconst 2, 1) := by decide +kernel
theorem dL_law_356 : decode cL_law 356 = .ok (.iadd, 1) := by decide +kernel
theorem dL_law_357 : decode cL_law 357 = .ok (.iaload, 1) := by decide +kernel
theorem dL_law_358 : decode cL_law 358 = .ok (.aload_n 0, 1) := by decide +kernel
theorem dL_law_359 : decode cL_law 359 = .ok (.iload_n 3, 1) := by decide +kernel
theorem dL_law_360 : decode cL_law 360 = .ok (.iconst 3, 1) := by decide +kernel
theorem dL_law_361 : decode cL_law 361 = .ok (.iadd, 1) := by decide +kernel
theorem dL_law_362 : decode cL_law 362 = .ok (.iaload, 1) := by decide +kernel
theorem dL_law_363 : decode cL_law 363 = .ok (.invokevirtual 53, 3) := by decide +kernel
theorem dL_law_366 : decode cL_law 366 = .ok (.if_icmp .eq 133, 3) := by decide +kernel
theorem dL_law_369 : decode cL_law 369 = .ok (.iconst 0, 1) := by decide +kernel
theorem dL_law_370 : decode cL_law 370 = .ok (.ireturn, 1) := by decide +kernel
theorem dL_law_371 : decode cL_law 371 = .ok (.aload_n 1, 1) := by decide +kernel
theorem dL_law_372 : decode cL_law 372 = .ok (.invokevirtual 54, 3) := by decide +kernel
theorem dL_law_375 : decode cL_law 375 = .ok (.aload_n 2, 1) := by decide +kernel
theorem dL_law_376 : decode cL_law 376 = .ok (.invokevirtual 57, 3) := by decide +kernel
theorem dL_law_379 : decode cL_law 379 = .ok (.if_icmp .eq 120, 3) := by decide +kernel
theorem dL_law_382 : decode cL_law 382 = .ok (.iconst 0, 1) := by decide +kernel
theorem dL_law_383 : decode cL_law 383 = .ok (.ireturn, 1) := by decide +kernel
theorem dL_law_384 : decode cL_law 384 = .ok (.aload_n 1, 1) := by decide +kernel
theorem dL_law_385 : decode cL_law 385 = .ok (.aload_n 0, 1) := by decide +kernel
theorem dL_law_386 : decode cL_law 386 = .ok (.iload_n 3, 1) := by decide +kernel
theorem dL_law_387 : decode cL_law 387 = .ok (.iconst 1, 1) := by decide +kernel
theorem dL_law_388 : decode cL_law 388 = .ok (.iadd, 1) := by decide +kernel
theorem dL_law_389 : decode cL_law 389 = .ok (.iaload, 1) := by decide +kernel
theorem dL_law_390 : decode cL_law 390 = .ok (.invokevirtual 58, 3) := by decide +kernel
theorem dL_law_393 : decode cL_law 393 = .ok (.aload_n 2, 1) := by decide +kernel
theorem dL_law_394 : decode cL_law 394 = .ok (.aload_n 0, 1) := by decide +kernel
theorem dL_law_395 : decode cL_law 395 = .ok (.iload_n 3, 1) := by decide +kernel
theorem dL_law_396 : decode cL_law 396 = .ok (.iconst 1, 1) := by decide +kernel
theorem dL_law_397 : decode cL_law 397 = .ok (.iadd, 1) := by decide +kernel
theorem dL_law_398 : decode cL_law 398 = .ok (.iaload, 1) := by decide +kernel
theorem dL_law_399 : decode cL_law 399 = .ok (.invokevirtual 61, 3) := by decide +kernel
theorem dL_law_402 : decode cL_law 402 = .ok (.if_icmp .eq 97, 3) := by decide +kernel
theorem dL_law_405 : decode cL_law 405 = .ok (.iconst 0, 1) := by decide +kernel
theorem dL_law_406 : decode cL_law 406 = .ok (.ireturn, 1) := by decide +kernel
theorem dL_law_407 : decode cL_law 407 = .ok (.aload_n 1, 1) := by decide +kernel
theorem dL_law_408 : decode cL_law 408 = .ok (.invokevirtual 62, 3) := by decide +kernel
theorem dL_law_411 : decode cL_law 411 = .ok (.aload_n 2, 1) := by decide +kernel
theorem dL_law_412 : decode cL_law 412 = .ok (.invokevirtual 65, 3) := by decide +kernel
theorem dL_law_415 : decode cL_law 415 = .ok (.if_icmp .eq 84, 3) := by decide +kernel
theorem dL_law_418 : decode cL_law 418 = .ok (.iconst 0, 1) := by decide +kernel
theorem dL_law_419 : decode cL_law 419 = .ok (.ireturn, 1) := by decide +kernel
theorem dL_law_420 : decode cL_law 420 = .ok (.aload_n 1, 1) := by decide +kernel
theorem dL_law_421 : decode cL_law 421 = .ok (.aload_n 0, 1) := by decide +kernel
theorem dL_law_422 : decode cL_law 422 = .ok (.iload_n 3, 1) := by decide +kernel
theorem dL_law_423 : decode cL_law 423 = .ok (.iconst 1, 1) := by decide +kernel
theorem dL_law_424 : decode cL_law 424 = .ok (.iadd, 1) := by decide +kernel
theorem dL_law_425 : decode cL_law 425 = .ok (.iaload, 1) := by decide +kernel
theorem dL_law_426 : decode cL_law 426 = .ok (.invokevirtual 66, 3) := by decide +kernel
theorem dL_law_429 : decode cL_law 429 = .ok (.aload_n 2, 1) := by decide +kernel
theorem dL_law_430 : decode cL_law 430 = .ok (.aload_n 0, 1) := by decide +kernel
theorem dL_law_431 : decode cL_law 431 = .ok (.iload_n 3, 1) := by decide +kernel
theorem dL_law_432 : decode cL_law 432 = .ok (.iconst 1, 1) := by decide +kernel
theorem dL_law_433 : decode cL_law 433 = .ok (.iadd, 1) := by decide +kernel
theorem dL_law_434 : decode cL_law 434 = .ok (.iaload, 1) := by decide +kernel
theorem dL_law_435 : decode cL_law 435 = .ok (.invokevirtual 69, 3) := by decide +kernel
theorem dL_law_438 : decode cL_law 438 = .ok (.if_icmp .eq 61, 3) := by decide +kernel
theorem dL_law_441 : decode cL_law 441 = .ok (.iconst 0, 1) := by decide +kernel
theorem dL_law_442 : decode cL_law 442 = .ok (.ireturn, 1) := by decide +kernel
theorem dL_law_443 : decode cL_law 443 = .ok (.aload_n 1, 1) := by decide +kernel
theorem dL_law_444 : decode cL_law 444 = .ok (.aload_n 0, 1) := by decide +kernel
theorem dL_law_445 : decode cL_law 445 = .ok (.iload_n 3, 1) := by decide +kernel
theorem dL_law_446 : decode cL_law 446 = .ok (.iconst 1, 1) := by decide +kernel
theorem dL_law_447 : decode cL_law 447 = .ok (.iadd, 1) := by decide +kernel
theorem dL_law_448 : decode cL_law 448 = .ok (.iaload, 1) := by decide +kernel
theorem dL_law_449 : decode cL_law 449 = .ok (.invokevirtual 70, 3) := by decide +kernel
theorem dL_law_452 : decode cL_law 452 = .ok (.aload_n 2, 1) := by decide +kernel
theorem dL_law_453 : decode cL_law 453 = .ok (.aload_n 0, 1) := by decide +kernel
theorem dL_law_454 : decode cL_law 454 = .ok (.iload_n 3, 1) := by decide +kernel
theorem dL_law_455 : decode cL_law 455 = .ok (.iconst 1, 1) := by decide +kernel
theorem dL_law_456 : decode cL_law 456 = .ok (.iadd, 1) := by decide +kernel
theorem dL_law_457 : decode cL_law 457 = .ok (.iaload, 1) := by decide +kernel
theorem dL_law_458 : decode cL_law 458 = .ok (.invokevirtual 73, 3) := by decide +kernel
theorem dL_law_461 : decode cL_law 461 = .ok (.if_icmp .eq 38, 3) := by decide +kernel
theorem dL_law_464 : decode cL_law 464 = .ok (.iconst 0, 1) := by decide +kernel
theorem dL_law_465 : decode cL_law 465 = .ok (.ireturn, 1) := by decide +kernel
theorem dL_law_466 : decode cL_law 466 = .ok (.aload_n 1, 1) := by decide +kernel
theorem dL_law_467 : decode cL_law 467 = .ok (.aload_n 0, 1) := by decide +kernel
theorem dL_law_468 : decode cL_law 468 = .ok (.iload_n 3, 1) := by decide +kernel
theorem dL_law_469 : decode cL_law 469 = .ok (.iconst 1, 1) := by decide +kernel
theorem dL_law_470 : decode cL_law 470 = .ok (.iadd, 1) := by decide +kernel
theorem dL_law_471 : decode cL_law 471 = .ok (.iaload, 1) := by decide +kernel
theorem dL_law_472 : decode cL_law 472 = .ok (.aload_n 0, 1) := by decide +kernel
theorem dL_law_473 : decode cL_law 473 = .ok (.iload_n 3, 1) := by decide +kernel
theorem dL_law_474 : decode cL_law 474 = .ok (.iconst 2, 1) := by decide +kernel
theorem dL_law_475 : decode cL_law 475 = .ok (.iadd, 1) := by decide +kernel
theorem dL_law_476 : decode cL_law 476 = .ok (.iaload, 1) := by decide +kernel
theorem dL_law_477 : decode cL_law 477 = .ok (.invokevirtual 74, 3) := by decide +kernel
theorem dL_law_480 : decode cL_law 480 = .ok (.aload_n 2, 1) := by decide +kernel
theorem dL_law_481 : decode cL_law 481 = .ok (.aload_n 0, 1) := by decide +kernel
theorem dL_law_482 : decode cL_law 482 = .ok (.iload_n 3, 1) := by decide +kernel
theorem dL_law_483 : decode cL_law 483 = .ok (.iconst 1, 1) := by decide +kernel
theorem dL_law_484 : decode cL_law 484 = .ok (.iadd, 1) := by decide +kernel
theorem dL_law_485 : decode cL_law 485 = .ok (.iaload, 1) := by decide +kernel
theorem dL_law_486 : decode cL_law 486 = .ok (.aload_n 0, 1) := by decide +kernel
theorem dL_law_487 : decode cL_law 487 = .ok (.iload_n 3, 1) := by decide +kernel
theorem dL_law_488 : decode cL_law 488 = .ok (.iconst 2, 1) := by decide +kernel
theorem dL_law_489 : decode cL_law 489 = .ok (.iadd, 1) := by decide +kernel
theorem dL_law_490 : decode cL_law 490 = .ok (.iaload, 1) := by decide +kernel
theorem dL_law_491 : decode cL_law 491 = .ok (.invokevirtual 77, 3) := by decide +kernel
theorem dL_law_494 : decode cL_law 494 = .ok (.if_icmp .eq 5, 3) := by decide +kernel
theorem dL_law_497 : decode cL_law 497 = .ok (.iconst 0, 1) := by decide +kernel
theorem dL_law_498 : decode cL_law 498 = .ok (.ireturn, 1) := by decide +kernel
theorem dL_law_499 : decode cL_law 499 = .ok (.iinc 3 7, 3) := by decide +kernel
theorem dL_law_502 : decode cL_law 502 = .ok (.goto (-474), 3) := by decide +kernel
theorem dL_law_505 : decode cL_law 505 = .ok (.iconst 1, 1) := by decide +kernel
theorem dL_law_506 : decode cL_law 506 = .ok (.ireturn, 1) := by decide +kernel
end
section
/-! numbers: a machine word is the image of an Int -/
abbrev Mem : Type := Nat → Nat → Int
def iN (x : Int) : Int32 := Int32.ofInt x
def jN (x : Int) : Int64 := Int64.ofInt x
def rg (x : Int) : Prop := -2147483648 ≤ x ∧ x ≤ 2147483647
def rgL (x : Int) : Prop := -9223372036854775808 ≤ x ∧ x ≤ 9223372036854775807
def inb (x : Int) (n : Nat) : Prop := 0 ≤ x ∧ x < (n : Int) ∧ x ≤ 2147483647
def b01 (x : Int) : Prop := x = 0 ∨ x = 1
/-- one place of one cell becomes v -/
def up2 (σ : Mem) (k j : Nat) (v : Int) : Mem := fun a b => if a = k then (if b = j then v else σ a b) else σ a b
theorem rg_c (x : Int) (h : (decide (-2147483648 ≤ x) && decide (x ≤ 2147483647)) = true) : rg x := by
  simp only [Bool.and_eq_true, decide_eq_true_eq] at h
  exact h
theorem inb_c (x : Int) (n : Nat) (h : (decide (0 ≤ x) && (decide (x < (n : Int)) && decide (x ≤ 2147483647))) = true) : inb x n := by
  simp only [Bool.and_eq_true, decide_eq_true_eq] at h
  exact h
theorem inb.rg {x : Int} {n : Nat} (h : inb x n) : rg x := ⟨by have := h.1; omega, h.2.2⟩
theorem iN_add (a b : Int) : iN a + iN b = iN (a + b) := (Int32.ofInt_add a b).symm
theorem iN_sub (a b : Int) : iN a - iN b = iN (a - b) := (Int32.ofInt_sub a b).symm
theorem iN_mul (a b : Int) : iN a * iN b = iN (a * b) := (Int32.ofInt_mul a b).symm
theorem iN_neg (a : Int) : - iN a = iN (-a) := (Int32.ofInt_neg a).symm
theorem jN_add (a b : Int) : jN a + jN b = jN (a + b) := (Int64.ofInt_add a b).symm
theorem jN_sub (a b : Int) : jN a - jN b = jN (a - b) := (Int64.ofInt_sub a b).symm
theorem jN_mul (a b : Int) : jN a * jN b = jN (a * b) := (Int64.ofInt_mul a b).symm
theorem iN_toInt {x : Int} (h : rg x) : (iN x).toInt = x := Int32.toInt_ofInt_of_le (by have := h.1; omega) (by have := h.2; omega)
theorem jN_toInt {x : Int} (h : rgL x) : (jN x).toInt = x := Int64.toInt_ofInt_of_le (by have := h.1; omega) (by have := h.2; omega)
theorem iN_of (x : Int32) : iN x.toInt = x := Int32.ofInt_toInt x
theorem rg_toInt (x : Int32) : rg x.toInt := ⟨Int32.le_toInt x, by have := Int32.toInt_lt x; omega⟩
theorem iN_lt {a b : Int} (ha : rg a) (hb : rg b) : iN a < iN b ↔ a < b := by rw [Int32.lt_iff_toInt_lt, iN_toInt ha, iN_toInt hb]
theorem iN_le {a b : Int} (ha : rg a) (hb : rg b) : iN a ≤ iN b ↔ a ≤ b := by rw [Int32.le_iff_toInt_le, iN_toInt ha, iN_toInt hb]
theorem iN_eq {a b : Int} (ha : rg a) (hb : rg b) : iN a = iN b ↔ a = b := by rw [← Int32.toInt_inj, iN_toInt ha, iN_toInt hb]
theorem jN_lt {a b : Int} (ha : rgL a) (hb : rgL b) : jN a < jN b ↔ a < b := by rw [Int64.lt_iff_toInt_lt, jN_toInt ha, jN_toInt hb]
theorem jN_eq {a b : Int} (ha : rgL a) (hb : rgL b) : jN a = jN b ↔ a = b := by rw [← Int64.toInt_inj, jN_toInt ha, jN_toInt hb]
theorem iN_0 : iN 0 = 0 := rfl
theorem iN_clamp {a : Int} (ha : rg a) : (iN a).toNatClampNeg = a.toNat := by
  show (iN a).toInt.toNat = a.toNat
  rw [iN_toInt ha]
theorem iN_in {a : Int} {n : Nat} (h : inb a n) : vp_in (iN a) n := by
  rw [vp_in_iff, iN_toInt h.rg]
  exact ⟨h.1, h.2.1⟩
theorem iN_j {a : Int} (ha : rg a) : (iN a).toInt64 = jN a := by
  apply Int64.toInt_inj.mp
  rw [Int32.toInt_toInt64, iN_toInt ha, jN_toInt ⟨by have := ha.1; omega, by have := ha.2; omega⟩]
theorem iN_len (n : Nat) : Int32.ofNat n = iN (n : Int) := rfl
/-! shapes: what a cell is; the world as a list of cells, all numbers in one memory -/
abbrev Fld : Type := Option (Option Nat)
abbrev Shp : Type := (Nat × Nat) ⊕ (Nat × List Fld)
abbrev Gt : Type := ClassId × ClassId × va_G
def gA (G : Gt) (t : Nat) : ClassId := if t = 0 then G.1 else G.2.1
def fv (ad : Nat → Nat) (σ : Mem) (k : Nat) : Nat → List Fld → List Value
  | _, [] => []
  | j, none :: r => .int (iN (σ k j)) :: fv ad σ k (j + 1) r
  | j, some none :: r => .null :: fv ad σ k (j + 1) r
  | j, some (some q) :: r => .ref (ad q) :: fv ad σ k (j + 1) r
def ce (G : Gt) (ad : Nat → Nat) (σ : Mem) (k : Nat) : Shp → va_E
  | .inl (t, n) => .inl (gA G t, n, .inl (fun j => iN (σ k j)))
  | .inr (ci, fs) => .inr (ci, fv ad σ k 0 fs)
def wl (G : Gt) (ad : Nat → Nat) (σ : Mem) : Nat → List Shp → va_W
  | _, [] => []
  | k, c :: r => (ad k, ce G ad σ k c) :: wl G ad σ (k + 1) r
def fv1 (ad : Nat → Nat) (σ : Mem) (k j : Nat) : Fld → Value
  | none => .int (iN (σ k j))
  | some none => .null
  | some (some q) => .ref (ad q)
theorem fv_get (ad : Nat → Nat) (σ : Mem) (k : Nat) (fs : List Fld) (i j : Nat) : (fv ad σ k i fs)[j]? = (fs[j]?).map (fv1 ad σ k (i + j)) := by
  induction fs generalizing i j with
  | nil => simp [fv]
  | cons f r ih =>
    rcases f with _ | _ | q <;> cases j with
    | zero => simp [fv, fv1]
    | succ j => simp only [fv, List.getElem?_cons_succ, ih]; rw [show i + 1 + j = i + (j + 1) by omega]
theorem fv_len (ad : Nat → Nat) (σ : Mem) (k : Nat) (fs : List Fld) (i : Nat) : (fv ad σ k i fs).length = fs.length := by
  induction fs generalizing i with
  | nil => rfl
  | cons f r ih => rcases f with _ | _ | q <;> simp [fv, ih]
theorem wl_get (G : Gt) (ad : Nat → Nat) (σ : Mem) (sh : List Shp) (i k : Nat) : (wl G ad σ i sh)[k]? = (sh[k]?).map (fun c => (ad (i + k), ce G ad σ (i + k) c)) := by
  induction sh generalizing i k with
  | nil => simp [wl]
  | cons c r ih =>
    cases k with
    | zero => simp [wl]
    | succ k => simp only [wl, List.getElem?_cons_succ, ih]; rw [show i + 1 + k = i + (k + 1) by omega]
theorem wl_len (G : Gt) (ad : Nat → Nat) (σ : Mem) (sh : List Shp) (i : Nat) : (wl G ad σ i sh).length = sh.length := by
  induction sh generalizing i with
  | nil => rfl
  | cons c r ih => simp [wl, ih]
theorem up2_k {σ : Mem} {k j : Nat} {v : Int} {a : Nat} (h : a ≠ k) : up2 σ k j v a = σ a := by
  funext b
  simp [up2, h]
theorem ce_ne (G : Gt) (ad : Nat → Nat) {σ τ : Mem} {k : Nat} (h : τ k = σ k) (c : Shp) : ce G ad τ k c = ce G ad σ k c := by
  rcases c with ⟨t, n⟩ | ⟨ci, fs⟩
  · simp [ce, h]
  · simp only [ce]
    congr 2
    apply List.ext_getElem?
    intro j
    rw [fv_get, fv_get]
    congr 1
    funext f
    rcases f with _ | _ | q <;> simp [fv1, h]
theorem wl_set (G : Gt) (ad : Nat → Nat) {σ τ : Mem} {sh : List Shp} {k : Nat} {c : Shp} (hk : sh[k]? = some c) (h : ∀ a, a ≠ k → τ a = σ a) : (wl G ad σ 0 sh).set k (ad k, ce G ad τ k c) = wl G ad τ 0 sh := by
  apply List.ext_getElem?
  intro i
  rw [List.getElem?_set, wl_get, wl_get, wl_len]
  have hl : k < sh.length := (List.getElem?_eq_some_iff.mp hk).1
  by_cases hi : k = i
  · subst hi
    rw [if_pos rfl, if_pos hl, hk, Option.map_some, Nat.zero_add]
  · rw [if_neg hi]
    congr 1
    funext c
    simp only [Nat.zero_add]
    rw [ce_ne G ad (h i (fun e => hi e.symm))]
theorem fv_set (ad : Nat → Nat) {σ : Mem} {k : Nat} {fs : List Fld} {j : Nat} {v : Int} (hj : fs[j]? = some none) : (fv ad σ k 0 fs).set j (.int (iN v)) = fv ad (up2 σ k j v) k 0 fs := by
  apply List.ext_getElem?
  intro i
  have hl : j < fs.length := (List.getElem?_eq_some_iff.mp hj).1
  rw [List.getElem?_set, fv_get, fv_get, fv_len]
  by_cases hi : j = i
  · subst hi
    rw [if_pos rfl, if_pos hl, hj, Option.map_some]
    simp [fv1, up2]
  · rw [if_neg hi]
    congr 1
    funext f
    have hi' : i ≠ j := fun e => hi e.symm
    rcases f with _ | _ | q <;> simp [fv1, up2, hi']
theorem ar_set {σ : Mem} {k j : Nat} {v : Int} : upd (fun i => iN (σ k i)) j (iN v) = (fun i => iN (up2 σ k j v k i)) := by
  funext i
  by_cases hi : i = j
  · subst hi
    simp [upd, up2]
  · simp [upd, up2, hi]
/-- the cells that a method may change -/
def Aw (ad : Nat → Nat) (n sz : Nat) : Nat → Prop := fun q => (∃ k, k < n ∧ ad k = q) ∨ sz ≤ q
theorem Aw_mono {ad : Nat → Nat} {n sz sz' : Nat} (h : sz ≤ sz') : ∀ q, Aw ad n sz' q → Aw ad n sz q := fun q hq => hq.elim Or.inl (fun e => Or.inr (Nat.le_trans h e))
theorem Aw_new {ad : Nat → Nat} {n sz : Nat} : ∀ q, sz ≤ q → Aw ad n sz q := fun _ h => Or.inr h
/-- the world: all cells of the shape sh, at the addresses ad, with the numbers σ -/
def Wd (G : Gt) (sh : List Shp) (ad : Nat → Nat) (σ : Mem) (A : Nat → Prop) (H0 H : Heap) (locs : List Loc) : Prop :=
  va_P G.2.2 vwCl (wl G ad σ 0 sh) H ∧ va_D A (wl G ad σ 0 sh) ∧ va_S A H0 H locs
def Kx (G : Gt) (s : State) : Prop := va_K G.2.2 vwCl [(G.1, .int), (G.2.1, .boolean)] s
end
section
/-! what holds beside the world: links into nest mates, static tables -/
def nestF : List (String × Nat × String × String × String × String) := [(RX9, 86, "PlaySpans$Piece", "count", "I", "PlaySpans"), (RX2, 44, "PlaySpans$Piece", "count", "I", "PlaySpans"), (RX7, 73, "PlaySpans$Piece", "count", "I", "PlaySpans"), (RX3, 63, "PlaySpans$Piece", "count", "I", "PlaySpans"), (RX9, 96, "PlaySpans$Player", "listed", "I", "PlaySpans"), (RX9, 151, "PlaySpans$Search", "least", "I", "PlaySpans"), (RX9, 157, "PlaySpans$Search", "stuckAt", "I", "PlaySpans"), (RX9, 198, "PlaySpans$Search", "current", "Z", "PlaySpans"), (RX9, 163, "PlaySpans$Tally", "upTo", "I", "PlaySpans")]
def nestM : List (String × Nat × MethodName × String) := [(RX2, 11, yX1_init, "PlaySpans"), (RX9, 63, yX1_howMany, "PlaySpans"), (RX9, 195, yX1_lastOfHand, "PlaySpans"), (RX9, 183, yX1_timeOf, "PlaySpans"), (RX9, 186, yX1_lengthOf, "PlaySpans"), (RX9, 89, yX1_add, "PlaySpans"), (RX9, 105, yX1_boundOf, "PlaySpans"), (RX9, 109, yX1_setBound, "PlaySpans"), (RX9, 113, yX1_has, "PlaySpans"), (RX9, 116, yX1_pinOf, "PlaySpans"), (RX9, 119, yX1_setPin, "PlaySpans"), (RX2, 47, yX1_inCompass, "PlaySpans"), (RX0, 21, yX1_sizeOf, "PlaySpans"), (RX0, 51, yX1_handOf, "PlaySpans"), (RX0, 54, yX1_pitchOf, "PlaySpans"), (RX0, 57, yX1_lowestOf, "PlaySpans"), (RX0, 60, yX1_highestOf, "PlaySpans"), (RX4, 15, yX1_lowestOf, "PlaySpans"), (RX4, 21, yX1_boundOf, "PlaySpans"), (RX5, 15, yX1_sizeOf, "PlaySpans"), (RX5, 32, yX1_lowestOf, "PlaySpans"), (RX5, 39, yX1_highestOf, "PlaySpans"), (RX6, 15, yX1_sizeOf, "PlaySpans"), (RX6, 29, yX1_pitchOf, "PlaySpans"), (RX6, 33, yX1_boundOf, "PlaySpans"), (RX8, 23, yX1_boundOf, "PlaySpans"), (RX8, 28, yX1_lengthOf, "PlaySpans"), (RX9, 140, yX1_after, "PlaySpans"), (RX2, 55, yX1_boundOf, "PlaySpans"), (RX2, 59, yX1_timeOf, "PlaySpans"), (RX8, 38, yX1_timeOf, "PlaySpans"), (RX3, 72, yX1_before, "PlaySpans"), (RX3, 79, yX1_allows, "PlaySpans"), (RX3, 98, yX1_after, "PlaySpans"), (RX3, 118, yX1_firstOfHand, "PlaySpans"), (RX7, 49, yX1_firstOfHand, "PlaySpans"), (RX7, 97, yX1_allows, "PlaySpans"), (RX7, 76, yX1_handOf, "PlaySpans"), (RX9, 173, yX1_countOfHand, "PlaySpans"), (RX9, 176, yX1_countPinned, "PlaySpans"), (RX9, 180, yX1_handOf, "PlaySpans"), (RX9, 189, yX1_sizeOf, "PlaySpans"), (RX9, 192, yX1_pitchOf, "PlaySpans")]
def nwF (q : String × Nat × String × String × String × String) : Cond := .fieldLinkNest q.1 q.2.1 q.2.2.1 q.2.2.2.1 q.2.2.2.2.1 q.2.2.2.2.2
def nwM (q : String × Nat × MethodName × String) : Cond := .methodLinkNest q.1 q.2.1 q.2.2.1 q.2.2.2
def nestD : List MethodName := [⟨"PlaySpans$Player", "listOne", "(I)V"⟩, ⟨"PlaySpans$Player", "stepPrice", "(IIII)I"⟩]
def Nx (U : State) : Prop := (∀ q ∈ nestF, va_Nw (nwF q) U) ∧ (∀ q ∈ nestM, va_Nw (nwM q) U) ∧ ∀ q ∈ nestD, va_Nw (.declares q) U
def sx1 (C n : String) (N : Nat) (f : Nat → Int) (A : Nat → Prop) (U : State) (H : Heap) : Prop := ∃ t : Nat, va_Z C n "[I" (.ref t) A U H ∧ va_T .int t N (fun j => .int (iN (f j))) A U H
def tb_notes (j : Nat) : Int := ([3, 3, 1, 1, 2] : List Int).getD j 0
def tb_from (j : Nat) : Int := ([0, 1, 0, 0, 0, 0, 0, 0, 0, 0] : List Int).getD j 0
def tb_to (j : Nat) : Int := ([100, 2000, 200, 127, 127, 100, 127, 127, 127, 127] : List Int).getD j 0
def tb_part (j : Nat) : Int := ([12, 19, 24, 28, 31, 34, 36, 38, 40] : List Int).getD j 0
def Sx (A : Nat → Prop) (U : State) (H : Heap) : Prop := sx1 "PlaySpans" "NOTES_AT_MOST" 5 tb_notes A U H ∧ sx1 "PlaySpans" "BOUND_FROM" 10 tb_from A U H ∧ sx1 "PlaySpans" "BOUND_TO" 10 tb_to A U H ∧ sx1 "PlaySpans$Slide" "PARTIALS" 9 tb_part A U H
def Ex (A : Nat → Prop) (U : State) : Prop := Nx U ∧ Sx A U U.heap
theorem Nx.warm {s U : State} (hW : s.WarmedH U.vm) (h : Nx s) : Nx U := ⟨fun q hq => (h.1 q hq).warmF hW, fun q hq => (h.2.1 q hq).warmM hW, fun q hq => (h.2.2 q hq).warmD hW⟩
theorem Nx.same {u U : State} (e : u.vm = U.vm) (h : Nx u) : Nx U := ⟨fun q hq => va_Nw.same rfl e (h.1 q hq), fun q hq => va_Nw.same rfl e (h.2.1 q hq), fun q hq => va_Nw.same rfl e (h.2.2 q hq)⟩
theorem sx1.go {C n : String} {N : Nat} {f : Nat → Int} {A B : Nat → Prop} {u U : State} {H H1 : Heap} (h : sx1 C n N f A u H) (hvm : u.vm.Alike U.vm) (hq : ∀ a : Nat, a < H.size → ¬ A a → H1[a]? = H[a]?) (hAB : ∀ q, B q → A q) : sx1 C n N f B U H1 := by
  obtain ⟨t, h1, h2⟩ := h
  exact ⟨t, ((h1.moved hvm).kept hq).narrow hAB, ((h2.moved hvm).kept hq).narrow hAB⟩
theorem Sx.go {A B : Nat → Prop} {u U : State} {H H1 : Heap} (h : Sx A u H) (hvm : u.vm.Alike U.vm) (hq : ∀ a : Nat, a < H.size → ¬ A a → H1[a]? = H[a]?) (hAB : ∀ q, B q → A q) : Sx B U H1 :=
  ⟨h.1.go hvm hq hAB, h.2.1.go hvm hq hAB, h.2.2.1.go hvm hq hAB, h.2.2.2.go hvm hq hAB⟩
/-- a contract's start, the world behind it -/
def Pst (G : Gt) (sh : List Shp) (ad : Nat → Nat) (σ : Mem) (sz : Nat) (U : State) : Prop := U.heap.size = sz ∧ va_P G.2.2 vwCl (wl G ad σ 0 sh) U.heap ∧ Kx G U ∧ va_D (fun _ => True) (wl G ad σ 0 sh) ∧ Ex (Aw ad sh.length sz) U
def Bw (G : Gt) (sh : List Shp) (ad : Nat → Nat) (σ : Mem) (sz : Nat) (t : State) : Prop := va_P G.2.2 vwCl (wl G ad σ 0 sh) t.heap ∧ Kx G t ∧ va_D (Aw ad sh.length sz) (wl G ad σ 0 sh)
/-- three kinds of contract: an answer and nothing changed; an answer and a new memory; a new memory -/
def CI (l : Launch) (y : MethodName) (c0 : Cond) (rm : Room) (G : Gt) (sh : List Shp) (ad : Nat → Nat) (σ : Mem) (av : List Value) (post : Int → Prop) : Prop := ∀ sz : Nat, Met l y (c0 :: ALL) rm (va_Pc av (Pst G sh ad σ sz)) (va_Qi (fun r (u : Int) => r = iN u ∧ post u) (fun _ t => Bw G sh ad σ sz t) (Aw ad sh.length sz)) 0 0 (Aw ad sh.length sz)
def CM (l : Launch) (y : MethodName) (c0 : Cond) (rm : Room) (G : Gt) (sh : List Shp) (ad : Nat → Nat) (σ : Mem) (av : List Value) (post : Int → Mem → Prop) : Prop := ∀ sz : Nat, Met l y (c0 :: ALL) rm (va_Pc av (Pst G sh ad σ sz)) (va_Qi (fun r (u : Int × Mem) => r = iN u.1 ∧ post u.1 u.2) (fun u t => Bw G sh ad u.2 sz t) (Aw ad sh.length sz)) 0 0 (Aw ad sh.length sz)
def CV (l : Launch) (y : MethodName) (c0 : Cond) (rm : Room) (G : Gt) (sh : List Shp) (ad : Nat → Nat) (σ : Mem) (av : List Value) (post : Mem → Prop) : Prop := ∀ sz : Nat, Met l y (c0 :: ALL) rm (va_Pc av (Pst G sh ad σ sz)) (va_Qv (fun (u : Mem) => post u) (fun u t => Bw G sh ad u sz t) (Aw ad sh.length sz)) 0 0 (Aw ad sh.length sz)
theorem Dw {G : Gt} {sh : List Shp} {ad : Nat → Nat} {σ : Mem} {A : Nat → Prop} {sz : Nat} (h : va_D A (wl G ad σ 0 sh)) : va_D (Aw ad sh.length sz) (wl G ad σ 0 sh) := by
  refine h.weaken (fun k q hk _ => ?_)
  rw [wl_get] at hk
  cases hs : sh[k]? with
  | none => rw [hs] at hk; cases hk
  | some c =>
    rw [hs] at hk
    cases hk
    exact Or.inl ⟨0 + k, by rw [Nat.zero_add]; exact (List.getElem?_eq_some_iff.mp hs).1, rfl⟩
theorem Pst.blind (G : Gt) (sh : List Shp) (ad : Nat → Nat) (σ : Mem) (sz : Nat) (av : List Value) : FrameBlind (va_Pc av (Pst G sh ad σ sz)) := by
  intro a U g mk q
  obtain ⟨q0, q1, q2, q3, q4, q5, q6⟩ := q
  exact ⟨q0, q1, q2, va_K.moved (u := U) (U := U.calling g mk a) (Vm.Alike.refl U.vm) q3, q4, q5.same rfl, q6.go (Vm.Alike.refl U.vm) (fun _ _ _ => rfl) (fun _ h => h)⟩
theorem Pst.pre {G : Gt} {sh : List Shp} {ad : Nat → Nat} {σ : Mem} {s : State} {H : Heap} {locs : List Loc} (hK : Kx G s) (hE : Ex (Aw ad sh.length s.heap.size) s) (hW : Wd G sh ad σ (Aw ad sh.length s.heap.size) s.heap H locs) (av : List Value) : ∀ U : State, U.heap = H → s.WarmedH U.vm → va_Pc av (Pst G sh ad σ H.size) av.toArray U := by
  intro U hU hWm
  refine ⟨rfl, by rw [hU], by rw [hU]; exact hW.1, va_K.moved hWm.alike hK, hW.2.1.weaken (fun _ _ _ _ => trivial), hE.1.warm hWm, ?_⟩
  rw [hU]
  exact hE.2.go hWm.alike hW.2.2.2.1 (Aw_mono hW.2.2.1)
theorem GoodA {c0 c1 : Cond} (h : c1 ∈ ALL) : GoodIn (c0 :: ALL) (c1 :: ALL) := by
  intro w hw
  rcases List.mem_cons.mp hw with rfl | h1
  · exact ⟨List.mem_cons_of_mem _ h, good_of_word (al_good _ h)⟩
  · exact ⟨List.mem_cons_of_mem _ h1, good_of_word (al_good _ h1)⟩
theorem GoodB {c0 : Cond} {ws : List Cond} (h : ∀ w ∈ ws, w ∈ ALL) : GoodIn (c0 :: ALL) ws := fun w hw => ⟨List.mem_cons_of_mem _ (h w hw), good_of_word (al_good _ (h w hw))⟩
theorem GoodAp {big a b : List Cond} (ha : GoodIn big a) (hb : GoodIn big b) : GoodIn big (a ++ b) := fun w h => (List.mem_append.mp h).elim (ha w) (hb w)
theorem mem4 {a b c d : Cond} (h1 : a ∈ ALL) (h2 : b ∈ ALL) (h3 : c ∈ ALL) (h4 : d ∈ ALL) : ∀ w ∈ [a, b, c, d], w ∈ ALL := by
  intro w hw
  simp only [List.mem_cons, List.not_mem_nil, or_false] at hw
  rcases hw with rfl | rfl | rfl | rfl <;> assumption
theorem mem3 {a b c : Cond} (h1 : a ∈ ALL) (h2 : b ∈ ALL) (h3 : c ∈ ALL) : ∀ w ∈ [a, b, c], w ∈ ALL := by
  intro w hw
  simp only [List.mem_cons, List.not_mem_nil, or_false] at hw
  rcases hw with rfl | rfl | rfl <;> assumption
theorem mem5 {a b c d e : Cond} (h1 : a ∈ ALL) (h2 : b ∈ ALL) (h3 : c ∈ ALL) (h4 : d ∈ ALL) (h5 : e ∈ ALL) : ∀ w ∈ [a, b, c, d, e], w ∈ ALL := by
  intro w hw
  simp only [List.mem_cons, List.not_mem_nil, or_false] at hw
  rcases hw with rfl | rfl | rfl | rfl | rfl <;> assumption
section ROWS
variable {p : Program} {l : Launch} {e : Env} {R : Room} {s : State} {m : MethodId} {args : Array Value} {below : List Frame} {meth : Method} {c : Code} {H : Heap} {locs : List Loc} {cells slots : Nat} {Q : State → Prop}
variable {pc : Nat} {ls : Array Slot} {rest : List Value} {cc : ByteArray}
theorem n_iadd (hexec : p.tables.exec = Jvm.exec) (hb : c.code = cc) {x y : Int} (hdg : decode cc pc = .ok (.iadd, 1)) (k : W p l e R s m args below meth c H locs cells slots Q (F0 m (pc + 1) ls (.int (iN (x + y)) :: rest))) : W p l e R s m args below meth c H locs cells slots Q (F0 m pc ls (.int (iN y) :: .int (iN x) :: rest)) := lv_iadd hexec hb hdg (by rw [iN_add]; exact k)
theorem n_isub (hexec : p.tables.exec = Jvm.exec) (hb : c.code = cc) {x y : Int} (hdg : decode cc pc = .ok (.isub, 1)) (k : W p l e R s m args below meth c H locs cells slots Q (F0 m (pc + 1) ls (.int (iN (x - y)) :: rest))) : W p l e R s m args below meth c H locs cells slots Q (F0 m pc ls (.int (iN y) :: .int (iN x) :: rest)) := lv_isub hexec hb hdg (by rw [iN_sub]; exact k)
theorem n_imul (hexec : p.tables.exec = Jvm.exec) (hb : c.code = cc) {x y : Int} (hdg : decode cc pc = .ok (.imul, 1)) (k : W p l e R s m args below meth c H locs cells slots Q (F0 m (pc + 1) ls (.int (iN (x * y)) :: rest))) : W p l e R s m args below meth c H locs cells slots Q (F0 m pc ls (.int (iN y) :: .int (iN x) :: rest)) := lv_imul hexec hb hdg (by rw [iN_mul]; exact k)
theorem n_ineg (hexec : p.tables.exec = Jvm.exec) (hb : c.code = cc) {x : Int} (hdg : decode cc pc = .ok (.ineg, 1)) (k : W p l e R s m args below meth c H locs cells slots Q (F0 m (pc + 1) ls (.int (iN (-x)) :: rest))) : W p l e R s m args below meth c H locs cells slots Q (F0 m pc ls (.int (iN x) :: rest)) := lv_ineg hexec hb hdg (by first | (rw [iN_neg]; exact k) | (rw [show (0 : Int32) = iN 0 from rfl, iN_sub, show (0 : Int) - x = -x by omega]; exact k))
/-- the bits, as numbers -/
def andI (x y : Int) : Int := (iN x &&& iN y).toInt
def shrI (x y : Int) : Int := (iN x >>> (iN y &&& 31)).toInt
theorem n_iand (hexec : p.tables.exec = Jvm.exec) (hb : c.code = cc) {x y : Int} (hdg : decode cc pc = .ok (.iand, 1)) (k : W p l e R s m args below meth c H locs cells slots Q (F0 m (pc + 1) ls (.int (iN (andI x y)) :: rest))) : W p l e R s m args below meth c H locs cells slots Q (F0 m pc ls (.int (iN y) :: .int (iN x) :: rest)) := lv_iand hexec hb hdg (by rw [andI, iN_of] at k; exact k)
theorem n_ishr (hexec : p.tables.exec = Jvm.exec) (hb : c.code = cc) {x y : Int} (hdg : decode cc pc = .ok (.ishr, 1)) (k : W p l e R s m args below meth c H locs cells slots Q (F0 m (pc + 1) ls (.int (iN (shrI x y)) :: rest))) : W p l e R s m args below meth c H locs cells slots Q (F0 m pc ls (.int (iN y) :: .int (iN x) :: rest)) := lv_ishr hexec hb hdg (by rw [shrI, iN_of] at k; exact k)
theorem n_iconst (hexec : p.tables.exec = Jvm.exec) (hb : c.code = cc) {n : Int} (hdg : decode cc pc = .ok (.iconst n, 1)) (k : W p l e R s m args below meth c H locs cells slots Q (F0 m (pc + 1) ls (.int (iN n) :: rest))) : W p l e R s m args below meth c H locs cells slots Q (F0 m pc ls rest) := lv_iconst hexec hb hdg rfl k
theorem n_bipush (hexec : p.tables.exec = Jvm.exec) (hb : c.code = cc) {n : Int} (hdg : decode cc pc = .ok (.bipush n, 2)) (hv : (Int8.ofInt n).toInt32 = iN n) (k : W p l e R s m args below meth c H locs cells slots Q (F0 m (pc + 2) ls (.int (iN n) :: rest))) : W p l e R s m args below meth c H locs cells slots Q (F0 m pc ls rest) := lv_bipush hexec hb hdg hv k
theorem n_sipush (hexec : p.tables.exec = Jvm.exec) (hb : c.code = cc) {n : Int} (hdg : decode cc pc = .ok (.sipush n, 3)) (hv : (Int16.ofInt n).toInt32 = iN n) (k : W p l e R s m args below meth c H locs cells slots Q (F0 m (pc + 3) ls (.int (iN n) :: rest))) : W p l e R s m args below meth c H locs cells slots Q (F0 m pc ls rest) := lv_sipush hexec hb hdg hv k
theorem n_i2l (hexec : p.tables.exec = Jvm.exec) (hb : c.code = cc) {x : Int} (hx : rg x) (hdg : decode cc pc = .ok (.i2l, 1)) (k : W p l e R s m args below meth c H locs cells slots Q (F0 m (pc + 1) ls (.long (jN x) :: rest))) : W p l e R s m args below meth c H locs cells slots Q (F0 m pc ls (.int (iN x) :: rest)) := lv_i2l hexec hb hdg (iN_j hx) k
theorem n_l2i (hexec : p.tables.exec = Jvm.exec) (hb : c.code = cc) {x : Int} (hdg : decode cc pc = .ok (.l2i, 1)) (k : W p l e R s m args below meth c H locs cells slots Q (F0 m (pc + 1) ls (.int (iN x) :: rest))) : W p l e R s m args below meth c H locs cells slots Q (F0 m pc ls (.long (jN x) :: rest)) := lv_l2i hexec hb hdg Int64.toInt32_ofInt k
theorem n_ladd (hexec : p.tables.exec = Jvm.exec) (hb : c.code = cc) {x y : Int} (hdg : decode cc pc = .ok (.ladd, 1)) (k : W p l e R s m args below meth c H locs cells slots Q (F0 m (pc + 1) ls (.long (jN (x + y)) :: rest))) : W p l e R s m args below meth c H locs cells slots Q (F0 m pc ls (.long (jN y) :: .long (jN x) :: rest)) := lv_ladd hexec hb hdg (by rw [jN_add]; exact k)
theorem n_lmul (hexec : p.tables.exec = Jvm.exec) (hb : c.code = cc) {x y : Int} (hdg : decode cc pc = .ok (.lmul, 1)) (k : W p l e R s m args below meth c H locs cells slots Q (F0 m (pc + 1) ls (.long (jN (x * y)) :: rest))) : W p l e R s m args below meth c H locs cells slots Q (F0 m pc ls (.long (jN y) :: .long (jN x) :: rest)) := lv_lmul hexec hb hdg (by rw [jN_mul]; exact k)
theorem n_icmp_eq (hexec : p.tables.exec = Jvm.exec) (hb : c.code = cc) {x y : Int} {X Y : Prop} (hx : rg x) (hy : rg y) (hT : x = y → X) (hF : x ≠ y → Y) {off : Int} {tgt : Nat} (hdg : decode cc pc = .ok (.if_icmp .eq off, 3)) (ht : (pc : Int) + off = (tgt : Int)) (kt : X → W p l e R s m args below meth c H locs cells slots Q (F0 m tgt ls rest)) (kf : Y → W p l e R s m args below meth c H locs cells slots Q (F0 m (pc + 3) ls rest)) : W p l e R s m args below meth c H locs cells slots Q (F0 m pc ls (.int (iN y) :: .int (iN x) :: rest)) := lv_icmp_eq hexec hb hdg ht (fun h => kt (hT ((iN_eq hx hy).mp h))) (fun h => kf (hF (fun q => h ((iN_eq hx hy).mpr q))))
theorem n_if_eq (hexec : p.tables.exec = Jvm.exec) (hb : c.code = cc) {x : Int} {X Y : Prop} (hx : rg x) (hT : x = 0 → X) (hF : x ≠ 0 → Y) {off : Int} {tgt : Nat} (hdg : decode cc pc = .ok (.ifCond .eq off, 3)) (ht : (pc : Int) + off = (tgt : Int)) (kt : X → W p l e R s m args below meth c H locs cells slots Q (F0 m tgt ls rest)) (kf : Y → W p l e R s m args below meth c H locs cells slots Q (F0 m (pc + 3) ls rest)) : W p l e R s m args below meth c H locs cells slots Q (F0 m pc ls (.int (iN x) :: rest)) := by
  have hy : rg 0 := rg_c 0 rfl
  exact lv_if_eq hexec hb hdg ht (fun h => kt (hT ((iN_eq hx hy).mp h))) (fun h => kf (hF (fun q => h ((iN_eq hx hy).mpr q))))
theorem n_icmp_ne (hexec : p.tables.exec = Jvm.exec) (hb : c.code = cc) {x y : Int} {X Y : Prop} (hx : rg x) (hy : rg y) (hT : x ≠ y → X) (hF : x = y → Y) {off : Int} {tgt : Nat} (hdg : decode cc pc = .ok (.if_icmp .ne off, 3)) (ht : (pc : Int) + off = (tgt : Int)) (kt : X → W p l e R s m args below meth c H locs cells slots Q (F0 m tgt ls rest)) (kf : Y → W p l e R s m args below meth c H locs cells slots Q (F0 m (pc + 3) ls rest)) : W p l e R s m args below meth c H locs cells slots Q (F0 m pc ls (.int (iN y) :: .int (iN x) :: rest)) := lv_icmp_ne hexec hb hdg ht (fun h => kt (hT (fun q => h ((iN_eq hx hy).mpr q)))) (fun h => kf (hF ((iN_eq hx hy).mp h)))
theorem n_if_ne (hexec : p.tables.exec = Jvm.exec) (hb : c.code = cc) {x : Int} {X Y : Prop} (hx : rg x) (hT : x ≠ 0 → X) (hF : x = 0 → Y) {off : Int} {tgt : Nat} (hdg : decode cc pc = .ok (.ifCond .ne off, 3)) (ht : (pc : Int) + off = (tgt : Int)) (kt : X → W p l e R s m args below meth c H locs cells slots Q (F0 m tgt ls rest)) (kf : Y → W p l e R s m args below meth c H locs cells slots Q (F0 m (pc + 3) ls rest)) : W p l e R s m args below meth c H locs cells slots Q (F0 m pc ls (.int (iN x) :: rest)) := by
  have hy : rg 0 := rg_c 0 rfl
  exact lv_if_ne hexec hb hdg ht (fun h => kt (hT (fun q => h ((iN_eq hx hy).mpr q)))) (fun h => kf (hF ((iN_eq hx hy).mp h)))
theorem n_icmp_lt (hexec : p.tables.exec = Jvm.exec) (hb : c.code = cc) {x y : Int} {X Y : Prop} (hx : rg x) (hy : rg y) (hT : x < y → X) (hF : y ≤ x → Y) {off : Int} {tgt : Nat} (hdg : decode cc pc = .ok (.if_icmp .lt off, 3)) (ht : (pc : Int) + off = (tgt : Int)) (kt : X → W p l e R s m args below meth c H locs cells slots Q (F0 m tgt ls rest)) (kf : Y → W p l e R s m args below meth c H locs cells slots Q (F0 m (pc + 3) ls rest)) : W p l e R s m args below meth c H locs cells slots Q (F0 m pc ls (.int (iN y) :: .int (iN x) :: rest)) := lv_icmp_lt hexec hb hdg ht (fun h => kt (hT ((iN_lt hx hy).mp h))) (fun h => kf (hF (Int.not_lt.mp (fun q => h ((iN_lt hx hy).mpr q)))))
theorem n_if_lt (hexec : p.tables.exec = Jvm.exec) (hb : c.code = cc) {x : Int} {X Y : Prop} (hx : rg x) (hT : x < 0 → X) (hF : 0 ≤ x → Y) {off : Int} {tgt : Nat} (hdg : decode cc pc = .ok (.ifCond .lt off, 3)) (ht : (pc : Int) + off = (tgt : Int)) (kt : X → W p l e R s m args below meth c H locs cells slots Q (F0 m tgt ls rest)) (kf : Y → W p l e R s m args below meth c H locs cells slots Q (F0 m (pc + 3) ls rest)) : W p l e R s m args below meth c H locs cells slots Q (F0 m pc ls (.int (iN x) :: rest)) := by
  have hy : rg 0 := rg_c 0 rfl
  exact lv_if_lt hexec hb hdg ht (fun h => kt (hT ((iN_lt hx hy).mp h))) (fun h => kf (hF (Int.not_lt.mp (fun q => h ((iN_lt hx hy).mpr q)))))
theorem n_icmp_ge (hexec : p.tables.exec = Jvm.exec) (hb : c.code = cc) {x y : Int} {X Y : Prop} (hx : rg x) (hy : rg y) (hT : y ≤ x → X) (hF : x < y → Y) {off : Int} {tgt : Nat} (hdg : decode cc pc = .ok (.if_icmp .ge off, 3)) (ht : (pc : Int) + off = (tgt : Int)) (kt : X → W p l e R s m args below meth c H locs cells slots Q (F0 m tgt ls rest)) (kf : Y → W p l e R s m args below meth c H locs cells slots Q (F0 m (pc + 3) ls rest)) : W p l e R s m args below meth c H locs cells slots Q (F0 m pc ls (.int (iN y) :: .int (iN x) :: rest)) := lv_icmp_ge hexec hb hdg ht (fun h => kt (hT ((iN_le hy hx).mp h))) (fun h => kf (hF (Int.not_le.mp (fun q => h ((iN_le hy hx).mpr q)))))
theorem n_if_ge (hexec : p.tables.exec = Jvm.exec) (hb : c.code = cc) {x : Int} {X Y : Prop} (hx : rg x) (hT : 0 ≤ x → X) (hF : x < 0 → Y) {off : Int} {tgt : Nat} (hdg : decode cc pc = .ok (.ifCond .ge off, 3)) (ht : (pc : Int) + off = (tgt : Int)) (kt : X → W p l e R s m args below meth c H locs cells slots Q (F0 m tgt ls rest)) (kf : Y → W p l e R s m args below meth c H locs cells slots Q (F0 m (pc + 3) ls rest)) : W p l e R s m args below meth c H locs cells slots Q (F0 m pc ls (.int (iN x) :: rest)) := by
  have hy : rg 0 := rg_c 0 rfl
  exact lv_if_ge hexec hb hdg ht (fun h => kt (hT ((iN_le hy hx).mp h))) (fun h => kf (hF (Int.not_le.mp (fun q => h ((iN_le hy hx).mpr q)))))
theorem n_icmp_gt (hexec : p.tables.exec = Jvm.exec) (hb : c.code = cc) {x y : Int} {X Y : Prop} (hx : rg x) (hy : rg y) (hT : y < x → X) (hF : x ≤ y → Y) {off : Int} {tgt : Nat} (hdg : decode cc pc = .ok (.if_icmp .gt off, 3)) (ht : (pc : Int) + off = (tgt : Int)) (kt : X → W p l e R s m args below meth c H locs cells slots Q (F0 m tgt ls rest)) (kf : Y → W p l e R s m args below meth c H locs cells slots Q (F0 m (pc + 3) ls rest)) : W p l e R s m args below meth c H locs cells slots Q (F0 m pc ls (.int (iN y) :: .int (iN x) :: rest)) := lv_icmp_gt hexec hb hdg ht (fun h => kt (hT ((iN_lt hy hx).mp h))) (fun h => kf (hF (Int.not_lt.mp (fun q => h ((iN_lt hy hx).mpr q)))))
theorem n_if_gt (hexec : p.tables.exec = Jvm.exec) (hb : c.code = cc) {x : Int} {X Y : Prop} (hx : rg x) (hT : 0 < x → X) (hF : x ≤ 0 → Y) {off : Int} {tgt : Nat} (hdg : decode cc pc = .ok (.ifCond .gt off, 3)) (ht : (pc : Int) + off = (tgt : Int)) (kt : X → W p l e R s m args below meth c H locs cells slots Q (F0 m tgt ls rest)) (kf : Y → W p l e R s m args below meth c H locs cells slots Q (F0 m (pc + 3) ls rest)) : W p l e R s m args below meth c H locs cells slots Q (F0 m pc ls (.int (iN x) :: rest)) := by
  have hy : rg 0 := rg_c 0 rfl
  exact lv_if_gt hexec hb hdg ht (fun h => kt (hT ((iN_lt hy hx).mp h))) (fun h => kf (hF (Int.not_lt.mp (fun q => h ((iN_lt hy hx).mpr q)))))
theorem n_icmp_le (hexec : p.tables.exec = Jvm.exec) (hb : c.code = cc) {x y : Int} {X Y : Prop} (hx : rg x) (hy : rg y) (hT : x ≤ y → X) (hF : y < x → Y) {off : Int} {tgt : Nat} (hdg : decode cc pc = .ok (.if_icmp .le off, 3)) (ht : (pc : Int) + off = (tgt : Int)) (kt : X → W p l e R s m args below meth c H locs cells slots Q (F0 m tgt ls rest)) (kf : Y → W p l e R s m args below meth c H locs cells slots Q (F0 m (pc + 3) ls rest)) : W p l e R s m args below meth c H locs cells slots Q (F0 m pc ls (.int (iN y) :: .int (iN x) :: rest)) := lv_icmp_le hexec hb hdg ht (fun h => kt (hT ((iN_le hx hy).mp h))) (fun h => kf (hF (Int.not_le.mp (fun q => h ((iN_le hx hy).mpr q)))))
theorem n_if_le (hexec : p.tables.exec = Jvm.exec) (hb : c.code = cc) {x : Int} {X Y : Prop} (hx : rg x) (hT : x ≤ 0 → X) (hF : 0 < x → Y) {off : Int} {tgt : Nat} (hdg : decode cc pc = .ok (.ifCond .le off, 3)) (ht : (pc : Int) + off = (tgt : Int)) (kt : X → W p l e R s m args below meth c H locs cells slots Q (F0 m tgt ls rest)) (kf : Y → W p l e R s m args below meth c H locs cells slots Q (F0 m (pc + 3) ls rest)) : W p l e R s m args below meth c H locs cells slots Q (F0 m pc ls (.int (iN x) :: rest)) := by
  have hy : rg 0 := rg_c 0 rfl
  exact lv_if_le hexec hb hdg ht (fun h => kt (hT ((iN_le hx hy).mp h))) (fun h => kf (hF (Int.not_le.mp (fun q => h ((iN_le hx hy).mpr q)))))
end ROWS
end
section
section HEAP
variable {p : Program} {l : Launch} {e : Env} {R : Room} {s : State} {m : MethodId} {args : Array Value} {below : List Frame} {meth : Method} {c : Code} {H H0 : Heap} {locs : List Loc} {cells slots : Nat} {Q : State → Prop}
variable {pc : Nat} {ls : Array Slot} {rest : List Value} {cc : ByteArray} {G : Gt} {sh : List Shp} {ad : Nat → Nat} {σ : Mem} {A : Nat → Prop} {c0 : Cond} {own : String}
theorem Wd.at (hW : Wd G sh ad σ A H0 H locs) (k : Nat) {x : Shp} (hk : sh[k]? = some x) : (wl G ad σ 0 sh)[k]? = some (ad k, ce G ad σ k x) := by
  rw [wl_get, hk]
  simp
/-- getfield: a number -/
theorem g_get (hexec : p.tables.exec = Jvm.exec) (hb : c.code = cc) (hts : ∀ w ∈ c0 :: ALL, w.before args s = true) (hown : s.vm.findClass own = some m.cls) (hK : Kx G s) (hW : Wd G sh ad σ A H0 H locs) (k : Nat) {ci : Nat} {fs : List Fld} (hk : sh[k]? = some (.inr (ci, fs))) {C ref : String} {T : u_T} {N index : Nat} (hc : vwCl[ci]? = some (C, T, N)) (huw : ∀ w ∈ u_ws C T N, w ∈ ALL) (j : Nat) (hj : j < N) (hf : fs[j]? = some none) (hlink : Cond.fieldLink own index ref (T j).2.1 (T j).2.2.1 ∈ ALL) (hsame : ∀ x, s.fieldFound? (T j).1 (T j).2.1 (T j).2.2.1 = some x → s.fieldFound? ref (T j).2.1 (T j).2.2.1 = some x) (hdg : decode cc pc = .ok (.getfield index, 3))
    (kk : W p l e R s m args below meth c H locs cells slots Q (F0 m (pc + 3) ls (.int (iN (σ k j)) :: rest))) : W p l e R s m args below meth c H locs cells slots Q (F0 m pc ls (.ref (ad k) :: rest)) :=
  va_get (v := .int (iN (σ k j))) hexec hb hts (fun w h => List.mem_cons_of_mem _ (huw w h)) hown hK hW.1 k (hW.at k hk) hc j hj (hts _ (List.mem_cons_of_mem _ hlink)) hsame (by rw [fv_get, hf]; simp [fv1]) hdg kk
theorem g_getN (hexec : p.tables.exec = Jvm.exec) (hb : c.code = cc) (hts : ∀ w ∈ c0 :: ALL, w.before args s = true) (hown : s.vm.findClass own = some m.cls) (hK : Kx G s) (hE : Ex A s) (hW : Wd G sh ad σ A H0 H locs) (k : Nat) {ci : Nat} {fs : List Fld} (hk : sh[k]? = some (.inr (ci, fs))) {C ref host : String} {T : u_T} {N index : Nat} (hc : vwCl[ci]? = some (C, T, N)) (huw : ∀ w ∈ u_ws C T N, w ∈ ALL) (j : Nat) (hj : j < N) (hf : fs[j]? = some none) (i : Nat) (hlink : nestF[i]? = some (own, index, ref, (T j).2.1, (T j).2.2.1, host)) (hsame : ∀ x, s.fieldFound? (T j).1 (T j).2.1 (T j).2.2.1 = some x → s.fieldFound? ref (T j).2.1 (T j).2.2.1 = some x) (hdg : decode cc pc = .ok (.getfield index, 3))
    (kk : W p l e R s m args below meth c H locs cells slots Q (F0 m (pc + 3) ls (.int (iN (σ k j)) :: rest))) : W p l e R s m args below meth c H locs cells slots Q (F0 m pc ls (.ref (ad k) :: rest)) :=
  va_getN (host := host) (v := .int (iN (σ k j))) hexec hb hts (fun w h => List.mem_cons_of_mem _ (huw w h)) hown hK hW.1 k (hW.at k hk) hc j hj (va_Nw.use rfl (hE.1.1 _ (List.mem_of_getElem? hlink))) hsame (by rw [fv_get, hf]; simp [fv1]) hdg kk
/-- getfield: a reference to another cell -/
theorem g_getr (hexec : p.tables.exec = Jvm.exec) (hb : c.code = cc) (hts : ∀ w ∈ c0 :: ALL, w.before args s = true) (hown : s.vm.findClass own = some m.cls) (hK : Kx G s) (hW : Wd G sh ad σ A H0 H locs) (k : Nat) {ci q : Nat} {fs : List Fld} (hk : sh[k]? = some (.inr (ci, fs))) {C ref : String} {T : u_T} {N index : Nat} (hc : vwCl[ci]? = some (C, T, N)) (huw : ∀ w ∈ u_ws C T N, w ∈ ALL) (j : Nat) (hj : j < N) (hf : fs[j]? = some (some (some q))) (hlink : Cond.fieldLink own index ref (T j).2.1 (T j).2.2.1 ∈ ALL) (hsame : ∀ x, s.fieldFound? (T j).1 (T j).2.1 (T j).2.2.1 = some x → s.fieldFound? ref (T j).2.1 (T j).2.2.1 = some x) (hdg : decode cc pc = .ok (.getfield index, 3))
    (kk : W p l e R s m args below meth c H locs cells slots Q (F0 m (pc + 3) ls (.ref (ad q) :: rest))) : W p l e R s m args below meth c H locs cells slots Q (F0 m pc ls (.ref (ad k) :: rest)) :=
  va_get (v := .ref (ad q)) hexec hb hts (fun w h => List.mem_cons_of_mem _ (huw w h)) hown hK hW.1 k (hW.at k hk) hc j hj (hts _ (List.mem_cons_of_mem _ hlink)) hsame (by rw [fv_get, hf]; simp [fv1]) hdg kk
theorem Wd.upd (hW : Wd G sh ad σ A H0 H locs) {H1 : Heap} {locs1 : List Loc} (k : Nat) {x : Shp} (hk : sh[k]? = some x) {τ : Mem} (hτ : ∀ a, a ≠ k → τ a = σ a) {E : va_E} (hE : E = ce G ad τ k x) (h1 : va_P G.2.2 vwCl ((wl G ad σ 0 sh).set k (ad k, E)) H1) (h2 : va_D A ((wl G ad σ 0 sh).set k (ad k, E))) (h3 : va_S A H0 H1 locs1) : Wd G sh ad τ A H0 H1 locs1 := by
  subst hE
  rw [wl_set G ad hk hτ] at h1 h2
  exact ⟨h1, h2, h3⟩
/-- putfield: a number -/
theorem g_put (hexec : p.tables.exec = Jvm.exec) (hb : c.code = cc) (hts : ∀ w ∈ c0 :: ALL, w.before args s = true) (hown : s.vm.findClass own = some m.cls) (hK : Kx G s) (hW : Wd G sh ad σ A H0 H locs) (k : Nat) {ci : Nat} {fs : List Fld} (hk : sh[k]? = some (.inr (ci, fs))) {C ref : String} {T : u_T} {N index : Nat} (hc : vwCl[ci]? = some (C, T, N)) (huw : ∀ w ∈ u_ws C T N, w ∈ ALL) (ty0 : Nat → FieldType) (hty : ∀ k, k < N → parseFieldDescriptor (T k).2.2.1 = some (ty0 k)) (hnm : ∀ a, a < N → ∀ b, b < N → a ≠ b → (T a).2.1 ≠ (T b).2.1) (j : Nat) (hj : j < N) (hf : fs[j]? = some none) (hlink : Cond.fieldLink own index ref (T j).2.1 (T j).2.2.1 ∈ ALL) (hsame : ∀ x, s.fieldFound? (T j).1 (T j).2.1 (T j).2.2.1 = some x → s.fieldFound? ref (T j).2.1 (T j).2.2.1 = some x) (hfin : (T j).2.2.2 = false) {v : Int} (hn : narrow (ty0 j) (.int (iN v)) = .int (iN v)) (hfit : fits (ty0 j) (.int (iN v)) = true) (hdg : decode cc pc = .ok (.putfield index, 3))
    (kk : ∀ (τ : Mem) (H1 : Heap) (locs1 : List Loc), τ = up2 σ k j v → Wd G sh ad τ A H0 H1 locs1 → W p l e R s m args below meth c H1 locs1 cells slots Q (F0 m (pc + 3) ls rest)) : W p l e R s m args below meth c H locs cells slots Q (F0 m pc ls (.int (iN v) :: .ref (ad k) :: rest)) :=
  va_put (ty := ty0 j) hexec hb hts (fun w h => List.mem_cons_of_mem _ (huw w h)) ty0 hty hnm hown hK hW.1 hW.2.1 hW.2.2 k (hW.at k hk) hc j hj (hts _ (List.mem_cons_of_mem _ hlink)) hsame hfin (hty j hj) hn hfit (by rw [fv_len]; exact (List.getElem?_eq_some_iff.mp hf).1) hdg
    (fun H1 locs1 h1 h2 h3 => kk _ H1 locs1 rfl (hW.upd k hk (fun a ha => up2_k ha) (by simp only [ce]; rw [fv_set ad hf]) h1 h2 h3))
theorem g_putN (hexec : p.tables.exec = Jvm.exec) (hb : c.code = cc) (hts : ∀ w ∈ c0 :: ALL, w.before args s = true) (hown : s.vm.findClass own = some m.cls) (hK : Kx G s) (hE : Ex A s) (hW : Wd G sh ad σ A H0 H locs) (k : Nat) {ci : Nat} {fs : List Fld} (hk : sh[k]? = some (.inr (ci, fs))) {C ref host : String} {T : u_T} {N index : Nat} (hc : vwCl[ci]? = some (C, T, N)) (huw : ∀ w ∈ u_ws C T N, w ∈ ALL) (ty0 : Nat → FieldType) (hty : ∀ k, k < N → parseFieldDescriptor (T k).2.2.1 = some (ty0 k)) (hnm : ∀ a, a < N → ∀ b, b < N → a ≠ b → (T a).2.1 ≠ (T b).2.1) (j : Nat) (hj : j < N) (hf : fs[j]? = some none) (i : Nat) (hlink : nestF[i]? = some (own, index, ref, (T j).2.1, (T j).2.2.1, host)) (hsame : ∀ x, s.fieldFound? (T j).1 (T j).2.1 (T j).2.2.1 = some x → s.fieldFound? ref (T j).2.1 (T j).2.2.1 = some x) (hfin : (T j).2.2.2 = false) {v : Int} (hn : narrow (ty0 j) (.int (iN v)) = .int (iN v)) (hfit : fits (ty0 j) (.int (iN v)) = true) (hdg : decode cc pc = .ok (.putfield index, 3))
    (kk : ∀ (τ : Mem) (H1 : Heap) (locs1 : List Loc), τ = up2 σ k j v → Wd G sh ad τ A H0 H1 locs1 → W p l e R s m args below meth c H1 locs1 cells slots Q (F0 m (pc + 3) ls rest)) : W p l e R s m args below meth c H locs cells slots Q (F0 m pc ls (.int (iN v) :: .ref (ad k) :: rest)) :=
  va_putN (host := host) (ty := ty0 j) hexec hb hts (fun w h => List.mem_cons_of_mem _ (huw w h)) ty0 hty hnm hown hK hW.1 hW.2.1 hW.2.2 k (hW.at k hk) hc j hj (va_Nw.use rfl (hE.1.1 _ (List.mem_of_getElem? hlink))) hsame hfin (hty j hj) hn hfit (by rw [fv_len]; exact (List.getElem?_eq_some_iff.mp hf).1) hdg
    (fun H1 locs1 h1 h2 h3 => kk _ H1 locs1 rfl (hW.upd k hk (fun a ha => up2_k ha) (by simp only [ce]; rw [fv_set ad hf]) h1 h2 h3))
/-- arrays of numbers -/
theorem g_ald (hexec : p.tables.exec = Jvm.exec) (hb : c.code = cc) (hK : Kx G s) (hW : Wd G sh ad σ A H0 H locs) (k : Nat) {n : Nat} (hk : sh[k]? = some (.inl (0, n))) {i : Int} (hin : inb i n) (hdg : decode cc pc = .ok (.iaload, 1))
    (kk : W p l e R s m args below meth c H locs cells slots Q (F0 m (pc + 1) ls (.int (iN (σ k i.toNat)) :: rest))) : W p l e R s m args below meth c H locs cells slots Q (F0 m pc ls (.int (iN i) :: .ref (ad k) :: rest)) :=
  va_iald hexec hb hK hW.1 k 0 (hW.at k hk) rfl (iN_in hin) hdg (by rw [iN_clamp hin.rg]; exact kk)
theorem g_zald (hexec : p.tables.exec = Jvm.exec) (hb : c.code = cc) (hK : Kx G s) (hW : Wd G sh ad σ A H0 H locs) (k : Nat) {n : Nat} (hk : sh[k]? = some (.inl (1, n))) {i : Int} (hin : inb i n) (hdg : decode cc pc = .ok (.baload, 1))
    (kk : W p l e R s m args below meth c H locs cells slots Q (F0 m (pc + 1) ls (.int (iN (σ k i.toNat)) :: rest))) : W p l e R s m args below meth c H locs cells slots Q (F0 m pc ls (.int (iN i) :: .ref (ad k) :: rest)) :=
  va_zald hexec hb hK hW.1 k 1 (hW.at k hk) rfl (iN_in hin) hdg (by rw [iN_clamp hin.rg]; exact kk)
theorem g_alen (hexec : p.tables.exec = Jvm.exec) (hb : c.code = cc) (hK : Kx G s) (hW : Wd G sh ad σ A H0 H locs) (k : Nat) {n : Nat} (hk : sh[k]? = some (.inl (0, n))) (hdg : decode cc pc = .ok (.arraylength, 1))
    (kk : W p l e R s m args below meth c H locs cells slots Q (F0 m (pc + 1) ls (.int (iN (n : Int)) :: rest))) : W p l e R s m args below meth c H locs cells slots Q (F0 m pc ls (.ref (ad k) :: rest)) :=
  va_alen (v := iN (n : Int)) hexec hb hK hW.1 k 0 (hW.at k hk) rfl Int32.ofInt_eq_ofNat.symm hdg kk
theorem g_ast (hexec : p.tables.exec = Jvm.exec) (hb : c.code = cc) (hK : Kx G s) (hW : Wd G sh ad σ A H0 H locs) (k : Nat) {n : Nat} (hk : sh[k]? = some (.inl (0, n))) {i v : Int} (hin : inb i n) (hdg : decode cc pc = .ok (.iastore, 1))
    (kk : ∀ (τ : Mem) (H1 : Heap) (locs1 : List Loc), τ = up2 σ k i.toNat v → Wd G sh ad τ A H0 H1 locs1 → W p l e R s m args below meth c H1 locs1 cells slots Q (F0 m (pc + 1) ls rest)) : W p l e R s m args below meth c H locs cells slots Q (F0 m pc ls (.int (iN v) :: .int (iN i) :: .ref (ad k) :: rest)) :=
  va_iast hexec hb hK hW.1 hW.2.1 hW.2.2 k 0 (hW.at k hk) rfl (iN_in hin) hdg (fun H1 locs1 h1 h2 h3 => kk _ H1 locs1 rfl (hW.upd k hk (fun a ha => up2_k ha) (by simp only [ce]; rw [iN_clamp hin.rg, ar_set]) h1 h2 h3))
theorem nar_b {v : Int} (h : b01 v) : vp_nar .boolean (iN v) = iN v := by
  rcases h with rfl | rfl <;> rfl
theorem g_zast (hexec : p.tables.exec = Jvm.exec) (hb : c.code = cc) (hK : Kx G s) (hW : Wd G sh ad σ A H0 H locs) (k : Nat) {n : Nat} (hk : sh[k]? = some (.inl (1, n))) {i v : Int} (hin : inb i n) (hv : b01 v) (hdg : decode cc pc = .ok (.bastore, 1))
    (kk : ∀ (τ : Mem) (H1 : Heap) (locs1 : List Loc), τ = up2 σ k i.toNat v → Wd G sh ad τ A H0 H1 locs1 → W p l e R s m args below meth c H1 locs1 cells slots Q (F0 m (pc + 1) ls rest)) : W p l e R s m args below meth c H locs cells slots Q (F0 m pc ls (.int (iN v) :: .int (iN i) :: .ref (ad k) :: rest)) :=
  va_zast hexec hb hK hW.1 hW.2.1 hW.2.2 k 1 (hW.at k hk) rfl (iN_in hin) hdg (fun H1 locs1 h1 h2 h3 => kk _ H1 locs1 rfl (hW.upd k hk (fun a ha => up2_k ha) (by simp only [ce]; rw [iN_clamp hin.rg, nar_b hv, ar_set]) h1 h2 h3))
/-- a static table -/
theorem g_tld (hexec : p.tables.exec = Jvm.exec) (hb : c.code = cc) {t N : Nat} {f : Nat → Int} (hT : va_T .int t N (fun j => .int (iN (f j))) A s s.heap) (hS : va_S A s.heap H locs) {i : Int} (hin : inb i N) (hdg : decode cc pc = .ok (.iaload, 1))
    (kk : W p l e R s m args below meth c H locs cells slots Q (F0 m (pc + 1) ls (.int (iN (f i.toNat)) :: rest))) : W p l e R s m args below meth c H locs cells slots Q (F0 m pc ls (.int (iN i) :: .ref t :: rest)) :=
  va_ti hexec hb hT hS (iN_in hin) (by rw [iN_clamp hin.rg]) hdg kk
theorem g_tlen (hexec : p.tables.exec = Jvm.exec) (hb : c.code = cc) {t N : Nat} {f : Nat → Int} (hT : va_T .int t N (fun j => .int (iN (f j))) A s s.heap) (hS : va_S A s.heap H locs) (hdg : decode cc pc = .ok (.arraylength, 1))
    (kk : W p l e R s m args below meth c H locs cells slots Q (F0 m (pc + 1) ls (.int (iN (N : Int)) :: rest))) : W p l e R s m args below meth c H locs cells slots Q (F0 m pc ls (.ref t :: rest)) :=
  va_tlen hexec hb hT hS Int32.ofInt_eq_ofNat.symm hdg kk
/-- ends -/
theorem Bw.of {sz : Nat} (hK : Kx G s) (hW : Wd G sh ad σ (Aw ad sh.length sz) H0 H locs) {t : State} (ht : t.heap = H) (hWm : s.WarmedH t.vm) : Bw G sh ad σ sz t := ⟨by rw [ht]; exact hW.1, va_K.moved hWm.alike hK, hW.2.1⟩
theorem r_CI (hexec : p.tables.exec = Jvm.exec) (hb : c.code = cc) (hr : meth.sig.returnType = some .int) (hlocks : meth.locks = false) (hK : Kx G s) (hW : Wd G sh ad σ (Aw ad sh.length s.heap.size) s.heap H locs) {x : Int} {post : Int → Prop} (hp : post x) (hdg : decode cc pc = .ok (.ireturn, 1)) : W p l e R s m args below meth c H locs cells slots (MQ below (va_Qi (fun r (u : Int) => r = iN u ∧ post u) (fun _ t => Bw G sh ad σ s.heap.size t) (Aw ad sh.length s.heap.size)) args s cells slots (Aw ad sh.length s.heap.size)) (F0 m pc ls [.int (iN x)]) :=
  W.iret hexec hb hr (fun t ht hWm => ⟨⟨_, x, rfl, ⟨rfl, hp⟩, Bw.of hK hW ht hWm⟩, hW.2.2.F ht⟩) hW.2.2.2.2 hdg hlocks
theorem r_CM (hexec : p.tables.exec = Jvm.exec) (hb : c.code = cc) (hr : meth.sig.returnType = some .int) (hlocks : meth.locks = false) (hK : Kx G s) (hW : Wd G sh ad σ (Aw ad sh.length s.heap.size) s.heap H locs) {x : Int} {post : Int → Mem → Prop} (hp : post x σ) (hdg : decode cc pc = .ok (.ireturn, 1)) : W p l e R s m args below meth c H locs cells slots (MQ below (va_Qi (fun r (u : Int × Mem) => r = iN u.1 ∧ post u.1 u.2) (fun u t => Bw G sh ad u.2 s.heap.size t) (Aw ad sh.length s.heap.size)) args s cells slots (Aw ad sh.length s.heap.size)) (F0 m pc ls [.int (iN x)]) :=
  W.iret hexec hb hr (fun t ht hWm => ⟨⟨_, (x, σ), rfl, ⟨rfl, hp⟩, Bw.of hK hW ht hWm⟩, hW.2.2.F ht⟩) hW.2.2.2.2 hdg hlocks
theorem nar_z {v : Int} (h : b01 v) : narrow .boolean (.int (iN v)) = .int (iN v) := by
  rcases h with rfl | rfl <;> rfl
theorem rz_CI (hexec : p.tables.exec = Jvm.exec) (hb : c.code = cc) (hr : meth.sig.returnType = some .boolean) (hlocks : meth.locks = false) (hK : Kx G s) (hW : Wd G sh ad σ (Aw ad sh.length s.heap.size) s.heap H locs) {x : Int} {post : Int → Prop} (hx : b01 x) (hp : post x) (hdg : decode cc pc = .ok (.ireturn, 1)) : W p l e R s m args below meth c H locs cells slots (MQ below (va_Qi (fun r (u : Int) => r = iN u ∧ post u) (fun _ t => Bw G sh ad σ s.heap.size t) (Aw ad sh.length s.heap.size)) args s cells slots (Aw ad sh.length s.heap.size)) (F0 m pc ls [.int (iN x)]) :=
  W.zret hexec hb hr (nar_z hx) (fun t ht hWm => ⟨⟨_, x, rfl, ⟨rfl, hp⟩, Bw.of hK hW ht hWm⟩, hW.2.2.F ht⟩) hW.2.2.2.2 hdg hlocks
theorem rz_CM (hexec : p.tables.exec = Jvm.exec) (hb : c.code = cc) (hr : meth.sig.returnType = some .boolean) (hlocks : meth.locks = false) (hK : Kx G s) (hW : Wd G sh ad σ (Aw ad sh.length s.heap.size) s.heap H locs) {x : Int} {post : Int → Mem → Prop} (hx : b01 x) (hp : post x σ) (hdg : decode cc pc = .ok (.ireturn, 1)) : W p l e R s m args below meth c H locs cells slots (MQ below (va_Qi (fun r (u : Int × Mem) => r = iN u.1 ∧ post u.1 u.2) (fun u t => Bw G sh ad u.2 s.heap.size t) (Aw ad sh.length s.heap.size)) args s cells slots (Aw ad sh.length s.heap.size)) (F0 m pc ls [.int (iN x)]) :=
  W.zret hexec hb hr (nar_z hx) (fun t ht hWm => ⟨⟨_, (x, σ), rfl, ⟨rfl, hp⟩, Bw.of hK hW ht hWm⟩, hW.2.2.F ht⟩) hW.2.2.2.2 hdg hlocks
theorem r_CV (hexec : p.tables.exec = Jvm.exec) (hb : c.code = cc) (hr : meth.sig.returnType = none) (hlocks : meth.locks = false) (hK : Kx G s) (hW : Wd G sh ad σ (Aw ad sh.length s.heap.size) s.heap H locs) {post : Mem → Prop} (hp : post σ) (hdg : decode cc pc = .ok (.return_, 1)) : W p l e R s m args below meth c H locs cells slots (MQ below (va_Qv (fun (u : Mem) => post u) (fun u t => Bw G sh ad u s.heap.size t) (Aw ad sh.length s.heap.size)) args s cells slots (Aw ad sh.length s.heap.size)) (F0 m pc ls []) :=
  W.vret hexec hb hr (fun t ht hWm => ⟨⟨σ, rfl, hp, Bw.of hK hW ht hWm⟩, hW.2.2.F ht⟩) hW.2.2.2.2 hdg hlocks
/-- starts -/
theorem s_all {l : Launch} {y : MethodName} {code : ByteArray} {maxL : Nat} {ret : Option FieldType} {rm : Room} {av : List Value} {Qc : Nat → Array Value → State → Outcome → State → Prop} (hy : plainName y.cls = true) (hlen : (lg_sl av).length ≤ maxL)
    (body : ∀ (p : Program) (e : Env) (s : State) (m : MethodId) (below : List Frame) (meth : Method) (c : Code), CallFix p m c code maxL s av.toArray (Cond.code y code maxL ret :: ALL) y.cls → meth.sig.returnType = ret → meth.locks = false → (y.name = "<init>" → meth.name = "<init>") → Kx G s → Ex (Aw ad sh.length s.heap.size) s → Wd G sh ad σ (Aw ad sh.length s.heap.size) s.heap s.heap [] → ∀ ls : Array Slot, lv_has ls maxL (lv_args 0 av) →
      W p l e rm s m av.toArray below meth c s.heap [] 0 0 (MQ below (Qc s.heap.size) av.toArray s 0 0 (Aw ad sh.length s.heap.size)) (F0 m 0 ls [])) :
    ∀ sz : Nat, Met l y (Cond.code y code maxL ret :: ALL) rm (va_Pc av (Pst G sh ad σ sz)) (Qc sz) 0 0 (Aw ad sh.length sz) := by
  intro sz
  refine Met.ofW (cc := code) (maxL := maxL) (ret := ret) hy rfl ?_
  intro p e s m args below meth c s₁ B hml hv
  obtain ⟨rfl, hsz, hP, hK, hD, hE⟩ := hv
  subst hsz
  have hl := lv_entry av (n := maxL) hlen
  rw [lg_entry_eq]
  generalize (lg_sl av ++ List.replicate (maxL - (lg_sl av).length) Slot.unset).toArray = ls at hl ⊢
  exact body p e s m below meth c ⟨B.exec, B.bytes, hml, findClass_of_methodNamed B.named, atoms_spec (ws := Cond.code y code maxL ret :: ALL) B.pre⟩ B.returns B.notSynchronized (fun h => ((name_of_methodNamed B.named B.method).1).trans h) hK hE ⟨hP, Dw hD, va_S.rf⟩ ls hl
end HEAP
end
section
section CALLS
variable {p : Program} {l : Launch} {e : Env} {R : Room} {s : State} {m : MethodId} {args : Array Value} {below : List Frame} {meth : Method} {c : Code} {H H0 : Heap} {locs : List Loc} {cells slots : Nat} {Q : State → Prop}
variable {pc : Nat} {ls : Array Slot} {rest st : List Value} {cc : ByteArray} {G : Gt} {sh : List Shp} {ad : Nat → Nat} {σ : Mem} {c0 : Cond} {own : String} {nL n index maxL : Nat} {y x : MethodName} {bytes : ByteArray} {ret : Option FieldType} {rm : Room} {As : List Value} {Qc : Array Value → State → Outcome → State → Prop} {free : Addr → Prop}
theorem Wd.recv {A : Nat → Prop} (hK : Kx G s) (hW : Wd G sh ad σ A H0 H locs) {k ci : Nat} {fs : List Fld} (hk : sh[k]? = some (.inr (ci, fs))) {C : String} {T : u_T} {N : Nat} (hc : vwCl[ci]? = some (C, T, N)) : ∃ cell : Cell, H[ad k]? = some cell ∧ cell.vm.isStatics = false ∧ s.vm.findClass C = some cell.cls :=
  va_recv (q := (C, T, N)) hK hW.1 hc (hW.at k hk)
theorem run_V {k : Nat} (S : CallFix p m c cc nL s args (c0 :: ALL) own) (hK : Kx G s) (hE : Ex (Aw ad sh.length s.heap.size) s) (hW : Wd G sh ad σ (Aw ad sh.length s.heap.size) s.heap H locs) (hM : Met l y (Cond.code y bytes maxL ret :: ALL) rm (va_Pc (.ref (ad k) :: As) (Pst G sh ad σ H.size)) Qc 0 0 free) {ci : Nat} {fs : List Fld} (hk : sh[k]? = some (.inr (ci, fs))) {C : String} {T : u_T} {N : Nat} (hc : vwCl[ci]? = some (C, T, N))
    (h1 : Cond.methodLink own index y ∈ ALL) (h2 : Cond.instanceMethod y ∈ ALL) (h3 : Cond.selects C y y ∈ ALL) (h4 : Cond.initialized C ∈ ALL) (h5 : Cond.code y bytes maxL ret ∈ ALL) (hd : y.cls = C ∧ y.cls ≠ "java/lang/invoke/MethodHandle" ∧ y.cls ≠ "java/lang/invoke/VarHandle" ∧ (parseMethodDescriptor y.desc).map (fun d => d.parameters.length) = some n) (hrc : rm.cells = 0) (hrs : rm.slots = 0) (hR : rm.frames + 1 ≤ R.frames ∧ 8 + (maxL + 11) + rm.locals ≤ R.locals) (hn : As.length = n) (hsz : ls.size = nL) (hst : st = As.reverse ++ .ref (ad k) :: rest) (hroom : (rest.map fun v => v.category).sum ≤ 8) (hdg : decode cc pc = .ok (.invokevirtual index, 3)) (hcs : cells ≤ R.cells ∧ slots ≤ R.slots) :
    va_Run p l e R s m args below meth c H locs cells slots 0 0 (F0 m pc ls st) rest (Qc (Value.ref (ad k) :: As).toArray) free :=
  va_runV (As := As) (rest := rest) S hM (cwV n S.2.2.2.2 (GoodAp (GoodB (mem4 h1 h2 h3 h4)) (GoodA h5)) rfl hrc hrs hd hR) ⟨Pst.blind G sh ad σ H.size _, hW.recv hK hk hc, Pst.pre hK hE hW _⟩ rfl hn hsz hst (lv_room hroom) hdg hcs
theorem run_S (S : CallFix p m c cc nL s args (c0 :: ALL) own) (hK : Kx G s) (hE : Ex (Aw ad sh.length s.heap.size) s) (hW : Wd G sh ad σ (Aw ad sh.length s.heap.size) s.heap H locs) (hM : Met l y (Cond.code y bytes maxL ret :: ALL) rm (va_Pc As (Pst G sh ad σ H.size)) Qc 0 0 free)
    (h1 : Cond.methodLink own index y ∈ ALL) (h2 : Cond.static y ∈ ALL) (h3 : Cond.initialized y.cls ∈ ALL) (h5 : Cond.code y bytes maxL ret ∈ ALL) (hd : y.cls ≠ "java/lang/invoke/MethodHandle" ∧ y.cls ≠ "java/lang/invoke/VarHandle" ∧ (parseMethodDescriptor y.desc).map (fun d => d.parameters.length) = some n) (hrc : rm.cells = 0) (hrs : rm.slots = 0) (hR : rm.frames + 1 ≤ R.frames ∧ 8 + (maxL + 11) + rm.locals ≤ R.locals) (hn : As.length = n) (hsz : ls.size = nL) (hst : st = As.reverse ++ rest) (hroom : (rest.map fun v => v.category).sum ≤ 8) (hdg : decode cc pc = .ok (.invokestatic index, 3)) (hcs : cells ≤ R.cells ∧ slots ≤ R.slots) :
    va_Run p l e R s m args below meth c H locs cells slots 0 0 (F0 m pc ls st) rest (Qc As.toArray) free :=
  va_runS (As := As) (rest := rest) S hM (va_cwS n S.2.2.2.2 (GoodAp (GoodB (mem3 h1 h2 h3)) (GoodA h5)) rfl hrc hrs hd hR) ⟨Pst.blind G sh ad σ H.size _, Pst.pre hK hE hW _⟩ rfl hn hsz hst (lv_room hroom) hdg hcs
/-- a method of the superclass, on an object of class C -/
theorem run_U {k : Nat} {owner : String} (S : CallFix p m c cc nL s args (c0 :: ALL) own) (hK : Kx G s) (hE : Ex (Aw ad sh.length s.heap.size) s) (hW : Wd G sh ad σ (Aw ad sh.length s.heap.size) s.heap H locs) (hM : Met l y (Cond.code y bytes maxL ret :: ALL) rm (va_Pc (.ref (ad k) :: As) (Pst G sh ad σ H.size)) Qc 0 0 free) {ci : Nat} {fs : List Fld} (hk : sh[k]? = some (.inr (ci, fs))) {C : String} {T : u_T} {N : Nat} (hc : vwCl[ci]? = some (C, T, N))
    (h1 : Cond.methodLink own index x ∈ ALL) (h2 : Cond.sameMethod x.cls owner x.name x.desc ∈ ALL) (h3 : Cond.selects C x y ∈ ALL) (h4 : Cond.instanceMethod y ∈ ALL) (h6 : Cond.initialized y.cls ∈ ALL) (h5 : Cond.code y bytes maxL ret ∈ ALL) (hyx : y = ⟨owner, x.name, x.desc⟩) (hd : owner ≠ "java/lang/invoke/MethodHandle" ∧ owner ≠ "java/lang/invoke/VarHandle" ∧ (parseMethodDescriptor x.desc).map (fun d => d.parameters.length) = some n) (hrc : rm.cells = 0) (hrs : rm.slots = 0) (hR : rm.frames + 1 ≤ R.frames ∧ 8 + (maxL + 11) + rm.locals ≤ R.locals) (hn : As.length = n) (hsz : ls.size = nL) (hst : st = As.reverse ++ .ref (ad k) :: rest) (hroom : (rest.map fun v => v.category).sum ≤ 8) (hdg : decode cc pc = .ok (.invokevirtual index, 3)) (hcs : cells ≤ R.cells ∧ slots ≤ R.slots) :
    va_Run p l e R s m args below meth c H locs cells slots 0 0 (F0 m pc ls st) rest (Qc (Value.ref (ad k) :: As).toArray) free :=
  va_runU (As := As) (rest := rest) S hM (va_cwU n S.2.2.2.2 (GoodAp (GoodB (mem5 h1 h2 h3 h4 h6)) (GoodA h5)) rfl hrc hrs hyx hd hR) ⟨Pst.blind G sh ad σ H.size _, hW.recv hK hk hc, Pst.pre hK hE hW _⟩ rfl hn hsz hst (lv_room hroom) hdg hcs
/-- an abstract method, as the object's own class has it -/
theorem run_A {k : Nat} {owner : String} (S : CallFix p m c cc nL s args (c0 :: ALL) own) (hK : Kx G s) (hE : Ex (Aw ad sh.length s.heap.size) s) (hW : Wd G sh ad σ (Aw ad sh.length s.heap.size) s.heap H locs) (hM : Met l y (Cond.code y bytes maxL ret :: ALL) rm (va_Pc (.ref (ad k) :: As) (Pst G sh ad σ H.size)) Qc 0 0 free) {ci : Nat} {fs : List Fld} (hk : sh[k]? = some (.inr (ci, fs))) {C : String} {T : u_T} {N : Nat} (hc : vwCl[ci]? = some (C, T, N))
    (h1 : Cond.methodLink own index x ∈ ALL) (h2 : Cond.sameMethod x.cls owner x.name x.desc ∈ ALL) (h3 : Cond.selects C x y ∈ ALL) (h4 : Cond.instanceMethod y ∈ ALL) (h6 : Cond.initialized y.cls ∈ ALL) (h5 : Cond.code y bytes maxL ret ∈ ALL) (hz : (⟨owner, x.name, x.desc⟩ : MethodName) ∈ nestD) (hd : owner ≠ "java/lang/invoke/MethodHandle" ∧ owner ≠ "java/lang/invoke/VarHandle" ∧ (parseMethodDescriptor x.desc).map (fun d => d.parameters.length) = some n) (hrc : rm.cells = 0) (hrs : rm.slots = 0) (hR : rm.frames + 1 ≤ R.frames ∧ 8 + (maxL + 11) + rm.locals ≤ R.locals) (hn : As.length = n) (hsz : ls.size = nL) (hst : st = As.reverse ++ .ref (ad k) :: rest) (hroom : (rest.map fun v => v.category).sum ≤ 8) (hdg : decode cc pc = .ok (.invokevirtual index, 3)) (hcs : cells ≤ R.cells ∧ slots ≤ R.slots) :
    va_Run p l e R s m args below meth c H locs cells slots 0 0 (F0 m pc ls st) rest (Qc (Value.ref (ad k) :: As).toArray) free :=
  va_runU (As := As) (rest := rest) S hM (va_cwA n S.2.2.2.2 (GoodAp (GoodB (mem5 h1 h2 h3 h4 h6)) (GoodA h5)) rfl hrc hrs (hE.1.2.2 _ hz) hd hR) ⟨Pst.blind G sh ad σ H.size _, hW.recv hK hk hc, Pst.pre hK hE hW _⟩ rfl hn hsz hst (lv_room hroom) hdg hcs
/-- private methods of a nest mate -/
theorem run_VN {k : Nat} {host : String} (i : Nat) (S : CallFix p m c cc nL s args (c0 :: ALL) own) (hK : Kx G s) (hE : Ex (Aw ad sh.length s.heap.size) s) (hW : Wd G sh ad σ (Aw ad sh.length s.heap.size) s.heap H locs) (hM : Met l y (Cond.code y bytes maxL ret :: ALL) rm (va_Pc (.ref (ad k) :: As) (Pst G sh ad σ H.size)) Qc 0 0 free) {ci : Nat} {fs : List Fld} (hk : sh[k]? = some (.inr (ci, fs))) {C : String} {T : u_T} {N : Nat} (hc : vwCl[ci]? = some (C, T, N))
    (h1 : nestM[i]? = some (own, index, y, host)) (h2 : Cond.instanceMethod y ∈ ALL) (h3 : Cond.selects C y y ∈ ALL) (h4 : Cond.initialized y.cls ∈ ALL) (h5 : Cond.code y bytes maxL ret ∈ ALL) (hd : y.cls ≠ "java/lang/invoke/MethodHandle" ∧ y.cls ≠ "java/lang/invoke/VarHandle" ∧ (parseMethodDescriptor y.desc).map (fun d => d.parameters.length) = some n) (hrc : rm.cells = 0) (hrs : rm.slots = 0) (hR : rm.frames + 1 ≤ R.frames ∧ 8 + (maxL + 11) + rm.locals ≤ R.locals) (hn : As.length = n) (hsz : ls.size = nL) (hst : st = As.reverse ++ .ref (ad k) :: rest) (hroom : (rest.map fun v => v.category).sum ≤ 8) (hdg : decode cc pc = .ok (.invokevirtual index, 3)) (hcs : cells ≤ R.cells ∧ slots ≤ R.slots) :
    va_Run p l e R s m args below meth c H locs cells slots 0 0 (F0 m pc ls st) rest (Qc (Value.ref (ad k) :: As).toArray) free :=
  va_runVN (As := As) (rest := rest) S hM ⟨va_cnB n S.2.2.2.2 (GoodA h5) rfl hrc hrs (hE.1.2.1 _ (List.mem_of_getElem? h1)) (S.2.2.2.2 _ (List.mem_cons_of_mem _ h4)) hd hR, S.2.2.2.2 _ (List.mem_cons_of_mem _ h2), S.2.2.2.2 _ (List.mem_cons_of_mem _ h3)⟩ ⟨Pst.blind G sh ad σ H.size _, hW.recv hK hk hc, Pst.pre hK hE hW _⟩ rfl hn hsz hst (lv_room hroom) hdg hcs
theorem run_SN {host : String} (i : Nat) (S : CallFix p m c cc nL s args (c0 :: ALL) own) (hK : Kx G s) (hE : Ex (Aw ad sh.length s.heap.size) s) (hW : Wd G sh ad σ (Aw ad sh.length s.heap.size) s.heap H locs) (hM : Met l y (Cond.code y bytes maxL ret :: ALL) rm (va_Pc As (Pst G sh ad σ H.size)) Qc 0 0 free)
    (h1 : nestM[i]? = some (own, index, y, host)) (h2 : Cond.static y ∈ ALL) (h4 : Cond.initialized y.cls ∈ ALL) (h5 : Cond.code y bytes maxL ret ∈ ALL) (hd : y.cls ≠ "java/lang/invoke/MethodHandle" ∧ y.cls ≠ "java/lang/invoke/VarHandle" ∧ (parseMethodDescriptor y.desc).map (fun d => d.parameters.length) = some n) (hrc : rm.cells = 0) (hrs : rm.slots = 0) (hR : rm.frames + 1 ≤ R.frames ∧ 8 + (maxL + 11) + rm.locals ≤ R.locals) (hn : As.length = n) (hsz : ls.size = nL) (hst : st = As.reverse ++ rest) (hroom : (rest.map fun v => v.category).sum ≤ 8) (hdg : decode cc pc = .ok (.invokestatic index, 3)) (hcs : cells ≤ R.cells ∧ slots ≤ R.slots) :
    va_Run p l e R s m args below meth c H locs cells slots 0 0 (F0 m pc ls st) rest (Qc As.toArray) free :=
  va_runSN (As := As) (rest := rest) S hM ⟨va_cnB n S.2.2.2.2 (GoodA h5) rfl hrc hrs (hE.1.2.1 _ (List.mem_of_getElem? h1)) (S.2.2.2.2 _ (List.mem_cons_of_mem _ h4)) hd hR, S.2.2.2.2 _ (List.mem_cons_of_mem _ h2), trivial⟩ ⟨Pst.blind G sh ad σ H.size _, Pst.pre hK hE hW _⟩ rfl hn hsz hst (lv_room hroom) hdg hcs
theorem Wd.back {τ : Mem} {t : State} {H1 : Heap} {locs1 : List Loc} (hW : Wd G sh ad σ (Aw ad sh.length s.heap.size) s.heap H locs) (ht : t.heap = H1) (hB : Bw G sh ad τ H.size t) (hS : va_S (Aw ad sh.length s.heap.size) s.heap H1 locs1) : Wd G sh ad τ (Aw ad sh.length s.heap.size) s.heap H1 locs1 :=
  ⟨by rw [← ht]; exact hB.1, hB.2.2.weaken (fun _ q _ h => Aw_mono hW.2.2.1 q.1 h), hS⟩
theorem fin_CI {a : Array Value} {post : Int → Prop} (hW : Wd G sh ad σ (Aw ad sh.length s.heap.size) s.heap H locs) (hr : va_Run p l e R s m args below meth c H locs cells slots 0 0 (F0 m pc ls st) rest (va_Qi (fun r (u : Int) => r = iN u ∧ post u) (fun _ t => Bw G sh ad σ H.size t) (Aw ad sh.length H.size) a) (Aw ad sh.length H.size))
    (kk : ∀ (x : Int) (H1 : Heap) (locs1 : List Loc), post x → Wd G sh ad σ (Aw ad sh.length s.heap.size) s.heap H1 locs1 → W p l e R s m args below meth c H1 locs1 cells slots Q (F0 m (pc + 3) ls (.int (iN x) :: rest))) : W p l e R s m args below meth c H locs cells slots Q (F0 m pc ls st) :=
  va_calli hr hW.2.2 (fun q _ h => Aw_mono hW.2.2.1 q h) (fun q h => Aw_mono hW.2.2.1 q h) (fun r u t H1 locs1 ht _ hp hB _ _ hS => by
    obtain ⟨rfl, hp⟩ := hp
    exact kk u H1 locs1 hp (hW.back ht hB hS))
theorem fin_CM {a : Array Value} {post : Int → Mem → Prop} (hW : Wd G sh ad σ (Aw ad sh.length s.heap.size) s.heap H locs) (hr : va_Run p l e R s m args below meth c H locs cells slots 0 0 (F0 m pc ls st) rest (va_Qi (fun r (u : Int × Mem) => r = iN u.1 ∧ post u.1 u.2) (fun u t => Bw G sh ad u.2 H.size t) (Aw ad sh.length H.size) a) (Aw ad sh.length H.size))
    (kk : ∀ (x : Int) (τ : Mem) (H1 : Heap) (locs1 : List Loc), post x τ → Wd G sh ad τ (Aw ad sh.length s.heap.size) s.heap H1 locs1 → W p l e R s m args below meth c H1 locs1 cells slots Q (F0 m (pc + 3) ls (.int (iN x) :: rest))) : W p l e R s m args below meth c H locs cells slots Q (F0 m pc ls st) :=
  va_calli hr hW.2.2 (fun q _ h => Aw_mono hW.2.2.1 q h) (fun q h => Aw_mono hW.2.2.1 q h) (fun r u t H1 locs1 ht _ hp hB _ _ hS => by
    obtain ⟨rfl, hp⟩ := hp
    exact kk u.1 u.2 H1 locs1 hp (hW.back ht hB hS))
theorem fin_CV {a : Array Value} {post : Mem → Prop} (hW : Wd G sh ad σ (Aw ad sh.length s.heap.size) s.heap H locs) (hr : va_Run p l e R s m args below meth c H locs cells slots 0 0 (F0 m pc ls st) rest (va_Qv (fun (u : Mem) => post u) (fun u t => Bw G sh ad u H.size t) (Aw ad sh.length H.size) a) (Aw ad sh.length H.size))
    (kk : ∀ (τ : Mem) (H1 : Heap) (locs1 : List Loc), post τ → Wd G sh ad τ (Aw ad sh.length s.heap.size) s.heap H1 locs1 → W p l e R s m args below meth c H1 locs1 cells slots Q (F0 m (pc + 3) ls rest)) : W p l e R s m args below meth c H locs cells slots Q (F0 m pc ls st) :=
  va_callv hr hW.2.2 (fun q _ h => Aw_mono hW.2.2.1 q h) (fun q h => Aw_mono hW.2.2.1 q h) (fun u t H1 locs1 ht _ hp hB _ _ hS => kk u H1 locs1 hp (hW.back ht hB hS))
end CALLS
end
