section
-- ===== PART A: goes FIRST, ahead of the names: the tables' words, and 'selects' of the private methods out of them =====
/-- a private method of a class that the tables say can be made, by its rows of tables_1 -/
def lw_okq (q : MethodName × Nat) : Prop := (q.1.cls ≠ "java/lang/invoke/MethodHandle" ∧ q.1.cls ≠ "java/lang/invoke/VarHandle") ∧ Cond.instantiable q.1.cls q.2 ∈ tables_1 ∧ Cond.privateMethod q.1 ∈ tables_1 ∧ Cond.instanceMethod q.1 ∈ tables_1
theorem lw_p0 : lw_okq (⟨"WinnersLeave$Sheet", "faultOfRow", "(III)I"⟩, 4) := ⟨⟨by decide +kernel, by decide +kernel⟩, List.mem_of_getElem? (i := 165) (by decide +kernel), List.mem_of_getElem? (i := 225) (by decide +kernel), List.mem_of_getElem? (i := 226) (by decide +kernel)⟩
theorem lw_p1 : lw_okq (⟨"WinnersLeave$Sheet", "reaches", "(II)Z"⟩, 4) := ⟨⟨by decide +kernel, by decide +kernel⟩, List.mem_of_getElem? (i := 165) (by decide +kernel), List.mem_of_getElem? (i := 229) (by decide +kernel), List.mem_of_getElem? (i := 230) (by decide +kernel)⟩
theorem lw_p2 : lw_okq (⟨"WinnersLeave", "faulted", "(I)I"⟩, 9) := ⟨⟨by decide +kernel, by decide +kernel⟩, List.mem_of_getElem? (i := 16) (by decide +kernel), List.mem_of_getElem? (i := 233) (by decide +kernel), List.mem_of_getElem? (i := 234) (by decide +kernel)⟩
theorem lw_p3 : lw_okq (⟨"WinnersLeave$Sheet", "read", "(I)I"⟩, 4) := ⟨⟨by decide +kernel, by decide +kernel⟩, List.mem_of_getElem? (i := 165) (by decide +kernel), List.mem_of_getElem? (i := 240) (by decide +kernel), List.mem_of_getElem? (i := 241) (by decide +kernel)⟩
theorem lw_p4 : lw_okq (⟨"WinnersLeave$Person", "become", "(IIIZ)V"⟩, 4) := ⟨⟨by decide +kernel, by decide +kernel⟩, List.mem_of_getElem? (i := 31) (by decide +kernel), List.mem_of_getElem? (i := 259) (by decide +kernel), List.mem_of_getElem? (i := 260) (by decide +kernel)⟩
theorem lw_p5 : lw_okq (⟨"WinnersLeave$Notebook", "forget", "(I)V"⟩, 5) := ⟨⟨by decide +kernel, by decide +kernel⟩, List.mem_of_getElem? (i := 79) (by decide +kernel), List.mem_of_getElem? (i := 263) (by decide +kernel), List.mem_of_getElem? (i := 264) (by decide +kernel)⟩
theorem lw_p6 : lw_okq (⟨"WinnersLeave$Town", "has", "(I)Z"⟩, 2) := ⟨⟨by decide +kernel, by decide +kernel⟩, List.mem_of_getElem? (i := 24) (by decide +kernel), List.mem_of_getElem? (i := 274) (by decide +kernel), List.mem_of_getElem? (i := 275) (by decide +kernel)⟩
theorem lw_p7 : lw_okq (⟨"WinnersLeave$Person", "trait", "(I)I"⟩, 4) := ⟨⟨by decide +kernel, by decide +kernel⟩, List.mem_of_getElem? (i := 31) (by decide +kernel), List.mem_of_getElem? (i := 278) (by decide +kernel), List.mem_of_getElem? (i := 279) (by decide +kernel)⟩
theorem lw_p8 : lw_okq (⟨"WinnersLeave$Person", "best", "()I"⟩, 4) := ⟨⟨by decide +kernel, by decide +kernel⟩, List.mem_of_getElem? (i := 31) (by decide +kernel), List.mem_of_getElem? (i := 282) (by decide +kernel), List.mem_of_getElem? (i := 283) (by decide +kernel)⟩
theorem lw_p9 : lw_okq (⟨"WinnersLeave$Person", "worst", "()I"⟩, 4) := ⟨⟨by decide +kernel, by decide +kernel⟩, List.mem_of_getElem? (i := 31) (by decide +kernel), List.mem_of_getElem? (i := 286) (by decide +kernel), List.mem_of_getElem? (i := 287) (by decide +kernel)⟩
theorem lw_p10 : lw_okq (⟨"WinnersLeave", "changed", "(III)I"⟩, 9) := ⟨⟨by decide +kernel, by decide +kernel⟩, List.mem_of_getElem? (i := 16) (by decide +kernel), List.mem_of_getElem? (i := 296) (by decide +kernel), List.mem_of_getElem? (i := 297) (by decide +kernel)⟩
theorem lw_p11 : lw_okq (⟨"WinnersLeave$Person", "setTrait", "(II)V"⟩, 4) := ⟨⟨by decide +kernel, by decide +kernel⟩, List.mem_of_getElem? (i := 31) (by decide +kernel), List.mem_of_getElem? (i := 301) (by decide +kernel), List.mem_of_getElem? (i := 302) (by decide +kernel)⟩
theorem lw_p12 : lw_okq (⟨"WinnersLeave$Town", "hasTwo", "(II)Z"⟩, 2) := ⟨⟨by decide +kernel, by decide +kernel⟩, List.mem_of_getElem? (i := 24) (by decide +kernel), List.mem_of_getElem? (i := 313) (by decide +kernel), List.mem_of_getElem? (i := 314) (by decide +kernel)⟩
theorem lw_p13 : lw_okq (⟨"WinnersLeave$Person", "canPlay", "(I)Z"⟩, 4) := ⟨⟨by decide +kernel, by decide +kernel⟩, List.mem_of_getElem? (i := 31) (by decide +kernel), List.mem_of_getElem? (i := 318) (by decide +kernel), List.mem_of_getElem? (i := 319) (by decide +kernel)⟩
theorem lw_p14 : lw_okq (⟨"WinnersLeave$Town", "bothHere", "(II)Z"⟩, 2) := ⟨⟨by decide +kernel, by decide +kernel⟩, List.mem_of_getElem? (i := 24) (by decide +kernel), List.mem_of_getElem? (i := 323) (by decide +kernel), List.mem_of_getElem? (i := 324) (by decide +kernel)⟩
theorem lw_p15 : lw_okq (⟨"WinnersLeave$Town", "winnerLeaves", "(IIII)I"⟩, 2) := ⟨⟨by decide +kernel, by decide +kernel⟩, List.mem_of_getElem? (i := 24) (by decide +kernel), List.mem_of_getElem? (i := 327) (by decide +kernel), List.mem_of_getElem? (i := 328) (by decide +kernel)⟩
def lw_privs_1 : List (MethodName × Nat) := [(⟨"WinnersLeave$Sheet", "faultOfRow", "(III)I"⟩, 4), (⟨"WinnersLeave$Sheet", "reaches", "(II)Z"⟩, 4), (⟨"WinnersLeave", "faulted", "(I)I"⟩, 9), (⟨"WinnersLeave$Sheet", "read", "(I)I"⟩, 4), (⟨"WinnersLeave$Person", "become", "(IIIZ)V"⟩, 4), (⟨"WinnersLeave$Notebook", "forget", "(I)V"⟩, 5), (⟨"WinnersLeave$Town", "has", "(I)Z"⟩, 2), (⟨"WinnersLeave$Person", "trait", "(I)I"⟩, 4), (⟨"WinnersLeave$Person", "best", "()I"⟩, 4), (⟨"WinnersLeave$Person", "worst", "()I"⟩, 4), (⟨"WinnersLeave", "changed", "(III)I"⟩, 9), (⟨"WinnersLeave$Person", "setTrait", "(II)V"⟩, 4), (⟨"WinnersLeave$Town", "hasTwo", "(II)Z"⟩, 2), (⟨"WinnersLeave$Person", "canPlay", "(I)Z"⟩, 4), (⟨"WinnersLeave$Town", "bothHere", "(II)Z"⟩, 2), (⟨"WinnersLeave$Town", "winnerLeaves", "(IIII)I"⟩, 2)]
theorem lw_r1 : ∀ q ∈ lw_privs_1, lw_okq q := List.forall_mem_cons.mpr ⟨lw_p0, List.forall_mem_cons.mpr ⟨lw_p1, List.forall_mem_cons.mpr ⟨lw_p2, List.forall_mem_cons.mpr ⟨lw_p3, List.forall_mem_cons.mpr ⟨lw_p4, List.forall_mem_cons.mpr ⟨lw_p5, List.forall_mem_cons.mpr ⟨lw_p6, List.forall_mem_cons.mpr ⟨lw_p7, List.forall_mem_cons.mpr ⟨lw_p8, List.forall_mem_cons.mpr ⟨lw_p9, List.forall_mem_cons.mpr ⟨lw_p10, List.forall_mem_cons.mpr ⟨lw_p11, List.forall_mem_cons.mpr ⟨lw_p12, List.forall_mem_cons.mpr ⟨lw_p13, List.forall_mem_cons.mpr ⟨lw_p14, List.forall_mem_cons.mpr ⟨lw_p15, fun _ h => absurd h List.not_mem_nil⟩⟩⟩⟩⟩⟩⟩⟩⟩⟩⟩⟩⟩⟩⟩⟩
theorem lw_p16 : lw_okq (⟨"WinnersLeave$Town", "goneSet", "()I"⟩, 2) := ⟨⟨by decide +kernel, by decide +kernel⟩, List.mem_of_getElem? (i := 24) (by decide +kernel), List.mem_of_getElem? (i := 340) (by decide +kernel), List.mem_of_getElem? (i := 341) (by decide +kernel)⟩
theorem lw_p17 : lw_okq (⟨"WinnersLeave", "refusalOfRow", "(IIIIZ)I"⟩, 9) := ⟨⟨by decide +kernel, by decide +kernel⟩, List.mem_of_getElem? (i := 16) (by decide +kernel), List.mem_of_getElem? (i := 354) (by decide +kernel), List.mem_of_getElem? (i := 355) (by decide +kernel)⟩
theorem lw_p18 : lw_okq (⟨"WinnersLeave", "refusalOfActs", "(LWinnersLeave$Sheet;II)I"⟩, 9) := ⟨⟨by decide +kernel, by decide +kernel⟩, List.mem_of_getElem? (i := 16) (by decide +kernel), List.mem_of_getElem? (i := 358) (by decide +kernel), List.mem_of_getElem? (i := 359) (by decide +kernel)⟩
theorem lw_p19 : lw_okq (⟨"WinnersLeave$Season", "run", "(LWinnersLeave$Town;LWinnersLeave$Sheet;II)V"⟩, 5) := ⟨⟨by decide +kernel, by decide +kernel⟩, List.mem_of_getElem? (i := 103) (by decide +kernel), List.mem_of_getElem? (i := 366) (by decide +kernel), List.mem_of_getElem? (i := 367) (by decide +kernel)⟩
theorem lw_p20 : lw_okq (⟨"WinnersLeave$Town", "becomeLike", "(LWinnersLeave$Town;)V"⟩, 2) := ⟨⟨by decide +kernel, by decide +kernel⟩, List.mem_of_getElem? (i := 24) (by decide +kernel), List.mem_of_getElem? (i := 370) (by decide +kernel), List.mem_of_getElem? (i := 371) (by decide +kernel)⟩
theorem lw_p21 : lw_okq (⟨"WinnersLeave$Season", "goesOn", "(II)Z"⟩, 5) := ⟨⟨by decide +kernel, by decide +kernel⟩, List.mem_of_getElem? (i := 103) (by decide +kernel), List.mem_of_getElem? (i := 379) (by decide +kernel), List.mem_of_getElem? (i := 380) (by decide +kernel)⟩
theorem lw_p22 : lw_okq (⟨"WinnersLeave$Season", "playShy", "(II)Z"⟩, 5) := ⟨⟨by decide +kernel, by decide +kernel⟩, List.mem_of_getElem? (i := 103) (by decide +kernel), List.mem_of_getElem? (i := 387) (by decide +kernel), List.mem_of_getElem? (i := 388) (by decide +kernel)⟩
theorem lw_p23 : lw_okq (⟨"WinnersLeave$Season", "answer", "(I)I"⟩, 5) := ⟨⟨by decide +kernel, by decide +kernel⟩, List.mem_of_getElem? (i := 103) (by decide +kernel), List.mem_of_getElem? (i := 395) (by decide +kernel), List.mem_of_getElem? (i := 396) (by decide +kernel)⟩
theorem lw_p24 : lw_okq (⟨"WinnersLeave$Pairing", "find", "()V"⟩, 4) := ⟨⟨by decide +kernel, by decide +kernel⟩, List.mem_of_getElem? (i := 127) (by decide +kernel), List.mem_of_getElem? (i := 419) (by decide +kernel), List.mem_of_getElem? (i := 420) (by decide +kernel)⟩
theorem lw_p25 : lw_okq (⟨"WinnersLeave$Pairing", "pairFrom", "(III)V"⟩, 4) := ⟨⟨by decide +kernel, by decide +kernel⟩, List.mem_of_getElem? (i := 127) (by decide +kernel), List.mem_of_getElem? (i := 424) (by decide +kernel), List.mem_of_getElem? (i := 425) (by decide +kernel)⟩
theorem lw_p26 : lw_okq (⟨"WinnersLeave$Pairing", "partnerOf", "(I)I"⟩, 4) := ⟨⟨by decide +kernel, by decide +kernel⟩, List.mem_of_getElem? (i := 127) (by decide +kernel), List.mem_of_getElem? (i := 432) (by decide +kernel), List.mem_of_getElem? (i := 433) (by decide +kernel)⟩
theorem lw_p27 : lw_okq (⟨"WinnersLeave", "refusalOfTwos", "(IIIIZ)I"⟩, 9) := ⟨⟨by decide +kernel, by decide +kernel⟩, List.mem_of_getElem? (i := 16) (by decide +kernel), List.mem_of_getElem? (i := 441) (by decide +kernel), List.mem_of_getElem? (i := 442) (by decide +kernel)⟩
theorem lw_p28 : lw_okq (⟨"WinnersLeave$Ranking", "take", "(ILWinnersLeave$Sheet;III)V"⟩, 4) := ⟨⟨by decide +kernel, by decide +kernel⟩, List.mem_of_getElem? (i := 147) (by decide +kernel), List.mem_of_getElem? (i := 445) (by decide +kernel), List.mem_of_getElem? (i := 446) (by decide +kernel)⟩
theorem lw_p29 : lw_okq (⟨"WinnersLeave$Ranking", "howMany", "()I"⟩, 4) := ⟨⟨by decide +kernel, by decide +kernel⟩, List.mem_of_getElem? (i := 147) (by decide +kernel), List.mem_of_getElem? (i := 452) (by decide +kernel), List.mem_of_getElem? (i := 453) (by decide +kernel)⟩
theorem lw_p30 : lw_okq (⟨"WinnersLeave$Ranking", "mayFollow", "(II)Z"⟩, 4) := ⟨⟨by decide +kernel, by decide +kernel⟩, List.mem_of_getElem? (i := 147) (by decide +kernel), List.mem_of_getElem? (i := 456) (by decide +kernel), List.mem_of_getElem? (i := 457) (by decide +kernel)⟩
theorem lw_p31 : lw_okq (⟨"WinnersLeave$Ranking", "placeOfFirst", "(I)I"⟩, 4) := ⟨⟨by decide +kernel, by decide +kernel⟩, List.mem_of_getElem? (i := 147) (by decide +kernel), List.mem_of_getElem? (i := 460) (by decide +kernel), List.mem_of_getElem? (i := 461) (by decide +kernel)⟩
def lw_privs_2 : List (MethodName × Nat) := [(⟨"WinnersLeave$Town", "goneSet", "()I"⟩, 2), (⟨"WinnersLeave", "refusalOfRow", "(IIIIZ)I"⟩, 9), (⟨"WinnersLeave", "refusalOfActs", "(LWinnersLeave$Sheet;II)I"⟩, 9), (⟨"WinnersLeave$Season", "run", "(LWinnersLeave$Town;LWinnersLeave$Sheet;II)V"⟩, 5), (⟨"WinnersLeave$Town", "becomeLike", "(LWinnersLeave$Town;)V"⟩, 2), (⟨"WinnersLeave$Season", "goesOn", "(II)Z"⟩, 5), (⟨"WinnersLeave$Season", "playShy", "(II)Z"⟩, 5), (⟨"WinnersLeave$Season", "answer", "(I)I"⟩, 5), (⟨"WinnersLeave$Pairing", "find", "()V"⟩, 4), (⟨"WinnersLeave$Pairing", "pairFrom", "(III)V"⟩, 4), (⟨"WinnersLeave$Pairing", "partnerOf", "(I)I"⟩, 4), (⟨"WinnersLeave", "refusalOfTwos", "(IIIIZ)I"⟩, 9), (⟨"WinnersLeave$Ranking", "take", "(ILWinnersLeave$Sheet;III)V"⟩, 4), (⟨"WinnersLeave$Ranking", "howMany", "()I"⟩, 4), (⟨"WinnersLeave$Ranking", "mayFollow", "(II)Z"⟩, 4), (⟨"WinnersLeave$Ranking", "placeOfFirst", "(I)I"⟩, 4)]
theorem lw_r2 : ∀ q ∈ lw_privs_2, lw_okq q := List.forall_mem_cons.mpr ⟨lw_p16, List.forall_mem_cons.mpr ⟨lw_p17, List.forall_mem_cons.mpr ⟨lw_p18, List.forall_mem_cons.mpr ⟨lw_p19, List.forall_mem_cons.mpr ⟨lw_p20, List.forall_mem_cons.mpr ⟨lw_p21, List.forall_mem_cons.mpr ⟨lw_p22, List.forall_mem_cons.mpr ⟨lw_p23, List.forall_mem_cons.mpr ⟨lw_p24, List.forall_mem_cons.mpr ⟨lw_p25, List.forall_mem_cons.mpr ⟨lw_p26, List.forall_mem_cons.mpr ⟨lw_p27, List.forall_mem_cons.mpr ⟨lw_p28, List.forall_mem_cons.mpr ⟨lw_p29, List.forall_mem_cons.mpr ⟨lw_p30, List.forall_mem_cons.mpr ⟨lw_p31, fun _ h => absurd h List.not_mem_nil⟩⟩⟩⟩⟩⟩⟩⟩⟩⟩⟩⟩⟩⟩⟩⟩
theorem lw_p32 : lw_okq (⟨"WinnersLeave$Ranking", "lineUp", "()Z"⟩, 4) := ⟨⟨by decide +kernel, by decide +kernel⟩, List.mem_of_getElem? (i := 147) (by decide +kernel), List.mem_of_getElem? (i := 464) (by decide +kernel), List.mem_of_getElem? (i := 465) (by decide +kernel)⟩
theorem lw_p33 : lw_okq (⟨"WinnersLeave$Ranking", "fewestLeftOut", "(ILWinnersLeave$Sheet;II)I"⟩, 4) := ⟨⟨by decide +kernel, by decide +kernel⟩, List.mem_of_getElem? (i := 147) (by decide +kernel), List.mem_of_getElem? (i := 472) (by decide +kernel), List.mem_of_getElem? (i := 473) (by decide +kernel)⟩
theorem lw_p34 : lw_okq (⟨"WinnersLeave$Notebook", "note", "(IIII)I"⟩, 5) := ⟨⟨by decide +kernel, by decide +kernel⟩, List.mem_of_getElem? (i := 79) (by decide +kernel), List.mem_of_getElem? (i := 482) (by decide +kernel), List.mem_of_getElem? (i := 483) (by decide +kernel)⟩
theorem lw_p35 : lw_okq (⟨"WinnersLeave", "agreeing", "(III)I"⟩, 9) := ⟨⟨by decide +kernel, by decide +kernel⟩, List.mem_of_getElem? (i := 16) (by decide +kernel), List.mem_of_getElem? (i := 494) (by decide +kernel), List.mem_of_getElem? (i := 495) (by decide +kernel)⟩
theorem lw_p36 : lw_okq (⟨"WinnersLeave$Notebook", "agrees", "(LWinnersLeave$Town;)Z"⟩, 5) := ⟨⟨by decide +kernel, by decide +kernel⟩, List.mem_of_getElem? (i := 79) (by decide +kernel), List.mem_of_getElem? (i := 498) (by decide +kernel), List.mem_of_getElem? (i := 499) (by decide +kernel)⟩
theorem lw_p37 : lw_okq (⟨"WinnersLeave$Sheet", "renew", "(II)V"⟩, 4) := ⟨⟨by decide +kernel, by decide +kernel⟩, List.mem_of_getElem? (i := 165) (by decide +kernel), List.mem_of_getElem? (i := 531) (by decide +kernel), List.mem_of_getElem? (i := 532) (by decide +kernel)⟩
theorem lw_p38 : lw_okq (⟨"WinnersLeave$Sheet", "write", "(II)V"⟩, 4) := ⟨⟨by decide +kernel, by decide +kernel⟩, List.mem_of_getElem? (i := 165) (by decide +kernel), List.mem_of_getElem? (i := 544) (by decide +kernel), List.mem_of_getElem? (i := 545) (by decide +kernel)⟩
theorem lw_p39 : lw_okq (⟨"WinnersLeave", "tellChampion", "(LWinnersLeave$Person;)I"⟩, 9) := ⟨⟨by decide +kernel, by decide +kernel⟩, List.mem_of_getElem? (i := 16) (by decide +kernel), List.mem_of_getElem? (i := 562) (by decide +kernel), List.mem_of_getElem? (i := 563) (by decide +kernel)⟩
theorem lw_p40 : lw_okq (⟨"WinnersLeave", "mark", "(I)V"⟩, 9) := ⟨⟨by decide +kernel, by decide +kernel⟩, List.mem_of_getElem? (i := 16) (by decide +kernel), List.mem_of_getElem? (i := 566) (by decide +kernel), List.mem_of_getElem? (i := 567) (by decide +kernel)⟩
theorem lw_p41 : lw_okq (⟨"WinnersLeave", "tellLefty", "(LWinnersLeave$Person;)I"⟩, 9) := ⟨⟨by decide +kernel, by decide +kernel⟩, List.mem_of_getElem? (i := 16) (by decide +kernel), List.mem_of_getElem? (i := 570) (by decide +kernel), List.mem_of_getElem? (i := 571) (by decide +kernel)⟩
theorem lw_p42 : lw_okq (⟨"WinnersLeave", "tellPlayer", "(LWinnersLeave$Person;)I"⟩, 9) := ⟨⟨by decide +kernel, by decide +kernel⟩, List.mem_of_getElem? (i := 16) (by decide +kernel), List.mem_of_getElem? (i := 574) (by decide +kernel), List.mem_of_getElem? (i := 575) (by decide +kernel)⟩
theorem lw_p43 : lw_okq (⟨"WinnersLeaveModel", "against", "(IIII)I"⟩, 29) := ⟨⟨by decide +kernel, by decide +kernel⟩, List.mem_of_getElem? (i := 598) (by decide +kernel), List.mem_of_getElem? (i := 705) (by decide +kernel), List.mem_of_getElem? (i := 706) (by decide +kernel)⟩
theorem lw_p44 : lw_okq (⟨"WinnersLeaveModel", "fails", "(I)I"⟩, 29) := ⟨⟨by decide +kernel, by decide +kernel⟩, List.mem_of_getElem? (i := 598) (by decide +kernel), List.mem_of_getElem? (i := 709) (by decide +kernel), List.mem_of_getElem? (i := 710) (by decide +kernel)⟩
theorem lw_p45 : lw_okq (⟨"WinnersLeaveModel", "readHarbour", "(I)Z"⟩, 29) := ⟨⟨by decide +kernel, by decide +kernel⟩, List.mem_of_getElem? (i := 598) (by decide +kernel), List.mem_of_getElem? (i := 713) (by decide +kernel), List.mem_of_getElem? (i := 714) (by decide +kernel)⟩
theorem lw_p46 : lw_okq (⟨"WinnersLeaveModel", "isSign", "(II)Z"⟩, 29) := ⟨⟨by decide +kernel, by decide +kernel⟩, List.mem_of_getElem? (i := 598) (by decide +kernel), List.mem_of_getElem? (i := 717) (by decide +kernel), List.mem_of_getElem? (i := 718) (by decide +kernel)⟩
theorem lw_p47 : lw_okq (⟨"WinnersLeaveModel", "readPerson", "(I)Z"⟩, 29) := ⟨⟨by decide +kernel, by decide +kernel⟩, List.mem_of_getElem? (i := 598) (by decide +kernel), List.mem_of_getElem? (i := 721) (by decide +kernel), List.mem_of_getElem? (i := 722) (by decide +kernel)⟩
def lw_privs_3 : List (MethodName × Nat) := [(⟨"WinnersLeave$Ranking", "lineUp", "()Z"⟩, 4), (⟨"WinnersLeave$Ranking", "fewestLeftOut", "(ILWinnersLeave$Sheet;II)I"⟩, 4), (⟨"WinnersLeave$Notebook", "note", "(IIII)I"⟩, 5), (⟨"WinnersLeave", "agreeing", "(III)I"⟩, 9), (⟨"WinnersLeave$Notebook", "agrees", "(LWinnersLeave$Town;)Z"⟩, 5), (⟨"WinnersLeave$Sheet", "renew", "(II)V"⟩, 4), (⟨"WinnersLeave$Sheet", "write", "(II)V"⟩, 4), (⟨"WinnersLeave", "tellChampion", "(LWinnersLeave$Person;)I"⟩, 9), (⟨"WinnersLeave", "mark", "(I)V"⟩, 9), (⟨"WinnersLeave", "tellLefty", "(LWinnersLeave$Person;)I"⟩, 9), (⟨"WinnersLeave", "tellPlayer", "(LWinnersLeave$Person;)I"⟩, 9), (⟨"WinnersLeaveModel", "against", "(IIII)I"⟩, 29), (⟨"WinnersLeaveModel", "fails", "(I)I"⟩, 29), (⟨"WinnersLeaveModel", "readHarbour", "(I)Z"⟩, 29), (⟨"WinnersLeaveModel", "isSign", "(II)Z"⟩, 29), (⟨"WinnersLeaveModel", "readPerson", "(I)Z"⟩, 29)]
theorem lw_r3 : ∀ q ∈ lw_privs_3, lw_okq q := List.forall_mem_cons.mpr ⟨lw_p32, List.forall_mem_cons.mpr ⟨lw_p33, List.forall_mem_cons.mpr ⟨lw_p34, List.forall_mem_cons.mpr ⟨lw_p35, List.forall_mem_cons.mpr ⟨lw_p36, List.forall_mem_cons.mpr ⟨lw_p37, List.forall_mem_cons.mpr ⟨lw_p38, List.forall_mem_cons.mpr ⟨lw_p39, List.forall_mem_cons.mpr ⟨lw_p40, List.forall_mem_cons.mpr ⟨lw_p41, List.forall_mem_cons.mpr ⟨lw_p42, List.forall_mem_cons.mpr ⟨lw_p43, List.forall_mem_cons.mpr ⟨lw_p44, List.forall_mem_cons.mpr ⟨lw_p45, List.forall_mem_cons.mpr ⟨lw_p46, List.forall_mem_cons.mpr ⟨lw_p47, fun _ h => absurd h List.not_mem_nil⟩⟩⟩⟩⟩⟩⟩⟩⟩⟩⟩⟩⟩⟩⟩⟩
theorem lw_p48 : lw_okq (⟨"WinnersLeaveModel", "digit", "(I)I"⟩, 29) := ⟨⟨by decide +kernel, by decide +kernel⟩, List.mem_of_getElem? (i := 598) (by decide +kernel), List.mem_of_getElem? (i := 725) (by decide +kernel), List.mem_of_getElem? (i := 726) (by decide +kernel)⟩
theorem lw_p49 : lw_okq (⟨"WinnersLeaveModel", "isPerson", "(I)Z"⟩, 29) := ⟨⟨by decide +kernel, by decide +kernel⟩, List.mem_of_getElem? (i := 598) (by decide +kernel), List.mem_of_getElem? (i := 733) (by decide +kernel), List.mem_of_getElem? (i := 734) (by decide +kernel)⟩
theorem lw_p50 : lw_okq (⟨"WinnersLeaveModel", "bestOf", "(I)I"⟩, 29) := ⟨⟨by decide +kernel, by decide +kernel⟩, List.mem_of_getElem? (i := 598) (by decide +kernel), List.mem_of_getElem? (i := 737) (by decide +kernel), List.mem_of_getElem? (i := 738) (by decide +kernel)⟩
theorem lw_p51 : lw_okq (⟨"WinnersLeaveModel", "worstOf", "(I)I"⟩, 29) := ⟨⟨by decide +kernel, by decide +kernel⟩, List.mem_of_getElem? (i := 598) (by decide +kernel), List.mem_of_getElem? (i := 741) (by decide +kernel), List.mem_of_getElem? (i := 742) (by decide +kernel)⟩
theorem lw_p52 : lw_okq (⟨"WinnersLeaveModel", "areTwo", "(II)Z"⟩, 29) := ⟨⟨by decide +kernel, by decide +kernel⟩, List.mem_of_getElem? (i := 598) (by decide +kernel), List.mem_of_getElem? (i := 757) (by decide +kernel), List.mem_of_getElem? (i := 758) (by decide +kernel)⟩
theorem lw_p53 : lw_okq (⟨"WinnersLeaveModel", "isAway", "(II)Z"⟩, 29) := ⟨⟨by decide +kernel, by decide +kernel⟩, List.mem_of_getElem? (i := 598) (by decide +kernel), List.mem_of_getElem? (i := 761) (by decide +kernel), List.mem_of_getElem? (i := 762) (by decide +kernel)⟩
theorem lw_p54 : lw_okq (⟨"WinnersLeaveModel", "play", "(IIII)I"⟩, 29) := ⟨⟨by decide +kernel, by decide +kernel⟩, List.mem_of_getElem? (i := 598) (by decide +kernel), List.mem_of_getElem? (i := 768) (by decide +kernel), List.mem_of_getElem? (i := 769) (by decide +kernel)⟩
theorem lw_p55 : lw_okq (⟨"WinnersLeaveModel", "refusesPair", "(II)I"⟩, 29) := ⟨⟨by decide +kernel, by decide +kernel⟩, List.mem_of_getElem? (i := 598) (by decide +kernel), List.mem_of_getElem? (i := 787) (by decide +kernel), List.mem_of_getElem? (i := 788) (by decide +kernel)⟩
theorem lw_p56 : lw_okq (⟨"WinnersLeaveModel", "goSeason", "(II)I"⟩, 29) := ⟨⟨by decide +kernel, by decide +kernel⟩, List.mem_of_getElem? (i := 598) (by decide +kernel), List.mem_of_getElem? (i := 791) (by decide +kernel), List.mem_of_getElem? (i := 792) (by decide +kernel)⟩
theorem lw_p57 : lw_okq (⟨"WinnersLeaveModel", "does", "(II)Z"⟩, 29) := ⟨⟨by decide +kernel, by decide +kernel⟩, List.mem_of_getElem? (i := 598) (by decide +kernel), List.mem_of_getElem? (i := 795) (by decide +kernel), List.mem_of_getElem? (i := 796) (by decide +kernel)⟩
theorem lw_p58 : lw_okq (⟨"WinnersLeaveModel", "tellSeason", "(I)I"⟩, 29) := ⟨⟨by decide +kernel, by decide +kernel⟩, List.mem_of_getElem? (i := 598) (by decide +kernel), List.mem_of_getElem? (i := 799) (by decide +kernel), List.mem_of_getElem? (i := 800) (by decide +kernel)⟩
theorem lw_p59 : lw_okq (⟨"WinnersLeaveModel", "findPairs", "()V"⟩, 29) := ⟨⟨by decide +kernel, by decide +kernel⟩, List.mem_of_getElem? (i := 598) (by decide +kernel), List.mem_of_getElem? (i := 819) (by decide +kernel), List.mem_of_getElem? (i := 820) (by decide +kernel)⟩
theorem lw_p60 : lw_okq (⟨"WinnersLeaveModel", "tryPartners", "(II)V"⟩, 29) := ⟨⟨by decide +kernel, by decide +kernel⟩, List.mem_of_getElem? (i := 598) (by decide +kernel), List.mem_of_getElem? (i := 823) (by decide +kernel), List.mem_of_getElem? (i := 824) (by decide +kernel)⟩
theorem lw_p61 : lw_okq (⟨"WinnersLeaveModel", "isPut", "(I)Z"⟩, 29) := ⟨⟨by decide +kernel, by decide +kernel⟩, List.mem_of_getElem? (i := 598) (by decide +kernel), List.mem_of_getElem? (i := 827) (by decide +kernel), List.mem_of_getElem? (i := 828) (by decide +kernel)⟩
theorem lw_p62 : lw_okq (⟨"WinnersLeaveModel", "leaves", "(I)I"⟩, 29) := ⟨⟨by decide +kernel, by decide +kernel⟩, List.mem_of_getElem? (i := 598) (by decide +kernel), List.mem_of_getElem? (i := 831) (by decide +kernel), List.mem_of_getElem? (i := 832) (by decide +kernel)⟩
theorem lw_p63 : lw_okq (⟨"WinnersLeaveModel", "findSecond", "(I)V"⟩, 29) := ⟨⟨by decide +kernel, by decide +kernel⟩, List.mem_of_getElem? (i := 598) (by decide +kernel), List.mem_of_getElem? (i := 835) (by decide +kernel), List.mem_of_getElem? (i := 836) (by decide +kernel)⟩
def lw_privs_4 : List (MethodName × Nat) := [(⟨"WinnersLeaveModel", "digit", "(I)I"⟩, 29), (⟨"WinnersLeaveModel", "isPerson", "(I)Z"⟩, 29), (⟨"WinnersLeaveModel", "bestOf", "(I)I"⟩, 29), (⟨"WinnersLeaveModel", "worstOf", "(I)I"⟩, 29), (⟨"WinnersLeaveModel", "areTwo", "(II)Z"⟩, 29), (⟨"WinnersLeaveModel", "isAway", "(II)Z"⟩, 29), (⟨"WinnersLeaveModel", "play", "(IIII)I"⟩, 29), (⟨"WinnersLeaveModel", "refusesPair", "(II)I"⟩, 29), (⟨"WinnersLeaveModel", "goSeason", "(II)I"⟩, 29), (⟨"WinnersLeaveModel", "does", "(II)Z"⟩, 29), (⟨"WinnersLeaveModel", "tellSeason", "(I)I"⟩, 29), (⟨"WinnersLeaveModel", "findPairs", "()V"⟩, 29), (⟨"WinnersLeaveModel", "tryPartners", "(II)V"⟩, 29), (⟨"WinnersLeaveModel", "isPut", "(I)Z"⟩, 29), (⟨"WinnersLeaveModel", "leaves", "(I)I"⟩, 29), (⟨"WinnersLeaveModel", "findSecond", "(I)V"⟩, 29)]
theorem lw_r4 : ∀ q ∈ lw_privs_4, lw_okq q := List.forall_mem_cons.mpr ⟨lw_p48, List.forall_mem_cons.mpr ⟨lw_p49, List.forall_mem_cons.mpr ⟨lw_p50, List.forall_mem_cons.mpr ⟨lw_p51, List.forall_mem_cons.mpr ⟨lw_p52, List.forall_mem_cons.mpr ⟨lw_p53, List.forall_mem_cons.mpr ⟨lw_p54, List.forall_mem_cons.mpr ⟨lw_p55, List.forall_mem_cons.mpr ⟨lw_p56, List.forall_mem_cons.mpr ⟨lw_p57, List.forall_mem_cons.mpr ⟨lw_p58, List.forall_mem_cons.mpr ⟨lw_p59, List.forall_mem_cons.mpr ⟨lw_p60, List.forall_mem_cons.mpr ⟨lw_p61, List.forall_mem_cons.mpr ⟨lw_p62, List.forall_mem_cons.mpr ⟨lw_p63, fun _ h => absurd h List.not_mem_nil⟩⟩⟩⟩⟩⟩⟩⟩⟩⟩⟩⟩⟩⟩⟩⟩
theorem lw_p64 : lw_okq (⟨"WinnersLeaveModel", "take", "(I)V"⟩, 29) := ⟨⟨by decide +kernel, by decide +kernel⟩, List.mem_of_getElem? (i := 598) (by decide +kernel), List.mem_of_getElem? (i := 839) (by decide +kernel), List.mem_of_getElem? (i := 840) (by decide +kernel)⟩
theorem lw_p65 : lw_okq (⟨"WinnersLeaveModel", "refusesTwos", "(II)I"⟩, 29) := ⟨⟨by decide +kernel, by decide +kernel⟩, List.mem_of_getElem? (i := 598) (by decide +kernel), List.mem_of_getElem? (i := 847) (by decide +kernel), List.mem_of_getElem? (i := 848) (by decide +kernel)⟩
theorem lw_p66 : lw_okq (⟨"WinnersLeaveModel", "findRow", "(I)V"⟩, 29) := ⟨⟨by decide +kernel, by decide +kernel⟩, List.mem_of_getElem? (i := 598) (by decide +kernel), List.mem_of_getElem? (i := 854) (by decide +kernel), List.mem_of_getElem? (i := 855) (by decide +kernel)⟩
theorem lw_p67 : lw_okq (⟨"WinnersLeaveModel", "areAhead", "(II)Z"⟩, 29) := ⟨⟨by decide +kernel, by decide +kernel⟩, List.mem_of_getElem? (i := 598) (by decide +kernel), List.mem_of_getElem? (i := 858) (by decide +kernel), List.mem_of_getElem? (i := 859) (by decide +kernel)⟩
theorem lw_p68 : lw_okq (⟨"WinnersLeaveModel", "isOrder", "(III)Z"⟩, 29) := ⟨⟨by decide +kernel, by decide +kernel⟩, List.mem_of_getElem? (i := 598) (by decide +kernel), List.mem_of_getElem? (i := 866) (by decide +kernel), List.mem_of_getElem? (i := 867) (by decide +kernel)⟩
theorem lw_p69 : lw_okq (⟨"WinnersLeaveModel", "areSo", "()Z"⟩, 29) := ⟨⟨by decide +kernel, by decide +kernel⟩, List.mem_of_getElem? (i := 598) (by decide +kernel), List.mem_of_getElem? (i := 882) (by decide +kernel), List.mem_of_getElem? (i := 883) (by decide +kernel)⟩
theorem lw_p70 : lw_okq (⟨"WinnersLeaveModel", "lost", "(I)J"⟩, 29) := ⟨⟨by decide +kernel, by decide +kernel⟩, List.mem_of_getElem? (i := 598) (by decide +kernel), List.mem_of_getElem? (i := 918) (by decide +kernel), List.mem_of_getElem? (i := 919) (by decide +kernel)⟩
theorem lw_p71 : lw_okq (⟨"WinnersLeaveModel", "begins", "(I)V"⟩, 29) := ⟨⟨by decide +kernel, by decide +kernel⟩, List.mem_of_getElem? (i := 598) (by decide +kernel), List.mem_of_getElem? (i := 930) (by decide +kernel), List.mem_of_getElem? (i := 931) (by decide +kernel)⟩
def lw_privs_5 : List (MethodName × Nat) := [(⟨"WinnersLeaveModel", "take", "(I)V"⟩, 29), (⟨"WinnersLeaveModel", "refusesTwos", "(II)I"⟩, 29), (⟨"WinnersLeaveModel", "findRow", "(I)V"⟩, 29), (⟨"WinnersLeaveModel", "areAhead", "(II)Z"⟩, 29), (⟨"WinnersLeaveModel", "isOrder", "(III)Z"⟩, 29), (⟨"WinnersLeaveModel", "areSo", "()Z"⟩, 29), (⟨"WinnersLeaveModel", "lost", "(I)J"⟩, 29), (⟨"WinnersLeaveModel", "begins", "(I)V"⟩, 29)]
theorem lw_r5 : ∀ q ∈ lw_privs_5, lw_okq q := List.forall_mem_cons.mpr ⟨lw_p64, List.forall_mem_cons.mpr ⟨lw_p65, List.forall_mem_cons.mpr ⟨lw_p66, List.forall_mem_cons.mpr ⟨lw_p67, List.forall_mem_cons.mpr ⟨lw_p68, List.forall_mem_cons.mpr ⟨lw_p69, List.forall_mem_cons.mpr ⟨lw_p70, List.forall_mem_cons.mpr ⟨lw_p71, fun _ h => absurd h List.not_mem_nil⟩⟩⟩⟩⟩⟩⟩⟩
def lw_privs : List (MethodName × Nat) := lw_privs_1 ++ (lw_privs_2 ++ (lw_privs_3 ++ (lw_privs_4 ++ (lw_privs_5))))
def lw_tbl : List Cond := k2_sels lw_privs ++ tables_1
theorem lw_privs_ok : ∀ q ∈ lw_privs, lw_okq q := by
  show ∀ q ∈ lw_privs_1 ++ (lw_privs_2 ++ (lw_privs_3 ++ (lw_privs_4 ++ (lw_privs_5)))), lw_okq q
  exact List.forall_mem_append.mpr ⟨lw_r1, List.forall_mem_append.mpr ⟨lw_r2, List.forall_mem_append.mpr ⟨lw_r3, List.forall_mem_append.mpr ⟨lw_r4, lw_r5⟩⟩⟩⟩
-- ===== end of PART A; then your names; then what follows =====
end
section
def RX0 : String := "WinnersLeave$Notebook"
def TX0 : u_T := fun k => match k with
  | 0 => ("WinnersLeave$Notebook", "ones", "[I", true)
  | 1 => ("WinnersLeave$Notebook", "others", "[I", true)
  | 2 => ("WinnersLeave$Notebook", "hows", "[I", true)
  | 3 => ("WinnersLeave$Notebook", "results", "[I", true)
  | _ => ("WinnersLeave$Notebook", "count", "I", false)
def tyX0 : Nat → FieldType := fun k => match k with
  | 0 => .array .int
  | 1 => .array .int
  | 2 => .array .int
  | 3 => .array .int
  | _ => .int
abbrev wsX00 : List Cond := u_ws RX0 TX0 5
theorem nmX0 : ∀ a, a < 5 → ∀ b, b < 5 → a ≠ b → (TX0 a).2.1 ≠ (TX0 b).2.1 := by decide +kernel
theorem tyX0_ok : ∀ k, k < 5 → parseFieldDescriptor (TX0 k).2.2.1 = some (tyX0 k) := by decide +kernel
abbrev cX0_init : ByteArray := prog_2_method_1_code
def yX0_init : MethodName := ⟨RX0, "<init>", "()V"⟩
abbrev cX0_note : ByteArray := prog_2_method_2_code
def yX0_note : MethodName := ⟨RX0, "note", "(IIII)I"⟩
abbrev cX0_forget : ByteArray := prog_2_method_3_code
def yX0_forget : MethodName := ⟨RX0, "forget", "(I)V"⟩
abbrev cX0_agrees : ByteArray := prog_2_method_4_code
def yX0_agrees : MethodName := ⟨RX0, "agrees", "(LWinnersLeave$Town;)Z"⟩
abbrev cX0_resultOf : ByteArray := prog_2_method_5_code
def yX0_resultOf : MethodName := ⟨RX0, "resultOf", "(LWinnersLeave$Person;LWinnersLeave$Person;I)I"⟩
def RX1 : String := "WinnersLeave$Pairing"
def TX1 : u_T := fun k => match k with
  | 0 => ("WinnersLeave$Pairing", "tried", "[I", true)
  | 1 => ("WinnersLeave$Pairing", "found", "[I", true)
  | 2 => ("WinnersLeave$Pairing", "town", "LWinnersLeave$Town;", true)
  | _ => ("WinnersLeave$Pairing", "fewest", "I", false)
def tyX1 : Nat → FieldType := fun k => match k with
  | 0 => .array .int
  | 1 => .array .int
  | 2 => .object "WinnersLeave$Town"
  | _ => .int
abbrev wsX10 : List Cond := u_ws RX1 TX1 4
theorem nmX1 : ∀ a, a < 4 → ∀ b, b < 4 → a ≠ b → (TX1 a).2.1 ≠ (TX1 b).2.1 := by decide +kernel
theorem tyX1_ok : ∀ k, k < 4 → parseFieldDescriptor (TX1 k).2.2.1 = some (tyX1 k) := by decide +kernel
abbrev cX1_init : ByteArray := prog_3_method_1_code
def yX1_init : MethodName := ⟨RX1, "<init>", "(LWinnersLeave$Town;)V"⟩
abbrev cX1_find : ByteArray := prog_3_method_2_code
def yX1_find : MethodName := ⟨RX1, "find", "()V"⟩
abbrev cX1_pairFrom : ByteArray := prog_3_method_3_code
def yX1_pairFrom : MethodName := ⟨RX1, "pairFrom", "(III)V"⟩
abbrev cX1_partnerOf : ByteArray := prog_3_method_4_code
def yX1_partnerOf : MethodName := ⟨RX1, "partnerOf", "(I)I"⟩
def RX2 : String := "WinnersLeave$Person"
def TX2 : u_T := fun k => match k with
  | 0 => ("WinnersLeave$Person", "kind", "I", false)
  | 1 => ("WinnersLeave$Person", "strength", "I", false)
  | 2 => ("WinnersLeave$Person", "feint", "I", false)
  | _ => ("WinnersLeave$Person", "gone", "Z", false)
def tyX2 : Nat → FieldType := fun k => match k with
  | 0 => .int
  | 1 => .int
  | 2 => .int
  | _ => .boolean
abbrev wsX20 : List Cond := u_ws RX2 TX2 4
theorem nmX2 : ∀ a, a < 4 → ∀ b, b < 4 → a ≠ b → (TX2 a).2.1 ≠ (TX2 b).2.1 := by decide +kernel
theorem tyX2_ok : ∀ k, k < 4 → parseFieldDescriptor (TX2 k).2.2.1 = some (tyX2 k) := by decide +kernel
abbrev cX2_init : ByteArray := prog_4_method_1_code
def yX2_init : MethodName := ⟨RX2, "<init>", "()V"⟩
abbrev cX2_trait : ByteArray := prog_4_method_2_code
def yX2_trait : MethodName := ⟨RX2, "trait", "(I)I"⟩
abbrev cX2_setTrait : ByteArray := prog_4_method_3_code
def yX2_setTrait : MethodName := ⟨RX2, "setTrait", "(II)V"⟩
abbrev cX2_best : ByteArray := prog_4_method_4_code
def yX2_best : MethodName := ⟨RX2, "best", "()I"⟩
abbrev cX2_worst : ByteArray := prog_4_method_5_code
def yX2_worst : MethodName := ⟨RX2, "worst", "()I"⟩
abbrev cX2_canPlay : ByteArray := prog_4_method_6_code
def yX2_canPlay : MethodName := ⟨RX2, "canPlay", "(I)Z"⟩
abbrev cX2_become : ByteArray := prog_4_method_7_code
def yX2_become : MethodName := ⟨RX2, "become", "(IIIZ)V"⟩
def RX3 : String := "WinnersLeave$Ranking"
def TX3 : u_T := fun k => match k with
  | 0 => ("WinnersLeave$Ranking", "beatenBy", "[I", true)
  | 1 => ("WinnersLeave$Ranking", "ways", "[I", true)
  | 2 => ("WinnersLeave$Ranking", "first", "[I", true)
  | _ => ("WinnersLeave$Ranking", "count", "I", false)
def tyX3 : Nat → FieldType := fun k => match k with
  | 0 => .array .int
  | 1 => .array .int
  | 2 => .array .int
  | _ => .int
abbrev wsX30 : List Cond := u_ws RX3 TX3 4
theorem nmX3 : ∀ a, a < 4 → ∀ b, b < 4 → a ≠ b → (TX3 a).2.1 ≠ (TX3 b).2.1 := by decide +kernel
theorem tyX3_ok : ∀ k, k < 4 → parseFieldDescriptor (TX3 k).2.2.1 = some (tyX3 k) := by decide +kernel
abbrev cX3_init : ByteArray := prog_5_method_1_code
def yX3_init : MethodName := ⟨RX3, "<init>", "()V"⟩
abbrev cX3_take : ByteArray := prog_5_method_2_code
def yX3_take : MethodName := ⟨RX3, "take", "(ILWinnersLeave$Sheet;III)V"⟩
abbrev cX3_mayFollow : ByteArray := prog_5_method_3_code
def yX3_mayFollow : MethodName := ⟨RX3, "mayFollow", "(II)Z"⟩
abbrev cX3_howMany : ByteArray := prog_5_method_4_code
def yX3_howMany : MethodName := ⟨RX3, "howMany", "()I"⟩
abbrev cX3_lineUp : ByteArray := prog_5_method_5_code
def yX3_lineUp : MethodName := ⟨RX3, "lineUp", "()Z"⟩
abbrev cX3_placeOfFirst : ByteArray := prog_5_method_6_code
def yX3_placeOfFirst : MethodName := ⟨RX3, "placeOfFirst", "(I)I"⟩
abbrev cX3_fewestLeftOut : ByteArray := prog_5_method_7_code
def yX3_fewestLeftOut : MethodName := ⟨RX3, "fewestLeftOut", "(ILWinnersLeave$Sheet;II)I"⟩
def RX4 : String := "WinnersLeave$Season"
def TX4 : u_T := fun k => match k with
  | 0 => ("WinnersLeave$Season", "town", "LWinnersLeave$Town;", true)
  | 1 => ("WinnersLeave$Season", "gamesOf", "[I", true)
  | 2 => ("WinnersLeave$Season", "draws", "I", false)
  | 3 => ("WinnersLeave$Season", "wentLast", "I", false)
  | _ => ("WinnersLeave$Season", "firstWrong", "I", false)
def tyX4 : Nat → FieldType := fun k => match k with
  | 0 => .object "WinnersLeave$Town"
  | 1 => .array .int
  | 2 => .int
  | 3 => .int
  | _ => .int
abbrev wsX40 : List Cond := u_ws RX4 TX4 5
theorem nmX4 : ∀ a, a < 5 → ∀ b, b < 5 → a ≠ b → (TX4 a).2.1 ≠ (TX4 b).2.1 := by decide +kernel
theorem tyX4_ok : ∀ k, k < 5 → parseFieldDescriptor (TX4 k).2.2.1 = some (tyX4 k) := by decide +kernel
abbrev cX4_init : ByteArray := prog_6_method_1_code
def yX4_init : MethodName := ⟨RX4, "<init>", "()V"⟩
abbrev cX4_isAct : ByteArray := prog_6_method_2_code
def yX4_isAct : MethodName := ⟨RX4, "isAct", "(I)Z"⟩
abbrev cX4_run : ByteArray := prog_6_method_3_code
def yX4_run : MethodName := ⟨RX4, "run", "(LWinnersLeave$Town;LWinnersLeave$Sheet;II)V"⟩
abbrev cX4_goesOn : ByteArray := prog_6_method_4_code
def yX4_goesOn : MethodName := ⟨RX4, "goesOn", "(II)Z"⟩
abbrev cX4_comesBack : ByteArray := prog_6_method_5_code
def yX4_comesBack : MethodName := ⟨RX4, "comesBack", "(LWinnersLeave$Person;)Z"⟩
abbrev cX4_playShy : ByteArray := prog_6_method_6_code
def yX4_playShy : MethodName := ⟨RX4, "playShy", "(II)Z"⟩
abbrev cX4_answer : ByteArray := prog_6_method_7_code
def yX4_answer : MethodName := ⟨RX4, "answer", "(I)I"⟩
def RX5 : String := "WinnersLeave$Sheet"
def TX5 : u_T := fun k => match k with
  | 0 => ("WinnersLeave$Sheet", "cells", "[I", true)
  | 1 => ("WinnersLeave$Sheet", "held", "Z", false)
  | 2 => ("WinnersLeave$Sheet", "lane", "I", false)
  | _ => ("WinnersLeave$Sheet", "length", "I", false)
def tyX5 : Nat → FieldType := fun k => match k with
  | 0 => .array .int
  | 1 => .boolean
  | 2 => .int
  | _ => .int
abbrev wsX50 : List Cond := u_ws RX5 TX5 4
theorem nmX5 : ∀ a, a < 4 → ∀ b, b < 4 → a ≠ b → (TX5 a).2.1 ≠ (TX5 b).2.1 := by decide +kernel
theorem tyX5_ok : ∀ k, k < 4 → parseFieldDescriptor (TX5 k).2.2.1 = some (tyX5 k) := by decide +kernel
abbrev cX5_init : ByteArray := prog_7_method_1_code
def yX5_init : MethodName := ⟨RX5, "<init>", "()V"⟩
abbrev cX5_renew : ByteArray := prog_7_method_2_code
def yX5_renew : MethodName := ⟨RX5, "renew", "(II)V"⟩
abbrev cX5_reaches : ByteArray := prog_7_method_3_code
def yX5_reaches : MethodName := ⟨RX5, "reaches", "(II)Z"⟩
abbrev cX5_faultOfRow : ByteArray := prog_7_method_4_code
def yX5_faultOfRow : MethodName := ⟨RX5, "faultOfRow", "(III)I"⟩
abbrev cX5_read : ByteArray := prog_7_method_5_code
def yX5_read : MethodName := ⟨RX5, "read", "(I)I"⟩
abbrev cX5_write : ByteArray := prog_7_method_6_code
def yX5_write : MethodName := ⟨RX5, "write", "(II)V"⟩
def RX6 : String := "WinnersLeave$Text"
def TX6 : u_T := fun k => match k with
  | _ => ("", "", "", false)
def tyX6 : Nat → FieldType := fun k => match k with
  | _ => .int
abbrev wsX60 : List Cond := u_ws RX6 TX6 0
theorem nmX6 : ∀ a, a < 0 → ∀ b, b < 0 → a ≠ b → (TX6 a).2.1 ≠ (TX6 b).2.1 := by decide +kernel
theorem tyX6_ok : ∀ k, k < 0 → parseFieldDescriptor (TX6 k).2.2.1 = some (tyX6 k) := by decide +kernel
abbrev cX6_firstFault : ByteArray := prog_8_method_2_code
def yX6_firstFault : MethodName := ⟨RX6, "firstFault", "(LWinnersLeave$Sheet;II)I"⟩
abbrev cX6_goesOn : ByteArray := prog_8_method_3_code
def yX6_goesOn : MethodName := ⟨RX6, "goesOn", "(II)Z"⟩
abbrev cX6_kindOf : ByteArray := prog_8_method_4_code
def yX6_kindOf : MethodName := ⟨RX6, "kindOf", "(I)I"⟩
abbrev cX6_settle : ByteArray := prog_8_method_5_code
def yX6_settle : MethodName := ⟨RX6, "settle", "(LWinnersLeave$Sheet;IILWinnersLeave$Town;)V"⟩
def RX7 : String := "WinnersLeave$Town"
def TX7 : u_T := fun k => match k with
  | 0 => ("WinnersLeave$Town", "people", "[LWinnersLeave$Person;", true)
  | _ => ("WinnersLeave$Town", "count", "I", false)
def tyX7 : Nat → FieldType := fun k => match k with
  | 0 => .array (.object "WinnersLeave$Person")
  | _ => .int
abbrev wsX70 : List Cond := u_ws RX7 TX7 2
theorem nmX7 : ∀ a, a < 2 → ∀ b, b < 2 → a ≠ b → (TX7 a).2.1 ≠ (TX7 b).2.1 := by decide +kernel
theorem tyX7_ok : ∀ k, k < 2 → parseFieldDescriptor (TX7 k).2.2.1 = some (tyX7 k) := by decide +kernel
abbrev cX7_init : ByteArray := prog_9_method_1_code
def yX7_init : MethodName := ⟨RX7, "<init>", "()V"⟩
abbrev cX7_has : ByteArray := prog_9_method_2_code
def yX7_has : MethodName := ⟨RX7, "has", "(I)Z"⟩
abbrev cX7_hasTwo : ByteArray := prog_9_method_3_code
def yX7_hasTwo : MethodName := ⟨RX7, "hasTwo", "(II)Z"⟩
abbrev cX7_bothHere : ByteArray := prog_9_method_4_code
def yX7_bothHere : MethodName := ⟨RX7, "bothHere", "(II)Z"⟩
abbrev cX7_goneSet : ByteArray := prog_9_method_5_code
def yX7_goneSet : MethodName := ⟨RX7, "goneSet", "()I"⟩
abbrev cX7_winnerLeaves : ByteArray := prog_9_method_6_code
def yX7_winnerLeaves : MethodName := ⟨RX7, "winnerLeaves", "(IIII)I"⟩
abbrev cX7_becomeLike : ByteArray := prog_9_method_7_code
def yX7_becomeLike : MethodName := ⟨RX7, "becomeLike", "(LWinnersLeave$Town;)V"⟩
def RX8 : String := "WinnersLeave"
def TX8 : u_T := fun k => match k with
  | 0 => ("WinnersLeave", "town", "LWinnersLeave$Town;", true)
  | 1 => ("WinnersLeave", "sheets", "[LWinnersLeave$Sheet;", true)
  | 2 => ("WinnersLeave", "notebook", "LWinnersLeave$Notebook;", true)
  | 3 => ("WinnersLeave", "told", "LWinnersLeave$Season;", true)
  | 4 => ("WinnersLeave", "pairing", "LWinnersLeave$Pairing;", true)
  | 5 => ("WinnersLeave", "ranking", "LWinnersLeave$Ranking;", true)
  | 6 => ("WinnersLeave", "gamesPlayed", "I", false)
  | 7 => ("WinnersLeave", "marks", "I", false)
  | _ => ("WinnersLeave", "lastFault", "I", false)
def tyX8 : Nat → FieldType := fun k => match k with
  | 0 => .object "WinnersLeave$Town"
  | 1 => .array (.object "WinnersLeave$Sheet")
  | 2 => .object "WinnersLeave$Notebook"
  | 3 => .object "WinnersLeave$Season"
  | 4 => .object "WinnersLeave$Pairing"
  | 5 => .object "WinnersLeave$Ranking"
  | 6 => .int
  | 7 => .int
  | _ => .int
abbrev wsX80 : List Cond := u_ws RX8 TX8 9
theorem nmX8 : ∀ a, a < 9 → ∀ b, b < 9 → a ≠ b → (TX8 a).2.1 ≠ (TX8 b).2.1 := by decide +kernel
theorem tyX8_ok : ∀ k, k < 9 → parseFieldDescriptor (TX8 k).2.2.1 = some (tyX8 k) := by decide +kernel
abbrev cX8_init : ByteArray := prog_1_method_1_code
def yX8_init : MethodName := ⟨RX8, "<init>", "()V"⟩
abbrev cX8_harbour : ByteArray := prog_1_method_2_code
def yX8_harbour : MethodName := ⟨RX8, "harbour", "(IIII)I"⟩
abbrev cX8_ofPerson : ByteArray := prog_1_method_3_code
def yX8_ofPerson : MethodName := ⟨RX8, "ofPerson", "(II)I"⟩
abbrev cX8_train : ByteArray := prog_1_method_4_code
def yX8_train : MethodName := ⟨RX8, "train", "(II)I"⟩
abbrev cX8_learn : ByteArray := prog_1_method_5_code
def yX8_learn : MethodName := ⟨RX8, "learn", "(II)I"⟩
abbrev cX8_game : ByteArray := prog_1_method_6_code
def yX8_game : MethodName := ⟨RX8, "game", "(IIII)I"⟩
abbrev cX8_shy : ByteArray := prog_1_method_7_code
def yX8_shy : MethodName := ⟨RX8, "shy", "(II)I"⟩
abbrev cX8_fetch : ByteArray := prog_1_method_8_code
def yX8_fetch : MethodName := ⟨RX8, "fetch", "(I)I"⟩
abbrev cX8_season : ByteArray := prog_1_method_9_code
def yX8_season : MethodName := ⟨RX8, "season", "(IIIII)I"⟩
abbrev cX8_safe : ByteArray := prog_1_method_10_code
def yX8_safe : MethodName := ⟨RX8, "safe", "(II)I"⟩
abbrev cX8_sure : ByteArray := prog_1_method_11_code
def yX8_sure : MethodName := ⟨RX8, "sure", "(I)I"⟩
abbrev cX8_common : ByteArray := prog_1_method_12_code
def yX8_common : MethodName := ⟨RX8, "common", "(II)I"⟩
abbrev cX8_pairs : ByteArray := prog_1_method_13_code
def yX8_pairs : MethodName := ⟨RX8, "pairs", "(I)I"⟩
abbrev cX8_orders : ByteArray := prog_1_method_14_code
def yX8_orders : MethodName := ⟨RX8, "orders", "(IIIII)I"⟩
abbrev cX8_drops : ByteArray := prog_1_method_15_code
def yX8_drops : MethodName := ⟨RX8, "drops", "(IIII)I"⟩
abbrev cX8_reading : ByteArray := prog_1_method_16_code
def yX8_reading : MethodName := ⟨RX8, "reading", "(IIII)I"⟩
abbrev cX8_back : ByteArray := prog_1_method_17_code
def yX8_back : MethodName := ⟨RX8, "back", "(I)I"⟩
abbrev cX8_strengths : ByteArray := prog_1_method_18_code
def yX8_strengths : MethodName := ⟨RX8, "strengths", "(I)I"⟩
abbrev cX8_feints : ByteArray := prog_1_method_19_code
def yX8_feints : MethodName := ⟨RX8, "feints", "(I)I"⟩
abbrev cX8_kinds : ByteArray := prog_1_method_20_code
def yX8_kinds : MethodName := ⟨RX8, "kinds", "(I)I"⟩
abbrev cX8_odds : ByteArray := prog_1_method_21_code
def yX8_odds : MethodName := ⟨RX8, "odds", "(III)J"⟩
abbrev cX8_sheet : ByteArray := prog_1_method_22_code
def yX8_sheet : MethodName := ⟨RX8, "sheet", "(III)I"⟩
abbrev cX8_lose : ByteArray := prog_1_method_23_code
def yX8_lose : MethodName := ⟨RX8, "lose", "(I)I"⟩
abbrev cX8_put : ByteArray := prog_1_method_24_code
def yX8_put : MethodName := ⟨RX8, "put", "(III)I"⟩
abbrev cX8_cell : ByteArray := prog_1_method_25_code
def yX8_cell : MethodName := ⟨RX8, "cell", "(III)J"⟩
abbrev cX8_copy : ByteArray := prog_1_method_26_code
def yX8_copy : MethodName := ⟨RX8, "copy", "(IIIII)I"⟩
abbrev cX8_tell : ByteArray := prog_1_method_27_code
def yX8_tell : MethodName := ⟨RX8, "tell", "(I)I"⟩
abbrev cX8_wave : ByteArray := prog_1_method_28_code
def yX8_wave : MethodName := ⟨RX8, "wave", "(I)I"⟩
abbrev cX8_as : ByteArray := prog_1_method_29_code
def yX8_as : MethodName := ⟨RX8, "as", "(II)I"⟩
abbrev cX8_trace : ByteArray := prog_1_method_30_code
def yX8_trace : MethodName := ⟨RX8, "trace", "()I"⟩
abbrev cX8_fault : ByteArray := prog_1_method_31_code
def yX8_fault : MethodName := ⟨RX8, "fault", "()I"⟩
abbrev cX8_many : ByteArray := prog_1_method_32_code
def yX8_many : MethodName := ⟨RX8, "many", "(I)I"⟩
abbrev cX8_isSheet : ByteArray := prog_1_method_33_code
def yX8_isSheet : MethodName := ⟨RX8, "isSheet", "(I)Z"⟩
abbrev cX8_isLane : ByteArray := prog_1_method_34_code
def yX8_isLane : MethodName := ⟨RX8, "isLane", "(I)Z"⟩
abbrev cX8_isDigit : ByteArray := prog_1_method_35_code
def yX8_isDigit : MethodName := ⟨RX8, "isDigit", "(I)Z"⟩
abbrev cX8_faulted : ByteArray := prog_1_method_36_code
def yX8_faulted : MethodName := ⟨RX8, "faulted", "(I)I"⟩
abbrev cX8_refusalOfRow : ByteArray := prog_1_method_37_code
def yX8_refusalOfRow : MethodName := ⟨RX8, "refusalOfRow", "(IIIIZ)I"⟩
abbrev cX8_refusalOfActs : ByteArray := prog_1_method_38_code
def yX8_refusalOfActs : MethodName := ⟨RX8, "refusalOfActs", "(LWinnersLeave$Sheet;II)I"⟩
abbrev cX8_refusalOfTwos : ByteArray := prog_1_method_39_code
def yX8_refusalOfTwos : MethodName := ⟨RX8, "refusalOfTwos", "(IIIIZ)I"⟩
abbrev cX8_changed : ByteArray := prog_1_method_40_code
def yX8_changed : MethodName := ⟨RX8, "changed", "(III)I"⟩
abbrev cX8_agreeing : ByteArray := prog_1_method_41_code
def yX8_agreeing : MethodName := ⟨RX8, "agreeing", "(III)I"⟩
abbrev cX8_waysToWin : ByteArray := prog_1_method_42_code
def yX8_waysToWin : MethodName := ⟨RX8, "waysToWin", "(LWinnersLeave$Person;LWinnersLeave$Person;)I"⟩
abbrev cX8_mark : ByteArray := prog_1_method_43_code
def yX8_mark : MethodName := ⟨RX8, "mark", "(I)V"⟩
abbrev cX8_tellPlayer : ByteArray := prog_1_method_44_code
def yX8_tellPlayer : MethodName := ⟨RX8, "tellPlayer", "(LWinnersLeave$Person;)I"⟩
abbrev cX8_tellLefty : ByteArray := prog_1_method_45_code
def yX8_tellLefty : MethodName := ⟨RX8, "tellLefty", "(LWinnersLeave$Person;)I"⟩
abbrev cX8_tellChampion : ByteArray := prog_1_method_46_code
def yX8_tellChampion : MethodName := ⟨RX8, "tellChampion", "(LWinnersLeave$Person;)I"⟩
def RX9 : String := "WinnersLeaveModel"
def TX9 : u_T := fun k => match k with
  | 0 => ("WinnersLeaveModel", "fault", "I", false)
  | 1 => ("WinnersLeaveModel", "trace", "I", false)
  | 2 => ("WinnersLeaveModel", "sorts", "[I", true)
  | 3 => ("WinnersLeaveModel", "sheetLong", "[I", true)
  | 4 => ("WinnersLeaveModel", "cells", "[I", true)
  | 5 => ("WinnersLeaveModel", "people", "I", false)
  | 6 => ("WinnersLeaveModel", "gone", "I", false)
  | 7 => ("WinnersLeaveModel", "games", "I", false)
  | 8 => ("WinnersLeaveModel", "kind", "[I", true)
  | 9 => ("WinnersLeaveModel", "strength", "[I", true)
  | 10 => ("WinnersLeaveModel", "feint", "[I", true)
  | 11 => ("WinnersLeaveModel", "at", "I", false)
  | 12 => ("WinnersLeaveModel", "readPeople", "I", false)
  | 13 => ("WinnersLeaveModel", "read", "[I", true)
  | 14 => ("WinnersLeaveModel", "keptFeint", "[I", true)
  | 15 => ("WinnersLeaveModel", "plays", "[I", true)
  | 16 => ("WinnersLeaveModel", "draws", "I", false)
  | 17 => ("WinnersLeaveModel", "wentLast", "I", false)
  | 18 => ("WinnersLeaveModel", "partner", "[I", true)
  | 19 => ("WinnersLeaveModel", "bestPartner", "[I", true)
  | 20 => ("WinnersLeaveModel", "bestTwos", "I", false)
  | 21 => ("WinnersLeaveModel", "bestGone", "I", false)
  | 22 => ("WinnersLeaveModel", "row", "[I", true)
  | 23 => ("WinnersLeaveModel", "placeOf", "[I", true)
  | 24 => ("WinnersLeaveModel", "readings", "I", false)
  | 25 => ("WinnersLeaveModel", "readOne", "[I", true)
  | 26 => ("WinnersLeaveModel", "readOther", "[I", true)
  | 27 => ("WinnersLeaveModel", "readHow", "[I", true)
  | _ => ("WinnersLeaveModel", "readResult", "[I", true)
def tyX9 : Nat → FieldType := fun k => match k with
  | 0 => .int
  | 1 => .int
  | 2 => .array .int
  | 3 => .array .int
  | 4 => .array .int
  | 5 => .int
  | 6 => .int
  | 7 => .int
  | 8 => .array .int
  | 9 => .array .int
  | 10 => .array .int
  | 11 => .int
  | 12 => .int
  | 13 => .array .int
  | 14 => .array .int
  | 15 => .array .int
  | 16 => .int
  | 17 => .int
  | 18 => .array .int
  | 19 => .array .int
  | 20 => .int
  | 21 => .int
  | 22 => .array .int
  | 23 => .array .int
  | 24 => .int
  | 25 => .array .int
  | 26 => .array .int
  | 27 => .array .int
  | _ => .array .int
abbrev wsX90 : List Cond := u_ws RX9 TX9 29
theorem nmX9 : ∀ a, a < 29 → ∀ b, b < 29 → a ≠ b → (TX9 a).2.1 ≠ (TX9 b).2.1 := by decide +kernel
theorem tyX9_ok : ∀ k, k < 29 → parseFieldDescriptor (TX9 k).2.2.1 = some (tyX9 k) := by decide +kernel
abbrev cX9_init : ByteArray := prog_11_method_1_code
def yX9_init : MethodName := ⟨RX9, "<init>", "()V"⟩
abbrev cX9_fails : ByteArray := prog_11_method_3_code
def yX9_fails : MethodName := ⟨RX9, "fails", "(I)I"⟩
abbrev cX9_lost : ByteArray := prog_11_method_4_code
def yX9_lost : MethodName := ⟨RX9, "lost", "(I)J"⟩
abbrev cX9_within : ByteArray := prog_11_method_5_code
def yX9_within : MethodName := ⟨RX9, "within", "(III)Z"⟩
abbrev cX9_isSheet : ByteArray := prog_11_method_6_code
def yX9_isSheet : MethodName := ⟨RX9, "isSheet", "(I)Z"⟩
abbrev cX9_isSort : ByteArray := prog_11_method_7_code
def yX9_isSort : MethodName := ⟨RX9, "isSort", "(I)Z"⟩
abbrev cX9_against : ByteArray := prog_11_method_8_code
def yX9_against : MethodName := ⟨RX9, "against", "(IIII)I"⟩
abbrev cX9_isPerson : ByteArray := prog_11_method_9_code
def yX9_isPerson : MethodName := ⟨RX9, "isPerson", "(I)Z"⟩
abbrev cX9_areTwo : ByteArray := prog_11_method_10_code
def yX9_areTwo : MethodName := ⟨RX9, "areTwo", "(II)Z"⟩
abbrev cX9_isOf : ByteArray := prog_11_method_11_code
def yX9_isOf : MethodName := ⟨RX9, "isOf", "(II)Z"⟩
abbrev cX9_size : ByteArray := prog_11_method_12_code
def yX9_size : MethodName := ⟨RX9, "size", "(I)I"⟩
abbrev cX9_digit : ByteArray := prog_11_method_13_code
def yX9_digit : MethodName := ⟨RX9, "digit", "(I)I"⟩
abbrev cX9_isSign : ByteArray := prog_11_method_14_code
def yX9_isSign : MethodName := ⟨RX9, "isSign", "(II)Z"⟩
abbrev cX9_harbour : ByteArray := prog_11_method_15_code
def yX9_harbour : MethodName := ⟨RX9, "harbour", "(IIII)I"⟩
abbrev cX9_readHarbour : ByteArray := prog_11_method_16_code
def yX9_readHarbour : MethodName := ⟨RX9, "readHarbour", "(I)Z"⟩
abbrev cX9_readPerson : ByteArray := prog_11_method_17_code
def yX9_readPerson : MethodName := ⟨RX9, "readPerson", "(I)Z"⟩
abbrev cX9_bestOf : ByteArray := prog_11_method_18_code
def yX9_bestOf : MethodName := ⟨RX9, "bestOf", "(I)I"⟩
abbrev cX9_worstOf : ByteArray := prog_11_method_19_code
def yX9_worstOf : MethodName := ⟨RX9, "worstOf", "(I)I"⟩
abbrev cX9_ofPerson : ByteArray := prog_11_method_20_code
def yX9_ofPerson : MethodName := ⟨RX9, "ofPerson", "(II)I"⟩
abbrev cX9_train : ByteArray := prog_11_method_21_code
def yX9_train : MethodName := ⟨RX9, "train", "(II)I"⟩
abbrev cX9_learn : ByteArray := prog_11_method_22_code
def yX9_learn : MethodName := ⟨RX9, "learn", "(II)I"⟩
abbrev cX9_isAway : ByteArray := prog_11_method_23_code
def yX9_isAway : MethodName := ⟨RX9, "isAway", "(II)Z"⟩
abbrev cX9_play : ByteArray := prog_11_method_24_code
def yX9_play : MethodName := ⟨RX9, "play", "(IIII)I"⟩
abbrev cX9_game : ByteArray := prog_11_method_25_code
def yX9_game : MethodName := ⟨RX9, "game", "(IIII)I"⟩
abbrev cX9_shy : ByteArray := prog_11_method_26_code
def yX9_shy : MethodName := ⟨RX9, "shy", "(II)I"⟩
abbrev cX9_fetch : ByteArray := prog_11_method_27_code
def yX9_fetch : MethodName := ⟨RX9, "fetch", "(I)I"⟩
abbrev cX9_does : ByteArray := prog_11_method_28_code
def yX9_does : MethodName := ⟨RX9, "does", "(II)Z"⟩
abbrev cX9_goSeason : ByteArray := prog_11_method_29_code
def yX9_goSeason : MethodName := ⟨RX9, "goSeason", "(II)I"⟩
abbrev cX9_refusesPair : ByteArray := prog_11_method_30_code
def yX9_refusesPair : MethodName := ⟨RX9, "refusesPair", "(II)I"⟩
abbrev cX9_season : ByteArray := prog_11_method_31_code
def yX9_season : MethodName := ⟨RX9, "season", "(IIIII)I"⟩
abbrev cX9_tellSeason : ByteArray := prog_11_method_32_code
def yX9_tellSeason : MethodName := ⟨RX9, "tellSeason", "(I)I"⟩
abbrev cX9_safe : ByteArray := prog_11_method_33_code
def yX9_safe : MethodName := ⟨RX9, "safe", "(II)I"⟩
abbrev cX9_sure : ByteArray := prog_11_method_34_code
def yX9_sure : MethodName := ⟨RX9, "sure", "(I)I"⟩
abbrev cX9_common : ByteArray := prog_11_method_35_code
def yX9_common : MethodName := ⟨RX9, "common", "(II)I"⟩
abbrev cX9_tryPartners : ByteArray := prog_11_method_36_code
def yX9_tryPartners : MethodName := ⟨RX9, "tryPartners", "(II)V"⟩
abbrev cX9_isPut : ByteArray := prog_11_method_37_code
def yX9_isPut : MethodName := ⟨RX9, "isPut", "(I)Z"⟩
abbrev cX9_take : ByteArray := prog_11_method_38_code
def yX9_take : MethodName := ⟨RX9, "take", "(I)V"⟩
abbrev cX9_leaves : ByteArray := prog_11_method_39_code
def yX9_leaves : MethodName := ⟨RX9, "leaves", "(I)I"⟩
abbrev cX9_findPairs : ByteArray := prog_11_method_40_code
def yX9_findPairs : MethodName := ⟨RX9, "findPairs", "()V"⟩
abbrev cX9_findSecond : ByteArray := prog_11_method_41_code
def yX9_findSecond : MethodName := ⟨RX9, "findSecond", "(I)V"⟩
abbrev cX9_pairs : ByteArray := prog_11_method_42_code
def yX9_pairs : MethodName := ⟨RX9, "pairs", "(I)I"⟩
abbrev cX9_refusesTwos : ByteArray := prog_11_method_43_code
def yX9_refusesTwos : MethodName := ⟨RX9, "refusesTwos", "(II)I"⟩
abbrev cX9_ordersOf : ByteArray := prog_11_method_44_code
def yX9_ordersOf : MethodName := ⟨RX9, "ordersOf", "(I)I"⟩
abbrev cX9_findRow : ByteArray := prog_11_method_45_code
def yX9_findRow : MethodName := ⟨RX9, "findRow", "(I)V"⟩
abbrev cX9_areAhead : ByteArray := prog_11_method_46_code
def yX9_areAhead : MethodName := ⟨RX9, "areAhead", "(II)Z"⟩
abbrev cX9_orders : ByteArray := prog_11_method_47_code
def yX9_orders : MethodName := ⟨RX9, "orders", "(IIIII)I"⟩
abbrev cX9_isOrder : ByteArray := prog_11_method_48_code
def yX9_isOrder : MethodName := ⟨RX9, "isOrder", "(III)Z"⟩
abbrev cX9_drops : ByteArray := prog_11_method_49_code
def yX9_drops : MethodName := ⟨RX9, "drops", "(IIII)I"⟩
abbrev cX9_reading : ByteArray := prog_11_method_50_code
def yX9_reading : MethodName := ⟨RX9, "reading", "(IIII)I"⟩
abbrev cX9_back : ByteArray := prog_11_method_51_code
def yX9_back : MethodName := ⟨RX9, "back", "(I)I"⟩
abbrev cX9_areSo : ByteArray := prog_11_method_52_code
def yX9_areSo : MethodName := ⟨RX9, "areSo", "()Z"⟩
abbrev cX9_strengths : ByteArray := prog_11_method_53_code
def yX9_strengths : MethodName := ⟨RX9, "strengths", "(I)I"⟩
abbrev cX9_feints : ByteArray := prog_11_method_54_code
def yX9_feints : MethodName := ⟨RX9, "feints", "(I)I"⟩
abbrev cX9_kinds : ByteArray := prog_11_method_55_code
def yX9_kinds : MethodName := ⟨RX9, "kinds", "(I)I"⟩
abbrev cX9_inLeastTerms : ByteArray := prog_11_method_56_code
def yX9_inLeastTerms : MethodName := ⟨RX9, "inLeastTerms", "(JJI)J"⟩
abbrev cX9_odds : ByteArray := prog_11_method_57_code
def yX9_odds : MethodName := ⟨RX9, "odds", "(III)J"⟩
abbrev cX9_sheet : ByteArray := prog_11_method_58_code
def yX9_sheet : MethodName := ⟨RX9, "sheet", "(III)I"⟩
abbrev cX9_lose : ByteArray := prog_11_method_59_code
def yX9_lose : MethodName := ⟨RX9, "lose", "(I)I"⟩
abbrev cX9_put : ByteArray := prog_11_method_60_code
def yX9_put : MethodName := ⟨RX9, "put", "(III)I"⟩
abbrev cX9_cell : ByteArray := prog_11_method_61_code
def yX9_cell : MethodName := ⟨RX9, "cell", "(III)J"⟩
abbrev cX9_copy : ByteArray := prog_11_method_62_code
def yX9_copy : MethodName := ⟨RX9, "copy", "(IIIII)I"⟩
abbrev cX9_begins : ByteArray := prog_11_method_63_code
def yX9_begins : MethodName := ⟨RX9, "begins", "(I)V"⟩
abbrev cX9_tell : ByteArray := prog_11_method_64_code
def yX9_tell : MethodName := ⟨RX9, "tell", "(I)I"⟩
abbrev cX9_wave : ByteArray := prog_11_method_65_code
def yX9_wave : MethodName := ⟨RX9, "wave", "(I)I"⟩
abbrev cX9_as : ByteArray := prog_11_method_66_code
def yX9_as : MethodName := ⟨RX9, "as", "(II)I"⟩
abbrev cX9_trace : ByteArray := prog_11_method_67_code
def yX9_trace : MethodName := ⟨RX9, "trace", "()I"⟩
abbrev cX9_fault : ByteArray := prog_11_method_68_code
def yX9_fault : MethodName := ⟨RX9, "fault", "()I"⟩
abbrev cX9_many : ByteArray := prog_11_method_69_code
def yX9_many : MethodName := ⟨RX9, "many", "(I)I"⟩
def RJ6 : String := "java/lang/Integer"
def TJ6 : u_T := fun k => match k with
  | _ => ("", "", "", false)
def tyJ6 : Nat → FieldType := fun k => match k with
  | _ => .int
abbrev wsJ60 : List Cond := u_ws RJ6 TJ6 0
theorem nmJ6 : ∀ a, a < 0 → ∀ b, b < 0 → a ≠ b → (TJ6 a).2.1 ≠ (TJ6 b).2.1 := by decide +kernel
theorem tyJ6_ok : ∀ k, k < 0 → parseFieldDescriptor (TJ6 k).2.2.1 = some (tyJ6 k) := by decide +kernel
abbrev cJ6_compare_7cf53 : ByteArray := prog_12_method_40_code
def yJ6_compare_7cf53 : MethodName := ⟨RJ6, "compare", "(II)I"⟩
abbrev cJ6_bitCount_0f7a4 : ByteArray := prog_12_method_49_code
def yJ6_bitCount_0f7a4 : MethodName := ⟨RJ6, "bitCount", "(I)I"⟩
def RJ9 : String := "java/lang/Math"
def TJ9 : u_T := fun k => match k with
  | _ => ("", "", "", false)
def tyJ9 : Nat → FieldType := fun k => match k with
  | _ => .int
abbrev wsJ90 : List Cond := u_ws RJ9 TJ9 0
theorem nmJ9 : ∀ a, a < 0 → ∀ b, b < 0 → a ≠ b → (TJ9 a).2.1 ≠ (TJ9 b).2.1 := by decide +kernel
theorem tyJ9_ok : ∀ k, k < 0 → parseFieldDescriptor (TJ9 k).2.2.1 = some (tyJ9 k) := by decide +kernel
abbrev cJ9_max_7cf53 : ByteArray := prog_13_method_65_code
def yJ9_max_7cf53 : MethodName := ⟨RJ9, "max", "(II)I"⟩
abbrev cJ9_min_7cf53 : ByteArray := prog_13_method_69_code
def yJ9_min_7cf53 : MethodName := ⟨RJ9, "min", "(II)I"⟩
def RJ10 : String := "java/lang/System"
def TJ10 : u_T := fun k => match k with
  | _ => ("", "", "", false)
def tyJ10 : Nat → FieldType := fun k => match k with
  | _ => .int
abbrev wsJ100 : List Cond := u_ws RJ10 TJ10 0
theorem nmJ10 : ∀ a, a < 0 → ∀ b, b < 0 → a ≠ b → (TJ10 a).2.1 ≠ (TJ10 b).2.1 := by decide +kernel
theorem tyJ10_ok : ∀ k, k < 0 → parseFieldDescriptor (TJ10 k).2.2.1 = some (tyJ10 k) := by decide +kernel
def RJ7 : String := "java/util/Arrays"
def TJ7 : u_T := fun k => match k with
  | _ => ("", "", "", false)
def tyJ7 : Nat → FieldType := fun k => match k with
  | _ => .int
abbrev wsJ70 : List Cond := u_ws RJ7 TJ7 0
theorem nmJ7 : ∀ a, a < 0 → ∀ b, b < 0 → a ≠ b → (TJ7 a).2.1 ≠ (TJ7 b).2.1 := by decide +kernel
theorem tyJ7_ok : ∀ k, k < 0 → parseFieldDescriptor (TJ7 k).2.2.1 = some (tyJ7 k) := by decide +kernel
abbrev cJ7_fill_53178 : ByteArray := prog_15_method_103_code
def yJ7_fill_53178 : MethodName := ⟨RJ7, "fill", "([II)V"⟩
def RL : String := "WinnersLeaveLaw"
abbrev cL_law : ByteArray := code
def yL_law : MethodName := ⟨RL, "law", "([I)Z"⟩
abbrev vwCl : List vw_C := [(RX0, TX0, 5), (RX1, TX1, 4), (RX2, TX2, 4), (RX3, TX3, 4), (RX4, TX4, 5), (RX5, TX5, 4), (RX7, TX7, 2), (RX8, TX8, 9), (RX9, TX9, 29)]
end
section
/-! the words that stay good over calls; the nest mates' words -/
def tg_ : List Cond := lw_tbl.filter goodWord
def isN_ : Cond → Bool
  | .fieldLinkNest .. => true
  | .methodLinkNest .. => true
  | _ => false
def nw_ : List Cond := lw_tbl.filter isN_
/-! the pure heap: a list of cells; a reference is a place in it; (.float 0) stands for the law's script -/
abbrev hp_C : Type := (Nat × List Value) ⊕ ((Nat × (Nat → Int32)) ⊕ (Nat × Nat × (Nat → Option Nat)))
abbrev hp_H : Type := List hp_C
def hp_v (b : Nat × Nat) : Value → Value
  | .ref i => .ref (b.1 + i)
  | .float _ => .ref b.2
  | v => v
theorem hp_vcat (b : Nat × Nat) (v : Value) : (hp_v b v).category = v.category := by cases v <;> rfl
def hp_e (A : Nat → ClassId) (b : Nat × Nat) : hp_C → va_E
  | .inl o => .inr (o.1, o.2.map (hp_v b))
  | .inr (.inl a) => .inl (A 0, a.1, .inl a.2)
  | .inr (.inr a) => .inl (A (a.1 + 1), a.2.1, .inr (.inr (.inr (.inr (fun j => (a.2.2 j).map (fun i => b.1 + i))))))
def hp_w (A : Nat → ClassId) (b : Nat × Nat) (h : hp_H) : va_W := h.mapIdx (fun i c => (b.1 + i, hp_e A b c))
def hp_l (b : Nat × Nat) (lv : List (Nat × Value)) : List (Nat × Value) := lv.map (fun q => (q.1, hp_v b q.2))
theorem hp_w_at {A : Nat → ClassId} {b : Nat × Nat} {h : hp_H} {i : Nat} {c : hp_C} (hc : h[i]? = some c) : (hp_w A b h)[i]? = some (b.1 + i, hp_e A b c) := by
  simp [hp_w, hc]
theorem hp_w_set {A : Nat → ClassId} {b : Nat × Nat} (h : hp_H) (i : Nat) (c : hp_C) : (hp_w A b h).set i (b.1 + i, hp_e A b c) = hp_w A b (h.set i c) := by
  apply List.ext_getElem?
  intro j
  by_cases hj : i = j
  · subst hj
    by_cases hl : i < h.length
    · simp [hp_w, List.getElem?_set, hl]
    · simp [hp_w, List.getElem?_set, hl]
  · simp [hp_w, List.getElem?_set, hj]
theorem hp_w_app {A : Nat → ClassId} {b : Nat × Nat} (h : hp_H) (c : hp_C) : hp_w A b (h ++ [c]) = hp_w A b h ++ [(b.1 + h.length, hp_e A b c)] := by
  simp [hp_w, List.mapIdx_append]
theorem hp_w_inv {A : Nat → ClassId} {b : Nat × Nat} {h : hp_H} {i : Nat} {q : Nat × va_E} (hq : (hp_w A b h)[i]? = some q) : q.1 = b.1 + i := by
  simp only [hp_w, List.getElem?_mapIdx] at hq
  cases hc : h[i]? with
  | none => simp [hc] at hq
  | some c => simp [hc] at hq; rw [← hq]
theorem hp_D (A : Nat → ClassId) (b : Nat × Nat) (h : hp_H) : va_D (fun q => b.1 ≤ q) (hp_w A b h) := by
  refine ⟨fun i j p q h1 h2 e => ?_, fun k q h1 => ?_⟩
  · have a1 := hp_w_inv h1
    have a2 := hp_w_inv h2
    omega
  · have a1 := hp_w_inv h1
    show b.1 ≤ q.1
    omega
def hp_P (D : va_G) (A : Nat → ClassId) (b : Nat × Nat) (zz : Bool) (h : hp_H) (H : Heap) : Prop := (zz = true → H.size = b.1 + h.length) ∧ va_P D vwCl (hp_w A b h) H
def hp_K (D : va_G) (A : Nat → ClassId) (U : State) : Prop := va_K D vwCl [(A 0, .int), (A 1, .object RX2), (A 2, .object RX5)] U ∧ (∀ w ∈ nw_, va_Nw w U) ∧ va_AO RX2 U ∧ va_AO RX5 U
theorem hp_K.warm {D : va_G} {A : Nat → ClassId} {s U : State} (hW : s.WarmedH U.vm) (h : hp_K D A s) : hp_K D A U := by
  refine ⟨va_K.moved hW.alike h.1, fun w hw => ?_, h.2.2.1.moved hW.alike, h.2.2.2.moved hW.alike⟩
  have h0 := h.2.1 w hw
  have h1 := (List.mem_filter.mp hw).2
  cases w <;> first | (exact va_Nw.warmF hW h0) | (exact va_Nw.warmM hW h0) | (exact absurd h1 (by simp [isN_]))
theorem hp_K.same {D : va_G} {A : Nat → ClassId} {s U : State} (hv : s.vm = U.vm) (h : hp_K D A s) : hp_K D A U := by
  have hal : s.vm.Alike U.vm := by rw [hv]; exact Vm.Alike.refl _
  refine ⟨va_K.moved hal h.1, fun w hw => ?_, h.2.2.1.moved hal, h.2.2.2.moved hal⟩
  have h0 := h.2.1 w hw
  have h1 := (List.mem_filter.mp hw).2
  cases w <;> first | (exact va_Nw.same rfl hv h0) | (exact absurd h1 (by simp [isN_]))
/-! a method's fixed things: its class's name, code, locals, answer's type, whether it is a constructor -/
abbrev hp_Mi : Type := String × ByteArray × Nat × Option FieldType × Bool
def hp_M (p : Program) (s : State) (m : MethodId) (args : Array Value) (meth : Method) (c : Code) (mi : hp_Mi) : Prop :=
  p.tables.exec = Jvm.exec ∧ c.code = mi.2.1 ∧ c.maxLocals = mi.2.2.1 ∧ meth.sig.returnType = mi.2.2.2.1 ∧ s.vm.findClass mi.1 = some m.cls ∧ meth.locks = false ∧ (∀ w ∈ tg_, w.before args s = true) ∧ (mi.2.2.2.2 = true → meth.name = "<init>")
def hp_X (X : Option (Nat × (Nat → Int32))) (b : Nat × Nat) (s : State) : Prop := ∀ q, X = some q → va_X b.2 q.1 q.2 s s.heap ∧ b.2 < s.heap.size ∧ b.2 < b.1
def hp_dec (mi : hp_Mi) (pc : Nat) : Option Value → Prop
  | none => decode mi.2.1 pc = .ok (.return_, 1) ∧ mi.2.2.2.1 = none
  | some (.int x) => decode mi.2.1 pc = .ok (.ireturn, 1) ∧ ∃ ty, mi.2.2.2.1 = some ty ∧ narrow ty (.int x) = .int x
  | some (.long _) => decode mi.2.1 pc = .ok (.lreturn, 1) ∧ mi.2.2.2.1 = some .long
  | _ => False
/-- what a return leads to -/
def hp_R (p : Program) (l : Launch) (e : Env) (R : Room) (s : State) (m : MethodId) (args : Array Value) (below : List Frame) (meth : Method) (c : Code) (mi : hp_Mi) (D : va_G) (A : Nat → ClassId) (b : Nat × Nat) (zr : Bool) (Q : Option Value → hp_H → Prop) (mc ms : Nat) (Z : State → Prop) : Prop :=
  ∀ (v : Option Value) (h : hp_H) (H : Heap) (locs : List Loc) (cells slots pc : Nat) (ls : Array Slot), Q v h → hp_P D A b zr h H → va_S (fun q => b.1 ≤ q) s.heap H locs → cells ≤ mc → slots ≤ ms → hp_dec mi pc v →
    W p l e R s m args below meth c H locs cells slots Z (F0 m pc ls (v.toList.map (hp_v b)))
def hp_F (p : Program) (l : Launch) (e : Env) (R : Room) (s : State) (m : MethodId) (args : Array Value) (below : List Frame) (meth : Method) (c : Code) (mi : hp_Mi) (X : Option (Nat × (Nat → Int32))) (d : Nat) (D : va_G) (A : Nat → ClassId) (b : Nat × Nat) (zr : Bool) (Q : Option Value → hp_H → Prop) (mc ms : Nat) (Z : State → Prop) : Prop :=
  hp_M p s m args meth c mi ∧ hp_K D A s ∧ b.1 ≤ s.heap.size ∧ hp_X X b s ∧ (d ≤ R.frames ∧ 40 * d ≤ R.locals ∧ mc ≤ R.cells ∧ ms ≤ R.slots) ∧ hp_R p l e R s m args below meth c mi D A b zr Q mc ms Z
/-- THE JUDGEMENT: from this frame over this pure heap every run of the method ends with Q -/
def hp_G (l : Launch) (mi : hp_Mi) (X : Option (Nat × (Nat → Int32))) (d : Nat) (zr : Bool) (Q : Option Value → hp_H → Prop) (zz : Bool) (k n : Nat) (pc : Nat) (lv : List (Nat × Value)) (st : List Value) (h : hp_H) : Prop :=
  ∀ (p : Program) (e : Env) (R : Room) (s : State) (m : MethodId) (args : Array Value) (below : List Frame) (meth : Method) (c : Code) (Z : State → Prop) (D : va_G) (A : Nat → ClassId) (b : Nat × Nat) (H : Heap) (locs : List Loc) (ls : Array Slot) (cells slots mc ms : Nat),
    hp_F p l e R s m args below meth c mi X d D A b zr Q mc ms Z → cells + k ≤ mc → slots + n ≤ ms → hp_P D A b zz h H → va_S (fun q => b.1 ≤ q) s.heap H locs → lv_has ls mi.2.2.1 (hp_l b lv) →
    W p l e R s m args below meth c H locs cells slots Z (F0 m pc ls (st.map (hp_v b)))
theorem hp_lat {b : Nat × Nat} {lv : List (Nat × Value)} {j i : Nat} {v : Value} (h : lv[j]? = some (i, v)) : (hp_l b lv)[j]? = some (i, hp_v b v) := by
  simp [hp_l, h]
def hp_st1 (lv : List (Nat × Value)) (i : Nat) (v : Value) : List (Nat × Value) := (i, v) :: lv.filter (fun q => !(q.1 == i) && !(q.1 + 1 == i && q.2.category == 2))
def hp_st2 (lv : List (Nat × Value)) (i : Nat) (v : Value) : List (Nat × Value) := (i, v) :: lv.filter (fun q => !(q.1 == i) && (!(q.1 == i + 1) && !(q.1 + 1 == i && q.2.category == 2)))
theorem hp_lst1 {b : Nat × Nat} {lv lv' : List (Nat × Value)} {i : Nat} {v : Value} (h : hp_st1 lv i v = lv') : (i, hp_v b v) :: (hp_l b lv).filter (fun q => !(q.1 == i) && !(q.1 + 1 == i && q.2.category == 2)) = hp_l b lv' := by
  subst h
  simp only [hp_st1, hp_l, List.map_cons, List.filter_map]
  congr 2
  apply List.filter_congr
  intro q hq
  simp [Function.comp, hp_vcat]
theorem hp_lst2 {b : Nat × Nat} {lv lv' : List (Nat × Value)} {i : Nat} {v : Value} (h : hp_st2 lv i v = lv') : (i, hp_v b v) :: (hp_l b lv).filter (fun q => !(q.1 == i) && (!(q.1 == i + 1) && !(q.1 + 1 == i && q.2.category == 2))) = hp_l b lv' := by
  subst h
  simp only [hp_st2, hp_l, List.map_cons, List.filter_map]
  congr 2
  apply List.filter_congr
  intro q hq
  simp [Function.comp, hp_vcat]

section HPR
variable {l : Launch} {mi : hp_Mi} {X : Option (Nat × (Nat → Int32))} {d : Nat} {zr : Bool} {Q : Option Value → hp_H → Prop} {zz : Bool} {k n : Nat} {pc : Nat} {lv : List (Nat × Value)} {st : List Value} {h : hp_H}
theorem hp_iload_n {q : Fin 4} {i : Nat} {x : Int32} (j : Nat) (hdg : decode mi.2.1 pc = .ok (.iload_n q, 1)) (hi : (q : Nat) = i) (hk : lv[j]? = some (i, .int x)) (kk : hp_G l mi X d zr Q zz k n (pc + 1) lv (.int x :: st) h) : hp_G l mi X d zr Q zz k n pc lv st h := by
  intro p e R s m args below meth c Z D A b H locs ls cells slots mc ms F a1 a2 hP hS hl
  exact lv_iload_n F.1.1 F.1.2.1 hdg hi (lv_at hl j (hp_lat hk)) (kk p e R s m args below meth c Z D A b H locs ls cells slots mc ms F a1 a2 hP hS hl)
theorem hp_iload {i : Nat} {x : Int32} (j : Nat) (hdg : decode mi.2.1 pc = .ok (.iload i, 2)) (hk : lv[j]? = some (i, .int x)) (kk : hp_G l mi X d zr Q zz k n (pc + 2) lv (.int x :: st) h) : hp_G l mi X d zr Q zz k n pc lv st h := by
  intro p e R s m args below meth c Z D A b H locs ls cells slots mc ms F a1 a2 hP hS hl
  exact lv_iload F.1.1 F.1.2.1 hdg (lv_at hl j (hp_lat hk)) (kk p e R s m args below meth c Z D A b H locs ls cells slots mc ms F a1 a2 hP hS hl)
theorem hp_lload_n {q : Fin 4} {i : Nat} {x : Int64} (j : Nat) (hdg : decode mi.2.1 pc = .ok (.lload_n q, 1)) (hi : (q : Nat) = i) (hk : lv[j]? = some (i, .long x)) (kk : hp_G l mi X d zr Q zz k n (pc + 1) lv (.long x :: st) h) : hp_G l mi X d zr Q zz k n pc lv st h := by
  intro p e R s m args below meth c Z D A b H locs ls cells slots mc ms F a1 a2 hP hS hl
  exact lv_lload_n F.1.1 F.1.2.1 hdg hi (lv_at hl j (hp_lat hk)) (kk p e R s m args below meth c Z D A b H locs ls cells slots mc ms F a1 a2 hP hS hl)
theorem hp_lload {i : Nat} {x : Int64} (j : Nat) (hdg : decode mi.2.1 pc = .ok (.lload i, 2)) (hk : lv[j]? = some (i, .long x)) (kk : hp_G l mi X d zr Q zz k n (pc + 2) lv (.long x :: st) h) : hp_G l mi X d zr Q zz k n pc lv st h := by
  intro p e R s m args below meth c Z D A b H locs ls cells slots mc ms F a1 a2 hP hS hl
  exact lv_lload F.1.1 F.1.2.1 hdg (lv_at hl j (hp_lat hk)) (kk p e R s m args below meth c Z D A b H locs ls cells slots mc ms F a1 a2 hP hS hl)
theorem hp_aload_n {q : Fin 4} {i : Nat} {x : Nat} (j : Nat) (hdg : decode mi.2.1 pc = .ok (.aload_n q, 1)) (hi : (q : Nat) = i) (hk : lv[j]? = some (i, .ref x)) (kk : hp_G l mi X d zr Q zz k n (pc + 1) lv (.ref x :: st) h) : hp_G l mi X d zr Q zz k n pc lv st h := by
  intro p e R s m args below meth c Z D A b H locs ls cells slots mc ms F a1 a2 hP hS hl
  exact lv_aload_n F.1.1 F.1.2.1 hdg hi (lv_at hl j (hp_lat hk)) (kk p e R s m args below meth c Z D A b H locs ls cells slots mc ms F a1 a2 hP hS hl)
theorem hp_aload {i : Nat} {x : Nat} (j : Nat) (hdg : decode mi.2.1 pc = .ok (.aload i, 2)) (hk : lv[j]? = some (i, .ref x)) (kk : hp_G l mi X d zr Q zz k n (pc + 2) lv (.ref x :: st) h) : hp_G l mi X d zr Q zz k n pc lv st h := by
  intro p e R s m args below meth c Z D A b H locs ls cells slots mc ms F a1 a2 hP hS hl
  exact lv_aload F.1.1 F.1.2.1 hdg (lv_at hl j (hp_lat hk)) (kk p e R s m args below meth c Z D A b H locs ls cells slots mc ms F a1 a2 hP hS hl)
theorem hp_aload_nS {q : Fin 4} {i : Nat} {x : UInt32} (j : Nat) (hdg : decode mi.2.1 pc = .ok (.aload_n q, 1)) (hi : (q : Nat) = i) (hk : lv[j]? = some (i, .float x)) (kk : hp_G l mi X d zr Q zz k n (pc + 1) lv (.float x :: st) h) : hp_G l mi X d zr Q zz k n pc lv st h := by
  intro p e R s m args below meth c Z D A b H locs ls cells slots mc ms F a1 a2 hP hS hl
  exact lv_aload_n F.1.1 F.1.2.1 hdg hi (lv_at hl j (hp_lat hk)) (kk p e R s m args below meth c Z D A b H locs ls cells slots mc ms F a1 a2 hP hS hl)
theorem hp_iconst {z : Int} {v : Int32} (hdg : decode mi.2.1 pc = .ok (.iconst z, 1)) (hv : Int32.ofInt z = v) (kk : hp_G l mi X d zr Q zz k n (pc + 1) lv (.int v :: st) h) : hp_G l mi X d zr Q zz k n pc lv st h := by
  intro p e R s m args below meth c Z D A b H locs ls cells slots mc ms F a1 a2 hP hS hl
  exact lv_iconst F.1.1 F.1.2.1 hdg hv (kk p e R s m args below meth c Z D A b H locs ls cells slots mc ms F a1 a2 hP hS hl)
theorem hp_bipush {z : Int} {v : Int32} (hdg : decode mi.2.1 pc = .ok (.bipush z, 2)) (hv : (Int8.ofInt z).toInt32 = v) (kk : hp_G l mi X d zr Q zz k n (pc + 2) lv (.int v :: st) h) : hp_G l mi X d zr Q zz k n pc lv st h := by
  intro p e R s m args below meth c Z D A b H locs ls cells slots mc ms F a1 a2 hP hS hl
  exact lv_bipush F.1.1 F.1.2.1 hdg hv (kk p e R s m args below meth c Z D A b H locs ls cells slots mc ms F a1 a2 hP hS hl)
theorem hp_sipush {z : Int} {v : Int32} (hdg : decode mi.2.1 pc = .ok (.sipush z, 3)) (hv : (Int16.ofInt z).toInt32 = v) (kk : hp_G l mi X d zr Q zz k n (pc + 3) lv (.int v :: st) h) : hp_G l mi X d zr Q zz k n pc lv st h := by
  intro p e R s m args below meth c Z D A b H locs ls cells slots mc ms F a1 a2 hP hS hl
  exact lv_sipush F.1.1 F.1.2.1 hdg hv (kk p e R s m args below meth c Z D A b H locs ls cells slots mc ms F a1 a2 hP hS hl)
theorem hp_lconst {z : Fin 2} {v : Int64} (hdg : decode mi.2.1 pc = .ok (.lconst z, 1)) (hv : Int64.ofNat (z : Nat) = v) (kk : hp_G l mi X d zr Q zz k n (pc + 1) lv (.long v :: st) h) : hp_G l mi X d zr Q zz k n pc lv st h := by
  intro p e R s m args below meth c Z D A b H locs ls cells slots mc ms F a1 a2 hP hS hl
  exact lv_lconst F.1.1 F.1.2.1 hdg hv (kk p e R s m args below meth c Z D A b H locs ls cells slots mc ms F a1 a2 hP hS hl)
theorem hp_ldcw {i : Nat} {v : Int32} (hw : Cond.constant mi.1 i v ∈ tg_) (hdg : decode mi.2.1 pc = .ok (.ldc_w i, 3)) (kk : hp_G l mi X d zr Q zz k n (pc + 3) lv (.int v :: st) h) : hp_G l mi X d zr Q zz k n pc lv st h := by
  intro p e R s m args below meth c Z D A b H locs ls cells slots mc ms F a1 a2 hP hS hl
  exact lv_ldcw F.1.1 F.1.2.1 F.1.2.2.2.2.1 (F.1.2.2.2.2.2.2.1 _ hw) hdg (kk p e R s m args below meth c Z D A b H locs ls cells slots mc ms F a1 a2 hP hS hl)
theorem hp_ldc2 {i : Nat} {v : Int64} (hw : Cond.constantLong mi.1 i v ∈ tg_) (hdg : decode mi.2.1 pc = .ok (.ldc2_w i, 3)) (kk : hp_G l mi X d zr Q zz k n (pc + 3) lv (.long v :: st) h) : hp_G l mi X d zr Q zz k n pc lv st h := by
  intro p e R s m args below meth c Z D A b H locs ls cells slots mc ms F a1 a2 hP hS hl
  exact lv_ldc2 F.1.1 F.1.2.1 F.1.2.2.2.2.1 (F.1.2.2.2.2.2.2.1 _ hw) hdg (kk p e R s m args below meth c Z D A b H locs ls cells slots mc ms F a1 a2 hP hS hl)
theorem hp_iadd {x y : Int32} (hdg : decode mi.2.1 pc = .ok (.iadd, 1)) (kk : hp_G l mi X d zr Q zz k n (pc + 1) lv (.int (x + y) :: st) h) : hp_G l mi X d zr Q zz k n pc lv (.int y :: .int x :: st) h := by
  intro p e R s m args below meth c Z D A b H locs ls cells slots mc ms F a1 a2 hP hS hl
  exact lv_iadd F.1.1 F.1.2.1 hdg (kk p e R s m args below meth c Z D A b H locs ls cells slots mc ms F a1 a2 hP hS hl)
theorem hp_isub {x y : Int32} (hdg : decode mi.2.1 pc = .ok (.isub, 1)) (kk : hp_G l mi X d zr Q zz k n (pc + 1) lv (.int (x - y) :: st) h) : hp_G l mi X d zr Q zz k n pc lv (.int y :: .int x :: st) h := by
  intro p e R s m args below meth c Z D A b H locs ls cells slots mc ms F a1 a2 hP hS hl
  exact lv_isub F.1.1 F.1.2.1 hdg (kk p e R s m args below meth c Z D A b H locs ls cells slots mc ms F a1 a2 hP hS hl)
theorem hp_imul {x y : Int32} (hdg : decode mi.2.1 pc = .ok (.imul, 1)) (kk : hp_G l mi X d zr Q zz k n (pc + 1) lv (.int (x * y) :: st) h) : hp_G l mi X d zr Q zz k n pc lv (.int y :: .int x :: st) h := by
  intro p e R s m args below meth c Z D A b H locs ls cells slots mc ms F a1 a2 hP hS hl
  exact lv_imul F.1.1 F.1.2.1 hdg (kk p e R s m args below meth c Z D A b H locs ls cells slots mc ms F a1 a2 hP hS hl)
theorem hp_ishl {x y : Int32} (hdg : decode mi.2.1 pc = .ok (.ishl, 1)) (kk : hp_G l mi X d zr Q zz k n (pc + 1) lv (.int (x <<< (y &&& 31)) :: st) h) : hp_G l mi X d zr Q zz k n pc lv (.int y :: .int x :: st) h := by
  intro p e R s m args below meth c Z D A b H locs ls cells slots mc ms F a1 a2 hP hS hl
  exact lv_ishl F.1.1 F.1.2.1 hdg (kk p e R s m args below meth c Z D A b H locs ls cells slots mc ms F a1 a2 hP hS hl)
theorem hp_ishr {x y : Int32} (hdg : decode mi.2.1 pc = .ok (.ishr, 1)) (kk : hp_G l mi X d zr Q zz k n (pc + 1) lv (.int (x >>> (y &&& 31)) :: st) h) : hp_G l mi X d zr Q zz k n pc lv (.int y :: .int x :: st) h := by
  intro p e R s m args below meth c Z D A b H locs ls cells slots mc ms F a1 a2 hP hS hl
  exact lv_ishr F.1.1 F.1.2.1 hdg (kk p e R s m args below meth c Z D A b H locs ls cells slots mc ms F a1 a2 hP hS hl)
theorem hp_iand {x y : Int32} (hdg : decode mi.2.1 pc = .ok (.iand, 1)) (kk : hp_G l mi X d zr Q zz k n (pc + 1) lv (.int (x &&& y) :: st) h) : hp_G l mi X d zr Q zz k n pc lv (.int y :: .int x :: st) h := by
  intro p e R s m args below meth c Z D A b H locs ls cells slots mc ms F a1 a2 hP hS hl
  exact lv_iand F.1.1 F.1.2.1 hdg (kk p e R s m args below meth c Z D A b H locs ls cells slots mc ms F a1 a2 hP hS hl)
theorem hp_ior {x y : Int32} (hdg : decode mi.2.1 pc = .ok (.ior, 1)) (kk : hp_G l mi X d zr Q zz k n (pc + 1) lv (.int (x ||| y) :: st) h) : hp_G l mi X d zr Q zz k n pc lv (.int y :: .int x :: st) h := by
  intro p e R s m args below meth c Z D A b H locs ls cells slots mc ms F a1 a2 hP hS hl
  exact lv_ior F.1.1 F.1.2.1 hdg (kk p e R s m args below meth c Z D A b H locs ls cells slots mc ms F a1 a2 hP hS hl)
theorem hp_ixor {x y : Int32} (hdg : decode mi.2.1 pc = .ok (.ixor, 1)) (kk : hp_G l mi X d zr Q zz k n (pc + 1) lv (.int (x ^^^ y) :: st) h) : hp_G l mi X d zr Q zz k n pc lv (.int y :: .int x :: st) h := by
  intro p e R s m args below meth c Z D A b H locs ls cells slots mc ms F a1 a2 hP hS hl
  exact lv_ixor F.1.1 F.1.2.1 hdg (kk p e R s m args below meth c Z D A b H locs ls cells slots mc ms F a1 a2 hP hS hl)
theorem hp_iushr {x y : Int32} (hdg : decode mi.2.1 pc = .ok (.iushr, 1)) (kk : hp_G l mi X d zr Q zz k n (pc + 1) lv (.int ((x.toUInt32 >>> (y.toUInt32 &&& Int32.toUInt32 31)).toInt32) :: st) h) : hp_G l mi X d zr Q zz k n pc lv (.int y :: .int x :: st) h := by
  intro p e R s m args below meth c Z D A b H locs ls cells slots mc ms F a1 a2 hP hS hl
  exact lv_iushr F.1.1 F.1.2.1 hdg rfl (kk p e R s m args below meth c Z D A b H locs ls cells slots mc ms F a1 a2 hP hS hl)
def dv_ (x y : Int32) : Option Int32 := if y = 0 then none else some (x / y)
def rm_ (x y : Int32) : Option Int32 := if y = 0 then none else some (x - x / y * y)
def dvl_ (x y : Int64) : Option Int64 := if y = 0 then none else some (x / y)
def rml_ (x y : Int64) : Option Int64 := if y = 0 then none else some (x - x / y * y)
theorem hp_idiv {x y z : Int32} (hdg : decode mi.2.1 pc = .ok (.idiv, 1)) (hz : dv_ x y = some z) (kk : hp_G l mi X d zr Q zz k n (pc + 1) lv (.int z :: st) h) : hp_G l mi X d zr Q zz k n pc lv (.int y :: .int x :: st) h := by
  intro p e R s m args below meth c Z D A b H locs ls cells slots mc ms F a1 a2 hP hS hl
  by_cases hy : y = 0
  · rw [dv_, if_pos hy] at hz; cases hz
  · rw [dv_, if_neg hy] at hz
    have e := Option.some.inj hz
    subst e
    exact lv_idiv F.1.1 F.1.2.1 hdg hy (kk p e R s m args below meth c Z D A b H locs ls cells slots mc ms F a1 a2 hP hS hl)
theorem hp_irem {x y z : Int32} (hdg : decode mi.2.1 pc = .ok (.irem, 1)) (hz : rm_ x y = some z) (kk : hp_G l mi X d zr Q zz k n (pc + 1) lv (.int z :: st) h) : hp_G l mi X d zr Q zz k n pc lv (.int y :: .int x :: st) h := by
  intro p e R s m args below meth c Z D A b H locs ls cells slots mc ms F a1 a2 hP hS hl
  by_cases hy : y = 0
  · rw [rm_, if_pos hy] at hz; cases hz
  · rw [rm_, if_neg hy] at hz
    have e := Option.some.inj hz
    subst e
    exact lv_irem F.1.1 F.1.2.1 hdg hy (kk p e R s m args below meth c Z D A b H locs ls cells slots mc ms F a1 a2 hP hS hl)
theorem hp_ldiv {x y z : Int64} (hdg : decode mi.2.1 pc = .ok (.ldiv, 1)) (hz : dvl_ x y = some z) (kk : hp_G l mi X d zr Q zz k n (pc + 1) lv (.long z :: st) h) : hp_G l mi X d zr Q zz k n pc lv (.long y :: .long x :: st) h := by
  intro p e R s m args below meth c Z D A b H locs ls cells slots mc ms F a1 a2 hP hS hl
  by_cases hy : y = 0
  · rw [dvl_, if_pos hy] at hz; cases hz
  · rw [dvl_, if_neg hy] at hz
    have e := Option.some.inj hz
    subst e
    exact lv_ldiv F.1.1 F.1.2.1 hdg hy (kk p e R s m args below meth c Z D A b H locs ls cells slots mc ms F a1 a2 hP hS hl)
theorem hp_lrem {x y z : Int64} (hdg : decode mi.2.1 pc = .ok (.lrem, 1)) (hz : rml_ x y = some z) (kk : hp_G l mi X d zr Q zz k n (pc + 1) lv (.long z :: st) h) : hp_G l mi X d zr Q zz k n pc lv (.long y :: .long x :: st) h := by
  intro p e R s m args below meth c Z D A b H locs ls cells slots mc ms F a1 a2 hP hS hl
  by_cases hy : y = 0
  · rw [rml_, if_pos hy] at hz; cases hz
  · rw [rml_, if_neg hy] at hz
    have e := Option.some.inj hz
    subst e
    exact lv_lrem F.1.1 F.1.2.1 hdg hy (kk p e R s m args below meth c Z D A b H locs ls cells slots mc ms F a1 a2 hP hS hl)
theorem hp_i2l {x : Int32} (hdg : decode mi.2.1 pc = .ok (.i2l, 1)) (kk : hp_G l mi X d zr Q zz k n (pc + 1) lv (.long x.toInt64 :: st) h) : hp_G l mi X d zr Q zz k n pc lv (.int x :: st) h := by
  intro p e R s m args below meth c Z D A b H locs ls cells slots mc ms F a1 a2 hP hS hl
  exact lv_i2l F.1.1 F.1.2.1 hdg rfl (kk p e R s m args below meth c Z D A b H locs ls cells slots mc ms F a1 a2 hP hS hl)
theorem hp_i2b {x : Int32} (hdg : decode mi.2.1 pc = .ok (.i2b, 1)) (kk : hp_G l mi X d zr Q zz k n (pc + 1) lv (.int x.toInt8.toInt32 :: st) h) : hp_G l mi X d zr Q zz k n pc lv (.int x :: st) h := by
  intro p e R s m args below meth c Z D A b H locs ls cells slots mc ms F a1 a2 hP hS hl
  exact lv_i2b F.1.1 F.1.2.1 hdg rfl (kk p e R s m args below meth c Z D A b H locs ls cells slots mc ms F a1 a2 hP hS hl)
theorem hp_i2s {x : Int32} (hdg : decode mi.2.1 pc = .ok (.i2s, 1)) (kk : hp_G l mi X d zr Q zz k n (pc + 1) lv (.int x.toInt16.toInt32 :: st) h) : hp_G l mi X d zr Q zz k n pc lv (.int x :: st) h := by
  intro p e R s m args below meth c Z D A b H locs ls cells slots mc ms F a1 a2 hP hS hl
  exact lv_i2s F.1.1 F.1.2.1 hdg rfl (kk p e R s m args below meth c Z D A b H locs ls cells slots mc ms F a1 a2 hP hS hl)
theorem hp_lcmp {x y : Int64} (hdg : decode mi.2.1 pc = .ok (.lcmp, 1)) (kk : hp_G l mi X d zr Q zz k n (pc + 1) lv (.int (lg_cmp x y) :: st) h) : hp_G l mi X d zr Q zz k n pc lv (.long y :: .long x :: st) h := by
  intro p e R s m args below meth c Z D A b H locs ls cells slots mc ms F a1 a2 hP hS hl
  exact W.lcmp F.1.1 F.1.2.1 hdg (kk p e R s m args below meth c Z D A b H locs ls cells slots mc ms F a1 a2 hP hS hl)
theorem hp_dup {v : Value} (hdg : decode mi.2.1 pc = .ok (.dup, 1)) (hc : v.category = 1) (kk : hp_G l mi X d zr Q zz k n (pc + 1) lv (v :: v :: st) h) : hp_G l mi X d zr Q zz k n pc lv (v :: st) h := by
  intro p e R s m args below meth c Z D A b H locs ls cells slots mc ms F a1 a2 hP hS hl
  exact lv_dup F.1.1 F.1.2.1 hdg ((hp_vcat b v).trans hc) (kk p e R s m args below meth c Z D A b H locs ls cells slots mc ms F a1 a2 hP hS hl)
theorem hp_dup2 {v u : Value} (hdg : decode mi.2.1 pc = .ok (.dup2, 1)) (hc : v.category = 1) (hc2 : u.category = 1) (kk : hp_G l mi X d zr Q zz k n (pc + 1) lv (v :: u :: v :: u :: st) h) : hp_G l mi X d zr Q zz k n pc lv (v :: u :: st) h := by
  intro p e R s m args below meth c Z D A b H locs ls cells slots mc ms F a1 a2 hP hS hl
  exact lv_dup2_11 F.1.1 F.1.2.1 hdg ((hp_vcat b v).trans hc) ((hp_vcat b u).trans hc2) (kk p e R s m args below meth c Z D A b H locs ls cells slots mc ms F a1 a2 hP hS hl)
theorem hp_dup_x1 {v u : Value} (hdg : decode mi.2.1 pc = .ok (.dup_x1, 1)) (hc : v.category = 1) (hc2 : u.category = 1) (kk : hp_G l mi X d zr Q zz k n (pc + 1) lv (v :: u :: v :: st) h) : hp_G l mi X d zr Q zz k n pc lv (v :: u :: st) h := by
  intro p e R s m args below meth c Z D A b H locs ls cells slots mc ms F a1 a2 hP hS hl
  exact lv_dup_x1 F.1.1 F.1.2.1 hdg ((hp_vcat b v).trans hc) ((hp_vcat b u).trans hc2) (kk p e R s m args below meth c Z D A b H locs ls cells slots mc ms F a1 a2 hP hS hl)
theorem hp_goto {off : Int} {tgt : Nat} (hdg : decode mi.2.1 pc = .ok (.goto off, 3)) (ht : (pc : Int) + off = (tgt : Int)) (kk : hp_G l mi X d zr Q zz k n tgt lv st h) : hp_G l mi X d zr Q zz k n pc lv st h := by
  intro p e R s m args below meth c Z D A b H locs ls cells slots mc ms F a1 a2 hP hS hl
  exact lv_goto F.1.1 F.1.2.1 hdg ht (kk p e R s m args below meth c Z D A b H locs ls cells slots mc ms F a1 a2 hP hS hl)
theorem hp_icmp_eq {x y : Int32} {off : Int} {tgt : Nat} (hdg : decode mi.2.1 pc = .ok (.if_icmp .eq off, 3)) (ht : (pc : Int) + off = (tgt : Int)) (kt : x = y → hp_G l mi X d zr Q zz k n tgt lv st h) (kf : ¬ x = y → hp_G l mi X d zr Q zz k n (pc + 3) lv st h) : hp_G l mi X d zr Q zz k n pc lv (.int y :: .int x :: st) h := by
  intro p e R s m args below meth c Z D A b H locs ls cells slots mc ms F a1 a2 hP hS hl
  exact lv_icmp_eq F.1.1 F.1.2.1 hdg ht (fun z => (kt z p e R s m args below meth c Z D A b H locs ls cells slots mc ms F a1 a2 hP hS hl)) (fun z => (kf z p e R s m args below meth c Z D A b H locs ls cells slots mc ms F a1 a2 hP hS hl))
theorem hp_if_eq {x : Int32} {off : Int} {tgt : Nat} (hdg : decode mi.2.1 pc = .ok (.ifCond .eq off, 3)) (ht : (pc : Int) + off = (tgt : Int)) (kt : x = 0 → hp_G l mi X d zr Q zz k n tgt lv st h) (kf : ¬ x = 0 → hp_G l mi X d zr Q zz k n (pc + 3) lv st h) : hp_G l mi X d zr Q zz k n pc lv (.int x :: st) h := by
  intro p e R s m args below meth c Z D A b H locs ls cells slots mc ms F a1 a2 hP hS hl
  exact lv_if_eq F.1.1 F.1.2.1 hdg ht (fun z => (kt z p e R s m args below meth c Z D A b H locs ls cells slots mc ms F a1 a2 hP hS hl)) (fun z => (kf z p e R s m args below meth c Z D A b H locs ls cells slots mc ms F a1 a2 hP hS hl))
theorem hp_icmp_ne {x y : Int32} {off : Int} {tgt : Nat} (hdg : decode mi.2.1 pc = .ok (.if_icmp .ne off, 3)) (ht : (pc : Int) + off = (tgt : Int)) (kt : ¬ x = y → hp_G l mi X d zr Q zz k n tgt lv st h) (kf : x = y → hp_G l mi X d zr Q zz k n (pc + 3) lv st h) : hp_G l mi X d zr Q zz k n pc lv (.int y :: .int x :: st) h := by
  intro p e R s m args below meth c Z D A b H locs ls cells slots mc ms F a1 a2 hP hS hl
  exact lv_icmp_ne F.1.1 F.1.2.1 hdg ht (fun z => (kt z p e R s m args below meth c Z D A b H locs ls cells slots mc ms F a1 a2 hP hS hl)) (fun z => (kf z p e R s m args below meth c Z D A b H locs ls cells slots mc ms F a1 a2 hP hS hl))
theorem hp_if_ne {x : Int32} {off : Int} {tgt : Nat} (hdg : decode mi.2.1 pc = .ok (.ifCond .ne off, 3)) (ht : (pc : Int) + off = (tgt : Int)) (kt : ¬ x = 0 → hp_G l mi X d zr Q zz k n tgt lv st h) (kf : x = 0 → hp_G l mi X d zr Q zz k n (pc + 3) lv st h) : hp_G l mi X d zr Q zz k n pc lv (.int x :: st) h := by
  intro p e R s m args below meth c Z D A b H locs ls cells slots mc ms F a1 a2 hP hS hl
  exact lv_if_ne F.1.1 F.1.2.1 hdg ht (fun z => (kt z p e R s m args below meth c Z D A b H locs ls cells slots mc ms F a1 a2 hP hS hl)) (fun z => (kf z p e R s m args below meth c Z D A b H locs ls cells slots mc ms F a1 a2 hP hS hl))
theorem hp_icmp_lt {x y : Int32} {off : Int} {tgt : Nat} (hdg : decode mi.2.1 pc = .ok (.if_icmp .lt off, 3)) (ht : (pc : Int) + off = (tgt : Int)) (kt : x < y → hp_G l mi X d zr Q zz k n tgt lv st h) (kf : ¬ x < y → hp_G l mi X d zr Q zz k n (pc + 3) lv st h) : hp_G l mi X d zr Q zz k n pc lv (.int y :: .int x :: st) h := by
  intro p e R s m args below meth c Z D A b H locs ls cells slots mc ms F a1 a2 hP hS hl
  exact lv_icmp_lt F.1.1 F.1.2.1 hdg ht (fun z => (kt z p e R s m args below meth c Z D A b H locs ls cells slots mc ms F a1 a2 hP hS hl)) (fun z => (kf z p e R s m args below meth c Z D A b H locs ls cells slots mc ms F a1 a2 hP hS hl))
theorem hp_if_lt {x : Int32} {off : Int} {tgt : Nat} (hdg : decode mi.2.1 pc = .ok (.ifCond .lt off, 3)) (ht : (pc : Int) + off = (tgt : Int)) (kt : x < 0 → hp_G l mi X d zr Q zz k n tgt lv st h) (kf : ¬ x < 0 → hp_G l mi X d zr Q zz k n (pc + 3) lv st h) : hp_G l mi X d zr Q zz k n pc lv (.int x :: st) h := by
  intro p e R s m args below meth c Z D A b H locs ls cells slots mc ms F a1 a2 hP hS hl
  exact lv_if_lt F.1.1 F.1.2.1 hdg ht (fun z => (kt z p e R s m args below meth c Z D A b H locs ls cells slots mc ms F a1 a2 hP hS hl)) (fun z => (kf z p e R s m args below meth c Z D A b H locs ls cells slots mc ms F a1 a2 hP hS hl))
theorem hp_icmp_ge {x y : Int32} {off : Int} {tgt : Nat} (hdg : decode mi.2.1 pc = .ok (.if_icmp .ge off, 3)) (ht : (pc : Int) + off = (tgt : Int)) (kt : y ≤ x → hp_G l mi X d zr Q zz k n tgt lv st h) (kf : ¬ y ≤ x → hp_G l mi X d zr Q zz k n (pc + 3) lv st h) : hp_G l mi X d zr Q zz k n pc lv (.int y :: .int x :: st) h := by
  intro p e R s m args below meth c Z D A b H locs ls cells slots mc ms F a1 a2 hP hS hl
  exact lv_icmp_ge F.1.1 F.1.2.1 hdg ht (fun z => (kt z p e R s m args below meth c Z D A b H locs ls cells slots mc ms F a1 a2 hP hS hl)) (fun z => (kf z p e R s m args below meth c Z D A b H locs ls cells slots mc ms F a1 a2 hP hS hl))
theorem hp_if_ge {x : Int32} {off : Int} {tgt : Nat} (hdg : decode mi.2.1 pc = .ok (.ifCond .ge off, 3)) (ht : (pc : Int) + off = (tgt : Int)) (kt : 0 ≤ x → hp_G l mi X d zr Q zz k n tgt lv st h) (kf : ¬ 0 ≤ x → hp_G l mi X d zr Q zz k n (pc + 3) lv st h) : hp_G l mi X d zr Q zz k n pc lv (.int x :: st) h := by
  intro p e R s m args below meth c Z D A b H locs ls cells slots mc ms F a1 a2 hP hS hl
  exact lv_if_ge F.1.1 F.1.2.1 hdg ht (fun z => (kt z p e R s m args below meth c Z D A b H locs ls cells slots mc ms F a1 a2 hP hS hl)) (fun z => (kf z p e R s m args below meth c Z D A b H locs ls cells slots mc ms F a1 a2 hP hS hl))
theorem hp_icmp_gt {x y : Int32} {off : Int} {tgt : Nat} (hdg : decode mi.2.1 pc = .ok (.if_icmp .gt off, 3)) (ht : (pc : Int) + off = (tgt : Int)) (kt : y < x → hp_G l mi X d zr Q zz k n tgt lv st h) (kf : ¬ y < x → hp_G l mi X d zr Q zz k n (pc + 3) lv st h) : hp_G l mi X d zr Q zz k n pc lv (.int y :: .int x :: st) h := by
  intro p e R s m args below meth c Z D A b H locs ls cells slots mc ms F a1 a2 hP hS hl
  exact lv_icmp_gt F.1.1 F.1.2.1 hdg ht (fun z => (kt z p e R s m args below meth c Z D A b H locs ls cells slots mc ms F a1 a2 hP hS hl)) (fun z => (kf z p e R s m args below meth c Z D A b H locs ls cells slots mc ms F a1 a2 hP hS hl))
theorem hp_if_gt {x : Int32} {off : Int} {tgt : Nat} (hdg : decode mi.2.1 pc = .ok (.ifCond .gt off, 3)) (ht : (pc : Int) + off = (tgt : Int)) (kt : 0 < x → hp_G l mi X d zr Q zz k n tgt lv st h) (kf : ¬ 0 < x → hp_G l mi X d zr Q zz k n (pc + 3) lv st h) : hp_G l mi X d zr Q zz k n pc lv (.int x :: st) h := by
  intro p e R s m args below meth c Z D A b H locs ls cells slots mc ms F a1 a2 hP hS hl
  exact lv_if_gt F.1.1 F.1.2.1 hdg ht (fun z => (kt z p e R s m args below meth c Z D A b H locs ls cells slots mc ms F a1 a2 hP hS hl)) (fun z => (kf z p e R s m args below meth c Z D A b H locs ls cells slots mc ms F a1 a2 hP hS hl))
theorem hp_icmp_le {x y : Int32} {off : Int} {tgt : Nat} (hdg : decode mi.2.1 pc = .ok (.if_icmp .le off, 3)) (ht : (pc : Int) + off = (tgt : Int)) (kt : x ≤ y → hp_G l mi X d zr Q zz k n tgt lv st h) (kf : ¬ x ≤ y → hp_G l mi X d zr Q zz k n (pc + 3) lv st h) : hp_G l mi X d zr Q zz k n pc lv (.int y :: .int x :: st) h := by
  intro p e R s m args below meth c Z D A b H locs ls cells slots mc ms F a1 a2 hP hS hl
  exact lv_icmp_le F.1.1 F.1.2.1 hdg ht (fun z => (kt z p e R s m args below meth c Z D A b H locs ls cells slots mc ms F a1 a2 hP hS hl)) (fun z => (kf z p e R s m args below meth c Z D A b H locs ls cells slots mc ms F a1 a2 hP hS hl))
theorem hp_if_le {x : Int32} {off : Int} {tgt : Nat} (hdg : decode mi.2.1 pc = .ok (.ifCond .le off, 3)) (ht : (pc : Int) + off = (tgt : Int)) (kt : x ≤ 0 → hp_G l mi X d zr Q zz k n tgt lv st h) (kf : ¬ x ≤ 0 → hp_G l mi X d zr Q zz k n (pc + 3) lv st h) : hp_G l mi X d zr Q zz k n pc lv (.int x :: st) h := by
  intro p e R s m args below meth c Z D A b H locs ls cells slots mc ms F a1 a2 hP hS hl
  exact lv_if_le F.1.1 F.1.2.1 hdg ht (fun z => (kt z p e R s m args below meth c Z D A b H locs ls cells slots mc ms F a1 a2 hP hS hl)) (fun z => (kf z p e R s m args below meth c Z D A b H locs ls cells slots mc ms F a1 a2 hP hS hl))
theorem hp_istore_n {q : Fin 4} {i : Nat} {x : Int32} {lv' : List (Nat × Value)} (hdg : decode mi.2.1 pc = .ok (.istore_n q, 1)) (hi : (q : Nat) = i) (hn : i < mi.2.2.1) (hl' : hp_st1 lv i (.int x) = lv') (kk : hp_G l mi X d zr Q zz k n (pc + 1) lv' st h) : hp_G l mi X d zr Q zz k n pc lv (.int x :: st) h := by
  intro p e R s m args below meth c Z D A b H locs ls cells slots mc ms F a1 a2 hP hS hl
  exact lv_istore_n F.1.1 F.1.2.1 hdg hi hl hn (hp_lst1 (b := b) hl') (fun ls hl => (kk p e R s m args below meth c Z D A b H locs ls cells slots mc ms F a1 a2 hP hS hl))
theorem hp_istore {i : Nat} {x : Int32} {lv' : List (Nat × Value)} (hdg : decode mi.2.1 pc = .ok (.istore i, 2)) (hn : i < mi.2.2.1) (hl' : hp_st1 lv i (.int x) = lv') (kk : hp_G l mi X d zr Q zz k n (pc + 2) lv' st h) : hp_G l mi X d zr Q zz k n pc lv (.int x :: st) h := by
  intro p e R s m args below meth c Z D A b H locs ls cells slots mc ms F a1 a2 hP hS hl
  exact lv_istore F.1.1 F.1.2.1 hdg hl hn (hp_lst1 (b := b) hl') (fun ls hl => (kk p e R s m args below meth c Z D A b H locs ls cells slots mc ms F a1 a2 hP hS hl))
theorem hp_astore_n {q : Fin 4} {i : Nat} {x : Nat} {lv' : List (Nat × Value)} (hdg : decode mi.2.1 pc = .ok (.astore_n q, 1)) (hi : (q : Nat) = i) (hn : i < mi.2.2.1) (hl' : hp_st1 lv i (.ref x) = lv') (kk : hp_G l mi X d zr Q zz k n (pc + 1) lv' st h) : hp_G l mi X d zr Q zz k n pc lv (.ref x :: st) h := by
  intro p e R s m args below meth c Z D A b H locs ls cells slots mc ms F a1 a2 hP hS hl
  exact lv_astore_n F.1.1 F.1.2.1 hdg hi hl hn (hp_lst1 (b := b) hl') (fun ls hl => (kk p e R s m args below meth c Z D A b H locs ls cells slots mc ms F a1 a2 hP hS hl))
theorem hp_astore {i : Nat} {x : Nat} {lv' : List (Nat × Value)} (hdg : decode mi.2.1 pc = .ok (.astore i, 2)) (hn : i < mi.2.2.1) (hl' : hp_st1 lv i (.ref x) = lv') (kk : hp_G l mi X d zr Q zz k n (pc + 2) lv' st h) : hp_G l mi X d zr Q zz k n pc lv (.ref x :: st) h := by
  intro p e R s m args below meth c Z D A b H locs ls cells slots mc ms F a1 a2 hP hS hl
  exact lv_astore F.1.1 F.1.2.1 hdg hl hn (hp_lst1 (b := b) hl') (fun ls hl => (kk p e R s m args below meth c Z D A b H locs ls cells slots mc ms F a1 a2 hP hS hl))
theorem hp_lstore {i : Nat} {x : Int64} {lv' : List (Nat × Value)} (hdg : decode mi.2.1 pc = .ok (.lstore i, 2)) (hn : i + 1 < mi.2.2.1) (hl' : hp_st2 lv i (.long x) = lv') (kk : hp_G l mi X d zr Q zz k n (pc + 2) lv' st h) : hp_G l mi X d zr Q zz k n pc lv (.long x :: st) h := by
  intro p e R s m args below meth c Z D A b H locs ls cells slots mc ms F a1 a2 hP hS hl
  exact lv_lstore F.1.1 F.1.2.1 hdg hl hn (hp_lst2 (b := b) hl') (fun ls hl => (kk p e R s m args below meth c Z D A b H locs ls cells slots mc ms F a1 a2 hP hS hl))
theorem hp_iinc {i : Nat} {z : Int} {x v : Int32} {lv' : List (Nat × Value)} (j : Nat) (hdg : decode mi.2.1 pc = .ok (.iinc i z, 3)) (hk : lv[j]? = some (i, .int x)) (hv : x + Int32.ofInt z = v) (hn : i < mi.2.2.1) (hl' : hp_st1 lv i (.int v) = lv') (kk : hp_G l mi X d zr Q zz k n (pc + 3) lv' st h) : hp_G l mi X d zr Q zz k n pc lv st h := by
  intro p e R s m args below meth c Z D A b H locs ls cells slots mc ms F a1 a2 hP hS hl
  exact lv_iinc (v := v) F.1.1 F.1.2.1 hdg hl (k := j) (hp_lat hk) hv hn (hp_lst1 (b := b) hl') (fun ls hl => (kk p e R s m args below meth c Z D A b H locs ls cells slots mc ms F a1 a2 hP hS hl))
theorem hp_sub {lv' : List (Nat × Value)} (ks : List Nat) (hs : lv_pick lv ks = lv') (kk : hp_G l mi X d zr Q zz k n pc lv' st h) : hp_G l mi X d zr Q zz k n pc lv st h := by
  intro p e R s m args below meth c Z D A b H locs ls cells slots mc ms F a1 a2 hP hS hl
  refine kk p e R s m args below meth c Z D A b H locs ls cells slots mc ms F a1 a2 hP hS (lv_sub hl ks ?_)
  subst hs
  simp only [lv_pick, hp_l, List.map_filterMap, List.getElem?_map]
theorem hp_nz (kk : hp_G l mi X d zr Q false k n pc lv st h) : hp_G l mi X d zr Q zz k n pc lv st h := by
  intro p e R s m args below meth c Z D A b H locs ls cells slots mc ms F a1 a2 hP hS hl
  exact kk p e R s m args below meth c Z D A b H locs ls cells slots mc ms F a1 a2 ⟨fun h => (by cases h), hP.2⟩ hS hl
theorem hp_ret {v : Option Value} (hq : Q v h) (hz : zr = true → zz = true) (hdc : hp_dec mi pc v) : hp_G l mi X d zr Q zz k n pc lv v.toList h := by
  intro p e R s m args below meth c Z D A b H locs ls cells slots mc ms F a1 a2 hP hS hl
  exact F.2.2.2.2.2 v h H locs cells slots pc ls hq ⟨fun z => hP.1 (hz z), hP.2⟩ hS (by omega) (by omega) hdc
theorem hp_iret {x : Int32} (hq : Q (some (.int x)) h) (hz : zr = true → zz = true) (hr : mi.2.2.2.1 = some .int) (hdg : decode mi.2.1 pc = .ok (.ireturn, 1)) : hp_G l mi X d zr Q zz k n pc lv [.int x] h := hp_ret (v := some (.int x)) hq hz ⟨hdg, .int, hr, rfl⟩
theorem hp_zret {x : Int32} (hq : Q (some (.int x)) h) (hz : zr = true → zz = true) (hr : mi.2.2.2.1 = some .boolean) (hb : x = 0 ∨ x = 1) (hdg : decode mi.2.1 pc = .ok (.ireturn, 1)) : hp_G l mi X d zr Q zz k n pc lv [.int x] h := hp_ret (v := some (.int x)) hq hz ⟨hdg, .boolean, hr, by rcases hb with rfl | rfl <;> decide⟩
theorem hp_lret {x : Int64} (hq : Q (some (.long x)) h) (hz : zr = true → zz = true) (hr : mi.2.2.2.1 = some .long) (hdg : decode mi.2.1 pc = .ok (.lreturn, 1)) : hp_G l mi X d zr Q zz k n pc lv [.long x] h := hp_ret (v := some (.long x)) hq hz ⟨hdg, hr⟩
theorem hp_vret (hq : Q none h) (hz : zr = true → zz = true) (hr : mi.2.2.2.1 = none) (hdg : decode mi.2.1 pc = .ok (.return_, 1)) : hp_G l mi X d zr Q zz k n pc lv [] h := hp_ret (v := none) hq hz ⟨hdg, hr⟩
end HPR
end
section
def hg_o (h : hp_H) (i ci : Nat) : Option (List Value) := match h[i]? with
  | some (.inl o) => if o.1 = ci then some o.2 else none
  | _ => none
def gi_ (h : hp_H) (i ci k : Nat) : Option Int32 := match hg_o h i ci with
  | some fs => (match fs[k]? with
    | some (.int x) => some x
    | _ => none)
  | none => none
def gq_ (h : hp_H) (i ci k : Nat) : Option Nat := match hg_o h i ci with
  | some fs => (match fs[k]? with
    | some (.ref x) => some x
    | _ => none)
  | none => none
def pv_ (h : hp_H) (i ci k : Nat) (v : Value) : Option hp_H := match hg_o h i ci with
  | some fs => if k < fs.length then some (h.set i (.inl (ci, fs.set k v))) else none
  | none => none
def pi_ (h : hp_H) (i ci k : Nat) (x : Int32) : Option hp_H := pv_ h i ci k (.int x)
def bz_ (x : Int32) : Option Int32 := if x = 0 ∨ x = 1 then some x else none
def pz_ (h : hp_H) (i ci k : Nat) (x : Int32) : Option hp_H := if x = 0 ∨ x = 1 then pv_ h i ci k (.int x) else none
def pq_ (h : hp_H) (i ci k : Nat) (x : Nat) : Option hp_H := pv_ h i ci k (.ref x)
def al_ (h : hp_H) (i : Nat) (j : Int32) : Option Int32 := match h[i]? with
  | some (.inr (.inl a)) => if j < 0 ∨ a.1 ≤ j.toNatClampNeg then none else some (a.2 j.toNatClampNeg)
  | _ => none
def ax_ (h : hp_H) (i : Nat) (j x : Int32) : Option hp_H := match h[i]? with
  | some (.inr (.inl a)) => if j < 0 ∨ a.1 ≤ j.toNatClampNeg then none else some (h.set i (.inr (.inl (a.1, upd a.2 j.toNatClampNeg x))))
  | _ => none
def ln_ (h : hp_H) (i : Nat) : Option Int32 := match h[i]? with
  | some (.inr (.inl a)) => some (Int32.ofNat a.1)
  | _ => none
def ql_ (h : hp_H) (i : Nat) (j : Int32) : Option Nat := match h[i]? with
  | some (.inr (.inr a)) => if a.1 < 2 then (if j < 0 ∨ a.2.1 ≤ j.toNatClampNeg then none else a.2.2 j.toNatClampNeg) else none
  | _ => none
def qx_ (h : hp_H) (t ci i : Nat) (j : Int32) (v : Nat) : Option hp_H := match h[i]? with
  | some (.inr (.inr a)) => if a.1 = t ∧ ¬ (j < 0 ∨ a.2.1 ≤ j.toNatClampNeg) then (match hg_o h v ci with
    | some _ => some (h.set i (.inr (.inr (a.1, a.2.1, va_up a.2.2 j.toNatClampNeg (some v)))))
    | none => none) else none
  | _ => none
/-- System.arraycopy over rows of ints -/
def cp_ (h : hp_H) (i : Nat) (sp : Int32) (o : Nat) (dp m : Int32) : Option hp_H := match h[i]?, h[o]? with
  | some (.inr (.inl a)), some (.inr (.inl c)) => if ¬ sp < 0 ∧ ¬ dp < 0 ∧ ¬ m < 0 ∧ sp.toNatClampNeg + m.toNatClampNeg ≤ a.1 ∧ dp.toNatClampNeg + m.toNatClampNeg ≤ c.1 then some (h.set o (.inr (.inl (c.1, va_cpy a.2 c.2 sp.toNatClampNeg dp.toNatClampNeg m.toNatClampNeg)))) else none
  | _, _ => none
theorem hg_o_inv {h : hp_H} {i ci : Nat} {fs : List Value} (e : hg_o h i ci = some fs) : h[i]? = some (.inl (ci, fs)) := by
  unfold hg_o at e
  split at e
  · rename_i o ho
    split at e
    · rename_i hc
      cases e
      rw [ho, ← hc]
    · cases e
  · cases e
theorem gi_inv {h : hp_H} {i ci k : Nat} {x : Int32} (e : gi_ h i ci k = some x) : ∃ fs, h[i]? = some (.inl (ci, fs)) ∧ fs[k]? = some (.int x) := by
  unfold gi_ at e
  split at e
  · rename_i fs ho
    refine ⟨fs, hg_o_inv ho, ?_⟩
    split at e
    · rename_i y hy
      cases e
      exact hy
    · cases e
  · cases e
theorem gq_inv {h : hp_H} {i ci k : Nat} {x : Nat} (e : gq_ h i ci k = some x) : ∃ fs, h[i]? = some (.inl (ci, fs)) ∧ fs[k]? = some (.ref x) := by
  unfold gq_ at e
  split at e
  · rename_i fs ho
    refine ⟨fs, hg_o_inv ho, ?_⟩
    split at e
    · rename_i y hy
      cases e
      exact hy
    · cases e
  · cases e
theorem pv_inv {h h' : hp_H} {i ci k : Nat} {v : Value} (e : pv_ h i ci k v = some h') : ∃ fs, h[i]? = some (.inl (ci, fs)) ∧ k < fs.length ∧ h' = h.set i (.inl (ci, fs.set k v)) := by
  unfold pv_ at e
  split at e
  · rename_i fs ho
    split at e
    · rename_i hk
      cases e
      exact ⟨fs, hg_o_inv ho, hk, rfl⟩
    · cases e
  · cases e
theorem pz_inv {h h' : hp_H} {i ci k : Nat} {x : Int32} (e : pz_ h i ci k x = some h') : (x = 0 ∨ x = 1) ∧ pv_ h i ci k (.int x) = some h' := by
  unfold pz_ at e
  split at e
  · rename_i hx
    exact ⟨hx, e⟩
  · cases e
theorem bz_inv {x y : Int32} (e : bz_ x = some y) : x = y ∧ (x = 0 ∨ x = 1) := by
  unfold bz_ at e
  split at e
  · rename_i hx
    cases e
    exact ⟨rfl, hx⟩
  · cases e
theorem al_inv {h : hp_H} {i : Nat} {j x : Int32} (e : al_ h i j = some x) : ∃ m f, h[i]? = some (.inr (.inl (m, f))) ∧ vp_in j m ∧ x = f j.toNatClampNeg := by
  unfold al_ at e
  split at e
  · rename_i a ha
    split at e
    · cases e
    · rename_i hj
      cases e
      exact ⟨a.1, a.2, ha, hj, rfl⟩
  · cases e
theorem ax_inv {h h' : hp_H} {i : Nat} {j x : Int32} (e : ax_ h i j x = some h') : ∃ m f, h[i]? = some (.inr (.inl (m, f))) ∧ vp_in j m ∧ h' = h.set i (.inr (.inl (m, upd f j.toNatClampNeg x))) := by
  unfold ax_ at e
  split at e
  · rename_i a ha
    split at e
    · cases e
    · rename_i hj
      cases e
      exact ⟨a.1, a.2, ha, hj, rfl⟩
  · cases e
theorem ln_inv {h : hp_H} {i : Nat} {x : Int32} (e : ln_ h i = some x) : ∃ m f, h[i]? = some (.inr (.inl (m, f))) ∧ Int32.ofNat m = x := by
  unfold ln_ at e
  split at e
  · rename_i a ha
    cases e
    exact ⟨a.1, a.2, ha, rfl⟩
  · cases e
theorem ql_inv {h : hp_H} {i : Nat} {j : Int32} {x : Nat} (e : ql_ h i j = some x) : ∃ t m f, h[i]? = some (.inr (.inr (t, m, f))) ∧ t < 2 ∧ vp_in j m ∧ f j.toNatClampNeg = some x := by
  unfold ql_ at e
  split at e
  · rename_i a ha
    split at e
    · rename_i ht
      split at e
      · cases e
      · rename_i hj
        exact ⟨a.1, a.2.1, a.2.2, ha, ht, hj, e⟩
    · cases e
  · cases e
theorem qx_inv {h h' : hp_H} {t ci i : Nat} {j : Int32} {v : Nat} (e : qx_ h t ci i j v = some h') : ∃ m f vs, h[i]? = some (.inr (.inr (t, m, f))) ∧ vp_in j m ∧ h[v]? = some (.inl (ci, vs)) ∧ h' = h.set i (.inr (.inr (t, m, va_up f j.toNatClampNeg (some v)))) := by
  unfold qx_ at e
  split at e
  · rename_i a ha
    split at e
    · rename_i ht
      split at e
      · rename_i vs hv
        cases e
        obtain ⟨h1, h2⟩ := ht
        subst h1
        exact ⟨a.2.1, a.2.2, vs, ha, h2, hg_o_inv hv, rfl⟩
      · cases e
    · cases e
  · cases e
theorem cp_inv {h h' : hp_H} {i o : Nat} {sp dp m : Int32} (e : cp_ h i sp o dp m = some h') : ∃ n0 f n1 g, h[i]? = some (.inr (.inl (n0, f))) ∧ h[o]? = some (.inr (.inl (n1, g))) ∧ ¬ sp < 0 ∧ ¬ dp < 0 ∧ ¬ m < 0 ∧ sp.toNatClampNeg + m.toNatClampNeg ≤ n0 ∧ dp.toNatClampNeg + m.toNatClampNeg ≤ n1 ∧ h' = h.set o (.inr (.inl (n1, va_cpy f g sp.toNatClampNeg dp.toNatClampNeg m.toNatClampNeg))) := by
  unfold cp_ at e
  split at e
  · rename_i a c ha hc
    split at e
    · rename_i hq
      cases e
      exact ⟨a.1, a.2, c.1, c.2, ha, hc, hq.1, hq.2.1, hq.2.2.1, hq.2.2.2.1, hq.2.2.2.2, rfl⟩
    · cases e
  · cases e
theorem ob_ {α β : Type} {o : Option α} {f : α → Option β} {r : β} (e : o.bind f = some r) : ∃ x, o = some x ∧ f x = some r := Option.bind_eq_some_iff.mp e
theorem ot_ {α : Type} {c : Prop} {i : Decidable c} {x y : Option α} {r : α} (hc : c) (e : (if c then x else y) = some r) : x = some r := by rw [if_pos hc] at e; exact e
theorem of_ {α : Type} {c : Prop} {i : Decidable c} {x y : Option α} {r : α} (hc : ¬ c) (e : (if c then x else y) = some r) : y = some r := by rw [if_neg hc] at e; exact e
theorem hp_fset {b : Nat × Nat} (fs : List Value) (k : Nat) (v : Value) : (fs.map (hp_v b)).set k (hp_v b v) = (fs.set k v).map (hp_v b) := by
  rw [List.map_set]
theorem hp_good {ws : List Cond} (h : ∀ w ∈ ws, w ∈ tg_) : GoodIn tg_ ws := fun w hw => ⟨h w hw, good_of_word (List.mem_filter.mp (h w hw)).2⟩
theorem hp_wcat (b : Nat × Nat) (st : List Value) : ((st.map (hp_v b)).map fun v => v.category).sum = (st.map fun v => v.category).sum := by
  rw [List.map_map]
  congr 1
  apply List.map_congr_left
  intro v _
  exact hp_vcat b v

section HPH
variable {l : Launch} {mi : hp_Mi} {X : Option (Nat × (Nat → Int32))} {d : Nat} {zr : Bool} {Q : Option Value → hp_H → Prop} {zz : Bool} {k n : Nat} {pc : Nat} {lv : List (Nat × Value)} {st : List Value} {h : hp_H}
theorem hp_geti {C : String} {T : u_T} {N ci idx : Nat} (hin : ∀ w ∈ u_ws C T N, w ∈ tg_) (hc : vwCl[ci]? = some (C, T, N)) (kf : Nat) (hkf : kf < N) (hw : Cond.fieldLink mi.1 idx (T kf).1 (T kf).2.1 (T kf).2.2.1 ∈ tg_) {i : Nat} {x : Int32} (hdg : decode mi.2.1 pc = .ok (.getfield idx, 3)) (hx : gi_ h i ci kf = some x) (kk : hp_G l mi X d zr Q zz k n (pc + 3) lv (.int x :: st) h) : hp_G l mi X d zr Q zz k n pc lv (.ref i :: st) h := by
  intro p e R s m args below meth c Z D A b H locs ls cells slots mc ms F a1 a2 hP hS hl
  obtain ⟨fs, h1, h2⟩ := gi_inv hx
  exact va_get (D := D) (ci := ci) (v := hp_v b (.int x)) (C := C) (T := T) (N := N) F.1.1 F.1.2.1 F.1.2.2.2.2.2.2.1 hin F.1.2.2.2.2.1 F.2.1.1 hP.2 i (hp_w_at h1) hc kf hkf (F.1.2.2.2.2.2.2.1 _ hw) (fun _ h9 => h9) (by simp [h2]) hdg (kk p e R s m args below meth c Z D A b H locs ls cells slots mc ms F a1 a2 hP hS hl)
theorem hp_getiN {C : String} {T : u_T} {N ci idx : Nat} (hin : ∀ w ∈ u_ws C T N, w ∈ tg_) (hc : vwCl[ci]? = some (C, T, N)) (kf : Nat) (hkf : kf < N) {host : String} (hw : Cond.fieldLinkNest mi.1 idx (T kf).1 (T kf).2.1 (T kf).2.2.1 host ∈ nw_) {i : Nat} {x : Int32} (hdg : decode mi.2.1 pc = .ok (.getfield idx, 3)) (hx : gi_ h i ci kf = some x) (kk : hp_G l mi X d zr Q zz k n (pc + 3) lv (.int x :: st) h) : hp_G l mi X d zr Q zz k n pc lv (.ref i :: st) h := by
  intro p e R s m args below meth c Z D A b H locs ls cells slots mc ms F a1 a2 hP hS hl
  obtain ⟨fs, h1, h2⟩ := gi_inv hx
  exact va_getN (D := D) (ci := ci) (v := hp_v b (.int x)) (C := C) (T := T) (N := N) F.1.1 F.1.2.1 F.1.2.2.2.2.2.2.1 hin F.1.2.2.2.2.1 F.2.1.1 hP.2 i (hp_w_at h1) hc kf hkf (va_Nw.use rfl (F.2.1.2.1 _ hw)) (fun _ h9 => h9) (by simp [h2]) hdg (kk p e R s m args below meth c Z D A b H locs ls cells slots mc ms F a1 a2 hP hS hl)
theorem hp_getq {C : String} {T : u_T} {N ci idx : Nat} (hin : ∀ w ∈ u_ws C T N, w ∈ tg_) (hc : vwCl[ci]? = some (C, T, N)) (kf : Nat) (hkf : kf < N) (hw : Cond.fieldLink mi.1 idx (T kf).1 (T kf).2.1 (T kf).2.2.1 ∈ tg_) {i : Nat} {x : Nat} (hdg : decode mi.2.1 pc = .ok (.getfield idx, 3)) (hx : gq_ h i ci kf = some x) (kk : hp_G l mi X d zr Q zz k n (pc + 3) lv (.ref x :: st) h) : hp_G l mi X d zr Q zz k n pc lv (.ref i :: st) h := by
  intro p e R s m args below meth c Z D A b H locs ls cells slots mc ms F a1 a2 hP hS hl
  obtain ⟨fs, h1, h2⟩ := gq_inv hx
  exact va_get (D := D) (ci := ci) (v := hp_v b (.ref x)) (C := C) (T := T) (N := N) F.1.1 F.1.2.1 F.1.2.2.2.2.2.2.1 hin F.1.2.2.2.2.1 F.2.1.1 hP.2 i (hp_w_at h1) hc kf hkf (F.1.2.2.2.2.2.2.1 _ hw) (fun _ h9 => h9) (by simp [h2]) hdg (kk p e R s m args below meth c Z D A b H locs ls cells slots mc ms F a1 a2 hP hS hl)
theorem hp_getqN {C : String} {T : u_T} {N ci idx : Nat} (hin : ∀ w ∈ u_ws C T N, w ∈ tg_) (hc : vwCl[ci]? = some (C, T, N)) (kf : Nat) (hkf : kf < N) {host : String} (hw : Cond.fieldLinkNest mi.1 idx (T kf).1 (T kf).2.1 (T kf).2.2.1 host ∈ nw_) {i : Nat} {x : Nat} (hdg : decode mi.2.1 pc = .ok (.getfield idx, 3)) (hx : gq_ h i ci kf = some x) (kk : hp_G l mi X d zr Q zz k n (pc + 3) lv (.ref x :: st) h) : hp_G l mi X d zr Q zz k n pc lv (.ref i :: st) h := by
  intro p e R s m args below meth c Z D A b H locs ls cells slots mc ms F a1 a2 hP hS hl
  obtain ⟨fs, h1, h2⟩ := gq_inv hx
  exact va_getN (D := D) (ci := ci) (v := hp_v b (.ref x)) (C := C) (T := T) (N := N) F.1.1 F.1.2.1 F.1.2.2.2.2.2.2.1 hin F.1.2.2.2.2.1 F.2.1.1 hP.2 i (hp_w_at h1) hc kf hkf (va_Nw.use rfl (F.2.1.2.1 _ hw)) (fun _ h9 => h9) (by simp [h2]) hdg (kk p e R s m args below meth c Z D A b H locs ls cells slots mc ms F a1 a2 hP hS hl)
theorem hp_putV {C : String} {T : u_T} {N ci idx : Nat} (hin : ∀ w ∈ u_ws C T N, w ∈ tg_) (hc : vwCl[ci]? = some (C, T, N)) (kf : Nat) (hkf : kf < N) (ty0 : Nat → FieldType) (hty : ∀ k, k < N → parseFieldDescriptor (T k).2.2.1 = some (ty0 k)) (hnm : ∀ a, a < N → ∀ b, b < N → a ≠ b → (T a).2.1 ≠ (T b).2.1) (hw : Cond.fieldLink mi.1 idx (T kf).1 (T kf).2.1 (T kf).2.2.1 ∈ tg_) (hfin : (T kf).2.2.2 = false) {ty : FieldType} {i : Nat} {v : Value} {h' : hp_H} (hd : parseFieldDescriptor (T kf).2.2.1 = some ty) (hn : ∀ b, narrow ty (hp_v b v) = hp_v b v) (hfit : ∀ b, fits ty (hp_v b v) = true) (hdg : decode mi.2.1 pc = .ok (.putfield idx, 3)) (hx : pv_ h i ci kf v = some h') (kk : hp_G l mi X d zr Q false k n (pc + 3) lv st h') : hp_G l mi X d zr Q false k n pc lv (v :: .ref i :: st) h := by
  intro p e R s m args below meth c Z D A b H locs ls cells slots mc ms F a1 a2 hP hS hl
  obtain ⟨fs, h1, h2, h3⟩ := pv_inv hx
  subst h3
  exact va_put (D := D) (ci := ci) (v := hp_v b v) (ty := ty) (C := C) (T := T) (N := N) F.1.1 F.1.2.1 F.1.2.2.2.2.2.2.1 hin ty0 hty hnm F.1.2.2.2.2.1 F.2.1.1 hP.2 (hp_D A b h) hS i (hp_w_at h1) hc kf hkf (F.1.2.2.2.2.2.2.1 _ hw) (fun _ h9 => h9) hfin hd (hn b) (hfit b) (by rw [List.length_map]; exact h2) hdg (fun H1 locs1 hP1 _ hS1 => kk p e R s m args below meth c Z D A b H1 locs1 ls cells slots mc ms F a1 a2 ⟨fun z => (by cases z), by
    have e9 := hP1
    rw [hp_fset] at e9
    have e8 : (hp_w A b h).set i (b.1 + i, hp_e A b (.inl (ci, fs.set kf v))) = hp_w A b (h.set i (.inl (ci, fs.set kf v))) := hp_w_set h i _
    rw [← e8]
    exact e9⟩ hS1 hl)
theorem hp_puti {C : String} {T : u_T} {N ci idx : Nat} (hin : ∀ w ∈ u_ws C T N, w ∈ tg_) (hc : vwCl[ci]? = some (C, T, N)) (kf : Nat) (hkf : kf < N) (ty0 : Nat → FieldType) (hty : ∀ k, k < N → parseFieldDescriptor (T k).2.2.1 = some (ty0 k)) (hnm : ∀ a, a < N → ∀ b, b < N → a ≠ b → (T a).2.1 ≠ (T b).2.1) (hw : Cond.fieldLink mi.1 idx (T kf).1 (T kf).2.1 (T kf).2.2.1 ∈ tg_) (hfin : (T kf).2.2.2 = false) {i : Nat} {x : Int32} {h' : hp_H} (hd : parseFieldDescriptor (T kf).2.2.1 = some .int) (hdg : decode mi.2.1 pc = .ok (.putfield idx, 3)) (hx : pi_ h i ci kf x = some h') (kk : hp_G l mi X d zr Q false k n (pc + 3) lv st h') : hp_G l mi X d zr Q false k n pc lv (.int x :: .ref i :: st) h :=
  hp_putV hin hc kf hkf ty0 hty hnm hw hfin hd (fun _ => rfl) (fun _ => rfl) hdg hx kk
theorem hp_putz {C : String} {T : u_T} {N ci idx : Nat} (hin : ∀ w ∈ u_ws C T N, w ∈ tg_) (hc : vwCl[ci]? = some (C, T, N)) (kf : Nat) (hkf : kf < N) (ty0 : Nat → FieldType) (hty : ∀ k, k < N → parseFieldDescriptor (T k).2.2.1 = some (ty0 k)) (hnm : ∀ a, a < N → ∀ b, b < N → a ≠ b → (T a).2.1 ≠ (T b).2.1) (hw : Cond.fieldLink mi.1 idx (T kf).1 (T kf).2.1 (T kf).2.2.1 ∈ tg_) (hfin : (T kf).2.2.2 = false) {i : Nat} {x : Int32} {h' : hp_H} (hd : parseFieldDescriptor (T kf).2.2.1 = some .boolean) (hdg : decode mi.2.1 pc = .ok (.putfield idx, 3)) (hx : pz_ h i ci kf x = some h') (kk : hp_G l mi X d zr Q false k n (pc + 3) lv st h') : hp_G l mi X d zr Q false k n pc lv (.int x :: .ref i :: st) h := by
  obtain ⟨h1, h2⟩ := pz_inv hx
  refine hp_putV hin hc kf hkf ty0 hty hnm hw hfin hd (fun _ => ?_) (fun _ => ?_) hdg h2 kk
  · rcases h1 with rfl | rfl <;> rfl
  · rcases h1 with rfl | rfl <;> rfl
theorem hp_putVN {C : String} {T : u_T} {N ci idx : Nat} (hin : ∀ w ∈ u_ws C T N, w ∈ tg_) (hc : vwCl[ci]? = some (C, T, N)) (kf : Nat) (hkf : kf < N) (ty0 : Nat → FieldType) (hty : ∀ k, k < N → parseFieldDescriptor (T k).2.2.1 = some (ty0 k)) (hnm : ∀ a, a < N → ∀ b, b < N → a ≠ b → (T a).2.1 ≠ (T b).2.1) {host : String} (hw : Cond.fieldLinkNest mi.1 idx (T kf).1 (T kf).2.1 (T kf).2.2.1 host ∈ nw_) (hfin : (T kf).2.2.2 = false) {ty : FieldType} {i : Nat} {v : Value} {h' : hp_H} (hd : parseFieldDescriptor (T kf).2.2.1 = some ty) (hn : ∀ b, narrow ty (hp_v b v) = hp_v b v) (hfit : ∀ b, fits ty (hp_v b v) = true) (hdg : decode mi.2.1 pc = .ok (.putfield idx, 3)) (hx : pv_ h i ci kf v = some h') (kk : hp_G l mi X d zr Q false k n (pc + 3) lv st h') : hp_G l mi X d zr Q false k n pc lv (v :: .ref i :: st) h := by
  intro p e R s m args below meth c Z D A b H locs ls cells slots mc ms F a1 a2 hP hS hl
  obtain ⟨fs, h1, h2, h3⟩ := pv_inv hx
  subst h3
  exact va_putN (D := D) (ci := ci) (v := hp_v b v) (ty := ty) (C := C) (T := T) (N := N) F.1.1 F.1.2.1 F.1.2.2.2.2.2.2.1 hin ty0 hty hnm F.1.2.2.2.2.1 F.2.1.1 hP.2 (hp_D A b h) hS i (hp_w_at h1) hc kf hkf (va_Nw.use rfl (F.2.1.2.1 _ hw)) (fun _ h9 => h9) hfin hd (hn b) (hfit b) (by rw [List.length_map]; exact h2) hdg (fun H1 locs1 hP1 _ hS1 => kk p e R s m args below meth c Z D A b H1 locs1 ls cells slots mc ms F a1 a2 ⟨fun z => (by cases z), by
    have e9 := hP1
    rw [hp_fset] at e9
    have e8 : (hp_w A b h).set i (b.1 + i, hp_e A b (.inl (ci, fs.set kf v))) = hp_w A b (h.set i (.inl (ci, fs.set kf v))) := hp_w_set h i _
    rw [← e8]
    exact e9⟩ hS1 hl)
theorem hp_putiN {C : String} {T : u_T} {N ci idx : Nat} (hin : ∀ w ∈ u_ws C T N, w ∈ tg_) (hc : vwCl[ci]? = some (C, T, N)) (kf : Nat) (hkf : kf < N) (ty0 : Nat → FieldType) (hty : ∀ k, k < N → parseFieldDescriptor (T k).2.2.1 = some (ty0 k)) (hnm : ∀ a, a < N → ∀ b, b < N → a ≠ b → (T a).2.1 ≠ (T b).2.1) {host : String} (hw : Cond.fieldLinkNest mi.1 idx (T kf).1 (T kf).2.1 (T kf).2.2.1 host ∈ nw_) (hfin : (T kf).2.2.2 = false) {i : Nat} {x : Int32} {h' : hp_H} (hd : parseFieldDescriptor (T kf).2.2.1 = some .int) (hdg : decode mi.2.1 pc = .ok (.putfield idx, 3)) (hx : pi_ h i ci kf x = some h') (kk : hp_G l mi X d zr Q false k n (pc + 3) lv st h') : hp_G l mi X d zr Q false k n pc lv (.int x :: .ref i :: st) h :=
  hp_putVN hin hc kf hkf ty0 hty hnm hw hfin hd (fun _ => rfl) (fun _ => rfl) hdg hx kk
theorem hp_putzN {C : String} {T : u_T} {N ci idx : Nat} (hin : ∀ w ∈ u_ws C T N, w ∈ tg_) (hc : vwCl[ci]? = some (C, T, N)) (kf : Nat) (hkf : kf < N) (ty0 : Nat → FieldType) (hty : ∀ k, k < N → parseFieldDescriptor (T k).2.2.1 = some (ty0 k)) (hnm : ∀ a, a < N → ∀ b, b < N → a ≠ b → (T a).2.1 ≠ (T b).2.1) {host : String} (hw : Cond.fieldLinkNest mi.1 idx (T kf).1 (T kf).2.1 (T kf).2.2.1 host ∈ nw_) (hfin : (T kf).2.2.2 = false) {i : Nat} {x : Int32} {h' : hp_H} (hd : parseFieldDescriptor (T kf).2.2.1 = some .boolean) (hdg : decode mi.2.1 pc = .ok (.putfield idx, 3)) (hx : pz_ h i ci kf x = some h') (kk : hp_G l mi X d zr Q false k n (pc + 3) lv st h') : hp_G l mi X d zr Q false k n pc lv (.int x :: .ref i :: st) h := by
  obtain ⟨h1, h2⟩ := pz_inv hx
  refine hp_putVN hin hc kf hkf ty0 hty hnm hw hfin hd (fun _ => ?_) (fun _ => ?_) hdg h2 kk
  · rcases h1 with rfl | rfl <;> rfl
  · rcases h1 with rfl | rfl <;> rfl
theorem hp_putq {C : String} {T : u_T} {N ci idx : Nat} (hin : ∀ w ∈ u_ws C T N, w ∈ tg_) (hc : vwCl[ci]? = some (C, T, N)) (kf : Nat) (hkf : kf < N) (ty0 : Nat → FieldType) (hty : ∀ k, k < N → parseFieldDescriptor (T k).2.2.1 = some (ty0 k)) (hnm : ∀ a, a < N → ∀ b, b < N → a ≠ b → (T a).2.1 ≠ (T b).2.1) (hw : Cond.fieldLink mi.1 idx (T kf).1 (T kf).2.1 (T kf).2.2.1 ∈ tg_) (hfin : (T kf).2.2.2 = true) (hdecl : (T kf).1 = mi.1) (hini : mi.2.2.2.2 = true) {ty : FieldType} {i x : Nat} {h' : hp_H} (hd : parseFieldDescriptor (T kf).2.2.1 = some ty) (hn : ∀ a, narrow ty (.ref a) = .ref a) (hfit : ∀ a, fits ty (.ref a) = true) (hdg : decode mi.2.1 pc = .ok (.putfield idx, 3)) (hx : pq_ h i ci kf x = some h') (kk : hp_G l mi X d zr Q zz k n (pc + 3) lv st h') : hp_G l mi X d zr Q zz k n pc lv (.ref x :: .ref i :: st) h := by
  intro p e R s m args below meth c Z D A b H locs ls cells slots mc ms F a1 a2 hP hS hl
  obtain ⟨fs, h1, h2, h3⟩ := pv_inv hx
  subst h3
  have hts := F.1.2.2.2.2.2.2.1
  have hown := F.1.2.2.2.2.1
  have hK := F.2.1.1
  have hap := va_apart (own := mi.1) hts hin ty0 hty hnm hK hc
  obtain ⟨r, g1, cell, q1, q2, q3, q4⟩ := hP.2 i _ (hp_w_at h1)
  have hr : r = (C, T, N) := Option.some.inj (g1.symm.trans hc)
  subst hr
  obtain ⟨hSl, hfc, kC, hkC, hkind⟩ := hK.1 ci _ hc
  obtain ⟨cf, kq, fi, f, hi, hsl⟩ := hSl kf hkf
  have hlay := hts _ (hin _ (u_in_lay hkf))
  unfold u_lay at hlay
  rw [if_pos hfin] at hlay
  have hst := (u_facts hfc hkC (u_lays hts hin hkf) hi).1
  have hcf : m.cls = cf := by
    obtain ⟨_, _, c', _, _, _, -, -, hf', -, -, -, hown2, -⟩ := Cond.laysFinal_spec hlay
    have e1 : c' = cf := by have := hi.symm.trans hf'; simp at this; exact this.1.symm
    rw [hdecl] at hown2
    rw [← e1]; exact Option.some.inj (hown.symm.trans hown2)
  have h6 := u_fits hfc hkC hkind (Or.inr hlay) hi hd (hn (b.1 + x)) (hfit (b.1 + x))
  refine W.putFinK F.1.1 F.1.2.1 hown (hts _ hw) hi hst hcf (F.1.2.2.2.2.2.2.2 hini) (by rw [q2]; exact h6) q1 q3 (by rw [hsl]; exact k2_hasslot (q4 kf hkf)) rfl rfl hdg fun H' e1 e2 e3 => ?_
  rw [hsl] at e1 ⊢
  have hP9 := hP.2.set (hp_D A b h) (hp_w_at h1) (e := .inr (ci, (fs.map (hp_v b)).set kf (hp_v b (.ref x)))) ⟨_, hc, t_OB.to (V := updV (vp_V (fs.map (hp_v b))) kf (.ref (b.1 + x))) ⟨_, e1, q2, q3, t_set q4 hap hkf (.ref (b.1 + x))⟩ (fun j _ => vp_updV_set (by rw [List.length_map]; exact h2) (.ref (b.1 + x)) j)⟩ e3
  rw [hp_fset] at hP9
  have e8 : (hp_w A b h).set i (b.1 + i, hp_e A b (.inl (ci, fs.set kf (.ref x)))) = hp_w A b (h.set i (.inl (ci, fs.set kf (.ref x)))) := hp_w_set h i _
  exact kk p e R s m args below meth c Z D A b H' _ ls cells slots mc ms F a1 a2 ⟨fun z => by rw [e2, List.length_set]; exact hP.1 z, by rw [← e8]; exact hP9⟩ (hS.put e2 e3 (Nat.le_add_right _ _)) hl
theorem hp_iaload {i : Nat} {j x : Int32} (hdg : decode mi.2.1 pc = .ok (.iaload, 1)) (hx : al_ h i j = some x) (kk : hp_G l mi X d zr Q zz k n (pc + 1) lv (.int x :: st) h) : hp_G l mi X d zr Q zz k n pc lv (.int j :: .ref i :: st) h := by
  intro p e R s m args below meth c Z D A b H locs ls cells slots mc ms F a1 a2 hP hS hl
  obtain ⟨q, f, h1, h2, h3⟩ := al_inv hx
  subst h3
  exact va_iald (D := D) F.1.1 F.1.2.1 F.2.1.1 hP.2 i 0 (hp_w_at h1) rfl h2 hdg (kk p e R s m args below meth c Z D A b H locs ls cells slots mc ms F a1 a2 hP hS hl)
theorem hp_aaload {i : Nat} {j : Int32} {x : Nat} (hdg : decode mi.2.1 pc = .ok (.aaload, 1)) (hx : ql_ h i j = some x) (kk : hp_G l mi X d zr Q zz k n (pc + 1) lv (.ref x :: st) h) : hp_G l mi X d zr Q zz k n pc lv (.int j :: .ref i :: st) h := by
  intro p e R s m args below meth c Z D A b H locs ls cells slots mc ms F a1 a2 hP hS hl
  obtain ⟨t, q, f, h1, ht, h2, h3⟩ := ql_inv hx
  have hgo := (kk p e R s m args below meth c Z D A b H locs ls cells slots mc ms F a1 a2 hP hS hl)
  have e1 : Option.map (fun i => b.1 + i) (f j.toNatClampNeg) = some (b.1 + x) := by simp [h3]
  rcases (show t = 0 ∨ t = 1 by omega) with rfl | rfl
  · refine va_aldq (D := D) F.1.1 F.1.2.1 F.2.1.1 hP.2 i 1 (C := RX2) (hp_w_at h1) rfl h2 hdg ?_
    dsimp only
    rw [e1]
    exact hgo
  · refine va_aldq (D := D) F.1.1 F.1.2.1 F.2.1.1 hP.2 i 2 (C := RX5) (hp_w_at h1) rfl h2 hdg ?_
    dsimp only
    rw [e1]
    exact hgo
theorem hp_alen {i : Nat} {x : Int32} (hdg : decode mi.2.1 pc = .ok (.arraylength, 1)) (hx : ln_ h i = some x) (kk : hp_G l mi X d zr Q zz k n (pc + 1) lv (.int x :: st) h) : hp_G l mi X d zr Q zz k n pc lv (.ref i :: st) h := by
  intro p e R s m args below meth c Z D A b H locs ls cells slots mc ms F a1 a2 hP hS hl
  obtain ⟨q, f, h1, h2⟩ := ln_inv hx
  exact va_alen (D := D) F.1.1 F.1.2.1 F.2.1.1 hP.2 i 0 (hp_w_at h1) rfl h2 hdg (kk p e R s m args below meth c Z D A b H locs ls cells slots mc ms F a1 a2 hP hS hl)
theorem hp_iastore {i : Nat} {j x : Int32} {h' : hp_H} (hdg : decode mi.2.1 pc = .ok (.iastore, 1)) (hx : ax_ h i j x = some h') (kk : hp_G l mi X d zr Q zz k n (pc + 1) lv st h') : hp_G l mi X d zr Q zz k n pc lv (.int x :: .int j :: .ref i :: st) h := by
  intro p e R s m args below meth c Z D A b H locs ls cells slots mc ms F a1 a2 hP hS hl
  obtain ⟨q, f, h1, h2, h3⟩ := ax_inv hx
  subst h3
  have ha := hp_w_at (A := A) (b := b) h1
  refine W.iast F.1.1 F.1.2.1 (hP.2 i _ ha) ((F.2.1.1.2 0 _ rfl).1 q (fun j => .int (f j))) (fun q => by cases q) (by show ¬ (j < 0 ∨ (arrV _ _ _).slots.size ≤ _); rw [arrV_size]; exact h2) rfl rfl hdg fun H1 e1 z oq => ?_
  have hP9 := hP.2.set (hp_D A b h) ha (e := hp_e A b (.inr (.inl (q, upd f j.toNatClampNeg x)))) (H1 := H1) (by
    show H1[b.1 + i]? = some (vp_cell _ _)
    rw [e1]
    show some (Cell.setSlot (vp_cell _ _) _ _) = some (vp_cell _ _)
    rw [vp_cell_i, vp_cell_i, arrV_store]
    congr 2
    funext r
    by_cases hq : r = j.toNatClampNeg
    · subst hq
      simp [updV, upd]
    · simp [updV, upd, hq]) oq
  rw [hp_w_set] at hP9
  exact kk p e R s m args below meth c Z D A b H1 _ ls cells slots mc ms F a1 a2 ⟨fun y => by rw [z, List.length_set]; exact hP.1 y, hP9⟩ (hS.put z oq (Nat.le_add_right _ _)) hl
theorem hp_aastore {t ci i : Nat} {j : Int32} {v : Nat} {r : vw_C} {h' : hp_H} (hci : vwCl[ci]? = some r) (ht : (t = 0 ∧ r.1 = RX2) ∨ (t = 1 ∧ r.1 = RX5)) (hdg : decode mi.2.1 pc = .ok (.aastore, 1)) (hx : qx_ h t ci i j v = some h') (kk : hp_G l mi X d zr Q zz k n (pc + 1) lv st h') : hp_G l mi X d zr Q zz k n pc lv (.ref v :: .int j :: .ref i :: st) h := by
  intro p e R s m args below meth c Z D A b H locs ls cells slots mc ms F a1 a2 hP hS hl
  obtain ⟨q, f, vs, h1, h2, hv, h3⟩ := qx_inv hx
  subst h3
  have ha := hp_w_at (A := A) (b := b) h1
  have hvv := hp_w_at (A := A) (b := b) hv
  have hlt : j.toNatClampNeg < q := Nat.not_le.mp fun z => h2 (Or.inr z)
  have h0 : ¬ j < 0 := fun z => h2 (Or.inl z)
  have hK := F.2.1.1
  obtain ⟨r', hr', cellV, g1, g2, g3, -⟩ := hP.2 v _ hvv
  have hcls := (hK.1 ci r hci).2
  have hRA : va_RA s (A (t + 1)) (.object r.1) := by
    rcases ht with ⟨rfl, h9⟩ | ⟨rfl, h9⟩
    · rw [h9]; exact (hK.2 1 _ rfl).2
    · rw [h9]; exact (hK.2 2 _ rfl).2
  obtain ⟨kA, comp, k1, k2, k3, -⟩ := hRA
  have hcomp : comp = D.1 ci := Option.some.inj (k3.symm.trans hcls.1)
  subst hcomp
  obtain ⟨kC, hkC, -⟩ := hcls.2
  refine W.aast F.1.1 F.1.2.1 (hP.2 i _ ha) (fun q h => by cases h) (fun h => by cases h) k1 k2 rfl hkC ⟨h0, by show _ < (arrV _ _ _).slots.size; rw [arrV_size]; exact hlt⟩ g1 (fun q h => by rw [g3] at h; cases h) (by rw [g2]; exact hkC) (by rw [g2]; exact va_assign hcls) rfl rfl hdg fun H1 e1 z oq => ?_
  have hP9 := hP.2.set (hp_D A b h) ha (e := hp_e A b (.inr (.inr (t, q, va_up f j.toNatClampNeg (some v))))) (H1 := H1) (by
    show H1[b.1 + i]? = some (vp_cell _ _)
    rw [e1]
    show some (Cell.setSlot (vp_cell _ _) _ _) = some (vp_cell _ _)
    rw [vp_cell_q, vp_cell_q, arrV_store]
    congr 2
    funext r
    by_cases hq : r = j.toNatClampNeg
    · subst hq
      simp [updV, va_up, va_rf]
    · simp [updV, va_up, hq]) oq
  rw [hp_w_set] at hP9
  exact kk p e R s m args below meth c Z D A b H1 _ ls cells slots mc ms F a1 a2 ⟨fun y => by rw [z, List.length_set]; exact hP.1 y, hP9⟩ (hS.put z oq (Nat.le_add_right _ _)) hl
theorem hp_sload {q : Nat × (Nat → Int32)} {j : Int32} {u : UInt32} (hX : X = some q) (hj : vp_in j q.1) (hdg : decode mi.2.1 pc = .ok (.iaload, 1)) (kk : hp_G l mi X d zr Q zz k n (pc + 1) lv (.int (q.2 j.toNatClampNeg) :: st) h) : hp_G l mi X d zr Q zz k n pc lv (.int j :: .float u :: st) h := by
  intro p e R s m args below meth c Z D A b H locs ls cells slots mc ms F a1 a2 hP hS hl
  obtain ⟨x1, x2, x3⟩ := F.2.2.2.1 q hX
  exact va_sld F.1.1 F.1.2.1 x1 x2 (by omega) hS hj hdg (kk p e R s m args below meth c Z D A b H locs ls cells slots mc ms F a1 a2 hP hS hl)
theorem hp_slen {q : Nat × (Nat → Int32)} {u : UInt32} (hX : X = some q) (hdg : decode mi.2.1 pc = .ok (.arraylength, 1)) (kk : hp_G l mi X d zr Q zz k n (pc + 1) lv (.int (Int32.ofNat q.1) :: st) h) : hp_G l mi X d zr Q zz k n pc lv (.float u :: st) h := by
  intro p e R s m args below meth c Z D A b H locs ls cells slots mc ms F a1 a2 hP hS hl
  obtain ⟨x1, x2, x3⟩ := F.2.2.2.1 q hX
  exact va_slen F.1.1 F.1.2.1 x1 x2 (by omega) hS hdg (kk p e R s m args below meth c Z D A b H locs ls cells slots mc ms F a1 a2 hP hS hl)
theorem hp_copy {idx i o : Nat} {sp dp q : Int32} {h' : hp_H} (hw : ∀ w ∈ ([.methodLink mi.1 idx arraycopyName, .native arraycopyName, .static arraycopyName, .initialized "java/lang/System"] : List Cond), w ∈ tg_) (hd : 1 ≤ d ∧ (st.map fun v => v.category).sum + (nativeFrameWords "java/lang/System" "arraycopy" 5 + 11) ≤ 40 * d) (hdg : decode mi.2.1 pc = .ok (.invokestatic idx, 3)) (hx : cp_ h i sp o dp q = some h') (kk : hp_G l mi X d zr Q false k n (pc + 3) lv st h') : hp_G l mi X d zr Q false k n pc lv (.int q :: .int dp :: .ref o :: .int sp :: .ref i :: st) h := by
  intro p e R s m args below meth c Z D A b H locs ls cells slots mc ms F a1 a2 hP hS hl
  obtain ⟨n0, f, n1, g, h1, h2, e1, e2, e3, e4, e5, h3⟩ := cp_inv hx
  subst h3
  have hts := F.1.2.2.2.2.2.2.1
  refine va_copyi (D := D) F.1.1 F.1.2.1 (F.1.2.2.1.trans hl.1.symm) F.1.2.2.2.2.1 (hts _ (hw _ (by simp))) (hts _ (hw _ (by simp))) (hts _ (hw _ (by simp))) (hts _ (hw _ (by simp))) F.2.1.1 hP.2 (hp_D A b h) hS i o 0 0 (hp_w_at h1) (hp_w_at h2) rfl rfl rfl e1 e2 e3 e4 e5 (fun _ _ => rfl) (Nat.le_trans hd.1 F.2.2.2.2.1.1) (by rw [hp_wcat]; exact Nat.le_trans hd.2 F.2.2.2.2.1.2.1) hdg (fun H1 locs1 hP1 _ hS1 => ?_)
  have e8 : (hp_w A b h).set o (b.1 + o, hp_e A b (.inr (.inl (n1, va_cpy f g sp.toNatClampNeg dp.toNatClampNeg q.toNatClampNeg)))) = hp_w A b (h.set o (.inr (.inl (n1, va_cpy f g sp.toNatClampNeg dp.toNatClampNeg q.toNatClampNeg)))) := hp_w_set h o _
  exact kk p e R s m args below meth c Z D A b H1 locs1 ls cells slots mc ms F a1 a2 ⟨fun z => (by cases z), by rw [← e8]; exact hP1⟩ hS1 hl
end HPH
end
section
section HPC
variable {l : Launch} {mi : hp_Mi} {X : Option (Nat × (Nat → Int32))} {d : Nat} {zr : Bool} {Q : Option Value → hp_H → Prop} {zz : Bool} {k n : Nat} {pc : Nat} {lv : List (Nat × Value)} {st : List Value} {h : hp_H}
theorem hp_max {idx : Nat} {x y : Int32} (hw : ∀ w ∈ ([.methodLink mi.1 idx Lib.Math.max.name, .static Lib.Math.max.name, .initialized "java/lang/Math", .code Lib.Math.max.name Lib.Math.max.code 2 (some .int)] : List Cond), w ∈ tg_) (hd : 1 ≤ d ∧ (st.map fun v => v.category).sum ≤ 8) (hdg : decode mi.2.1 pc = .ok (.invokestatic idx, 3)) (kk : hp_G l mi X d zr Q zz k n (pc + 3) lv (.int (if x < y then y else x) :: st) h) : hp_G l mi X d zr Q zz k n pc lv (.int y :: .int x :: st) h := by
  intro p e R s m args below meth c Z D A b H locs ls cells slots mc ms F a1 a2 hP hS hl
  have hts := F.1.2.2.2.2.2.2.1
  have r1 := F.2.2.2.2.1
  exact va_mmax F.1.1 F.1.2.1 (F.1.2.2.1.trans hl.1.symm) F.1.2.2.2.2.1 (hts _ (hw _ (by simp))) (hts _ (hw _ (by simp))) (hts _ (hw _ (by simp))) (hts _ (hw _ (by simp))) (by omega) (by rw [hp_wcat]; omega) (by omega) (by omega) hdg (kk p e R s m args below meth c Z D A b H locs ls cells slots mc ms F a1 a2 hP hS hl)
theorem hp_min {idx : Nat} {x y : Int32} (hw : ∀ w ∈ ([.methodLink mi.1 idx Lib.Math.min.name, .static Lib.Math.min.name, .initialized "java/lang/Math", .code Lib.Math.min.name Lib.Math.min.code 2 (some .int)] : List Cond), w ∈ tg_) (hd : 1 ≤ d ∧ (st.map fun v => v.category).sum ≤ 8) (hdg : decode mi.2.1 pc = .ok (.invokestatic idx, 3)) (kk : hp_G l mi X d zr Q zz k n (pc + 3) lv (.int (if y < x then y else x) :: st) h) : hp_G l mi X d zr Q zz k n pc lv (.int y :: .int x :: st) h := by
  intro p e R s m args below meth c Z D A b H locs ls cells slots mc ms F a1 a2 hP hS hl
  have hts := F.1.2.2.2.2.2.2.1
  have r1 := F.2.2.2.2.1
  exact va_mmin F.1.1 F.1.2.1 (F.1.2.2.1.trans hl.1.symm) F.1.2.2.2.2.1 (hts _ (hw _ (by simp))) (hts _ (hw _ (by simp))) (hts _ (hw _ (by simp))) (hts _ (hw _ (by simp))) (by omega) (by rw [hp_wcat]; omega) (by omega) (by omega) hdg (kk p e R s m args below meth c Z D A b H locs ls cells slots mc ms F a1 a2 hP hS hl)
theorem hp_new {C : String} {T : u_T} {N ci idx : Nat} (hin : ∀ w ∈ u_ws C T N, w ∈ tg_) (hc : vwCl[ci]? = some (C, T, N)) (ty : Nat → FieldType) (hty : ∀ k, k < N → parseFieldDescriptor (T k).2.2.1 = some (ty k)) {fs : List Value} (hfs : ∀ j, j < N → defaultValue (ty j) = vp_V fs j) (hfr : ∀ b, fs.map (hp_v b) = fs) (hw : ∀ w ∈ ([.classLink mi.1 idx C, .instantiable C N, .initialized C] : List Cond), w ∈ tg_) (hdg : decode mi.2.1 pc = .ok (.new idx, 3)) (kk : hp_G l mi X d zr Q true k n (pc + 3) lv (.ref h.length :: st) (h ++ [.inl (ci, fs)])) : hp_G l mi X d zr Q true (k + 1) (n + N) pc lv st h := by
  intro p e R s m args below meth c Z D A b H locs ls cells slots mc ms F a1 a2 hP hS hl
  have hts := F.1.2.2.2.2.2.2.1
  have r1 := F.2.2.2.2.1
  have hKn := F.2.1.1.1 ci _ hc
  have hz := hP.1 rfl
  refine W.newcK (n := N) F.1.1 F.1.2.1 F.1.2.2.2.2.1 (hts _ (hw _ (by simp))) (hts _ (hw _ (by simp))) (hts _ (hw _ (by simp))) rfl hdg (by omega) (by omega) hKn.2.1 rfl fun H1 kC hkC e1 z1 o1 => ?_
  have hk : ∀ (k : Nat) (x : Nat × va_E), (hp_w A b h)[k]? = some x → H1[x.1]? = H[x.1]? := fun k x hx => o1 x.1 ((hP.2 k x hx).lt)
  have hP9 : va_P D vwCl (hp_w A b (h ++ [.inl (ci, fs)])) H1 := by
    rw [hp_w_app]
    refine (hP.2.kept hk).app (fun k x hx => ?_)
    have hzz : k < 1 := (List.getElem?_eq_some_iff.mp hx).1
    rw [show k = 0 by omega] at hx
    cases hx
    refine ⟨_, hc, ?_⟩
    show t_OB (b.1 + h.length) _ _ _ H1 (vp_V (fs.map (hp_v b)))
    rw [hfr b, ← hz]
    exact (u_born ty hts hin hKn hkC e1 hty).to hfs
  have hgo := kk p e R s m args below meth c Z D A b H1 locs ls (cells + 1) (slots + N) mc ms F (by omega) (by omega) ⟨fun _ => by rw [z1, hz]; simp; omega, hP9⟩ ⟨Nat.le_trans hS.1 (by omega), fun x h1 h2 => (o1 x (Nat.lt_of_lt_of_le h1 hS.1)).trans (hS.2.1 x h1 h2), hS.2.2⟩ hl
  rw [hz]
  exact hgo
theorem hp_newarr {q : Int32} {N : Nat} (hw : Cond.arrayClass .int ∈ tg_) (hq : ¬ q < 0) (hN : q.toNatClampNeg = N) (hNb : N ≤ 1000) (hdg : decode mi.2.1 pc = .ok (.newarray .int, 2)) (kk : hp_G l mi X d zr Q true k n (pc + 2) lv (.ref h.length :: st) (h ++ [.inr (.inl (N, fun _ => 0))])) : hp_G l mi X d zr Q true (k + 1) (n + N) pc lv (.int q :: st) h := by
  intro p e R s m args below meth c Z D A b H locs ls cells slots mc ms F a1 a2 hP hS hl
  have hts := F.1.2.2.2.2.2.2.1
  have r1 := F.2.2.2.2.1
  have hz := hP.1 rfl
  refine va_newaK F.1.1 F.1.2.1 (atype := .int) (hts _ hw) rfl hdg rfl hq hN (by show N * 4 ≤ _; omega) (by omega) (by omega) rfl fun H1 cA e1 z1 o1 hAr hNm => ?_
  have hcA : cA = A 0 := Option.some.inj (hNm.symm.trans (F.2.1.1.2 0 _ rfl).2)
  subst hcA
  have hk : ∀ (k : Nat) (x : Nat × va_E), (hp_w A b h)[k]? = some x → H1[x.1]? = H[x.1]? := fun k x hx => o1 x.1 ((hP.2 k x hx).lt)
  have hP9 : va_P D vwCl (hp_w A b (h ++ [.inr (.inl (N, fun _ => 0))])) H1 := by
    rw [hp_w_app]
    refine (hP.2.kept hk).app (fun k x hx => ?_)
    have hzz : k < 1 := (List.getElem?_eq_some_iff.mp hx).1
    rw [show k = 0 by omega] at hx
    cases hx
    show H1[b.1 + h.length]? = some (vp_cell _ _)
    rw [← hz]
    exact e1
  have hgo := kk p e R s m args below meth c Z D A b H1 locs ls (cells + 1) (slots + N) mc ms F (by omega) (by omega) ⟨fun _ => by rw [z1, hz]; simp; omega, hP9⟩ ⟨Nat.le_trans hS.1 (by omega), fun x h1 h2 => (o1 x (Nat.lt_of_lt_of_le h1 hS.1)).trans (hS.2.1 x h1 h2), hS.2.2⟩ hl
  rw [hz]
  exact hgo
theorem hp_newref {C : String} {idx t N : Nat} {q : Int32} (ht : (t = 0 ∧ C = RX2) ∨ (t = 1 ∧ C = RX5)) (hw : Cond.classLink mi.1 idx C ∈ tg_) (hq : ¬ q < 0) (hN : q.toNatClampNeg = N) (hNb : N ≤ 1000) (hdg : decode mi.2.1 pc = .ok (.anewarray idx, 3)) (kk : hp_G l mi X d zr Q true k n (pc + 3) lv (.ref h.length :: st) (h ++ [.inr (.inr (t, N, fun _ => none))])) : hp_G l mi X d zr Q true (k + 1) (n + N) pc lv (.int q :: st) h := by
  intro p e R s m args below meth c Z D A b H locs ls cells slots mc ms F a1 a2 hP hS hl
  have hts := F.1.2.2.2.2.2.2.1
  have r1 := F.2.2.2.2.1
  have hz := hP.1 rfl
  have hAO : va_AO C s := by
    rcases ht with ⟨-, rfl⟩ | ⟨-, rfl⟩
    · exact F.2.1.2.2.1
    · exact F.2.1.2.2.2
  have hRA : va_RA s (A (t + 1)) (.object C) := by
    rcases ht with ⟨rfl, rfl⟩ | ⟨rfl, rfl⟩
    · exact (F.2.1.1.2 1 _ rfl).2
    · exact (F.2.1.1.2 2 _ rfl).2
  subst hN
  refine W.anew F.1.1 F.1.2.1 F.1.2.2.2.2.1 (hts _ hw) (va_AO.use hAO) rfl hdg rfl hq (by omega) (by omega) (by omega) fun cA kA comp f1 f2 f3 f4 => ?_
  have hcA : cA = A (t + 1) := by
    obtain ⟨_, _, _, _, _, h4⟩ := hRA
    exact Option.some.inj (f1.symm.trans h4)
  subst hcA
  generalize hH1 : H.push ({ cls := A (t + 1), slots := Array.replicate q.toNatClampNeg .null, vm := .none } : Cell) = H1
  have z1 : H1.size = H.size + 1 := by rw [← hH1, Array.size_push]
  have e1 : H1[H.size]? = some (arrV (A (t + 1)) q.toNatClampNeg (fun _ => .null)) := by rw [← hH1, Array.getElem?_push_size, ← arrV_new]
  have o1 : ∀ q : Nat, q < H.size → H1[q]? = H[q]? := fun q hq => by rw [← hH1, Array.getElem?_push, if_neg (Nat.ne_of_lt hq)]
  have hk : ∀ (k : Nat) (x : Nat × va_E), (hp_w A b h)[k]? = some x → H1[x.1]? = H[x.1]? := fun k x hx => o1 x.1 ((hP.2 k x hx).lt)
  have hP9 : va_P D vwCl (hp_w A b (h ++ [.inr (.inr (t, q.toNatClampNeg, fun _ => none))])) H1 := by
    rw [hp_w_app]
    refine (hP.2.kept hk).app (fun k x hx => ?_)
    have hzz : k < 1 := (List.getElem?_eq_some_iff.mp hx).1
    rw [show k = 0 by omega] at hx
    cases hx
    show H1[b.1 + h.length]? = some (vp_cell _ _)
    rw [← hz]
    exact e1
  have hgo := kk p e R s m args below meth c Z D A b H1 locs ls (cells + 1) (slots + q.toNatClampNeg) mc ms F (by omega) (by omega) ⟨fun _ => by rw [z1, hz]; simp; omega, hP9⟩ ⟨Nat.le_trans hS.1 (by omega), fun x h1 h2 => (o1 x (Nat.lt_of_lt_of_le h1 hS.1)).trans (hS.2.1 x h1 h2), hS.2.2⟩ hl
  rw [hz]
  exact hgo
theorem hp_objInit {idx i : Nat} (hw : ∀ w ∈ ([.methodLink mi.1 idx objectInit, .instanceMethod objectInit, .code objectInit ⟨#[0xb1]⟩ 1 none] : List Cond), w ∈ tg_) (hd : 1 ≤ d ∧ (st.map fun v => v.category).sum ≤ 8) (hdg : decode mi.2.1 pc = .ok (.invokespecial idx, 3)) (kk : hp_G l mi X d zr Q zz k n (pc + 3) lv st h) : hp_G l mi X d zr Q zz k n pc lv (.ref i :: st) h := by
  intro p e R s m args below meth c Z D A b H locs ls cells slots mc ms F a1 a2 hP hS hl
  have hts := F.1.2.2.2.2.2.2.1
  have r1 := F.2.2.2.2.1
  exact W.objInit F.1.1 F.1.2.1 F.1.2.2.2.2.1 (hts _ (hw _ (by simp))) (hts _ (hw _ (by simp))) (hts _ (hw _ (by simp))) rfl (by rw [F.1.2.2.1]; exact hl.1) rfl hdg (by omega) (by show 2 * 0 + _ + 12 ≤ _; rw [hp_wcat]; omega) (kk p e R s m args below meth c Z D A b H locs ls cells slots mc ms F a1 a2 hP hS hl)
end HPC
/-! contracts -/
def hp_Q (D : va_G) (A : Nat → ClassId) (b : Nat × Nat) (zz : Bool) (Q : Option Value → hp_H → Prop) : Array Value → State → Outcome → State → Prop := fun _ st oc t => ∃ (v : Option Value) (h : hp_H), oc = .returned (v.map (hp_v b)) ∧ Q v h ∧ hp_P D A b zz h t.heap ∧ va_F (fun q => b.1 ≤ q) st t
def hp_Pc (D : va_G) (A : Nat → ClassId) (b : Nat × Nat) (zz : Bool) (as : List Value) (h : hp_H) : Array Value → State → Prop := va_Pc (as.map (hp_v b)) (fun U => b.1 ≤ U.heap.size ∧ hp_P D A b zz h U.heap ∧ hp_K D A U)
def hp_Cn (l : Launch) (y : MethodName) (mi : hp_Mi) (d : Nat) (zz : Bool) (k n : Nat) (as : List Value) (h : hp_H) (Q : Option Value → hp_H → Prop) : Prop :=
  ∀ (D : va_G) (A : Nat → ClassId) (b : Nat × Nat), Met l y (.code y mi.2.1 mi.2.2.1 mi.2.2.2.1 :: tg_) { frames := d, cells := k, slots := n, locals := 40 * d } (hp_Pc D A b zz as h) (hp_Q D A b zz Q) k n (fun q => b.1 ≤ q)
theorem hp_slen' (b : Nat × Nat) (as : List Value) : (lg_sl (as.map (hp_v b))).length = (lg_sl as).length := by
  induction as with
  | nil => rfl
  | cons v t ih =>
    simp only [lg_sl, List.map_cons, List.flatMap_cons, List.length_append] at ih ⊢
    rw [ih, hp_vcat]
    congr 1
    split <;> rfl
theorem hp_args (b : Nat × Nat) (as : List Value) : ∀ i, lv_args i (as.map (hp_v b)) = hp_l b (lv_args i as) := by
  induction as with
  | nil => intro i; rfl
  | cons v t ih =>
    intro i
    simp only [List.map_cons, lv_args, hp_l]
    rw [hp_vcat, ih]
    rfl
theorem hp_of {l : Launch} {y : MethodName} {mi : hp_Mi} {d : Nat} {zz : Bool} {k n : Nat} {as : List Value} {h : hp_H} {Q : Option Value → hp_H → Prop} (hy : plainName y.cls = true) (hown : mi.1 = y.cls) (hini : mi.2.2.2.2 = true → y.name = "<init>") (hlen : (lg_sl as).length ≤ mi.2.2.1) (hg : hp_G l mi none d zz Q zz k n 0 (lv_args 0 as) [] h) : hp_Cn l y mi d zz k n as h Q := by
  intro D A b
  refine Met.ofW (cc := mi.2.1) (maxL := mi.2.2.1) (ret := mi.2.2.2.1) hy rfl ?_
  intro p e s m args below meth c s₁ B hml hv
  obtain ⟨rfl, hsz, hP, hK⟩ := hv
  have hts := atoms_spec (ws := .code y mi.2.1 mi.2.2.1 mi.2.2.2.1 :: tg_) B.pre
  have hl := lv_entry (as.map (hp_v b)) (n := mi.2.2.1) (by rw [hp_slen']; exact hlen)
  rw [lg_entry_eq]
  generalize (lg_sl (as.map (hp_v b)) ++ List.replicate (mi.2.2.1 - (lg_sl (as.map (hp_v b))).length) Slot.unset).toArray = ls at hl ⊢
  rw [hp_args] at hl
  refine hg p e _ s m _ below meth c _ D A b s.heap [] ls 0 0 k n ⟨⟨B.exec, B.bytes, hml, B.returns, by rw [hown]; exact findClass_of_methodNamed B.named, B.notSynchronized, fun w hw => hts w (List.mem_cons_of_mem _ hw), fun hi => ?_⟩, hK, hsz, (fun q h => by cases h), ⟨Nat.le_refl _, Nat.le_refl _, Nat.le_refl _, Nat.le_refl _⟩, ?_⟩ (by omega) (by omega) hP va_S.rf hl
  · rw [← hini hi]
    exact (name_of_methodNamed B.named B.method).1
  · intro v h H locs cells slots pc ls hq hP hS hc hs hd
    have hlocks := B.notSynchronized
    refine W.widen (k := k) (n := n) hc hs ?_
    match v, hq, hd with
    | none, hq, hd => exact W.vret B.exec B.bytes (B.returns.trans hd.2) (fun t ht hW => ⟨none, h, rfl, hq, by rw [ht]; exact hP, hS.F ht⟩) hS.2.2 hd.1
    | some (.int x), hq, hd =>
      obtain ⟨hd1, ty, hd2, hd3⟩ := hd
      exact W.zret B.exec B.bytes (B.returns.trans hd2) hd3 (fun t ht hW => ⟨some (.int x), h, rfl, hq, by rw [ht]; exact hP, hS.F ht⟩) hS.2.2 hd1
    | some (.long x), hq, hd => exact W.lret B.exec B.bytes (B.returns.trans hd.2) (fun t ht hW => ⟨some (.long x), h, rfl, hq, by rw [ht]; exact hP, hS.F ht⟩) hS.2.2 hd.1
    | some (.float _), hq, hd => exact hd.elim
    | some (.double _), hq, hd => exact hd.elim
    | some .null, hq, hd => exact hd.elim
    | some (.ref _), hq, hd => exact hd.elim
    | some (.retAddr _), hq, hd => exact hd.elim
theorem hp_blind (D : va_G) (A : Nat → ClassId) (b : Nat × Nat) (zz : Bool) (as : List Value) (h : hp_H) : FrameBlind (hp_Pc D A b zz as h) := fun a U g mk q => ⟨q.1, q.2.1, q.2.2.1, hp_K.same (s := U) (U := U.calling g mk a) rfl q.2.2.2⟩
/-- behind a call -/
theorem hp_after {p : Program} {l : Launch} {e : Env} {R : Room} {s : State} {m : MethodId} {args : Array Value} {below : List Frame} {meth : Method} {c : Code} {H : Heap} {locs : List Loc} {cells slots mc ms : Nat} {Z : State → Prop} {pc : Nat} {ls : Array Slot} {st0 rest : List Value} {a : Array Value} {D : va_G} {A : Nat → ClassId} {b : Nat × Nat} {zz : Bool} {Q' : Option Value → hp_H → Prop}
    (hr : va_Run p l e R s m args below meth c H locs cells slots mc ms (F0 m pc ls st0) rest (hp_Q D A b zz Q' a) (fun q => b.1 ≤ q)) (hS : va_S (fun q => b.1 ≤ q) s.heap H locs)
    (kk : ∀ (v : Option Value) (h : hp_H) (H1 : Heap) (locs1 : List Loc), Q' v h → hp_P D A b zz h H1 → va_S (fun q => b.1 ≤ q) s.heap H1 locs1 → W p l e R s m args below meth c H1 locs1 (cells + mc) (slots + ms) Z (F0 m (pc + 3) ls ((v.map (hp_v b)).toList ++ rest))) : W p l e R s m args below meth c H locs cells slots Z (F0 m pc ls st0) := by
  intro T hT X
  obtain ⟨v, st₀, t, T', L, h0, X', hL, e1, e2, ⟨v', h', hv, hq, hP, hz, hk⟩, st⟩ := hr T hT X
  cases hv
  rw [h0] at hz hk
  obtain ⟨t2, g1, g2⟩ := kk v' h' T'.heap (locs ++ L) hq (by rw [e1]; exact hP) ⟨Nat.le_trans hS.1 (by rw [e1]; exact hz), fun q h1 h2 => by rw [e1, hk q (Nat.lt_of_lt_of_le h1 hS.1) h2]; exact hS.2.1 q h1 h2, fun q hq => by
      rcases List.mem_append.mp hq with h | h
      · exact hS.2.2 q h
      · exact hL q h⟩ T' rfl X'
  exact ⟨t2, st t2 g1, g2⟩
theorem hp_stk (b : Nat × Nat) (v : Option Value) (st : List Value) : (v.toList ++ st).map (hp_v b) = (v.map (hp_v b)).toList ++ st.map (hp_v b) := by
  cases v <;> simp
section HPD
variable {l : Launch} {mi : hp_Mi} {X : Option (Nat × (Nat → Int32))} {d : Nat} {zr : Bool} {Q : Option Value → hp_H → Prop} {zz : Bool} {k n : Nat} {pc : Nat} {lv : List (Nat × Value)} {st : List Value} {h : hp_H}
theorem hp_callV {y : MethodName} {mj : hp_Mi} {dj kj nj idx : Nat} {as : List Value} {Q' : Option Value → hp_H → Prop} {i ci : Nat} {fs : List Value} {T : u_T} {N : Nat} (hM : hp_Cn l y mj dj zz kj nj (.ref i :: as) h Q') (hd : dj + 1 ≤ d) (hL : mj.2.2.1 ≤ 21) (hrest : (st.map fun v => v.category).sum ≤ 8) (hyd : y.cls ≠ "java/lang/invoke/MethodHandle" ∧ y.cls ≠ "java/lang/invoke/VarHandle" ∧ (parseMethodDescriptor y.desc).map (fun d => d.parameters.length) = some as.length) (hwl : Cond.methodLink mi.1 idx y ∈ tg_) (hw : ∀ w ∈ ([.instanceMethod y, .selects y.cls y y, .initialized y.cls, .code y mj.2.1 mj.2.2.1 mj.2.2.2.1] : List Cond), w ∈ tg_) (ho : hg_o h i ci = some fs) (hc : vwCl[ci]? = some (y.cls, T, N)) (hdg : decode mi.2.1 pc = .ok (.invokevirtual idx, 3)) {st0 : List Value} (hst : st0 = (as.reverse ++ .ref i :: st)) (kk : ∀ v h', Q' v h' → hp_G l mi X d zr Q zz k n (pc + 3) lv (v.toList ++ st) h') : hp_G l mi X d zr Q zz (kj + k) (nj + n) pc lv st0 h := by
  intro p e R s m args below meth c Z D A b H locs ls cells slots mc ms F a1 a2 hP hS hl
  subst hst
  have hS0 := hS
  have r1 := F.2.2.2.2.1
  have hts := F.1.2.2.2.2.2.2.1
  have hcf : CallFix p m c mi.2.1 mi.2.2.1 s args tg_ mi.1 := ⟨F.1.1, F.1.2.1, F.1.2.2.1, F.1.2.2.2.2.1, hts⟩
  have hGd : GoodIn tg_ (.code y mj.2.1 mj.2.2.1 mj.2.2.2.1 :: tg_) := hp_good (fun w hw' => by
    rcases List.mem_cons.mp hw' with rfl | h9
    · exact hw _ (by simp)
    · exact h9)
  refine hp_after (va_runV (C := y.cls) (As := as.map (hp_v b)) (rest := st.map (hp_v b)) (b := b.1 + i) hcf (hM D A b) ⟨callB_of as.length hts hGd rfl rfl rfl (hts _ (hw _ (by simp))) (hts _ hwl) hyd ⟨by show dj + 1 ≤ _; omega, by show 8 + (mj.2.2.1 + 11) + 40 * dj ≤ _; omega⟩, hts _ (hw _ (by simp)), hts _ (hw _ (by simp))⟩ ⟨hp_blind D A b zz _ h, va_recv F.2.1.1 hP.2 (ci := ci) (q0 := i) hc (hp_w_at (hg_o_inv ho)), fun U hU hW => ⟨rfl, by rw [hU]; exact Nat.le_trans F.2.2.1 hS.1, by rw [hU]; exact hP, F.2.1.warm hW⟩⟩ rfl (by rw [List.length_map]) hl.1 (show (F0 m pc ls _).stack = _ from by simp [hp_v]) (lv_room (by rw [hp_wcat]; exact hrest)) hdg ⟨by omega, by omega⟩) hS (fun v h' H1 locs1 hq hP1 hS1 => by
    have hgo := kk v h' hq p e R s m args below meth c Z D A b H1 locs1 ls (cells + kj) (slots + nj) mc ms F (by omega) (by omega) hP1 hS1 hl
    rw [hp_stk] at hgo
    exact hgo)
theorem hp_callVN {y : MethodName} {mj : hp_Mi} {dj kj nj idx : Nat} {as : List Value} {Q' : Option Value → hp_H → Prop} {i ci : Nat} {fs : List Value} {T : u_T} {N : Nat} {host : String} (hM : hp_Cn l y mj dj zz kj nj (.ref i :: as) h Q') (hd : dj + 1 ≤ d) (hL : mj.2.2.1 ≤ 21) (hrest : (st.map fun v => v.category).sum ≤ 8) (hyd : y.cls ≠ "java/lang/invoke/MethodHandle" ∧ y.cls ≠ "java/lang/invoke/VarHandle" ∧ (parseMethodDescriptor y.desc).map (fun d => d.parameters.length) = some as.length) (hwl : Cond.methodLinkNest mi.1 idx y host ∈ nw_) (hw : ∀ w ∈ ([.instanceMethod y, .selects y.cls y y, .initialized y.cls, .code y mj.2.1 mj.2.2.1 mj.2.2.2.1] : List Cond), w ∈ tg_) (ho : hg_o h i ci = some fs) (hc : vwCl[ci]? = some (y.cls, T, N)) (hdg : decode mi.2.1 pc = .ok (.invokevirtual idx, 3)) {st0 : List Value} (hst : st0 = (as.reverse ++ .ref i :: st)) (kk : ∀ v h', Q' v h' → hp_G l mi X d zr Q zz k n (pc + 3) lv (v.toList ++ st) h') : hp_G l mi X d zr Q zz (kj + k) (nj + n) pc lv st0 h := by
  intro p e R s m args below meth c Z D A b H locs ls cells slots mc ms F a1 a2 hP hS hl
  subst hst
  have hS0 := hS
  have r1 := F.2.2.2.2.1
  have hts := F.1.2.2.2.2.2.2.1
  have hcf : CallFix p m c mi.2.1 mi.2.2.1 s args tg_ mi.1 := ⟨F.1.1, F.1.2.1, F.1.2.2.1, F.1.2.2.2.2.1, hts⟩
  have hGd : GoodIn tg_ (.code y mj.2.1 mj.2.2.1 mj.2.2.2.1 :: tg_) := hp_good (fun w hw' => by
    rcases List.mem_cons.mp hw' with rfl | h9
    · exact hw _ (by simp)
    · exact h9)
  refine hp_after (va_runVN (C := y.cls) (As := as.map (hp_v b)) (rest := st.map (hp_v b)) (b := b.1 + i) hcf (hM D A b) ⟨va_cnB as.length hts hGd rfl rfl rfl (F.2.1.2.1 _ hwl) (hts _ (hw _ (by simp))) hyd ⟨by show dj + 1 ≤ _; omega, by show 8 + (mj.2.2.1 + 11) + 40 * dj ≤ _; omega⟩, hts _ (hw _ (by simp)), hts _ (hw _ (by simp))⟩ ⟨hp_blind D A b zz _ h, va_recv F.2.1.1 hP.2 (ci := ci) (q0 := i) hc (hp_w_at (hg_o_inv ho)), fun U hU hW => ⟨rfl, by rw [hU]; exact Nat.le_trans F.2.2.1 hS.1, by rw [hU]; exact hP, F.2.1.warm hW⟩⟩ rfl (by rw [List.length_map]) hl.1 (show (F0 m pc ls _).stack = _ from by simp [hp_v]) (lv_room (by rw [hp_wcat]; exact hrest)) hdg ⟨by omega, by omega⟩) hS (fun v h' H1 locs1 hq hP1 hS1 => by
    have hgo := kk v h' hq p e R s m args below meth c Z D A b H1 locs1 ls (cells + kj) (slots + nj) mc ms F (by omega) (by omega) hP1 hS1 hl
    rw [hp_stk] at hgo
    exact hgo)
theorem hp_callS {y : MethodName} {mj : hp_Mi} {dj kj nj idx : Nat} {as : List Value} {Q' : Option Value → hp_H → Prop} (hM : hp_Cn l y mj dj zz kj nj as h Q') (hd : dj + 1 ≤ d) (hL : mj.2.2.1 ≤ 21) (hrest : (st.map fun v => v.category).sum ≤ 8) (hyd : y.cls ≠ "java/lang/invoke/MethodHandle" ∧ y.cls ≠ "java/lang/invoke/VarHandle" ∧ (parseMethodDescriptor y.desc).map (fun d => d.parameters.length) = some as.length) (hwl : Cond.methodLink mi.1 idx y ∈ tg_) (hw : ∀ w ∈ ([.static y, .initialized y.cls, .code y mj.2.1 mj.2.2.1 mj.2.2.2.1] : List Cond), w ∈ tg_)  (hdg : decode mi.2.1 pc = .ok (.invokestatic idx, 3)) {st0 : List Value} (hst : st0 = (as.reverse ++ st)) (kk : ∀ v h', Q' v h' → hp_G l mi X d zr Q zz k n (pc + 3) lv (v.toList ++ st) h') : hp_G l mi X d zr Q zz (kj + k) (nj + n) pc lv st0 h := by
  intro p e R s m args below meth c Z D A b H locs ls cells slots mc ms F a1 a2 hP hS hl
  subst hst
  have hS0 := hS
  have r1 := F.2.2.2.2.1
  have hts := F.1.2.2.2.2.2.2.1
  have hcf : CallFix p m c mi.2.1 mi.2.2.1 s args tg_ mi.1 := ⟨F.1.1, F.1.2.1, F.1.2.2.1, F.1.2.2.2.2.1, hts⟩
  have hGd : GoodIn tg_ (.code y mj.2.1 mj.2.2.1 mj.2.2.2.1 :: tg_) := hp_good (fun w hw' => by
    rcases List.mem_cons.mp hw' with rfl | h9
    · exact hw _ (by simp)
    · exact h9)
  refine hp_after (va_runS (As := as.map (hp_v b)) (rest := st.map (hp_v b)) hcf (hM D A b) ⟨callB_of as.length hts hGd rfl rfl rfl (hts _ (hw _ (by simp))) (hts _ hwl) hyd ⟨by show dj + 1 ≤ _; omega, by show 8 + (mj.2.2.1 + 11) + 40 * dj ≤ _; omega⟩, hts _ (hw _ (by simp))⟩ ⟨hp_blind D A b zz _ h, fun U hU hW => ⟨rfl, by rw [hU]; exact Nat.le_trans F.2.2.1 hS.1, by rw [hU]; exact hP, F.2.1.warm hW⟩⟩ rfl (by rw [List.length_map]) hl.1 (show (F0 m pc ls _).stack = _ from by simp) (lv_room (by rw [hp_wcat]; exact hrest)) hdg ⟨by omega, by omega⟩) hS (fun v h' H1 locs1 hq hP1 hS1 => by
    have hgo := kk v h' hq p e R s m args below meth c Z D A b H1 locs1 ls (cells + kj) (slots + nj) mc ms F (by omega) (by omega) hP1 hS1 hl
    rw [hp_stk] at hgo
    exact hgo)
theorem hp_callSN {y : MethodName} {mj : hp_Mi} {dj kj nj idx : Nat} {as : List Value} {Q' : Option Value → hp_H → Prop} {host : String} (hM : hp_Cn l y mj dj zz kj nj as h Q') (hd : dj + 1 ≤ d) (hL : mj.2.2.1 ≤ 21) (hrest : (st.map fun v => v.category).sum ≤ 8) (hyd : y.cls ≠ "java/lang/invoke/MethodHandle" ∧ y.cls ≠ "java/lang/invoke/VarHandle" ∧ (parseMethodDescriptor y.desc).map (fun d => d.parameters.length) = some as.length) (hwl : Cond.methodLinkNest mi.1 idx y host ∈ nw_) (hw : ∀ w ∈ ([.static y, .initialized y.cls, .code y mj.2.1 mj.2.2.1 mj.2.2.2.1] : List Cond), w ∈ tg_)  (hdg : decode mi.2.1 pc = .ok (.invokestatic idx, 3)) {st0 : List Value} (hst : st0 = (as.reverse ++ st)) (kk : ∀ v h', Q' v h' → hp_G l mi X d zr Q zz k n (pc + 3) lv (v.toList ++ st) h') : hp_G l mi X d zr Q zz (kj + k) (nj + n) pc lv st0 h := by
  intro p e R s m args below meth c Z D A b H locs ls cells slots mc ms F a1 a2 hP hS hl
  subst hst
  have hS0 := hS
  have r1 := F.2.2.2.2.1
  have hts := F.1.2.2.2.2.2.2.1
  have hcf : CallFix p m c mi.2.1 mi.2.2.1 s args tg_ mi.1 := ⟨F.1.1, F.1.2.1, F.1.2.2.1, F.1.2.2.2.2.1, hts⟩
  have hGd : GoodIn tg_ (.code y mj.2.1 mj.2.2.1 mj.2.2.2.1 :: tg_) := hp_good (fun w hw' => by
    rcases List.mem_cons.mp hw' with rfl | h9
    · exact hw _ (by simp)
    · exact h9)
  refine hp_after (va_runSN (As := as.map (hp_v b)) (rest := st.map (hp_v b)) hcf (hM D A b) ⟨va_cnB as.length hts hGd rfl rfl rfl (F.2.1.2.1 _ hwl) (hts _ (hw _ (by simp))) hyd ⟨by show dj + 1 ≤ _; omega, by show 8 + (mj.2.2.1 + 11) + 40 * dj ≤ _; omega⟩, hts _ (hw _ (by simp)), trivial⟩ ⟨hp_blind D A b zz _ h, fun U hU hW => ⟨rfl, by rw [hU]; exact Nat.le_trans F.2.2.1 hS.1, by rw [hU]; exact hP, F.2.1.warm hW⟩⟩ rfl (by rw [List.length_map]) hl.1 (show (F0 m pc ls _).stack = _ from by simp) (lv_room (by rw [hp_wcat]; exact hrest)) hdg ⟨by omega, by omega⟩) hS (fun v h' H1 locs1 hq hP1 hS1 => by
    have hgo := kk v h' hq p e R s m args below meth c Z D A b H1 locs1 ls (cells + kj) (slots + nj) mc ms F (by omega) (by omega) hP1 hS1 hl
    rw [hp_stk] at hgo
    exact hgo)
theorem hp_callI {y : MethodName} {mj : hp_Mi} {dj kj nj idx : Nat} {as : List Value} {Q' : Option Value → hp_H → Prop} {i : Nat} (hM : hp_Cn l y mj dj zz kj nj (.ref i :: as) h Q') (hd : dj + 1 ≤ d) (hL : mj.2.2.1 ≤ 21) (hrest : (st.map fun v => v.category).sum ≤ 8) (hyd : y.cls ≠ "java/lang/invoke/MethodHandle" ∧ y.cls ≠ "java/lang/invoke/VarHandle" ∧ (parseMethodDescriptor y.desc).map (fun d => d.parameters.length) = some as.length) (hwl : Cond.methodLink mi.1 idx y ∈ tg_) (hw : ∀ w ∈ ([.instanceMethod y, .initialized y.cls, .code y mj.2.1 mj.2.2.1 mj.2.2.2.1] : List Cond), w ∈ tg_) (hy1 : y.name = "<init>") (hvr : mj.2.2.2.1 = none) (hdg : decode mi.2.1 pc = .ok (.invokespecial idx, 3)) {st0 : List Value} (hst : st0 = (as.reverse ++ .ref i :: st)) (kk : ∀ v h', Q' v h' → hp_G l mi X d zr Q zz k n (pc + 3) lv (v.toList ++ st) h') : hp_G l mi X d zr Q zz (kj + k) (nj + n) pc lv st0 h := by
  intro p e R s m args below meth c Z D A b H locs ls cells slots mc ms F a1 a2 hP hS hl
  subst hst
  have hS0 := hS
  have r1 := F.2.2.2.2.1
  have hts := F.1.2.2.2.2.2.2.1
  have hcf : CallFix p m c mi.2.1 mi.2.2.1 s args tg_ mi.1 := ⟨F.1.1, F.1.2.1, F.1.2.2.1, F.1.2.2.2.2.1, hts⟩
  have hGd : GoodIn tg_ (.code y mj.2.1 mj.2.2.1 mj.2.2.2.1 :: tg_) := hp_good (fun w hw' => by
    rcases List.mem_cons.mp hw' with rfl | h9
    · exact hw _ (by simp)
    · exact h9)
  obtain ⟨m1, m2, m3, m4, m5⟩ := mj
  dsimp only at hvr
  subst hvr
  refine hp_after (va_runI (As := as.map (hp_v b)) (rest := st.map (hp_v b)) (b := b.1 + i) hcf (hM D A b) ⟨callB_of as.length hts hGd rfl rfl rfl (hts _ (hw _ (by simp))) (hts _ hwl) hyd ⟨by show dj + 1 ≤ _; omega, by show 8 + (m3 + 11) + 40 * dj ≤ _; have hL9 : m3 ≤ 21 := hL; omega⟩, hy1, hts _ (hw _ (by simp))⟩ ⟨hp_blind D A b zz _ h, fun U hU hW => ⟨rfl, by rw [hU]; exact Nat.le_trans F.2.2.1 hS.1, by rw [hU]; exact hP, F.2.1.warm hW⟩⟩ rfl (by rw [List.length_map]) hl.1 (show (F0 m pc ls _).stack = _ from by simp [hp_v]) (lv_room (by rw [hp_wcat]; exact hrest)) hdg ⟨by omega, by omega⟩) hS (fun v h' H1 locs1 hq hP1 hS1 => by
    have hgo := kk v h' hq p e R s m args below meth c Z D A b H1 locs1 ls (cells + kj) (slots + nj) mc ms F (by omega) (by omega) hP1 hS1 hl
    rw [hp_stk] at hgo
    exact hgo)
theorem hp_callIN {y : MethodName} {mj : hp_Mi} {dj kj nj idx : Nat} {as : List Value} {Q' : Option Value → hp_H → Prop} {i : Nat} {host : String} (hM : hp_Cn l y mj dj zz kj nj (.ref i :: as) h Q') (hd : dj + 1 ≤ d) (hL : mj.2.2.1 ≤ 21) (hrest : (st.map fun v => v.category).sum ≤ 8) (hyd : y.cls ≠ "java/lang/invoke/MethodHandle" ∧ y.cls ≠ "java/lang/invoke/VarHandle" ∧ (parseMethodDescriptor y.desc).map (fun d => d.parameters.length) = some as.length) (hwl : Cond.methodLinkNest mi.1 idx y host ∈ nw_) (hw : ∀ w ∈ ([.instanceMethod y, .initialized y.cls, .code y mj.2.1 mj.2.2.1 mj.2.2.2.1] : List Cond), w ∈ tg_) (hy1 : y.name = "<init>") (hvr : mj.2.2.2.1 = none) (hdg : decode mi.2.1 pc = .ok (.invokespecial idx, 3)) {st0 : List Value} (hst : st0 = (as.reverse ++ .ref i :: st)) (kk : ∀ v h', Q' v h' → hp_G l mi X d zr Q zz k n (pc + 3) lv (v.toList ++ st) h') : hp_G l mi X d zr Q zz (kj + k) (nj + n) pc lv st0 h := by
  intro p e R s m args below meth c Z D A b H locs ls cells slots mc ms F a1 a2 hP hS hl
  subst hst
  have hS0 := hS
  have r1 := F.2.2.2.2.1
  have hts := F.1.2.2.2.2.2.2.1
  have hcf : CallFix p m c mi.2.1 mi.2.2.1 s args tg_ mi.1 := ⟨F.1.1, F.1.2.1, F.1.2.2.1, F.1.2.2.2.2.1, hts⟩
  have hGd : GoodIn tg_ (.code y mj.2.1 mj.2.2.1 mj.2.2.2.1 :: tg_) := hp_good (fun w hw' => by
    rcases List.mem_cons.mp hw' with rfl | h9
    · exact hw _ (by simp)
    · exact h9)
  obtain ⟨m1, m2, m3, m4, m5⟩ := mj
  dsimp only at hvr
  subst hvr
  refine hp_after (va_runIN (As := as.map (hp_v b)) (rest := st.map (hp_v b)) (b := b.1 + i) hcf (hM D A b) ⟨va_cnB as.length hts hGd rfl rfl rfl (F.2.1.2.1 _ hwl) (hts _ (hw _ (by simp))) hyd ⟨by show dj + 1 ≤ _; omega, by show 8 + (m3 + 11) + 40 * dj ≤ _; have hL9 : m3 ≤ 21 := hL; omega⟩, hy1, hts _ (hw _ (by simp))⟩ ⟨hp_blind D A b zz _ h, fun U hU hW => ⟨rfl, by rw [hU]; exact Nat.le_trans F.2.2.1 hS.1, by rw [hU]; exact hP, F.2.1.warm hW⟩⟩ rfl (by rw [List.length_map]) hl.1 (show (F0 m pc ls _).stack = _ from by simp [hp_v]) (lv_room (by rw [hp_wcat]; exact hrest)) hdg ⟨by omega, by omega⟩) hS (fun v h' H1 locs1 hq hP1 hS1 => by
    have hgo := kk v h' hq p e R s m args below meth c Z D A b H1 locs1 ls (cells + kj) (slots + nj) mc ms F (by omega) (by omega) hP1 hS1 hl
    rw [hp_stk] at hgo
    exact hgo)
end HPD
/-! loops: a body that goes on or ends, with fuel -/
def it_ {S X : Type} (f : S → Option (S ⊕ X)) : Nat → S → Option X
  | 0, _ => none
  | n + 1, s => (f s).bind fun r => match r with
    | .inl t => it_ f n t
    | .inr x => some x
theorem it_rule {S X : Type} {f : S → Option (S ⊕ X)} (P : S → Prop) (E : X → Prop) (hs : ∀ s r, f s = some r → (∀ t, r = .inl t → P t) → (∀ x, r = .inr x → E x) → P s) : ∀ n s x, it_ f n s = some x → E x → P s := by
  intro n
  induction n with
  | zero => intro s x h; cases h
  | succ n ih =>
    intro s x h hE
    obtain ⟨r, h1, h2⟩ := ob_ h
    refine hs s r h1 (fun t e => ?_) (fun y e => ?_)
    · subst e
      exact ih t x h2 hE
    · subst e
      cases h2
      exact hE
def fu_ : Nat := 5000
end
