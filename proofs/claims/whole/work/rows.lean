section
-- ===== PART A: goes FIRST, ahead of the names: the tables' words, and 'selects' of the private methods out of them =====
/-- a private method of a class that the tables say can be made, by its rows of tables_1 -/
def lw_okq (q : MethodName × Nat) : Prop := (q.1.cls ≠ "java/lang/invoke/MethodHandle" ∧ q.1.cls ≠ "java/lang/invoke/VarHandle") ∧ Cond.instantiable q.1.cls q.2 ∈ tables_1 ∧ Cond.privateMethod q.1 ∈ tables_1 ∧ Cond.instanceMethod q.1 ∈ tables_1
theorem lw_p0 : lw_okq (⟨"TimeLinks$Letters", "forgetLinks", "()V"⟩, 8) := ⟨⟨by decide +kernel, by decide +kernel⟩, List.mem_of_getElem? (i := 20) (by decide +kernel), List.mem_of_getElem? (i := 233) (by decide +kernel), List.mem_of_getElem? (i := 234) (by decide +kernel)⟩
theorem lw_p1 : lw_okq (⟨"TimeLinks$Letters", "faultOfEvent", "(I)I"⟩, 8) := ⟨⟨by decide +kernel, by decide +kernel⟩, List.mem_of_getElem? (i := 20) (by decide +kernel), List.mem_of_getElem? (i := 237) (by decide +kernel), List.mem_of_getElem? (i := 238) (by decide +kernel)⟩
theorem lw_p2 : lw_okq (⟨"TimeLinks$Letters", "partners", "(IC)I"⟩, 8) := ⟨⟨by decide +kernel, by decide +kernel⟩, List.mem_of_getElem? (i := 20) (by decide +kernel), List.mem_of_getElem? (i := 244) (by decide +kernel), List.mem_of_getElem? (i := 245) (by decide +kernel)⟩
theorem lw_p3 : lw_okq (⟨"TimeLinks$Letters", "takeEvent", "(I)V"⟩, 8) := ⟨⟨by decide +kernel, by decide +kernel⟩, List.mem_of_getElem? (i := 20) (by decide +kernel), List.mem_of_getElem? (i := 248) (by decide +kernel), List.mem_of_getElem? (i := 249) (by decide +kernel)⟩
theorem lw_p4 : lw_okq (⟨"TimeLinks$Spans", "isOf", "(III)Z"⟩, 5) := ⟨⟨by decide +kernel, by decide +kernel⟩, List.mem_of_getElem? (i := 54) (by decide +kernel), List.mem_of_getElem? (i := 272) (by decide +kernel), List.mem_of_getElem? (i := 273) (by decide +kernel)⟩
theorem lw_p5 : lw_okq (⟨"TimeLinks$Spans", "fills", "(II)Z"⟩, 5) := ⟨⟨by decide +kernel, by decide +kernel⟩, List.mem_of_getElem? (i := 54) (by decide +kernel), List.mem_of_getElem? (i := 312) (by decide +kernel), List.mem_of_getElem? (i := 313) (by decide +kernel)⟩
theorem lw_p6 : lw_okq (⟨"TimeLinks$Spans", "takeFrom", "(LTimeLinks$Spans;II)V"⟩, 5) := ⟨⟨by decide +kernel, by decide +kernel⟩, List.mem_of_getElem? (i := 54) (by decide +kernel), List.mem_of_getElem? (i := 332) (by decide +kernel), List.mem_of_getElem? (i := 333) (by decide +kernel)⟩
theorem lw_p7 : lw_okq (⟨"TimeLinks", "rememberIfDone", "(I)I"⟩, 10) := ⟨⟨by decide +kernel, by decide +kernel⟩, List.mem_of_getElem? (i := 12) (by decide +kernel), List.mem_of_getElem? (i := 337) (by decide +kernel), List.mem_of_getElem? (i := 338) (by decide +kernel)⟩
theorem lw_p8 : lw_okq (⟨"TimeLinks$Acts", "forgetFirst", "()V"⟩, 2) := ⟨⟨by decide +kernel, by decide +kernel⟩, List.mem_of_getElem? (i := 88) (by decide +kernel), List.mem_of_getElem? (i := 345) (by decide +kernel), List.mem_of_getElem? (i := 346) (by decide +kernel)⟩
theorem lw_p9 : lw_okq (⟨"TimeLinks$Forest", "takeApart", "()V"⟩, 4) := ⟨⟨by decide +kernel, by decide +kernel⟩, List.mem_of_getElem? (i := 105) (by decide +kernel), List.mem_of_getElem? (i := 383) (by decide +kernel), List.mem_of_getElem? (i := 384) (by decide +kernel)⟩
theorem lw_p10 : lw_okq (⟨"TimeLinks$Forest", "joinAllOn", "(LTimeLinks$Spans;I)I"⟩, 4) := ⟨⟨by decide +kernel, by decide +kernel⟩, List.mem_of_getElem? (i := 105) (by decide +kernel), List.mem_of_getElem? (i := 387) (by decide +kernel), List.mem_of_getElem? (i := 388) (by decide +kernel)⟩
theorem lw_p11 : lw_okq (⟨"TimeLinks$Forest", "join", "(II)Z"⟩, 4) := ⟨⟨by decide +kernel, by decide +kernel⟩, List.mem_of_getElem? (i := 105) (by decide +kernel), List.mem_of_getElem? (i := 392) (by decide +kernel), List.mem_of_getElem? (i := 393) (by decide +kernel)⟩
theorem lw_p12 : lw_okq (⟨"TimeLinks$Forest", "hangsBelow", "(II)Z"⟩, 4) := ⟨⟨by decide +kernel, by decide +kernel⟩, List.mem_of_getElem? (i := 105) (by decide +kernel), List.mem_of_getElem? (i := 404) (by decide +kernel), List.mem_of_getElem? (i := 405) (by decide +kernel)⟩
theorem lw_p13 : lw_okq (⟨"TimeLinks$Forest", "hang", "(III)V"⟩, 4) := ⟨⟨by decide +kernel, by decide +kernel⟩, List.mem_of_getElem? (i := 105) (by decide +kernel), List.mem_of_getElem? (i := 408) (by decide +kernel), List.mem_of_getElem? (i := 409) (by decide +kernel)⟩
theorem lw_p14 : lw_okq (⟨"TimeLinks", "lyingOnAll", "()I"⟩, 10) := ⟨⟨by decide +kernel, by decide +kernel⟩, List.mem_of_getElem? (i := 12) (by decide +kernel), List.mem_of_getElem? (i := 465) (by decide +kernel), List.mem_of_getElem? (i := 466) (by decide +kernel)⟩
theorem lw_p15 : lw_okq (⟨"TimeLinks", "joiningOnAll", "()I"⟩, 10) := ⟨⟨by decide +kernel, by decide +kernel⟩, List.mem_of_getElem? (i := 12) (by decide +kernel), List.mem_of_getElem? (i := 475) (by decide +kernel), List.mem_of_getElem? (i := 476) (by decide +kernel)⟩
def lw_privs_1 : List (MethodName × Nat) := [(⟨"TimeLinks$Letters", "forgetLinks", "()V"⟩, 8), (⟨"TimeLinks$Letters", "faultOfEvent", "(I)I"⟩, 8), (⟨"TimeLinks$Letters", "partners", "(IC)I"⟩, 8), (⟨"TimeLinks$Letters", "takeEvent", "(I)V"⟩, 8), (⟨"TimeLinks$Spans", "isOf", "(III)Z"⟩, 5), (⟨"TimeLinks$Spans", "fills", "(II)Z"⟩, 5), (⟨"TimeLinks$Spans", "takeFrom", "(LTimeLinks$Spans;II)V"⟩, 5), (⟨"TimeLinks", "rememberIfDone", "(I)I"⟩, 10), (⟨"TimeLinks$Acts", "forgetFirst", "()V"⟩, 2), (⟨"TimeLinks$Forest", "takeApart", "()V"⟩, 4), (⟨"TimeLinks$Forest", "joinAllOn", "(LTimeLinks$Spans;I)I"⟩, 4), (⟨"TimeLinks$Forest", "join", "(II)Z"⟩, 4), (⟨"TimeLinks$Forest", "hangsBelow", "(II)Z"⟩, 4), (⟨"TimeLinks$Forest", "hang", "(III)V"⟩, 4), (⟨"TimeLinks", "lyingOnAll", "()I"⟩, 10), (⟨"TimeLinks", "joiningOnAll", "()I"⟩, 10)]
theorem lw_r1 : ∀ q ∈ lw_privs_1, lw_okq q := List.forall_mem_cons.mpr ⟨lw_p0, List.forall_mem_cons.mpr ⟨lw_p1, List.forall_mem_cons.mpr ⟨lw_p2, List.forall_mem_cons.mpr ⟨lw_p3, List.forall_mem_cons.mpr ⟨lw_p4, List.forall_mem_cons.mpr ⟨lw_p5, List.forall_mem_cons.mpr ⟨lw_p6, List.forall_mem_cons.mpr ⟨lw_p7, List.forall_mem_cons.mpr ⟨lw_p8, List.forall_mem_cons.mpr ⟨lw_p9, List.forall_mem_cons.mpr ⟨lw_p10, List.forall_mem_cons.mpr ⟨lw_p11, List.forall_mem_cons.mpr ⟨lw_p12, List.forall_mem_cons.mpr ⟨lw_p13, List.forall_mem_cons.mpr ⟨lw_p14, List.forall_mem_cons.mpr ⟨lw_p15, fun _ h => absurd h List.not_mem_nil⟩⟩⟩⟩⟩⟩⟩⟩⟩⟩⟩⟩⟩⟩⟩⟩
theorem lw_p16 : lw_okq (⟨"TimeLinks", "leastApart", "(II)I"⟩, 10) := ⟨⟨by decide +kernel, by decide +kernel⟩, List.mem_of_getElem? (i := 12) (by decide +kernel), List.mem_of_getElem? (i := 509) (by decide +kernel), List.mem_of_getElem? (i := 510) (by decide +kernel)⟩
theorem lw_p17 : lw_okq (⟨"TimeLinks", "stands", "(I)Z"⟩, 10) := ⟨⟨by decide +kernel, by decide +kernel⟩, List.mem_of_getElem? (i := 12) (by decide +kernel), List.mem_of_getElem? (i := 525) (by decide +kernel), List.mem_of_getElem? (i := 526) (by decide +kernel)⟩
theorem lw_p18 : lw_okq (⟨"TimeLinks", "areJoinedInTrial", "(III)Z"⟩, 10) := ⟨⟨by decide +kernel, by decide +kernel⟩, List.mem_of_getElem? (i := 12) (by decide +kernel), List.mem_of_getElem? (i := 529) (by decide +kernel), List.mem_of_getElem? (i := 530) (by decide +kernel)⟩
theorem lw_p19 : lw_okq (⟨"TimeLinks", "partsInTrial", "(I)I"⟩, 10) := ⟨⟨by decide +kernel, by decide +kernel⟩, List.mem_of_getElem? (i := 12) (by decide +kernel), List.mem_of_getElem? (i := 533) (by decide +kernel), List.mem_of_getElem? (i := 534) (by decide +kernel)⟩
theorem lw_p20 : lw_okq (⟨"TimeLinks", "howManyMissing", "()I"⟩, 10) := ⟨⟨by decide +kernel, by decide +kernel⟩, List.mem_of_getElem? (i := 12) (by decide +kernel), List.mem_of_getElem? (i := 560) (by decide +kernel), List.mem_of_getElem? (i := 561) (by decide +kernel)⟩
theorem lw_p21 : lw_okq (⟨"TimeLinks", "missingEnds", "(IIII)I"⟩, 10) := ⟨⟨by decide +kernel, by decide +kernel⟩, List.mem_of_getElem? (i := 12) (by decide +kernel), List.mem_of_getElem? (i := 565) (by decide +kernel), List.mem_of_getElem? (i := 566) (by decide +kernel)⟩
theorem lw_p22 : lw_okq (⟨"TimeLinks$Sightings", "joinedWith", "(IIII)Z"⟩, 7) := ⟨⟨by decide +kernel, by decide +kernel⟩, List.mem_of_getElem? (i := 153) (by decide +kernel), List.mem_of_getElem? (i := 574) (by decide +kernel), List.mem_of_getElem? (i := 575) (by decide +kernel)⟩
theorem lw_p23 : lw_okq (⟨"TimeLinks$Sightings", "leads", "(III)Z"⟩, 7) := ⟨⟨by decide +kernel, by decide +kernel⟩, List.mem_of_getElem? (i := 153) (by decide +kernel), List.mem_of_getElem? (i := 578) (by decide +kernel), List.mem_of_getElem? (i := 579) (by decide +kernel)⟩
theorem lw_p24 : lw_okq (⟨"TimeLinks", "firstMissing", "()I"⟩, 10) := ⟨⟨by decide +kernel, by decide +kernel⟩, List.mem_of_getElem? (i := 12) (by decide +kernel), List.mem_of_getElem? (i := 582) (by decide +kernel), List.mem_of_getElem? (i := 583) (by decide +kernel)⟩
theorem lw_p25 : lw_okq (⟨"TimeLinks", "ordersInWhichItJoins", "(I)J"⟩, 10) := ⟨⟨by decide +kernel, by decide +kernel⟩, List.mem_of_getElem? (i := 12) (by decide +kernel), List.mem_of_getElem? (i := 594) (by decide +kernel), List.mem_of_getElem? (i := 595) (by decide +kernel)⟩
theorem lw_p26 : lw_okq (⟨"TimeLinks", "chancesOfJoined", "(III)J"⟩, 10) := ⟨⟨by decide +kernel, by decide +kernel⟩, List.mem_of_getElem? (i := 12) (by decide +kernel), List.mem_of_getElem? (i := 615) (by decide +kernel), List.mem_of_getElem? (i := 616) (by decide +kernel)⟩
theorem lw_p27 : lw_okq (⟨"TimeLinks", "addDrawn", "(I)V"⟩, 10) := ⟨⟨by decide +kernel, by decide +kernel⟩, List.mem_of_getElem? (i := 12) (by decide +kernel), List.mem_of_getElem? (i := 630) (by decide +kernel), List.mem_of_getElem? (i := 631) (by decide +kernel)⟩
theorem lw_p28 : lw_okq (⟨"TimeLinksModel", "readText", "()I"⟩, 20) := ⟨⟨by decide +kernel, by decide +kernel⟩, List.mem_of_getElem? (i := 655) (by decide +kernel), List.mem_of_getElem? (i := 738) (by decide +kernel), List.mem_of_getElem? (i := 739) (by decide +kernel)⟩
theorem lw_p29 : lw_okq (⟨"TimeLinksModel", "linksOfAll", "()I"⟩, 20) := ⟨⟨by decide +kernel, by decide +kernel⟩, List.mem_of_getElem? (i := 655) (by decide +kernel), List.mem_of_getElem? (i := 742) (by decide +kernel), List.mem_of_getElem? (i := 743) (by decide +kernel)⟩
theorem lw_p30 : lw_okq (⟨"TimeLinksModel", "linksOf", "(I)I"⟩, 20) := ⟨⟨by decide +kernel, by decide +kernel⟩, List.mem_of_getElem? (i := 655) (by decide +kernel), List.mem_of_getElem? (i := 746) (by decide +kernel), List.mem_of_getElem? (i := 747) (by decide +kernel)⟩
theorem lw_p31 : lw_okq (⟨"TimeLinksModel", "readPair", "(IZI)I"⟩, 20) := ⟨⟨by decide +kernel, by decide +kernel⟩, List.mem_of_getElem? (i := 655) (by decide +kernel), List.mem_of_getElem? (i := 750) (by decide +kernel), List.mem_of_getElem? (i := 751) (by decide +kernel)⟩
def lw_privs_2 : List (MethodName × Nat) := [(⟨"TimeLinks", "leastApart", "(II)I"⟩, 10), (⟨"TimeLinks", "stands", "(I)Z"⟩, 10), (⟨"TimeLinks", "areJoinedInTrial", "(III)Z"⟩, 10), (⟨"TimeLinks", "partsInTrial", "(I)I"⟩, 10), (⟨"TimeLinks", "howManyMissing", "()I"⟩, 10), (⟨"TimeLinks", "missingEnds", "(IIII)I"⟩, 10), (⟨"TimeLinks$Sightings", "joinedWith", "(IIII)Z"⟩, 7), (⟨"TimeLinks$Sightings", "leads", "(III)Z"⟩, 7), (⟨"TimeLinks", "firstMissing", "()I"⟩, 10), (⟨"TimeLinks", "ordersInWhichItJoins", "(I)J"⟩, 10), (⟨"TimeLinks", "chancesOfJoined", "(III)J"⟩, 10), (⟨"TimeLinks", "addDrawn", "(I)V"⟩, 10), (⟨"TimeLinksModel", "readText", "()I"⟩, 20), (⟨"TimeLinksModel", "linksOfAll", "()I"⟩, 20), (⟨"TimeLinksModel", "linksOf", "(I)I"⟩, 20), (⟨"TimeLinksModel", "readPair", "(IZI)I"⟩, 20)]
theorem lw_r2 : ∀ q ∈ lw_privs_2, lw_okq q := List.forall_mem_cons.mpr ⟨lw_p16, List.forall_mem_cons.mpr ⟨lw_p17, List.forall_mem_cons.mpr ⟨lw_p18, List.forall_mem_cons.mpr ⟨lw_p19, List.forall_mem_cons.mpr ⟨lw_p20, List.forall_mem_cons.mpr ⟨lw_p21, List.forall_mem_cons.mpr ⟨lw_p22, List.forall_mem_cons.mpr ⟨lw_p23, List.forall_mem_cons.mpr ⟨lw_p24, List.forall_mem_cons.mpr ⟨lw_p25, List.forall_mem_cons.mpr ⟨lw_p26, List.forall_mem_cons.mpr ⟨lw_p27, List.forall_mem_cons.mpr ⟨lw_p28, List.forall_mem_cons.mpr ⟨lw_p29, List.forall_mem_cons.mpr ⟨lw_p30, List.forall_mem_cons.mpr ⟨lw_p31, fun _ h => absurd h List.not_mem_nil⟩⟩⟩⟩⟩⟩⟩⟩⟩⟩⟩⟩⟩⟩⟩⟩
theorem lw_p32 : lw_okq (⟨"TimeLinksModel", "knotAt", "(I)I"⟩, 20) := ⟨⟨by decide +kernel, by decide +kernel⟩, List.mem_of_getElem? (i := 655) (by decide +kernel), List.mem_of_getElem? (i := 754) (by decide +kernel), List.mem_of_getElem? (i := 755) (by decide +kernel)⟩
theorem lw_p33 : lw_okq (⟨"TimeLinksModel", "isSpan", "(I)Z"⟩, 20) := ⟨⟨by decide +kernel, by decide +kernel⟩, List.mem_of_getElem? (i := 655) (by decide +kernel), List.mem_of_getElem? (i := 774) (by decide +kernel), List.mem_of_getElem? (i := 775) (by decide +kernel)⟩
theorem lw_p34 : lw_okq (⟨"TimeLinksModel", "many", "(I)I"⟩, 20) := ⟨⟨by decide +kernel, by decide +kernel⟩, List.mem_of_getElem? (i := 655) (by decide +kernel), List.mem_of_getElem? (i := 778) (by decide +kernel), List.mem_of_getElem? (i := 779) (by decide +kernel)⟩
theorem lw_p35 : lw_okq (⟨"TimeLinksModel", "spanOf", "(II)I"⟩, 20) := ⟨⟨by decide +kernel, by decide +kernel⟩, List.mem_of_getElem? (i := 655) (by decide +kernel), List.mem_of_getElem? (i := 782) (by decide +kernel), List.mem_of_getElem? (i := 783) (by decide +kernel)⟩
theorem lw_p36 : lw_okq (⟨"TimeLinksModel", "liesOn", "(I)I"⟩, 20) := ⟨⟨by decide +kernel, by decide +kernel⟩, List.mem_of_getElem? (i := 655) (by decide +kernel), List.mem_of_getElem? (i := 818) (by decide +kernel), List.mem_of_getElem? (i := 819) (by decide +kernel)⟩
theorem lw_p37 : lw_okq (⟨"TimeLinksModel", "isFree", "(III)Z"⟩, 20) := ⟨⟨by decide +kernel, by decide +kernel⟩, List.mem_of_getElem? (i := 655) (by decide +kernel), List.mem_of_getElem? (i := 834) (by decide +kernel), List.mem_of_getElem? (i := 835) (by decide +kernel)⟩
theorem lw_p38 : lw_okq (⟨"TimeLinksModel", "keepAct", "()V"⟩, 20) := ⟨⟨by decide +kernel, by decide +kernel⟩, List.mem_of_getElem? (i := 655) (by decide +kernel), List.mem_of_getElem? (i := 838) (by decide +kernel), List.mem_of_getElem? (i := 839) (by decide +kernel)⟩
theorem lw_p39 : lw_okq (⟨"TimeLinksModel", "putOn", "(II)V"⟩, 20) := ⟨⟨by decide +kernel, by decide +kernel⟩, List.mem_of_getElem? (i := 655) (by decide +kernel), List.mem_of_getElem? (i := 842) (by decide +kernel), List.mem_of_getElem? (i := 843) (by decide +kernel)⟩
theorem lw_p40 : lw_okq (⟨"TimeLinksModel", "cutOn", "(II)V"⟩, 20) := ⟨⟨by decide +kernel, by decide +kernel⟩, List.mem_of_getElem? (i := 655) (by decide +kernel), List.mem_of_getElem? (i := 850) (by decide +kernel), List.mem_of_getElem? (i := 851) (by decide +kernel)⟩
theorem lw_p41 : lw_okq (⟨"TimeLinksModel", "canEnd", "(III)Z"⟩, 20) := ⟨⟨by decide +kernel, by decide +kernel⟩, List.mem_of_getElem? (i := 655) (by decide +kernel), List.mem_of_getElem? (i := 858) (by decide +kernel), List.mem_of_getElem? (i := 859) (by decide +kernel)⟩
theorem lw_p42 : lw_okq (⟨"TimeLinksModel", "endOn", "(III)V"⟩, 20) := ⟨⟨by decide +kernel, by decide +kernel⟩, List.mem_of_getElem? (i := 655) (by decide +kernel), List.mem_of_getElem? (i := 862) (by decide +kernel), List.mem_of_getElem? (i := 863) (by decide +kernel)⟩
theorem lw_p43 : lw_okq (⟨"TimeLinksModel", "partsBy", "(III)I"⟩, 20) := ⟨⟨by decide +kernel, by decide +kernel⟩, List.mem_of_getElem? (i := 655) (by decide +kernel), List.mem_of_getElem? (i := 875) (by decide +kernel), List.mem_of_getElem? (i := 876) (by decide +kernel)⟩
theorem lw_p44 : lw_okq (⟨"TimeLinksModel", "clearKnots", "()V"⟩, 20) := ⟨⟨by decide +kernel, by decide +kernel⟩, List.mem_of_getElem? (i := 655) (by decide +kernel), List.mem_of_getElem? (i := 879) (by decide +kernel), List.mem_of_getElem? (i := 880) (by decide +kernel)⟩
theorem lw_p45 : lw_okq (⟨"TimeLinksModel", "joins", "(I)Z"⟩, 20) := ⟨⟨by decide +kernel, by decide +kernel⟩, List.mem_of_getElem? (i := 655) (by decide +kernel), List.mem_of_getElem? (i := 889) (by decide +kernel), List.mem_of_getElem? (i := 890) (by decide +kernel)⟩
theorem lw_p46 : lw_okq (⟨"TimeLinksModel", "rootOf", "(I)I"⟩, 20) := ⟨⟨by decide +kernel, by decide +kernel⟩, List.mem_of_getElem? (i := 655) (by decide +kernel), List.mem_of_getElem? (i := 893) (by decide +kernel), List.mem_of_getElem? (i := 894) (by decide +kernel)⟩
theorem lw_p47 : lw_okq (⟨"TimeLinksModel", "livingAt", "(I)I"⟩, 20) := ⟨⟨by decide +kernel, by decide +kernel⟩, List.mem_of_getElem? (i := 655) (by decide +kernel), List.mem_of_getElem? (i := 897) (by decide +kernel), List.mem_of_getElem? (i := 898) (by decide +kernel)⟩
def lw_privs_3 : List (MethodName × Nat) := [(⟨"TimeLinksModel", "knotAt", "(I)I"⟩, 20), (⟨"TimeLinksModel", "isSpan", "(I)Z"⟩, 20), (⟨"TimeLinksModel", "many", "(I)I"⟩, 20), (⟨"TimeLinksModel", "spanOf", "(II)I"⟩, 20), (⟨"TimeLinksModel", "liesOn", "(I)I"⟩, 20), (⟨"TimeLinksModel", "isFree", "(III)Z"⟩, 20), (⟨"TimeLinksModel", "keepAct", "()V"⟩, 20), (⟨"TimeLinksModel", "putOn", "(II)V"⟩, 20), (⟨"TimeLinksModel", "cutOn", "(II)V"⟩, 20), (⟨"TimeLinksModel", "canEnd", "(III)Z"⟩, 20), (⟨"TimeLinksModel", "endOn", "(III)V"⟩, 20), (⟨"TimeLinksModel", "partsBy", "(III)I"⟩, 20), (⟨"TimeLinksModel", "clearKnots", "()V"⟩, 20), (⟨"TimeLinksModel", "joins", "(I)Z"⟩, 20), (⟨"TimeLinksModel", "rootOf", "(I)I"⟩, 20), (⟨"TimeLinksModel", "livingAt", "(I)I"⟩, 20)]
theorem lw_r3 : ∀ q ∈ lw_privs_3, lw_okq q := List.forall_mem_cons.mpr ⟨lw_p32, List.forall_mem_cons.mpr ⟨lw_p33, List.forall_mem_cons.mpr ⟨lw_p34, List.forall_mem_cons.mpr ⟨lw_p35, List.forall_mem_cons.mpr ⟨lw_p36, List.forall_mem_cons.mpr ⟨lw_p37, List.forall_mem_cons.mpr ⟨lw_p38, List.forall_mem_cons.mpr ⟨lw_p39, List.forall_mem_cons.mpr ⟨lw_p40, List.forall_mem_cons.mpr ⟨lw_p41, List.forall_mem_cons.mpr ⟨lw_p42, List.forall_mem_cons.mpr ⟨lw_p43, List.forall_mem_cons.mpr ⟨lw_p44, List.forall_mem_cons.mpr ⟨lw_p45, List.forall_mem_cons.mpr ⟨lw_p46, List.forall_mem_cons.mpr ⟨lw_p47, fun _ h => absurd h List.not_mem_nil⟩⟩⟩⟩⟩⟩⟩⟩⟩⟩⟩⟩⟩⟩⟩⟩
theorem lw_p48 : lw_okq (⟨"TimeLinksModel", "oddParts", "(I)I"⟩, 20) := ⟨⟨by decide +kernel, by decide +kernel⟩, List.mem_of_getElem? (i := 655) (by decide +kernel), List.mem_of_getElem? (i := 901) (by decide +kernel), List.mem_of_getElem? (i := 902) (by decide +kernel)⟩
theorem lw_p49 : lw_okq (⟨"TimeLinksModel", "findSides", "(I)V"⟩, 20) := ⟨⟨by decide +kernel, by decide +kernel⟩, List.mem_of_getElem? (i := 655) (by decide +kernel), List.mem_of_getElem? (i := 905) (by decide +kernel), List.mem_of_getElem? (i := 906) (by decide +kernel)⟩
theorem lw_p50 : lw_okq (⟨"TimeLinksModel", "spreadSides", "(I)V"⟩, 20) := ⟨⟨by decide +kernel, by decide +kernel⟩, List.mem_of_getElem? (i := 655) (by decide +kernel), List.mem_of_getElem? (i := 909) (by decide +kernel), List.mem_of_getElem? (i := 910) (by decide +kernel)⟩
theorem lw_p51 : lw_okq (⟨"TimeLinksModel", "greatestDepth", "(I)I"⟩, 20) := ⟨⟨by decide +kernel, by decide +kernel⟩, List.mem_of_getElem? (i := 655) (by decide +kernel), List.mem_of_getElem? (i := 913) (by decide +kernel), List.mem_of_getElem? (i := 914) (by decide +kernel)⟩
theorem lw_p52 : lw_okq (⟨"TimeLinksModel", "walkTo", "(I)I"⟩, 20) := ⟨⟨by decide +kernel, by decide +kernel⟩, List.mem_of_getElem? (i := 655) (by decide +kernel), List.mem_of_getElem? (i := 917) (by decide +kernel), List.mem_of_getElem? (i := 918) (by decide +kernel)⟩
theorem lw_p53 : lw_okq (⟨"TimeLinksModel", "depthAt", "(I)I"⟩, 20) := ⟨⟨by decide +kernel, by decide +kernel⟩, List.mem_of_getElem? (i := 655) (by decide +kernel), List.mem_of_getElem? (i := 921) (by decide +kernel), List.mem_of_getElem? (i := 922) (by decide +kernel)⟩
theorem lw_p54 : lw_okq (⟨"TimeLinksModel", "greatestPart", "(I)I"⟩, 20) := ⟨⟨by decide +kernel, by decide +kernel⟩, List.mem_of_getElem? (i := 655) (by decide +kernel), List.mem_of_getElem? (i := 925) (by decide +kernel), List.mem_of_getElem? (i := 926) (by decide +kernel)⟩
theorem lw_p55 : lw_okq (⟨"TimeLinksModel", "areJoined", "(IIIII)Z"⟩, 20) := ⟨⟨by decide +kernel, by decide +kernel⟩, List.mem_of_getElem? (i := 655) (by decide +kernel), List.mem_of_getElem? (i := 938) (by decide +kernel), List.mem_of_getElem? (i := 939) (by decide +kernel)⟩
theorem lw_p56 : lw_okq (⟨"TimeLinksModel", "layTrial", "()V"⟩, 20) := ⟨⟨by decide +kernel, by decide +kernel⟩, List.mem_of_getElem? (i := 655) (by decide +kernel), List.mem_of_getElem? (i := 974) (by decide +kernel), List.mem_of_getElem? (i := 975) (by decide +kernel)⟩
theorem lw_p57 : lw_okq (⟨"TimeLinksModel", "tryThing", "(III)Z"⟩, 20) := ⟨⟨by decide +kernel, by decide +kernel⟩, List.mem_of_getElem? (i := 655) (by decide +kernel), List.mem_of_getElem? (i := 978) (by decide +kernel), List.mem_of_getElem? (i := 979) (by decide +kernel)⟩
theorem lw_p58 : lw_okq (⟨"TimeLinksModel", "canPut", "(IIIII)Z"⟩, 20) := ⟨⟨by decide +kernel, by decide +kernel⟩, List.mem_of_getElem? (i := 655) (by decide +kernel), List.mem_of_getElem? (i := 982) (by decide +kernel), List.mem_of_getElem? (i := 983) (by decide +kernel)⟩
theorem lw_p59 : lw_okq (⟨"TimeLinksModel", "mayBe", "(I)Z"⟩, 20) := ⟨⟨by decide +kernel, by decide +kernel⟩, List.mem_of_getElem? (i := 655) (by decide +kernel), List.mem_of_getElem? (i := 998) (by decide +kernel), List.mem_of_getElem? (i := 999) (by decide +kernel)⟩
theorem lw_p60 : lw_okq (⟨"TimeLinksModel", "findLiving", "(I)I"⟩, 20) := ⟨⟨by decide +kernel, by decide +kernel⟩, List.mem_of_getElem? (i := 655) (by decide +kernel), List.mem_of_getElem? (i := 1007) (by decide +kernel), List.mem_of_getElem? (i := 1008) (by decide +kernel)⟩
theorem lw_p61 : lw_okq (⟨"TimeLinksModel", "spansOf", "(II)I"⟩, 20) := ⟨⟨by decide +kernel, by decide +kernel⟩, List.mem_of_getElem? (i := 655) (by decide +kernel), List.mem_of_getElem? (i := 1011) (by decide +kernel), List.mem_of_getElem? (i := 1012) (by decide +kernel)⟩
theorem lw_p62 : lw_okq (⟨"TimeLinksModel", "filledTimes", "()I"⟩, 20) := ⟨⟨by decide +kernel, by decide +kernel⟩, List.mem_of_getElem? (i := 655) (by decide +kernel), List.mem_of_getElem? (i := 1049) (by decide +kernel), List.mem_of_getElem? (i := 1050) (by decide +kernel)⟩
theorem lw_p63 : lw_okq (⟨"TimeLinksModel", "timesTogether", "()I"⟩, 20) := ⟨⟨by decide +kernel, by decide +kernel⟩, List.mem_of_getElem? (i := 655) (by decide +kernel), List.mem_of_getElem? (i := 1053) (by decide +kernel), List.mem_of_getElem? (i := 1054) (by decide +kernel)⟩
def lw_privs_4 : List (MethodName × Nat) := [(⟨"TimeLinksModel", "oddParts", "(I)I"⟩, 20), (⟨"TimeLinksModel", "findSides", "(I)V"⟩, 20), (⟨"TimeLinksModel", "spreadSides", "(I)V"⟩, 20), (⟨"TimeLinksModel", "greatestDepth", "(I)I"⟩, 20), (⟨"TimeLinksModel", "walkTo", "(I)I"⟩, 20), (⟨"TimeLinksModel", "depthAt", "(I)I"⟩, 20), (⟨"TimeLinksModel", "greatestPart", "(I)I"⟩, 20), (⟨"TimeLinksModel", "areJoined", "(IIIII)Z"⟩, 20), (⟨"TimeLinksModel", "layTrial", "()V"⟩, 20), (⟨"TimeLinksModel", "tryThing", "(III)Z"⟩, 20), (⟨"TimeLinksModel", "canPut", "(IIIII)Z"⟩, 20), (⟨"TimeLinksModel", "mayBe", "(I)Z"⟩, 20), (⟨"TimeLinksModel", "findLiving", "(I)I"⟩, 20), (⟨"TimeLinksModel", "spansOf", "(II)I"⟩, 20), (⟨"TimeLinksModel", "filledTimes", "()I"⟩, 20), (⟨"TimeLinksModel", "timesTogether", "()I"⟩, 20)]
theorem lw_r4 : ∀ q ∈ lw_privs_4, lw_okq q := List.forall_mem_cons.mpr ⟨lw_p48, List.forall_mem_cons.mpr ⟨lw_p49, List.forall_mem_cons.mpr ⟨lw_p50, List.forall_mem_cons.mpr ⟨lw_p51, List.forall_mem_cons.mpr ⟨lw_p52, List.forall_mem_cons.mpr ⟨lw_p53, List.forall_mem_cons.mpr ⟨lw_p54, List.forall_mem_cons.mpr ⟨lw_p55, List.forall_mem_cons.mpr ⟨lw_p56, List.forall_mem_cons.mpr ⟨lw_p57, List.forall_mem_cons.mpr ⟨lw_p58, List.forall_mem_cons.mpr ⟨lw_p59, List.forall_mem_cons.mpr ⟨lw_p60, List.forall_mem_cons.mpr ⟨lw_p61, List.forall_mem_cons.mpr ⟨lw_p62, List.forall_mem_cons.mpr ⟨lw_p63, fun _ h => absurd h List.not_mem_nil⟩⟩⟩⟩⟩⟩⟩⟩⟩⟩⟩⟩⟩⟩⟩⟩
def lw_privs : List (MethodName × Nat) := lw_privs_1 ++ (lw_privs_2 ++ (lw_privs_3 ++ (lw_privs_4)))
def lw_tbl : List Cond := k2_sels lw_privs ++ tables_1
theorem lw_privs_ok : ∀ q ∈ lw_privs, lw_okq q := by
  show ∀ q ∈ lw_privs_1 ++ (lw_privs_2 ++ (lw_privs_3 ++ (lw_privs_4))), lw_okq q
  exact List.forall_mem_append.mpr ⟨lw_r1, List.forall_mem_append.mpr ⟨lw_r2, List.forall_mem_append.mpr ⟨lw_r3, lw_r4⟩⟩⟩
end
section
def RX0 : String := "TimeLinks$Acts"
def TX0 : u_T := fun k => match k with
  | 0 => ("TimeLinks$Acts", "ahead", "[LTimeLinks$Spans;", true)
  | _ => ("TimeLinks$Acts", "size", "I", false)
def tyX0 : Nat → FieldType := fun k => match k with
  | 0 => .array (.object "TimeLinks$Spans")
  | _ => .int
theorem nmX0 : ∀ a, a < 2 → ∀ b, b < 2 → a ≠ b → (TX0 a).2.1 ≠ (TX0 b).2.1 := by decide +kernel
theorem tyX0_ok : ∀ k, k < 2 → parseFieldDescriptor (TX0 k).2.2.1 = some (tyX0 k) := by decide +kernel
abbrev cX0_init : ByteArray := prog_2_method_1_code
def yX0_init : MethodName := ⟨RX0, "<init>", "()V"⟩
abbrev cX0_remember : ByteArray := prog_2_method_2_code
def yX0_remember : MethodName := ⟨RX0, "remember", "(LTimeLinks$Spans;)V"⟩
abbrev cX0_forgetFirst : ByteArray := prog_2_method_3_code
def yX0_forgetFirst : MethodName := ⟨RX0, "forgetFirst", "()V"⟩
abbrev cX0_takeBackLast : ByteArray := prog_2_method_4_code
def yX0_takeBackLast : MethodName := ⟨RX0, "takeBackLast", "(LTimeLinks$Spans;)V"⟩
def RX1 : String := "TimeLinks$Alive"
def TX1 : u_T := fun k => match k with
  | 0 => ("TimeLinks$Alive", "number", "[I", true)
  | 1 => ("TimeLinks$Alive", "lesser", "[I", true)
  | 2 => ("TimeLinks$Alive", "other", "[I", true)
  | 3 => ("TimeLinks$Alive", "pair", "[I", true)
  | _ => ("TimeLinks$Alive", "size", "I", false)
def tyX1 : Nat → FieldType := fun k => match k with
  | 0 => .array .int
  | 1 => .array .int
  | 2 => .array .int
  | 3 => .array .int
  | _ => .int
theorem nmX1 : ∀ a, a < 5 → ∀ b, b < 5 → a ≠ b → (TX1 a).2.1 ≠ (TX1 b).2.1 := by decide +kernel
theorem tyX1_ok : ∀ k, k < 5 → parseFieldDescriptor (TX1 k).2.2.1 = some (tyX1 k) := by decide +kernel
abbrev cX1_init : ByteArray := prog_3_method_1_code
def yX1_init : MethodName := ⟨RX1, "<init>", "()V"⟩
abbrev cX1_gather : ByteArray := prog_3_method_2_code
def yX1_gather : MethodName := ⟨RX1, "gather", "(LTimeLinks$Spans;I)V"⟩
abbrev cX1_all : ByteArray := prog_3_method_3_code
def yX1_all : MethodName := ⟨RX1, "all", "()I"⟩
abbrev cX1_placeOf : ByteArray := prog_3_method_4_code
def yX1_placeOf : MethodName := ⟨RX1, "placeOf", "(I)I"⟩
abbrev cX1_numbersOf : ByteArray := prog_3_method_5_code
def yX1_numbersOf : MethodName := ⟨RX1, "numbersOf", "(I)I"⟩
abbrev cX1_reach : ByteArray := prog_3_method_6_code
def yX1_reach : MethodName := ⟨RX1, "reach", "(II)I"⟩
abbrev cX1_areJoined : ByteArray := prog_3_method_7_code
def yX1_areJoined : MethodName := ⟨RX1, "areJoined", "(III)Z"⟩
def RX2 : String := "TimeLinks$Forest"
def TX2 : u_T := fun k => match k with
  | 0 => ("TimeLinks$Forest", "above", "[I", true)
  | 1 => ("TimeLinks$Forest", "size", "[I", true)
  | 2 => ("TimeLinks$Forest", "turn", "[I", true)
  | _ => ("TimeLinks$Forest", "odd", "[Z", true)
def tyX2 : Nat → FieldType := fun k => match k with
  | 0 => .array .int
  | 1 => .array .int
  | 2 => .array .int
  | _ => .array .boolean
theorem nmX2 : ∀ a, a < 4 → ∀ b, b < 4 → a ≠ b → (TX2 a).2.1 ≠ (TX2 b).2.1 := by decide +kernel
theorem tyX2_ok : ∀ k, k < 4 → parseFieldDescriptor (TX2 k).2.2.1 = some (tyX2 k) := by decide +kernel
abbrev cX2_init : ByteArray := prog_4_method_1_code
def yX2_init : MethodName := ⟨RX2, "<init>", "()V"⟩
abbrev cX2_takeApart : ByteArray := prog_4_method_2_code
def yX2_takeApart : MethodName := ⟨RX2, "takeApart", "()V"⟩
abbrev cX2_walkToTime : ByteArray := prog_4_method_3_code
def yX2_walkToTime : MethodName := ⟨RX2, "walkToTime", "(LTimeLinks$Spans;I)V"⟩
abbrev cX2_walkToNode : ByteArray := prog_4_method_4_code
def yX2_walkToNode : MethodName := ⟨RX2, "walkToNode", "(LTimeLinks$Spans;I)I"⟩
abbrev cX2_joinAllOn : ByteArray := prog_4_method_5_code
def yX2_joinAllOn : MethodName := ⟨RX2, "joinAllOn", "(LTimeLinks$Spans;I)I"⟩
abbrev cX2_join : ByteArray := prog_4_method_6_code
def yX2_join : MethodName := ⟨RX2, "join", "(II)Z"⟩
abbrev cX2_hangsBelow : ByteArray := prog_4_method_7_code
def yX2_hangsBelow : MethodName := ⟨RX2, "hangsBelow", "(II)Z"⟩
abbrev cX2_hang : ByteArray := prog_4_method_8_code
def yX2_hang : MethodName := ⟨RX2, "hang", "(III)V"⟩
abbrev cX2_rootOf : ByteArray := prog_4_method_9_code
def yX2_rootOf : MethodName := ⟨RX2, "rootOf", "(I)I"⟩
abbrev cX2_depthOf : ByteArray := prog_4_method_10_code
def yX2_depthOf : MethodName := ⟨RX2, "depthOf", "(I)I"⟩
abbrev cX2_turnOf : ByteArray := prog_4_method_11_code
def yX2_turnOf : MethodName := ⟨RX2, "turnOf", "(I)I"⟩
abbrev cX2_areJoined : ByteArray := prog_4_method_12_code
def yX2_areJoined : MethodName := ⟨RX2, "areJoined", "(II)Z"⟩
abbrev cX2_parts : ByteArray := prog_4_method_13_code
def yX2_parts : MethodName := ⟨RX2, "parts", "()I"⟩
abbrev cX2_oddParts : ByteArray := prog_4_method_14_code
def yX2_oddParts : MethodName := ⟨RX2, "oddParts", "()I"⟩
abbrev cX2_greatestDepth : ByteArray := prog_4_method_15_code
def yX2_greatestDepth : MethodName := ⟨RX2, "greatestDepth", "()I"⟩
abbrev cX2_greatestSize : ByteArray := prog_4_method_16_code
def yX2_greatestSize : MethodName := ⟨RX2, "greatestSize", "()I"⟩
def RX3 : String := "TimeLinks$Letters"
def TX3 : u_T := fun k => match k with
  | 0 => ("TimeLinks$Letters", "letters", "[C", true)
  | 1 => ("TimeLinks$Letters", "length", "I", false)
  | 2 => ("TimeLinks$Letters", "linkedWith", "[I", true)
  | 3 => ("TimeLinks$Letters", "links", "I", false)
  | 4 => ("TimeLinks$Letters", "sign", "[C", true)
  | 5 => ("TimeLinks$Letters", "one", "[I", true)
  | 6 => ("TimeLinks$Letters", "two", "[I", true)
  | _ => ("TimeLinks$Letters", "events", "I", false)
def tyX3 : Nat → FieldType := fun k => match k with
  | 0 => .array .char
  | 1 => .int
  | 2 => .array .int
  | 3 => .int
  | 4 => .array .char
  | 5 => .array .int
  | 6 => .array .int
  | _ => .int
theorem nmX3 : ∀ a, a < 8 → ∀ b, b < 8 → a ≠ b → (TX3 a).2.1 ≠ (TX3 b).2.1 := by decide +kernel
theorem tyX3_ok : ∀ k, k < 8 → parseFieldDescriptor (TX3 k).2.2.1 = some (tyX3 k) := by decide +kernel
abbrev cX3_init : ByteArray := prog_5_method_1_code
def yX3_init : MethodName := ⟨RX3, "<init>", "()V"⟩
abbrev cX3_append : ByteArray := prog_5_method_2_code
def yX3_append : MethodName := ⟨RX3, "append", "(I)I"⟩
abbrev cX3_firstFault : ByteArray := prog_5_method_3_code
def yX3_firstFault : MethodName := ⟨RX3, "firstFault", "()I"⟩
abbrev cX3_forgetLinks : ByteArray := prog_5_method_4_code
def yX3_forgetLinks : MethodName := ⟨RX3, "forgetLinks", "()V"⟩
abbrev cX3_faultOfEvent : ByteArray := prog_5_method_5_code
def yX3_faultOfEvent : MethodName := ⟨RX3, "faultOfEvent", "(I)I"⟩
abbrev cX3_partners : ByteArray := prog_5_method_6_code
def yX3_partners : MethodName := ⟨RX3, "partners", "(IC)I"⟩
abbrev cX3_takeEvent : ByteArray := prog_5_method_7_code
def yX3_takeEvent : MethodName := ⟨RX3, "takeEvent", "(I)V"⟩
abbrev cX3_layOut : ByteArray := prog_5_method_8_code
def yX3_layOut : MethodName := ⟨RX3, "layOut", "(LTimeLinks$Spans;)V"⟩
def RX4 : String := "TimeLinks$Sightings"
def TX4 : u_T := fun k => match k with
  | 0 => ("TimeLinks$Sightings", "time", "[I", true)
  | 1 => ("TimeLinks$Sightings", "one", "[I", true)
  | 2 => ("TimeLinks$Sightings", "two", "[I", true)
  | 3 => ("TimeLinks$Sightings", "wereJoined", "[Z", true)
  | 4 => ("TimeLinks$Sightings", "partOfOne", "[I", true)
  | 5 => ("TimeLinks$Sightings", "partOfTwo", "[I", true)
  | _ => ("TimeLinks$Sightings", "size", "I", false)
def tyX4 : Nat → FieldType := fun k => match k with
  | 0 => .array .int
  | 1 => .array .int
  | 2 => .array .int
  | 3 => .array .boolean
  | 4 => .array .int
  | 5 => .array .int
  | _ => .int
theorem nmX4 : ∀ a, a < 7 → ∀ b, b < 7 → a ≠ b → (TX4 a).2.1 ≠ (TX4 b).2.1 := by decide +kernel
theorem tyX4_ok : ∀ k, k < 7 → parseFieldDescriptor (TX4 k).2.2.1 = some (tyX4 k) := by decide +kernel
abbrev cX4_init : ByteArray := prog_6_method_1_code
def yX4_init : MethodName := ⟨RX4, "<init>", "()V"⟩
abbrev cX4_add : ByteArray := prog_6_method_2_code
def yX4_add : MethodName := ⟨RX4, "add", "(IIIZ)I"⟩
abbrev cX4_lookAt : ByteArray := prog_6_method_3_code
def yX4_lookAt : MethodName := ⟨RX4, "lookAt", "(LTimeLinks$Spans;LTimeLinks$Alive;)V"⟩
abbrev cX4_allSoWith : ByteArray := prog_6_method_4_code
def yX4_allSoWith : MethodName := ⟨RX4, "allSoWith", "(III)Z"⟩
abbrev cX4_joinedWith : ByteArray := prog_6_method_5_code
def yX4_joinedWith : MethodName := ⟨RX4, "joinedWith", "(IIII)Z"⟩
abbrev cX4_leads : ByteArray := prog_6_method_6_code
def yX4_leads : MethodName := ⟨RX4, "leads", "(III)Z"⟩
def RX5 : String := "TimeLinks$Spans"
def TX5 : u_T := fun k => match k with
  | 0 => ("TimeLinks$Spans", "lesser", "[I", true)
  | 1 => ("TimeLinks$Spans", "other", "[I", true)
  | 2 => ("TimeLinks$Spans", "first", "[I", true)
  | 3 => ("TimeLinks$Spans", "last", "[I", true)
  | _ => ("TimeLinks$Spans", "size", "I", false)
def tyX5 : Nat → FieldType := fun k => match k with
  | 0 => .array .int
  | 1 => .array .int
  | 2 => .array .int
  | 3 => .array .int
  | _ => .int
theorem nmX5 : ∀ a, a < 5 → ∀ b, b < 5 → a ≠ b → (TX5 a).2.1 ≠ (TX5 b).2.1 := by decide +kernel
theorem tyX5_ok : ∀ k, k < 5 → parseFieldDescriptor (TX5 k).2.2.1 = some (tyX5 k) := by decide +kernel
abbrev cX5_init : ByteArray := prog_7_method_1_code
def yX5_init : MethodName := ⟨RX5, "<init>", "()V"⟩
abbrev cX5_has : ByteArray := prog_7_method_2_code
def yX5_has : MethodName := ⟨RX5, "has", "(I)Z"⟩
abbrev cX5_copyOf : ByteArray := prog_7_method_3_code
def yX5_copyOf : MethodName := ⟨RX5, "copyOf", "(LTimeLinks$Spans;)V"⟩
abbrev cX5_takeFrom : ByteArray := prog_7_method_4_code
def yX5_takeFrom : MethodName := ⟨RX5, "takeFrom", "(LTimeLinks$Spans;II)V"⟩
abbrev cX5_add : ByteArray := prog_7_method_5_code
def yX5_add : MethodName := ⟨RX5, "add", "(IIII)I"⟩
abbrev cX5_drop : ByteArray := prog_7_method_6_code
def yX5_drop : MethodName := ⟨RX5, "drop", "(I)I"⟩
abbrev cX5_stopAt : ByteArray := prog_7_method_7_code
def yX5_stopAt : MethodName := ⟨RX5, "stopAt", "(II)I"⟩
abbrev cX5_isOf : ByteArray := prog_7_method_8_code
def yX5_isOf : MethodName := ⟨RX5, "isOf", "(III)Z"⟩
abbrev cX5_lastOf : ByteArray := prog_7_method_9_code
def yX5_lastOf : MethodName := ⟨RX5, "lastOf", "(II)I"⟩
abbrev cX5_timesOf : ByteArray := prog_7_method_10_code
def yX5_timesOf : MethodName := ⟨RX5, "timesOf", "(III)I"⟩
abbrev cX5_timesFilled : ByteArray := prog_7_method_11_code
def yX5_timesFilled : MethodName := ⟨RX5, "timesFilled", "()I"⟩
abbrev cX5_timesTogether : ByteArray := prog_7_method_12_code
def yX5_timesTogether : MethodName := ⟨RX5, "timesTogether", "()I"⟩
abbrev cX5_livesAt : ByteArray := prog_7_method_13_code
def yX5_livesAt : MethodName := ⟨RX5, "livesAt", "(II)Z"⟩
abbrev cX5_livingAt : ByteArray := prog_7_method_14_code
def yX5_livingAt : MethodName := ⟨RX5, "livingAt", "(I)I"⟩
abbrev cX5_fills : ByteArray := prog_7_method_15_code
def yX5_fills : MethodName := ⟨RX5, "fills", "(II)Z"⟩
abbrev cX5_lies : ByteArray := prog_7_method_16_code
def yX5_lies : MethodName := ⟨RX5, "lies", "(II)Z"⟩
abbrev cX5_lyingOn : ByteArray := prog_7_method_17_code
def yX5_lyingOn : MethodName := ⟨RX5, "lyingOn", "(I)I"⟩
abbrev cX5_howManyNodes : ByteArray := prog_7_method_18_code
def yX5_howManyNodes : MethodName := ⟨RX5, "howManyNodes", "(I)I"⟩
def RX6 : String := "TimeLinks"
def TX6 : u_T := fun k => match k with
  | 0 => ("TimeLinks", "text", "LTimeLinks$Letters;", true)
  | 1 => ("TimeLinks", "spans", "LTimeLinks$Spans;", true)
  | 2 => ("TimeLinks", "trial", "LTimeLinks$Spans;", true)
  | 3 => ("TimeLinks", "acts", "LTimeLinks$Acts;", true)
  | 4 => ("TimeLinks", "forest", "LTimeLinks$Forest;", true)
  | 5 => ("TimeLinks", "alive", "LTimeLinks$Alive;", true)
  | 6 => ("TimeLinks", "seen", "LTimeLinks$Sightings;", true)
  | 7 => ("TimeLinks", "kept", "[LTimeLinks$Spans;", true)
  | 8 => ("TimeLinks", "isKept", "[Z", true)
  | _ => ("TimeLinks", "seedNow", "J", false)
def tyX6 : Nat → FieldType := fun k => match k with
  | 0 => .object "TimeLinks$Letters"
  | 1 => .object "TimeLinks$Spans"
  | 2 => .object "TimeLinks$Spans"
  | 3 => .object "TimeLinks$Acts"
  | 4 => .object "TimeLinks$Forest"
  | 5 => .object "TimeLinks$Alive"
  | 6 => .object "TimeLinks$Sightings"
  | 7 => .array (.object "TimeLinks$Spans")
  | 8 => .array .boolean
  | _ => .long
theorem nmX6 : ∀ a, a < 10 → ∀ b, b < 10 → a ≠ b → (TX6 a).2.1 ≠ (TX6 b).2.1 := by decide +kernel
theorem tyX6_ok : ∀ k, k < 10 → parseFieldDescriptor (TX6 k).2.2.1 = some (tyX6 k) := by decide +kernel
abbrev cX6_init : ByteArray := prog_1_method_1_code
def yX6_init : MethodName := ⟨RX6, "<init>", "()V"⟩
abbrev cX6_write : ByteArray := prog_1_method_2_code
def yX6_write : MethodName := ⟨RX6, "write", "(I)I"⟩
abbrev cX6_wipe : ByteArray := prog_1_method_3_code
def yX6_wipe : MethodName := ⟨RX6, "wipe", "()I"⟩
abbrev cX6_fault : ByteArray := prog_1_method_4_code
def yX6_fault : MethodName := ⟨RX6, "fault", "()I"⟩
abbrev cX6_life : ByteArray := prog_1_method_5_code
def yX6_life : MethodName := ⟨RX6, "life", "()I"⟩
abbrev cX6_span : ByteArray := prog_1_method_6_code
def yX6_span : MethodName := ⟨RX6, "span", "(II)I"⟩
abbrev cX6_node : ByteArray := prog_1_method_7_code
def yX6_node : MethodName := ⟨RX6, "node", "(I)I"⟩
abbrev cX6_put : ByteArray := prog_1_method_8_code
def yX6_put : MethodName := ⟨RX6, "put", "(IIII)I"⟩
abbrev cX6_cut : ByteArray := prog_1_method_9_code
def yX6_cut : MethodName := ⟨RX6, "cut", "(I)I"⟩
abbrev cX6_end : ByteArray := prog_1_method_10_code
def yX6_end : MethodName := ⟨RX6, "end", "(II)I"⟩
abbrev cX6_undo : ByteArray := prog_1_method_11_code
def yX6_undo : MethodName := ⟨RX6, "undo", "()I"⟩
abbrev cX6_rememberIfDone : ByteArray := prog_1_method_12_code
def yX6_rememberIfDone : MethodName := ⟨RX6, "rememberIfDone", "(I)I"⟩
abbrev cX6_at : ByteArray := prog_1_method_13_code
def yX6_at : MethodName := ⟨RX6, "at", "(II)I"⟩
abbrev cX6_knot : ByteArray := prog_1_method_14_code
def yX6_knot : MethodName := ⟨RX6, "knot", "(III)I"⟩
abbrev cX6_joined : ByteArray := prog_1_method_15_code
def yX6_joined : MethodName := ⟨RX6, "joined", "(III)I"⟩
abbrev cX6_side : ByteArray := prog_1_method_16_code
def yX6_side : MethodName := ⟨RX6, "side", "(III)I"⟩
abbrev cX6_work : ByteArray := prog_1_method_17_code
def yX6_work : MethodName := ⟨RX6, "work", "(I)I"⟩
abbrev cX6_lyingOnAll : ByteArray := prog_1_method_18_code
def yX6_lyingOnAll : MethodName := ⟨RX6, "lyingOnAll", "()I"⟩
abbrev cX6_joiningOnAll : ByteArray := prog_1_method_19_code
def yX6_joiningOnAll : MethodName := ⟨RX6, "joiningOnAll", "()I"⟩
abbrev cX6_when : ByteArray := prog_1_method_20_code
def yX6_when : MethodName := ⟨RX6, "when", "(II)I"⟩
abbrev cX6_bridges : ByteArray := prog_1_method_21_code
def yX6_bridges : MethodName := ⟨RX6, "bridges", "(I)I"⟩
abbrev cX6_least : ByteArray := prog_1_method_22_code
def yX6_least : MethodName := ⟨RX6, "least", "(IIII)I"⟩
abbrev cX6_leastApart : ByteArray := prog_1_method_23_code
def yX6_leastApart : MethodName := ⟨RX6, "leastApart", "(II)I"⟩
abbrev cX6_judge : ByteArray := prog_1_method_24_code
def yX6_judge : MethodName := ⟨RX6, "judge", "(IJ)I"⟩
abbrev cX6_stands : ByteArray := prog_1_method_25_code
def yX6_stands : MethodName := ⟨RX6, "stands", "(I)Z"⟩
abbrev cX6_areJoinedInTrial : ByteArray := prog_1_method_26_code
def yX6_areJoinedInTrial : MethodName := ⟨RX6, "areJoinedInTrial", "(III)Z"⟩
abbrev cX6_partsInTrial : ByteArray := prog_1_method_27_code
def yX6_partsInTrial : MethodName := ⟨RX6, "partsInTrial", "(I)I"⟩
abbrev cX6_see : ByteArray := prog_1_method_28_code
def yX6_see : MethodName := ⟨RX6, "see", "(IIII)I"⟩
abbrev cX6_unsee : ByteArray := prog_1_method_29_code
def yX6_unsee : MethodName := ⟨RX6, "unsee", "()I"⟩
abbrev cX6_missing : ByteArray := prog_1_method_30_code
def yX6_missing : MethodName := ⟨RX6, "missing", "(I)I"⟩
abbrev cX6_howManyMissing : ByteArray := prog_1_method_31_code
def yX6_howManyMissing : MethodName := ⟨RX6, "howManyMissing", "()I"⟩
abbrev cX6_firstMissing : ByteArray := prog_1_method_32_code
def yX6_firstMissing : MethodName := ⟨RX6, "firstMissing", "()I"⟩
abbrev cX6_missingEnds : ByteArray := prog_1_method_33_code
def yX6_missingEnds : MethodName := ⟨RX6, "missingEnds", "(IIII)I"⟩
abbrev cX6_share : ByteArray := prog_1_method_34_code
def yX6_share : MethodName := ⟨RX6, "share", "(IIZ)I"⟩
abbrev cX6_ordersInWhichItJoins : ByteArray := prog_1_method_35_code
def yX6_ordersInWhichItJoins : MethodName := ⟨RX6, "ordersInWhichItJoins", "(I)J"⟩
abbrev cX6_fails : ByteArray := prog_1_method_36_code
def yX6_fails : MethodName := ⟨RX6, "fails", "(IIIIZ)I"⟩
abbrev cX6_chancesOfJoined : ByteArray := prog_1_method_37_code
def yX6_chancesOfJoined : MethodName := ⟨RX6, "chancesOfJoined", "(III)J"⟩
abbrev cX6_seed : ByteArray := prog_1_method_38_code
def yX6_seed : MethodName := ⟨RX6, "seed", "(J)J"⟩
abbrev cX6_drawn : ByteArray := prog_1_method_39_code
def yX6_drawn : MethodName := ⟨RX6, "drawn", "(I)I"⟩
abbrev cX6_addDrawn : ByteArray := prog_1_method_40_code
def yX6_addDrawn : MethodName := ⟨RX6, "addDrawn", "(I)V"⟩
abbrev cX6_keep : ByteArray := prog_1_method_41_code
def yX6_keep : MethodName := ⟨RX6, "keep", "(I)I"⟩
abbrev cX6_again : ByteArray := prog_1_method_42_code
def yX6_again : MethodName := ⟨RX6, "again", "(I)I"⟩
abbrev cX6_count : ByteArray := prog_1_method_43_code
def yX6_count : MethodName := ⟨RX6, "count", "(I)I"⟩
abbrev cX6_isKnot : ByteArray := prog_1_method_44_code
def yX6_isKnot : MethodName := ⟨RX6, "isKnot", "(I)Z"⟩
abbrev cX6_isTime : ByteArray := prog_1_method_45_code
def yX6_isTime : MethodName := ⟨RX6, "isTime", "(I)Z"⟩
abbrev cX6_stretch : ByteArray := prog_1_method_46_code
def yX6_stretch : MethodName := ⟨RX6, "stretch", "(II)I"⟩
abbrev cX6_lowestBit : ByteArray := prog_1_method_47_code
def yX6_lowestBit : MethodName := ⟨RX6, "lowestBit", "(I)I"⟩
abbrev cX6_power : ByteArray := prog_1_method_48_code
def yX6_power : MethodName := ⟨RX6, "power", "(JI)J"⟩
abbrev cX6_factorial : ByteArray := prog_1_method_49_code
def yX6_factorial : MethodName := ⟨RX6, "factorial", "(I)J"⟩
abbrev cX6_told : ByteArray := prog_1_method_50_code
def yX6_told : MethodName := ⟨RX6, "told", "(JJZ)I"⟩
abbrev cX6_commonDivisor : ByteArray := prog_1_method_51_code
def yX6_commonDivisor : MethodName := ⟨RX6, "commonDivisor", "(JJ)J"⟩
def RX7 : String := "TimeLinksModel"
def TX7 : u_T := fun k => match k with
  | 0 => ("TimeLinksModel", "now", "[I", true)
  | 1 => ("TimeLinksModel", "text", "[I", true)
  | 2 => ("TimeLinksModel", "length", "I", false)
  | 3 => ("TimeLinksModel", "open", "[I", true)
  | 4 => ("TimeLinksModel", "acts", "I", false)
  | 5 => ("TimeLinksModel", "next", "I", false)
  | 6 => ("TimeLinksModel", "row", "[I", true)
  | 7 => ("TimeLinksModel", "over", "[I", true)
  | 8 => ("TimeLinksModel", "sizes", "[I", true)
  | 9 => ("TimeLinksModel", "side", "[I", true)
  | 10 => ("TimeLinksModel", "isOdd", "[I", true)
  | 11 => ("TimeLinksModel", "seen", "I", false)
  | 12 => ("TimeLinksModel", "seenTime", "[I", true)
  | 13 => ("TimeLinksModel", "seenOne", "[I", true)
  | 14 => ("TimeLinksModel", "seenOther", "[I", true)
  | 15 => ("TimeLinksModel", "seenJoined", "[I", true)
  | 16 => ("TimeLinksModel", "living", "[I", true)
  | 17 => ("TimeLinksModel", "seed", "J", false)
  | 18 => ("TimeLinksModel", "isKept", "[Z", true)
  | _ => ("TimeLinksModel", "kept", "[I", true)
def tyX7 : Nat → FieldType := fun k => match k with
  | 0 => .array .int
  | 1 => .array .int
  | 2 => .int
  | 3 => .array .int
  | 4 => .int
  | 5 => .int
  | 6 => .array .int
  | 7 => .array .int
  | 8 => .array .int
  | 9 => .array .int
  | 10 => .array .int
  | 11 => .int
  | 12 => .array .int
  | 13 => .array .int
  | 14 => .array .int
  | 15 => .array .int
  | 16 => .array .int
  | 17 => .long
  | 18 => .array .boolean
  | _ => .array .int
theorem nmX7 : ∀ a, a < 20 → ∀ b, b < 20 → a ≠ b → (TX7 a).2.1 ≠ (TX7 b).2.1 := by decide +kernel
theorem tyX7_ok : ∀ k, k < 20 → parseFieldDescriptor (TX7 k).2.2.1 = some (tyX7 k) := by decide +kernel
abbrev cX7_init : ByteArray := prog_9_method_1_code
def yX7_init : MethodName := ⟨RX7, "<init>", "()V"⟩
abbrev cX7_in : ByteArray := prog_9_method_3_code
def yX7_in : MethodName := ⟨RX7, "in", "(JJJ)Z"⟩
abbrev cX7_has : ByteArray := prog_9_method_4_code
def yX7_has : MethodName := ⟨RX7, "has", "(II)Z"⟩
abbrev cX7_ones : ByteArray := prog_9_method_5_code
def yX7_ones : MethodName := ⟨RX7, "ones", "(I)I"⟩
abbrev cX7_isKnot : ByteArray := prog_9_method_6_code
def yX7_isKnot : MethodName := ⟨RX7, "isKnot", "(I)Z"⟩
abbrev cX7_isTime : ByteArray := prog_9_method_7_code
def yX7_isTime : MethodName := ⟨RX7, "isTime", "(I)Z"⟩
abbrev cX7_asOne : ByteArray := prog_9_method_8_code
def yX7_asOne : MethodName := ⟨RX7, "asOne", "(IIII)I"⟩
abbrev cX7_lowOf : ByteArray := prog_9_method_9_code
def yX7_lowOf : MethodName := ⟨RX7, "lowOf", "(I)I"⟩
abbrev cX7_highOf : ByteArray := prog_9_method_10_code
def yX7_highOf : MethodName := ⟨RX7, "highOf", "(I)I"⟩
abbrev cX7_fromOf : ByteArray := prog_9_method_11_code
def yX7_fromOf : MethodName := ⟨RX7, "fromOf", "(I)I"⟩
abbrev cX7_toOf : ByteArray := prog_9_method_12_code
def yX7_toOf : MethodName := ⟨RX7, "toOf", "(I)I"⟩
abbrev cX7_livesAt : ByteArray := prog_9_method_13_code
def yX7_livesAt : MethodName := ⟨RX7, "livesAt", "(II)Z"⟩
abbrev cX7_write : ByteArray := prog_9_method_14_code
def yX7_write : MethodName := ⟨RX7, "write", "(I)I"⟩
abbrev cX7_wipe : ByteArray := prog_9_method_15_code
def yX7_wipe : MethodName := ⟨RX7, "wipe", "()I"⟩
abbrev cX7_knotAt : ByteArray := prog_9_method_16_code
def yX7_knotAt : MethodName := ⟨RX7, "knotAt", "(I)I"⟩
abbrev cX7_linksOf : ByteArray := prog_9_method_17_code
def yX7_linksOf : MethodName := ⟨RX7, "linksOf", "(I)I"⟩
abbrev cX7_linksOfAll : ByteArray := prog_9_method_18_code
def yX7_linksOfAll : MethodName := ⟨RX7, "linksOfAll", "()I"⟩
abbrev cX7_readText : ByteArray := prog_9_method_19_code
def yX7_readText : MethodName := ⟨RX7, "readText", "()I"⟩
abbrev cX7_readPair : ByteArray := prog_9_method_20_code
def yX7_readPair : MethodName := ⟨RX7, "readPair", "(IZI)I"⟩
abbrev cX7_fault : ByteArray := prog_9_method_21_code
def yX7_fault : MethodName := ⟨RX7, "fault", "()I"⟩
abbrev cX7_life : ByteArray := prog_9_method_22_code
def yX7_life : MethodName := ⟨RX7, "life", "()I"⟩
abbrev cX7_spanOf : ByteArray := prog_9_method_23_code
def yX7_spanOf : MethodName := ⟨RX7, "spanOf", "(II)I"⟩
abbrev cX7_many : ByteArray := prog_9_method_24_code
def yX7_many : MethodName := ⟨RX7, "many", "(I)I"⟩
abbrev cX7_isSpan : ByteArray := prog_9_method_25_code
def yX7_isSpan : MethodName := ⟨RX7, "isSpan", "(I)Z"⟩
abbrev cX7_isFree : ByteArray := prog_9_method_26_code
def yX7_isFree : MethodName := ⟨RX7, "isFree", "(III)Z"⟩
abbrev cX7_canPut : ByteArray := prog_9_method_27_code
def yX7_canPut : MethodName := ⟨RX7, "canPut", "(IIIII)Z"⟩
abbrev cX7_putOn : ByteArray := prog_9_method_28_code
def yX7_putOn : MethodName := ⟨RX7, "putOn", "(II)V"⟩
abbrev cX7_cutOn : ByteArray := prog_9_method_29_code
def yX7_cutOn : MethodName := ⟨RX7, "cutOn", "(II)V"⟩
abbrev cX7_canEnd : ByteArray := prog_9_method_30_code
def yX7_canEnd : MethodName := ⟨RX7, "canEnd", "(III)Z"⟩
abbrev cX7_endOn : ByteArray := prog_9_method_31_code
def yX7_endOn : MethodName := ⟨RX7, "endOn", "(III)V"⟩
abbrev cX7_depthOf : ByteArray := prog_9_method_32_code
def yX7_depthOf : MethodName := ⟨RX7, "depthOf", "(I)I"⟩
abbrev cX7_firstOf : ByteArray := prog_9_method_33_code
def yX7_firstOf : MethodName := ⟨RX7, "firstOf", "(I)I"⟩
abbrev cX7_lastOf : ByteArray := prog_9_method_34_code
def yX7_lastOf : MethodName := ⟨RX7, "lastOf", "(I)I"⟩
abbrev cX7_fills : ByteArray := prog_9_method_35_code
def yX7_fills : MethodName := ⟨RX7, "fills", "(II)Z"⟩
abbrev cX7_lies : ByteArray := prog_9_method_36_code
def yX7_lies : MethodName := ⟨RX7, "lies", "(II)Z"⟩
abbrev cX7_nodesOf : ByteArray := prog_9_method_37_code
def yX7_nodesOf : MethodName := ⟨RX7, "nodesOf", "(I)I"⟩
abbrev cX7_span : ByteArray := prog_9_method_38_code
def yX7_span : MethodName := ⟨RX7, "span", "(II)I"⟩
abbrev cX7_liesOn : ByteArray := prog_9_method_39_code
def yX7_liesOn : MethodName := ⟨RX7, "liesOn", "(I)I"⟩
abbrev cX7_node : ByteArray := prog_9_method_40_code
def yX7_node : MethodName := ⟨RX7, "node", "(I)I"⟩
abbrev cX7_keepAct : ByteArray := prog_9_method_41_code
def yX7_keepAct : MethodName := ⟨RX7, "keepAct", "()V"⟩
abbrev cX7_put : ByteArray := prog_9_method_42_code
def yX7_put : MethodName := ⟨RX7, "put", "(IIII)I"⟩
abbrev cX7_cut : ByteArray := prog_9_method_43_code
def yX7_cut : MethodName := ⟨RX7, "cut", "(I)I"⟩
abbrev cX7_end : ByteArray := prog_9_method_44_code
def yX7_end : MethodName := ⟨RX7, "end", "(II)I"⟩
abbrev cX7_undo : ByteArray := prog_9_method_45_code
def yX7_undo : MethodName := ⟨RX7, "undo", "()I"⟩
abbrev cX7_clearKnots : ByteArray := prog_9_method_46_code
def yX7_clearKnots : MethodName := ⟨RX7, "clearKnots", "()V"⟩
abbrev cX7_rootOf : ByteArray := prog_9_method_47_code
def yX7_rootOf : MethodName := ⟨RX7, "rootOf", "(I)I"⟩
abbrev cX7_depthAt : ByteArray := prog_9_method_48_code
def yX7_depthAt : MethodName := ⟨RX7, "depthAt", "(I)I"⟩
abbrev cX7_joins : ByteArray := prog_9_method_49_code
def yX7_joins : MethodName := ⟨RX7, "joins", "(I)Z"⟩
abbrev cX7_walkTo : ByteArray := prog_9_method_50_code
def yX7_walkTo : MethodName := ⟨RX7, "walkTo", "(I)I"⟩
abbrev cX7_partsBy : ByteArray := prog_9_method_51_code
def yX7_partsBy : MethodName := ⟨RX7, "partsBy", "(III)I"⟩
abbrev cX7_livingAt : ByteArray := prog_9_method_52_code
def yX7_livingAt : MethodName := ⟨RX7, "livingAt", "(I)I"⟩
abbrev cX7_findSides : ByteArray := prog_9_method_53_code
def yX7_findSides : MethodName := ⟨RX7, "findSides", "(I)V"⟩
abbrev cX7_spreadSides : ByteArray := prog_9_method_54_code
def yX7_spreadSides : MethodName := ⟨RX7, "spreadSides", "(I)V"⟩
abbrev cX7_oddParts : ByteArray := prog_9_method_55_code
def yX7_oddParts : MethodName := ⟨RX7, "oddParts", "(I)I"⟩
abbrev cX7_greatestDepth : ByteArray := prog_9_method_56_code
def yX7_greatestDepth : MethodName := ⟨RX7, "greatestDepth", "(I)I"⟩
abbrev cX7_greatestPart : ByteArray := prog_9_method_57_code
def yX7_greatestPart : MethodName := ⟨RX7, "greatestPart", "(I)I"⟩
abbrev cX7_at : ByteArray := prog_9_method_58_code
def yX7_at : MethodName := ⟨RX7, "at", "(II)I"⟩
abbrev cX7_knot : ByteArray := prog_9_method_59_code
def yX7_knot : MethodName := ⟨RX7, "knot", "(III)I"⟩
abbrev cX7_areJoined : ByteArray := prog_9_method_60_code
def yX7_areJoined : MethodName := ⟨RX7, "areJoined", "(IIIII)Z"⟩
abbrev cX7_joined : ByteArray := prog_9_method_61_code
def yX7_joined : MethodName := ⟨RX7, "joined", "(III)I"⟩
abbrev cX7_side : ByteArray := prog_9_method_62_code
def yX7_side : MethodName := ⟨RX7, "side", "(III)I"⟩
abbrev cX7_work : ByteArray := prog_9_method_63_code
def yX7_work : MethodName := ⟨RX7, "work", "(I)I"⟩
abbrev cX7_when : ByteArray := prog_9_method_64_code
def yX7_when : MethodName := ⟨RX7, "when", "(II)I"⟩
abbrev cX7_bridges : ByteArray := prog_9_method_65_code
def yX7_bridges : MethodName := ⟨RX7, "bridges", "(I)I"⟩
abbrev cX7_least : ByteArray := prog_9_method_66_code
def yX7_least : MethodName := ⟨RX7, "least", "(IIII)I"⟩
abbrev cX7_layTrial : ByteArray := prog_9_method_67_code
def yX7_layTrial : MethodName := ⟨RX7, "layTrial", "()V"⟩
abbrev cX7_tryThing : ByteArray := prog_9_method_68_code
def yX7_tryThing : MethodName := ⟨RX7, "tryThing", "(III)Z"⟩
abbrev cX7_byFives : ByteArray := prog_9_method_69_code
def yX7_byFives : MethodName := ⟨RX7, "byFives", "(I)J"⟩
abbrev cX7_judge : ByteArray := prog_9_method_70_code
def yX7_judge : MethodName := ⟨RX7, "judge", "(IJ)I"⟩
abbrev cX7_see : ByteArray := prog_9_method_71_code
def yX7_see : MethodName := ⟨RX7, "see", "(IIII)I"⟩
abbrev cX7_unsee : ByteArray := prog_9_method_72_code
def yX7_unsee : MethodName := ⟨RX7, "unsee", "()I"⟩
abbrev cX7_mayBe : ByteArray := prog_9_method_73_code
def yX7_mayBe : MethodName := ⟨RX7, "mayBe", "(I)Z"⟩
abbrev cX7_missing : ByteArray := prog_9_method_74_code
def yX7_missing : MethodName := ⟨RX7, "missing", "(I)I"⟩
abbrev cX7_factorial : ByteArray := prog_9_method_75_code
def yX7_factorial : MethodName := ⟨RX7, "factorial", "(I)I"⟩
abbrev cX7_common : ByteArray := prog_9_method_76_code
def yX7_common : MethodName := ⟨RX7, "common", "(II)I"⟩
abbrev cX7_findLiving : ByteArray := prog_9_method_77_code
def yX7_findLiving : MethodName := ⟨RX7, "findLiving", "(I)I"⟩
abbrev cX7_spansOf : ByteArray := prog_9_method_78_code
def yX7_spansOf : MethodName := ⟨RX7, "spansOf", "(II)I"⟩
abbrev cX7_share : ByteArray := prog_9_method_79_code
def yX7_share : MethodName := ⟨RX7, "share", "(IIZ)I"⟩
abbrev cX7_fails : ByteArray := prog_9_method_80_code
def yX7_fails : MethodName := ⟨RX7, "fails", "(IIIIZ)I"⟩
abbrev cX7_seed : ByteArray := prog_9_method_81_code
def yX7_seed : MethodName := ⟨RX7, "seed", "(J)J"⟩
abbrev cX7_drawn : ByteArray := prog_9_method_82_code
def yX7_drawn : MethodName := ⟨RX7, "drawn", "(I)I"⟩
abbrev cX7_keep : ByteArray := prog_9_method_83_code
def yX7_keep : MethodName := ⟨RX7, "keep", "(I)I"⟩
abbrev cX7_again : ByteArray := prog_9_method_84_code
def yX7_again : MethodName := ⟨RX7, "again", "(I)I"⟩
abbrev cX7_filledTimes : ByteArray := prog_9_method_85_code
def yX7_filledTimes : MethodName := ⟨RX7, "filledTimes", "()I"⟩
abbrev cX7_timesTogether : ByteArray := prog_9_method_86_code
def yX7_timesTogether : MethodName := ⟨RX7, "timesTogether", "()I"⟩
abbrev cX7_count : ByteArray := prog_9_method_87_code
def yX7_count : MethodName := ⟨RX7, "count", "(I)I"⟩
def RJ6 : String := "java/lang/Integer"
def TJ6 : u_T := fun k => match k with
  | _ => ("", "", "", false)
def tyJ6 : Nat → FieldType := fun k => match k with
  | _ => .int
theorem tyJ6_ok : ∀ k, k < 0 → parseFieldDescriptor (TJ6 k).2.2.1 = some (tyJ6 k) := by decide +kernel
abbrev cJ6_bitCount_0f7a4 : ByteArray := prog_10_method_49_code
def yJ6_bitCount_0f7a4 : MethodName := ⟨RJ6, "bitCount", "(I)I"⟩
def RJ9 : String := "java/lang/Math"
def TJ9 : u_T := fun k => match k with
  | _ => ("", "", "", false)
def tyJ9 : Nat → FieldType := fun k => match k with
  | _ => .int
theorem tyJ9_ok : ∀ k, k < 0 → parseFieldDescriptor (TJ9 k).2.2.1 = some (tyJ9 k) := by decide +kernel
abbrev cJ9_max_7cf53 : ByteArray := prog_11_method_65_code
def yJ9_max_7cf53 : MethodName := ⟨RJ9, "max", "(II)I"⟩
abbrev cJ9_min_7cf53 : ByteArray := prog_11_method_69_code
def yJ9_min_7cf53 : MethodName := ⟨RJ9, "min", "(II)I"⟩
def RL : String := "TimeLinksLaw"
abbrev cL_law : ByteArray := code
def yL_law : MethodName := ⟨RL, "law", "([I)Z"⟩
abbrev vwCl : List vw_C := [(RX0, TX0, 2), (RX1, TX1, 5), (RX2, TX2, 4), (RX3, TX3, 8), (RX4, TX4, 7), (RX5, TX5, 5), (RX6, TX6, 10), (RX7, TX7, 20)]
end
section
/-- heap of places: shapes (class number below 8, else kind of row, with its length), ints, longs, references -/
abbrev am_H : Type := List (Nat × Nat) × (Nat → Nat → Int32) × (Nat → Nat → Int64) × (Nat → Nat → Option Nat)
def am_T : List Cond := lw_tbl.filter goodWord
def am_cv (ad : Nat → Nat) (v : Value) : Value := match v with
  | .ref k => .ref (ad k)
  | v => v
def am_b : Bool → Int32
  | true => 1
  | false => 0
def am_nf (c : Nat) : Nat := match c with
  | 0 => 2
  | 1 => 5
  | 2 => 4
  | 3 => 8
  | 4 => 7
  | 5 => 5
  | 6 => 10
  | _ => 20
def am_cn (c : Nat) : String := match c with
  | 0 => RX0
  | 1 => RX1
  | 2 => RX2
  | 3 => RX3
  | 4 => RX4
  | 5 => RX5
  | 6 => RX6
  | _ => RX7
def am_ct (c : Nat) : u_T := match c with
  | 0 => TX0
  | 1 => TX1
  | 2 => TX2
  | 3 => TX3
  | 4 => TX4
  | 5 => TX5
  | 6 => TX6
  | _ => TX7
def am_ty (c : Nat) : Nat → FieldType := match c with
  | 0 => tyX0
  | 1 => tyX1
  | 2 => tyX2
  | 3 => tyX3
  | 4 => tyX4
  | 5 => tyX5
  | 6 => tyX6
  | _ => tyX7
theorem am_c8 {P : Nat → Prop} (h0 : P 0) (h1 : P 1) (h2 : P 2) (h3 : P 3) (h4 : P 4) (h5 : P 5) (h6 : P 6) (h7 : P 7) : ∀ c, c < 8 → P c := by
  intro c hc
  match c, hc with
  | 0, _ => exact h0
  | 1, _ => exact h1
  | 2, _ => exact h2
  | 3, _ => exact h3
  | 4, _ => exact h4
  | 5, _ => exact h5
  | 6, _ => exact h6
  | 7, _ => exact h7

theorem am_cl : ∀ c, c < 8 → vwCl[c]? = some (am_cn c, am_ct c, am_nf c) := am_c8 rfl rfl rfl rfl rfl rfl rfl rfl
theorem am_ui0 : ∀ w ∈ u_ws RX0 TX0 2, w ∈ lw_tbl := by decide +kernel
theorem am_ug0 : ∀ w ∈ u_ws RX0 TX0 2, goodWord w = true := by decide +kernel
theorem am_ui1 : ∀ w ∈ u_ws RX1 TX1 5, w ∈ lw_tbl := by decide +kernel
theorem am_ug1 : ∀ w ∈ u_ws RX1 TX1 5, goodWord w = true := by decide +kernel
theorem am_ui2 : ∀ w ∈ u_ws RX2 TX2 4, w ∈ lw_tbl := by decide +kernel
theorem am_ug2 : ∀ w ∈ u_ws RX2 TX2 4, goodWord w = true := by decide +kernel
theorem am_ui3 : ∀ w ∈ u_ws RX3 TX3 8, w ∈ lw_tbl := by decide +kernel
theorem am_ug3 : ∀ w ∈ u_ws RX3 TX3 8, goodWord w = true := by decide +kernel
theorem am_ui4 : ∀ w ∈ u_ws RX4 TX4 7, w ∈ lw_tbl := by decide +kernel
theorem am_ug4 : ∀ w ∈ u_ws RX4 TX4 7, goodWord w = true := by decide +kernel
theorem am_ui5 : ∀ w ∈ u_ws RX5 TX5 5, w ∈ lw_tbl := by decide +kernel
theorem am_ug5 : ∀ w ∈ u_ws RX5 TX5 5, goodWord w = true := by decide +kernel
theorem am_ui6 : ∀ w ∈ u_ws RX6 TX6 10, w ∈ lw_tbl := by decide +kernel
theorem am_ug6 : ∀ w ∈ u_ws RX6 TX6 10, goodWord w = true := by decide +kernel
theorem am_ui7 : ∀ w ∈ u_ws RX7 TX7 20, w ∈ lw_tbl := by decide +kernel
theorem am_ug7 : ∀ w ∈ u_ws RX7 TX7 20, goodWord w = true := by decide +kernel
theorem am_uin : ∀ c, c < 8 → ∀ w ∈ u_ws (am_cn c) (am_ct c) (am_nf c), w ∈ am_T := am_c8 (fun w h => List.mem_filter.mpr ⟨am_ui0 w h, am_ug0 w h⟩) (fun w h => List.mem_filter.mpr ⟨am_ui1 w h, am_ug1 w h⟩) (fun w h => List.mem_filter.mpr ⟨am_ui2 w h, am_ug2 w h⟩) (fun w h => List.mem_filter.mpr ⟨am_ui3 w h, am_ug3 w h⟩) (fun w h => List.mem_filter.mpr ⟨am_ui4 w h, am_ug4 w h⟩) (fun w h => List.mem_filter.mpr ⟨am_ui5 w h, am_ug5 w h⟩) (fun w h => List.mem_filter.mpr ⟨am_ui6 w h, am_ug6 w h⟩) (fun w h => List.mem_filter.mpr ⟨am_ui7 w h, am_ug7 w h⟩)
theorem am_tyk : ∀ c, c < 8 → ∀ k, k < am_nf c → parseFieldDescriptor (am_ct c k).2.2.1 = some (am_ty c k) := am_c8 tyX0_ok tyX1_ok tyX2_ok tyX3_ok tyX4_ok tyX5_ok tyX6_ok tyX7_ok
theorem am_nmk : ∀ c, c < 8 → ∀ a, a < am_nf c → ∀ b, b < am_nf c → a ≠ b → (am_ct c a).2.1 ≠ (am_ct c b).2.1 := am_c8 nmX0 nmX1 nmX2 nmX3 nmX4 nmX5 nmX6 nmX7
def am_fv (ad : Nat → Nat) (h : am_H) (k : Nat) (t : FieldType) (j : Nat) : Value := match t with
  | .int => .int (h.2.1 k j)
  | .long => .long (h.2.2.1 k j)
  | _ => va_rf ((h.2.2.2 k j).map ad)
def am_ce (tc : Nat → ClassId) (ad : Nat → Nat) (h : am_H) (k : Nat) (q : Nat × Nat) : va_E :=
  if q.1 < 8 then .inr (q.1, (List.range (am_nf q.1)).map (fun j => am_fv ad h k (am_ty q.1 j) j))
  else if q.1 = 11 then .inl (tc 11, q.2, .inr (.inr (.inr (.inr (fun j => (h.2.2.2 k j).map ad)))))
  else .inl (tc q.1, q.2, .inl (h.2.1 k))
def am_w (tc : Nat → ClassId) (ad : Nat → Nat) (h : am_H) : va_W := h.1.mapIdx (fun k q => (ad k, am_ce tc ad h k q))
theorem am_w_at {tc : Nat → ClassId} {ad : Nat → Nat} {h : am_H} {k : Nat} {q : Nat × Nat} (hk : h.1[k]? = some q) : (am_w tc ad h)[k]? = some (ad k, am_ce tc ad h k q) := by
  simp [am_w, List.getElem?_mapIdx, hk]
theorem am_w_len {tc : Nat → ClassId} {ad : Nat → Nat} {h : am_H} : (am_w tc ad h).length = h.1.length := by simp [am_w]
theorem am_w_set {tc : Nat → ClassId} {ad : Nat → Nat} {h h' : am_H} {p : Nat} {q : Nat × Nat} (hs : h'.1 = h.1) (hq : h.1[p]? = some q) (hne : ∀ k, k ≠ p → ∀ r, am_ce tc ad h' k r = am_ce tc ad h k r) :
    (am_w tc ad h).set p (ad p, am_ce tc ad h' p q) = am_w tc ad h' := by
  apply List.ext_getElem?
  intro k
  by_cases hk : k = p
  · subst hk
    have hl : k < (am_w tc ad h).length := by rw [am_w_len]; exact (List.getElem?_eq_some_iff.mp hq).1
    rw [List.getElem?_set_self hl]
    exact (am_w_at (h := h') (by rw [hs]; exact hq)).symm
  · rw [List.getElem?_set_ne (Ne.symm hk)]
    simp only [am_w, List.getElem?_mapIdx, hs]
    cases h.1[k]? with
    | none => rfl
    | some r => simp [hne k hk r]
def am_u {α : Type} (f : Nat → Nat → α) (p i : Nat) (x : α) : Nat → Nat → α := fun q j => if q = p ∧ j = i then x else f q j
theorem am_u_ne {α : Type} {f : Nat → Nat → α} {p i k : Nat} {x : α} (h : k ≠ p) : am_u f p i x k = f k := by funext j; simp [am_u, h]
theorem am_u_eq {α : Type} {f : Nat → Nat → α} {p i : Nat} {x : α} : am_u f p i x p = fun j => if j = i then x else f p j := by funext j; simp [am_u]
def am_I (h : am_H) (p i : Nat) (x : Int32) : am_H := (h.1, am_u h.2.1 p i x, h.2.2.1, h.2.2.2)
def am_L (h : am_H) (p i : Nat) (x : Int64) : am_H := (h.1, h.2.1, am_u h.2.2.1 p i x, h.2.2.2)
def am_F (h : am_H) (p i : Nat) (x : Option Nat) : am_H := (h.1, h.2.1, h.2.2.1, am_u h.2.2.2 p i x)
def am_ok (h : am_H) : Prop := ∀ k j, (h.1.length ≤ k → h.2.1 k j = 0 ∧ h.2.2.1 k j = 0 ∧ h.2.2.2 k j = none) ∧ ∀ q, h.2.2.2 k j = some q → q < h.1.length
theorem am_ok_I {h : am_H} {p i : Nat} {x : Int32} (H : am_ok h) (hp : p < h.1.length) : am_ok (am_I h p i x) := by
  intro k j
  refine ⟨fun hk => ⟨?_, ((H k j).1 hk).2⟩, (H k j).2⟩
  have hk' : h.1.length ≤ k := hk
  show am_u h.2.1 p i x k j = 0
  rw [am_u_ne (by omega)]
  exact ((H k j).1 hk).1
theorem am_ok_L {h : am_H} {p i : Nat} {x : Int64} (H : am_ok h) (hp : p < h.1.length) : am_ok (am_L h p i x) := by
  intro k j
  refine ⟨fun hk => ⟨((H k j).1 hk).1, ?_, ((H k j).1 hk).2.2⟩, (H k j).2⟩
  have hk' : h.1.length ≤ k := hk
  show am_u h.2.2.1 p i x k j = 0
  rw [am_u_ne (by omega)]
  exact ((H k j).1 hk).2.1
theorem am_ok_F {h : am_H} {p i q : Nat} (H : am_ok h) (hp : p < h.1.length) (hq : q < h.1.length) : am_ok (am_F h p i (some q)) := by
  intro k j
  refine ⟨fun hk => ⟨((H k j).1 hk).1, ((H k j).1 hk).2.1, ?_⟩, fun r hr => ?_⟩
  · have hk' : h.1.length ≤ k := hk
    show am_u h.2.2.2 p i (some q) k j = none
    rw [am_u_ne (by omega)]
    exact ((H k j).1 hk).2.2
  · have hr' : am_u h.2.2.2 p i (some q) k j = some r := hr
    show r < h.1.length
    unfold am_u at hr'
    split at hr'
    · cases hr'; exact hq
    · exact (H k j).2 r hr'
-- reads and writes that may fail
def am_gi (h : am_H) (c p k : Nat) : Option Int32 := match h.1[p]? with
  | some q => if q.1 = c then some (h.2.1 p k) else none
  | none => none
def am_gl (h : am_H) (c p k : Nat) : Option Int64 := match h.1[p]? with
  | some q => if q.1 = c then some (h.2.2.1 p k) else none
  | none => none
def am_gr (h : am_H) (c p k : Nat) : Option Nat := match h.1[p]? with
  | some q => if q.1 = c then h.2.2.2 p k else none
  | none => none
def am_pi (h : am_H) (c p k : Nat) (x : Int32) : Option am_H := match h.1[p]? with
  | some q => if q.1 = c then some (am_I h p k x) else none
  | none => none
def am_pl (h : am_H) (c p k : Nat) (x : Int64) : Option am_H := match h.1[p]? with
  | some q => if q.1 = c then some (am_L h p k x) else none
  | none => none
def am_pr (h : am_H) (c p k : Nat) (x : Nat) : Option am_H := match h.1[p]? with
  | some q => if q.1 = c ∧ x < h.1.length then some (am_F h p k (some x)) else none
  | none => none
def am_li (h : am_H) (c p : Nat) (i : Int32) : Option Int32 := match h.1[p]? with
  | some q => if q.1 = c ∧ 0 ≤ i.toInt ∧ i.toInt < q.2 then some (h.2.1 p i.toNatClampNeg) else none
  | none => none
def am_lr (h : am_H) (p : Nat) (i : Int32) : Option Nat := match h.1[p]? with
  | some q => if q.1 = 11 ∧ 0 ≤ i.toInt ∧ i.toInt < q.2 then h.2.2.2 p i.toNatClampNeg else none
  | none => none
def am_si (h : am_H) (c p : Nat) (i x : Int32) : Option am_H := match h.1[p]? with
  | some q => if q.1 = c ∧ 0 ≤ i.toInt ∧ i.toInt < q.2 then some (am_I h p i.toNatClampNeg x) else none
  | none => none
def am_sr (h : am_H) (p : Nat) (i : Int32) (x : Nat) : Option am_H := match h.1[p]?, h.1[x]? with
  | some q, some z => if (q.1 = 11 ∧ z.1 = 5) ∧ 0 ≤ i.toInt ∧ i.toInt < q.2 then some (am_F h p i.toNatClampNeg (some x)) else none
  | _, _ => none
def am_nw (h : am_H) (q : Nat × Nat) : am_H := (h.1 ++ [q], h.2.1, h.2.2.1, h.2.2.2)
-- what the tables say, at a state
def am_ne : Cond → Bool
  | .fieldLinkNest .. => true
  | .methodLinkNest .. => true
  | _ => false
def am_tys (tc : Nat → ClassId) : List (ClassId × FieldType) := [(tc 8, .char), (tc 9, .int), (tc 10, .boolean), (tc 11, .object "TimeLinks$Spans")]
def am_G (D : va_G) (tc : Nat → ClassId) (s : State) : Prop := va_K D vwCl (am_tys tc) s ∧ (∀ w ∈ lw_tbl, am_ne w = true → va_Nw w s) ∧ va_AO "TimeLinks$Spans" s
theorem am_G.warm {D : va_G} {tc : Nat → ClassId} {s U : State} (h : am_G D tc s) (hW : s.WarmedH U.vm) : am_G D tc U := by
  refine ⟨va_K.moved hW.alike h.1, fun w hw hn => ?_, h.2.2.moved hW.alike⟩
  have h1 := h.2.1 w hw hn
  cases w <;> first | exact h1.warmF hW | exact h1.warmM hW | (simp [am_ne] at hn)
theorem am_G.blind {D : va_G} {tc : Nat → ClassId} {s U : State} (h : am_G D tc s) (hv : s.vm = U.vm) : am_G D tc U := by
  refine ⟨va_K.moved (hv ▸ Vm.Alike.refl s.vm) h.1, fun w hw hn => ?_, h.2.2.moved (hv ▸ Vm.Alike.refl s.vm)⟩
  have h1 := h.2.1 w hw hn
  cases w <;> first | exact h1.same rfl hv | (simp [am_ne] at hn)
/-- what stays through a method's run -/
def am_C (y : MethodName) (cc : ByteArray) (nL : Nat) (ret : Option FieldType) (p : Program) (s : State) (m : MethodId) (args : Array Value) (meth : Method) (c : Code) (D : va_G) (tc : Nat → ClassId) (A : Nat → Prop) : Prop :=
  p.tables.exec = Jvm.exec ∧ c.code = cc ∧ c.maxLocals = nL ∧ s.vm.findClass y.cls = some m.cls ∧ (∀ w ∈ am_T, w.before args s = true) ∧ meth.sig.returnType = ret ∧ meth.locks = false ∧ meth.name = y.name ∧ (∀ q, s.heap.size ≤ q → A q) ∧ am_G D tc s
abbrev am_EX : Type := (Nat → Nat) → State → (Nat → Prop) → Prop
def am_lm (ad : Nat → Nat) (lv : List (Nat × Value)) : List (Nat × Value) := lv.map (fun q => (q.1, am_cv ad q.2))
def am_D (nL : Nat) (rm : Room) (Ex : am_EX) (lv : List (Nat × Value)) (h : am_H) (D : va_G) (tc : Nat → ClassId) (ad : Nat → Nat) (A : Nat → Prop) (s : State) (H : Heap) (locs : List Loc) (ls : Array Slot) (n0 : Nat) (ad0 : Nat → Nat) : Prop :=
  am_ok h ∧ lv_has ls nL (am_lm ad lv) ∧ va_P D vwCl (am_w tc ad h) H ∧ va_D A (am_w tc ad h) ∧ va_S A s.heap H locs ∧ Ex ad s A ∧ n0 ≤ h.1.length ∧ (∀ k, k < n0 ∨ h.1.length ≤ k → ad k = ad0 k) ∧ (rm.cells = 0 → ad = ad0)
def am_rt (cc : ByteArray) (ret : Option FieldType) (pc : Nat) (v : Option Value) : Prop := match v with
  | none => decode cc pc = .ok (.return_, 1) ∧ ret = none
  | some (.int x) => decode cc pc = .ok (.ireturn, 1) ∧ ∃ ty, ret = some ty ∧ narrow ty (.int x) = .int x
  | some (.long _) => decode cc pc = .ok (.lreturn, 1) ∧ ret = some .long
  | _ => False
def am_K (l : Launch) (cc : ByteArray) (ret : Option FieldType) (rm : Room) (p : Program) (e : Env) (s : State) (m : MethodId) (args : Array Value) (below : List Frame) (meth : Method) (c : Code) (D : va_G) (tc : Nat → ClassId) (A : Nat → Prop) (Q : State → Prop) (n0 : Nat) (ad0 : Nat → Nat) (K : Option Value → am_H → Prop) : Prop :=
  ∀ (v : Option Value) (h : am_H) (ad : Nat → Nat) (H : Heap) (locs : List Loc) (pc : Nat) (ls : Array Slot), K v h → am_ok h → n0 ≤ h.1.length → (∀ k, k < n0 ∨ h.1.length ≤ k → ad k = ad0 k) → (rm.cells = 0 → ad = ad0) → va_P D vwCl (am_w tc ad h) H → va_D A (am_w tc ad h) → va_S A s.heap H locs → am_rt cc ret pc v →
    W p l e rm s m args below meth c H locs rm.cells rm.slots Q (F0 m pc ls (v.toList.map (am_cv ad)))
/-- the judgement: from here the method comes to its end, with K of answer and heap -/
def am_R (l : Launch) (y : MethodName) (cc : ByteArray) (nL : Nat) (ret : Option FieldType) (rm : Room) (Ex : am_EX) (cells slots pc : Nat) (lv : List (Nat × Value)) (st : List Value) (h : am_H) (K : Option Value → am_H → Prop) : Prop :=
  ∀ (p : Program) (e : Env) (s : State) (m : MethodId) (args : Array Value) (below : List Frame) (meth : Method) (c : Code) (D : va_G) (tc : Nat → ClassId) (ad : Nat → Nat) (A : Nat → Prop) (H : Heap) (locs : List Loc) (ls : Array Slot) (Q : State → Prop) (n0 : Nat) (ad0 : Nat → Nat),
    am_C y cc nL ret p s m args meth c D tc A → am_D nL rm Ex lv h D tc ad A s H locs ls n0 ad0 → am_K l cc ret rm p e s m args below meth c D tc A Q n0 ad0 K →
    W p l e rm s m args below meth c H locs cells slots Q (F0 m pc ls (st.map (am_cv ad)))

section AMR
variable {l : Launch} {y : MethodName} {cc : ByteArray} {nL : Nat} {ret : Option FieldType} {rm : Room} {Ex : am_EX} {cells slots pc : Nat} {lv : List (Nat × Value)} {st : List Value} {h : am_H} {K : Option Value → am_H → Prop}
theorem r_iconst {n : Int} (v : Int32) (d : decode cc pc = .ok (.iconst n, 1)) (hv : Int32.ofInt n = v) (k : am_R l y cc nL ret rm Ex cells slots (pc + 1) lv (.int v :: st) h K) : am_R l y cc nL ret rm Ex cells slots pc lv st h K := fun p e s m args below meth c D tc ad A H locs ls Q n0 ad0 C Y Z => lv_iconst C.1 C.2.1 d hv (k p e s m args below meth c D tc ad A H locs ls Q n0 ad0 C Y Z)
theorem r_bipush {n : Int} (v : Int32) (d : decode cc pc = .ok (.bipush n, 2)) (hv : (Int8.ofInt n).toInt32 = v) (k : am_R l y cc nL ret rm Ex cells slots (pc + 2) lv (.int v :: st) h K) : am_R l y cc nL ret rm Ex cells slots pc lv st h K := fun p e s m args below meth c D tc ad A H locs ls Q n0 ad0 C Y Z => lv_bipush C.1 C.2.1 d hv (k p e s m args below meth c D tc ad A H locs ls Q n0 ad0 C Y Z)
theorem r_sipush {n : Int} (v : Int32) (d : decode cc pc = .ok (.sipush n, 3)) (hv : (Int16.ofInt n).toInt32 = v) (k : am_R l y cc nL ret rm Ex cells slots (pc + 3) lv (.int v :: st) h K) : am_R l y cc nL ret rm Ex cells slots pc lv st h K := fun p e s m args below meth c D tc ad A H locs ls Q n0 ad0 C Y Z => lv_sipush C.1 C.2.1 d hv (k p e s m args below meth c D tc ad A H locs ls Q n0 ad0 C Y Z)
theorem r_lconst {n : Fin 2} (v : Int64) (d : decode cc pc = .ok (.lconst n, 1)) (hv : Int64.ofNat (n : Nat) = v) (k : am_R l y cc nL ret rm Ex cells slots (pc + 1) lv (.long v :: st) h K) : am_R l y cc nL ret rm Ex cells slots pc lv st h K := fun p e s m args below meth c D tc ad A H locs ls Q n0 ad0 C Y Z => lv_lconst C.1 C.2.1 d hv (k p e s m args below meth c D tc ad A H locs ls Q n0 ad0 C Y Z)
theorem r_ldc {i : Nat} {v : Int32} (hw : Cond.constant y.cls i v ∈ am_T) (d : decode cc pc = .ok (.ldc i, 2)) (k : am_R l y cc nL ret rm Ex cells slots (pc + 2) lv (.int v :: st) h K) : am_R l y cc nL ret rm Ex cells slots pc lv st h K := fun p e s m args below meth c D tc ad A H locs ls Q n0 ad0 C Y Z => lv_ldc C.1 C.2.1 C.2.2.2.1 (C.2.2.2.2.1 _ hw) d (k p e s m args below meth c D tc ad A H locs ls Q n0 ad0 C Y Z)
theorem r_ldcw {i : Nat} {v : Int32} (hw : Cond.constant y.cls i v ∈ am_T) (d : decode cc pc = .ok (.ldc_w i, 3)) (k : am_R l y cc nL ret rm Ex cells slots (pc + 3) lv (.int v :: st) h K) : am_R l y cc nL ret rm Ex cells slots pc lv st h K := fun p e s m args below meth c D tc ad A H locs ls Q n0 ad0 C Y Z => lv_ldcw C.1 C.2.1 C.2.2.2.1 (C.2.2.2.2.1 _ hw) d (k p e s m args below meth c D tc ad A H locs ls Q n0 ad0 C Y Z)
theorem r_ldc2 {i : Nat} {v : Int64} (hw : Cond.constantLong y.cls i v ∈ am_T) (d : decode cc pc = .ok (.ldc2_w i, 3)) (k : am_R l y cc nL ret rm Ex cells slots (pc + 3) lv (.long v :: st) h K) : am_R l y cc nL ret rm Ex cells slots pc lv st h K := fun p e s m args below meth c D tc ad A H locs ls Q n0 ad0 C Y Z => lv_ldc2 C.1 C.2.1 C.2.2.2.1 (C.2.2.2.2.1 _ hw) d (k p e s m args below meth c D tc ad A H locs ls Q n0 ad0 C Y Z)
theorem r_iadd {x z : Int32} (d : decode cc pc = .ok (.iadd, 1)) (k : am_R l y cc nL ret rm Ex cells slots (pc + 1) lv (.int (x + z) :: st) h K) : am_R l y cc nL ret rm Ex cells slots pc lv (.int z :: .int x :: st) h K := fun p e s m args below meth c D tc ad A H locs ls Q n0 ad0 C Y Z => lv_iadd C.1 C.2.1 d (k p e s m args below meth c D tc ad A H locs ls Q n0 ad0 C Y Z)
theorem r_isub {x z : Int32} (d : decode cc pc = .ok (.isub, 1)) (k : am_R l y cc nL ret rm Ex cells slots (pc + 1) lv (.int (x - z) :: st) h K) : am_R l y cc nL ret rm Ex cells slots pc lv (.int z :: .int x :: st) h K := fun p e s m args below meth c D tc ad A H locs ls Q n0 ad0 C Y Z => lv_isub C.1 C.2.1 d (k p e s m args below meth c D tc ad A H locs ls Q n0 ad0 C Y Z)
theorem r_imul {x z : Int32} (d : decode cc pc = .ok (.imul, 1)) (k : am_R l y cc nL ret rm Ex cells slots (pc + 1) lv (.int (x * z) :: st) h K) : am_R l y cc nL ret rm Ex cells slots pc lv (.int z :: .int x :: st) h K := fun p e s m args below meth c D tc ad A H locs ls Q n0 ad0 C Y Z => lv_imul C.1 C.2.1 d (k p e s m args below meth c D tc ad A H locs ls Q n0 ad0 C Y Z)
theorem r_iand {x z : Int32} (d : decode cc pc = .ok (.iand, 1)) (k : am_R l y cc nL ret rm Ex cells slots (pc + 1) lv (.int (x &&& z) :: st) h K) : am_R l y cc nL ret rm Ex cells slots pc lv (.int z :: .int x :: st) h K := fun p e s m args below meth c D tc ad A H locs ls Q n0 ad0 C Y Z => lv_iand C.1 C.2.1 d (k p e s m args below meth c D tc ad A H locs ls Q n0 ad0 C Y Z)
theorem r_ior {x z : Int32} (d : decode cc pc = .ok (.ior, 1)) (k : am_R l y cc nL ret rm Ex cells slots (pc + 1) lv (.int (x ||| z) :: st) h K) : am_R l y cc nL ret rm Ex cells slots pc lv (.int z :: .int x :: st) h K := fun p e s m args below meth c D tc ad A H locs ls Q n0 ad0 C Y Z => lv_ior C.1 C.2.1 d (k p e s m args below meth c D tc ad A H locs ls Q n0 ad0 C Y Z)
theorem r_ixor {x z : Int32} (d : decode cc pc = .ok (.ixor, 1)) (k : am_R l y cc nL ret rm Ex cells slots (pc + 1) lv (.int (x ^^^ z) :: st) h K) : am_R l y cc nL ret rm Ex cells slots pc lv (.int z :: .int x :: st) h K := fun p e s m args below meth c D tc ad A H locs ls Q n0 ad0 C Y Z => lv_ixor C.1 C.2.1 d (k p e s m args below meth c D tc ad A H locs ls Q n0 ad0 C Y Z)
theorem r_ishl {x z : Int32} (d : decode cc pc = .ok (.ishl, 1)) (k : am_R l y cc nL ret rm Ex cells slots (pc + 1) lv (.int (x <<< (z &&& 31)) :: st) h K) : am_R l y cc nL ret rm Ex cells slots pc lv (.int z :: .int x :: st) h K := fun p e s m args below meth c D tc ad A H locs ls Q n0 ad0 C Y Z => lv_ishl C.1 C.2.1 d (k p e s m args below meth c D tc ad A H locs ls Q n0 ad0 C Y Z)
theorem r_ishr {x z : Int32} (d : decode cc pc = .ok (.ishr, 1)) (k : am_R l y cc nL ret rm Ex cells slots (pc + 1) lv (.int (x >>> (z &&& 31)) :: st) h K) : am_R l y cc nL ret rm Ex cells slots pc lv (.int z :: .int x :: st) h K := fun p e s m args below meth c D tc ad A H locs ls Q n0 ad0 C Y Z => lv_ishr C.1 C.2.1 d (k p e s m args below meth c D tc ad A H locs ls Q n0 ad0 C Y Z)
theorem r_idiv {x z : Int32} (d : decode cc pc = .ok (.idiv, 1)) (hne : ¬ z = 0) (k : am_R l y cc nL ret rm Ex cells slots (pc + 1) lv (.int (x / z) :: st) h K) : am_R l y cc nL ret rm Ex cells slots pc lv (.int z :: .int x :: st) h K := fun p e s m args below meth c D tc ad A H locs ls Q n0 ad0 C Y Z => lv_idiv C.1 C.2.1 d hne (k p e s m args below meth c D tc ad A H locs ls Q n0 ad0 C Y Z)
theorem r_irem {x z : Int32} (d : decode cc pc = .ok (.irem, 1)) (hne : ¬ z = 0) (k : am_R l y cc nL ret rm Ex cells slots (pc + 1) lv (.int (x - x / z * z) :: st) h K) : am_R l y cc nL ret rm Ex cells slots pc lv (.int z :: .int x :: st) h K := fun p e s m args below meth c D tc ad A H locs ls Q n0 ad0 C Y Z => lv_irem C.1 C.2.1 d hne (k p e s m args below meth c D tc ad A H locs ls Q n0 ad0 C Y Z)
theorem r_ineg {x : Int32} (d : decode cc pc = .ok (.ineg, 1)) (k : am_R l y cc nL ret rm Ex cells slots (pc + 1) lv (.int (-x) :: st) h K) : am_R l y cc nL ret rm Ex cells slots pc lv (.int x :: st) h K := fun p e s m args below meth c D tc ad A H locs ls Q n0 ad0 C Y Z => lv_ineg C.1 C.2.1 d (k p e s m args below meth c D tc ad A H locs ls Q n0 ad0 C Y Z)
theorem r_iushr {x z : Int32} (d : decode cc pc = .ok (.iushr, 1)) (k : am_R l y cc nL ret rm Ex cells slots (pc + 1) lv (.int ((x.toUInt32 >>> (z.toUInt32 &&& Int32.toUInt32 31)).toInt32) :: st) h K) : am_R l y cc nL ret rm Ex cells slots pc lv (.int z :: .int x :: st) h K := fun p e s m args below meth c D tc ad A H locs ls Q n0 ad0 C Y Z => lv_iushr C.1 C.2.1 d rfl (k p e s m args below meth c D tc ad A H locs ls Q n0 ad0 C Y Z)
theorem r_ladd {x z : Int64} (d : decode cc pc = .ok (.ladd, 1)) (k : am_R l y cc nL ret rm Ex cells slots (pc + 1) lv (.long (x + z) :: st) h K) : am_R l y cc nL ret rm Ex cells slots pc lv (.long z :: .long x :: st) h K := fun p e s m args below meth c D tc ad A H locs ls Q n0 ad0 C Y Z => lv_ladd C.1 C.2.1 d (k p e s m args below meth c D tc ad A H locs ls Q n0 ad0 C Y Z)
theorem r_lsub {x z : Int64} (d : decode cc pc = .ok (.lsub, 1)) (k : am_R l y cc nL ret rm Ex cells slots (pc + 1) lv (.long (x - z) :: st) h K) : am_R l y cc nL ret rm Ex cells slots pc lv (.long z :: .long x :: st) h K := fun p e s m args below meth c D tc ad A H locs ls Q n0 ad0 C Y Z => lv_lsub C.1 C.2.1 d (k p e s m args below meth c D tc ad A H locs ls Q n0 ad0 C Y Z)
theorem r_lmul {x z : Int64} (d : decode cc pc = .ok (.lmul, 1)) (k : am_R l y cc nL ret rm Ex cells slots (pc + 1) lv (.long (x * z) :: st) h K) : am_R l y cc nL ret rm Ex cells slots pc lv (.long z :: .long x :: st) h K := fun p e s m args below meth c D tc ad A H locs ls Q n0 ad0 C Y Z => lv_lmul C.1 C.2.1 d (k p e s m args below meth c D tc ad A H locs ls Q n0 ad0 C Y Z)
theorem r_land {x z : Int64} (d : decode cc pc = .ok (.land, 1)) (k : am_R l y cc nL ret rm Ex cells slots (pc + 1) lv (.long (x &&& z) :: st) h K) : am_R l y cc nL ret rm Ex cells slots pc lv (.long z :: .long x :: st) h K := fun p e s m args below meth c D tc ad A H locs ls Q n0 ad0 C Y Z => lv_land C.1 C.2.1 d (k p e s m args below meth c D tc ad A H locs ls Q n0 ad0 C Y Z)
theorem r_lor {x z : Int64} (d : decode cc pc = .ok (.lor, 1)) (k : am_R l y cc nL ret rm Ex cells slots (pc + 1) lv (.long (x ||| z) :: st) h K) : am_R l y cc nL ret rm Ex cells slots pc lv (.long z :: .long x :: st) h K := fun p e s m args below meth c D tc ad A H locs ls Q n0 ad0 C Y Z => lv_lor C.1 C.2.1 d (k p e s m args below meth c D tc ad A H locs ls Q n0 ad0 C Y Z)
theorem r_ldiv {x z : Int64} (d : decode cc pc = .ok (.ldiv, 1)) (hne : ¬ z = 0) (k : am_R l y cc nL ret rm Ex cells slots (pc + 1) lv (.long (x / z) :: st) h K) : am_R l y cc nL ret rm Ex cells slots pc lv (.long z :: .long x :: st) h K := fun p e s m args below meth c D tc ad A H locs ls Q n0 ad0 C Y Z => lv_ldiv C.1 C.2.1 d hne (k p e s m args below meth c D tc ad A H locs ls Q n0 ad0 C Y Z)
theorem r_lrem {x z : Int64} (d : decode cc pc = .ok (.lrem, 1)) (hne : ¬ z = 0) (k : am_R l y cc nL ret rm Ex cells slots (pc + 1) lv (.long (x - x / z * z) :: st) h K) : am_R l y cc nL ret rm Ex cells slots pc lv (.long z :: .long x :: st) h K := fun p e s m args below meth c D tc ad A H locs ls Q n0 ad0 C Y Z => lv_lrem C.1 C.2.1 d hne (k p e s m args below meth c D tc ad A H locs ls Q n0 ad0 C Y Z)
theorem r_lshl {x : Int64} {z : Int32} (d : decode cc pc = .ok (.lshl, 1)) (k : am_R l y cc nL ret rm Ex cells slots (pc + 1) lv (.long (x <<< (z.toInt64 &&& 63)) :: st) h K) : am_R l y cc nL ret rm Ex cells slots pc lv (.int z :: .long x :: st) h K := fun p e s m args below meth c D tc ad A H locs ls Q n0 ad0 C Y Z => lv_lshl C.1 C.2.1 d rfl (k p e s m args below meth c D tc ad A H locs ls Q n0 ad0 C Y Z)
theorem r_lushr {x : Int64} {z : Int32} (d : decode cc pc = .ok (.lushr, 1)) (k : am_R l y cc nL ret rm Ex cells slots (pc + 1) lv (.long ((x.toUInt64 >>> (z.toInt64.toUInt64 &&& Int64.toUInt64 63)).toInt64) :: st) h K) : am_R l y cc nL ret rm Ex cells slots pc lv (.int z :: .long x :: st) h K := fun p e s m args below meth c D tc ad A H locs ls Q n0 ad0 C Y Z => lv_lushr C.1 C.2.1 d rfl (k p e s m args below meth c D tc ad A H locs ls Q n0 ad0 C Y Z)
theorem r_i2l {x : Int32} (d : decode cc pc = .ok (.i2l, 1)) (k : am_R l y cc nL ret rm Ex cells slots (pc + 1) lv (.long x.toInt64 :: st) h K) : am_R l y cc nL ret rm Ex cells slots pc lv (.int x :: st) h K := fun p e s m args below meth c D tc ad A H locs ls Q n0 ad0 C Y Z => lv_i2l C.1 C.2.1 d rfl (k p e s m args below meth c D tc ad A H locs ls Q n0 ad0 C Y Z)
theorem r_l2i {x : Int64} (d : decode cc pc = .ok (.l2i, 1)) (k : am_R l y cc nL ret rm Ex cells slots (pc + 1) lv (.int x.toInt32 :: st) h K) : am_R l y cc nL ret rm Ex cells slots pc lv (.long x :: st) h K := fun p e s m args below meth c D tc ad A H locs ls Q n0 ad0 C Y Z => lv_l2i C.1 C.2.1 d rfl (k p e s m args below meth c D tc ad A H locs ls Q n0 ad0 C Y Z)
theorem r_i2c {x : Int32} (d : decode cc pc = .ok (.i2c, 1)) (k : am_R l y cc nL ret rm Ex cells slots (pc + 1) lv (.int (x.toUInt32 % 65536).toInt32 :: st) h K) : am_R l y cc nL ret rm Ex cells slots pc lv (.int x :: st) h K := fun p e s m args below meth c D tc ad A H locs ls Q n0 ad0 C Y Z => lv_i2c C.1 C.2.1 d rfl (k p e s m args below meth c D tc ad A H locs ls Q n0 ad0 C Y Z)
theorem r_lcmp {x z : Int64} (d : decode cc pc = .ok (.lcmp, 1)) (k : am_R l y cc nL ret rm Ex cells slots (pc + 1) lv (.int (lg_cmp x z) :: st) h K) : am_R l y cc nL ret rm Ex cells slots pc lv (.long z :: .long x :: st) h K := fun p e s m args below meth c D tc ad A H locs ls Q n0 ad0 C Y Z => W.lcmp C.1 C.2.1 d (k p e s m args below meth c D tc ad A H locs ls Q n0 ad0 C Y Z)
theorem am_cat (ad : Nat → Nat) (v : Value) : (am_cv ad v).category = v.category := by cases v <;> rfl
theorem r_dup {v : Value} (d : decode cc pc = .ok (.dup, 1)) (hc : v.category = 1) (k : am_R l y cc nL ret rm Ex cells slots (pc + 1) lv (v :: v :: st) h K) : am_R l y cc nL ret rm Ex cells slots pc lv (v :: st) h K := fun p e s m args below meth c D tc ad A H locs ls Q n0 ad0 C Y Z => lv_dup C.1 C.2.1 d ((am_cat ad v).trans hc) (k p e s m args below meth c D tc ad A H locs ls Q n0 ad0 C Y Z)
theorem r_pop {v : Value} (d : decode cc pc = .ok (.pop, 1)) (hc : v.category = 1) (k : am_R l y cc nL ret rm Ex cells slots (pc + 1) lv st h K) : am_R l y cc nL ret rm Ex cells slots pc lv (v :: st) h K := fun p e s m args below meth c D tc ad A H locs ls Q n0 ad0 C Y Z => lv_pop C.1 C.2.1 d ((am_cat ad v).trans hc) (k p e s m args below meth c D tc ad A H locs ls Q n0 ad0 C Y Z)
theorem r_dup2 {v z : Value} (d : decode cc pc = .ok (.dup2, 1)) (hc : v.category = 1) (hd : z.category = 1) (k : am_R l y cc nL ret rm Ex cells slots (pc + 1) lv (v :: z :: v :: z :: st) h K) : am_R l y cc nL ret rm Ex cells slots pc lv (v :: z :: st) h K := fun p e s m args below meth c D tc ad A H locs ls Q n0 ad0 C Y Z => lv_dup2_11 C.1 C.2.1 d ((am_cat ad v).trans hc) ((am_cat ad z).trans hd) (k p e s m args below meth c D tc ad A H locs ls Q n0 ad0 C Y Z)
theorem r_dup2l {v : Value} (d : decode cc pc = .ok (.dup2, 1)) (hc : v.category = 2) (k : am_R l y cc nL ret rm Ex cells slots (pc + 1) lv (v :: v :: st) h K) : am_R l y cc nL ret rm Ex cells slots pc lv (v :: st) h K := fun p e s m args below meth c D tc ad A H locs ls Q n0 ad0 C Y Z => lv_dup2_2 C.1 C.2.1 d ((am_cat ad v).trans hc) (k p e s m args below meth c D tc ad A H locs ls Q n0 ad0 C Y Z)
theorem r_if_eq {x : Int32} {off : Int} (t : Nat) (d : decode cc pc = .ok (.ifCond .eq off, 3)) (ht : (pc : Int) + off = (t : Int)) (k1 : x = 0 → am_R l y cc nL ret rm Ex cells slots t lv st h K) (k2 : ¬ x = 0 → am_R l y cc nL ret rm Ex cells slots (pc + 3) lv st h K) : am_R l y cc nL ret rm Ex cells slots pc lv (.int x :: st) h K := fun p e s m args below meth c D tc ad A H locs ls Q n0 ad0 C Y Z => lv_if_eq C.1 C.2.1 d ht (fun q => k1 q p e s m args below meth c D tc ad A H locs ls Q n0 ad0 C Y Z) (fun q => k2 q p e s m args below meth c D tc ad A H locs ls Q n0 ad0 C Y Z)
theorem r_if_ne {x : Int32} {off : Int} (t : Nat) (d : decode cc pc = .ok (.ifCond .ne off, 3)) (ht : (pc : Int) + off = (t : Int)) (k1 : ¬ x = 0 → am_R l y cc nL ret rm Ex cells slots t lv st h K) (k2 : x = 0 → am_R l y cc nL ret rm Ex cells slots (pc + 3) lv st h K) : am_R l y cc nL ret rm Ex cells slots pc lv (.int x :: st) h K := fun p e s m args below meth c D tc ad A H locs ls Q n0 ad0 C Y Z => lv_if_ne C.1 C.2.1 d ht (fun q => k1 q p e s m args below meth c D tc ad A H locs ls Q n0 ad0 C Y Z) (fun q => k2 q p e s m args below meth c D tc ad A H locs ls Q n0 ad0 C Y Z)
theorem r_if_lt {x : Int32} {off : Int} (t : Nat) (d : decode cc pc = .ok (.ifCond .lt off, 3)) (ht : (pc : Int) + off = (t : Int)) (k1 : x < 0 → am_R l y cc nL ret rm Ex cells slots t lv st h K) (k2 : ¬ x < 0 → am_R l y cc nL ret rm Ex cells slots (pc + 3) lv st h K) : am_R l y cc nL ret rm Ex cells slots pc lv (.int x :: st) h K := fun p e s m args below meth c D tc ad A H locs ls Q n0 ad0 C Y Z => lv_if_lt C.1 C.2.1 d ht (fun q => k1 q p e s m args below meth c D tc ad A H locs ls Q n0 ad0 C Y Z) (fun q => k2 q p e s m args below meth c D tc ad A H locs ls Q n0 ad0 C Y Z)
theorem r_if_ge {x : Int32} {off : Int} (t : Nat) (d : decode cc pc = .ok (.ifCond .ge off, 3)) (ht : (pc : Int) + off = (t : Int)) (k1 : 0 ≤ x → am_R l y cc nL ret rm Ex cells slots t lv st h K) (k2 : ¬ 0 ≤ x → am_R l y cc nL ret rm Ex cells slots (pc + 3) lv st h K) : am_R l y cc nL ret rm Ex cells slots pc lv (.int x :: st) h K := fun p e s m args below meth c D tc ad A H locs ls Q n0 ad0 C Y Z => lv_if_ge C.1 C.2.1 d ht (fun q => k1 q p e s m args below meth c D tc ad A H locs ls Q n0 ad0 C Y Z) (fun q => k2 q p e s m args below meth c D tc ad A H locs ls Q n0 ad0 C Y Z)
theorem r_if_gt {x : Int32} {off : Int} (t : Nat) (d : decode cc pc = .ok (.ifCond .gt off, 3)) (ht : (pc : Int) + off = (t : Int)) (k1 : 0 < x → am_R l y cc nL ret rm Ex cells slots t lv st h K) (k2 : ¬ 0 < x → am_R l y cc nL ret rm Ex cells slots (pc + 3) lv st h K) : am_R l y cc nL ret rm Ex cells slots pc lv (.int x :: st) h K := fun p e s m args below meth c D tc ad A H locs ls Q n0 ad0 C Y Z => lv_if_gt C.1 C.2.1 d ht (fun q => k1 q p e s m args below meth c D tc ad A H locs ls Q n0 ad0 C Y Z) (fun q => k2 q p e s m args below meth c D tc ad A H locs ls Q n0 ad0 C Y Z)
theorem r_if_le {x : Int32} {off : Int} (t : Nat) (d : decode cc pc = .ok (.ifCond .le off, 3)) (ht : (pc : Int) + off = (t : Int)) (k1 : x ≤ 0 → am_R l y cc nL ret rm Ex cells slots t lv st h K) (k2 : ¬ x ≤ 0 → am_R l y cc nL ret rm Ex cells slots (pc + 3) lv st h K) : am_R l y cc nL ret rm Ex cells slots pc lv (.int x :: st) h K := fun p e s m args below meth c D tc ad A H locs ls Q n0 ad0 C Y Z => lv_if_le C.1 C.2.1 d ht (fun q => k1 q p e s m args below meth c D tc ad A H locs ls Q n0 ad0 C Y Z) (fun q => k2 q p e s m args below meth c D tc ad A H locs ls Q n0 ad0 C Y Z)
theorem r_icmp_eq {x z : Int32} {off : Int} (t : Nat) (d : decode cc pc = .ok (.if_icmp .eq off, 3)) (ht : (pc : Int) + off = (t : Int)) (k1 : x = z → am_R l y cc nL ret rm Ex cells slots t lv st h K) (k2 : ¬ x = z → am_R l y cc nL ret rm Ex cells slots (pc + 3) lv st h K) : am_R l y cc nL ret rm Ex cells slots pc lv (.int z :: .int x :: st) h K := fun p e s m args below meth c D tc ad A H locs ls Q n0 ad0 C Y Z => lv_icmp_eq C.1 C.2.1 d ht (fun q => k1 q p e s m args below meth c D tc ad A H locs ls Q n0 ad0 C Y Z) (fun q => k2 q p e s m args below meth c D tc ad A H locs ls Q n0 ad0 C Y Z)
theorem r_icmp_ne {x z : Int32} {off : Int} (t : Nat) (d : decode cc pc = .ok (.if_icmp .ne off, 3)) (ht : (pc : Int) + off = (t : Int)) (k1 : ¬ x = z → am_R l y cc nL ret rm Ex cells slots t lv st h K) (k2 : x = z → am_R l y cc nL ret rm Ex cells slots (pc + 3) lv st h K) : am_R l y cc nL ret rm Ex cells slots pc lv (.int z :: .int x :: st) h K := fun p e s m args below meth c D tc ad A H locs ls Q n0 ad0 C Y Z => lv_icmp_ne C.1 C.2.1 d ht (fun q => k1 q p e s m args below meth c D tc ad A H locs ls Q n0 ad0 C Y Z) (fun q => k2 q p e s m args below meth c D tc ad A H locs ls Q n0 ad0 C Y Z)
theorem r_icmp_lt {x z : Int32} {off : Int} (t : Nat) (d : decode cc pc = .ok (.if_icmp .lt off, 3)) (ht : (pc : Int) + off = (t : Int)) (k1 : x < z → am_R l y cc nL ret rm Ex cells slots t lv st h K) (k2 : ¬ x < z → am_R l y cc nL ret rm Ex cells slots (pc + 3) lv st h K) : am_R l y cc nL ret rm Ex cells slots pc lv (.int z :: .int x :: st) h K := fun p e s m args below meth c D tc ad A H locs ls Q n0 ad0 C Y Z => lv_icmp_lt C.1 C.2.1 d ht (fun q => k1 q p e s m args below meth c D tc ad A H locs ls Q n0 ad0 C Y Z) (fun q => k2 q p e s m args below meth c D tc ad A H locs ls Q n0 ad0 C Y Z)
theorem r_icmp_ge {x z : Int32} {off : Int} (t : Nat) (d : decode cc pc = .ok (.if_icmp .ge off, 3)) (ht : (pc : Int) + off = (t : Int)) (k1 : z ≤ x → am_R l y cc nL ret rm Ex cells slots t lv st h K) (k2 : ¬ z ≤ x → am_R l y cc nL ret rm Ex cells slots (pc + 3) lv st h K) : am_R l y cc nL ret rm Ex cells slots pc lv (.int z :: .int x :: st) h K := fun p e s m args below meth c D tc ad A H locs ls Q n0 ad0 C Y Z => lv_icmp_ge C.1 C.2.1 d ht (fun q => k1 q p e s m args below meth c D tc ad A H locs ls Q n0 ad0 C Y Z) (fun q => k2 q p e s m args below meth c D tc ad A H locs ls Q n0 ad0 C Y Z)
theorem r_icmp_gt {x z : Int32} {off : Int} (t : Nat) (d : decode cc pc = .ok (.if_icmp .gt off, 3)) (ht : (pc : Int) + off = (t : Int)) (k1 : z < x → am_R l y cc nL ret rm Ex cells slots t lv st h K) (k2 : ¬ z < x → am_R l y cc nL ret rm Ex cells slots (pc + 3) lv st h K) : am_R l y cc nL ret rm Ex cells slots pc lv (.int z :: .int x :: st) h K := fun p e s m args below meth c D tc ad A H locs ls Q n0 ad0 C Y Z => lv_icmp_gt C.1 C.2.1 d ht (fun q => k1 q p e s m args below meth c D tc ad A H locs ls Q n0 ad0 C Y Z) (fun q => k2 q p e s m args below meth c D tc ad A H locs ls Q n0 ad0 C Y Z)
theorem r_icmp_le {x z : Int32} {off : Int} (t : Nat) (d : decode cc pc = .ok (.if_icmp .le off, 3)) (ht : (pc : Int) + off = (t : Int)) (k1 : x ≤ z → am_R l y cc nL ret rm Ex cells slots t lv st h K) (k2 : ¬ x ≤ z → am_R l y cc nL ret rm Ex cells slots (pc + 3) lv st h K) : am_R l y cc nL ret rm Ex cells slots pc lv (.int z :: .int x :: st) h K := fun p e s m args below meth c D tc ad A H locs ls Q n0 ad0 C Y Z => lv_icmp_le C.1 C.2.1 d ht (fun q => k1 q p e s m args below meth c D tc ad A H locs ls Q n0 ad0 C Y Z) (fun q => k2 q p e s m args below meth c D tc ad A H locs ls Q n0 ad0 C Y Z)
theorem r_goto {off : Int} (t : Nat) (d : decode cc pc = .ok (.goto off, 3)) (ht : (pc : Int) + off = (t : Int)) (k : am_R l y cc nL ret rm Ex cells slots t lv st h K) : am_R l y cc nL ret rm Ex cells slots pc lv st h K := fun p e s m args below meth c D tc ad A H locs ls Q n0 ad0 C Y Z => lv_goto C.1 C.2.1 d ht (k p e s m args below meth c D tc ad A H locs ls Q n0 ad0 C Y Z)
theorem r_tsw {dflt lo hi : Int} {offs : Array Int} {len : Nat} {x : Int32} (t : Nat) (d : decode cc pc = .ok (.tableswitch dflt lo hi offs, len)) (hx : (¬ (x.toInt < lo ∨ hi < x.toInt) ∧ (offs[(x.toInt - lo).toNat]?).map (fun off => (pc : Int) + off) = some (t : Int)) ∨ ((x.toInt < lo ∨ hi < x.toInt) ∧ (pc : Int) + dflt = (t : Int))) (k : am_R l y cc nL ret rm Ex cells slots t lv st h K) : am_R l y cc nL ret rm Ex cells slots pc lv (.int x :: st) h K := fun p e s m args below meth c D tc ad A H locs ls Q n0 ad0 C Y Z => by
  rcases hx with ⟨h1, h2⟩ | ⟨h1, h2⟩
  · cases ho : offs[(x.toInt - lo).toNat]? with
    | none => rw [ho] at h2; cases h2
    | some off =>
      rw [ho] at h2
      exact lv_tableIn C.1 C.2.1 d (fun q => h1 (Or.inl q)) (fun q => h1 (Or.inr q)) ho (Option.some.inj h2) (k p e s m args below meth c D tc ad A H locs ls Q n0 ad0 C Y Z)
  · exact lv_tableOut C.1 C.2.1 d h1 h2 (k p e s m args below meth c D tc ad A H locs ls Q n0 ad0 C Y Z)
theorem r_lsw {dflt : Int} {ps : Array (Int × Int)} {len : Nat} {x : Int32} (t : Nat) (d : decode cc pc = .ok (.lookupswitch dflt ps, len)) (hp : (ps.toList.zip (ps.toList.drop 1)).all (fun (a, next) => a.1 < next.1) = true) (ho : (pc : Int) + Op.lookupswitch.offset ps.toList dflt x.toInt = (t : Int)) (k : am_R l y cc nL ret rm Ex cells slots t lv st h K) : am_R l y cc nL ret rm Ex cells slots pc lv (.int x :: st) h K := fun p e s m args below meth c D tc ad A H locs ls Q n0 ad0 C Y Z => lv_lookup C.1 C.2.1 d hp rfl ho (k p e s m args below meth c D tc ad A H locs ls Q n0 ad0 C Y Z)
theorem am_lat {ad : Nat → Nat} {ls : Array Slot} {i j : Nat} {v : Value} (H : lv_has ls nL (am_lm ad lv)) (hk : lv[j]? = some (i, v)) : ls[i]? = some (.val (am_cv ad v)) := lv_at H j (by simp [am_lm, hk])
def am_st (i : Nat) (v : Value) (lv : List (Nat × Value)) : List (Nat × Value) := (i, v) :: lv.filter (fun q => !(q.1 == i) && !(q.1 + 1 == i && q.2.category == 2))
def am_st2 (i : Nat) (v : Value) (lv : List (Nat × Value)) : List (Nat × Value) := (i, v) :: lv.filter (fun q => !(q.1 == i) && (!(q.1 == i + 1) && !(q.1 + 1 == i && q.2.category == 2)))
theorem am_st_lm {ad : Nat → Nat} {i : Nat} {v : Value} : (i, am_cv ad v) :: (am_lm ad lv).filter (fun q => !(q.1 == i) && !(q.1 + 1 == i && q.2.category == 2)) = am_lm ad (am_st i v lv) := by
  simp only [am_lm, am_st, List.map_cons, List.filter_map]
  congr 3
  funext q
  simp [Function.comp, am_cat]
theorem am_st2_lm {ad : Nat → Nat} {i : Nat} {v : Value} : (i, am_cv ad v) :: (am_lm ad lv).filter (fun q => !(q.1 == i) && (!(q.1 == i + 1) && !(q.1 + 1 == i && q.2.category == 2))) = am_lm ad (am_st2 i v lv) := by
  simp only [am_lm, am_st2, List.map_cons, List.filter_map]
  congr 3
  funext q
  simp [Function.comp, am_cat]
theorem r_iload_n {i : Fin 4} {x : Int32} (j : Nat) (d : decode cc pc = .ok (.iload_n i, 1)) (hj : lv[j]? = some (i.val, .int x)) (k : am_R l y cc nL ret rm Ex cells slots (pc + 1) lv (.int x :: st) h K) : am_R l y cc nL ret rm Ex cells slots pc lv st h K := fun p e s m args below meth c D tc ad A H locs ls Q n0 ad0 C Y Z => lv_iload_n C.1 C.2.1 d rfl (am_lat Y.2.1 hj) (k p e s m args below meth c D tc ad A H locs ls Q n0 ad0 C Y Z)
theorem r_iload {i : Nat} {x : Int32} (j : Nat) (d : decode cc pc = .ok (.iload i, 2)) (hj : lv[j]? = some (i, .int x)) (k : am_R l y cc nL ret rm Ex cells slots (pc + 2) lv (.int x :: st) h K) : am_R l y cc nL ret rm Ex cells slots pc lv st h K := fun p e s m args below meth c D tc ad A H locs ls Q n0 ad0 C Y Z => lv_iload C.1 C.2.1 d (am_lat Y.2.1 hj) (k p e s m args below meth c D tc ad A H locs ls Q n0 ad0 C Y Z)
theorem r_istore_n {i : Fin 4} {x : Int32} (lv2 : List (Nat × Value)) (d : decode cc pc = .ok (.istore_n i, 1)) (hn : i.val < nL) (hl : am_st i.val (.int x) lv = lv2) (k : am_R l y cc nL ret rm Ex cells slots (pc + 1) lv2 st h K) : am_R l y cc nL ret rm Ex cells slots pc lv (.int x :: st) h K := fun p e s m args below meth c D tc ad A H locs ls Q n0 ad0 C Y Z => lv_istore_n C.1 C.2.1 d rfl Y.2.1 hn (am_st_lm (v := .int x)) (fun ls hh => k p e s m args below meth c D tc ad A H locs ls Q n0 ad0 C ⟨Y.1, hl ▸ hh, Y.2.2⟩ Z)
theorem r_istore {i : Nat} {x : Int32} (lv2 : List (Nat × Value)) (d : decode cc pc = .ok (.istore i, 2)) (hn : i < nL) (hl : am_st i (.int x) lv = lv2) (k : am_R l y cc nL ret rm Ex cells slots (pc + 2) lv2 st h K) : am_R l y cc nL ret rm Ex cells slots pc lv (.int x :: st) h K := fun p e s m args below meth c D tc ad A H locs ls Q n0 ad0 C Y Z => lv_istore C.1 C.2.1 d Y.2.1 hn (am_st_lm (v := .int x)) (fun ls hh => k p e s m args below meth c D tc ad A H locs ls Q n0 ad0 C ⟨Y.1, hl ▸ hh, Y.2.2⟩ Z)
theorem r_lload_n {i : Fin 4} {x : Int64} (j : Nat) (d : decode cc pc = .ok (.lload_n i, 1)) (hj : lv[j]? = some (i.val, .long x)) (k : am_R l y cc nL ret rm Ex cells slots (pc + 1) lv (.long x :: st) h K) : am_R l y cc nL ret rm Ex cells slots pc lv st h K := fun p e s m args below meth c D tc ad A H locs ls Q n0 ad0 C Y Z => lv_lload_n C.1 C.2.1 d rfl (am_lat Y.2.1 hj) (k p e s m args below meth c D tc ad A H locs ls Q n0 ad0 C Y Z)
theorem r_lload {i : Nat} {x : Int64} (j : Nat) (d : decode cc pc = .ok (.lload i, 2)) (hj : lv[j]? = some (i, .long x)) (k : am_R l y cc nL ret rm Ex cells slots (pc + 2) lv (.long x :: st) h K) : am_R l y cc nL ret rm Ex cells slots pc lv st h K := fun p e s m args below meth c D tc ad A H locs ls Q n0 ad0 C Y Z => lv_lload C.1 C.2.1 d (am_lat Y.2.1 hj) (k p e s m args below meth c D tc ad A H locs ls Q n0 ad0 C Y Z)
theorem r_lstore_n {i : Fin 4} {x : Int64} (lv2 : List (Nat × Value)) (d : decode cc pc = .ok (.lstore_n i, 1)) (hn : i.val + 1 < nL) (hl : am_st2 i.val (.long x) lv = lv2) (k : am_R l y cc nL ret rm Ex cells slots (pc + 1) lv2 st h K) : am_R l y cc nL ret rm Ex cells slots pc lv (.long x :: st) h K := fun p e s m args below meth c D tc ad A H locs ls Q n0 ad0 C Y Z => lv_lstore_n C.1 C.2.1 d rfl Y.2.1 hn (am_st2_lm (v := .long x)) (fun ls hh => k p e s m args below meth c D tc ad A H locs ls Q n0 ad0 C ⟨Y.1, hl ▸ hh, Y.2.2⟩ Z)
theorem r_lstore {i : Nat} {x : Int64} (lv2 : List (Nat × Value)) (d : decode cc pc = .ok (.lstore i, 2)) (hn : i + 1 < nL) (hl : am_st2 i (.long x) lv = lv2) (k : am_R l y cc nL ret rm Ex cells slots (pc + 2) lv2 st h K) : am_R l y cc nL ret rm Ex cells slots pc lv (.long x :: st) h K := fun p e s m args below meth c D tc ad A H locs ls Q n0 ad0 C Y Z => lv_lstore C.1 C.2.1 d Y.2.1 hn (am_st2_lm (v := .long x)) (fun ls hh => k p e s m args below meth c D tc ad A H locs ls Q n0 ad0 C ⟨Y.1, hl ▸ hh, Y.2.2⟩ Z)
theorem r_aload_n {i : Fin 4} {x : Nat} (j : Nat) (d : decode cc pc = .ok (.aload_n i, 1)) (hj : lv[j]? = some (i.val, .ref x)) (k : am_R l y cc nL ret rm Ex cells slots (pc + 1) lv (.ref x :: st) h K) : am_R l y cc nL ret rm Ex cells slots pc lv st h K := fun p e s m args below meth c D tc ad A H locs ls Q n0 ad0 C Y Z => lv_aload_n C.1 C.2.1 d rfl (am_lat Y.2.1 hj) (k p e s m args below meth c D tc ad A H locs ls Q n0 ad0 C Y Z)
theorem r_aload {i : Nat} {x : Nat} (j : Nat) (d : decode cc pc = .ok (.aload i, 2)) (hj : lv[j]? = some (i, .ref x)) (k : am_R l y cc nL ret rm Ex cells slots (pc + 2) lv (.ref x :: st) h K) : am_R l y cc nL ret rm Ex cells slots pc lv st h K := fun p e s m args below meth c D tc ad A H locs ls Q n0 ad0 C Y Z => lv_aload C.1 C.2.1 d (am_lat Y.2.1 hj) (k p e s m args below meth c D tc ad A H locs ls Q n0 ad0 C Y Z)
theorem r_astore_n {i : Fin 4} {x : Nat} (lv2 : List (Nat × Value)) (d : decode cc pc = .ok (.astore_n i, 1)) (hn : i.val < nL) (hl : am_st i.val (.ref x) lv = lv2) (k : am_R l y cc nL ret rm Ex cells slots (pc + 1) lv2 st h K) : am_R l y cc nL ret rm Ex cells slots pc lv (.ref x :: st) h K := fun p e s m args below meth c D tc ad A H locs ls Q n0 ad0 C Y Z => lv_astore_n C.1 C.2.1 d rfl Y.2.1 hn (am_st_lm (v := .ref x)) (fun ls hh => k p e s m args below meth c D tc ad A H locs ls Q n0 ad0 C ⟨Y.1, hl ▸ hh, Y.2.2⟩ Z)
theorem r_astore {i : Nat} {x : Nat} (lv2 : List (Nat × Value)) (d : decode cc pc = .ok (.astore i, 2)) (hn : i < nL) (hl : am_st i (.ref x) lv = lv2) (k : am_R l y cc nL ret rm Ex cells slots (pc + 2) lv2 st h K) : am_R l y cc nL ret rm Ex cells slots pc lv (.ref x :: st) h K := fun p e s m args below meth c D tc ad A H locs ls Q n0 ad0 C Y Z => lv_astore C.1 C.2.1 d Y.2.1 hn (am_st_lm (v := .ref x)) (fun ls hh => k p e s m args below meth c D tc ad A H locs ls Q n0 ad0 C ⟨Y.1, hl ▸ hh, Y.2.2⟩ Z)
theorem r_iinc {i : Nat} {n : Int} {x v : Int32} (j : Nat) (lv2 : List (Nat × Value)) (d : decode cc pc = .ok (.iinc i n, 3)) (hj : lv[j]? = some (i, .int x)) (hv : x + Int32.ofInt n = v) (hn : i < nL) (hl : am_st i (.int v) lv = lv2) (k : am_R l y cc nL ret rm Ex cells slots (pc + 3) lv2 st h K) : am_R l y cc nL ret rm Ex cells slots pc lv st h K := fun p e s m args below meth c D tc ad A H locs ls Q n0 ad0 C Y Z => lv_iinc C.1 C.2.1 d Y.2.1 (k := j) (by simp [am_lm, hj]; rfl) hv hn (am_st_lm (v := .int v)) (fun ls hh => k p e s m args below meth c D tc ad A H locs ls Q n0 ad0 C ⟨Y.1, hl ▸ hh, Y.2.2⟩ Z)
theorem am_pick {ad : Nat → Nat} (ks : List Nat) : lv_pick (am_lm ad lv) ks = am_lm ad (lv_pick lv ks) := by
  induction ks with
  | nil => rfl
  | cons a t ih =>
    unfold lv_pick at ih ⊢
    simp only [List.filterMap_cons, am_lm, List.getElem?_map]
    cases lv[a]? with
    | none => simpa [am_lm] using ih
    | some q => simpa [am_lm] using ih
theorem r_lv (ks : List Nat) (lv2 : List (Nat × Value)) (hl : lv_pick lv ks = lv2) (k : am_R l y cc nL ret rm Ex cells slots pc lv2 st h K) : am_R l y cc nL ret rm Ex cells slots pc lv st h K := fun p e s m args below meth c D tc ad A H locs ls Q n0 ad0 C Y Z => k p e s m args below meth c D tc ad A H locs ls Q n0 ad0 C ⟨Y.1, lv_sub Y.2.1 ks (by rw [am_pick, hl]), Y.2.2⟩ Z
theorem r_wide {c2 s2 : Nat} (h1 : cells ≤ c2) (h2 : slots ≤ s2) (k : am_R l y cc nL ret rm Ex c2 s2 pc lv st h K) : am_R l y cc nL ret rm Ex cells slots pc lv st h K := fun p e s m args below meth c D tc ad A H locs ls Q n0 ad0 C Y Z => W.widen h1 h2 (k p e s m args below meth c D tc ad A H locs ls Q n0 ad0 C Y Z)
theorem r_post {K2 : Option Value → am_H → Prop} (hK : ∀ v h2, K v h2 → K2 v h2) (k : am_R l y cc nL ret rm Ex cells slots pc lv st h K) : am_R l y cc nL ret rm Ex cells slots pc lv st h K2 := fun p e s m args below meth c D tc ad A H locs ls Q n0 ad0 C Y Z => k p e s m args below meth c D tc ad A H locs ls Q n0 ad0 C Y (fun v h2 ad H locs pc ls q => Z v h2 ad H locs pc ls (hK v h2 q))
theorem r_ireturn {x : Int32} (d : decode cc pc = .ok (.ireturn, 1)) (hr : ret = some .int) (hc : cells ≤ rm.cells ∧ slots ≤ rm.slots) (hK : K (some (.int x)) h) : am_R l y cc nL ret rm Ex cells slots pc lv [.int x] h K := fun p e s m args below meth c D tc ad A H locs ls Q n0 ad0 C Y Z =>
  W.widen hc.1 hc.2 (Z (some (.int x)) h ad H locs pc ls hK Y.1 Y.2.2.2.2.2.2.1 Y.2.2.2.2.2.2.2.1 Y.2.2.2.2.2.2.2.2 Y.2.2.1 Y.2.2.2.1 Y.2.2.2.2.1 ⟨d, _, hr, rfl⟩)
theorem r_zreturn (b : Bool) (d : decode cc pc = .ok (.ireturn, 1)) (hr : ret = some .boolean) (hc : cells ≤ rm.cells ∧ slots ≤ rm.slots) (hK : K (some (.int (am_b b))) h) : am_R l y cc nL ret rm Ex cells slots pc lv [.int (am_b b)] h K := fun p e s m args below meth c D tc ad A H locs ls Q n0 ad0 C Y Z =>
  W.widen hc.1 hc.2 (Z (some (.int (am_b b))) h ad H locs pc ls hK Y.1 Y.2.2.2.2.2.2.1 Y.2.2.2.2.2.2.2.1 Y.2.2.2.2.2.2.2.2 Y.2.2.1 Y.2.2.2.1 Y.2.2.2.2.1 ⟨d, _, hr, by cases b <;> rfl⟩)
theorem r_lreturn {x : Int64} (d : decode cc pc = .ok (.lreturn, 1)) (hr : ret = some .long) (hc : cells ≤ rm.cells ∧ slots ≤ rm.slots) (hK : K (some (.long x)) h) : am_R l y cc nL ret rm Ex cells slots pc lv [.long x] h K := fun p e s m args below meth c D tc ad A H locs ls Q n0 ad0 C Y Z =>
  W.widen hc.1 hc.2 (Z (some (.long x)) h ad H locs pc ls hK Y.1 Y.2.2.2.2.2.2.1 Y.2.2.2.2.2.2.2.1 Y.2.2.2.2.2.2.2.2 Y.2.2.1 Y.2.2.2.1 Y.2.2.2.2.1 ⟨d, hr⟩)
theorem r_return (d : decode cc pc = .ok (.return_, 1)) (hr : ret = none) (hc : cells ≤ rm.cells ∧ slots ≤ rm.slots) (hK : K none h) : am_R l y cc nL ret rm Ex cells slots pc lv [] h K := fun p e s m args below meth c D tc ad A H locs ls Q n0 ad0 C Y Z =>
  W.widen hc.1 hc.2 (Z none h ad H locs pc ls hK Y.1 Y.2.2.2.2.2.2.1 Y.2.2.2.2.2.2.2.1 Y.2.2.2.2.2.2.2.2 Y.2.2.1 Y.2.2.2.1 Y.2.2.2.2.1 ⟨d, hr⟩)
end AMR
end
section
/-- a field's link: of the own class, or of a nest mate -/
def am_FL (own : String) (idx ci k : Nat) : Prop := ci < 8 ∧ k < am_nf ci ∧ (Cond.fieldLink own idx (am_ct ci k).1 (am_ct ci k).2.1 (am_ct ci k).2.2.1 ∈ am_T ∨ ∃ host, Cond.fieldLinkNest own idx (am_ct ci k).1 (am_ct ci k).2.1 (am_ct ci k).2.2.1 host ∈ lw_tbl)
theorem am_ce_o {tc : Nat → ClassId} {ad : Nat → Nat} {h : am_H} {k : Nat} {q : Nat × Nat} (hq : q.1 < 8) : am_ce tc ad h k q = .inr (q.1, (List.range (am_nf q.1)).map (fun j => am_fv ad h k (am_ty q.1 j) j)) := by simp [am_ce, hq]
theorem am_ce_i {tc : Nat → ClassId} {ad : Nat → Nat} {h : am_H} {k c n : Nat} (hc : 8 ≤ c) (hc2 : c ≠ 11) : am_ce tc ad h k (c, n) = .inl (tc c, n, .inl (h.2.1 k)) := by
  unfold am_ce
  rw [if_neg (by show ¬ c < 8; omega), if_neg (by show ¬ c = 11; exact hc2)]
theorem am_ce_q {tc : Nat → ClassId} {ad : Nat → Nat} {h : am_H} {k n : Nat} : am_ce tc ad h k (11, n) = .inl (tc 11, n, .inr (.inr (.inr (.inr (fun j => (h.2.2.2 k j).map ad))))) := rfl
theorem am_fs_at {ad : Nat → Nat} {h : am_H} {p c k : Nat} (hk : k < am_nf c) : ((List.range (am_nf c)).map (fun j => am_fv ad h p (am_ty c j) j))[k]? = some (am_fv ad h p (am_ty c k) k) := by
  simp [List.getElem?_map, List.getElem?_range hk]
theorem am_fs_set {ad : Nat → Nat} {h h' : am_H} {p c k : Nat} {v : Value} (hv : am_fv ad h' p (am_ty c k) k = v) (ho : ∀ j, j < am_nf c → j ≠ k → am_fv ad h' p (am_ty c j) j = am_fv ad h p (am_ty c j) j) :
    ((List.range (am_nf c)).map (fun j => am_fv ad h p (am_ty c j) j)).set k v = (List.range (am_nf c)).map (fun j => am_fv ad h' p (am_ty c j) j) := by
  apply List.ext_getElem?
  intro j
  by_cases hj : j < am_nf c
  · by_cases he : j = k
    · subst he
      rw [List.getElem?_set_self (by simpa using hj), am_fs_at hj, hv]
    · rw [List.getElem?_set_ne (Ne.symm he), am_fs_at hj, am_fs_at hj, ho j hj he]
  · rw [List.getElem?_eq_none (by simpa using hj), List.getElem?_eq_none (by simpa using hj)]
theorem am_ce_I {tc : Nat → ClassId} {ad : Nat → Nat} {h : am_H} {p i : Nat} {x : Int32} : ∀ k, k ≠ p → ∀ r, am_ce tc ad (am_I h p i x) k r = am_ce tc ad h k r := by
  intro k hk r
  simp only [am_ce, am_I, am_fv, am_u_ne hk]
theorem am_ce_L {tc : Nat → ClassId} {ad : Nat → Nat} {h : am_H} {p i : Nat} {x : Int64} : ∀ k, k ≠ p → ∀ r, am_ce tc ad (am_L h p i x) k r = am_ce tc ad h k r := by
  intro k hk r
  simp only [am_ce, am_L, am_fv, am_u_ne hk]
theorem am_ce_F {tc : Nat → ClassId} {ad : Nat → Nat} {h : am_H} {p i : Nat} {x : Option Nat} : ∀ k, k ≠ p → ∀ r, am_ce tc ad (am_F h p i x) k r = am_ce tc ad h k r := by
  intro k hk r
  simp only [am_ce, am_F, am_fv, am_u_ne hk]
theorem am_gi_of {h : am_H} {c p k : Nat} {x : Int32} (hv : am_gi h c p k = some x) : ∃ n, h.1[p]? = some (c, n) ∧ h.2.1 p k = x := by
  unfold am_gi at hv
  split at hv
  · rename_i q hq
    split at hv
    · rename_i hc
      exact ⟨q.2, by rw [hq, ← hc], Option.some.inj hv⟩
    · cases hv
  · cases hv
theorem am_gl_of {h : am_H} {c p k : Nat} {x : Int64} (hv : am_gl h c p k = some x) : ∃ n, h.1[p]? = some (c, n) ∧ h.2.2.1 p k = x := by
  unfold am_gl at hv
  split at hv
  · rename_i q hq
    split at hv
    · rename_i hc
      exact ⟨q.2, by rw [hq, ← hc], Option.some.inj hv⟩
    · cases hv
  · cases hv
theorem am_gr_of {h : am_H} {c p k x : Nat} (hv : am_gr h c p k = some x) : ∃ n, h.1[p]? = some (c, n) ∧ h.2.2.2 p k = some x := by
  unfold am_gr at hv
  split at hv
  · rename_i q hq
    split at hv
    · rename_i hc
      exact ⟨q.2, by rw [hq, ← hc], hv⟩
    · cases hv
  · cases hv
theorem am_pi_of {h h' : am_H} {c p k : Nat} {x : Int32} (hv : am_pi h c p k x = some h') : ∃ n, h.1[p]? = some (c, n) ∧ h' = am_I h p k x := by
  unfold am_pi at hv
  split at hv
  · rename_i q hq
    split at hv
    · rename_i hc
      exact ⟨q.2, by rw [hq, ← hc], (Option.some.inj hv).symm⟩
    · cases hv
  · cases hv
theorem am_pl_of {h h' : am_H} {c p k : Nat} {x : Int64} (hv : am_pl h c p k x = some h') : ∃ n, h.1[p]? = some (c, n) ∧ h' = am_L h p k x := by
  unfold am_pl at hv
  split at hv
  · rename_i q hq
    split at hv
    · rename_i hc
      exact ⟨q.2, by rw [hq, ← hc], (Option.some.inj hv).symm⟩
    · cases hv
  · cases hv
theorem am_pr_of {h h' : am_H} {c p k x : Nat} (hv : am_pr h c p k x = some h') : ∃ n, h.1[p]? = some (c, n) ∧ x < h.1.length ∧ h' = am_F h p k (some x) := by
  unfold am_pr at hv
  split at hv
  · rename_i q hq
    split at hv
    · rename_i hc
      exact ⟨q.2, by rw [hq, ← hc.1], hc.2, (Option.some.inj hv).symm⟩
    · cases hv
  · cases hv
theorem am_li_of {h : am_H} {c p : Nat} {i x : Int32} (hv : am_li h c p i = some x) : ∃ n, h.1[p]? = some (c, n) ∧ vp_in i n ∧ h.2.1 p i.toNatClampNeg = x := by
  unfold am_li at hv
  split at hv
  · rename_i q hq
    split at hv
    · rename_i hc
      exact ⟨q.2, by rw [hq, ← hc.1], vp_in_iff.mpr hc.2, Option.some.inj hv⟩
    · cases hv
  · cases hv
theorem am_lr_of {h : am_H} {p x : Nat} {i : Int32} (hv : am_lr h p i = some x) : ∃ n, h.1[p]? = some (11, n) ∧ vp_in i n ∧ h.2.2.2 p i.toNatClampNeg = some x := by
  unfold am_lr at hv
  split at hv
  · rename_i q hq
    split at hv
    · rename_i hc
      exact ⟨q.2, by rw [hq, ← hc.1], vp_in_iff.mpr hc.2, hv⟩
    · cases hv
  · cases hv
theorem am_si_of {h h' : am_H} {c p : Nat} {i x : Int32} (hv : am_si h c p i x = some h') : ∃ n, h.1[p]? = some (c, n) ∧ vp_in i n ∧ h' = am_I h p i.toNatClampNeg x := by
  unfold am_si at hv
  split at hv
  · rename_i q hq
    split at hv
    · rename_i hc
      exact ⟨q.2, by rw [hq, ← hc.1], vp_in_iff.mpr hc.2, (Option.some.inj hv).symm⟩
    · cases hv
  · cases hv
theorem am_sr_of {h h' : am_H} {p x : Nat} {i : Int32} (hv : am_sr h p i x = some h') : ∃ n n2, h.1[p]? = some (11, n) ∧ h.1[x]? = some (5, n2) ∧ vp_in i n ∧ h' = am_F h p i.toNatClampNeg (some x) := by
  unfold am_sr at hv
  split at hv
  · rename_i q z hq hz
    split at hv
    · rename_i hc
      exact ⟨q.2, z.2, by rw [hq, ← hc.1.1], by rw [hz, ← hc.1.2], vp_in_iff.mpr hc.2, (Option.some.inj hv).symm⟩
    · cases hv
  · cases hv
theorem am_plt {h : am_H} {p : Nat} {q : Nat × Nat} (hq : h.1[p]? = some q) : p < h.1.length := (List.getElem?_eq_some_iff.mp hq).1
theorem am_st_ok {nL : Nat} {rm : Room} {Ex : am_EX} {lv : List (Nat × Value)} {h h' : am_H} {D : va_G} {tc : Nat → ClassId} {ad : Nat → Nat} {A : Nat → Prop} {s : State} {H H1 : Heap} {locs locs1 : List Loc} {ls : Array Slot} {n0 : Nat} {ad0 : Nat → Nat}
    (Y : am_D nL rm Ex lv h D tc ad A s H locs ls n0 ad0) (hs : h'.1 = h.1) (ok : am_ok h') (hP : va_P D vwCl (am_w tc ad h') H1) (hD : va_D A (am_w tc ad h')) (hS : va_S A s.heap H1 locs1) : am_D nL rm Ex lv h' D tc ad A s H1 locs1 ls n0 ad0 :=
  ⟨ok, Y.2.1, hP, hD, hS, Y.2.2.2.2.2.1, by rw [hs]; exact Y.2.2.2.2.2.2.1, by rw [hs]; exact Y.2.2.2.2.2.2.2.1, Y.2.2.2.2.2.2.2.2⟩
section AMH
variable {l : Launch} {y : MethodName} {cc : ByteArray} {nL : Nat} {ret : Option FieldType} {rm : Room} {Ex : am_EX} {cells slots pc : Nat} {lv : List (Nat × Value)} {st : List Value} {h : am_H} {K : Option Value → am_H → Prop}
theorem am_get {ci p k n idx : Nat} {v : Value} (hs : h.1[p]? = some (ci, n)) (hv : ∀ ad, am_fv ad h p (am_ty ci k) k = am_cv ad v) (F : am_FL y.cls idx ci k) (d : decode cc pc = .ok (.getfield idx, 3)) (kk : am_R l y cc nL ret rm Ex cells slots (pc + 3) lv (v :: st) h K) : am_R l y cc nL ret rm Ex cells slots pc lv (.ref p :: st) h K := by
  intro pp e s m args below meth c D tc ad A H locs ls Q n0 ad0 C Y Z
  obtain ⟨h8, hk, hl⟩ := F
  have hw := am_w_at (tc := tc) (ad := ad) hs
  rw [am_ce_o (q := (ci, n)) h8] at hw
  have hf := (am_fs_at (ad := ad) (h := h) (p := p) (c := ci) hk).trans (congrArg some (hv ad))
  rcases hl with hl | ⟨host, hl⟩
  · exact va_get C.1 C.2.1 C.2.2.2.2.1 (am_uin ci h8) C.2.2.2.1 C.2.2.2.2.2.2.2.2.2.1 Y.2.2.1 p hw (am_cl ci h8) k hk (C.2.2.2.2.1 _ hl) (fun _ q => q) hf d (kk pp e s m args below meth c D tc ad A H locs ls Q n0 ad0 C Y Z)
  · exact va_getN C.1 C.2.1 C.2.2.2.2.1 (am_uin ci h8) C.2.2.2.1 C.2.2.2.2.2.2.2.2.2.1 Y.2.2.1 p hw (am_cl ci h8) k hk (va_Nw.use rfl (C.2.2.2.2.2.2.2.2.2.2.1 _ hl rfl)) (fun _ q => q) hf d (kk pp e s m args below meth c D tc ad A H locs ls Q n0 ad0 C Y Z)
theorem r_geti {ci p k idx : Nat} {x : Int32} (hv : am_gi h ci p k = some x) (F : am_FL y.cls idx ci k) (ht : am_ty ci k = .int) (d : decode cc pc = .ok (.getfield idx, 3)) (kk : am_R l y cc nL ret rm Ex cells slots (pc + 3) lv (.int x :: st) h K) : am_R l y cc nL ret rm Ex cells slots pc lv (.ref p :: st) h K := by
  obtain ⟨n, hs, rfl⟩ := am_gi_of hv
  exact am_get hs (fun ad => by rw [ht]; rfl) F d kk
theorem r_getl {ci p k idx : Nat} {x : Int64} (hv : am_gl h ci p k = some x) (F : am_FL y.cls idx ci k) (ht : am_ty ci k = .long) (d : decode cc pc = .ok (.getfield idx, 3)) (kk : am_R l y cc nL ret rm Ex cells slots (pc + 3) lv (.long x :: st) h K) : am_R l y cc nL ret rm Ex cells slots pc lv (.ref p :: st) h K := by
  obtain ⟨n, hs, rfl⟩ := am_gl_of hv
  exact am_get hs (fun ad => by rw [ht]; rfl) F d kk
def am_isr (t : FieldType) : Bool := match t with
  | .object _ => true
  | .array _ => true
  | _ => false
theorem r_getr {ci p k idx x : Nat} (hv : am_gr h ci p k = some x) (F : am_FL y.cls idx ci k) (ht : am_isr (am_ty ci k) = true) (d : decode cc pc = .ok (.getfield idx, 3)) (kk : am_R l y cc nL ret rm Ex cells slots (pc + 3) lv (.ref x :: st) h K) : am_R l y cc nL ret rm Ex cells slots pc lv (.ref p :: st) h K := by
  obtain ⟨n, hs, hx⟩ := am_gr_of hv
  refine am_get hs (fun ad => ?_) F d kk
  generalize am_ty ci k = t at ht
  cases t <;> first | (simp [am_isr] at ht; done) | (simp [am_fv, hx, va_rf, am_cv])
theorem am_put {h' : am_H} {ci p k n idx : Nat} {v : Value} (hs : h.1[p]? = some (ci, n)) (e1 : h'.1 = h.1) (ok : am_ok h → am_ok h') (hce : ∀ tc ad, ∀ j, j ≠ p → ∀ r, am_ce tc ad h' j r = am_ce tc ad h j r) (hv : ∀ ad, am_fv ad h' p (am_ty ci k) k = am_cv ad v) (ho : ∀ ad j, j ≠ k → am_fv ad h' p (am_ty ci j) j = am_fv ad h p (am_ty ci j) j)
    (hn : ∀ ad, narrow (am_ty ci k) (am_cv ad v) = am_cv ad v) (hf : ∀ ad, fits (am_ty ci k) (am_cv ad v) = true) (F : am_FL y.cls idx ci k) (hfin : (am_ct ci k).2.2.2 = false ∨ ((am_ct ci k).2.2.2 = true ∧ y.name = "<init>" ∧ (am_ct ci k).1 = y.cls ∧ Cond.fieldLink y.cls idx (am_ct ci k).1 (am_ct ci k).2.1 (am_ct ci k).2.2.1 ∈ am_T)) (d : decode cc pc = .ok (.putfield idx, 3)) (kk : am_R l y cc nL ret rm Ex cells slots (pc + 3) lv st h' K) : am_R l y cc nL ret rm Ex cells slots pc lv (v :: .ref p :: st) h K := by
  intro pp e s m args below meth c D tc ad A H locs ls Q n0 ad0 C Y Z
  obtain ⟨h8, hk, hl⟩ := F
  have hw := am_w_at (tc := tc) (ad := ad) hs
  rw [am_ce_o (q := (ci, n)) h8] at hw
  have hset := am_fs_set (ad := ad) (h := h) (h' := h') (p := p) (c := ci) (k := k) (hv ad) (fun j _ hj => ho ad j hj)
  have hws := am_w_set (tc := tc) (ad := ad) e1 hs (hce tc ad)
  rw [am_ce_o (q := (ci, n)) h8] at hws
  have hlen : k < ((List.range (am_nf ci)).map (fun j => am_fv ad h p (am_ty ci j) j)).length := by simpa using hk
  have go : ∀ (H1 : Heap) (locs1 : List Loc), va_P D vwCl ((am_w tc ad h).set p (ad p, .inr (ci, ((List.range (am_nf ci)).map (fun j => am_fv ad h p (am_ty ci j) j)).set k (am_cv ad v)))) H1 → va_D A ((am_w tc ad h).set p (ad p, .inr (ci, ((List.range (am_nf ci)).map (fun j => am_fv ad h p (am_ty ci j) j)).set k (am_cv ad v)))) → va_S A s.heap H1 locs1 → W pp l e rm s m args below meth c H1 locs1 cells slots Q (F0 m (pc + 3) ls (st.map (am_cv ad))) := by
    intro H1 locs1 q1 q2 q3
    rw [hset] at q1 q2
    rw [hws] at q1 q2
    exact kk pp e s m args below meth c D tc ad A H1 locs1 ls Q n0 ad0 C (am_st_ok Y e1 (ok Y.1) q1 q2 q3) Z
  rcases hfin with hfin | ⟨hfin, hin, hdc, hl2⟩
  · rcases hl with hl | ⟨host, hl⟩
    · exact va_put C.1 C.2.1 C.2.2.2.2.1 (am_uin ci h8) (am_ty ci) (am_tyk ci h8) (am_nmk ci h8) C.2.2.2.1 C.2.2.2.2.2.2.2.2.2.1 Y.2.2.1 Y.2.2.2.1 Y.2.2.2.2.1 p hw (am_cl ci h8) k hk (C.2.2.2.2.1 _ hl) (fun _ q => q) hfin (am_tyk ci h8 k hk) (hn ad) (hf ad) hlen d go
    · exact va_putN C.1 C.2.1 C.2.2.2.2.1 (am_uin ci h8) (am_ty ci) (am_tyk ci h8) (am_nmk ci h8) C.2.2.2.1 C.2.2.2.2.2.2.2.2.2.1 Y.2.2.1 Y.2.2.2.1 Y.2.2.2.2.1 p hw (am_cl ci h8) k hk (va_Nw.use rfl (C.2.2.2.2.2.2.2.2.2.2.1 _ hl rfl)) (fun _ q => q) hfin (am_tyk ci h8 k hk) (hn ad) (hf ad) hlen d go
  · exact va_putF C.1 C.2.1 C.2.2.2.2.1 (am_uin ci h8) (am_ty ci) (am_tyk ci h8) (am_nmk ci h8) C.2.2.2.1 C.2.2.2.2.2.2.2.2.2.1 Y.2.2.1 Y.2.2.2.1 Y.2.2.2.2.1 p hw (am_cl ci h8) k hk (C.2.2.2.2.1 _ hl2) (fun _ q => q) hfin (C.2.2.2.2.2.2.2.1.trans hin) hdc (am_tyk ci h8 k hk) (hn ad) (hf ad) hlen d go
theorem r_puti {h' : am_H} {ci p k idx : Nat} {x : Int32} (hv : am_pi h ci p k x = some h') (F : am_FL y.cls idx ci k) (ht : am_ty ci k = .int) (hfin : (am_ct ci k).2.2.2 = false) (d : decode cc pc = .ok (.putfield idx, 3)) (kk : am_R l y cc nL ret rm Ex cells slots (pc + 3) lv st h' K) : am_R l y cc nL ret rm Ex cells slots pc lv (.int x :: .ref p :: st) h K := by
  obtain ⟨n, hs, rfl⟩ := am_pi_of hv
  refine am_put (h' := am_I h p k x) hs rfl (fun ok => am_ok_I ok (am_plt hs)) (fun tc ad => am_ce_I) (fun ad => ?_) (fun ad j hj => ?_) (fun ad => by rw [ht]; rfl) (fun ad => by rw [ht]; rfl) F (Or.inl hfin) d kk
  · rw [ht]; show Value.int (am_u h.2.1 p k x p k) = _; rw [am_u_eq]; simp [am_cv]
  · show am_fv ad (am_I h p k x) p _ j = _
    simp only [am_fv, am_I, am_u_eq, hj, if_false]
theorem r_putl {h' : am_H} {ci p k idx : Nat} {x : Int64} (hv : am_pl h ci p k x = some h') (F : am_FL y.cls idx ci k) (ht : am_ty ci k = .long) (hfin : (am_ct ci k).2.2.2 = false) (d : decode cc pc = .ok (.putfield idx, 3)) (kk : am_R l y cc nL ret rm Ex cells slots (pc + 3) lv st h' K) : am_R l y cc nL ret rm Ex cells slots pc lv (.long x :: .ref p :: st) h K := by
  obtain ⟨n, hs, rfl⟩ := am_pl_of hv
  refine am_put (h' := am_L h p k x) hs rfl (fun ok => am_ok_L ok (am_plt hs)) (fun tc ad => am_ce_L) (fun ad => ?_) (fun ad j hj => ?_) (fun ad => by rw [ht]; rfl) (fun ad => by rw [ht]; rfl) F (Or.inl hfin) d kk
  · rw [ht]; show Value.long (am_u h.2.2.1 p k x p k) = _; rw [am_u_eq]; simp [am_cv]
  · show am_fv ad (am_L h p k x) p _ j = _
    simp only [am_fv, am_L, am_u_eq, hj, if_false]
theorem r_putr {h' : am_H} {ci p k idx x : Nat} (hv : am_pr h ci p k x = some h') (F : am_FL y.cls idx ci k) (ht : am_isr (am_ty ci k) = true) (hfin : (am_ct ci k).2.2.2 = true ∧ y.name = "<init>" ∧ (am_ct ci k).1 = y.cls ∧ Cond.fieldLink y.cls idx (am_ct ci k).1 (am_ct ci k).2.1 (am_ct ci k).2.2.1 ∈ am_T) (d : decode cc pc = .ok (.putfield idx, 3)) (kk : am_R l y cc nL ret rm Ex cells slots (pc + 3) lv st h' K) : am_R l y cc nL ret rm Ex cells slots pc lv (.ref x :: .ref p :: st) h K := by
  obtain ⟨n, hs, hx, rfl⟩ := am_pr_of hv
  refine am_put (h' := am_F h p k (some x)) hs rfl (fun ok => am_ok_F ok (am_plt hs) hx) (fun tc ad => am_ce_F) (fun ad => ?_) (fun ad j hj => ?_) (fun ad => ?_) (fun ad => ?_) F (Or.inr hfin) d kk
  · generalize am_ty ci k = t at ht
    cases t <;> first | (simp [am_isr] at ht; done) | (simp [am_fv, am_F, am_u_eq, va_rf, am_cv])
  · show am_fv ad (am_F h p k (some x)) p _ j = _
    simp only [am_fv, am_F, am_u_eq, hj, if_false]
  · generalize am_ty ci k = t at ht
    cases t <;> first | (simp [am_isr] at ht; done) | rfl
  · generalize am_ty ci k = t at ht
    cases t <;> first | (simp [am_isr] at ht; done) | rfl
theorem r_iald {p : Nat} {i x : Int32} (hv : am_li h 9 p i = some x) (d : decode cc pc = .ok (.iaload, 1)) (kk : am_R l y cc nL ret rm Ex cells slots (pc + 1) lv (.int x :: st) h K) : am_R l y cc nL ret rm Ex cells slots pc lv (.int i :: .ref p :: st) h K := by
  intro pp e s m args below meth c D tc ad A H locs ls Q n0 ad0 C Y Z
  obtain ⟨n, hs, hin, rfl⟩ := am_li_of hv
  have hw := am_w_at (tc := tc) (ad := ad) hs
  rw [am_ce_i (by decide) (by decide)] at hw
  exact va_iald C.1 C.2.1 C.2.2.2.2.2.2.2.2.2.1 Y.2.2.1 p 1 hw rfl hin d (kk pp e s m args below meth c D tc ad A H locs ls Q n0 ad0 C Y Z)
theorem r_cald {p : Nat} {i x : Int32} (hv : am_li h 8 p i = some x) (d : decode cc pc = .ok (.caload, 1)) (kk : am_R l y cc nL ret rm Ex cells slots (pc + 1) lv (.int x :: st) h K) : am_R l y cc nL ret rm Ex cells slots pc lv (.int i :: .ref p :: st) h K := by
  intro pp e s m args below meth c D tc ad A H locs ls Q n0 ad0 C Y Z
  obtain ⟨n, hs, hin, rfl⟩ := am_li_of hv
  have hw := am_w_at (tc := tc) (ad := ad) hs
  rw [am_ce_i (by decide) (by decide)] at hw
  exact va_cald C.1 C.2.1 C.2.2.2.2.2.2.2.2.2.1 Y.2.2.1 p 0 hw rfl hin d (kk pp e s m args below meth c D tc ad A H locs ls Q n0 ad0 C Y Z)
theorem r_zald {p : Nat} {i x : Int32} (hv : am_li h 10 p i = some x) (d : decode cc pc = .ok (.baload, 1)) (kk : am_R l y cc nL ret rm Ex cells slots (pc + 1) lv (.int x :: st) h K) : am_R l y cc nL ret rm Ex cells slots pc lv (.int i :: .ref p :: st) h K := by
  intro pp e s m args below meth c D tc ad A H locs ls Q n0 ad0 C Y Z
  obtain ⟨n, hs, hin, rfl⟩ := am_li_of hv
  have hw := am_w_at (tc := tc) (ad := ad) hs
  rw [am_ce_i (by decide) (by decide)] at hw
  exact va_zald C.1 C.2.1 C.2.2.2.2.2.2.2.2.2.1 Y.2.2.1 p 2 hw rfl hin d (kk pp e s m args below meth c D tc ad A H locs ls Q n0 ad0 C Y Z)
theorem r_iast {h' : am_H} {p : Nat} {i x : Int32} (hv : am_si h 9 p i (x) = some h') (d : decode cc pc = .ok (.iastore, 1)) (kk : am_R l y cc nL ret rm Ex cells slots (pc + 1) lv st h' K) : am_R l y cc nL ret rm Ex cells slots pc lv (.int x :: .int i :: .ref p :: st) h K := by
  intro pp e s m args below meth c D tc ad A H locs ls Q n0 ad0 C Y Z
  obtain ⟨n, hs, hin, rfl⟩ := am_si_of hv
  have hw := am_w_at (tc := tc) (ad := ad) hs
  rw [am_ce_i (by decide) (by decide)] at hw
  have hws := am_w_set (tc := tc) (ad := ad) (h := h) (h' := am_I h p i.toNatClampNeg (x)) rfl hs am_ce_I
  rw [am_ce_i (by decide) (by decide)] at hws
  have hu : (am_I h p i.toNatClampNeg (x)).2.1 p = upd (h.2.1 p) i.toNatClampNeg (x) := by
    show am_u h.2.1 p _ _ p = _
    rw [am_u_eq]
    rfl
  rw [hu] at hws
  refine va_iast C.1 C.2.1 C.2.2.2.2.2.2.2.2.2.1 Y.2.2.1 Y.2.2.2.1 Y.2.2.2.2.1 p 1 hw rfl hin d (fun H1 locs1 q1 q2 q3 => ?_)
  rw [hws] at q1 q2
  exact kk pp e s m args below meth c D tc ad A H1 locs1 ls Q n0 ad0 C (am_st_ok Y rfl (am_ok_I Y.1 (am_plt hs)) q1 q2 q3) Z
theorem r_cast {h' : am_H} {p : Nat} {i x : Int32} (hv : am_si h 8 p i (vp_nar .char x) = some h') (d : decode cc pc = .ok (.castore, 1)) (kk : am_R l y cc nL ret rm Ex cells slots (pc + 1) lv st h' K) : am_R l y cc nL ret rm Ex cells slots pc lv (.int x :: .int i :: .ref p :: st) h K := by
  intro pp e s m args below meth c D tc ad A H locs ls Q n0 ad0 C Y Z
  obtain ⟨n, hs, hin, rfl⟩ := am_si_of hv
  have hw := am_w_at (tc := tc) (ad := ad) hs
  rw [am_ce_i (by decide) (by decide)] at hw
  have hws := am_w_set (tc := tc) (ad := ad) (h := h) (h' := am_I h p i.toNatClampNeg (vp_nar .char x)) rfl hs am_ce_I
  rw [am_ce_i (by decide) (by decide)] at hws
  have hu : (am_I h p i.toNatClampNeg (vp_nar .char x)).2.1 p = upd (h.2.1 p) i.toNatClampNeg (vp_nar .char x) := by
    show am_u h.2.1 p _ _ p = _
    rw [am_u_eq]
    rfl
  rw [hu] at hws
  refine va_cast C.1 C.2.1 C.2.2.2.2.2.2.2.2.2.1 Y.2.2.1 Y.2.2.2.1 Y.2.2.2.2.1 p 0 hw rfl hin d (fun H1 locs1 q1 q2 q3 => ?_)
  rw [hws] at q1 q2
  exact kk pp e s m args below meth c D tc ad A H1 locs1 ls Q n0 ad0 C (am_st_ok Y rfl (am_ok_I Y.1 (am_plt hs)) q1 q2 q3) Z
theorem r_zast {h' : am_H} {p : Nat} {i x : Int32} (hv : am_si h 10 p i (vp_nar .boolean x) = some h') (d : decode cc pc = .ok (.bastore, 1)) (kk : am_R l y cc nL ret rm Ex cells slots (pc + 1) lv st h' K) : am_R l y cc nL ret rm Ex cells slots pc lv (.int x :: .int i :: .ref p :: st) h K := by
  intro pp e s m args below meth c D tc ad A H locs ls Q n0 ad0 C Y Z
  obtain ⟨n, hs, hin, rfl⟩ := am_si_of hv
  have hw := am_w_at (tc := tc) (ad := ad) hs
  rw [am_ce_i (by decide) (by decide)] at hw
  have hws := am_w_set (tc := tc) (ad := ad) (h := h) (h' := am_I h p i.toNatClampNeg (vp_nar .boolean x)) rfl hs am_ce_I
  rw [am_ce_i (by decide) (by decide)] at hws
  have hu : (am_I h p i.toNatClampNeg (vp_nar .boolean x)).2.1 p = upd (h.2.1 p) i.toNatClampNeg (vp_nar .boolean x) := by
    show am_u h.2.1 p _ _ p = _
    rw [am_u_eq]
    rfl
  rw [hu] at hws
  refine va_zast C.1 C.2.1 C.2.2.2.2.2.2.2.2.2.1 Y.2.2.1 Y.2.2.2.1 Y.2.2.2.2.1 p 2 hw rfl hin d (fun H1 locs1 q1 q2 q3 => ?_)
  rw [hws] at q1 q2
  exact kk pp e s m args below meth c D tc ad A H1 locs1 ls Q n0 ad0 C (am_st_ok Y rfl (am_ok_I Y.1 (am_plt hs)) q1 q2 q3) Z
theorem r_aald {p x : Nat} {i : Int32} (hv : am_lr h p i = some x) (d : decode cc pc = .ok (.aaload, 1)) (kk : am_R l y cc nL ret rm Ex cells slots (pc + 1) lv (.ref x :: st) h K) : am_R l y cc nL ret rm Ex cells slots pc lv (.int i :: .ref p :: st) h K := by
  intro pp e s m args below meth c D tc ad A H locs ls Q n0 ad0 C Y Z
  obtain ⟨n, hs, hin, hx⟩ := am_lr_of hv
  have hw := am_w_at (tc := tc) (ad := ad) hs
  rw [am_ce_q] at hw
  refine va_aldq C.1 C.2.1 C.2.2.2.2.2.2.2.2.2.1 Y.2.2.1 p 3 hw rfl hin d ?_
  rw [hx]
  exact kk pp e s m args below meth c D tc ad A H locs ls Q n0 ad0 C Y Z
theorem r_aast {h' : am_H} {p x : Nat} {i : Int32} (hv : am_sr h p i x = some h') (d : decode cc pc = .ok (.aastore, 1)) (kk : am_R l y cc nL ret rm Ex cells slots (pc + 1) lv st h' K) : am_R l y cc nL ret rm Ex cells slots pc lv (.ref x :: .int i :: .ref p :: st) h K := by
  intro pp e s m args below meth c D tc ad A H locs ls Q n0 ad0 C Y Z
  obtain ⟨n, n2, hs, hz, hin, rfl⟩ := am_sr_of hv
  have hw := am_w_at (tc := tc) (ad := ad) hs
  rw [am_ce_q] at hw
  have hw2 := am_w_at (tc := tc) (ad := ad) hz
  rw [am_ce_o (q := (5, n2)) (show 5 < 8 by decide)] at hw2
  have hws := am_w_set (tc := tc) (ad := ad) (h := h) (h' := am_F h p i.toNatClampNeg (some x)) rfl hs am_ce_F
  rw [am_ce_q] at hws
  have hu : (fun j => ((am_F h p i.toNatClampNeg (some x)).2.2.2 p j).map ad) = va_up (fun j => (h.2.2.2 p j).map ad) i.toNatClampNeg (some (ad x)) := by
    funext j
    show (am_u h.2.2.2 p _ _ p j).map ad = _
    rw [am_u_eq]
    by_cases hj : j = i.toNatClampNeg <;> simp [va_up, hj]
  rw [hu] at hws
  refine va_astq C.1 C.2.1 C.2.2.2.2.2.2.2.2.2.1 Y.2.2.1 Y.2.2.2.1 Y.2.2.2.2.1 p 3 x 5 (r := (RX5, TX5, 5)) hw rfl hw2 rfl hin d (fun H1 locs1 q1 q2 q3 => ?_)
  rw [hws] at q1 q2
  exact kk pp e s m args below meth c D tc ad A H1 locs1 ls Q n0 ad0 C (am_st_ok Y rfl (am_ok_F Y.1 (am_plt hs) (am_plt hz)) q1 q2 q3) Z
end AMH
end
section
def am_Pc (D : va_G) (tc : Nat → ClassId) (ad : Nat → Nat) (h : am_H) (av : List Value) (sz : Nat) : Array Value → State → Prop := va_Pc (av.map (am_cv ad)) (fun U => U.heap.size = sz ∧ va_P D vwCl (am_w tc ad h) U.heap ∧ am_G D tc U ∧ va_D (fun _ => True) (am_w tc ad h))
def am_Q (D : va_G) (tc : Nat → ClassId) (ad : Nat → Nat) (h : am_H) (rm : Room) (sz : Nat) (r : Option Value) (h' : am_H) : Array Value → State → Outcome → State → Prop := fun _ st oc t =>
  (am_ok h' ∧ h.1.length ≤ h'.1.length ∧ ∃ ad' : Nat → Nat, (∀ k, k < h.1.length ∨ h'.1.length ≤ k → ad' k = ad k) ∧ (rm.cells = 0 → ad' = ad) ∧ oc = .returned (r.map (am_cv ad')) ∧ va_P D vwCl (am_w tc ad' h') t.heap ∧ va_D (va_A (am_w tc ad h) sz) (am_w tc ad' h')) ∧ va_F (va_A (am_w tc ad h) sz) st t
/-- a method's contract: from heap h with these arguments it answers r and leaves h' -/
def am_Ct (l : Launch) (y : MethodName) (cc : ByteArray) (nL : Nat) (ret : Option FieldType) (rm : Room) (av : List Value) (h : am_H) (r : Option Value) (h' : am_H) : Prop :=
  am_ok h → ∀ (D : va_G) (tc : Nat → ClassId) (ad : Nat → Nat) (sz : Nat), Met l y (Cond.code y cc nL ret :: am_T) rm (am_Pc D tc ad h av sz) (am_Q D tc ad h rm sz r h') rm.cells rm.slots (va_A (am_w tc ad h) sz)
theorem am_args (ad : Nat → Nat) : ∀ (av : List Value) (i : Nat), lv_args i (av.map (am_cv ad)) = am_lm ad (lv_args i av)
  | [], _ => rfl
  | v :: vs, i => by
    simp only [List.map_cons, lv_args, am_cat, am_args ad vs]
    rfl
theorem am_sl (ad : Nat → Nat) (av : List Value) : (lg_sl (av.map (am_cv ad))).length = (lg_sl av).length := by
  induction av with
  | nil => rfl
  | cons v t ih =>
    simp only [lg_sl, List.map_cons, List.flatMap_cons, List.length_append] at ih ⊢
    rw [ih, am_cat]
    split <;> simp
theorem am_met {l : Launch} {y : MethodName} {cc : ByteArray} {nL : Nat} {ret : Option FieldType} {rm : Room} {av : List Value} {h : am_H} {r : Option Value} {h' : am_H} (hy : plainName y.cls = true) (hlen : (lg_sl av).length ≤ nL)
    (hR : am_R l y cc nL ret rm (fun _ _ _ => True) 0 0 0 (lv_args 0 av) [] h (fun v h2 => v = r ∧ h2 = h')) : am_Ct l y cc nL ret rm av h r h' := by
  intro ok D tc ad sz
  refine Met.ofW (cc := cc) (maxL := nL) (ret := ret) hy rfl ?_
  intro p e s m args below meth c s₁ B hml hv
  obtain ⟨rfl, hsz, hP, hG, hD0⟩ := hv
  have hts := atoms_spec (ws := Cond.code y cc nL ret :: am_T) B.pre
  subst hsz
  have hD := hD0.self (sz := s.heap.size)
  have C : am_C y cc nL ret p s m (av.map (am_cv ad)).toArray meth c D tc (va_A (am_w tc ad h) s.heap.size) := ⟨B.exec, B.bytes, hml, findClass_of_methodNamed B.named, fun w hw => hts w (List.mem_cons_of_mem _ hw), B.returns, B.notSynchronized, (name_of_methodNamed B.named B.method).1, fun q hq => Or.inr hq, hG⟩
  have hl := lv_entry (av.map (am_cv ad)) (n := nL) (by rw [am_sl]; exact hlen)
  rw [am_args] at hl
  rw [lg_entry_eq]
  refine hR p e s m _ below meth c D tc ad _ s.heap [] _ _ h.1.length ad C ⟨ok, hl, hP, hD, va_S.rf, trivial, Nat.le_refl _, fun _ _ => rfl, fun _ => rfl⟩ ?_
  intro v h2 ad2 H locs pc ls hK ok2 hn he hc hP2 hD2 hS2 hrt
  obtain ⟨rfl, rfl⟩ := hK
  have hq : ∀ t : State, t.heap = H → am_Q D tc ad h rm s.heap.size v h2 (av.map (am_cv ad)).toArray s (.returned (v.map (am_cv ad2))) t := fun t ht => ⟨⟨ok2, hn, ad2, he, hc, rfl, by rw [ht]; exact hP2, hD2⟩, hS2.F ht⟩
  cases v with
  | none => exact W.vret C.1 C.2.1 (C.2.2.2.2.2.1.trans hrt.2) (fun t ht _ => hq t ht) hS2.2.2 hrt.1 C.2.2.2.2.2.2.1
  | some v =>
    cases v with
    | int x =>
      obtain ⟨hd, ty, hr, hnr⟩ := hrt
      exact W.zret C.1 C.2.1 (C.2.2.2.2.2.1.trans hr) hnr (fun t ht _ => hq t ht) hS2.2.2 hd C.2.2.2.2.2.2.1
    | long x => exact W.lret C.1 C.2.1 (C.2.2.2.2.2.1.trans hrt.2) (fun t ht _ => hq t ht) hS2.2.2 hrt.1 C.2.2.2.2.2.2.1
    | _ => exact hrt.elim
def am_rl (n n' : Nat) (v : Value) : Bool := match v with
  | .ref k => decide (k < n) || decide (n' ≤ k)
  | _ => true
theorem am_rl_eq {n n' : Nat} {v : Value} {ad ad' : Nat → Nat} (h : am_rl n n' v = true) (he : ∀ k, k < n ∨ n' ≤ k → ad' k = ad k) : am_cv ad' v = am_cv ad v := by
  cases v with
  | ref k =>
    simp only [am_rl, Bool.or_eq_true, decide_eq_true_eq] at h
    simp only [am_cv, he k h]
  | _ => rfl
theorem am_rl_st {n n' : Nat} {st : List Value} {ad ad' : Nat → Nat} (h : st.all (am_rl n n') = true) (he : ∀ k, k < n ∨ n' ≤ k → ad' k = ad k) : st.map (am_cv ad') = st.map (am_cv ad) := by
  apply List.map_congr_left
  intro v hv
  exact am_rl_eq (List.all_eq_true.mp h v hv) he
theorem am_rl_lv {n n' : Nat} {lv : List (Nat × Value)} {ad ad' : Nat → Nat} (h : lv.all (fun q => am_rl n n' q.2) = true) (he : ∀ k, k < n ∨ n' ≤ k → ad' k = ad k) : am_lm ad' lv = am_lm ad lv := by
  apply List.map_congr_left
  intro q hq
  rw [am_rl_eq (List.all_eq_true.mp h q hq) he]
/-- what the extra words must bear when cells come -/
def am_Mv (Ex : am_EX) (n n' : Nat) : Prop := ∀ (ad ad' : Nat → Nat) (s : State) (A : Nat → Prop), (∀ k, k < n ∨ n' ≤ k → ad' k = ad k) → Ex ad s A → Ex ad' s A
theorem am_Mv_T {n n' : Nat} : am_Mv (fun _ _ _ => True) n n' := fun _ _ _ _ _ _ => trivial
/-- no cell comes, or all that is at hand lies below -/
def am_Al (Ex : am_EX) (rm rm' : Room) (n n' : Nat) (lv : List (Nat × Value)) (st : List Value) : Prop := rm'.cells = 0 ∨ (rm.cells ≠ 0 ∧ lv.all (fun q => am_rl n n' q.2) = true ∧ st.all (am_rl n n') = true ∧ am_Mv Ex n n')
def am_MF (y : MethodName) (cc : ByteArray) (nL : Nat) (ret : Option FieldType) (n : Nat) : Prop := Cond.code y cc nL ret ∈ am_T ∧ Cond.initialized y.cls ∈ am_T ∧ (y.cls ≠ "java/lang/invoke/MethodHandle" ∧ y.cls ≠ "java/lang/invoke/VarHandle" ∧ (parseMethodDescriptor y.desc).map (fun d => d.parameters.length) = some n)
def am_ML (own : String) (idx : Nat) (y : MethodName) : Prop := Cond.methodLink own idx y ∈ am_T ∨ ∃ host, Cond.methodLinkNest own idx y host ∈ lw_tbl
theorem am_gd {y : MethodName} {cc : ByteArray} {nL : Nat} {ret : Option FieldType} (hc : Cond.code y cc nL ret ∈ am_T) : GoodIn am_T (Cond.code y cc nL ret :: am_T) := by
  intro w hw
  rcases List.mem_cons.mp hw with rfl | hw
  · exact ⟨hc, good_of_word (List.mem_filter.mp hc).2⟩
  · exact ⟨hw, good_of_word (List.mem_filter.mp hw).2⟩
theorem am_blind {D : va_G} {tc : Nat → ClassId} {ad : Nat → Nat} {h : am_H} {av : List Value} {sz : Nat} : FrameBlind (am_Pc D tc ad h av sz) := by
  intro a U g mk q
  obtain ⟨q0, q1, qP, qG, qD⟩ := q
  exact ⟨q0, q1, qP, qG.blind rfl, qD⟩
theorem am_sum (ad : Nat → Nat) (st : List Value) : ((st.map (am_cv ad)).map fun v => v.category).sum = (st.map fun v => v.category).sum := by
  rw [List.map_map]
  congr 2
  funext v
  exact am_cat ad v
section AMC
variable {l : Launch} {y : MethodName} {cc : ByteArray} {nL : Nat} {ret : Option FieldType} {rm : Room} {Ex : am_EX} {cells slots pc : Nat} {lv : List (Nat × Value)} {st : List Value} {h : am_H} {K : Option Value → am_H → Prop}
theorem am_back {rm' : Room} {h' : am_H} {r : Option Value} {st0 : List Value} {pp : Program} {e : Env} {s : State} {m : MethodId} {args : Array Value} {below : List Frame} {meth : Method} {c : Code} {D : va_G} {tc : Nat → ClassId} {ad : Nat → Nat} {A : Nat → Prop} {H : Heap} {locs : List Loc} {ls : Array Slot} {Q : State → Prop} {n0 : Nat} {ad0 : Nat → Nat} {a : Array Value}
    (run : va_Run pp l e rm s m args below meth c H locs cells slots rm'.cells rm'.slots (F0 m pc ls st0) (st.map (am_cv ad)) (am_Q D tc ad h rm' H.size r h' a) (va_A (am_w tc ad h) H.size))
    (C : am_C y cc nL ret pp s m args meth c D tc A) (Y : am_D nL rm Ex lv h D tc ad A s H locs ls n0 ad0) (Z : am_K l cc ret rm pp e s m args below meth c D tc A Q n0 ad0 K)
    (hA : am_Al Ex rm rm' h.1.length h'.1.length lv st) (kk : am_R l y cc nL ret rm Ex (cells + rm'.cells) (slots + rm'.slots) (pc + 3) lv (r.toList ++ st) h' K) : W pp l e rm s m args below meth c H locs cells slots Q (F0 m pc ls st0) := by
  intro T hT X
  obtain ⟨v, st₀, t, T', L, h0, X', hL, e1, e2, ⟨⟨ok', hln, ad', ha1, ha2, hv, hP', hD'⟩, hz, hk⟩, stp⟩ := run T hT X
  cases hv
  rw [h0] at hz hk
  have hf : ∀ q, va_A (am_w tc ad h) H.size q → A q := by
    intro q hq
    rcases hq with ⟨k, x, hx⟩ | hq
    · exact Y.2.2.2.1.2 k _ hx
    · exact C.2.2.2.2.2.2.2.2.1 q (Nat.le_trans Y.2.2.2.2.1.1 hq)
  have hS' : va_S A s.heap T'.heap (locs ++ L) := ⟨Nat.le_trans Y.2.2.2.2.1.1 (by rw [e1]; exact hz), fun q h1 h2 => by rw [e1, hk q (Nat.lt_of_lt_of_le h1 Y.2.2.2.2.1.1) (fun z => h2 (hf q z))]; exact Y.2.2.2.2.1.2.1 q h1 h2, fun q hq => by
      rcases List.mem_append.mp hq with h | h
      · exact Y.2.2.2.2.1.2.2 q h
      · exact hf _ (hL q h)⟩
  have key : am_lm ad' lv = am_lm ad lv ∧ st.map (am_cv ad') = st.map (am_cv ad) ∧ Ex ad' s A ∧ (rm.cells = 0 → ad' = ad0) := by
    rcases hA with hA | ⟨a1, a2, a3, a4⟩
    · have := ha2 hA
      subst this
      exact ⟨rfl, rfl, Y.2.2.2.2.2.1, Y.2.2.2.2.2.2.2.2⟩
    · exact ⟨am_rl_lv a2 ha1, am_rl_st a3 ha1, a4 ad ad' s A ha1 Y.2.2.2.2.2.1, fun z => absurd z a1⟩
  obtain ⟨k1, k2, k3, k4⟩ := key
  have kW := kk pp e s m args below meth c D tc ad' A T'.heap (locs ++ L) ls Q n0 ad0 C ⟨ok', by rw [k1]; exact Y.2.1, by rw [e1]; exact hP', hD'.weaken (fun _ q _ hq => hf q.1 hq), hS', k3, Nat.le_trans Y.2.2.2.2.2.2.1 hln, fun k hk2 => by
      rw [ha1 k (hk2.imp (fun q => Nat.lt_of_lt_of_le q Y.2.2.2.2.2.2.1) id)]
      exact Y.2.2.2.2.2.2.2.1 k (hk2.imp id (fun q => Nat.le_trans hln q)), k4⟩ Z
  rw [List.map_append, k2, show r.toList.map (am_cv ad') = (r.map (am_cv ad')).toList by cases r <;> rfl] at kW
  obtain ⟨t2, b1, b2⟩ := kW T' rfl X'
  exact ⟨t2, stp t2 b1, b2⟩
theorem r_callV {y' : MethodName} {cc' : ByteArray} {nL' : Nat} {ret' : Option FieldType} {rm' : Room} {h' : am_H} {r : Option Value} {st0 : List Value} {p0 idx ci n : Nat} (As : List Value) (ct : am_Ct l y' cc' nL' ret' rm' (.ref p0 :: As) h r h') (M : am_MF y' cc' nL' ret' As.length) (ML : am_ML y.cls idx y') (hi : Cond.instanceMethod y' ∈ am_T) (hse : Cond.selects y'.cls y' y' ∈ am_T)
    (hci : ci < 8 ∧ am_cn ci = y'.cls) (hp0 : h.1[p0]? = some (ci, n)) (hr : (rm'.frames + 1 ≤ rm.frames ∧ 8 + (nL' + 11) + rm'.locals ≤ rm.locals) ∧ cells + rm'.cells ≤ rm.cells ∧ slots + rm'.slots ≤ rm.slots) (hst : st0 = As.reverse ++ .ref p0 :: st) (hcat : (st.map fun v => v.category).sum ≤ 8) (d : decode cc pc = .ok (.invokevirtual idx, 3)) (hA : am_Al Ex rm rm' h.1.length h'.1.length lv st)
    (kk : am_R l y cc nL ret rm Ex (cells + rm'.cells) (slots + rm'.slots) (pc + 3) lv (r.toList ++ st) h' K) : am_R l y cc nL ret rm Ex cells slots pc lv st0 h K := by
  intro pp e s m args below meth c D tc ad A H locs ls Q n0 ad0 C Y Z
  have hw := am_w_at (tc := tc) (ad := ad) hp0
  rw [am_ce_o (q := (ci, n)) hci.1] at hw
  have hrec := va_recv C.2.2.2.2.2.2.2.2.2.1 Y.2.2.1 (am_cl ci hci.1) hw
  dsimp only at hrec
  rw [hci.2] at hrec
  have hp : PreV s H y'.cls (ad p0) (am_Pc D tc ad h (.ref p0 :: As) H.size) (As.map (am_cv ad)) := ⟨am_blind, hrec, fun U hU hW => ⟨rfl, by rw [hU], by rw [hU]; exact Y.2.2.1, C.2.2.2.2.2.2.2.2.2.warm hW, Y.2.2.2.1.weaken (fun _ _ _ _ => trivial)⟩⟩
  have hs2 : (F0 m pc ls (st0.map (am_cv ad))).stack = (As.map (am_cv ad)).reverse ++ .ref (ad p0) :: st.map (am_cv ad) := by
    rw [hst]; simp [am_cv]
  rcases ML with hl | ⟨host, hl⟩
  · exact am_back (va_runV (n := As.length) (As := As.map (am_cv ad)) (rest := st.map (am_cv ad)) ⟨C.1, C.2.1, C.2.2.1, C.2.2.2.1, C.2.2.2.2.1⟩ (ct Y.1 D tc ad H.size) ⟨callB_of As.length C.2.2.2.2.1 (am_gd M.1) rfl rfl rfl (C.2.2.2.2.1 _ M.2.1) (C.2.2.2.2.1 _ hl) M.2.2 hr.1, C.2.2.2.2.1 _ hi, C.2.2.2.2.1 _ hse⟩ hp rfl (by simp) Y.2.1.1 hs2 (lv_room (by rw [am_sum]; exact hcat)) d hr.2) C Y Z hA kk
  · exact am_back (va_runVN (n := As.length) (As := As.map (am_cv ad)) (rest := st.map (am_cv ad)) ⟨C.1, C.2.1, C.2.2.1, C.2.2.2.1, C.2.2.2.2.1⟩ (ct Y.1 D tc ad H.size) ⟨va_cnB As.length C.2.2.2.2.1 (am_gd M.1) rfl rfl rfl (C.2.2.2.2.2.2.2.2.2.2.1 _ hl rfl) (C.2.2.2.2.1 _ M.2.1) M.2.2 hr.1, C.2.2.2.2.1 _ hi, C.2.2.2.2.1 _ hse⟩ hp rfl (by simp) Y.2.1.1 hs2 (lv_room (by rw [am_sum]; exact hcat)) d hr.2) C Y Z hA kk
theorem r_callS {y' : MethodName} {cc' : ByteArray} {nL' : Nat} {ret' : Option FieldType} {rm' : Room} {h' : am_H} {r : Option Value} {st0 : List Value} {idx : Nat} (As : List Value) (ct : am_Ct l y' cc' nL' ret' rm' As h r h') (M : am_MF y' cc' nL' ret' As.length) (ML : am_ML y.cls idx y') (hi : Cond.static y' ∈ am_T)
    (hr : (rm'.frames + 1 ≤ rm.frames ∧ 8 + (nL' + 11) + rm'.locals ≤ rm.locals) ∧ cells + rm'.cells ≤ rm.cells ∧ slots + rm'.slots ≤ rm.slots) (hst : st0 = As.reverse ++ st) (hcat : (st.map fun v => v.category).sum ≤ 8) (d : decode cc pc = .ok (.invokestatic idx, 3)) (hA : am_Al Ex rm rm' h.1.length h'.1.length lv st)
    (kk : am_R l y cc nL ret rm Ex (cells + rm'.cells) (slots + rm'.slots) (pc + 3) lv (r.toList ++ st) h' K) : am_R l y cc nL ret rm Ex cells slots pc lv st0 h K := by
  intro pp e s m args below meth c D tc ad A H locs ls Q n0 ad0 C Y Z
  have hp : PreS s H (am_Pc D tc ad h As H.size) (As.map (am_cv ad)) := ⟨am_blind, fun U hU hW => ⟨rfl, by rw [hU], by rw [hU]; exact Y.2.2.1, C.2.2.2.2.2.2.2.2.2.warm hW, Y.2.2.2.1.weaken (fun _ _ _ _ => trivial)⟩⟩
  have hs2 : (F0 m pc ls (st0.map (am_cv ad))).stack = (As.map (am_cv ad)).reverse ++ st.map (am_cv ad) := by
    rw [hst]; simp
  rcases ML with hl | ⟨host, hl⟩
  · exact am_back (va_runS (n := As.length) (As := As.map (am_cv ad)) (rest := st.map (am_cv ad)) ⟨C.1, C.2.1, C.2.2.1, C.2.2.2.1, C.2.2.2.2.1⟩ (ct Y.1 D tc ad H.size) ⟨callB_of As.length C.2.2.2.2.1 (am_gd M.1) rfl rfl rfl (C.2.2.2.2.1 _ M.2.1) (C.2.2.2.2.1 _ hl) M.2.2 hr.1, C.2.2.2.2.1 _ hi⟩ hp rfl (by simp) Y.2.1.1 hs2 (lv_room (by rw [am_sum]; exact hcat)) d hr.2) C Y Z hA kk
  · exact am_back (va_runSN (n := As.length) (As := As.map (am_cv ad)) (rest := st.map (am_cv ad)) ⟨C.1, C.2.1, C.2.2.1, C.2.2.2.1, C.2.2.2.2.1⟩ (ct Y.1 D tc ad H.size) ⟨va_cnB As.length C.2.2.2.2.1 (am_gd M.1) rfl rfl rfl (C.2.2.2.2.2.2.2.2.2.2.1 _ hl rfl) (C.2.2.2.2.1 _ M.2.1) M.2.2 hr.1, C.2.2.2.2.1 _ hi, trivial⟩ hp rfl (by simp) Y.2.1.1 hs2 (lv_room (by rw [am_sum]; exact hcat)) d hr.2) C Y Z hA kk
theorem r_callI {y' : MethodName} {cc' : ByteArray} {nL' : Nat} {rm' : Room} {h' : am_H} {st0 : List Value} {p0 idx : Nat} (As : List Value) (ct : am_Ct l y' cc' nL' none rm' (.ref p0 :: As) h none h') (M : am_MF y' cc' nL' none As.length) (ML : am_ML y.cls idx y') (hi : Cond.instanceMethod y' ∈ am_T) (hn : y'.name = "<init>")
    (hr : (rm'.frames + 1 ≤ rm.frames ∧ 8 + (nL' + 11) + rm'.locals ≤ rm.locals) ∧ cells + rm'.cells ≤ rm.cells ∧ slots + rm'.slots ≤ rm.slots) (hst : st0 = As.reverse ++ .ref p0 :: st) (hcat : (st.map fun v => v.category).sum ≤ 8) (d : decode cc pc = .ok (.invokespecial idx, 3)) (hA : am_Al Ex rm rm' h.1.length h'.1.length lv st)
    (kk : am_R l y cc nL ret rm Ex (cells + rm'.cells) (slots + rm'.slots) (pc + 3) lv st h' K) : am_R l y cc nL ret rm Ex cells slots pc lv st0 h K := by
  intro pp e s m args below meth c D tc ad A H locs ls Q n0 ad0 C Y Z
  have hp : PreS s H (am_Pc D tc ad h (.ref p0 :: As) H.size) (.ref (ad p0) :: As.map (am_cv ad)) := ⟨am_blind, fun U hU hW => ⟨rfl, by rw [hU], by rw [hU]; exact Y.2.2.1, C.2.2.2.2.2.2.2.2.2.warm hW, Y.2.2.2.1.weaken (fun _ _ _ _ => trivial)⟩⟩
  have hs2 : (F0 m pc ls (st0.map (am_cv ad))).stack = (As.map (am_cv ad)).reverse ++ .ref (ad p0) :: st.map (am_cv ad) := by
    rw [hst]; simp [am_cv]
  rcases ML with hl | ⟨host, hl⟩
  · exact am_back (r := none) (va_runI (n := As.length) (As := As.map (am_cv ad)) (rest := st.map (am_cv ad)) ⟨C.1, C.2.1, C.2.2.1, C.2.2.2.1, C.2.2.2.2.1⟩ (ct Y.1 D tc ad H.size) ⟨callB_of As.length C.2.2.2.2.1 (am_gd M.1) rfl rfl rfl (C.2.2.2.2.1 _ M.2.1) (C.2.2.2.2.1 _ hl) M.2.2 hr.1, hn, C.2.2.2.2.1 _ hi⟩ hp rfl (by simp) Y.2.1.1 hs2 (lv_room (by rw [am_sum]; exact hcat)) d hr.2) C Y Z hA kk
  · exact am_back (r := none) (va_runIN (n := As.length) (As := As.map (am_cv ad)) (rest := st.map (am_cv ad)) ⟨C.1, C.2.1, C.2.2.1, C.2.2.2.1, C.2.2.2.2.1⟩ (ct Y.1 D tc ad H.size) ⟨va_cnB As.length C.2.2.2.2.1 (am_gd M.1) rfl rfl rfl (C.2.2.2.2.2.2.2.2.2.2.1 _ hl rfl) (C.2.2.2.2.1 _ M.2.1) M.2.2 hr.1, hn, C.2.2.2.2.1 _ hi⟩ hp rfl (by simp) Y.2.1.1 hs2 (lv_room (by rw [am_sum]; exact hcat)) d hr.2) C Y Z hA kk
theorem r_obj {p0 idx : Nat} (hl : Cond.methodLink y.cls idx Lib.objectInit ∈ am_T) (hi : Cond.instanceMethod Lib.objectInit ∈ am_T) (hc : Cond.code Lib.objectInit ⟨#[0xb1]⟩ 1 none ∈ am_T) (hr : 1 ≤ rm.frames ∧ (st.map fun v => v.category).sum + 12 ≤ rm.locals) (d : decode cc pc = .ok (.invokespecial idx, 3)) (kk : am_R l y cc nL ret rm Ex cells slots (pc + 3) lv st h K) : am_R l y cc nL ret rm Ex cells slots pc lv (.ref p0 :: st) h K := by
  intro pp e s m args below meth c D tc ad A H locs ls Q n0 ad0 C Y Z
  have hm : 2 * (F0 m pc ls ((Value.ref p0 :: st).map (am_cv ad))).monitorRoom + ((st.map (am_cv ad)).map fun v => v.category).sum + 12 ≤ rm.locals := by
    rw [am_sum]
    have : (F0 m pc ls ((Value.ref p0 :: st).map (am_cv ad))).monitorRoom = 0 := rfl
    omega
  exact W.objInit C.1 C.2.1 C.2.2.2.1 (C.2.2.2.2.1 _ hl) (C.2.2.2.2.1 _ hi) (C.2.2.2.2.1 _ hc) rfl (Y.2.1.1.trans C.2.2.1.symm) rfl d hr.1 hm (kk pp e s m args below meth c D tc ad A H locs ls Q n0 ad0 C Y Z)
end AMC
end
section
def am_ext (ad : Nat → Nat) (n a : Nat) : Nat → Nat := fun k => if k = n then a else ad k
theorem am_ext_eq {ad : Nat → Nat} {n a : Nat} : ∀ k, k < n ∨ n + 1 ≤ k → am_ext ad n a k = ad k := by
  intro k hk
  unfold am_ext
  rw [if_neg (by omega)]
theorem am_ext_at {ad : Nat → Nat} {n a : Nat} : am_ext ad n a n = a := by simp [am_ext]
theorem am_map_ext {h : am_H} (ok : am_ok h) (ad : Nat → Nat) (a k j : Nat) : (h.2.2.2 k j).map (am_ext ad h.1.length a) = (h.2.2.2 k j).map ad := by
  cases hq : h.2.2.2 k j with
  | none => rfl
  | some q =>
    have := (ok k j).2 q hq
    simp [am_ext_eq q (Or.inl this)]
theorem am_ce_ext {tc : Nat → ClassId} {ad : Nat → Nat} {h : am_H} {k a : Nat} {r z : Nat × Nat} (ok : am_ok h) : am_ce tc (am_ext ad h.1.length a) (am_nw h z) k r = am_ce tc ad h k r := by
  have hf : ∀ t j, am_fv (am_ext ad h.1.length a) (am_nw h z) k t j = am_fv ad h k t j := by
    intro t j
    have e := am_map_ext ok ad a k j
    cases t <;> first | rfl | (show va_rf ((h.2.2.2 k j).map (am_ext ad h.1.length a)) = va_rf ((h.2.2.2 k j).map ad); rw [e])
  have hq : (fun j => ((am_nw h z).2.2.2 k j).map (am_ext ad h.1.length a)) = fun j => (h.2.2.2 k j).map ad := by
    funext j
    exact am_map_ext ok ad a k j
  unfold am_ce
  simp only [hf, hq]
  rfl
theorem am_w_nw {tc : Nat → ClassId} {ad : Nat → Nat} {h : am_H} {a : Nat} {z : Nat × Nat} (ok : am_ok h) : am_w tc (am_ext ad h.1.length a) (am_nw h z) = am_w tc ad h ++ [(a, am_ce tc ad h h.1.length z)] := by
  apply List.ext_getElem?
  intro k
  by_cases hk : k < h.1.length
  · rw [List.getElem?_append_left (by rw [am_w_len]; exact hk)]
    have hz : h.1[k]? = some h.1[k] := List.getElem?_eq_getElem hk
    rw [am_w_at hz, am_w_at (h := am_nw h z) (q := h.1[k]) (by show (h.1 ++ [z])[k]? = _; rw [List.getElem?_append_left hk]; exact hz), am_ce_ext ok, am_ext_eq k (Or.inl hk)]
  · by_cases he : k = h.1.length
    · subst he
      rw [am_w_at (h := am_nw h z) (q := z) (by show (h.1 ++ [z])[h.1.length]? = _; simp), am_ce_ext ok, am_ext_at]
      rw [List.getElem?_append_right (by rw [am_w_len]; exact Nat.le_refl _), am_w_len]
      simp
    · rw [List.getElem?_eq_none (by rw [am_w_len]; show (h.1 ++ [z]).length ≤ k; simp; omega), List.getElem?_eq_none (by simp [am_w_len]; omega)]
theorem am_ok_nw {h : am_H} {z : Nat × Nat} (ok : am_ok h) : am_ok (am_nw h z) := by
  intro k j
  have hl : (am_nw h z).1.length = h.1.length + 1 := by show (h.1 ++ [z]).length = _; simp
  refine ⟨fun hk => (ok k j).1 (by omega), fun q hq => ?_⟩
  have := (ok k j).2 q hq
  omega
theorem am_nw_len {h : am_H} {z : Nat × Nat} : (am_nw h z).1.length = h.1.length + 1 := by show (h.1 ++ [z]).length = _; simp
def am_dt (t : FieldType) : Bool := match t with
  | .int => true
  | .long => true
  | .object _ => true
  | .array _ => true
  | _ => false
theorem am_dts : ∀ c, c < 8 → ∀ j, j < am_nf c → am_dt (am_ty c j) = true := am_c8 (by decide +kernel) (by decide +kernel) (by decide +kernel) (by decide +kernel) (by decide +kernel) (by decide +kernel) (by decide +kernel) (by decide +kernel)
theorem am_dv {ad : Nat → Nat} {h : am_H} {t : FieldType} {j : Nat} (ok : am_ok h) (ht : am_dt t = true) : defaultValue t = am_fv ad h h.1.length t j := by
  obtain ⟨h1, h2, h3⟩ := (ok h.1.length j).1 (Nat.le_refl _)
  cases t <;> first | (simp [am_dt] at ht; done) | (simp [am_fv, h1, h2, h3, defaultValue, va_rf])
section AMA
variable {l : Launch} {y : MethodName} {cc : ByteArray} {nL : Nat} {ret : Option FieldType} {rm : Room} {Ex : am_EX} {cells slots pc : Nat} {lv : List (Nat × Value)} {st : List Value} {h : am_H} {K : Option Value → am_H → Prop}
theorem am_grow {z : Nat × Nat} {a N pc2 : Nat} {pp : Program} {e : Env} {s : State} {m : MethodId} {args : Array Value} {below : List Frame} {meth : Method} {c : Code} {D : va_G} {tc : Nat → ClassId} {ad : Nat → Nat} {A : Nat → Prop} {H H1 : Heap} {locs : List Loc} {ls : Array Slot} {Q : State → Prop} {n0 : Nat} {ad0 : Nat → Nat}
    (C : am_C y cc nL ret pp s m args meth c D tc A) (Y : am_D nL rm Ex lv h D tc ad A s H locs ls n0 ad0) (Z : am_K l cc ret rm pp e s m args below meth c D tc A Q n0 ad0 K)
    (hlv : lv.all (fun q => am_rl h.1.length (h.1.length + 1) q.2) = true) (hst : st.all (am_rl h.1.length (h.1.length + 1)) = true) (hE : am_Mv Ex h.1.length (h.1.length + 1)) (hc : rm.cells ≠ 0)
    (hP : va_P D vwCl (am_w tc ad h ++ [(a, am_ce tc ad h h.1.length z)]) H1) (hD : va_D A (am_w tc ad h ++ [(a, am_ce tc ad h h.1.length z)])) (hS : va_S A s.heap H1 locs)
    (kk : am_R l y cc nL ret rm Ex (cells + 1) (slots + N) pc2 lv (.ref h.1.length :: st) (am_nw h z) K) : W pp l e rm s m args below meth c H1 locs (cells + 1) (slots + N) Q (F0 m pc2 ls (.ref a :: st.map (am_cv ad))) := by
  have he := am_ext_eq (ad := ad) (n := h.1.length) (a := a)
  rw [← am_w_nw Y.1] at hP hD
  have kW := kk pp e s m args below meth c D tc (am_ext ad h.1.length a) A H1 locs ls Q n0 ad0 C ⟨am_ok_nw Y.1, by rw [am_rl_lv hlv he]; exact Y.2.1, hP, hD, hS, hE _ _ _ _ he Y.2.2.2.2.2.1, by rw [am_nw_len]; exact Nat.le_succ_of_le Y.2.2.2.2.2.2.1, fun k hk => by
    rw [am_nw_len] at hk
    rw [he k (hk.imp (fun q => Nat.lt_of_lt_of_le q Y.2.2.2.2.2.2.1) id)]
    exact Y.2.2.2.2.2.2.2.1 k (hk.imp id (fun q => by omega)), fun q => absurd q hc⟩ Z
  rw [List.map_cons, am_rl_st hst he] at kW
  have e1 : am_cv (am_ext ad h.1.length a) (.ref h.1.length) = .ref a := by simp [am_cv, am_ext_at]
  rw [e1] at kW
  exact kW
theorem r_new {idx : Nat} (ci : Nat) (h8 : ci < 8) (hcl : Cond.classLink y.cls idx (am_cn ci) ∈ am_T) (hi : Cond.instantiable (am_cn ci) (am_nf ci) ∈ am_T) (hn : Cond.initialized (am_cn ci) ∈ am_T) (hr : cells + 1 ≤ rm.cells ∧ slots + am_nf ci ≤ rm.slots)
    (hlv : lv.all (fun q => am_rl h.1.length (h.1.length + 1) q.2) = true) (hst : st.all (am_rl h.1.length (h.1.length + 1)) = true) (hE : am_Mv Ex h.1.length (h.1.length + 1)) (d : decode cc pc = .ok (.new idx, 3))
    (kk : am_R l y cc nL ret rm Ex (cells + 1) (slots + am_nf ci) (pc + 3) lv (.ref h.1.length :: st) (am_nw h (ci, am_nf ci)) K) : am_R l y cc nL ret rm Ex cells slots pc lv st h K := by
  intro pp e s m args below meth c D tc ad A H locs ls Q n0 ad0 C Y Z
  refine va_new (ci := ci) (fs := (List.range (am_nf ci)).map (fun j => am_fv ad h h.1.length (am_ty ci j) j)) C.1 C.2.1 C.2.2.2.2.1 (am_uin ci h8) (am_ty ci) (am_tyk ci h8) C.2.2.2.1 (C.2.2.2.2.1 _ hcl) (C.2.2.2.2.1 _ hi) (C.2.2.2.2.1 _ hn) C.2.2.2.2.2.2.2.2.2.1 Y.2.2.1 Y.2.2.2.1 Y.2.2.2.2.1 C.2.2.2.2.2.2.2.2.1 (am_cl ci h8) (fun j hj => ?_) hr.1 hr.2 d (fun q H1 q1 q2 q3 => ?_)
  · rw [vp_V, List.getD_eq_getElem?_getD, am_fs_at hj]
    exact am_dv Y.1 (am_dts ci h8 j hj)
  · rw [← am_ce_o (tc := tc) (q := (ci, am_nf ci)) h8] at q1 q2
    exact am_grow C Y Z hlv hst hE (by omega) q1 q2 q3 kk
theorem r_newa {atype : ArrayType} {n : Int32} {len : Nat} (kd : Nat) (hk : (kd = 8 ∧ atype = .char) ∨ (kd = 9 ∧ atype = .int) ∨ (kd = 10 ∧ atype = .boolean)) (hw : Cond.arrayClass (newarray.typeOf atype) ∈ am_T) (hn : ¬ n < 0) (hN : n.toNatClampNeg = len) (hlen : len ≤ 10000) (hr : cells + 1 ≤ rm.cells ∧ slots + len ≤ rm.slots)
    (hlv : lv.all (fun q => am_rl h.1.length (h.1.length + 1) q.2) = true) (hst : st.all (am_rl h.1.length (h.1.length + 1)) = true) (hE : am_Mv Ex h.1.length (h.1.length + 1)) (d : decode cc pc = .ok (.newarray atype, 2))
    (kk : am_R l y cc nL ret rm Ex (cells + 1) (slots + len) (pc + 2) lv (.ref h.1.length :: st) (am_nw h (kd, len)) K) : am_R l y cc nL ret rm Ex cells slots pc lv (.int n :: st) h K := by
  intro pp e s m args below meth c D tc ad A H locs ls Q n0 ad0 C Y Z
  have hK := C.2.2.2.2.2.2.2.2.2.1
  have hz : h.2.1 h.1.length = fun _ => 0 := by
    funext j
    exact ((Y.1 h.1.length j).1 (Nat.le_refl _)).1
  have key : ∀ (ty : FieldType) (t0 : Nat), newarray.typeOf atype = ty → (am_tys tc)[t0]? = some (tc kd, ty) → va_RA s (tc kd) ty = (s.vm.findClass ("[" ++ ty.toString) = some (tc kd)) → (∀ cA, va_RA s cA ty = (s.vm.findClass ("[" ++ ty.toString) = some cA)) → defaultValue ty = .int 0 → len * componentBytes ty ≤ 536870912 → 8 ≤ kd → kd ≠ 11 → W pp l e rm s m args below meth c H locs cells slots Q (F0 m pc ls ((Value.int n :: st).map (am_cv ad))) := by
    intro ty t0 hty ht0 _ hRA hdv hby k8 k11
    refine va_newa (a0 := (len, .inl (fun _ => 0))) C.1 C.2.1 (C.2.2.2.2.1 _ hw) hty hK Y.2.2.1 Y.2.2.2.1 Y.2.2.2.2.1 C.2.2.2.2.2.2.2.2.1 (fun cA => by rw [vp_cell_i, hdv]) hn hN hby hr.1 hr.2 d (fun q cA H1 qK q1 q2 q3 => ?_)
    have e1 := (qK.2 4 (cA, ty) (by simp [am_tys])).2
    rw [hRA] at e1
    have e2 := (hK.2 t0 _ ht0).2
    rw [hRA] at e2
    have e3 : cA = tc kd := Option.some.inj (e1.symm.trans e2)
    subst e3
    rw [← hz, ← am_ce_i (tc := tc) (ad := ad) (h := h) (k := h.1.length) (n := len) k8 k11] at q1 q2
    exact am_grow C Y Z hlv hst hE (by omega) q1 q2 q3 kk
  rcases hk with ⟨rfl, rfl⟩ | ⟨rfl, rfl⟩ | ⟨rfl, rfl⟩
  · exact key .char 0 rfl rfl rfl (fun _ => rfl) rfl (by simp [componentBytes]; omega) (by decide) (by decide)
  · exact key .int 1 rfl rfl rfl (fun _ => rfl) rfl (by simp [componentBytes]; omega) (by decide) (by decide)
  · exact key .boolean 2 rfl rfl rfl (fun _ => rfl) rfl (by simp [componentBytes]; omega) (by decide) (by decide)
theorem r_anew {idx : Nat} {n : Int32} {len : Nat} (hcl : Cond.classLink y.cls idx "TimeLinks$Spans" ∈ am_T) (hn : ¬ n < 0) (hN : n.toNatClampNeg = len) (hlen : len ≤ 10000) (hr : cells + 1 ≤ rm.cells ∧ slots + len ≤ rm.slots)
    (hlv : lv.all (fun q => am_rl h.1.length (h.1.length + 1) q.2) = true) (hst : st.all (am_rl h.1.length (h.1.length + 1)) = true) (hE : am_Mv Ex h.1.length (h.1.length + 1)) (d : decode cc pc = .ok (.anewarray idx, 3))
    (kk : am_R l y cc nL ret rm Ex (cells + 1) (slots + len) (pc + 3) lv (.ref h.1.length :: st) (am_nw h (11, len)) K) : am_R l y cc nL ret rm Ex cells slots pc lv (.int n :: st) h K := by
  intro pp e s m args below meth c D tc ad A H locs ls Q n0 ad0 C Y Z
  have hK := C.2.2.2.2.2.2.2.2.2.1
  have hz : (fun j => (h.2.2.2 h.1.length j).map ad) = fun _ => none := by
    funext j
    rw [((Y.1 h.1.length j).1 (Nat.le_refl _)).2.2]
    rfl
  refine va_newq C.1 C.2.1 C.2.2.2.1 (C.2.2.2.2.1 _ hcl) C.2.2.2.2.2.2.2.2.2.2.2 hK Y.2.2.1 Y.2.2.2.1 Y.2.2.2.2.1 C.2.2.2.2.2.2.2.2.1 hn hN (by omega) hr.1 hr.2 d (fun q cA H1 qK q1 q2 q3 => ?_)
  obtain ⟨_, _, _, _, _, e1⟩ := (qK.2 4 (cA, .object "TimeLinks$Spans") (by simp [am_tys])).2
  obtain ⟨_, _, _, _, _, e2⟩ := (hK.2 3 (tc 11, .object "TimeLinks$Spans") rfl).2
  have e3 : cA = tc 11 := Option.some.inj (e1.symm.trans e2)
  subst e3
  rw [← hz, ← am_ce_q (tc := tc) (ad := ad) (h := h) (k := h.1.length) (n := len)] at q1 q2
  exact am_grow C Y Z hlv hst hE (by omega) q1 q2 q3 kk
end AMA
end
section
theorem am_t (i : Nat) {w : Cond} (h : tables_1[i]? = some w) (g : goodWord w = true) : w ∈ am_T := List.mem_filter.mpr ⟨List.mem_append_right _ (List.mem_of_getElem? h), g⟩
theorem am_s (i : Nat) {w : Cond} (h : (k2_sels lw_privs)[i]? = some w) (g : goodWord w = true) : w ∈ am_T := List.mem_filter.mpr ⟨List.mem_append_left _ (List.mem_of_getElem? h), g⟩
theorem am_n (i : Nat) {w : Cond} (h : tables_1[i]? = some w) : w ∈ lw_tbl := List.mem_append_right _ (List.mem_of_getElem? h)
theorem am_bs {α β : Type} {a : Option α} {f : α → Option β} {b : β} (h : Option.bind a f = some b) : ∃ w, a = some w ∧ f w = some b := by
  cases a with
  | none => cases h
  | some x => exact ⟨x, rfl, h⟩
def am_nz (z : Int32) : Option Unit := if z = 0 then none else some ()
def am_nzl (z : Int64) : Option Unit := if z = 0 then none else some ()
theorem am_nz_of {z : Int32} {u : Unit} (h : am_nz z = some u) : ¬ z = 0 := by
  intro q
  simp [am_nz, q] at h
theorem am_nzl_of {z : Int64} {u : Unit} (h : am_nzl z = some u) : ¬ z = 0 := by
  intro q
  simp [am_nzl, q] at h
def am_cls (h : am_H) (c p : Nat) : Option Nat := match h.1[p]? with
  | some q => if q.1 = c then some q.2 else none
  | none => none
theorem am_cls_of {h : am_H} {c p n : Nat} (hv : am_cls h c p = some n) : h.1[p]? = some (c, n) := by
  unfold am_cls at hv
  split at hv
  · rename_i q hq
    split at hv
    · rename_i hc
      rw [hq, ← hc, ← Option.some.inj hv]
    · cases hv
  · cases hv
theorem am_b0 {b : Bool} (h : am_b b = 0) : b = false := by
  cases b with
  | false => rfl
  | true => exact absurd h (by decide)
theorem am_b1 {b : Bool} (h : ¬ am_b b = 0) : b = true := by
  cases b with
  | false => exact absurd rfl h
  | true => rfl
def am_VM (own : String) (idx : Nat) (y : MethodName) (cc : ByteArray) (nL : Nat) (ret : Option FieldType) (n ci : Nat) : Prop := am_MF y cc nL ret n ∧ am_ML own idx y ∧ Cond.instanceMethod y ∈ am_T ∧ Cond.selects y.cls y y ∈ am_T ∧ ci < 8 ∧ am_cn ci = y.cls
def am_SM (own : String) (idx : Nat) (y : MethodName) (cc : ByteArray) (nL : Nat) (ret : Option FieldType) (n : Nat) : Prop := am_MF y cc nL ret n ∧ am_ML own idx y ∧ Cond.static y ∈ am_T
def am_IM (own : String) (idx : Nat) (y : MethodName) (cc : ByteArray) (nL : Nat) (n : Nat) : Prop := am_MF y cc nL none n ∧ am_ML own idx y ∧ Cond.instanceMethod y ∈ am_T ∧ y.name = "<init>"
theorem am_met2 {l : Launch} {y : MethodName} {cc : ByteArray} {nL : Nat} {ret : Option FieldType} {rm : Room} {av : List Value} {h : am_H} {r : Option Value} {h' : am_H} (lv : List (Nat × Value)) (hy : plainName y.cls = true) (hlen : (lg_sl av).length ≤ nL) (hlv : lv_args 0 av = lv)
    (hR : am_R l y cc nL ret rm (fun _ _ _ => True) 0 0 0 lv [] h (fun v h2 => v = r ∧ h2 = h')) : am_Ct l y cc nL ret rm av h r h' := am_met hy hlen (hlv ▸ hR)
section AMW
variable {l : Launch} {y : MethodName} {cc : ByteArray} {nL : Nat} {ret : Option FieldType} {rm : Room} {Ex : am_EX} {cells slots pc : Nat} {lv : List (Nat × Value)} {st : List Value} {h : am_H} {K : Option Value → am_H → Prop}
theorem r_inc {i : Nat} {n : Int} {x : Int32} (c : Int32) (j : Nat) (lv2 : List (Nat × Value)) (d : decode cc pc = .ok (.iinc i n, 3)) (hc : Int32.ofInt n = c) (hj : lv[j]? = some (i, .int x)) (hn : i < nL) (hl : am_st i (.int (x + c)) lv = lv2) (k : am_R l y cc nL ret rm Ex cells slots (pc + 3) lv2 st h K) : am_R l y cc nL ret rm Ex cells slots pc lv st h K := r_iinc j lv2 d hj (by rw [hc]) hn hl k
theorem r_cV1 {y' : MethodName} {cc' : ByteArray} {nL' : Nat} {ret' : Option FieldType} {rm' : Room} {h' : am_H} {v : Value} {st0 : List Value} {p0 idx ci : Nat} (As : List Value) (ct : am_Ct l y' cc' nL' ret' rm' (.ref p0 :: As) h (some v) h') (M : am_VM y.cls idx y' cc' nL' ret' As.length ci) (hp : ∃ n, h.1[p0]? = some (ci, n))
    (hr : (rm'.frames + 1 ≤ rm.frames ∧ 8 + (nL' + 11) + rm'.locals ≤ rm.locals) ∧ cells ≤ rm.cells ∧ slots ≤ rm.slots) (hz : rm'.cells = 0 ∧ rm'.slots = 0) (hst : st0 = As.reverse ++ .ref p0 :: st) (hcat : (st.map fun v => v.category).sum ≤ 8) (d : decode cc pc = .ok (.invokevirtual idx, 3)) (kk : am_R l y cc nL ret rm Ex cells slots (pc + 3) lv (v :: st) h' K) : am_R l y cc nL ret rm Ex cells slots pc lv st0 h K := by
  obtain ⟨n, hp⟩ := hp
  exact r_callV As ct M.1 M.2.1 M.2.2.1 M.2.2.2.1 M.2.2.2.2 hp (by rw [hz.1, hz.2]; exact hr) hst hcat d (Or.inl hz.1) (by rw [hz.1, hz.2]; exact kk)
theorem r_cV0 {y' : MethodName} {cc' : ByteArray} {nL' : Nat} {ret' : Option FieldType} {rm' : Room} {h' : am_H} {st0 : List Value} {p0 idx ci : Nat} (As : List Value) (ct : am_Ct l y' cc' nL' ret' rm' (.ref p0 :: As) h none h') (M : am_VM y.cls idx y' cc' nL' ret' As.length ci) (hp : ∃ n, h.1[p0]? = some (ci, n))
    (hr : (rm'.frames + 1 ≤ rm.frames ∧ 8 + (nL' + 11) + rm'.locals ≤ rm.locals) ∧ cells ≤ rm.cells ∧ slots ≤ rm.slots) (hz : rm'.cells = 0 ∧ rm'.slots = 0) (hst : st0 = As.reverse ++ .ref p0 :: st) (hcat : (st.map fun v => v.category).sum ≤ 8) (d : decode cc pc = .ok (.invokevirtual idx, 3)) (kk : am_R l y cc nL ret rm Ex cells slots (pc + 3) lv st h' K) : am_R l y cc nL ret rm Ex cells slots pc lv st0 h K := by
  obtain ⟨n, hp⟩ := hp
  exact r_callV As ct M.1 M.2.1 M.2.2.1 M.2.2.2.1 M.2.2.2.2 hp (by rw [hz.1, hz.2]; exact hr) hst hcat d (Or.inl hz.1) (by rw [hz.1, hz.2]; exact kk)
theorem r_cS1 {y' : MethodName} {cc' : ByteArray} {nL' : Nat} {ret' : Option FieldType} {rm' : Room} {h' : am_H} {v : Value} {st0 : List Value} {idx : Nat} (As : List Value) (ct : am_Ct l y' cc' nL' ret' rm' As h (some v) h') (M : am_SM y.cls idx y' cc' nL' ret' As.length)
    (hr : (rm'.frames + 1 ≤ rm.frames ∧ 8 + (nL' + 11) + rm'.locals ≤ rm.locals) ∧ cells ≤ rm.cells ∧ slots ≤ rm.slots) (hz : rm'.cells = 0 ∧ rm'.slots = 0) (hst : st0 = As.reverse ++ st) (hcat : (st.map fun v => v.category).sum ≤ 8) (d : decode cc pc = .ok (.invokestatic idx, 3)) (kk : am_R l y cc nL ret rm Ex cells slots (pc + 3) lv (v :: st) h' K) : am_R l y cc nL ret rm Ex cells slots pc lv st0 h K :=
  r_callS As ct M.1 M.2.1 M.2.2 (by rw [hz.1, hz.2]; exact hr) hst hcat d (Or.inl hz.1) (by rw [hz.1, hz.2]; exact kk)
theorem r_cI {y' : MethodName} {cc' : ByteArray} {nL' : Nat} {rm' : Room} {h' : am_H} {st0 : List Value} {p0 idx : Nat} (c2 s2 : Nat) (As : List Value) (ct : am_Ct l y' cc' nL' none rm' (.ref p0 :: As) h none h') (M : am_IM y.cls idx y' cc' nL' As.length)
    (hr : (rm'.frames + 1 ≤ rm.frames ∧ 8 + (nL' + 11) + rm'.locals ≤ rm.locals) ∧ c2 ≤ rm.cells ∧ s2 ≤ rm.slots) (hcs : cells + rm'.cells = c2 ∧ slots + rm'.slots = s2) (hst : st0 = As.reverse ++ .ref p0 :: st) (hcat : (st.map fun v => v.category).sum ≤ 8) (d : decode cc pc = .ok (.invokespecial idx, 3)) (hA : am_Al Ex rm rm' h.1.length h'.1.length lv st)
    (kk : am_R l y cc nL ret rm Ex c2 s2 (pc + 3) lv st h' K) : am_R l y cc nL ret rm Ex cells slots pc lv st0 h K := by
  obtain ⟨rfl, rfl⟩ := hcs
  exact r_callI As ct M.1 M.2.1 M.2.2.1 M.2.2.2 hr hst hcat d hA kk
end AMW
end
