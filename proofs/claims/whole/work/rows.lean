section
-- ===== PART A: goes FIRST, ahead of the names: the tables' words, and 'selects' of the private methods out of them =====
/-- a private method of a class that the tables say can be made, by its rows of tables_1 -/
def lw_okq (q : MethodName × Nat) : Prop := (q.1.cls ≠ "java/lang/invoke/MethodHandle" ∧ q.1.cls ≠ "java/lang/invoke/VarHandle") ∧ Cond.instantiable q.1.cls q.2 ∈ tables_1 ∧ Cond.privateMethod q.1 ∈ tables_1 ∧ Cond.instanceMethod q.1 ∈ tables_1
theorem lw_p0 : lw_okq (⟨"TimeLinks$Letters", "forgetLinks", "()V"⟩, 8) := ⟨⟨by decide +kernel, by decide +kernel⟩, List.mem_of_getElem? (i := 20) (by decide +kernel), List.mem_of_getElem? (i := 233) (by decide +kernel), List.mem_of_getElem? (i := 234) (by decide +kernel)⟩
theorem lw_p1 : lw_okq (⟨"TimeLinks$Letters", "faultOfEvent", "(I)I"⟩, 8) := ⟨⟨by decide +kernel, by decide +kernel⟩, List.mem_of_getElem? (i := 20) (by decide +kernel), List.mem_of_getElem? (i := 237) (by decide +kernel), List.mem_of_getElem? (i := 238) (by decide +kernel)⟩
theorem lw_p2 : lw_okq (⟨"TimeLinks$Letters", "partners", "(IC)I"⟩, 8) := ⟨⟨by decide +kernel, by decide +kernel⟩, List.mem_of_getElem? (i := 20) (by decide +kernel), List.mem_of_getElem? (i := 244) (by decide +kernel), List.mem_of_getElem? (i := 245) (by decide +kernel)⟩
theorem lw_p3 : lw_okq (⟨"TimeLinks$Letters", "takeEvent", "(I)V"⟩, 8) := ⟨⟨by decide +kernel, by decide +kernel⟩, List.mem_of_getElem? (i := 20) (by decide +kernel), List.mem_of_getElem? (i := 248) (by decide +kernel), List.mem_of_getElem? (i := 249) (by decide +kernel)⟩
theorem lw_p4 : lw_okq (⟨"TimeLinks$Spans", "isOf", "(III)Z"⟩, 5) := ⟨⟨by decide +kernel, by decide +kernel⟩, List.mem_of_getElem? (i := 54) (by decide +kernel), List.mem_of_getElem? (i := 272) (by decide +kernel), List.mem_of_getElem? (i := 273) (by decide +kernel)⟩
theorem lw_p5 : lw_okq (⟨"TimeLinks$Spans", "fills", "(II)Z"⟩, 5) := ⟨⟨by decide +kernel, by decide +kernel⟩, List.mem_of_getElem? (i := 54) (by decide +kernel), List.mem_of_getElem? (i := 312) (by decide +kernel), List.mem_of_getElem? (i := 313) (by decide +kernel)⟩
theorem lw_p6 : lw_okq (⟨"TimeLinks$Spans", "takeFrom", "(LTimeLinks$Spans;II)V"⟩, 5) := ⟨⟨by decide +kernel, by decide +kernel⟩, List.mem_of_getElem? (i := 54) (by decide +kernel), List.mem_of_getElem? (i := 332) (by decide +kernel), List.mem_of_getElem? (i := 333) (by decide +kernel)⟩
theorem lw_p7 : lw_okq (⟨"TimeLinks", "rememberIfDone", "(I)I"⟩, 10) := ⟨⟨by decide +kernel, by decide +kernel⟩, List.mem_of_getElem? (i := 12) (by decide +kernel), List.mem_of_getElem? (i := 337) (by decide +kernel), List.mem_of_getElem? (i := 338) (by decide +kernel)⟩
theorem lw_p8 : lw_okq (⟨"TimeLinks$Acts", "forgetFirst", "()V"⟩, 2) := ⟨⟨by decide +kernel, by decide +kernel⟩, List.mem_of_getElem? (i := 88) (by decide +kernel), List.mem_of_getElem? (i := 345) (by decide +kernel), List.mem_of_getElem? (i := 346) (by decide +kernel)⟩
theorem lw_p9 : lw_okq (⟨"TimeLinks$Forest", "takeApart", "()V"⟩, 4) := ⟨⟨by decide +kernel, by decide +kernel⟩, List.mem_of_getElem? (i := 105) (by decide +kernel), List.mem_of_getElem? (i := 383) (by decide +kernel), List.mem_of_getElem? (i := 384) (by decide +kernel)⟩
theorem lw_p10 : lw_okq (⟨"TimeLinks$Forest", "joinAllOn", "(LTimeLinks$Spans;I)I"⟩, 4) := ⟨⟨by decide +kernel, by decide +kernel⟩, List.mem_of_getElem? (i := 105) (by decide +kernel), List.mem_of_getElem? (i := 387) (by decide +kernel), List.mem_of_getElem? (i := 388) (by decide +kernel)⟩
theorem lw_p11 : lw_okq (⟨"TimeLinks$Forest", "join", "(II)Z"⟩, 4) := ⟨⟨by decide +kernel, by decide +kernel⟩, List.mem_of_getElem? (i := 105) (by decide +kernel), List.mem_of_getElem? (i := 392) (by decide +kernel), List.mem_of_getElem? (i := 393) (by decide +kernel)⟩
theorem lw_p12 : lw_okq (⟨"TimeLinks$Forest", "hangsBelow", "(II)Z"⟩, 4) := ⟨⟨by decide +kernel, by decide +kernel⟩, List.mem_of_getElem? (i := 105) (by decide +kernel), List.mem_of_getElem? (i := 404) (by decide +kernel), List.mem_of_getElem? (i := 405) (by decide +kernel)⟩
theorem lw_p13 : lw_okq (⟨"TimeLinks$Forest", "hang", "(III)V"⟩, 4) := ⟨⟨by decide +kernel, by decide +kernel⟩, List.mem_of_getElem? (i := 105) (by decide +kernel), List.mem_of_getElem? (i := 408) (by decide +kernel), List.mem_of_getElem? (i := 409) (by decide +kernel)⟩
theorem lw_p14 : lw_okq (⟨"TimeLinks", "lyingOnAll", "()I"⟩, 10) := ⟨⟨by decide +kernel, by decide +kernel⟩, List.mem_of_getElem? (i := 12) (by decide +kernel), List.mem_of_getElem? (i := 465) (by decide +kernel), List.mem_of_getElem? (i := 466) (by decide +kernel)⟩
theorem lw_p15 : lw_okq (⟨"TimeLinks", "joiningOnAll", "()I"⟩, 10) := ⟨⟨by decide +kernel, by decide +kernel⟩, List.mem_of_getElem? (i := 12) (by decide +kernel), List.mem_of_getElem? (i := 475) (by decide +kernel), List.mem_of_getElem? (i := 476) (by decide +kernel)⟩
def lw_privs_1 : List (MethodName × Nat) := [(⟨"TimeLinks$Letters", "forgetLinks", "()V"⟩, 8), (⟨"TimeLinks$Letters", "faultOfEvent", "(I)I"⟩, 8), (⟨"TimeLinks$Letters", "partners", "(IC)I"⟩, 8), (⟨"TimeLinks$Letters", "takeEvent", "(I)V"⟩, 8), (⟨"TimeLinks$Spans", "isOf", "(III)Z"⟩, 5), (⟨"TimeLinks$Spans", "fills", "(II)Z"⟩, 5), (⟨"TimeLinks$Spans", "takeFrom", "(LTimeLinks$Spans;II)V"⟩, 5), (⟨"TimeLinks", "rememberIfDone", "(I)I"⟩, 10), (⟨"TimeLinks$Acts", "forgetFirst", "()V"⟩, 2), (⟨"TimeLinks$Forest", "takeApart", "()V"⟩, 4), (⟨"TimeLinks$Forest", "joinAllOn", "(LTimeLinks$Spans;I)I"⟩, 4), (⟨"TimeLinks$Forest", "join", "(II)Z"⟩, 4), (⟨"TimeLinks$Forest", "hangsBelow", "(II)Z"⟩, 4), (⟨"TimeLinks$Forest", "hang", "(III)V"⟩, 4), (⟨"TimeLinks", "lyingOnAll", "()I"⟩, 10), (⟨"TimeLinks", "joiningOnAll", "()I"⟩, 10)]
theorem lw_r1 : ∀ q ∈ lw_privs_1, lw_okq q := List.forall_mem_cons.mpr ⟨lw_p0, List.forall_mem_cons.mpr ⟨lw_p1, List.forall_mem_cons.mpr ⟨lw_p2, List.forall_mem_cons.mpr ⟨lw_p3, List.forall_mem_cons.mpr ⟨lw_p4, List.forall_mem_cons.mpr ⟨lw_p5, List.forall_mem_cons.mpr ⟨lw_p6, List.forall_mem_cons.mpr ⟨lw_p7, List.forall_mem_cons.mpr ⟨lw_p8, List.forall_mem_cons.mpr ⟨lw_p9, List.forall_mem_cons.mpr ⟨lw_p10, List.forall_mem_cons.mpr ⟨lw_p11, List.forall_mem_cons.mpr ⟨lw_p12, List.forall_mem_cons.mpr ⟨lw_p13, List.forall_mem_cons.mpr ⟨lw_p14, List.forall_mem_cons.mpr ⟨lw_p15, fun _ h => absurd h List.not_mem_nil⟩⟩⟩⟩⟩⟩⟩⟩⟩⟩⟩⟩⟩⟩⟩⟩
theorem lw_p16 : lw_okq (⟨"TimeLinks", "leastApart", "(II)I"⟩, 10) := ⟨⟨by decide +kernel, by decide +kernel⟩, List.mem_of_getElem? (i := 12) (by decide +kernel), List.mem_of_getElem? (i := 509) (by decide +kernel), List.mem_of_getElem? (i := 510) (by decide +kernel)⟩
theorem lw_p17 : lw_okq (⟨"TimeLinks", "stands", "(I)Z"⟩, 10) := ⟨⟨by decide +kernel, by decide +kernel⟩, List.mem_of_getElem? (i := 12) (by decide +kernel), List.mem_of_getElem? (i := 525) (by decide +kernel), List.mem_of_getElem? (i := 526) (by decide +kernel)⟩
theorem lw_p18 : lw_okq (⟨"TimeLinks", "areJoinedInTrial", "(III)Z"⟩, 10) := ⟨⟨by decide +kernel, by decide +kernel⟩, List.mem_of_getElem? (i := 12) (by decide +kernel), List.mem_of_getElem? (i := 529) (by decide +kernel), List.mem_of_getElem? (i := 530) (by decide +kernel)⟩
theorem lw_p19 : lw_okq (⟨"TimeLinks", "partsInTrial", "(I)I"⟩, 10) := ⟨⟨by decide +kernel, by decide +kernel⟩, List.mem_of_getElem? (i := 12) (by decide +kernel), List.mem_of_getElem? (i := 533) (by decide +kernel), List.mem_of_getElem? (i := 534) (by decide +kernel)⟩
theorem lw_p20 : lw_okq (⟨"TimeLinks", "howManyMissing", "()I"⟩, 10) := ⟨⟨by decide +kernel, by decide +kernel⟩, List.mem_of_getElem? (i := 12) (by decide +kernel), List.mem_of_getElem? (i := 560) (by decide +kernel), List.mem_of_getElem? (i := 561) (by decide +kernel)⟩
theorem lw_p21 : lw_okq (⟨"TimeLinks", "missingEnds", "(IIII)I"⟩, 10) := ⟨⟨by decide +kernel, by decide +kernel⟩, List.mem_of_getElem? (i := 12) (by decide +kernel), List.mem_of_getElem? (i := 565) (by decide +kernel), List.mem_of_getElem? (i := 566) (by decide +kernel)⟩
theorem lw_p22 : lw_okq (⟨"TimeLinks$Sightings", "joinedWith", "(IIII)Z"⟩, 7) := ⟨⟨by decide +kernel, by decide +kernel⟩, List.mem_of_getElem? (i := 153) (by decide +kernel), List.mem_of_getElem? (i := 574) (by decide +kernel), List.mem_of_getElem? (i := 575) (by decide +kernel)⟩
theorem lw_p23 : lw_okq (⟨"TimeLinks$Sightings", "leads", "(III)Z"⟩, 7) := ⟨⟨by decide +kernel, by decide +kernel⟩, List.mem_of_getElem? (i := 153) (by decide +kernel), List.mem_of_getElem? (i := 578) (by decide +kernel), List.mem_of_getElem? (i := 579) (by decide +kernel)⟩
theorem lw_p24 : lw_okq (⟨"TimeLinks", "firstMissing", "()I"⟩, 10) := ⟨⟨by decide +kernel, by decide +kernel⟩, List.mem_of_getElem? (i := 12) (by decide +kernel), List.mem_of_getElem? (i := 582) (by decide +kernel), List.mem_of_getElem? (i := 583) (by decide +kernel)⟩
theorem lw_p25 : lw_okq (⟨"TimeLinks", "ordersInWhichItJoins", "(I)J"⟩, 10) := ⟨⟨by decide +kernel, by decide +kernel⟩, List.mem_of_getElem? (i := 12) (by decide +kernel), List.mem_of_getElem? (i := 594) (by decide +kernel), List.mem_of_getElem? (i := 595) (by decide +kernel)⟩
theorem lw_p26 : lw_okq (⟨"TimeLinks", "chancesOfJoined", "(III)J"⟩, 10) := ⟨⟨by decide +kernel, by decide +kernel⟩, List.mem_of_getElem? (i := 12) (by decide +kernel), List.mem_of_getElem? (i := 615) (by decide +kernel), List.mem_of_getElem? (i := 616) (by decide +kernel)⟩
theorem lw_p27 : lw_okq (⟨"TimeLinks", "addDrawn", "(I)V"⟩, 10) := ⟨⟨by decide +kernel, by decide +kernel⟩, List.mem_of_getElem? (i := 12) (by decide +kernel), List.mem_of_getElem? (i := 630) (by decide +kernel), List.mem_of_getElem? (i := 631) (by decide +kernel)⟩
theorem lw_p28 : lw_okq (⟨"TimeLinksModel", "readText", "()I"⟩, 20) := ⟨⟨by decide +kernel, by decide +kernel⟩, List.mem_of_getElem? (i := 655) (by decide +kernel), List.mem_of_getElem? (i := 738) (by decide +kernel), List.mem_of_getElem? (i := 739) (by decide +kernel)⟩
theorem lw_p29 : lw_okq (⟨"TimeLinksModel", "linksOfAll", "()I"⟩, 20) := ⟨⟨by decide +kernel, by decide +kernel⟩, List.mem_of_getElem? (i := 655) (by decide +kernel), List.mem_of_getElem? (i := 742) (by decide +kernel), List.mem_of_getElem? (i := 743) (by decide +kernel)⟩
theorem lw_p30 : lw_okq (⟨"TimeLinksModel", "linksOf", "(I)I"⟩, 20) := ⟨⟨by decide +kernel, by decide +kernel⟩, List.mem_of_getElem? (i := 655) (by decide +kernel), List.mem_of_getElem? (i := 746) (by decide +kernel), List.mem_of_getElem? (i := 747) (by decide +kernel)⟩
theorem lw_p31 : lw_okq (⟨"TimeLinksModel", "readPair", "(IZI)I"⟩, 20) := ⟨⟨by decide +kernel, by decide +kernel⟩, List.mem_of_getElem? (i := 655) (by decide +kernel), List.mem_of_getElem? (i := 750) (by decide +kernel), List.mem_of_getElem? (i := 751) (by decide +kernel)⟩
def lw_privs_2 : List (MethodName × Nat) := [(⟨"TimeLinks", "leastApart", "(II)I"⟩, 10), (⟨"TimeLinks", "stands", "(I)Z"⟩, 10), (⟨"TimeLinks", "areJoinedInTrial", "(III)Z"⟩, 10), (⟨"TimeLinks", "partsInTrial", "(I)I"⟩, 10), (⟨"TimeLinks", "howManyMissing", "()I"⟩, 10), (⟨"TimeLinks", "missingEnds", "(IIII)I"⟩, 10), (⟨"TimeLinks$Sightings", "joinedWith", "(IIII)Z"⟩, 7), (⟨"TimeLinks$Sightings", "leads", "(III)Z"⟩, 7), (⟨"TimeLinks", "firstMissing", "()I"⟩, 10), (⟨"TimeLinks", "ordersInWhichItJoins", "(I)J"⟩, 10), (⟨"TimeLinks", "chancesOfJoined", "(III)J"⟩, 10), (⟨"TimeLinks", "addDrawn", "(I)V"⟩, 10), (⟨"TimeLinksModel", "readText", "()I"⟩, 20), (⟨"TimeLinksModel", "linksOfAll", "()I"⟩, 20), (⟨"TimeLinksModel", "linksOf", "(I)I"⟩, 20), (⟨"TimeLinksModel", "readPair", "(IZI)I"⟩, 20)]
theorem lw_r2 : ∀ q ∈ lw_privs_2, lw_okq q := List.forall_mem_cons.mpr ⟨lw_p16, List.forall_mem_cons.mpr ⟨lw_p17, List.forall_mem_cons.mpr ⟨lw_p18, List.forall_mem_cons.mpr ⟨lw_p19, List.forall_mem_cons.mpr ⟨lw_p20, List.forall_mem_cons.mpr ⟨lw_p21, List.forall_mem_cons.mpr ⟨lw_p22, List.forall_mem_cons.mpr ⟨lw_p23, List.forall_mem_cons.mpr ⟨lw_p24, List.forall_mem_cons.mpr ⟨lw_p25, List.forall_mem_cons.mpr ⟨lw_p26, List.forall_mem_cons.mpr ⟨lw_p27, List.forall_mem_cons.mpr ⟨lw_p28, List.forall_mem_cons.mpr ⟨lw_p29, List.forall_mem_cons.mpr ⟨lw_p30, List.forall_mem_cons.mpr ⟨lw_p31, fun _ h => absurd h List.not_mem_nil⟩⟩⟩⟩⟩⟩⟩⟩⟩⟩⟩⟩⟩⟩⟩⟩
theorem lw_p32 : lw_okq (⟨"TimeLinksModel", "knotAt", "(I)I"⟩, 20) := ⟨⟨by decide +kernel, by decide +kernel⟩, List.mem_of_getElem? (i := 655) (by decide +kernel), List.mem_of_getElem? (i := 754) (by decide +kernel), List.mem_of_getElem? (i := 755) (by decide +kernel)⟩
theorem lw_p33 : lw_okq (⟨"TimeLinksModel", "isSpan", "(I)Z"⟩, 20) := ⟨⟨by decide +kernel, by decide +kernel⟩, List.mem_of_getElem? (i := 655) (by decide +kernel), List.mem_of_getElem? (i := 774) (by decide +kernel), List.mem_of_getElem? (i := 775) (by decide +kernel)⟩
theorem lw_p34 : lw_okq (⟨"TimeLinksModel", "many", "(I)I"⟩, 20) := ⟨⟨by decide +kernel, by decide +kernel⟩, List.mem_of_getElem? (i := 655) (by decide +kernel), List.mem_of_getElem? (i := 778) (by decide +kernel), List.mem_of_getElem? (i := 779) (by decide +kernel)⟩
theorem lw_p35 : lw_okq (⟨"TimeLinksModel", "spanOf", "(II)I"⟩, 20) := ⟨⟨by decide +kernel, by decide +kernel⟩, List.mem_of_getElem? (i := 655) (by decide +kernel), List.mem_of_getElem? (i := 782) (by decide +kernel), List.mem_of_getElem? (i := 783) (by decide +kernel)⟩
theorem lw_p36 : lw_okq (⟨"TimeLinksModel", "liesOn", "(I)I"⟩, 20) := ⟨⟨by decide +kernel, by decide +kernel⟩, List.mem_of_getElem? (i := 655) (by decide +kernel), List.mem_of_getElem? (i := 818) (by decide +kernel), List.mem_of_getElem? (i := 819) (by decide +kernel)⟩
theorem lw_p37 : lw_okq (⟨"TimeLinksModel", "isFree", "(III)Z"⟩, 20) := ⟨⟨by decide +kernel, by decide +kernel⟩, List.mem_of_getElem? (i := 655) (by decide +kernel), List.mem_of_getElem? (i := 834) (by decide +kernel), List.mem_of_getElem? (i := 835) (by decide +kernel)⟩
theorem lw_p38 : lw_okq (⟨"TimeLinksModel", "keepAct", "()V"⟩, 20) := ⟨⟨by decide +kernel, by decide +kernel⟩, List.mem_of_getElem? (i := 655) (by decide +kernel), List.mem_of_getElem? (i := 838) (by decide +kernel), List.mem_of_getElem? (i := 839) (by decide +kernel)⟩
theorem lw_p39 : lw_okq (⟨"TimeLinksModel", "putOn", "(II)V"⟩, 20) := ⟨⟨by decide +kernel, by decide +kernel⟩, List.mem_of_getElem? (i := 655) (by decide +kernel), List.mem_of_getElem? (i := 842) (by decide +kernel), List.mem_of_getElem? (i := 843) (by decide +kernel)⟩
theorem lw_p40 : lw_okq (⟨"TimeLinksModel", "cutOn", "(II)V"⟩, 20) := ⟨⟨by decide +kernel, by decide +kernel⟩, List.mem_of_getElem? (i := 655) (by decide +kernel), List.mem_of_getElem? (i := 850) (by decide +kernel), List.mem_of_getElem? (i := 851) (by decide +kernel)⟩
theorem lw_p41 : lw_okq (⟨"TimeLinksModel", "canEnd", "(III)Z"⟩, 20) := ⟨⟨by decide +kernel, by decide +kernel⟩, List.mem_of_getElem? (i := 655) (by decide +kernel), List.mem_of_getElem? (i := 858) (by decide +kernel), List.mem_of_getElem? (i := 859) (by decide +kernel)⟩
theorem lw_p42 : lw_okq (⟨"TimeLinksModel", "endOn", "(III)V"⟩, 20) := ⟨⟨by decide +kernel, by decide +kernel⟩, List.mem_of_getElem? (i := 655) (by decide +kernel), List.mem_of_getElem? (i := 862) (by decide +kernel), List.mem_of_getElem? (i := 863) (by decide +kernel)⟩
theorem lw_p43 : lw_okq (⟨"TimeLinksModel", "partsBy", "(III)I"⟩, 20) := ⟨⟨by decide +kernel, by decide +kernel⟩, List.mem_of_getElem? (i := 655) (by decide +kernel), List.mem_of_getElem? (i := 875) (by decide +kernel), List.mem_of_getElem? (i := 876) (by decide +kernel)⟩
theorem lw_p44 : lw_okq (⟨"TimeLinksModel", "clearKnots", "()V"⟩, 20) := ⟨⟨by decide +kernel, by decide +kernel⟩, List.mem_of_getElem? (i := 655) (by decide +kernel), List.mem_of_getElem? (i := 879) (by decide +kernel), List.mem_of_getElem? (i := 880) (by decide +kernel)⟩
theorem lw_p45 : lw_okq (⟨"TimeLinksModel", "joins", "(I)Z"⟩, 20) := ⟨⟨by decide +kernel, by decide +kernel⟩, List.mem_of_getElem? (i := 655) (by decide +kernel), List.mem_of_getElem? (i := 889) (by decide +kernel), List.mem_of_getElem? (i := 890) (by decide +kernel)⟩
theorem lw_p46 : lw_okq (⟨"TimeLinksModel", "rootOf", "(I)I"⟩, 20) := ⟨⟨by decide +kernel, by decide +kernel⟩, List.mem_of_getElem? (i := 655) (by decide +kernel), List.mem_of_getElem? (i := 893) (by decide +kernel), List.mem_of_getElem? (i := 894) (by decide +kernel)⟩
theorem lw_p47 : lw_okq (⟨"TimeLinksModel", "livingAt", "(I)I"⟩, 20) := ⟨⟨by decide +kernel, by decide +kernel⟩, List.mem_of_getElem? (i := 655) (by decide +kernel), List.mem_of_getElem? (i := 897) (by decide +kernel), List.mem_of_getElem? (i := 898) (by decide +kernel)⟩
def lw_privs_3 : List (MethodName × Nat) := [(⟨"TimeLinksModel", "knotAt", "(I)I"⟩, 20), (⟨"TimeLinksModel", "isSpan", "(I)Z"⟩, 20), (⟨"TimeLinksModel", "many", "(I)I"⟩, 20), (⟨"TimeLinksModel", "spanOf", "(II)I"⟩, 20), (⟨"TimeLinksModel", "liesOn", "(I)I"⟩, 20), (⟨"TimeLinksModel", "isFree", "(III)Z"⟩, 20), (⟨"TimeLinksModel", "keepAct", "()V"⟩, 20), (⟨"TimeLinksModel", "putOn", "(II)V"⟩, 20), (⟨"TimeLinksModel", "cutOn", "(II)V"⟩, 20), (⟨"TimeLinksModel", "canEnd", "(III)Z"⟩, 20), (⟨"TimeLinksModel", "endOn", "(III)V"⟩, 20), (⟨"TimeLinksModel", "partsBy", "(III)I"⟩, 20), (⟨"TimeLinksModel", "clearKnots", "()V"⟩, 20), (⟨"TimeLinksModel", "joins", "(I)Z"⟩, 20), (⟨"TimeLinksModel", "rootOf", "(I)I"⟩, 20), (⟨"TimeLinksModel", "livingAt", "(I)I"⟩, 20)]
theorem lw_r3 : ∀ q ∈ lw_privs_3, lw_okq q := List.forall_mem_cons.mpr ⟨lw_p32, List.forall_mem_cons.mpr ⟨lw_p33, List.forall_mem_cons.mpr ⟨lw_p34, List.forall_mem_cons.mpr ⟨lw_p35, List.forall_mem_cons.mpr ⟨lw_p36, List.forall_mem_cons.mpr ⟨lw_p37, List.forall_mem_cons.mpr ⟨lw_p38, List.forall_mem_cons.mpr ⟨lw_p39, List.forall_mem_cons.mpr ⟨lw_p40, List.forall_mem_cons.mpr ⟨lw_p41, List.forall_mem_cons.mpr ⟨lw_p42, List.forall_mem_cons.mpr ⟨lw_p43, List.forall_mem_cons.mpr ⟨lw_p44, List.forall_mem_cons.mpr ⟨lw_p45, List.forall_mem_cons.mpr ⟨lw_p46, List.forall_mem_cons.mpr ⟨lw_p47, fun _ h => absurd h List.not_mem_nil⟩⟩⟩⟩⟩⟩⟩⟩⟩⟩⟩⟩⟩⟩⟩⟩
theorem lw_p48 : lw_okq (⟨"TimeLinksModel", "oddParts", "(I)I"⟩, 20) := ⟨⟨by decide +kernel, by decide +kernel⟩, List.mem_of_getElem? (i := 655) (by decide +kernel), List.mem_of_getElem? (i := 901) (by decide +kernel), List.mem_of_getElem? (i := 902) (by decide +kernel)⟩
theorem lw_p49 : lw_okq (⟨"TimeLinksModel", "findSides", "(I)V"⟩, 20) := ⟨⟨by decide +kernel, by decide +kernel⟩, List.mem_of_getElem? (i := 655) (by decide +kernel), List.mem_of_getElem? (i := 905) (by decide +kernel), List.mem_of_getElem? (i := 906) (by decide +kernel)⟩
theorem lw_p50 : lw_okq (⟨"TimeLinksModel", "spreadSides", "(I)V"⟩, 20) := ⟨⟨by decide +kernel, by decide +kernel⟩, List.mem_of_getElem? (i := 655) (by decide +kernel), List.mem_of_getElem? (i := 909) (by decide +kernel), List.mem_of_getElem? (i := 910) (by decide +kernel)⟩
theorem lw_p51 : lw_okq (⟨"TimeLinksModel", "greatestDepth", "(I)I"⟩, 20) := ⟨⟨by decide +kernel, by decide +kernel⟩, List.mem_of_getElem? (i := 655) (by decide +kernel), List.mem_of_getElem? (i := 913) (by decide +kernel), List.mem_of_getElem? (i := 914) (by decide +kernel)⟩
theorem lw_p52 : lw_okq (⟨"TimeLinksModel", "walkTo", "(I)I"⟩, 20) := ⟨⟨by decide +kernel, by decide +kernel⟩, List.mem_of_getElem? (i := 655) (by decide +kernel), List.mem_of_getElem? (i := 917) (by decide +kernel), List.mem_of_getElem? (i := 918) (by decide +kernel)⟩
theorem lw_p53 : lw_okq (⟨"TimeLinksModel", "depthAt", "(I)I"⟩, 20) := ⟨⟨by decide +kernel, by decide +kernel⟩, List.mem_of_getElem? (i := 655) (by decide +kernel), List.mem_of_getElem? (i := 921) (by decide +kernel), List.mem_of_getElem? (i := 922) (by decide +kernel)⟩
theorem lw_p54 : lw_okq (⟨"TimeLinksModel", "greatestPart", "(I)I"⟩, 20) := ⟨⟨by decide +kernel, by decide +kernel⟩, List.mem_of_getElem? (i := 655) (by decide +kernel), List.mem_of_getElem? (i := 925) (by decide +kernel), List.mem_of_getElem? (i := 926) (by decide +kernel)⟩
theorem lw_p55 : lw_okq (⟨"TimeLinksModel", "areJoined", "(IIIII)Z"⟩, 20) := ⟨⟨by decide +kernel, by decide +kernel⟩, List.mem_of_getElem? (i := 655) (by decide +kernel), List.mem_of_getElem? (i := 938) (by decide +kernel), List.mem_of_getElem? (i := 939) (by decide +kernel)⟩
theorem lw_p56 : lw_okq (⟨"TimeLinksModel", "layTrial", "()V"⟩, 20) := ⟨⟨by decide +kernel, by decide +kernel⟩, List.mem_of_getElem? (i := 655) (by decide +kernel), List.mem_of_getElem? (i := 974) (by decide +kernel), List.mem_of_getElem? (i := 975) (by decide +kernel)⟩
theorem lw_p57 : lw_okq (⟨"TimeLinksModel", "tryThing", "(III)Z"⟩, 20) := ⟨⟨by decide +kernel, by decide +kernel⟩, List.mem_of_getElem? (i := 655) (by decide +kernel), List.mem_of_getElem? (i := 978) (by decide +kernel), List.mem_of_getElem? (i := 979) (by decide +kernel)⟩
theorem lw_p58 : lw_okq (⟨"TimeLinksModel", "canPut", "(IIIII)Z"⟩, 20) := ⟨⟨by decide +kernel, by decide +kernel⟩, List.mem_of_getElem? (i := 655) (by decide +kernel), List.mem_of_getElem? (i := 982) (by decide +kernel), List.mem_of_getElem? (i := 983) (by decide +kernel)⟩
theorem lw_p59 : lw_okq (⟨"TimeLinksModel", "mayBe", "(I)Z"⟩, 20) := ⟨⟨by decide +kernel, by decide +kernel⟩, List.mem_of_getElem? (i := 655) (by decide +kernel), List.mem_of_getElem? (i := 998) (by decide +kernel), List.mem_of_getElem? (i := 999) (by decide +kernel)⟩
theorem lw_p60 : lw_okq (⟨"TimeLinksModel", "findLiving", "(I)I"⟩, 20) := ⟨⟨by decide +kernel, by decide +kernel⟩, List.mem_of_getElem? (i := 655) (by decide +kernel), List.mem_of_getElem? (i := 1007) (by decide +kernel), List.mem_of_getElem? (i := 1008) (by decide +kernel)⟩
theorem lw_p61 : lw_okq (⟨"TimeLinksModel", "spansOf", "(II)I"⟩, 20) := ⟨⟨by decide +kernel, by decide +kernel⟩, List.mem_of_getElem? (i := 655) (by decide +kernel), List.mem_of_getElem? (i := 1011) (by decide +kernel), List.mem_of_getElem? (i := 1012) (by decide +kernel)⟩
theorem lw_p62 : lw_okq (⟨"TimeLinksModel", "filledTimes", "()I"⟩, 20) := ⟨⟨by decide +kernel, by decide +kernel⟩, List.mem_of_getElem? (i := 655) (by decide +kernel), List.mem_of_getElem? (i := 1049) (by decide +kernel), List.mem_of_getElem? (i := 1050) (by decide +kernel)⟩
theorem lw_p63 : lw_okq (⟨"TimeLinksModel", "timesTogether", "()I"⟩, 20) := ⟨⟨by decide +kernel, by decide +kernel⟩, List.mem_of_getElem? (i := 655) (by decide +kernel), List.mem_of_getElem? (i := 1053) (by decide +kernel), List.mem_of_getElem? (i := 1054) (by decide +kernel)⟩
def lw_privs_4 : List (MethodName × Nat) := [(⟨"TimeLinksModel", "oddParts", "(I)I"⟩, 20), (⟨"TimeLinksModel", "findSides", "(I)V"⟩, 20), (⟨"TimeLinksModel", "spreadSides", "(I)V"⟩, 20), (⟨"TimeLinksModel", "greatestDepth", "(I)I"⟩, 20), (⟨"TimeLinksModel", "walkTo", "(I)I"⟩, 20), (⟨"TimeLinksModel", "depthAt", "(I)I"⟩, 20), (⟨"TimeLinksModel", "greatestPart", "(I)I"⟩, 20), (⟨"TimeLinksModel", "areJoined", "(IIIII)Z"⟩, 20), (⟨"TimeLinksModel", "layTrial", "()V"⟩, 20), (⟨"TimeLinksModel", "tryThing", "(III)Z"⟩, 20), (⟨"TimeLinksModel", "canPut", "(IIIII)Z"⟩, 20), (⟨"TimeLinksModel", "mayBe", "(I)Z"⟩, 20), (⟨"TimeLinksModel", "findLiving", "(I)I"⟩, 20), (⟨"TimeLinksModel", "spansOf", "(II)I"⟩, 20), (⟨"TimeLinksModel", "filledTimes", "()I"⟩, 20), (⟨"TimeLinksModel", "timesTogether", "()I"⟩, 20)]
theorem lw_r4 : ∀ q ∈ lw_privs_4, lw_okq q := List.forall_mem_cons.mpr ⟨lw_p48, List.forall_mem_cons.mpr ⟨lw_p49, List.forall_mem_cons.mpr ⟨lw_p50, List.forall_mem_cons.mpr ⟨lw_p51, List.forall_mem_cons.mpr ⟨lw_p52, List.forall_mem_cons.mpr ⟨lw_p53, List.forall_mem_cons.mpr ⟨lw_p54, List.forall_mem_cons.mpr ⟨lw_p55, List.forall_mem_cons.mpr ⟨lw_p56, List.forall_mem_cons.mpr ⟨lw_p57, List.forall_mem_cons.mpr ⟨lw_p58, List.forall_mem_cons.mpr ⟨lw_p59, List.forall_mem_cons.mpr ⟨lw_p60, List.forall_mem_cons.mpr ⟨lw_p61, List.forall_mem_cons.mpr ⟨lw_p62, List.forall_mem_cons.mpr ⟨lw_p63, fun _ h => absurd h List.not_mem_nil⟩⟩⟩⟩⟩⟩⟩⟩⟩⟩⟩⟩⟩⟩⟩⟩
def lw_privs : List (MethodName × Nat) := lw_privs_1 ++ (lw_privs_2 ++ (lw_privs_3 ++ (lw_privs_4)))
def lw_tbl : List Cond := k2_sels lw_privs ++ tables_1
theorem lw_privs_ok : ∀ q ∈ lw_privs, lw_okq q := by
  show ∀ q ∈ lw_privs_1 ++ (lw_privs_2 ++ (lw_privs_3 ++ (lw_privs_4))), lw_okq q
  exact List.forall_mem_append.mpr ⟨lw_r1, List.forall_mem_append.mpr ⟨lw_r2, List.forall_mem_append.mpr ⟨lw_r3, lw_r4⟩⟩⟩
end
section
def RX0 : String := "TimeLinks$Acts"
def TX0 : u_T := fun k => match k with
  | 0 => ("TimeLinks$Acts", "ahead", "[LTimeLinks$Spans;", true)
  | _ => ("TimeLinks$Acts", "size", "I", false)
def tyX0 : Nat → FieldType := fun k => match k with
  | 0 => .array (.object "TimeLinks$Spans")
  | _ => .int
theorem nmX0 : ∀ a, a < 2 → ∀ b, b < 2 → a ≠ b → (TX0 a).2.1 ≠ (TX0 b).2.1 := by decide +kernel
theorem tyX0_ok : ∀ k, k < 2 → parseFieldDescriptor (TX0 k).2.2.1 = some (tyX0 k) := by decide +kernel
abbrev cX0_init : ByteArray := prog_2_method_1_code
def yX0_init : MethodName := ⟨RX0, "<init>", "()V"⟩
abbrev cX0_remember : ByteArray := prog_2_method_2_code
def yX0_remember : MethodName := ⟨RX0, "remember", "(LTimeLinks$Spans;)V"⟩
abbrev cX0_forgetFirst : ByteArray := prog_2_method_3_code
def yX0_forgetFirst : MethodName := ⟨RX0, "forgetFirst", "()V"⟩
abbrev cX0_takeBackLast : ByteArray := prog_2_method_4_code
def yX0_takeBackLast : MethodName := ⟨RX0, "takeBackLast", "(LTimeLinks$Spans;)V"⟩
def RX1 : String := "TimeLinks$Alive"
def TX1 : u_T := fun k => match k with
  | 0 => ("TimeLinks$Alive", "number", "[I", true)
  | 1 => ("TimeLinks$Alive", "lesser", "[I", true)
  | 2 => ("TimeLinks$Alive", "other", "[I", true)
  | 3 => ("TimeLinks$Alive", "pair", "[I", true)
  | _ => ("TimeLinks$Alive", "size", "I", false)
def tyX1 : Nat → FieldType := fun k => match k with
  | 0 => .array .int
  | 1 => .array .int
  | 2 => .array .int
  | 3 => .array .int
  | _ => .int
theorem nmX1 : ∀ a, a < 5 → ∀ b, b < 5 → a ≠ b → (TX1 a).2.1 ≠ (TX1 b).2.1 := by decide +kernel
theorem tyX1_ok : ∀ k, k < 5 → parseFieldDescriptor (TX1 k).2.2.1 = some (tyX1 k) := by decide +kernel
abbrev cX1_init : ByteArray := prog_3_method_1_code
def yX1_init : MethodName := ⟨RX1, "<init>", "()V"⟩
abbrev cX1_gather : ByteArray := prog_3_method_2_code
def yX1_gather : MethodName := ⟨RX1, "gather", "(LTimeLinks$Spans;I)V"⟩
abbrev cX1_all : ByteArray := prog_3_method_3_code
def yX1_all : MethodName := ⟨RX1, "all", "()I"⟩
abbrev cX1_placeOf : ByteArray := prog_3_method_4_code
def yX1_placeOf : MethodName := ⟨RX1, "placeOf", "(I)I"⟩
abbrev cX1_numbersOf : ByteArray := prog_3_method_5_code
def yX1_numbersOf : MethodName := ⟨RX1, "numbersOf", "(I)I"⟩
abbrev cX1_reach : ByteArray := prog_3_method_6_code
def yX1_reach : MethodName := ⟨RX1, "reach", "(II)I"⟩
abbrev cX1_areJoined : ByteArray := prog_3_method_7_code
def yX1_areJoined : MethodName := ⟨RX1, "areJoined", "(III)Z"⟩
def RX2 : String := "TimeLinks$Forest"
def TX2 : u_T := fun k => match k with
  | 0 => ("TimeLinks$Forest", "above", "[I", true)
  | 1 => ("TimeLinks$Forest", "size", "[I", true)
  | 2 => ("TimeLinks$Forest", "turn", "[I", true)
  | _ => ("TimeLinks$Forest", "odd", "[Z", true)
def tyX2 : Nat → FieldType := fun k => match k with
  | 0 => .array .int
  | 1 => .array .int
  | 2 => .array .int
  | _ => .array .boolean
theorem nmX2 : ∀ a, a < 4 → ∀ b, b < 4 → a ≠ b → (TX2 a).2.1 ≠ (TX2 b).2.1 := by decide +kernel
theorem tyX2_ok : ∀ k, k < 4 → parseFieldDescriptor (TX2 k).2.2.1 = some (tyX2 k) := by decide +kernel
abbrev cX2_init : ByteArray := prog_4_method_1_code
def yX2_init : MethodName := ⟨RX2, "<init>", "()V"⟩
abbrev cX2_takeApart : ByteArray := prog_4_method_2_code
def yX2_takeApart : MethodName := ⟨RX2, "takeApart", "()V"⟩
abbrev cX2_walkToTime : ByteArray := prog_4_method_3_code
def yX2_walkToTime : MethodName := ⟨RX2, "walkToTime", "(LTimeLinks$Spans;I)V"⟩
abbrev cX2_walkToNode : ByteArray := prog_4_method_4_code
def yX2_walkToNode : MethodName := ⟨RX2, "walkToNode", "(LTimeLinks$Spans;I)I"⟩
abbrev cX2_joinAllOn : ByteArray := prog_4_method_5_code
def yX2_joinAllOn : MethodName := ⟨RX2, "joinAllOn", "(LTimeLinks$Spans;I)I"⟩
abbrev cX2_join : ByteArray := prog_4_method_6_code
def yX2_join : MethodName := ⟨RX2, "join", "(II)Z"⟩
abbrev cX2_hangsBelow : ByteArray := prog_4_method_7_code
def yX2_hangsBelow : MethodName := ⟨RX2, "hangsBelow", "(II)Z"⟩
abbrev cX2_hang : ByteArray := prog_4_method_8_code
def yX2_hang : MethodName := ⟨RX2, "hang", "(III)V"⟩
abbrev cX2_rootOf : ByteArray := prog_4_method_9_code
def yX2_rootOf : MethodName := ⟨RX2, "rootOf", "(I)I"⟩
abbrev cX2_depthOf : ByteArray := prog_4_method_10_code
def yX2_depthOf : MethodName := ⟨RX2, "depthOf", "(I)I"⟩
abbrev cX2_turnOf : ByteArray := prog_4_method_11_code
def yX2_turnOf : MethodName := ⟨RX2, "turnOf", "(I)I"⟩
abbrev cX2_areJoined : ByteArray := prog_4_method_12_code
def yX2_areJoined : MethodName := ⟨RX2, "areJoined", "(II)Z"⟩
abbrev cX2_parts : ByteArray := prog_4_method_13_code
def yX2_parts : MethodName := ⟨RX2, "parts", "()I"⟩
abbrev cX2_oddParts : ByteArray := prog_4_method_14_code
def yX2_oddParts : MethodName := ⟨RX2, "oddParts", "()I"⟩
abbrev cX2_greatestDepth : ByteArray := prog_4_method_15_code
def yX2_greatestDepth : MethodName := ⟨RX2, "greatestDepth", "()I"⟩
abbrev cX2_greatestSize : ByteArray := prog_4_method_16_code
def yX2_greatestSize : MethodName := ⟨RX2, "greatestSize", "()I"⟩
def RX3 : String := "TimeLinks$Letters"
def TX3 : u_T := fun k => match k with
  | 0 => ("TimeLinks$Letters", "letters", "[C", true)
  | 1 => ("TimeLinks$Letters", "length", "I", false)
  | 2 => ("TimeLinks$Letters", "linkedWith", "[I", true)
  | 3 => ("TimeLinks$Letters", "links", "I", false)
  | 4 => ("TimeLinks$Letters", "sign", "[C", true)
  | 5 => ("TimeLinks$Letters", "one", "[I", true)
  | 6 => ("TimeLinks$Letters", "two", "[I", true)
  | _ => ("TimeLinks$Letters", "events", "I", false)
def tyX3 : Nat → FieldType := fun k => match k with
  | 0 => .array .char
  | 1 => .int
  | 2 => .array .int
  | 3 => .int
  | 4 => .array .char
  | 5 => .array .int
  | 6 => .array .int
  | _ => .int
theorem nmX3 : ∀ a, a < 8 → ∀ b, b < 8 → a ≠ b → (TX3 a).2.1 ≠ (TX3 b).2.1 := by decide +kernel
theorem tyX3_ok : ∀ k, k < 8 → parseFieldDescriptor (TX3 k).2.2.1 = some (tyX3 k) := by decide +kernel
abbrev cX3_init : ByteArray := prog_5_method_1_code
def yX3_init : MethodName := ⟨RX3, "<init>", "()V"⟩
abbrev cX3_append : ByteArray := prog_5_method_2_code
def yX3_append : MethodName := ⟨RX3, "append", "(I)I"⟩
abbrev cX3_firstFault : ByteArray := prog_5_method_3_code
def yX3_firstFault : MethodName := ⟨RX3, "firstFault", "()I"⟩
abbrev cX3_forgetLinks : ByteArray := prog_5_method_4_code
def yX3_forgetLinks : MethodName := ⟨RX3, "forgetLinks", "()V"⟩
abbrev cX3_faultOfEvent : ByteArray := prog_5_method_5_code
def yX3_faultOfEvent : MethodName := ⟨RX3, "faultOfEvent", "(I)I"⟩
abbrev cX3_partners : ByteArray := prog_5_method_6_code
def yX3_partners : MethodName := ⟨RX3, "partners", "(IC)I"⟩
abbrev cX3_takeEvent : ByteArray := prog_5_method_7_code
def yX3_takeEvent : MethodName := ⟨RX3, "takeEvent", "(I)V"⟩
abbrev cX3_layOut : ByteArray := prog_5_method_8_code
def yX3_layOut : MethodName := ⟨RX3, "layOut", "(LTimeLinks$Spans;)V"⟩
def RX4 : String := "TimeLinks$Sightings"
def TX4 : u_T := fun k => match k with
  | 0 => ("TimeLinks$Sightings", "time", "[I", true)
  | 1 => ("TimeLinks$Sightings", "one", "[I", true)
  | 2 => ("TimeLinks$Sightings", "two", "[I", true)
  | 3 => ("TimeLinks$Sightings", "wereJoined", "[Z", true)
  | 4 => ("TimeLinks$Sightings", "partOfOne", "[I", true)
  | 5 => ("TimeLinks$Sightings", "partOfTwo", "[I", true)
  | _ => ("TimeLinks$Sightings", "size", "I", false)
def tyX4 : Nat → FieldType := fun k => match k with
  | 0 => .array .int
  | 1 => .array .int
  | 2 => .array .int
  | 3 => .array .boolean
  | 4 => .array .int
  | 5 => .array .int
  | _ => .int
theorem nmX4 : ∀ a, a < 7 → ∀ b, b < 7 → a ≠ b → (TX4 a).2.1 ≠ (TX4 b).2.1 := by decide +kernel
theorem tyX4_ok : ∀ k, k < 7 → parseFieldDescriptor (TX4 k).2.2.1 = some (tyX4 k) := by decide +kernel
abbrev cX4_init : ByteArray := prog_6_method_1_code
def yX4_init : MethodName := ⟨RX4, "<init>", "()V"⟩
abbrev cX4_add : ByteArray := prog_6_method_2_code
def yX4_add : MethodName := ⟨RX4, "add", "(IIIZ)I"⟩
abbrev cX4_lookAt : ByteArray := prog_6_method_3_code
def yX4_lookAt : MethodName := ⟨RX4, "lookAt", "(LTimeLinks$Spans;LTimeLinks$Alive;)V"⟩
abbrev cX4_allSoWith : ByteArray := prog_6_method_4_code
def yX4_allSoWith : MethodName := ⟨RX4, "allSoWith", "(III)Z"⟩
abbrev cX4_joinedWith : ByteArray := prog_6_method_5_code
def yX4_joinedWith : MethodName := ⟨RX4, "joinedWith", "(IIII)Z"⟩
abbrev cX4_leads : ByteArray := prog_6_method_6_code
def yX4_leads : MethodName := ⟨RX4, "leads", "(III)Z"⟩
def RX5 : String := "TimeLinks$Spans"
def TX5 : u_T := fun k => match k with
  | 0 => ("TimeLinks$Spans", "lesser", "[I", true)
  | 1 => ("TimeLinks$Spans", "other", "[I", true)
  | 2 => ("TimeLinks$Spans", "first", "[I", true)
  | 3 => ("TimeLinks$Spans", "last", "[I", true)
  | _ => ("TimeLinks$Spans", "size", "I", false)
def tyX5 : Nat → FieldType := fun k => match k with
  | 0 => .array .int
  | 1 => .array .int
  | 2 => .array .int
  | 3 => .array .int
  | _ => .int
theorem nmX5 : ∀ a, a < 5 → ∀ b, b < 5 → a ≠ b → (TX5 a).2.1 ≠ (TX5 b).2.1 := by decide +kernel
theorem tyX5_ok : ∀ k, k < 5 → parseFieldDescriptor (TX5 k).2.2.1 = some (tyX5 k) := by decide +kernel
abbrev cX5_init : ByteArray := prog_7_method_1_code
def yX5_init : MethodName := ⟨RX5, "<init>", "()V"⟩
abbrev cX5_has : ByteArray := prog_7_method_2_code
def yX5_has : MethodName := ⟨RX5, "has", "(I)Z"⟩
abbrev cX5_copyOf : ByteArray := prog_7_method_3_code
def yX5_copyOf : MethodName := ⟨RX5, "copyOf", "(LTimeLinks$Spans;)V"⟩
abbrev cX5_takeFrom : ByteArray := prog_7_method_4_code
def yX5_takeFrom : MethodName := ⟨RX5, "takeFrom", "(LTimeLinks$Spans;II)V"⟩
abbrev cX5_add : ByteArray := prog_7_method_5_code
def yX5_add : MethodName := ⟨RX5, "add", "(IIII)I"⟩
abbrev cX5_drop : ByteArray := prog_7_method_6_code
def yX5_drop : MethodName := ⟨RX5, "drop", "(I)I"⟩
abbrev cX5_stopAt : ByteArray := prog_7_method_7_code
def yX5_stopAt : MethodName := ⟨RX5, "stopAt", "(II)I"⟩
abbrev cX5_isOf : ByteArray := prog_7_method_8_code
def yX5_isOf : MethodName := ⟨RX5, "isOf", "(III)Z"⟩
abbrev cX5_lastOf : ByteArray := prog_7_method_9_code
def yX5_lastOf : MethodName := ⟨RX5, "lastOf", "(II)I"⟩
abbrev cX5_timesOf : ByteArray := prog_7_method_10_code
def yX5_timesOf : MethodName := ⟨RX5, "timesOf", "(III)I"⟩
abbrev cX5_timesFilled : ByteArray := prog_7_method_11_code
def yX5_timesFilled : MethodName := ⟨RX5, "timesFilled", "()I"⟩
abbrev cX5_timesTogether : ByteArray := prog_7_method_12_code
def yX5_timesTogether : MethodName := ⟨RX5, "timesTogether", "()I"⟩
abbrev cX5_livesAt : ByteArray := prog_7_method_13_code
def yX5_livesAt : MethodName := ⟨RX5, "livesAt", "(II)Z"⟩
abbrev cX5_livingAt : ByteArray := prog_7_method_14_code
def yX5_livingAt : MethodName := ⟨RX5, "livingAt", "(I)I"⟩
abbrev cX5_fills : ByteArray := prog_7_method_15_code
def yX5_fills : MethodName := ⟨RX5, "fills", "(II)Z"⟩
abbrev cX5_lies : ByteArray := prog_7_method_16_code
def yX5_lies : MethodName := ⟨RX5, "lies", "(II)Z"⟩
abbrev cX5_lyingOn : ByteArray := prog_7_method_17_code
def yX5_lyingOn : MethodName := ⟨RX5, "lyingOn", "(I)I"⟩
abbrev cX5_howManyNodes : ByteArray := prog_7_method_18_code
def yX5_howManyNodes : MethodName := ⟨RX5, "howManyNodes", "(I)I"⟩
def RX6 : String := "TimeLinks"
def TX6 : u_T := fun k => match k with
  | 0 => ("TimeLinks", "text", "LTimeLinks$Letters;", true)
  | 1 => ("TimeLinks", "spans", "LTimeLinks$Spans;", true)
  | 2 => ("TimeLinks", "trial", "LTimeLinks$Spans;", true)
  | 3 => ("TimeLinks", "acts", "LTimeLinks$Acts;", true)
  | 4 => ("TimeLinks", "forest", "LTimeLinks$Forest;", true)
  | 5 => ("TimeLinks", "alive", "LTimeLinks$Alive;", true)
  | 6 => ("TimeLinks", "seen", "LTimeLinks$Sightings;", true)
  | 7 => ("TimeLinks", "kept", "[LTimeLinks$Spans;", true)
  | 8 => ("TimeLinks", "isKept", "[Z", true)
  | _ => ("TimeLinks", "seedNow", "J", false)
def tyX6 : Nat → FieldType := fun k => match k with
  | 0 => .object "TimeLinks$Letters"
  | 1 => .object "TimeLinks$Spans"
  | 2 => .object "TimeLinks$Spans"
  | 3 => .object "TimeLinks$Acts"
  | 4 => .object "TimeLinks$Forest"
  | 5 => .object "TimeLinks$Alive"
  | 6 => .object "TimeLinks$Sightings"
  | 7 => .array (.object "TimeLinks$Spans")
  | 8 => .array .boolean
  | _ => .long
theorem nmX6 : ∀ a, a < 10 → ∀ b, b < 10 → a ≠ b → (TX6 a).2.1 ≠ (TX6 b).2.1 := by decide +kernel
theorem tyX6_ok : ∀ k, k < 10 → parseFieldDescriptor (TX6 k).2.2.1 = some (tyX6 k) := by decide +kernel
abbrev cX6_init : ByteArray := prog_1_method_1_code
def yX6_init : MethodName := ⟨RX6, "<init>", "()V"⟩
abbrev cX6_write : ByteArray := prog_1_method_2_code
def yX6_write : MethodName := ⟨RX6, "write", "(I)I"⟩
abbrev cX6_wipe : ByteArray := prog_1_method_3_code
def yX6_wipe : MethodName := ⟨RX6, "wipe", "()I"⟩
abbrev cX6_fault : ByteArray := prog_1_method_4_code
def yX6_fault : MethodName := ⟨RX6, "fault", "()I"⟩
abbrev cX6_life : ByteArray := prog_1_method_5_code
def yX6_life : MethodName := ⟨RX6, "life", "()I"⟩
abbrev cX6_span : ByteArray := prog_1_method_6_code
def yX6_span : MethodName := ⟨RX6, "span", "(II)I"⟩
abbrev cX6_node : ByteArray := prog_1_method_7_code
def yX6_node : MethodName := ⟨RX6, "node", "(I)I"⟩
abbrev cX6_put : ByteArray := prog_1_method_8_code
def yX6_put : MethodName := ⟨RX6, "put", "(IIII)I"⟩
abbrev cX6_cut : ByteArray := prog_1_method_9_code
def yX6_cut : MethodName := ⟨RX6, "cut", "(I)I"⟩
abbrev cX6_end : ByteArray := prog_1_method_10_code
def yX6_end : MethodName := ⟨RX6, "end", "(II)I"⟩
abbrev cX6_undo : ByteArray := prog_1_method_11_code
def yX6_undo : MethodName := ⟨RX6, "undo", "()I"⟩
abbrev cX6_rememberIfDone : ByteArray := prog_1_method_12_code
def yX6_rememberIfDone : MethodName := ⟨RX6, "rememberIfDone", "(I)I"⟩
abbrev cX6_at : ByteArray := prog_1_method_13_code
def yX6_at : MethodName := ⟨RX6, "at", "(II)I"⟩
abbrev cX6_knot : ByteArray := prog_1_method_14_code
def yX6_knot : MethodName := ⟨RX6, "knot", "(III)I"⟩
abbrev cX6_joined : ByteArray := prog_1_method_15_code
def yX6_joined : MethodName := ⟨RX6, "joined", "(III)I"⟩
abbrev cX6_side : ByteArray := prog_1_method_16_code
def yX6_side : MethodName := ⟨RX6, "side", "(III)I"⟩
abbrev cX6_work : ByteArray := prog_1_method_17_code
def yX6_work : MethodName := ⟨RX6, "work", "(I)I"⟩
abbrev cX6_lyingOnAll : ByteArray := prog_1_method_18_code
def yX6_lyingOnAll : MethodName := ⟨RX6, "lyingOnAll", "()I"⟩
abbrev cX6_joiningOnAll : ByteArray := prog_1_method_19_code
def yX6_joiningOnAll : MethodName := ⟨RX6, "joiningOnAll", "()I"⟩
abbrev cX6_when : ByteArray := prog_1_method_20_code
def yX6_when : MethodName := ⟨RX6, "when", "(II)I"⟩
abbrev cX6_bridges : ByteArray := prog_1_method_21_code
def yX6_bridges : MethodName := ⟨RX6, "bridges", "(I)I"⟩
abbrev cX6_least : ByteArray := prog_1_method_22_code
def yX6_least : MethodName := ⟨RX6, "least", "(IIII)I"⟩
abbrev cX6_leastApart : ByteArray := prog_1_method_23_code
def yX6_leastApart : MethodName := ⟨RX6, "leastApart", "(II)I"⟩
abbrev cX6_judge : ByteArray := prog_1_method_24_code
def yX6_judge : MethodName := ⟨RX6, "judge", "(IJ)I"⟩
abbrev cX6_stands : ByteArray := prog_1_method_25_code
def yX6_stands : MethodName := ⟨RX6, "stands", "(I)Z"⟩
abbrev cX6_areJoinedInTrial : ByteArray := prog_1_method_26_code
def yX6_areJoinedInTrial : MethodName := ⟨RX6, "areJoinedInTrial", "(III)Z"⟩
abbrev cX6_partsInTrial : ByteArray := prog_1_method_27_code
def yX6_partsInTrial : MethodName := ⟨RX6, "partsInTrial", "(I)I"⟩
abbrev cX6_see : ByteArray := prog_1_method_28_code
def yX6_see : MethodName := ⟨RX6, "see", "(IIII)I"⟩
abbrev cX6_unsee : ByteArray := prog_1_method_29_code
def yX6_unsee : MethodName := ⟨RX6, "unsee", "()I"⟩
abbrev cX6_missing : ByteArray := prog_1_method_30_code
def yX6_missing : MethodName := ⟨RX6, "missing", "(I)I"⟩
abbrev cX6_howManyMissing : ByteArray := prog_1_method_31_code
def yX6_howManyMissing : MethodName := ⟨RX6, "howManyMissing", "()I"⟩
abbrev cX6_firstMissing : ByteArray := prog_1_method_32_code
def yX6_firstMissing : MethodName := ⟨RX6, "firstMissing", "()I"⟩
abbrev cX6_missingEnds : ByteArray := prog_1_method_33_code
def yX6_missingEnds : MethodName := ⟨RX6, "missingEnds", "(IIII)I"⟩
abbrev cX6_share : ByteArray := prog_1_method_34_code
def yX6_share : MethodName := ⟨RX6, "share", "(IIZ)I"⟩
abbrev cX6_ordersInWhichItJoins : ByteArray := prog_1_method_35_code
def yX6_ordersInWhichItJoins : MethodName := ⟨RX6, "ordersInWhichItJoins", "(I)J"⟩
abbrev cX6_fails : ByteArray := prog_1_method_36_code
def yX6_fails : MethodName := ⟨RX6, "fails", "(IIIIZ)I"⟩
abbrev cX6_chancesOfJoined : ByteArray := prog_1_method_37_code
def yX6_chancesOfJoined : MethodName := ⟨RX6, "chancesOfJoined", "(III)J"⟩
abbrev cX6_seed : ByteArray := prog_1_method_38_code
def yX6_seed : MethodName := ⟨RX6, "seed", "(J)J"⟩
abbrev cX6_drawn : ByteArray := prog_1_method_39_code
def yX6_drawn : MethodName := ⟨RX6, "drawn", "(I)I"⟩
abbrev cX6_addDrawn : ByteArray := prog_1_method_40_code
def yX6_addDrawn : MethodName := ⟨RX6, "addDrawn", "(I)V"⟩
abbrev cX6_keep : ByteArray := prog_1_method_41_code
def yX6_keep : MethodName := ⟨RX6, "keep", "(I)I"⟩
abbrev cX6_again : ByteArray := prog_1_method_42_code
def yX6_again : MethodName := ⟨RX6, "again", "(I)I"⟩
abbrev cX6_count : ByteArray := prog_1_method_43_code
def yX6_count : MethodName := ⟨RX6, "count", "(I)I"⟩
abbrev cX6_isKnot : ByteArray := prog_1_method_44_code
def yX6_isKnot : MethodName := ⟨RX6, "isKnot", "(I)Z"⟩
abbrev cX6_isTime : ByteArray := prog_1_method_45_code
def yX6_isTime : MethodName := ⟨RX6, "isTime", "(I)Z"⟩
abbrev cX6_stretch : ByteArray := prog_1_method_46_code
def yX6_stretch : MethodName := ⟨RX6, "stretch", "(II)I"⟩
abbrev cX6_lowestBit : ByteArray := prog_1_method_47_code
def yX6_lowestBit : MethodName := ⟨RX6, "lowestBit", "(I)I"⟩
abbrev cX6_power : ByteArray := prog_1_method_48_code
def yX6_power : MethodName := ⟨RX6, "power", "(JI)J"⟩
abbrev cX6_factorial : ByteArray := prog_1_method_49_code
def yX6_factorial : MethodName := ⟨RX6, "factorial", "(I)J"⟩
abbrev cX6_told : ByteArray := prog_1_method_50_code
def yX6_told : MethodName := ⟨RX6, "told", "(JJZ)I"⟩
abbrev cX6_commonDivisor : ByteArray := prog_1_method_51_code
def yX6_commonDivisor : MethodName := ⟨RX6, "commonDivisor", "(JJ)J"⟩
def RX7 : String := "TimeLinksModel"
def TX7 : u_T := fun k => match k with
  | 0 => ("TimeLinksModel", "now", "[I", true)
  | 1 => ("TimeLinksModel", "text", "[I", true)
  | 2 => ("TimeLinksModel", "length", "I", false)
  | 3 => ("TimeLinksModel", "open", "[I", true)
  | 4 => ("TimeLinksModel", "acts", "I", false)
  | 5 => ("TimeLinksModel", "next", "I", false)
  | 6 => ("TimeLinksModel", "row", "[I", true)
  | 7 => ("TimeLinksModel", "over", "[I", true)
  | 8 => ("TimeLinksModel", "sizes", "[I", true)
  | 9 => ("TimeLinksModel", "side", "[I", true)
  | 10 => ("TimeLinksModel", "isOdd", "[I", true)
  | 11 => ("TimeLinksModel", "seen", "I", false)
  | 12 => ("TimeLinksModel", "seenTime", "[I", true)
  | 13 => ("TimeLinksModel", "seenOne", "[I", true)
  | 14 => ("TimeLinksModel", "seenOther", "[I", true)
  | 15 => ("TimeLinksModel", "seenJoined", "[I", true)
  | 16 => ("TimeLinksModel", "living", "[I", true)
  | 17 => ("TimeLinksModel", "seed", "J", false)
  | 18 => ("TimeLinksModel", "isKept", "[Z", true)
  | _ => ("TimeLinksModel", "kept", "[I", true)
def tyX7 : Nat → FieldType := fun k => match k with
  | 0 => .array .int
  | 1 => .array .int
  | 2 => .int
  | 3 => .array .int
  | 4 => .int
  | 5 => .int
  | 6 => .array .int
  | 7 => .array .int
  | 8 => .array .int
  | 9 => .array .int
  | 10 => .array .int
  | 11 => .int
  | 12 => .array .int
  | 13 => .array .int
  | 14 => .array .int
  | 15 => .array .int
  | 16 => .array .int
  | 17 => .long
  | 18 => .array .boolean
  | _ => .array .int
theorem nmX7 : ∀ a, a < 20 → ∀ b, b < 20 → a ≠ b → (TX7 a).2.1 ≠ (TX7 b).2.1 := by decide +kernel
theorem tyX7_ok : ∀ k, k < 20 → parseFieldDescriptor (TX7 k).2.2.1 = some (tyX7 k) := by decide +kernel
abbrev cX7_init : ByteArray := prog_9_method_1_code
def yX7_init : MethodName := ⟨RX7, "<init>", "()V"⟩
abbrev cX7_in : ByteArray := prog_9_method_3_code
def yX7_in : MethodName := ⟨RX7, "in", "(JJJ)Z"⟩
abbrev cX7_has : ByteArray := prog_9_method_4_code
def yX7_has : MethodName := ⟨RX7, "has", "(II)Z"⟩
abbrev cX7_ones : ByteArray := prog_9_method_5_code
def yX7_ones : MethodName := ⟨RX7, "ones", "(I)I"⟩
abbrev cX7_isKnot : ByteArray := prog_9_method_6_code
def yX7_isKnot : MethodName := ⟨RX7, "isKnot", "(I)Z"⟩
abbrev cX7_isTime : ByteArray := prog_9_method_7_code
def yX7_isTime : MethodName := ⟨RX7, "isTime", "(I)Z"⟩
abbrev cX7_asOne : ByteArray := prog_9_method_8_code
def yX7_asOne : MethodName := ⟨RX7, "asOne", "(IIII)I"⟩
abbrev cX7_lowOf : ByteArray := prog_9_method_9_code
def yX7_lowOf : MethodName := ⟨RX7, "lowOf", "(I)I"⟩
abbrev cX7_highOf : ByteArray := prog_9_method_10_code
def yX7_highOf : MethodName := ⟨RX7, "highOf", "(I)I"⟩
abbrev cX7_fromOf : ByteArray := prog_9_method_11_code
def yX7_fromOf : MethodName := ⟨RX7, "fromOf", "(I)I"⟩
abbrev cX7_toOf : ByteArray := prog_9_method_12_code
def yX7_toOf : MethodName := ⟨RX7, "toOf", "(I)I"⟩
abbrev cX7_livesAt : ByteArray := prog_9_method_13_code
def yX7_livesAt : MethodName := ⟨RX7, "livesAt", "(II)Z"⟩
abbrev cX7_write : ByteArray := prog_9_method_14_code
def yX7_write : MethodName := ⟨RX7, "write", "(I)I"⟩
abbrev cX7_wipe : ByteArray := prog_9_method_15_code
def yX7_wipe : MethodName := ⟨RX7, "wipe", "()I"⟩
abbrev cX7_knotAt : ByteArray := prog_9_method_16_code
def yX7_knotAt : MethodName := ⟨RX7, "knotAt", "(I)I"⟩
abbrev cX7_linksOf : ByteArray := prog_9_method_17_code
def yX7_linksOf : MethodName := ⟨RX7, "linksOf", "(I)I"⟩
abbrev cX7_linksOfAll : ByteArray := prog_9_method_18_code
def yX7_linksOfAll : MethodName := ⟨RX7, "linksOfAll", "()I"⟩
abbrev cX7_readText : ByteArray := prog_9_method_19_code
def yX7_readText : MethodName := ⟨RX7, "readText", "()I"⟩
abbrev cX7_readPair : ByteArray := prog_9_method_20_code
def yX7_readPair : MethodName := ⟨RX7, "readPair", "(IZI)I"⟩
abbrev cX7_fault : ByteArray := prog_9_method_21_code
def yX7_fault : MethodName := ⟨RX7, "fault", "()I"⟩
abbrev cX7_life : ByteArray := prog_9_method_22_code
def yX7_life : MethodName := ⟨RX7, "life", "()I"⟩
abbrev cX7_spanOf : ByteArray := prog_9_method_23_code
def yX7_spanOf : MethodName := ⟨RX7, "spanOf", "(II)I"⟩
abbrev cX7_many : ByteArray := prog_9_method_24_code
def yX7_many : MethodName := ⟨RX7, "many", "(I)I"⟩
abbrev cX7_isSpan : ByteArray := prog_9_method_25_code
def yX7_isSpan : MethodName := ⟨RX7, "isSpan", "(I)Z"⟩
abbrev cX7_isFree : ByteArray := prog_9_method_26_code
def yX7_isFree : MethodName := ⟨RX7, "isFree", "(III)Z"⟩
abbrev cX7_canPut : ByteArray := prog_9_method_27_code
def yX7_canPut : MethodName := ⟨RX7, "canPut", "(IIIII)Z"⟩
abbrev cX7_putOn : ByteArray := prog_9_method_28_code
def yX7_putOn : MethodName := ⟨RX7, "putOn", "(II)V"⟩
abbrev cX7_cutOn : ByteArray := prog_9_method_29_code
def yX7_cutOn : MethodName := ⟨RX7, "cutOn", "(II)V"⟩
abbrev cX7_canEnd : ByteArray := prog_9_method_30_code
def yX7_canEnd : MethodName := ⟨RX7, "canEnd", "(III)Z"⟩
abbrev cX7_endOn : ByteArray := prog_9_method_31_code
def yX7_endOn : MethodName := ⟨RX7, "endOn", "(III)V"⟩
abbrev cX7_depthOf : ByteArray := prog_9_method_32_code
def yX7_depthOf : MethodName := ⟨RX7, "depthOf", "(I)I"⟩
abbrev cX7_firstOf : ByteArray := prog_9_method_33_code
def yX7_firstOf : MethodName := ⟨RX7, "firstOf", "(I)I"⟩
abbrev cX7_lastOf : ByteArray := prog_9_method_34_code
def yX7_lastOf : MethodName := ⟨RX7, "lastOf", "(I)I"⟩
abbrev cX7_fills : ByteArray := prog_9_method_35_code
def yX7_fills : MethodName := ⟨RX7, "fills", "(II)Z"⟩
abbrev cX7_lies : ByteArray := prog_9_method_36_code
def yX7_lies : MethodName := ⟨RX7, "lies", "(II)Z"⟩
abbrev cX7_nodesOf : ByteArray := prog_9_method_37_code
def yX7_nodesOf : MethodName := ⟨RX7, "nodesOf", "(I)I"⟩
abbrev cX7_span : ByteArray := prog_9_method_38_code
def yX7_span : MethodName := ⟨RX7, "span", "(II)I"⟩
abbrev cX7_liesOn : ByteArray := prog_9_method_39_code
def yX7_liesOn : MethodName := ⟨RX7, "liesOn", "(I)I"⟩
abbrev cX7_node : ByteArray := prog_9_method_40_code
def yX7_node : MethodName := ⟨RX7, "node", "(I)I"⟩
abbrev cX7_keepAct : ByteArray := prog_9_method_41_code
def yX7_keepAct : MethodName := ⟨RX7, "keepAct", "()V"⟩
abbrev cX7_put : ByteArray := prog_9_method_42_code
def yX7_put : MethodName := ⟨RX7, "put", "(IIII)I"⟩
abbrev cX7_cut : ByteArray := prog_9_method_43_code
def yX7_cut : MethodName := ⟨RX7, "cut", "(I)I"⟩
abbrev cX7_end : ByteArray := prog_9_method_44_code
def yX7_end : MethodName := ⟨RX7, "end", "(II)I"⟩
abbrev cX7_undo : ByteArray := prog_9_method_45_code
def yX7_undo : MethodName := ⟨RX7, "undo", "()I"⟩
abbrev cX7_clearKnots : ByteArray := prog_9_method_46_code
def yX7_clearKnots : MethodName := ⟨RX7, "clearKnots", "()V"⟩
abbrev cX7_rootOf : ByteArray := prog_9_method_47_code
def yX7_rootOf : MethodName := ⟨RX7, "rootOf", "(I)I"⟩
abbrev cX7_depthAt : ByteArray := prog_9_method_48_code
def yX7_depthAt : MethodName := ⟨RX7, "depthAt", "(I)I"⟩
abbrev cX7_joins : ByteArray := prog_9_method_49_code
def yX7_joins : MethodName := ⟨RX7, "joins", "(I)Z"⟩
abbrev cX7_walkTo : ByteArray := prog_9_method_50_code
def yX7_walkTo : MethodName := ⟨RX7, "walkTo", "(I)I"⟩
abbrev cX7_partsBy : ByteArray := prog_9_method_51_code
def yX7_partsBy : MethodName := ⟨RX7, "partsBy", "(III)I"⟩
abbrev cX7_livingAt : ByteArray := prog_9_method_52_code
def yX7_livingAt : MethodName := ⟨RX7, "livingAt", "(I)I"⟩
abbrev cX7_findSides : ByteArray := prog_9_method_53_code
def yX7_findSides : MethodName := ⟨RX7, "findSides", "(I)V"⟩
abbrev cX7_spreadSides : ByteArray := prog_9_method_54_code
def yX7_spreadSides : MethodName := ⟨RX7, "spreadSides", "(I)V"⟩
abbrev cX7_oddParts : ByteArray := prog_9_method_55_code
def yX7_oddParts : MethodName := ⟨RX7, "oddParts", "(I)I"⟩
abbrev cX7_greatestDepth : ByteArray := prog_9_method_56_code
def yX7_greatestDepth : MethodName := ⟨RX7, "greatestDepth", "(I)I"⟩
abbrev cX7_greatestPart : ByteArray := prog_9_method_57_code
def yX7_greatestPart : MethodName := ⟨RX7, "greatestPart", "(I)I"⟩
abbrev cX7_at : ByteArray := prog_9_method_58_code
def yX7_at : MethodName := ⟨RX7, "at", "(II)I"⟩
abbrev cX7_knot : ByteArray := prog_9_method_59_code
def yX7_knot : MethodName := ⟨RX7, "knot", "(III)I"⟩
abbrev cX7_areJoined : ByteArray := prog_9_method_60_code
def yX7_areJoined : MethodName := ⟨RX7, "areJoined", "(IIIII)Z"⟩
abbrev cX7_joined : ByteArray := prog_9_method_61_code
def yX7_joined : MethodName := ⟨RX7, "joined", "(III)I"⟩
abbrev cX7_side : ByteArray := prog_9_method_62_code
def yX7_side : MethodName := ⟨RX7, "side", "(III)I"⟩
abbrev cX7_work : ByteArray := prog_9_method_63_code
def yX7_work : MethodName := ⟨RX7, "work", "(I)I"⟩
abbrev cX7_when : ByteArray := prog_9_method_64_code
def yX7_when : MethodName := ⟨RX7, "when", "(II)I"⟩
abbrev cX7_bridges : ByteArray := prog_9_method_65_code
def yX7_bridges : MethodName := ⟨RX7, "bridges", "(I)I"⟩
abbrev cX7_least : ByteArray := prog_9_method_66_code
def yX7_least : MethodName := ⟨RX7, "least", "(IIII)I"⟩
abbrev cX7_layTrial : ByteArray := prog_9_method_67_code
def yX7_layTrial : MethodName := ⟨RX7, "layTrial", "()V"⟩
abbrev cX7_tryThing : ByteArray := prog_9_method_68_code
def yX7_tryThing : MethodName := ⟨RX7, "tryThing", "(III)Z"⟩
abbrev cX7_byFives : ByteArray := prog_9_method_69_code
def yX7_byFives : MethodName := ⟨RX7, "byFives", "(I)J"⟩
abbrev cX7_judge : ByteArray := prog_9_method_70_code
def yX7_judge : MethodName := ⟨RX7, "judge", "(IJ)I"⟩
abbrev cX7_see : ByteArray := prog_9_method_71_code
def yX7_see : MethodName := ⟨RX7, "see", "(IIII)I"⟩
abbrev cX7_unsee : ByteArray := prog_9_method_72_code
def yX7_unsee : MethodName := ⟨RX7, "unsee", "()I"⟩
abbrev cX7_mayBe : ByteArray := prog_9_method_73_code
def yX7_mayBe : MethodName := ⟨RX7, "mayBe", "(I)Z"⟩
abbrev cX7_missing : ByteArray := prog_9_method_74_code
def yX7_missing : MethodName := ⟨RX7, "missing", "(I)I"⟩
abbrev cX7_factorial : ByteArray := prog_9_method_75_code
def yX7_factorial : MethodName := ⟨RX7, "factorial", "(I)I"⟩
abbrev cX7_common : ByteArray := prog_9_method_76_code
def yX7_common : MethodName := ⟨RX7, "common", "(II)I"⟩
abbrev cX7_findLiving : ByteArray := prog_9_method_77_code
def yX7_findLiving : MethodName := ⟨RX7, "findLiving", "(I)I"⟩
abbrev cX7_spansOf : ByteArray := prog_9_method_78_code
def yX7_spansOf : MethodName := ⟨RX7, "spansOf", "(II)I"⟩
abbrev cX7_share : ByteArray := prog_9_method_79_code
def yX7_share : MethodName := ⟨RX7, "share", "(IIZ)I"⟩
abbrev cX7_fails : ByteArray := prog_9_method_80_code
def yX7_fails : MethodName := ⟨RX7, "fails", "(IIIIZ)I"⟩
abbrev cX7_seed : ByteArray := prog_9_method_81_code
def yX7_seed : MethodName := ⟨RX7, "seed", "(J)J"⟩
abbrev cX7_drawn : ByteArray := prog_9_method_82_code
def yX7_drawn : MethodName := ⟨RX7, "drawn", "(I)I"⟩
abbrev cX7_keep : ByteArray := prog_9_method_83_code
def yX7_keep : MethodName := ⟨RX7, "keep", "(I)I"⟩
abbrev cX7_again : ByteArray := prog_9_method_84_code
def yX7_again : MethodName := ⟨RX7, "again", "(I)I"⟩
abbrev cX7_filledTimes : ByteArray := prog_9_method_85_code
def yX7_filledTimes : MethodName := ⟨RX7, "filledTimes", "()I"⟩
abbrev cX7_timesTogether : ByteArray := prog_9_method_86_code
def yX7_timesTogether : MethodName := ⟨RX7, "timesTogether", "()I"⟩
abbrev cX7_count : ByteArray := prog_9_method_87_code
def yX7_count : MethodName := ⟨RX7, "count", "(I)I"⟩
def RJ6 : String := "java/lang/Integer"
def TJ6 : u_T := fun k => match k with
  | _ => ("", "", "", false)
def tyJ6 : Nat → FieldType := fun k => match k with
  | _ => .int
theorem tyJ6_ok : ∀ k, k < 0 → parseFieldDescriptor (TJ6 k).2.2.1 = some (tyJ6 k) := by decide +kernel
abbrev cJ6_bitCount_0f7a4 : ByteArray := prog_10_method_49_code
def yJ6_bitCount_0f7a4 : MethodName := ⟨RJ6, "bitCount", "(I)I"⟩
def RJ9 : String := "java/lang/Math"
def TJ9 : u_T := fun k => match k with
  | _ => ("", "", "", false)
def tyJ9 : Nat → FieldType := fun k => match k with
  | _ => .int
theorem tyJ9_ok : ∀ k, k < 0 → parseFieldDescriptor (TJ9 k).2.2.1 = some (tyJ9 k) := by decide +kernel
abbrev cJ9_max_7cf53 : ByteArray := prog_11_method_65_code
def yJ9_max_7cf53 : MethodName := ⟨RJ9, "max", "(II)I"⟩
abbrev cJ9_min_7cf53 : ByteArray := prog_11_method_69_code
def yJ9_min_7cf53 : MethodName := ⟨RJ9, "min", "(II)I"⟩
def RL : String := "TimeLinksLaw"
abbrev cL_law : ByteArray := code
def yL_law : MethodName := ⟨RL, "law", "([I)Z"⟩
abbrev vwCl : List vw_C := [(RX0, TX0, 2), (RX1, TX1, 5), (RX2, TX2, 4), (RX3, TX3, 8), (RX4, TX4, 7), (RX5, TX5, 5), (RX6, TX6, 10), (RX7, TX7, 20)]
end
section
/-- heap of places: shapes (class number below 8, else kind of row, with its length), ints, longs, references -/
abbrev am_H : Type := List (Nat × Nat) × (Nat → Nat → Int32) × (Nat → Nat → Int64) × (Nat → Nat → Option Nat)
def am_T : List Cond := lw_tbl.filter goodWord
def am_cv (ad : Nat → Nat) (v : Value) : Value := match v with
  | .ref k => .ref (ad k)
  | v => v
def am_b : Bool → Int32
  | true => 1
  | false => 0
def am_nf (c : Nat) : Nat := match c with
  | 0 => 2
  | 1 => 5
  | 2 => 4
  | 3 => 8
  | 4 => 7
  | 5 => 5
  | 6 => 10
  | _ => 20
def am_cn (c : Nat) : String := match c with
  | 0 => RX0
  | 1 => RX1
  | 2 => RX2
  | 3 => RX3
  | 4 => RX4
  | 5 => RX5
  | 6 => RX6
  | _ => RX7
def am_ct (c : Nat) : u_T := match c with
  | 0 => TX0
  | 1 => TX1
  | 2 => TX2
  | 3 => TX3
  | 4 => TX4
  | 5 => TX5
  | 6 => TX6
  | _ => TX7
def am_ty (c : Nat) : Nat → FieldType := match c with
  | 0 => tyX0
  | 1 => tyX1
  | 2 => tyX2
  | 3 => tyX3
  | 4 => tyX4
  | 5 => tyX5
  | 6 => tyX6
  | _ => tyX7
theorem am_c8 {P : Nat → Prop} (h0 : P 0) (h1 : P 1) (h2 : P 2) (h3 : P 3) (h4 : P 4) (h5 : P 5) (h6 : P 6) (h7 : P 7) : ∀ c, c < 8 → P c := by
  intro c hc
  match c, hc with
  | 0, _ => exact h0
  | 1, _ => exact h1
  | 2, _ => exact h2
  | 3, _ => exact h3
  | 4, _ => exact h4
  | 5, _ => exact h5
  | 6, _ => exact h6
  | 7, _ => exact h7

theorem am_cl : ∀ c, c < 8 → vwCl[c]? = some (am_cn c, am_ct c, am_nf c) := am_c8 rfl rfl rfl rfl rfl rfl rfl rfl
theorem am_ui0 : ∀ w ∈ u_ws RX0 TX0 2, w ∈ lw_tbl := by decide +kernel
theorem am_ug0 : ∀ w ∈ u_ws RX0 TX0 2, goodWord w = true := by decide +kernel
theorem am_ui1 : ∀ w ∈ u_ws RX1 TX1 5, w ∈ lw_tbl := by decide +kernel
theorem am_ug1 : ∀ w ∈ u_ws RX1 TX1 5, goodWord w = true := by decide +kernel
theorem am_ui2 : ∀ w ∈ u_ws RX2 TX2 4, w ∈ lw_tbl := by decide +kernel
theorem am_ug2 : ∀ w ∈ u_ws RX2 TX2 4, goodWord w = true := by decide +kernel
theorem am_ui3 : ∀ w ∈ u_ws RX3 TX3 8, w ∈ lw_tbl := by decide +kernel
theorem am_ug3 : ∀ w ∈ u_ws RX3 TX3 8, goodWord w = true := by decide +kernel
theorem am_ui4 : ∀ w ∈ u_ws RX4 TX4 7, w ∈ lw_tbl := by decide +kernel
theorem am_ug4 : ∀ w ∈ u_ws RX4 TX4 7, goodWord w = true := by decide +kernel
theorem am_ui5 : ∀ w ∈ u_ws RX5 TX5 5, w ∈ lw_tbl := by decide +kernel
theorem am_ug5 : ∀ w ∈ u_ws RX5 TX5 5, goodWord w = true := by decide +kernel
theorem am_ui6 : ∀ w ∈ u_ws RX6 TX6 10, w ∈ lw_tbl := by decide +kernel
theorem am_ug6 : ∀ w ∈ u_ws RX6 TX6 10, goodWord w = true := by decide +kernel
theorem am_ui7 : ∀ w ∈ u_ws RX7 TX7 20, w ∈ lw_tbl := by decide +kernel
theorem am_ug7 : ∀ w ∈ u_ws RX7 TX7 20, goodWord w = true := by decide +kernel
theorem am_uin : ∀ c, c < 8 → ∀ w ∈ u_ws (am_cn c) (am_ct c) (am_nf c), w ∈ am_T := am_c8 (fun w h => List.mem_filter.mpr ⟨am_ui0 w h, am_ug0 w h⟩) (fun w h => List.mem_filter.mpr ⟨am_ui1 w h, am_ug1 w h⟩) (fun w h => List.mem_filter.mpr ⟨am_ui2 w h, am_ug2 w h⟩) (fun w h => List.mem_filter.mpr ⟨am_ui3 w h, am_ug3 w h⟩) (fun w h => List.mem_filter.mpr ⟨am_ui4 w h, am_ug4 w h⟩) (fun w h => List.mem_filter.mpr ⟨am_ui5 w h, am_ug5 w h⟩) (fun w h => List.mem_filter.mpr ⟨am_ui6 w h, am_ug6 w h⟩) (fun w h => List.mem_filter.mpr ⟨am_ui7 w h, am_ug7 w h⟩)
theorem am_tyk : ∀ c, c < 8 → ∀ k, k < am_nf c → parseFieldDescriptor (am_ct c k).2.2.1 = some (am_ty c k) := am_c8 tyX0_ok tyX1_ok tyX2_ok tyX3_ok tyX4_ok tyX5_ok tyX6_ok tyX7_ok
theorem am_nmk : ∀ c, c < 8 → ∀ a, a < am_nf c → ∀ b, b < am_nf c → a ≠ b → (am_ct c a).2.1 ≠ (am_ct c b).2.1 := am_c8 nmX0 nmX1 nmX2 nmX3 nmX4 nmX5 nmX6 nmX7
def am_fv (ad : Nat → Nat) (h : am_H) (k : Nat) (t : FieldType) (j : Nat) : Value := match t with
  | .int => .int (h.2.1 k j)
  | .long => .long (h.2.2.1 k j)
  | _ => va_rf ((h.2.2.2 k j).map ad)
def am_ce (tc : Nat → ClassId) (ad : Nat → Nat) (h : am_H) (k : Nat) (q : Nat × Nat) : va_E :=
  if q.1 < 8 then .inr (q.1, (List.range (am_nf q.1)).map (fun j => am_fv ad h k (am_ty q.1 j) j))
  else if q.1 = 11 then .inl (tc 11, q.2, .inr (.inr (.inr (.inr (fun j => (h.2.2.2 k j).map ad)))))
  else .inl (tc q.1, q.2, .inl (h.2.1 k))
def am_w (tc : Nat → ClassId) (ad : Nat → Nat) (h : am_H) : va_W := h.1.mapIdx (fun k q => (ad k, am_ce tc ad h k q))
theorem am_w_at {tc : Nat → ClassId} {ad : Nat → Nat} {h : am_H} {k : Nat} {q : Nat × Nat} (hk : h.1[k]? = some q) : (am_w tc ad h)[k]? = some (ad k, am_ce tc ad h k q) := by
  simp [am_w, List.getElem?_mapIdx, hk]
theorem am_w_len {tc : Nat → ClassId} {ad : Nat → Nat} {h : am_H} : (am_w tc ad h).length = h.1.length := by simp [am_w]
theorem am_w_set {tc : Nat → ClassId} {ad : Nat → Nat} {h h' : am_H} {p : Nat} {q : Nat × Nat} (hs : h'.1 = h.1) (hq : h.1[p]? = some q) (hne : ∀ k, k ≠ p → ∀ r, am_ce tc ad h' k r = am_ce tc ad h k r) :
    (am_w tc ad h).set p (ad p, am_ce tc ad h' p q) = am_w tc ad h' := by
  apply List.ext_getElem?
  intro k
  by_cases hk : k = p
  · subst hk
    have hl : k < (am_w tc ad h).length := by rw [am_w_len]; exact (List.getElem?_eq_some_iff.mp hq).1
    rw [List.getElem?_set_self hl]
    exact (am_w_at (h := h') (by rw [hs]; exact hq)).symm
  · rw [List.getElem?_set_ne (Ne.symm hk)]
    simp only [am_w, List.getElem?_mapIdx, hs]
    cases h.1[k]? with
    | none => rfl
    | some r => simp [hne k hk r]
def am_u {α : Type} (f : Nat → Nat → α) (p i : Nat) (x : α) : Nat → Nat → α := fun q j => if q = p ∧ j = i then x else f q j
theorem am_u_ne {α : Type} {f : Nat → Nat → α} {p i k : Nat} {x : α} (h : k ≠ p) : am_u f p i x k = f k := by funext j; simp [am_u, h]
theorem am_u_eq {α : Type} {f : Nat → Nat → α} {p i : Nat} {x : α} : am_u f p i x p = fun j => if j = i then x else f p j := by funext j; simp [am_u]
def am_I (h : am_H) (p i : Nat) (x : Int32) : am_H := (h.1, am_u h.2.1 p i x, h.2.2.1, h.2.2.2)
def am_L (h : am_H) (p i : Nat) (x : Int64) : am_H := (h.1, h.2.1, am_u h.2.2.1 p i x, h.2.2.2)
def am_F (h : am_H) (p i : Nat) (x : Option Nat) : am_H := (h.1, h.2.1, h.2.2.1, am_u h.2.2.2 p i x)
def am_ok (h : am_H) : Prop := ∀ k j, (h.1.length ≤ k → h.2.1 k j = 0 ∧ h.2.2.1 k j = 0 ∧ h.2.2.2 k j = none) ∧ ∀ q, h.2.2.2 k j = some q → q < h.1.length
theorem am_ok_I {h : am_H} {p i : Nat} {x : Int32} (H : am_ok h) (hp : p < h.1.length) : am_ok (am_I h p i x) := by
  intro k j
  refine ⟨fun hk => ⟨?_, ((H k j).1 hk).2⟩, (H k j).2⟩
  have hk' : h.1.length ≤ k := hk
  show am_u h.2.1 p i x k j = 0
  rw [am_u_ne (by omega)]
  exact ((H k j).1 hk).1
theorem am_ok_L {h : am_H} {p i : Nat} {x : Int64} (H : am_ok h) (hp : p < h.1.length) : am_ok (am_L h p i x) := by
  intro k j
  refine ⟨fun hk => ⟨((H k j).1 hk).1, ?_, ((H k j).1 hk).2.2⟩, (H k j).2⟩
  have hk' : h.1.length ≤ k := hk
  show am_u h.2.2.1 p i x k j = 0
  rw [am_u_ne (by omega)]
  exact ((H k j).1 hk).2.1
theorem am_ok_F {h : am_H} {p i q : Nat} (H : am_ok h) (hp : p < h.1.length) (hq : q < h.1.length) : am_ok (am_F h p i (some q)) := by
  intro k j
  refine ⟨fun hk => ⟨((H k j).1 hk).1, ((H k j).1 hk).2.1, ?_⟩, fun r hr => ?_⟩
  · have hk' : h.1.length ≤ k := hk
    show am_u h.2.2.2 p i (some q) k j = none
    rw [am_u_ne (by omega)]
    exact ((H k j).1 hk).2.2
  · have hr' : am_u h.2.2.2 p i (some q) k j = some r := hr
    show r < h.1.length
    unfold am_u at hr'
    split at hr'
    · cases hr'; exact hq
    · exact (H k j).2 r hr'
-- reads and writes that may fail
def am_gi (h : am_H) (c p k : Nat) : Option Int32 := match h.1[p]? with
  | some q => if q.1 = c then some (h.2.1 p k) else none
  | none => none
def am_gl (h : am_H) (c p k : Nat) : Option Int64 := match h.1[p]? with
  | some q => if q.1 = c then some (h.2.2.1 p k) else none
  | none => none
def am_gr (h : am_H) (c p k : Nat) : Option Nat := match h.1[p]? with
  | some q => if q.1 = c then h.2.2.2 p k else none
  | none => none
def am_pi (h : am_H) (c p k : Nat) (x : Int32) : Option am_H := match h.1[p]? with
  | some q => if q.1 = c then some (am_I h p k x) else none
  | none => none
def am_pl (h : am_H) (c p k : Nat) (x : Int64) : Option am_H := match h.1[p]? with
  | some q => if q.1 = c then some (am_L h p k x) else none
  | none => none
def am_pr (h : am_H) (c p k : Nat) (x : Nat) : Option am_H := match h.1[p]? with
  | some q => if q.1 = c ∧ x < h.1.length then some (am_F h p k (some x)) else none
  | none => none
def am_li (h : am_H) (c p : Nat) (i : Int32) : Option Int32 := match h.1[p]? with
  | some q => if q.1 = c ∧ 0 ≤ i.toInt ∧ i.toInt < q.2 then some (h.2.1 p i.toNatClampNeg) else none
  | none => none
def am_lr (h : am_H) (p : Nat) (i : Int32) : Option Nat := match h.1[p]? with
  | some q => if q.1 = 11 ∧ 0 ≤ i.toInt ∧ i.toInt < q.2 then h.2.2.2 p i.toNatClampNeg else none
  | none => none
def am_si (h : am_H) (c p : Nat) (i x : Int32) : Option am_H := match h.1[p]? with
  | some q => if q.1 = c ∧ 0 ≤ i.toInt ∧ i.toInt < q.2 then some (am_I h p i.toNatClampNeg x) else none
  | none => none
def am_sr (h : am_H) (p : Nat) (i : Int32) (x : Nat) : Option am_H := match h.1[p]?, h.1[x]? with
  | some q, some z => if (q.1 = 11 ∧ z.1 = 5) ∧ 0 ≤ i.toInt ∧ i.toInt < q.2 then some (am_F h p i.toNatClampNeg (some x)) else none
  | _, _ => none
def am_nw (h : am_H) (q : Nat × Nat) : am_H := (h.1 ++ [q], h.2.1, h.2.2.1, h.2.2.2)
-- what the tables say, at a state
def am_ne : Cond → Bool
  | .fieldLinkNest .. => true
  | .methodLinkNest .. => true
  | _ => false
def am_tys (tc : Nat → ClassId) : List (ClassId × FieldType) := [(tc 8, .char), (tc 9, .int), (tc 10, .boolean), (tc 11, .object "TimeLinks$Spans")]
def am_G (D : va_G) (tc : Nat → ClassId) (s : State) : Prop := va_K D vwCl (am_tys tc) s ∧ (∀ w ∈ lw_tbl, am_ne w = true → va_Nw w s) ∧ va_AO "TimeLinks$Spans" s
theorem am_G.warm {D : va_G} {tc : Nat → ClassId} {s U : State} (h : am_G D tc s) (hW : s.WarmedH U.vm) : am_G D tc U := by
  refine ⟨va_K.moved hW.alike h.1, fun w hw hn => ?_, h.2.2.moved hW.alike⟩
  have h1 := h.2.1 w hw hn
  cases w <;> first | exact h1.warmF hW | exact h1.warmM hW | (simp [am_ne] at hn)
theorem am_G.blind {D : va_G} {tc : Nat → ClassId} {s U : State} (h : am_G D tc s) (hv : s.vm = U.vm) : am_G D tc U := by
  refine ⟨va_K.moved (hv ▸ Vm.Alike.refl s.vm) h.1, fun w hw hn => ?_, h.2.2.moved (hv ▸ Vm.Alike.refl s.vm)⟩
  have h1 := h.2.1 w hw hn
  cases w <;> first | exact h1.same rfl hv | (simp [am_ne] at hn)
/-- what stays through a method's run -/
def am_C (y : MethodName) (cc : ByteArray) (nL : Nat) (ret : Option FieldType) (p : Program) (s : State) (m : MethodId) (args : Array Value) (meth : Method) (c : Code) (D : va_G) (tc : Nat → ClassId) (A : Nat → Prop) : Prop :=
  p.tables.exec = Jvm.exec ∧ c.code = cc ∧ c.maxLocals = nL ∧ s.vm.findClass y.cls = some m.cls ∧ (∀ w ∈ am_T, w.before args s = true) ∧ meth.sig.returnType = ret ∧ meth.locks = false ∧ meth.name = y.name ∧ (∀ q, s.heap.size ≤ q → A q) ∧ am_G D tc s
abbrev am_EX : Type := (Nat → Nat) → State → (Nat → Prop) → Prop
def am_lm (ad : Nat → Nat) (lv : List (Nat × Value)) : List (Nat × Value) := lv.map (fun q => (q.1, am_cv ad q.2))
def am_D (nL : Nat) (rm : Room) (Ex : am_EX) (lv : List (Nat × Value)) (h : am_H) (D : va_G) (tc : Nat → ClassId) (ad : Nat → Nat) (A : Nat → Prop) (s : State) (H : Heap) (locs : List Loc) (ls : Array Slot) (n0 : Nat) (ad0 : Nat → Nat) : Prop :=
  am_ok h ∧ lv_has ls nL (am_lm ad lv) ∧ va_P D vwCl (am_w tc ad h) H ∧ va_D A (am_w tc ad h) ∧ va_S A s.heap H locs ∧ Ex ad s A ∧ n0 ≤ h.1.length ∧ (∀ k, k < n0 ∨ h.1.length ≤ k → ad k = ad0 k) ∧ (rm.cells = 0 → ad = ad0)
def am_rt (cc : ByteArray) (ret : Option FieldType) (pc : Nat) (v : Option Value) : Prop := match v with
  | none => decode cc pc = .ok (.return_, 1) ∧ ret = none
  | some (.int x) => decode cc pc = .ok (.ireturn, 1) ∧ ∃ ty, ret = some ty ∧ narrow ty (.int x) = .int x
  | some (.long _) => decode cc pc = .ok (.lreturn, 1) ∧ ret = some .long
  | _ => False
def am_K (l : Launch) (cc : ByteArray) (ret : Option FieldType) (rm : Room) (p : Program) (e : Env) (s : State) (m : MethodId) (args : Array Value) (below : List Frame) (meth : Method) (c : Code) (D : va_G) (tc : Nat → ClassId) (A : Nat → Prop) (Q : State → Prop) (n0 : Nat) (ad0 : Nat → Nat) (K : Option Value → am_H → Prop) : Prop :=
  ∀ (v : Option Value) (h : am_H) (ad : Nat → Nat) (H : Heap) (locs : List Loc) (pc : Nat) (ls : Array Slot), K v h → am_ok h → n0 ≤ h.1.length → (∀ k, k < n0 ∨ h.1.length ≤ k → ad k = ad0 k) → (rm.cells = 0 → ad = ad0) → va_P D vwCl (am_w tc ad h) H → va_D A (am_w tc ad h) → va_S A s.heap H locs → am_rt cc ret pc v →
    W p l e rm s m args below meth c H locs rm.cells rm.slots Q (F0 m pc ls (v.toList.map (am_cv ad)))
/-- the judgement: from here the method comes to its end, with K of answer and heap -/
def am_R (l : Launch) (y : MethodName) (cc : ByteArray) (nL : Nat) (ret : Option FieldType) (rm : Room) (Ex : am_EX) (cells slots pc : Nat) (lv : List (Nat × Value)) (st : List Value) (h : am_H) (K : Option Value → am_H → Prop) : Prop :=
  ∀ (p : Program) (e : Env) (s : State) (m : MethodId) (args : Array Value) (below : List Frame) (meth : Method) (c : Code) (D : va_G) (tc : Nat → ClassId) (ad : Nat → Nat) (A : Nat → Prop) (H : Heap) (locs : List Loc) (ls : Array Slot) (Q : State → Prop) (n0 : Nat) (ad0 : Nat → Nat),
    am_C y cc nL ret p s m args meth c D tc A → am_D nL rm Ex lv h D tc ad A s H locs ls n0 ad0 → am_K l cc ret rm p e s m args below meth c D tc A Q n0 ad0 K →
    W p l e rm s m args below meth c H locs cells slots Q (F0 m pc ls (st.map (am_cv ad)))

section AMR
variable {l : Launch} {y : MethodName} {cc : ByteArray} {nL : Nat} {ret : Option FieldType} {rm : Room} {Ex : am_EX} {cells slots pc : Nat} {lv : List (Nat × Value)} {st : List Value} {h : am_H} {K : Option Value → am_H → Prop}
theorem r_iconst {n : Int} (v : Int32) (d : decode cc pc = .ok (.iconst n, 1)) (hv : Int32.ofInt n = v) (k : am_R l y cc nL ret rm Ex cells slots (pc + 1) lv (.int v :: st) h K) : am_R l y cc nL ret rm Ex cells slots pc lv st h K := fun p e s m args below meth c D tc ad A H locs ls Q n0 ad0 C Y Z => lv_iconst C.1 C.2.1 d hv (k p e s m args below meth c D tc ad A H locs ls Q n0 ad0 C Y Z)
theorem r_bipush {n : Int} (v : Int32) (d : decode cc pc = .ok (.bipush n, 2)) (hv : (Int8.ofInt n).toInt32 = v) (k : am_R l y cc nL ret rm Ex cells slots (pc + 2) lv (.int v :: st) h K) : am_R l y cc nL ret rm Ex cells slots pc lv st h K := fun p e s m args below meth c D tc ad A H locs ls Q n0 ad0 C Y Z => lv_bipush C.1 C.2.1 d hv (k p e s m args below meth c D tc ad A H locs ls Q n0 ad0 C Y Z)
theorem r_sipush {n : Int} (v : Int32) (d : decode cc pc = .ok (.sipush n, 3)) (hv : (Int16.ofInt n).toInt32 = v) (k : am_R l y cc nL ret rm Ex cells slots (pc + 3) lv (.int v :: st) h K) : am_R l y cc nL ret rm Ex cells slots pc lv st h K := fun p e s m args below meth c D tc ad A H locs ls Q n0 ad0 C Y Z => lv_sipush C.1 C.2.1 d hv (k p e s m args below meth c D tc ad A H locs ls Q n0 ad0 C Y Z)
theorem r_lconst {n : Fin 2} (v : Int64) (d : decode cc pc = .ok (.lconst n, 1)) (hv : Int64.ofNat (n : Nat) = v) (k : am_R l y cc nL ret rm Ex cells slots (pc + 1) lv (.long v :: st) h K) : am_R l y cc nL ret rm Ex cells slots pc lv st h K := fun p e s m args below meth c D tc ad A H locs ls Q n0 ad0 C Y Z => lv_lconst C.1 C.2.1 d hv (k p e s m args below meth c D tc ad A H locs ls Q n0 ad0 C Y Z)
theorem r_ldc {i : Nat} {v : Int32} (hw : Cond.constant y.cls i v ∈ am_T) (d : decode cc pc = .ok (.ldc i, 2)) (k : am_R l y cc nL ret rm Ex cells slots (pc + 2) lv (.int v :: st) h K) : am_R l y cc nL ret rm Ex cells slots pc lv st h K := fun p e s m args below meth c D tc ad A H locs ls Q n0 ad0 C Y Z => lv_ldc C.1 C.2.1 C.2.2.2.1 (C.2.2.2.2.1 _ hw) d (k p e s m args below meth c D tc ad A H locs ls Q n0 ad0 C Y Z)
theorem r_ldcw {i : Nat} {v : Int32} (hw : Cond.constant y.cls i v ∈ am_T) (d : decode cc pc = .ok (.ldc_w i, 3)) (k : am_R l y cc nL ret rm Ex cells slots (pc + 3) lv (.int v :: st) h K) : am_R l y cc nL ret rm Ex cells slots pc lv st h K := fun p e s m args below meth c D tc ad A H locs ls Q n0 ad0 C Y Z => lv_ldcw C.1 C.2.1 C.2.2.2.1 (C.2.2.2.2.1 _ hw) d (k p e s m args below meth c D tc ad A H locs ls Q n0 ad0 C Y Z)
theorem r_ldc2 {i : Nat} {v : Int64} (hw : Cond.constantLong y.cls i v ∈ am_T) (d : decode cc pc = .ok (.ldc2_w i, 3)) (k : am_R l y cc nL ret rm Ex cells slots (pc + 3) lv (.long v :: st) h K) : am_R l y cc nL ret rm Ex cells slots pc lv st h K := fun p e s m args below meth c D tc ad A H locs ls Q n0 ad0 C Y Z => lv_ldc2 C.1 C.2.1 C.2.2.2.1 (C.2.2.2.2.1 _ hw) d (k p e s m args below meth c D tc ad A H locs ls Q n0 ad0 C Y Z)
theorem r_iadd {x z : Int32} (d : decode cc pc = .ok (.iadd, 1)) (k : am_R l y cc nL ret rm Ex cells slots (pc + 1) lv (.int (x + z) :: st) h K) : am_R l y cc nL ret rm Ex cells slots pc lv (.int z :: .int x :: st) h K := fun p e s m args below meth c D tc ad A H locs ls Q n0 ad0 C Y Z => lv_iadd C.1 C.2.1 d (k p e s m args below meth c D tc ad A H locs ls Q n0 ad0 C Y Z)
theorem r_isub {x z : Int32} (d : decode cc pc = .ok (.isub, 1)) (k : am_R l y cc nL ret rm Ex cells slots (pc + 1) lv (.int (x - z) :: st) h K) : am_R l y cc nL ret rm Ex cells slots pc lv (.int z :: .int x :: st) h K := fun p e s m args below meth c D tc ad A H locs ls Q n0 ad0 C Y Z => lv_isub C.1 C.2.1 d (k p e s m args below meth c D tc ad A H locs ls Q n0 ad0 C Y Z)
theorem r_imul {x z : Int32} (d : decode cc pc = .ok (.imul, 1)) (k : am_R l y cc nL ret rm Ex cells slots (pc + 1) lv (.int (x * z) :: st) h K) : am_R l y cc nL ret rm Ex cells slots pc lv (.int z :: .int x :: st) h K := fun p e s m args below meth c D tc ad A H locs ls Q n0 ad0 C Y Z => lv_imul C.1 C.2.1 d (k p e s m args below meth c D tc ad A H locs ls Q n0 ad0 C Y Z)
theorem r_iand {x z : Int32} (d : decode cc pc = .ok (.iand, 1)) (k : am_R l y cc nL ret rm Ex cells slots (pc + 1) lv (.int (x &&& z) :: st) h K) : am_R l y cc nL ret rm Ex cells slots pc lv (.int z :: .int x :: st) h K := fun p e s m args below meth c D tc ad A H locs ls Q n0 ad0 C Y Z => lv_iand C.1 C.2.1 d (k p e s m args below meth c D tc ad A H locs ls Q n0 ad0 C Y Z)
theorem r_ior {x z : Int32} (d : decode cc pc = .ok (.ior, 1)) (k : am_R l y cc nL ret rm Ex cells slots (pc + 1) lv (.int (x ||| z) :: st) h K) : am_R l y cc nL ret rm Ex cells slots pc lv (.int z :: .int x :: st) h K := fun p e s m args below meth c D tc ad A H locs ls Q n0 ad0 C Y Z => lv_ior C.1 C.2.1 d (k p e s m args below meth c D tc ad A H locs ls Q n0 ad0 C Y Z)
theorem r_ixor {x z : Int32} (d : decode cc pc = .ok (.ixor, 1)) (k : am_R l y cc nL ret rm Ex cells slots (pc + 1) lv (.int (x ^^^ z) :: st) h K) : am_R l y cc nL ret rm Ex cells slots pc lv (.int z :: .int x :: st) h K := fun p e s m args below meth c D tc ad A H locs ls Q n0 ad0 C Y Z => lv_ixor C.1 C.2.1 d (k p e s m args below meth c D tc ad A H locs ls Q n0 ad0 C Y Z)
theorem r_ishl {x z : Int32} (d : decode cc pc = .ok (.ishl, 1)) (k : am_R l y cc nL ret rm Ex cells slots (pc + 1) lv (.int (x <<< (z &&& 31)) :: st) h K) : am_R l y cc nL ret rm Ex cells slots pc lv (.int z :: .int x :: st) h K := fun p e s m args below meth c D tc ad A H locs ls Q n0 ad0 C Y Z => lv_ishl C.1 C.2.1 d (k p e s m args below meth c D tc ad A H locs ls Q n0 ad0 C Y Z)
theorem r_ishr {x z : Int32} (d : decode cc pc = .ok (.ishr, 1)) (k : am_R l y cc nL ret rm Ex cells slots (pc + 1) lv (.int (x >>> (z &&& 31)) :: st) h K) : am_R l y cc nL ret rm Ex cells slots pc lv (.int z :: .int x :: st) h K := fun p e s m args below meth c D tc ad A H locs ls Q n0 ad0 C Y Z => lv_ishr C.1 C.2.1 d (k p e s m args below meth c D tc ad A H locs ls Q n0 ad0 C Y Z)
theorem r_idiv {x z : Int32} (d : decode cc pc = .ok (.idiv, 1)) (hne : ¬ z = 0) (k : am_R l y cc nL ret rm Ex cells slots (pc + 1) lv (.int (x / z) :: st) h K) : am_R l y cc nL ret rm Ex cells slots pc lv (.int z :: .int x :: st) h K := fun p e s m args below meth c D tc ad A H locs ls Q n0 ad0 C Y Z => lv_idiv C.1 C.2.1 d hne (k p e s m args below meth c D tc ad A H locs ls Q n0 ad0 C Y Z)
theorem r_irem {x z : Int32} (d : decode cc pc = .ok (.irem, 1)) (hne : ¬ z = 0) (k : am_R l y cc nL ret rm Ex cells slots (pc + 1) lv (.int (x - x / z * z) :: st) h K) : am_R l y cc nL ret rm Ex cells slots pc lv (.int z :: .int x :: st) h K := fun p e s m args below meth c D tc ad A H locs ls Q n0 ad0 C Y Z => lv_irem C.1 C.2.1 d hne (k p e s m args below meth c D tc ad A H locs ls Q n0 ad0 C Y Z)
theorem r_ineg {x : Int32} (d : decode cc pc = .ok (.ineg, 1)) (k : am_R l y cc nL ret rm Ex cells slots (pc + 1) lv (.int (-x) :: st) h K) : am_R l y cc nL ret rm Ex cells slots pc lv (.int x :: st) h K := fun p e s m args below meth c D tc ad A H locs ls Q n0 ad0 C Y Z => lv_ineg C.1 C.2.1 d (k p e s m args below meth c D tc ad A H locs ls Q n0 ad0 C Y Z)
theorem r_iushr {x z : Int32} (d : decode cc pc = .ok (.iushr, 1)) (k : am_R l y cc nL ret rm Ex cells slots (pc + 1) lv (.int ((x.toUInt32 >>> (z.toUInt32 &&& Int32.toUInt32 31)).toInt32) :: st) h K) : am_R l y cc nL ret rm Ex cells slots pc lv (.int z :: .int x :: st) h K := fun p e s m args below meth c D tc ad A H locs ls Q n0 ad0 C Y Z => lv_iushr C.1 C.2.1 d rfl (k p e s m args below meth c D tc ad A H locs ls Q n0 ad0 C Y Z)
theorem r_ladd {x z : Int64} (d : decode cc pc = .ok (.ladd, 1)) (k : am_R l y cc nL ret rm Ex cells slots (pc + 1) lv (.long (x + z) :: st) h K) : am_R l y cc nL ret rm Ex cells slots pc lv (.long z :: .long x :: st) h K := fun p e s m args below meth c D tc ad A H locs ls Q n0 ad0 C Y Z => lv_ladd C.1 C.2.1 d (k p e s m args below meth c D tc ad A H locs ls Q n0 ad0 C Y Z)
theorem r_lsub {x z : Int64} (d : decode cc pc = .ok (.lsub, 1)) (k : am_R l y cc nL ret rm Ex cells slots (pc + 1) lv (.long (x - z) :: st) h K) : am_R l y cc nL ret rm Ex cells slots pc lv (.long z :: .long x :: st) h K := fun p e s m args below meth c D tc ad A H locs ls Q n0 ad0 C Y Z => lv_lsub C.1 C.2.1 d (k p e s m args below meth c D tc ad A H locs ls Q n0 ad0 C Y Z)
theorem r_lmul {x z : Int64} (d : decode cc pc = .ok (.lmul, 1)) (k : am_R l y cc nL ret rm Ex cells slots (pc + 1) lv (.long (x * z) :: st) h K) : am_R l y cc nL ret rm Ex cells slots pc lv (.long z :: .long x :: st) h K := fun p e s m args below meth c D tc ad A H locs ls Q n0 ad0 C Y Z => lv_lmul C.1 C.2.1 d (k p e s m args below meth c D tc ad A H locs ls Q n0 ad0 C Y Z)
theorem r_land {x z : Int64} (d : decode cc pc = .ok (.land, 1)) (k : am_R l y cc nL ret rm Ex cells slots (pc + 1) lv (.long (x &&& z) :: st) h K) : am_R l y cc nL ret rm Ex cells slots pc lv (.long z :: .long x :: st) h K := fun p e s m args below meth c D tc ad A H locs ls Q n0 ad0 C Y Z => lv_land C.1 C.2.1 d (k p e s m args below meth c D tc ad A H locs ls Q n0 ad0 C Y Z)
theorem r_lor {x z : Int64} (d : decode cc pc = .ok (.lor, 1)) (k : am_R l y cc nL ret rm Ex cells slots (pc + 1) lv (.long (x ||| z) :: st) h K) : am_R l y cc nL ret rm Ex cells slots pc lv (.long z :: .long x :: st) h K := fun p e s m args below meth c D tc ad A H locs ls Q n0 ad0 C Y Z => lv_lor C.1 C.2.1 d (k p e s m args below meth c D tc ad A H locs ls Q n0 ad0 C Y Z)
theorem r_ldiv {x z : Int64} (d : decode cc pc = .ok (.ldiv, 1)) (hne : ¬ z = 0) (k : am_R l y cc nL ret rm Ex cells slots (pc + 1) lv (.long (x / z) :: st) h K) : am_R l y cc nL ret rm Ex cells slots pc lv (.long z :: .long x :: st) h K := fun p e s m args below meth c D tc ad A H locs ls Q n0 ad0 C Y Z => lv_ldiv C.1 C.2.1 d hne (k p e s m args below meth c D tc ad A H locs ls Q n0 ad0 C Y Z)
theorem r_lrem {x z : Int64} (d : decode cc pc = .ok (.lrem, 1)) (hne : ¬ z = 0) (k : am_R l y cc nL ret rm Ex cells slots (pc + 1) lv (.long (x - x / z * z) :: st) h K) : am_R l y cc nL ret rm Ex cells slots pc lv (.long z :: .long x :: st) h K := fun p e s m args below meth c D tc ad A H locs ls Q n0 ad0 C Y Z => lv_lrem C.1 C.2.1 d hne (k p e s m args below meth c D tc ad A H locs ls Q n0 ad0 C Y Z)
theorem r_lshl {x : Int64} {z : Int32} (d : decode cc pc = .ok (.lshl, 1)) (k : am_R l y cc nL ret rm Ex cells slots (pc + 1) lv (.long (x <<< (z.toInt64 &&& 63)) :: st) h K) : am_R l y cc nL ret rm Ex cells slots pc lv (.int z :: .long x :: st) h K := fun p e s m args below meth c D tc ad A H locs ls Q n0 ad0 C Y Z => lv_lshl C.1 C.2.1 d rfl (k p e s m args below meth c D tc ad A H locs ls Q n0 ad0 C Y Z)
theorem r_lushr {x : Int64} {z : Int32} (d : decode cc pc = .ok (.lushr, 1)) (k : am_R l y cc nL ret rm Ex cells slots (pc + 1) lv (.long ((x.toUInt64 >>> (z.toInt64.toUInt64 &&& Int64.toUInt64 63)).toInt64) :: st) h K) : am_R l y cc nL ret rm Ex cells slots pc lv (.int z :: .long x :: st) h K := fun p e s m args below meth c D tc ad A H locs ls Q n0 ad0 C Y Z => lv_lushr C.1 C.2.1 d rfl (k p e s m args below meth c D tc ad A H locs ls Q n0 ad0 C Y Z)
theorem r_i2l {x : Int32} (d : decode cc pc = .ok (.i2l, 1)) (k : am_R l y cc nL ret rm Ex cells slots (pc + 1) lv (.long x.toInt64 :: st) h K) : am_R l y cc nL ret rm Ex cells slots pc lv (.int x :: st) h K := fun p e s m args below meth c D tc ad A H locs ls Q n0 ad0 C Y Z => lv_i2l C.1 C.2.1 d rfl (k p e s m args below meth c D tc ad A H locs ls Q n0 ad0 C Y Z)
theorem r_l2i {x : Int64} (d : decode cc pc = .ok (.l2i, 1)) (k : am_R l y cc nL ret rm Ex cells slots (pc + 1) lv (.int x.toInt32 :: st) h K) : am_R l y cc nL ret rm Ex cells slots pc lv (.long x :: st) h K := fun p e s m args below meth c D tc ad A H locs ls Q n0 ad0 C Y Z => lv_l2i C.1 C.2.1 d rfl (k p e s m args below meth c D tc ad A H locs ls Q n0 ad0 C Y Z)
theorem r_i2c {x : Int32} (d : decode cc pc = .ok (.i2c, 1)) (k : am_R l y cc nL ret rm Ex cells slots (pc + 1) lv (.int (x.toUInt32 % 65536).toInt32 :: st) h K) : am_R l y cc nL ret rm Ex cells slots pc lv (.int x :: st) h K := fun p e s m args below meth c D tc ad A H locs ls Q n0 ad0 C Y Z => lv_i2c C.1 C.2.1 d rfl (k p e s m args below meth c D tc ad A H locs ls Q n0 ad0 C Y Z)
theorem r_lcmp {x z : Int64} (d : decode cc pc = .ok (.lcmp, 1)) (k : am_R l y cc nL ret rm Ex cells slots (pc + 1) lv (.int (lg_cmp x z) :: st) h K) : am_R l y cc nL ret rm Ex cells slots pc lv (.long z :: .long x :: st) h K := fun p e s m args below meth c D tc ad A H locs ls Q n0 ad0 C Y Z => W.lcmp C.1 C.2.1 d (k p e s m args below meth c D tc ad A H locs ls Q n0 ad0 C Y Z)
theorem am_cat (ad : Nat → Nat) (v : Value) : (am_cv ad v).category = v.category := by cases v <;> rfl
theorem r_dup {v : Value} (d : decode cc pc = .ok (.dup, 1)) (hc : v.category = 1) (k : am_R l y cc nL ret rm Ex cells slots (pc + 1) lv (v :: v :: st) h K) : am_R l y cc nL ret rm Ex cells slots pc lv (v :: st) h K := fun p e s m args below meth c D tc ad A H locs ls Q n0 ad0 C Y Z => lv_dup C.1 C.2.1 d ((am_cat ad v).trans hc) (k p e s m args below meth c D tc ad A H locs ls Q n0 ad0 C Y Z)
theorem r_pop {v : Value} (d : decode cc pc = .ok (.pop, 1)) (hc : v.category = 1) (k : am_R l y cc nL ret rm Ex cells slots (pc + 1) lv st h K) : am_R l y cc nL ret rm Ex cells slots pc lv (v :: st) h K := fun p e s m args below meth c D tc ad A H locs ls Q n0 ad0 C Y Z => lv_pop C.1 C.2.1 d ((am_cat ad v).trans hc) (k p e s m args below meth c D tc ad A H locs ls Q n0 ad0 C Y Z)
theorem r_dup2 {v z : Value} (d : decode cc pc = .ok (.dup2, 1)) (hc : v.category = 1) (hd : z.category = 1) (k : am_R l y cc nL ret rm Ex cells slots (pc + 1) lv (v :: z :: v :: z :: st) h K) : am_R l y cc nL ret rm Ex cells slots pc lv (v :: z :: st) h K := fun p e s m args below meth c D tc ad A H locs ls Q n0 ad0 C Y Z => lv_dup2_11 C.1 C.2.1 d ((am_cat ad v).trans hc) ((am_cat ad z).trans hd) (k p e s m args below meth c D tc ad A H locs ls Q n0 ad0 C Y Z)
theorem r_dup2l {v : Value} (d : decode cc pc = .ok (.dup2, 1)) (hc : v.category = 2) (k : am_R l y cc nL ret rm Ex cells slots (pc + 1) lv (v :: v :: st) h K) : am_R l y cc nL ret rm Ex cells slots pc lv (v :: st) h K := fun p e s m args below meth c D tc ad A H locs ls Q n0 ad0 C Y Z => lv_dup2_2 C.1 C.2.1 d ((am_cat ad v).trans hc) (k p e s m args below meth c D tc ad A H locs ls Q n0 ad0 C Y Z)
theorem r_if_eq {x : Int32} {off : Int} (t : Nat) (d : decode cc pc = .ok (.ifCond .eq off, 3)) (ht : (pc : Int) + off = (t : Int)) (k1 : x = 0 → am_R l y cc nL ret rm Ex cells slots t lv st h K) (k2 : ¬ x = 0 → am_R l y cc nL ret rm Ex cells slots (pc + 3) lv st h K) : am_R l y cc nL ret rm Ex cells slots pc lv (.int x :: st) h K := fun p e s m args below meth c D tc ad A H locs ls Q n0 ad0 C Y Z => lv_if_eq C.1 C.2.1 d ht (fun q => k1 q p e s m args below meth c D tc ad A H locs ls Q n0 ad0 C Y Z) (fun q => k2 q p e s m args below meth c D tc ad A H locs ls Q n0 ad0 C Y Z)
theorem r_if_ne {x : Int32} {off : Int} (t : Nat) (d : decode cc pc = .ok (.ifCond .ne off, 3)) (ht : (pc : Int) + off = (t : Int)) (k1 : ¬ x = 0 → am_R l y cc nL ret rm Ex cells slots t lv st h K) (k2 : x = 0 → am_R l y cc nL ret rm Ex cells slots (pc + 3) lv st h K) : am_R l y cc nL ret rm Ex cells slots pc lv (.int x :: st) h K := fun p e s m args below meth c D tc ad A H locs ls Q n0 ad0 C Y Z => lv_if_ne C.1 C.2.1 d ht (fun q => k1 q p e s m args below meth c D tc ad A H locs ls Q n0 ad0 C Y Z) (fun q => k2 q p e s m args below meth c D tc ad A H locs ls Q n0 ad0 C Y Z)
theorem r_if_lt {x : Int32} {off : Int} (t : Nat) (d : decode cc pc = .ok (.ifCond .lt off, 3)) (ht : (pc : Int) + off = (t : Int)) (k1 : x < 0 → am_R l y cc nL ret rm Ex cells slots t lv st h K) (k2 : ¬ x < 0 → am_R l y cc nL ret rm Ex cells slots (pc + 3) lv st h K) : am_R l y cc nL ret rm Ex cells slots pc lv (.int x :: st) h K := fun p e s m args below meth c D tc ad A H locs ls Q n0 ad0 C Y Z => lv_if_lt C.1 C.2.1 d ht (fun q => k1 q p e s m args below meth c D tc ad A H locs ls Q n0 ad0 C Y Z) (fun q => k2 q p e s m args below meth c D tc ad A H locs ls Q n0 ad0 C Y Z)
theorem r_if_ge {x : Int32} {off : Int} (t : Nat) (d : decode cc pc = .ok (.ifCond .ge off, 3)) (ht : (pc : Int) + off = (t : Int)) (k1 : 0 ≤ x → am_R l y cc nL ret rm Ex cells slots t lv st h K) (k2 : ¬ 0 ≤ x → am_R l y cc nL ret rm Ex cells slots (pc + 3) lv st h K) : am_R l y cc nL ret rm Ex cells slots pc lv (.int x :: st) h K := fun p e s m args below meth c D tc ad A H locs ls Q n0 ad0 C Y Z => lv_if_ge C.1 C.2.1 d ht (fun q => k1 q p e s m args below meth c D tc ad A H locs ls Q n0 ad0 C Y Z) (fun q => k2 q p e s m args below meth c D tc ad A H locs ls Q n0 ad0 C Y Z)
theorem r_if_gt {x : Int32} {off : Int} (t : Nat) (d : decode cc pc = .ok (.ifCond .gt off, 3)) (ht : (pc : Int) + off = (t : Int)) (k1 : 0 < x → am_R l y cc nL ret rm Ex cells slots t lv st h K) (k2 : ¬ 0 < x → am_R l y cc nL ret rm Ex cells slots (pc + 3) lv st h K) : am_R l y cc nL ret rm Ex cells slots pc lv (.int x :: st) h K := fun p e s m args below meth c D tc ad A H locs ls Q n0 ad0 C Y Z => lv_if_gt C.1 C.2.1 d ht (fun q => k1 q p e s m args below meth c D tc ad A H locs ls Q n0 ad0 C Y Z) (fun q => k2 q p e s m args below meth c D tc ad A H locs ls Q n0 ad0 C Y Z)
theorem r_if_le {x : Int32} {off : Int} (t : Nat) (d : decode cc pc = .ok (.ifCond .le off, 3)) (ht : (pc : Int) + off = (t : Int)) (k1 : x ≤ 0 → am_R l y cc nL ret rm Ex cells slots t lv st h K) (k2 : ¬ x ≤ 0 → am_R l y cc nL ret rm Ex cells slots (pc + 3) lv st h K) : am_R l y cc nL ret rm Ex cells slots pc lv (.int x :: st) h K := fun p e s m args below meth c D tc ad A H locs ls Q n0 ad0 C Y Z => lv_if_le C.1 C.2.1 d ht (fun q => k1 q p e s m args below meth c D tc ad A H locs ls Q n0 ad0 C Y Z) (fun q => k2 q p e s m args below meth c D tc ad A H locs ls Q n0 ad0 C Y Z)
theorem r_icmp_eq {x z : Int32} {off : Int} (t : Nat) (d : decode cc pc = .ok (.if_icmp .eq off, 3)) (ht : (pc : Int) + off = (t : Int)) (k1 : x = z → am_R l y cc nL ret rm Ex cells slots t lv st h K) (k2 : ¬ x = z → am_R l y cc nL ret rm Ex cells slots (pc + 3) lv st h K) : am_R l y cc nL ret rm Ex cells slots pc lv (.int z :: .int x :: st) h K := fun p e s m args below meth c D tc ad A H locs ls Q n0 ad0 C Y Z => lv_icmp_eq C.1 C.2.1 d ht (fun q => k1 q p e s m args below meth c D tc ad A H locs ls Q n0 ad0 C Y Z) (fun q => k2 q p e s m args below meth c D tc ad A H locs ls Q n0 ad0 C Y Z)
theorem r_icmp_ne {x z : Int32} {off : Int} (t : Nat) (d : decode cc pc = .ok (.if_icmp .ne off, 3)) (ht : (pc : Int) + off = (t : Int)) (k1 : ¬ x = z → am_R l y cc nL ret rm Ex cells slots t lv st h K) (k2 : x = z → am_R l y cc nL ret rm Ex cells slots (pc + 3) lv st h K) : am_R l y cc nL ret rm Ex cells slots pc lv (.int z :: .int x :: st) h K := fun p e s m args below meth c D tc ad A H locs ls Q n0 ad0 C Y Z => lv_icmp_ne C.1 C.2.1 d ht (fun q => k1 q p e s m args below meth c D tc ad A H locs ls Q n0 ad0 C Y Z) (fun q => k2 q p e s m args below meth c D tc ad A H locs ls Q n0 ad0 C Y Z)
theorem r_icmp_lt {x z : Int32} {off : Int} (t : Nat) (d : decode cc pc = .ok (.if_icmp .lt off, 3)) (ht : (pc : Int) + off = (t : Int)) (k1 : x < z → am_R l y cc nL ret rm Ex cells slots t lv st h K) (k2 : ¬ x < z → am_R l y cc nL ret rm Ex cells slots (pc + 3) lv st h K) : am_R l y cc nL ret rm Ex cells slots pc lv (.int z :: .int x :: st) h K := fun p e s m args below meth c D tc ad A H locs ls Q n0 ad0 C Y Z => lv_icmp_lt C.1 C.2.1 d ht (fun q => k1 q p e s m args below meth c D tc ad A H locs ls Q n0 ad0 C Y Z) (fun q => k2 q p e s m args below meth c D tc ad A H locs ls Q n0 ad0 C Y Z)
theorem r_icmp_ge {x z : Int32} {off : Int} (t : Nat) (d : decode cc pc = .ok (.if_icmp .ge off, 3)) (ht : (pc : Int) + off = (t : Int)) (k1 : z ≤ x → am_R l y cc nL ret rm Ex cells slots t lv st h K) (k2 : ¬ z ≤ x → am_R l y cc nL ret rm Ex cells slots (pc + 3) lv st h K) : am_R l y cc nL ret rm Ex cells slots pc lv (.int z :: .int x :: st) h K := fun p e s m args below meth c D tc ad A H locs ls Q n0 ad0 C Y Z => lv_icmp_ge C.1 C.2.1 d ht (fun q => k1 q p e s m args below meth c D tc ad A H locs ls Q n0 ad0 C Y Z) (fun q => k2 q p e s m args below meth c D tc ad A H locs ls Q n0 ad0 C Y Z)
theorem r_icmp_gt {x z : Int32} {off : Int} (t : Nat) (d : decode cc pc = .ok (.if_icmp .gt off, 3)) (ht : (pc : Int) + off = (t : Int)) (k1 : z < x → am_R l y cc nL ret rm Ex cells slots t lv st h K) (k2 : ¬ z < x → am_R l y cc nL ret rm Ex cells slots (pc + 3) lv st h K) : am_R l y cc nL ret rm Ex cells slots pc lv (.int z :: .int x :: st) h K := fun p e s m args below meth c D tc ad A H locs ls Q n0 ad0 C Y Z => lv_icmp_gt C.1 C.2.1 d ht (fun q => k1 q p e s m args below meth c D tc ad A H locs ls Q n0 ad0 C Y Z) (fun q => k2 q p e s m args below meth c D tc ad A H locs ls Q n0 ad0 C Y Z)
theorem r_icmp_le {x z : Int32} {off : Int} (t : Nat) (d : decode cc pc = .ok (.if_icmp .le off, 3)) (ht : (pc : Int) + off = (t : Int)) (k1 : x ≤ z → am_R l y cc nL ret rm Ex cells slots t lv st h K) (k2 : ¬ x ≤ z → am_R l y cc nL ret rm Ex cells slots (pc + 3) lv st h K) : am_R l y cc nL ret rm Ex cells slots pc lv (.int z :: .int x :: st) h K := fun p e s m args below meth c D tc ad A H locs ls Q n0 ad0 C Y Z => lv_icmp_le C.1 C.2.1 d ht (fun q => k1 q p e s m args below meth c D tc ad A H locs ls Q n0 ad0 C Y Z) (fun q => k2 q p e s m args below meth c D tc ad A H locs ls Q n0 ad0 C Y Z)
theorem r_goto {off : Int} (t : Nat) (d : decode cc pc = .ok (.goto off, 3)) (ht : (pc : Int) + off = (t : Int)) (k : am_R l y cc nL ret rm Ex cells slots t lv st h K) : am_R l y cc nL ret rm Ex cells slots pc lv st h K := fun p e s m args below meth c D tc ad A H locs ls Q n0 ad0 C Y Z => lv_goto C.1 C.2.1 d ht (k p e s m args below meth c D tc ad A H locs ls Q n0 ad0 C Y Z)
theorem r_tsw {dflt lo hi : Int} {offs : Array Int} {len : Nat} {x : Int32} (t : Nat) (d : decode cc pc = .ok (.tableswitch dflt lo hi offs, len)) (hx : (¬ (x.toInt < lo ∨ hi < x.toInt) ∧ (offs[(x.toInt - lo).toNat]?).map (fun off => (pc : Int) + off) = some (t : Int)) ∨ ((x.toInt < lo ∨ hi < x.toInt) ∧ (pc : Int) + dflt = (t : Int))) (k : am_R l y cc nL ret rm Ex cells slots t lv st h K) : am_R l y cc nL ret rm Ex cells slots pc lv (.int x :: st) h K := fun p e s m args below meth c D tc ad A H locs ls Q n0 ad0 C Y Z => by
  rcases hx with ⟨h1, h2⟩ | ⟨h1, h2⟩
  · cases ho : offs[(x.toInt - lo).toNat]? with
    | none => rw [ho] at h2; cases h2
    | some off =>
      rw [ho] at h2
      exact lv_tableIn C.1 C.2.1 d (fun q => h1 (Or.inl q)) (fun q => h1 (Or.inr q)) ho (Option.some.inj h2) (k p e s m args below meth c D tc ad A H locs ls Q n0 ad0 C Y Z)
  · exact lv_tableOut C.1 C.2.1 d h1 h2 (k p e s m args below meth c D tc ad A H locs ls Q n0 ad0 C Y Z)
theorem r_lsw {dflt : Int} {ps : Array (Int × Int)} {len : Nat} {x : Int32} (t : Nat) (d : decode cc pc = .ok (.lookupswitch dflt ps, len)) (hp : (ps.toList.zip (ps.toList.drop 1)).all (fun (a, next) => a.1 < next.1) = true) (ho : (pc : Int) + Op.lookupswitch.offset ps.toList dflt x.toInt = (t : Int)) (k : am_R l y cc nL ret rm Ex cells slots t lv st h K) : am_R l y cc nL ret rm Ex cells slots pc lv (.int x :: st) h K := fun p e s m args below meth c D tc ad A H locs ls Q n0 ad0 C Y Z => lv_lookup C.1 C.2.1 d hp rfl ho (k p e s m args below meth c D tc ad A H locs ls Q n0 ad0 C Y Z)
theorem am_lat {ad : Nat → Nat} {ls : Array Slot} {i j : Nat} {v : Value} (H : lv_has ls nL (am_lm ad lv)) (hk : lv[j]? = some (i, v)) : ls[i]? = some (.val (am_cv ad v)) := lv_at H j (by simp [am_lm, hk])
def am_st (i : Nat) (v : Value) (lv : List (Nat × Value)) : List (Nat × Value) := (i, v) :: lv.filter (fun q => !(q.1 == i) && !(q.1 + 1 == i && q.2.category == 2))
def am_st2 (i : Nat) (v : Value) (lv : List (Nat × Value)) : List (Nat × Value) := (i, v) :: lv.filter (fun q => !(q.1 == i) && (!(q.1 == i + 1) && !(q.1 + 1 == i && q.2.category == 2)))
theorem am_st_lm {ad : Nat → Nat} {i : Nat} {v : Value} : (i, am_cv ad v) :: (am_lm ad lv).filter (fun q => !(q.1 == i) && !(q.1 + 1 == i && q.2.category == 2)) = am_lm ad (am_st i v lv) := by
  simp only [am_lm, am_st, List.map_cons, List.filter_map]
  congr 3
  funext q
  simp [Function.comp, am_cat]
theorem am_st2_lm {ad : Nat → Nat} {i : Nat} {v : Value} : (i, am_cv ad v) :: (am_lm ad lv).filter (fun q => !(q.1 == i) && (!(q.1 == i + 1) && !(q.1 + 1 == i && q.2.category == 2))) = am_lm ad (am_st2 i v lv) := by
  simp only [am_lm, am_st2, List.map_cons, List.filter_map]
  congr 3
  funext q
  simp [Function.comp, am_cat]
theorem r_iload_n {i : Fin 4} {x : Int32} (j : Nat) (d : decode cc pc = .ok (.iload_n i, 1)) (hj : lv[j]? = some (i.val, .int x)) (k : am_R l y cc nL ret rm Ex cells slots (pc + 1) lv (.int x :: st) h K) : am_R l y cc nL ret rm Ex cells slots pc lv st h K := fun p e s m args below meth c D tc ad A H locs ls Q n0 ad0 C Y Z => lv_iload_n C.1 C.2.1 d rfl (am_lat Y.2.1 hj) (k p e s m args below meth c D tc ad A H locs ls Q n0 ad0 C Y Z)
theorem r_iload {i : Nat} {x : Int32} (j : Nat) (d : decode cc pc = .ok (.iload i, 2)) (hj : lv[j]? = some (i, .int x)) (k : am_R l y cc nL ret rm Ex cells slots (pc + 2) lv (.int x :: st) h K) : am_R l y cc nL ret rm Ex cells slots pc lv st h K := fun p e s m args below meth c D tc ad A H locs ls Q n0 ad0 C Y Z => lv_iload C.1 C.2.1 d (am_lat Y.2.1 hj) (k p e s m args below meth c D tc ad A H locs ls Q n0 ad0 C Y Z)
theorem r_istore_n {i : Fin 4} {x : Int32} (lv2 : List (Nat × Value)) (d : decode cc pc = .ok (.istore_n i, 1)) (hn : i.val < nL) (hl : am_st i.val (.int x) lv = lv2) (k : am_R l y cc nL ret rm Ex cells slots (pc + 1) lv2 st h K) : am_R l y cc nL ret rm Ex cells slots pc lv (.int x :: st) h K := fun p e s m args below meth c D tc ad A H locs ls Q n0 ad0 C Y Z => lv_istore_n C.1 C.2.1 d rfl Y.2.1 hn (am_st_lm (v := .int x)) (fun ls hh => k p e s m args below meth c D tc ad A H locs ls Q n0 ad0 C ⟨Y.1, hl ▸ hh, Y.2.2⟩ Z)
theorem r_istore {i : Nat} {x : Int32} (lv2 : List (Nat × Value)) (d : decode cc pc = .ok (.istore i, 2)) (hn : i < nL) (hl : am_st i (.int x) lv = lv2) (k : am_R l y cc nL ret rm Ex cells slots (pc + 2) lv2 st h K) : am_R l y cc nL ret rm Ex cells slots pc lv (.int x :: st) h K := fun p e s m args below meth c D tc ad A H locs ls Q n0 ad0 C Y Z => lv_istore C.1 C.2.1 d Y.2.1 hn (am_st_lm (v := .int x)) (fun ls hh => k p e s m args below meth c D tc ad A H locs ls Q n0 ad0 C ⟨Y.1, hl ▸ hh, Y.2.2⟩ Z)
theorem r_lload_n {i : Fin 4} {x : Int64} (j : Nat) (d : decode cc pc = .ok (.lload_n i, 1)) (hj : lv[j]? = some (i.val, .long x)) (k : am_R l y cc nL ret rm Ex cells slots (pc + 1) lv (.long x :: st) h K) : am_R l y cc nL ret rm Ex cells slots pc lv st h K := fun p e s m args below meth c D tc ad A H locs ls Q n0 ad0 C Y Z => lv_lload_n C.1 C.2.1 d rfl (am_lat Y.2.1 hj) (k p e s m args below meth c D tc ad A H locs ls Q n0 ad0 C Y Z)
theorem r_lload {i : Nat} {x : Int64} (j : Nat) (d : decode cc pc = .ok (.lload i, 2)) (hj : lv[j]? = some (i, .long x)) (k : am_R l y cc nL ret rm Ex cells slots (pc + 2) lv (.long x :: st) h K) : am_R l y cc nL ret rm Ex cells slots pc lv st h K := fun p e s m args below meth c D tc ad A H locs ls Q n0 ad0 C Y Z => lv_lload C.1 C.2.1 d (am_lat Y.2.1 hj) (k p e s m args below meth c D tc ad A H locs ls Q n0 ad0 C Y Z)
theorem r_lstore_n {i : Fin 4} {x : Int64} (lv2 : List (Nat × Value)) (d : decode cc pc = .ok (.lstore_n i, 1)) (hn : i.val + 1 < nL) (hl : am_st2 i.val (.long x) lv = lv2) (k : am_R l y cc nL ret rm Ex cells slots (pc + 1) lv2 st h K) : am_R l y cc nL ret rm Ex cells slots pc lv (.long x :: st) h K := fun p e s m args below meth c D tc ad A H locs ls Q n0 ad0 C Y Z => lv_lstore_n C.1 C.2.1 d rfl Y.2.1 hn (am_st2_lm (v := .long x)) (fun ls hh => k p e s m args below meth c D tc ad A H locs ls Q n0 ad0 C ⟨Y.1, hl ▸ hh, Y.2.2⟩ Z)
theorem r_lstore {i : Nat} {x : Int64} (lv2 : List (Nat × Value)) (d : decode cc pc = .ok (.lstore i, 2)) (hn : i + 1 < nL) (hl : am_st2 i (.long x) lv = lv2) (k : am_R l y cc nL ret rm Ex cells slots (pc + 2) lv2 st h K) : am_R l y cc nL ret rm Ex cells slots pc lv (.long x :: st) h K := fun p e s m args below meth c D tc ad A H locs ls Q n0 ad0 C Y Z => lv_lstore C.1 C.2.1 d Y.2.1 hn (am_st2_lm (v := .long x)) (fun ls hh => k p e s m args below meth c D tc ad A H locs ls Q n0 ad0 C ⟨Y.1, hl ▸ hh, Y.2.2⟩ Z)
theorem r_aload_n {i : Fin 4} {x : Nat} (j : Nat) (d : decode cc pc = .ok (.aload_n i, 1)) (hj : lv[j]? = some (i.val, .ref x)) (k : am_R l y cc nL ret rm Ex cells slots (pc + 1) lv (.ref x :: st) h K) : am_R l y cc nL ret rm Ex cells slots pc lv st h K := fun p e s m args below meth c D tc ad A H locs ls Q n0 ad0 C Y Z => lv_aload_n C.1 C.2.1 d rfl (am_lat Y.2.1 hj) (k p e s m args below meth c D tc ad A H locs ls Q n0 ad0 C Y Z)
theorem r_aload {i : Nat} {x : Nat} (j : Nat) (d : decode cc pc = .ok (.aload i, 2)) (hj : lv[j]? = some (i, .ref x)) (k : am_R l y cc nL ret rm Ex cells slots (pc + 2) lv (.ref x :: st) h K) : am_R l y cc nL ret rm Ex cells slots pc lv st h K := fun p e s m args below meth c D tc ad A H locs ls Q n0 ad0 C Y Z => lv_aload C.1 C.2.1 d (am_lat Y.2.1 hj) (k p e s m args below meth c D tc ad A H locs ls Q n0 ad0 C Y Z)
theorem r_astore_n {i : Fin 4} {x : Nat} (lv2 : List (Nat × Value)) (d : decode cc pc = .ok (.astore_n i, 1)) (hn : i.val < nL) (hl : am_st i.val (.ref x) lv = lv2) (k : am_R l y cc nL ret rm Ex cells slots (pc + 1) lv2 st h K) : am_R l y cc nL ret rm Ex cells slots pc lv (.ref x :: st) h K := fun p e s m args below meth c D tc ad A H locs ls Q n0 ad0 C Y Z => lv_astore_n C.1 C.2.1 d rfl Y.2.1 hn (am_st_lm (v := .ref x)) (fun ls hh => k p e s m args below meth c D tc ad A H locs ls Q n0 ad0 C ⟨Y.1, hl ▸ hh, Y.2.2⟩ Z)
theorem r_astore {i : Nat} {x : Nat} (lv2 : List (Nat × Value)) (d : decode cc pc = .ok (.astore i, 2)) (hn : i < nL) (hl : am_st i (.ref x) lv = lv2) (k : am_R l y cc nL ret rm Ex cells slots (pc + 2) lv2 st h K) : am_R l y cc nL ret rm Ex cells slots pc lv (.ref x :: st) h K := fun p e s m args below meth c D tc ad A H locs ls Q n0 ad0 C Y Z => lv_astore C.1 C.2.1 d Y.2.1 hn (am_st_lm (v := .ref x)) (fun ls hh => k p e s m args below meth c D tc ad A H locs ls Q n0 ad0 C ⟨Y.1, hl ▸ hh, Y.2.2⟩ Z)
theorem r_iinc {i : Nat} {n : Int} {x v : Int32} (j : Nat) (lv2 : List (Nat × Value)) (d : decode cc pc = .ok (.iinc i n, 3)) (hj : lv[j]? = some (i, .int x)) (hv : x + Int32.ofInt n = v) (hn : i < nL) (hl : am_st i (.int v) lv = lv2) (k : am_R l y cc nL ret rm Ex cells slots (pc + 3) lv2 st h K) : am_R l y cc nL ret rm Ex cells slots pc lv st h K := fun p e s m args below meth c D tc ad A H locs ls Q n0 ad0 C Y Z => lv_iinc C.1 C.2.1 d Y.2.1 (k := j) (by simp [am_lm, hj]; rfl) hv hn (am_st_lm (v := .int v)) (fun ls hh => k p e s m args below meth c D tc ad A H locs ls Q n0 ad0 C ⟨Y.1, hl ▸ hh, Y.2.2⟩ Z)
theorem am_pick {ad : Nat → Nat} (ks : List Nat) : lv_pick (am_lm ad lv) ks = am_lm ad (lv_pick lv ks) := by
  induction ks with
  | nil => rfl
  | cons a t ih =>
    unfold lv_pick at ih ⊢
    simp only [List.filterMap_cons, am_lm, List.getElem?_map]
    cases lv[a]? with
    | none => simpa [am_lm] using ih
    | some q => simpa [am_lm] using ih
theorem r_lv (ks : List Nat) (lv2 : List (Nat × Value)) (hl : lv_pick lv ks = lv2) (k : am_R l y cc nL ret rm Ex cells slots pc lv2 st h K) : am_R l y cc nL ret rm Ex cells slots pc lv st h K := fun p e s m args below meth c D tc ad A H locs ls Q n0 ad0 C Y Z => k p e s m args below meth c D tc ad A H locs ls Q n0 ad0 C ⟨Y.1, lv_sub Y.2.1 ks (by rw [am_pick, hl]), Y.2.2⟩ Z
theorem r_wide {c2 s2 : Nat} (h1 : cells ≤ c2) (h2 : slots ≤ s2) (k : am_R l y cc nL ret rm Ex c2 s2 pc lv st h K) : am_R l y cc nL ret rm Ex cells slots pc lv st h K := fun p e s m args below meth c D tc ad A H locs ls Q n0 ad0 C Y Z => W.widen h1 h2 (k p e s m args below meth c D tc ad A H locs ls Q n0 ad0 C Y Z)
theorem r_post {K2 : Option Value → am_H → Prop} (hK : ∀ v h2, K v h2 → K2 v h2) (k : am_R l y cc nL ret rm Ex cells slots pc lv st h K) : am_R l y cc nL ret rm Ex cells slots pc lv st h K2 := fun p e s m args below meth c D tc ad A H locs ls Q n0 ad0 C Y Z => k p e s m args below meth c D tc ad A H locs ls Q n0 ad0 C Y (fun v h2 ad H locs pc ls q => Z v h2 ad H locs pc ls (hK v h2 q))
theorem r_ireturn {x : Int32} (d : decode cc pc = .ok (.ireturn, 1)) (hr : ret = some .int) (hc : cells ≤ rm.cells ∧ slots ≤ rm.slots) (hK : K (some (.int x)) h) : am_R l y cc nL ret rm Ex cells slots pc lv [.int x] h K := fun p e s m args below meth c D tc ad A H locs ls Q n0 ad0 C Y Z =>
  W.widen hc.1 hc.2 (Z (some (.int x)) h ad H locs pc ls hK Y.1 Y.2.2.2.2.2.2.1 Y.2.2.2.2.2.2.2.1 Y.2.2.2.2.2.2.2.2 Y.2.2.1 Y.2.2.2.1 Y.2.2.2.2.1 ⟨d, _, hr, rfl⟩)
theorem r_zreturn (b : Bool) (d : decode cc pc = .ok (.ireturn, 1)) (hr : ret = some .boolean) (hc : cells ≤ rm.cells ∧ slots ≤ rm.slots) (hK : K (some (.int (am_b b))) h) : am_R l y cc nL ret rm Ex cells slots pc lv [.int (am_b b)] h K := fun p e s m args below meth c D tc ad A H locs ls Q n0 ad0 C Y Z =>
  W.widen hc.1 hc.2 (Z (some (.int (am_b b))) h ad H locs pc ls hK Y.1 Y.2.2.2.2.2.2.1 Y.2.2.2.2.2.2.2.1 Y.2.2.2.2.2.2.2.2 Y.2.2.1 Y.2.2.2.1 Y.2.2.2.2.1 ⟨d, _, hr, by cases b <;> rfl⟩)
theorem r_lreturn {x : Int64} (d : decode cc pc = .ok (.lreturn, 1)) (hr : ret = some .long) (hc : cells ≤ rm.cells ∧ slots ≤ rm.slots) (hK : K (some (.long x)) h) : am_R l y cc nL ret rm Ex cells slots pc lv [.long x] h K := fun p e s m args below meth c D tc ad A H locs ls Q n0 ad0 C Y Z =>
  W.widen hc.1 hc.2 (Z (some (.long x)) h ad H locs pc ls hK Y.1 Y.2.2.2.2.2.2.1 Y.2.2.2.2.2.2.2.1 Y.2.2.2.2.2.2.2.2 Y.2.2.1 Y.2.2.2.1 Y.2.2.2.2.1 ⟨d, hr⟩)
theorem r_return (d : decode cc pc = .ok (.return_, 1)) (hr : ret = none) (hc : cells ≤ rm.cells ∧ slots ≤ rm.slots) (hK : K none h) : am_R l y cc nL ret rm Ex cells slots pc lv [] h K := fun p e s m args below meth c D tc ad A H locs ls Q n0 ad0 C Y Z =>
  W.widen hc.1 hc.2 (Z none h ad H locs pc ls hK Y.1 Y.2.2.2.2.2.2.1 Y.2.2.2.2.2.2.2.1 Y.2.2.2.2.2.2.2.2 Y.2.2.1 Y.2.2.2.1 Y.2.2.2.2.1 ⟨d, hr⟩)
end AMR
end
section
/-- a field's link: of the own class, or of a nest mate -/
def am_FL (own : String) (idx ci k : Nat) : Prop := ci < 8 ∧ k < am_nf ci ∧ (Cond.fieldLink own idx (am_ct ci k).1 (am_ct ci k).2.1 (am_ct ci k).2.2.1 ∈ am_T ∨ ∃ host, Cond.fieldLinkNest own idx (am_ct ci k).1 (am_ct ci k).2.1 (am_ct ci k).2.2.1 host ∈ lw_tbl)
theorem am_ce_o {tc : Nat → ClassId} {ad : Nat → Nat} {h : am_H} {k : Nat} {q : Nat × Nat} (hq : q.1 < 8) : am_ce tc ad h k q = .inr (q.1, (List.range (am_nf q.1)).map (fun j => am_fv ad h k (am_ty q.1 j) j)) := by simp [am_ce, hq]
theorem am_ce_i {tc : Nat → ClassId} {ad : Nat → Nat} {h : am_H} {k c n : Nat} (hc : 8 ≤ c) (hc2 : c ≠ 11) : am_ce tc ad h k (c, n) = .inl (tc c, n, .inl (h.2.1 k)) := by
  unfold am_ce
  rw [if_neg (by show ¬ c < 8; omega), if_neg (by show ¬ c = 11; exact hc2)]
theorem am_ce_q {tc : Nat → ClassId} {ad : Nat → Nat} {h : am_H} {k n : Nat} : am_ce tc ad h k (11, n) = .inl (tc 11, n, .inr (.inr (.inr (.inr (fun j => (h.2.2.2 k j).map ad))))) := rfl
theorem am_fs_at {ad : Nat → Nat} {h : am_H} {p c k : Nat} (hk : k < am_nf c) : ((List.range (am_nf c)).map (fun j => am_fv ad h p (am_ty c j) j))[k]? = some (am_fv ad h p (am_ty c k) k) := by
  simp [List.getElem?_map, List.getElem?_range hk]
theorem am_fs_set {ad : Nat → Nat} {h h' : am_H} {p c k : Nat} {v : Value} (hv : am_fv ad h' p (am_ty c k) k = v) (ho : ∀ j, j < am_nf c → j ≠ k → am_fv ad h' p (am_ty c j) j = am_fv ad h p (am_ty c j) j) :
    ((List.range (am_nf c)).map (fun j => am_fv ad h p (am_ty c j) j)).set k v = (List.range (am_nf c)).map (fun j => am_fv ad h' p (am_ty c j) j) := by
  apply List.ext_getElem?
  intro j
  by_cases hj : j < am_nf c
  · by_cases he : j = k
    · subst he
      rw [List.getElem?_set_self (by simpa using hj), am_fs_at hj, hv]
    · rw [List.getElem?_set_ne (Ne.symm he), am_fs_at hj, am_fs_at hj, ho j hj he]
  · rw [List.getElem?_eq_none (by simpa using hj), List.getElem?_eq_none (by simpa using hj)]
theorem am_ce_I {tc : Nat → ClassId} {ad : Nat → Nat} {h : am_H} {p i : Nat} {x : Int32} : ∀ k, k ≠ p → ∀ r, am_ce tc ad (am_I h p i x) k r = am_ce tc ad h k r := by
  intro k hk r
  simp only [am_ce, am_I, am_fv, am_u_ne hk]
theorem am_ce_L {tc : Nat → ClassId} {ad : Nat → Nat} {h : am_H} {p i : Nat} {x : Int64} : ∀ k, k ≠ p → ∀ r, am_ce tc ad (am_L h p i x) k r = am_ce tc ad h k r := by
  intro k hk r
  simp only [am_ce, am_L, am_fv, am_u_ne hk]
theorem am_ce_F {tc : Nat → ClassId} {ad : Nat → Nat} {h : am_H} {p i : Nat} {x : Option Nat} : ∀ k, k ≠ p → ∀ r, am_ce tc ad (am_F h p i x) k r = am_ce tc ad h k r := by
  intro k hk r
  simp only [am_ce, am_F, am_fv, am_u_ne hk]
theorem am_gi_of {h : am_H} {c p k : Nat} {x : Int32} (hv : am_gi h c p k = some x) : ∃ n, h.1[p]? = some (c, n) ∧ h.2.1 p k = x := by
  unfold am_gi at hv
  split at hv
  · rename_i q hq
    split at hv
    · rename_i hc
      exact ⟨q.2, by rw [hq, ← hc], Option.some.inj hv⟩
    · cases hv
  · cases hv
theorem am_gl_of {h : am_H} {c p k : Nat} {x : Int64} (hv : am_gl h c p k = some x) : ∃ n, h.1[p]? = some (c, n) ∧ h.2.2.1 p k = x := by
  unfold am_gl at hv
  split at hv
  · rename_i q hq
    split at hv
    · rename_i hc
      exact ⟨q.2, by rw [hq, ← hc], Option.some.inj hv⟩
    · cases hv
  · cases hv
theorem am_gr_of {h : am_H} {c p k x : Nat} (hv : am_gr h c p k = some x) : ∃ n, h.1[p]? = some (c, n) ∧ h.2.2.2 p k = some x := by
  unfold am_gr at hv
  split at hv
  · rename_i q hq
    split at hv
    · rename_i hc
      exact ⟨q.2, by rw [hq, ← hc], hv⟩
    · cases hv
  · cases hv
theorem am_pi_of {h h' : am_H} {c p k : Nat} {x : Int32} (hv : am_pi h c p k x = some h') : ∃ n, h.1[p]? = some (c, n) ∧ h' = am_I h p k x := by
  unfold am_pi at hv
  split at hv
  · rename_i q hq
    split at hv
    · rename_i hc
      exact ⟨q.2, by rw [hq, ← hc], (Option.some.inj hv).symm⟩
    · cases hv
  · cases hv
theorem am_pl_of {h h' : am_H} {c p k : Nat} {x : Int64} (hv : am_pl h c p k x = some h') : ∃ n, h.1[p]? = some (c, n) ∧ h' = am_L h p k x := by
  unfold am_pl at hv
  split at hv
  · rename_i q hq
    split at hv
    · rename_i hc
      exact ⟨q.2, by rw [hq, ← hc], (Option.some.inj hv).symm⟩
    · cases hv
  · cases hv
theorem am_pr_of {h h' : am_H} {c p k x : Nat} (hv : am_pr h c p k x = some h') : ∃ n, h.1[p]? = some (c, n) ∧ x < h.1.length ∧ h' = am_F h p k (some x) := by
  unfold am_pr at hv
  split at hv
  · rename_i q hq
    split at hv
    · rename_i hc
      exact ⟨q.2, by rw [hq, ← hc.1], hc.2, (Option.some.inj hv).symm⟩
    · cases hv
  · cases hv
theorem am_li_of {h : am_H} {c p : Nat} {i x : Int32} (hv : am_li h c p i = some x) : ∃ n, h.1[p]? = some (c, n) ∧ vp_in i n ∧ h.2.1 p i.toNatClampNeg = x := by
  unfold am_li at hv
  split at hv
  · rename_i q hq
    split at hv
    · rename_i hc
      exact ⟨q.2, by rw [hq, ← hc.1], vp_in_iff.mpr hc.2, Option.some.inj hv⟩
    · cases hv
  · cases hv
theorem am_lr_of {h : am_H} {p x : Nat} {i : Int32} (hv : am_lr h p i = some x) : ∃ n, h.1[p]? = some (11, n) ∧ vp_in i n ∧ h.2.2.2 p i.toNatClampNeg = some x := by
  unfold am_lr at hv
  split at hv
  · rename_i q hq
    split at hv
    · rename_i hc
      exact ⟨q.2, by rw [hq, ← hc.1], vp_in_iff.mpr hc.2, hv⟩
    · cases hv
  · cases hv
theorem am_si_of {h h' : am_H} {c p : Nat} {i x : Int32} (hv : am_si h c p i x = some h') : ∃ n, h.1[p]? = some (c, n) ∧ vp_in i n ∧ h' = am_I h p i.toNatClampNeg x := by
  unfold am_si at hv
  split at hv
  · rename_i q hq
    split at hv
    · rename_i hc
      exact ⟨q.2, by rw [hq, ← hc.1], vp_in_iff.mpr hc.2, (Option.some.inj hv).symm⟩
    · cases hv
  · cases hv
theorem am_sr_of {h h' : am_H} {p x : Nat} {i : Int32} (hv : am_sr h p i x = some h') : ∃ n n2, h.1[p]? = some (11, n) ∧ h.1[x]? = some (5, n2) ∧ vp_in i n ∧ h' = am_F h p i.toNatClampNeg (some x) := by
  unfold am_sr at hv
  split at hv
  · rename_i q z hq hz
    split at hv
    · rename_i hc
      exact ⟨q.2, z.2, by rw [hq, ← hc.1.1], by rw [hz, ← hc.1.2], vp_in_iff.mpr hc.2, (Option.some.inj hv).symm⟩
    · cases hv
  · cases hv
theorem am_plt {h : am_H} {p : Nat} {q : Nat × Nat} (hq : h.1[p]? = some q) : p < h.1.length := (List.getElem?_eq_some_iff.mp hq).1
theorem am_st_ok {nL : Nat} {rm : Room} {Ex : am_EX} {lv : List (Nat × Value)} {h h' : am_H} {D : va_G} {tc : Nat → ClassId} {ad : Nat → Nat} {A : Nat → Prop} {s : State} {H H1 : Heap} {locs locs1 : List Loc} {ls : Array Slot} {n0 : Nat} {ad0 : Nat → Nat}
    (Y : am_D nL rm Ex lv h D tc ad A s H locs ls n0 ad0) (hs : h'.1 = h.1) (ok : am_ok h') (hP : va_P D vwCl (am_w tc ad h') H1) (hD : va_D A (am_w tc ad h')) (hS : va_S A s.heap H1 locs1) : am_D nL rm Ex lv h' D tc ad A s H1 locs1 ls n0 ad0 :=
  ⟨ok, Y.2.1, hP, hD, hS, Y.2.2.2.2.2.1, by rw [hs]; exact Y.2.2.2.2.2.2.1, by rw [hs]; exact Y.2.2.2.2.2.2.2.1, Y.2.2.2.2.2.2.2.2⟩
section AMH
variable {l : Launch} {y : MethodName} {cc : ByteArray} {nL : Nat} {ret : Option FieldType} {rm : Room} {Ex : am_EX} {cells slots pc : Nat} {lv : List (Nat × Value)} {st : List Value} {h : am_H} {K : Option Value → am_H → Prop}
theorem am_get {ci p k n idx : Nat} {v : Value} (hs : h.1[p]? = some (ci, n)) (hv : ∀ ad, am_fv ad h p (am_ty ci k) k = am_cv ad v) (F : am_FL y.cls idx ci k) (d : decode cc pc = .ok (.getfield idx, 3)) (kk : am_R l y cc nL ret rm Ex cells slots (pc + 3) lv (v :: st) h K) : am_R l y cc nL ret rm Ex cells slots pc lv (.ref p :: st) h K := by
  intro pp e s m args below meth c D tc ad A H locs ls Q n0 ad0 C Y Z
  obtain ⟨h8, hk, hl⟩ := F
  have hw := am_w_at (tc := tc) (ad := ad) hs
  rw [am_ce_o (q := (ci, n)) h8] at hw
  have hf := (am_fs_at (ad := ad) (h := h) (p := p) (c := ci) hk).trans (congrArg some (hv ad))
  rcases hl with hl | ⟨host, hl⟩
  · exact va_get C.1 C.2.1 C.2.2.2.2.1 (am_uin ci h8) C.2.2.2.1 C.2.2.2.2.2.2.2.2.2.1 Y.2.2.1 p hw (am_cl ci h8) k hk (C.2.2.2.2.1 _ hl) (fun _ q => q) hf d (kk pp e s m args below meth c D tc ad A H locs ls Q n0 ad0 C Y Z)
  · exact va_getN C.1 C.2.1 C.2.2.2.2.1 (am_uin ci h8) C.2.2.2.1 C.2.2.2.2.2.2.2.2.2.1 Y.2.2.1 p hw (am_cl ci h8) k hk (va_Nw.use rfl (C.2.2.2.2.2.2.2.2.2.2.1 _ hl rfl)) (fun _ q => q) hf d (kk pp e s m args below meth c D tc ad A H locs ls Q n0 ad0 C Y Z)
theorem r_geti {ci p k idx : Nat} {x : Int32} (hv : am_gi h ci p k = some x) (F : am_FL y.cls idx ci k) (ht : am_ty ci k = .int) (d : decode cc pc = .ok (.getfield idx, 3)) (kk : am_R l y cc nL ret rm Ex cells slots (pc + 3) lv (.int x :: st) h K) : am_R l y cc nL ret rm Ex cells slots pc lv (.ref p :: st) h K := by
  obtain ⟨n, hs, rfl⟩ := am_gi_of hv
  exact am_get hs (fun ad => by rw [ht]; rfl) F d kk
theorem r_getl {ci p k idx : Nat} {x : Int64} (hv : am_gl h ci p k = some x) (F : am_FL y.cls idx ci k) (ht : am_ty ci k = .long) (d : decode cc pc = .ok (.getfield idx, 3)) (kk : am_R l y cc nL ret rm Ex cells slots (pc + 3) lv (.long x :: st) h K) : am_R l y cc nL ret rm Ex cells slots pc lv (.ref p :: st) h K := by
  obtain ⟨n, hs, rfl⟩ := am_gl_of hv
  exact am_get hs (fun ad => by rw [ht]; rfl) F d kk
def am_isr (t : FieldType) : Bool := match t with
  | .object _ => true
  | .array _ => true
  | _ => false
theorem r_getr {ci p k idx x : Nat} (hv : am_gr h ci p k = some x) (F : am_FL y.cls idx ci k) (ht : am_isr (am_ty ci k) = true) (d : decode cc pc = .ok (.getfield idx, 3)) (kk : am_R l y cc nL ret rm Ex cells slots (pc + 3) lv (.ref x :: st) h K) : am_R l y cc nL ret rm Ex cells slots pc lv (.ref p :: st) h K := by
  obtain ⟨n, hs, hx⟩ := am_gr_of hv
  refine am_get hs (fun ad => ?_) F d kk
  generalize am_ty ci k = t at ht
  cases t <;> first | (simp [am_isr] at ht; done) | (simp [am_fv, hx, va_rf, am_cv])
theorem am_put {h' : am_H} {ci p k n idx : Nat} {v : Value} (hs : h.1[p]? = some (ci, n)) (e1 : h'.1 = h.1) (ok : am_ok h → am_ok h') (hce : ∀ tc ad, ∀ j, j ≠ p → ∀ r, am_ce tc ad h' j r = am_ce tc ad h j r) (hv : ∀ ad, am_fv ad h' p (am_ty ci k) k = am_cv ad v) (ho : ∀ ad j, j ≠ k → am_fv ad h' p (am_ty ci j) j = am_fv ad h p (am_ty ci j) j)
    (hn : ∀ ad, narrow (am_ty ci k) (am_cv ad v) = am_cv ad v) (hf : ∀ ad, fits (am_ty ci k) (am_cv ad v) = true) (F : am_FL y.cls idx ci k) (hfin : (am_ct ci k).2.2.2 = false ∨ ((am_ct ci k).2.2.2 = true ∧ y.name = "<init>" ∧ (am_ct ci k).1 = y.cls ∧ Cond.fieldLink y.cls idx (am_ct ci k).1 (am_ct ci k).2.1 (am_ct ci k).2.2.1 ∈ am_T)) (d : decode cc pc = .ok (.putfield idx, 3)) (kk : am_R l y cc nL ret rm Ex cells slots (pc + 3) lv st h' K) : am_R l y cc nL ret rm Ex cells slots pc lv (v :: .ref p :: st) h K := by
  intro pp e s m args below meth c D tc ad A H locs ls Q n0 ad0 C Y Z
  obtain ⟨h8, hk, hl⟩ := F
  have hw := am_w_at (tc := tc) (ad := ad) hs
  rw [am_ce_o (q := (ci, n)) h8] at hw
  have hset := am_fs_set (ad := ad) (h := h) (h' := h') (p := p) (c := ci) (k := k) (hv ad) (fun j _ hj => ho ad j hj)
  have hws := am_w_set (tc := tc) (ad := ad) e1 hs (hce tc ad)
  rw [am_ce_o (q := (ci, n)) h8] at hws
  have hlen : k < ((List.range (am_nf ci)).map (fun j => am_fv ad h p (am_ty ci j) j)).length := by simpa using hk
  have go : ∀ (H1 : Heap) (locs1 : List Loc), va_P D vwCl ((am_w tc ad h).set p (ad p, .inr (ci, ((List.range (am_nf ci)).map (fun j => am_fv ad h p (am_ty ci j) j)).set k (am_cv ad v)))) H1 → va_D A ((am_w tc ad h).set p (ad p, .inr (ci, ((List.range (am_nf ci)).map (fun j => am_fv ad h p (am_ty ci j) j)).set k (am_cv ad v)))) → va_S A s.heap H1 locs1 → W pp l e rm s m args below meth c H1 locs1 cells slots Q (F0 m (pc + 3) ls (st.map (am_cv ad))) := by
    intro H1 locs1 q1 q2 q3
    rw [hset] at q1 q2
    rw [hws] at q1 q2
    exact kk pp e s m args below meth c D tc ad A H1 locs1 ls Q n0 ad0 C (am_st_ok Y e1 (ok Y.1) q1 q2 q3) Z
  rcases hfin with hfin | ⟨hfin, hin, hdc, hl2⟩
  · rcases hl with hl | ⟨host, hl⟩
    · exact va_put C.1 C.2.1 C.2.2.2.2.1 (am_uin ci h8) (am_ty ci) (am_tyk ci h8) (am_nmk ci h8) C.2.2.2.1 C.2.2.2.2.2.2.2.2.2.1 Y.2.2.1 Y.2.2.2.1 Y.2.2.2.2.1 p hw (am_cl ci h8) k hk (C.2.2.2.2.1 _ hl) (fun _ q => q) hfin (am_tyk ci h8 k hk) (hn ad) (hf ad) hlen d go
    · exact va_putN C.1 C.2.1 C.2.2.2.2.1 (am_uin ci h8) (am_ty ci) (am_tyk ci h8) (am_nmk ci h8) C.2.2.2.1 C.2.2.2.2.2.2.2.2.2.1 Y.2.2.1 Y.2.2.2.1 Y.2.2.2.2.1 p hw (am_cl ci h8) k hk (va_Nw.use rfl (C.2.2.2.2.2.2.2.2.2.2.1 _ hl rfl)) (fun _ q => q) hfin (am_tyk ci h8 k hk) (hn ad) (hf ad) hlen d go
  · exact va_putF C.1 C.2.1 C.2.2.2.2.1 (am_uin ci h8) (am_ty ci) (am_tyk ci h8) (am_nmk ci h8) C.2.2.2.1 C.2.2.2.2.2.2.2.2.2.1 Y.2.2.1 Y.2.2.2.1 Y.2.2.2.2.1 p hw (am_cl ci h8) k hk (C.2.2.2.2.1 _ hl2) (fun _ q => q) hfin (C.2.2.2.2.2.2.2.1.trans hin) hdc (am_tyk ci h8 k hk) (hn ad) (hf ad) hlen d go
theorem r_puti {h' : am_H} {ci p k idx : Nat} {x : Int32} (hv : am_pi h ci p k x = some h') (F : am_FL y.cls idx ci k) (ht : am_ty ci k = .int) (hfin : (am_ct ci k).2.2.2 = false) (d : decode cc pc = .ok (.putfield idx, 3)) (kk : am_R l y cc nL ret rm Ex cells slots (pc + 3) lv st h' K) : am_R l y cc nL ret rm Ex cells slots pc lv (.int x :: .ref p :: st) h K := by
  obtain ⟨n, hs, rfl⟩ := am_pi_of hv
  refine am_put (h' := am_I h p k x) hs rfl (fun ok => am_ok_I ok (am_plt hs)) (fun tc ad => am_ce_I) (fun ad => ?_) (fun ad j hj => ?_) (fun ad => by rw [ht]; rfl) (fun ad => by rw [ht]; rfl) F (Or.inl hfin) d kk
  · rw [ht]; show Value.int (am_u h.2.1 p k x p k) = _; rw [am_u_eq]; simp [am_cv]
  · show am_fv ad (am_I h p k x) p _ j = _
    simp only [am_fv, am_I, am_u_eq, hj, if_false]
theorem r_putl {h' : am_H} {ci p k idx : Nat} {x : Int64} (hv : am_pl h ci p k x = some h') (F : am_FL y.cls idx ci k) (ht : am_ty ci k = .long) (hfin : (am_ct ci k).2.2.2 = false) (d : decode cc pc = .ok (.putfield idx, 3)) (kk : am_R l y cc nL ret rm Ex cells slots (pc + 3) lv st h' K) : am_R l y cc nL ret rm Ex cells slots pc lv (.long x :: .ref p :: st) h K := by
  obtain ⟨n, hs, rfl⟩ := am_pl_of hv
  refine am_put (h' := am_L h p k x) hs rfl (fun ok => am_ok_L ok (am_plt hs)) (fun tc ad => am_ce_L) (fun ad => ?_) (fun ad j hj => ?_) (fun ad => by rw [ht]; rfl) (fun ad => by rw [ht]; rfl) F (Or.inl hfin) d kk
  · rw [ht]; show Value.long (am_u h.2.2.1 p k x p k) = _; rw [am_u_eq]; simp [am_cv]
  · show am_fv ad (am_L h p k x) p _ j = _
    simp only [am_fv, am_L, am_u_eq, hj, if_false]
theorem r_putr {h' : am_H} {ci p k idx x : Nat} (hv : am_pr h ci p k x = some h') (F : am_FL y.cls idx ci k) (ht : am_isr (am_ty ci k) = true) (hfin : (am_ct ci k).2.2.2 = true ∧ y.name = "<init>" ∧ (am_ct ci k).1 = y.cls ∧ Cond.fieldLink y.cls idx (am_ct ci k).1 (am_ct ci k).2.1 (am_ct ci k).2.2.1 ∈ am_T) (d : decode cc pc = .ok (.putfield idx, 3)) (kk : am_R l y cc nL ret rm Ex cells slots (pc + 3) lv st h' K) : am_R l y cc nL ret rm Ex cells slots pc lv (.ref x :: .ref p :: st) h K := by
  obtain ⟨n, hs, hx, rfl⟩ := am_pr_of hv
  refine am_put (h' := am_F h p k (some x)) hs rfl (fun ok => am_ok_F ok (am_plt hs) hx) (fun tc ad => am_ce_F) (fun ad => ?_) (fun ad j hj => ?_) (fun ad => ?_) (fun ad => ?_) F (Or.inr hfin) d kk
  · generalize am_ty ci k = t at ht
    cases t <;> first | (simp [am_isr] at ht; done) | (simp [am_fv, am_F, am_u_eq, va_rf, am_cv])
  · show am_fv ad (am_F h p k (some x)) p _ j = _
    simp only [am_fv, am_F, am_u_eq, hj, if_false]
  · generalize am_ty ci k = t at ht
    cases t <;> first | (simp [am_isr] at ht; done) | rfl
  · generalize am_ty ci k = t at ht
    cases t <;> first | (simp [am_isr] at ht; done) | rfl
theorem r_iald {p : Nat} {i x : Int32} (hv : am_li h 9 p i = some x) (d : decode cc pc = .ok (.iaload, 1)) (kk : am_R l y cc nL ret rm Ex cells slots (pc + 1) lv (.int x :: st) h K) : am_R l y cc nL ret rm Ex cells slots pc lv (.int i :: .ref p :: st) h K := by
  intro pp e s m args below meth c D tc ad A H locs ls Q n0 ad0 C Y Z
  obtain ⟨n, hs, hin, rfl⟩ := am_li_of hv
  have hw := am_w_at (tc := tc) (ad := ad) hs
  rw [am_ce_i (by decide) (by decide)] at hw
  exact va_iald C.1 C.2.1 C.2.2.2.2.2.2.2.2.2.1 Y.2.2.1 p 1 hw rfl hin d (kk pp e s m args below meth c D tc ad A H locs ls Q n0 ad0 C Y Z)
theorem r_cald {p : Nat} {i x : Int32} (hv : am_li h 8 p i = some x) (d : decode cc pc = .ok (.caload, 1)) (kk : am_R l y cc nL ret rm Ex cells slots (pc + 1) lv (.int x :: st) h K) : am_R l y cc nL ret rm Ex cells slots pc lv (.int i :: .ref p :: st) h K := by
  intro pp e s m args below meth c D tc ad A H locs ls Q n0 ad0 C Y Z
  obtain ⟨n, hs, hin, rfl⟩ := am_li_of hv
  have hw := am_w_at (tc := tc) (ad := ad) hs
  rw [am_ce_i (by decide) (by decide)] at hw
  exact va_cald C.1 C.2.1 C.2.2.2.2.2.2.2.2.2.1 Y.2.2.1 p 0 hw rfl hin d (kk pp e s m args below meth c D tc ad A H locs ls Q n0 ad0 C Y Z)
theorem r_zald {p : Nat} {i x : Int32} (hv : am_li h 10 p i = some x) (d : decode cc pc = .ok (.baload, 1)) (kk : am_R l y cc nL ret rm Ex cells slots (pc + 1) lv (.int x :: st) h K) : am_R l y cc nL ret rm Ex cells slots pc lv (.int i :: .ref p :: st) h K := by
  intro pp e s m args below meth c D tc ad A H locs ls Q n0 ad0 C Y Z
  obtain ⟨n, hs, hin, rfl⟩ := am_li_of hv
  have hw := am_w_at (tc := tc) (ad := ad) hs
  rw [am_ce_i (by decide) (by decide)] at hw
  exact va_zald C.1 C.2.1 C.2.2.2.2.2.2.2.2.2.1 Y.2.2.1 p 2 hw rfl hin d (kk pp e s m args below meth c D tc ad A H locs ls Q n0 ad0 C Y Z)
theorem r_iast {h' : am_H} {p : Nat} {i x : Int32} (hv : am_si h 9 p i (x) = some h') (d : decode cc pc = .ok (.iastore, 1)) (kk : am_R l y cc nL ret rm Ex cells slots (pc + 1) lv st h' K) : am_R l y cc nL ret rm Ex cells slots pc lv (.int x :: .int i :: .ref p :: st) h K := by
  intro pp e s m args below meth c D tc ad A H locs ls Q n0 ad0 C Y Z
  obtain ⟨n, hs, hin, rfl⟩ := am_si_of hv
  have hw := am_w_at (tc := tc) (ad := ad) hs
  rw [am_ce_i (by decide) (by decide)] at hw
  have hws := am_w_set (tc := tc) (ad := ad) (h := h) (h' := am_I h p i.toNatClampNeg (x)) rfl hs am_ce_I
  rw [am_ce_i (by decide) (by decide)] at hws
  have hu : (am_I h p i.toNatClampNeg (x)).2.1 p = upd (h.2.1 p) i.toNatClampNeg (x) := by
    show am_u h.2.1 p _ _ p = _
    rw [am_u_eq]
    rfl
  rw [hu] at hws
  refine va_iast C.1 C.2.1 C.2.2.2.2.2.2.2.2.2.1 Y.2.2.1 Y.2.2.2.1 Y.2.2.2.2.1 p 1 hw rfl hin d (fun H1 locs1 q1 q2 q3 => ?_)
  rw [hws] at q1 q2
  exact kk pp e s m args below meth c D tc ad A H1 locs1 ls Q n0 ad0 C (am_st_ok Y rfl (am_ok_I Y.1 (am_plt hs)) q1 q2 q3) Z
theorem r_cast {h' : am_H} {p : Nat} {i x : Int32} (hv : am_si h 8 p i (vp_nar .char x) = some h') (d : decode cc pc = .ok (.castore, 1)) (kk : am_R l y cc nL ret rm Ex cells slots (pc + 1) lv st h' K) : am_R l y cc nL ret rm Ex cells slots pc lv (.int x :: .int i :: .ref p :: st) h K := by
  intro pp e s m args below meth c D tc ad A H locs ls Q n0 ad0 C Y Z
  obtain ⟨n, hs, hin, rfl⟩ := am_si_of hv
  have hw := am_w_at (tc := tc) (ad := ad) hs
  rw [am_ce_i (by decide) (by decide)] at hw
  have hws := am_w_set (tc := tc) (ad := ad) (h := h) (h' := am_I h p i.toNatClampNeg (vp_nar .char x)) rfl hs am_ce_I
  rw [am_ce_i (by decide) (by decide)] at hws
  have hu : (am_I h p i.toNatClampNeg (vp_nar .char x)).2.1 p = upd (h.2.1 p) i.toNatClampNeg (vp_nar .char x) := by
    show am_u h.2.1 p _ _ p = _
    rw [am_u_eq]
    rfl
  rw [hu] at hws
  refine va_cast C.1 C.2.1 C.2.2.2.2.2.2.2.2.2.1 Y.2.2.1 Y.2.2.2.1 Y.2.2.2.2.1 p 0 hw rfl hin d (fun H1 locs1 q1 q2 q3 => ?_)
  rw [hws] at q1 q2
  exact kk pp e s m args below meth c D tc ad A H1 locs1 ls Q n0 ad0 C (am_st_ok Y rfl (am_ok_I Y.1 (am_plt hs)) q1 q2 q3) Z
theorem r_zast {h' : am_H} {p : Nat} {i x : Int32} (hv : am_si h 10 p i (vp_nar .boolean x) = some h') (d : decode cc pc = .ok (.bastore, 1)) (kk : am_R l y cc nL ret rm Ex cells slots (pc + 1) lv st h' K) : am_R l y cc nL ret rm Ex cells slots pc lv (.int x :: .int i :: .ref p :: st) h K := by
  intro pp e s m args below meth c D tc ad A H locs ls Q n0 ad0 C Y Z
  obtain ⟨n, hs, hin, rfl⟩ := am_si_of hv
  have hw := am_w_at (tc := tc) (ad := ad) hs
  rw [am_ce_i (by decide) (by decide)] at hw
  have hws := am_w_set (tc := tc) (ad := ad) (h := h) (h' := am_I h p i.toNatClampNeg (vp_nar .boolean x)) rfl hs am_ce_I
  rw [am_ce_i (by decide) (by decide)] at hws
  have hu : (am_I h p i.toNatClampNeg (vp_nar .boolean x)).2.1 p = upd (h.2.1 p) i.toNatClampNeg (vp_nar .boolean x) := by
    show am_u h.2.1 p _ _ p = _
    rw [am_u_eq]
    rfl
  rw [hu] at hws
  refine va_zast C.1 C.2.1 C.2.2.2.2.2.2.2.2.2.1 Y.2.2.1 Y.2.2.2.1 Y.2.2.2.2.1 p 2 hw rfl hin d (fun H1 locs1 q1 q2 q3 => ?_)
  rw [hws] at q1 q2
  exact kk pp e s m args below meth c D tc ad A H1 locs1 ls Q n0 ad0 C (am_st_ok Y rfl (am_ok_I Y.1 (am_plt hs)) q1 q2 q3) Z
theorem r_aald {p x : Nat} {i : Int32} (hv : am_lr h p i = some x) (d : decode cc pc = .ok (.aaload, 1)) (kk : am_R l y cc nL ret rm Ex cells slots (pc + 1) lv (.ref x :: st) h K) : am_R l y cc nL ret rm Ex cells slots pc lv (.int i :: .ref p :: st) h K := by
  intro pp e s m args below meth c D tc ad A H locs ls Q n0 ad0 C Y Z
  obtain ⟨n, hs, hin, hx⟩ := am_lr_of hv
  have hw := am_w_at (tc := tc) (ad := ad) hs
  rw [am_ce_q] at hw
  refine va_aldq C.1 C.2.1 C.2.2.2.2.2.2.2.2.2.1 Y.2.2.1 p 3 hw rfl hin d ?_
  rw [hx]
  exact kk pp e s m args below meth c D tc ad A H locs ls Q n0 ad0 C Y Z
theorem r_aast {h' : am_H} {p x : Nat} {i : Int32} (hv : am_sr h p i x = some h') (d : decode cc pc = .ok (.aastore, 1)) (kk : am_R l y cc nL ret rm Ex cells slots (pc + 1) lv st h' K) : am_R l y cc nL ret rm Ex cells slots pc lv (.ref x :: .int i :: .ref p :: st) h K := by
  intro pp e s m args below meth c D tc ad A H locs ls Q n0 ad0 C Y Z
  obtain ⟨n, n2, hs, hz, hin, rfl⟩ := am_sr_of hv
  have hw := am_w_at (tc := tc) (ad := ad) hs
  rw [am_ce_q] at hw
  have hw2 := am_w_at (tc := tc) (ad := ad) hz
  rw [am_ce_o (q := (5, n2)) (show 5 < 8 by decide)] at hw2
  have hws := am_w_set (tc := tc) (ad := ad) (h := h) (h' := am_F h p i.toNatClampNeg (some x)) rfl hs am_ce_F
  rw [am_ce_q] at hws
  have hu : (fun j => ((am_F h p i.toNatClampNeg (some x)).2.2.2 p j).map ad) = va_up (fun j => (h.2.2.2 p j).map ad) i.toNatClampNeg (some (ad x)) := by
    funext j
    show (am_u h.2.2.2 p _ _ p j).map ad = _
    rw [am_u_eq]
    by_cases hj : j = i.toNatClampNeg <;> simp [va_up, hj]
  rw [hu] at hws
  refine va_astq C.1 C.2.1 C.2.2.2.2.2.2.2.2.2.1 Y.2.2.1 Y.2.2.2.1 Y.2.2.2.2.1 p 3 x 5 (r := (RX5, TX5, 5)) hw rfl hw2 rfl hin d (fun H1 locs1 q1 q2 q3 => ?_)
  rw [hws] at q1 q2
  exact kk pp e s m args below meth c D tc ad A H1 locs1 ls Q n0 ad0 C (am_st_ok Y rfl (am_ok_F Y.1 (am_plt hs) (am_plt hz)) q1 q2 q3) Z
end AMH
end
section
def am_Pc (D : va_G) (tc : Nat → ClassId) (ad : Nat → Nat) (h : am_H) (av : List Value) (sz : Nat) : Array Value → State → Prop := va_Pc (av.map (am_cv ad)) (fun U => U.heap.size = sz ∧ va_P D vwCl (am_w tc ad h) U.heap ∧ am_G D tc U ∧ va_D (fun _ => True) (am_w tc ad h))
def am_Q (D : va_G) (tc : Nat → ClassId) (ad : Nat → Nat) (h : am_H) (rm : Room) (sz : Nat) (r : Option Value) (h' : am_H) : Array Value → State → Outcome → State → Prop := fun _ st oc t =>
  (am_ok h' ∧ h.1.length ≤ h'.1.length ∧ ∃ ad' : Nat → Nat, (∀ k, k < h.1.length ∨ h'.1.length ≤ k → ad' k = ad k) ∧ (rm.cells = 0 → ad' = ad) ∧ oc = .returned (r.map (am_cv ad')) ∧ va_P D vwCl (am_w tc ad' h') t.heap ∧ va_D (va_A (am_w tc ad h) sz) (am_w tc ad' h')) ∧ va_F (va_A (am_w tc ad h) sz) st t
/-- a method's contract: from heap h with these arguments it answers r and leaves h' -/
def am_Ct (l : Launch) (y : MethodName) (cc : ByteArray) (nL : Nat) (ret : Option FieldType) (rm : Room) (av : List Value) (h : am_H) (r : Option Value) (h' : am_H) : Prop :=
  am_ok h → ∀ (D : va_G) (tc : Nat → ClassId) (ad : Nat → Nat) (sz : Nat), Met l y (Cond.code y cc nL ret :: am_T) rm (am_Pc D tc ad h av sz) (am_Q D tc ad h rm sz r h') rm.cells rm.slots (va_A (am_w tc ad h) sz)
theorem am_args (ad : Nat → Nat) : ∀ (av : List Value) (i : Nat), lv_args i (av.map (am_cv ad)) = am_lm ad (lv_args i av)
  | [], _ => rfl
  | v :: vs, i => by
    simp only [List.map_cons, lv_args, am_cat, am_args ad vs]
    rfl
theorem am_sl (ad : Nat → Nat) (av : List Value) : (lg_sl (av.map (am_cv ad))).length = (lg_sl av).length := by
  induction av with
  | nil => rfl
  | cons v t ih =>
    simp only [lg_sl, List.map_cons, List.flatMap_cons, List.length_append] at ih ⊢
    rw [ih, am_cat]
    split <;> simp
theorem am_met {l : Launch} {y : MethodName} {cc : ByteArray} {nL : Nat} {ret : Option FieldType} {rm : Room} {av : List Value} {h : am_H} {r : Option Value} {h' : am_H} (hy : plainName y.cls = true) (hlen : (lg_sl av).length ≤ nL)
    (hR : am_R l y cc nL ret rm (fun _ _ _ => True) 0 0 0 (lv_args 0 av) [] h (fun v h2 => v = r ∧ h2 = h')) : am_Ct l y cc nL ret rm av h r h' := by
  intro ok D tc ad sz
  refine Met.ofW (cc := cc) (maxL := nL) (ret := ret) hy rfl ?_
  intro p e s m args below meth c s₁ B hml hv
  obtain ⟨rfl, hsz, hP, hG, hD0⟩ := hv
  have hts := atoms_spec (ws := Cond.code y cc nL ret :: am_T) B.pre
  subst hsz
  have hD := hD0.self (sz := s.heap.size)
  have C : am_C y cc nL ret p s m (av.map (am_cv ad)).toArray meth c D tc (va_A (am_w tc ad h) s.heap.size) := ⟨B.exec, B.bytes, hml, findClass_of_methodNamed B.named, fun w hw => hts w (List.mem_cons_of_mem _ hw), B.returns, B.notSynchronized, (name_of_methodNamed B.named B.method).1, fun q hq => Or.inr hq, hG⟩
  have hl := lv_entry (av.map (am_cv ad)) (n := nL) (by rw [am_sl]; exact hlen)
  rw [am_args] at hl
  rw [lg_entry_eq]
  refine hR p e s m _ below meth c D tc ad _ s.heap [] _ _ h.1.length ad C ⟨ok, hl, hP, hD, va_S.rf, trivial, Nat.le_refl _, fun _ _ => rfl, fun _ => rfl⟩ ?_
  intro v h2 ad2 H locs pc ls hK ok2 hn he hc hP2 hD2 hS2 hrt
  obtain ⟨rfl, rfl⟩ := hK
  have hq : ∀ t : State, t.heap = H → am_Q D tc ad h rm s.heap.size v h2 (av.map (am_cv ad)).toArray s (.returned (v.map (am_cv ad2))) t := fun t ht => ⟨⟨ok2, hn, ad2, he, hc, rfl, by rw [ht]; exact hP2, hD2⟩, hS2.F ht⟩
  cases v with
  | none => exact W.vret C.1 C.2.1 (C.2.2.2.2.2.1.trans hrt.2) (fun t ht _ => hq t ht) hS2.2.2 hrt.1 C.2.2.2.2.2.2.1
  | some v =>
    cases v with
    | int x =>
      obtain ⟨hd, ty, hr, hnr⟩ := hrt
      exact W.zret C.1 C.2.1 (C.2.2.2.2.2.1.trans hr) hnr (fun t ht _ => hq t ht) hS2.2.2 hd C.2.2.2.2.2.2.1
    | long x => exact W.lret C.1 C.2.1 (C.2.2.2.2.2.1.trans hrt.2) (fun t ht _ => hq t ht) hS2.2.2 hrt.1 C.2.2.2.2.2.2.1
    | _ => exact hrt.elim
def am_rl (n n' : Nat) (v : Value) : Bool := match v with
  | .ref k => decide (k < n) || decide (n' ≤ k)
  | _ => true
theorem am_rl_eq {n n' : Nat} {v : Value} {ad ad' : Nat → Nat} (h : am_rl n n' v = true) (he : ∀ k, k < n ∨ n' ≤ k → ad' k = ad k) : am_cv ad' v = am_cv ad v := by
  cases v with
  | ref k =>
    simp only [am_rl, Bool.or_eq_true, decide_eq_true_eq] at h
    simp only [am_cv, he k h]
  | _ => rfl
theorem am_rl_st {n n' : Nat} {st : List Value} {ad ad' : Nat → Nat} (h : st.all (am_rl n n') = true) (he : ∀ k, k < n ∨ n' ≤ k → ad' k = ad k) : st.map (am_cv ad') = st.map (am_cv ad) := by
  apply List.map_congr_left
  intro v hv
  exact am_rl_eq (List.all_eq_true.mp h v hv) he
theorem am_rl_lv {n n' : Nat} {lv : List (Nat × Value)} {ad ad' : Nat → Nat} (h : lv.all (fun q => am_rl n n' q.2) = true) (he : ∀ k, k < n ∨ n' ≤ k → ad' k = ad k) : am_lm ad' lv = am_lm ad lv := by
  apply List.map_congr_left
  intro q hq
  rw [am_rl_eq (List.all_eq_true.mp h q hq) he]
/-- what the extra words must bear when cells come -/
def am_Mv (Ex : am_EX) (n n' : Nat) : Prop := ∀ (ad ad' : Nat → Nat) (s : State) (A : Nat → Prop), (∀ k, k < n ∨ n' ≤ k → ad' k = ad k) → Ex ad s A → Ex ad' s A
theorem am_Mv_T {n n' : Nat} : am_Mv (fun _ _ _ => True) n n' := fun _ _ _ _ _ _ => trivial
/-- no cell comes, or all that is at hand lies below -/
def am_Al (Ex : am_EX) (rm rm' : Room) (n n' : Nat) (lv : List (Nat × Value)) (st : List Value) : Prop := rm'.cells = 0 ∨ (rm.cells ≠ 0 ∧ lv.all (fun q => am_rl n n' q.2) = true ∧ st.all (am_rl n n') = true ∧ am_Mv Ex n n')
def am_MF (y : MethodName) (cc : ByteArray) (nL : Nat) (ret : Option FieldType) (n : Nat) : Prop := Cond.code y cc nL ret ∈ am_T ∧ Cond.initialized y.cls ∈ am_T ∧ (y.cls ≠ "java/lang/invoke/MethodHandle" ∧ y.cls ≠ "java/lang/invoke/VarHandle" ∧ (parseMethodDescriptor y.desc).map (fun d => d.parameters.length) = some n)
def am_ML (own : String) (idx : Nat) (y : MethodName) : Prop := Cond.methodLink own idx y ∈ am_T ∨ ∃ host, Cond.methodLinkNest own idx y host ∈ lw_tbl
theorem am_gd {y : MethodName} {cc : ByteArray} {nL : Nat} {ret : Option FieldType} (hc : Cond.code y cc nL ret ∈ am_T) : GoodIn am_T (Cond.code y cc nL ret :: am_T) := by
  intro w hw
  rcases List.mem_cons.mp hw with rfl | hw
  · exact ⟨hc, good_of_word (List.mem_filter.mp hc).2⟩
  · exact ⟨hw, good_of_word (List.mem_filter.mp hw).2⟩
theorem am_blind {D : va_G} {tc : Nat → ClassId} {ad : Nat → Nat} {h : am_H} {av : List Value} {sz : Nat} : FrameBlind (am_Pc D tc ad h av sz) := by
  intro a U g mk q
  obtain ⟨q0, q1, qP, qG, qD⟩ := q
  exact ⟨q0, q1, qP, qG.blind rfl, qD⟩
theorem am_sum (ad : Nat → Nat) (st : List Value) : ((st.map (am_cv ad)).map fun v => v.category).sum = (st.map fun v => v.category).sum := by
  rw [List.map_map]
  congr 2
  funext v
  exact am_cat ad v
section AMC
variable {l : Launch} {y : MethodName} {cc : ByteArray} {nL : Nat} {ret : Option FieldType} {rm : Room} {Ex : am_EX} {cells slots pc : Nat} {lv : List (Nat × Value)} {st : List Value} {h : am_H} {K : Option Value → am_H → Prop}
theorem am_back {rm' : Room} {h' : am_H} {r : Option Value} {st0 : List Value} {pp : Program} {e : Env} {s : State} {m : MethodId} {args : Array Value} {below : List Frame} {meth : Method} {c : Code} {D : va_G} {tc : Nat → ClassId} {ad : Nat → Nat} {A : Nat → Prop} {H : Heap} {locs : List Loc} {ls : Array Slot} {Q : State → Prop} {n0 : Nat} {ad0 : Nat → Nat} {a : Array Value}
    (run : va_Run pp l e rm s m args below meth c H locs cells slots rm'.cells rm'.slots (F0 m pc ls st0) (st.map (am_cv ad)) (am_Q D tc ad h rm' H.size r h' a) (va_A (am_w tc ad h) H.size))
    (C : am_C y cc nL ret pp s m args meth c D tc A) (Y : am_D nL rm Ex lv h D tc ad A s H locs ls n0 ad0) (Z : am_K l cc ret rm pp e s m args below meth c D tc A Q n0 ad0 K)
    (hA : am_Al Ex rm rm' h.1.length h'.1.length lv st) (kk : am_R l y cc nL ret rm Ex (cells + rm'.cells) (slots + rm'.slots) (pc + 3) lv (r.toList ++ st) h' K) : W pp l e rm s m args below meth c H locs cells slots Q (F0 m pc ls st0) := by
  intro T hT X
  obtain ⟨v, st₀, t, T', L, h0, X', hL, e1, e2, ⟨⟨ok', hln, ad', ha1, ha2, hv, hP', hD'⟩, hz, hk⟩, stp⟩ := run T hT X
  cases hv
  rw [h0] at hz hk
  have hf : ∀ q, va_A (am_w tc ad h) H.size q → A q := by
    intro q hq
    rcases hq with ⟨k, x, hx⟩ | hq
    · exact Y.2.2.2.1.2 k _ hx
    · exact C.2.2.2.2.2.2.2.2.1 q (Nat.le_trans Y.2.2.2.2.1.1 hq)
  have hS' : va_S A s.heap T'.heap (locs ++ L) := ⟨Nat.le_trans Y.2.2.2.2.1.1 (by rw [e1]; exact hz), fun q h1 h2 => by rw [e1, hk q (Nat.lt_of_lt_of_le h1 Y.2.2.2.2.1.1) (fun z => h2 (hf q z))]; exact Y.2.2.2.2.1.2.1 q h1 h2, fun q hq => by
      rcases List.mem_append.mp hq with h | h
      · exact Y.2.2.2.2.1.2.2 q h
      · exact hf _ (hL q h)⟩
  have key : am_lm ad' lv = am_lm ad lv ∧ st.map (am_cv ad') = st.map (am_cv ad) ∧ Ex ad' s A ∧ (rm.cells = 0 → ad' = ad0) := by
    rcases hA with hA | ⟨a1, a2, a3, a4⟩
    · have := ha2 hA
      subst this
      exact ⟨rfl, rfl, Y.2.2.2.2.2.1, Y.2.2.2.2.2.2.2.2⟩
    · exact ⟨am_rl_lv a2 ha1, am_rl_st a3 ha1, a4 ad ad' s A ha1 Y.2.2.2.2.2.1, fun z => absurd z a1⟩
  obtain ⟨k1, k2, k3, k4⟩ := key
  have kW := kk pp e s m args below meth c D tc ad' A T'.heap (locs ++ L) ls Q n0 ad0 C ⟨ok', by rw [k1]; exact Y.2.1, by rw [e1]; exact hP', hD'.weaken (fun _ q _ hq => hf q.1 hq), hS', k3, Nat.le_trans Y.2.2.2.2.2.2.1 hln, fun k hk2 => by
      rw [ha1 k (hk2.imp (fun q => Nat.lt_of_lt_of_le q Y.2.2.2.2.2.2.1) id)]
      exact Y.2.2.2.2.2.2.2.1 k (hk2.imp id (fun q => Nat.le_trans hln q)), k4⟩ Z
  rw [List.map_append, k2, show r.toList.map (am_cv ad') = (r.map (am_cv ad')).toList by cases r <;> rfl] at kW
  obtain ⟨t2, b1, b2⟩ := kW T' rfl X'
  exact ⟨t2, stp t2 b1, b2⟩
theorem r_callV {y' : MethodName} {cc' : ByteArray} {nL' : Nat} {ret' : Option FieldType} {rm' : Room} {h' : am_H} {r : Option Value} {st0 : List Value} {p0 idx ci n : Nat} (As : List Value) (ct : am_Ct l y' cc' nL' ret' rm' (.ref p0 :: As) h r h') (M : am_MF y' cc' nL' ret' As.length) (ML : am_ML y.cls idx y') (hi : Cond.instanceMethod y' ∈ am_T) (hse : Cond.selects y'.cls y' y' ∈ am_T)
    (hci : ci < 8 ∧ am_cn ci = y'.cls) (hp0 : h.1[p0]? = some (ci, n)) (hr : (rm'.frames + 1 ≤ rm.frames ∧ 8 + (nL' + 11) + rm'.locals ≤ rm.locals) ∧ cells + rm'.cells ≤ rm.cells ∧ slots + rm'.slots ≤ rm.slots) (hst : st0 = As.reverse ++ .ref p0 :: st) (hcat : (st.map fun v => v.category).sum ≤ 8) (d : decode cc pc = .ok (.invokevirtual idx, 3)) (hA : am_Al Ex rm rm' h.1.length h'.1.length lv st)
    (kk : am_R l y cc nL ret rm Ex (cells + rm'.cells) (slots + rm'.slots) (pc + 3) lv (r.toList ++ st) h' K) : am_R l y cc nL ret rm Ex cells slots pc lv st0 h K := by
  intro pp e s m args below meth c D tc ad A H locs ls Q n0 ad0 C Y Z
  have hw := am_w_at (tc := tc) (ad := ad) hp0
  rw [am_ce_o (q := (ci, n)) hci.1] at hw
  have hrec := va_recv C.2.2.2.2.2.2.2.2.2.1 Y.2.2.1 (am_cl ci hci.1) hw
  dsimp only at hrec
  rw [hci.2] at hrec
  have hp : PreV s H y'.cls (ad p0) (am_Pc D tc ad h (.ref p0 :: As) H.size) (As.map (am_cv ad)) := ⟨am_blind, hrec, fun U hU hW => ⟨rfl, by rw [hU], by rw [hU]; exact Y.2.2.1, C.2.2.2.2.2.2.2.2.2.warm hW, Y.2.2.2.1.weaken (fun _ _ _ _ => trivial)⟩⟩
  have hs2 : (F0 m pc ls (st0.map (am_cv ad))).stack = (As.map (am_cv ad)).reverse ++ .ref (ad p0) :: st.map (am_cv ad) := by
    rw [hst]; simp [am_cv]
  rcases ML with hl | ⟨host, hl⟩
  · exact am_back (va_runV (n := As.length) (As := As.map (am_cv ad)) (rest := st.map (am_cv ad)) ⟨C.1, C.2.1, C.2.2.1, C.2.2.2.1, C.2.2.2.2.1⟩ (ct Y.1 D tc ad H.size) ⟨callB_of As.length C.2.2.2.2.1 (am_gd M.1) rfl rfl rfl (C.2.2.2.2.1 _ M.2.1) (C.2.2.2.2.1 _ hl) M.2.2 hr.1, C.2.2.2.2.1 _ hi, C.2.2.2.2.1 _ hse⟩ hp rfl (by simp) Y.2.1.1 hs2 (lv_room (by rw [am_sum]; exact hcat)) d hr.2) C Y Z hA kk
  · exact am_back (va_runVN (n := As.length) (As := As.map (am_cv ad)) (rest := st.map (am_cv ad)) ⟨C.1, C.2.1, C.2.2.1, C.2.2.2.1, C.2.2.2.2.1⟩ (ct Y.1 D tc ad H.size) ⟨va_cnB As.length C.2.2.2.2.1 (am_gd M.1) rfl rfl rfl (C.2.2.2.2.2.2.2.2.2.2.1 _ hl rfl) (C.2.2.2.2.1 _ M.2.1) M.2.2 hr.1, C.2.2.2.2.1 _ hi, C.2.2.2.2.1 _ hse⟩ hp rfl (by simp) Y.2.1.1 hs2 (lv_room (by rw [am_sum]; exact hcat)) d hr.2) C Y Z hA kk
theorem r_callS {y' : MethodName} {cc' : ByteArray} {nL' : Nat} {ret' : Option FieldType} {rm' : Room} {h' : am_H} {r : Option Value} {st0 : List Value} {idx : Nat} (As : List Value) (ct : am_Ct l y' cc' nL' ret' rm' As h r h') (M : am_MF y' cc' nL' ret' As.length) (ML : am_ML y.cls idx y') (hi : Cond.static y' ∈ am_T)
    (hr : (rm'.frames + 1 ≤ rm.frames ∧ 8 + (nL' + 11) + rm'.locals ≤ rm.locals) ∧ cells + rm'.cells ≤ rm.cells ∧ slots + rm'.slots ≤ rm.slots) (hst : st0 = As.reverse ++ st) (hcat : (st.map fun v => v.category).sum ≤ 8) (d : decode cc pc = .ok (.invokestatic idx, 3)) (hA : am_Al Ex rm rm' h.1.length h'.1.length lv st)
    (kk : am_R l y cc nL ret rm Ex (cells + rm'.cells) (slots + rm'.slots) (pc + 3) lv (r.toList ++ st) h' K) : am_R l y cc nL ret rm Ex cells slots pc lv st0 h K := by
  intro pp e s m args below meth c D tc ad A H locs ls Q n0 ad0 C Y Z
  have hp : PreS s H (am_Pc D tc ad h As H.size) (As.map (am_cv ad)) := ⟨am_blind, fun U hU hW => ⟨rfl, by rw [hU], by rw [hU]; exact Y.2.2.1, C.2.2.2.2.2.2.2.2.2.warm hW, Y.2.2.2.1.weaken (fun _ _ _ _ => trivial)⟩⟩
  have hs2 : (F0 m pc ls (st0.map (am_cv ad))).stack = (As.map (am_cv ad)).reverse ++ st.map (am_cv ad) := by
    rw [hst]; simp
  rcases ML with hl | ⟨host, hl⟩
  · exact am_back (va_runS (n := As.length) (As := As.map (am_cv ad)) (rest := st.map (am_cv ad)) ⟨C.1, C.2.1, C.2.2.1, C.2.2.2.1, C.2.2.2.2.1⟩ (ct Y.1 D tc ad H.size) ⟨callB_of As.length C.2.2.2.2.1 (am_gd M.1) rfl rfl rfl (C.2.2.2.2.1 _ M.2.1) (C.2.2.2.2.1 _ hl) M.2.2 hr.1, C.2.2.2.2.1 _ hi⟩ hp rfl (by simp) Y.2.1.1 hs2 (lv_room (by rw [am_sum]; exact hcat)) d hr.2) C Y Z hA kk
  · exact am_back (va_runSN (n := As.length) (As := As.map (am_cv ad)) (rest := st.map (am_cv ad)) ⟨C.1, C.2.1, C.2.2.1, C.2.2.2.1, C.2.2.2.2.1⟩ (ct Y.1 D tc ad H.size) ⟨va_cnB As.length C.2.2.2.2.1 (am_gd M.1) rfl rfl rfl (C.2.2.2.2.2.2.2.2.2.2.1 _ hl rfl) (C.2.2.2.2.1 _ M.2.1) M.2.2 hr.1, C.2.2.2.2.1 _ hi, trivial⟩ hp rfl (by simp) Y.2.1.1 hs2 (lv_room (by rw [am_sum]; exact hcat)) d hr.2) C Y Z hA kk
theorem r_callI {y' : MethodName} {cc' : ByteArray} {nL' : Nat} {rm' : Room} {h' : am_H} {st0 : List Value} {p0 idx : Nat} (As : List Value) (ct : am_Ct l y' cc' nL' none rm' (.ref p0 :: As) h none h') (M : am_MF y' cc' nL' none As.length) (ML : am_ML y.cls idx y') (hi : Cond.instanceMethod y' ∈ am_T) (hn : y'.name = "<init>")
    (hr : (rm'.frames + 1 ≤ rm.frames ∧ 8 + (nL' + 11) + rm'.locals ≤ rm.locals) ∧ cells + rm'.cells ≤ rm.cells ∧ slots + rm'.slots ≤ rm.slots) (hst : st0 = As.reverse ++ .ref p0 :: st) (hcat : (st.map fun v => v.category).sum ≤ 8) (d : decode cc pc = .ok (.invokespecial idx, 3)) (hA : am_Al Ex rm rm' h.1.length h'.1.length lv st)
    (kk : am_R l y cc nL ret rm Ex (cells + rm'.cells) (slots + rm'.slots) (pc + 3) lv st h' K) : am_R l y cc nL ret rm Ex cells slots pc lv st0 h K := by
  intro pp e s m args below meth c D tc ad A H locs ls Q n0 ad0 C Y Z
  have hp : PreS s H (am_Pc D tc ad h (.ref p0 :: As) H.size) (.ref (ad p0) :: As.map (am_cv ad)) := ⟨am_blind, fun U hU hW => ⟨rfl, by rw [hU], by rw [hU]; exact Y.2.2.1, C.2.2.2.2.2.2.2.2.2.warm hW, Y.2.2.2.1.weaken (fun _ _ _ _ => trivial)⟩⟩
  have hs2 : (F0 m pc ls (st0.map (am_cv ad))).stack = (As.map (am_cv ad)).reverse ++ .ref (ad p0) :: st.map (am_cv ad) := by
    rw [hst]; simp [am_cv]
  rcases ML with hl | ⟨host, hl⟩
  · exact am_back (r := none) (va_runI (n := As.length) (As := As.map (am_cv ad)) (rest := st.map (am_cv ad)) ⟨C.1, C.2.1, C.2.2.1, C.2.2.2.1, C.2.2.2.2.1⟩ (ct Y.1 D tc ad H.size) ⟨callB_of As.length C.2.2.2.2.1 (am_gd M.1) rfl rfl rfl (C.2.2.2.2.1 _ M.2.1) (C.2.2.2.2.1 _ hl) M.2.2 hr.1, hn, C.2.2.2.2.1 _ hi⟩ hp rfl (by simp) Y.2.1.1 hs2 (lv_room (by rw [am_sum]; exact hcat)) d hr.2) C Y Z hA kk
  · exact am_back (r := none) (va_runIN (n := As.length) (As := As.map (am_cv ad)) (rest := st.map (am_cv ad)) ⟨C.1, C.2.1, C.2.2.1, C.2.2.2.1, C.2.2.2.2.1⟩ (ct Y.1 D tc ad H.size) ⟨va_cnB As.length C.2.2.2.2.1 (am_gd M.1) rfl rfl rfl (C.2.2.2.2.2.2.2.2.2.2.1 _ hl rfl) (C.2.2.2.2.1 _ M.2.1) M.2.2 hr.1, hn, C.2.2.2.2.1 _ hi⟩ hp rfl (by simp) Y.2.1.1 hs2 (lv_room (by rw [am_sum]; exact hcat)) d hr.2) C Y Z hA kk
theorem r_obj {p0 idx : Nat} (hl : Cond.methodLink y.cls idx Lib.objectInit ∈ am_T) (hi : Cond.instanceMethod Lib.objectInit ∈ am_T) (hc : Cond.code Lib.objectInit ⟨#[0xb1]⟩ 1 none ∈ am_T) (hr : 1 ≤ rm.frames ∧ (st.map fun v => v.category).sum + 12 ≤ rm.locals) (d : decode cc pc = .ok (.invokespecial idx, 3)) (kk : am_R l y cc nL ret rm Ex cells slots (pc + 3) lv st h K) : am_R l y cc nL ret rm Ex cells slots pc lv (.ref p0 :: st) h K := by
  intro pp e s m args below meth c D tc ad A H locs ls Q n0 ad0 C Y Z
  have hm : 2 * (F0 m pc ls ((Value.ref p0 :: st).map (am_cv ad))).monitorRoom + ((st.map (am_cv ad)).map fun v => v.category).sum + 12 ≤ rm.locals := by
    rw [am_sum]
    have : (F0 m pc ls ((Value.ref p0 :: st).map (am_cv ad))).monitorRoom = 0 := rfl
    omega
  exact W.objInit C.1 C.2.1 C.2.2.2.1 (C.2.2.2.2.1 _ hl) (C.2.2.2.2.1 _ hi) (C.2.2.2.2.1 _ hc) rfl (Y.2.1.1.trans C.2.2.1.symm) rfl d hr.1 hm (kk pp e s m args below meth c D tc ad A H locs ls Q n0 ad0 C Y Z)
end AMC
end
section
def am_ext (ad : Nat → Nat) (n a : Nat) : Nat → Nat := fun k => if k = n then a else ad k
theorem am_ext_eq {ad : Nat → Nat} {n a : Nat} : ∀ k, k < n ∨ n + 1 ≤ k → am_ext ad n a k = ad k := by
  intro k hk
  unfold am_ext
  rw [if_neg (by omega)]
theorem am_ext_at {ad : Nat → Nat} {n a : Nat} : am_ext ad n a n = a := by simp [am_ext]
theorem am_map_ext {h : am_H} (ok : am_ok h) (ad : Nat → Nat) (a k j : Nat) : (h.2.2.2 k j).map (am_ext ad h.1.length a) = (h.2.2.2 k j).map ad := by
  cases hq : h.2.2.2 k j with
  | none => rfl
  | some q =>
    have := (ok k j).2 q hq
    simp [am_ext_eq q (Or.inl this)]
theorem am_ce_ext {tc : Nat → ClassId} {ad : Nat → Nat} {h : am_H} {k a : Nat} {r z : Nat × Nat} (ok : am_ok h) : am_ce tc (am_ext ad h.1.length a) (am_nw h z) k r = am_ce tc ad h k r := by
  have hf : ∀ t j, am_fv (am_ext ad h.1.length a) (am_nw h z) k t j = am_fv ad h k t j := by
    intro t j
    have e := am_map_ext ok ad a k j
    cases t <;> first | rfl | (show va_rf ((h.2.2.2 k j).map (am_ext ad h.1.length a)) = va_rf ((h.2.2.2 k j).map ad); rw [e])
  have hq : (fun j => ((am_nw h z).2.2.2 k j).map (am_ext ad h.1.length a)) = fun j => (h.2.2.2 k j).map ad := by
    funext j
    exact am_map_ext ok ad a k j
  unfold am_ce
  simp only [hf, hq]
  rfl
theorem am_w_nw {tc : Nat → ClassId} {ad : Nat → Nat} {h : am_H} {a : Nat} {z : Nat × Nat} (ok : am_ok h) : am_w tc (am_ext ad h.1.length a) (am_nw h z) = am_w tc ad h ++ [(a, am_ce tc ad h h.1.length z)] := by
  apply List.ext_getElem?
  intro k
  by_cases hk : k < h.1.length
  · rw [List.getElem?_append_left (by rw [am_w_len]; exact hk)]
    have hz : h.1[k]? = some h.1[k] := List.getElem?_eq_getElem hk
    rw [am_w_at hz, am_w_at (h := am_nw h z) (q := h.1[k]) (by show (h.1 ++ [z])[k]? = _; rw [List.getElem?_append_left hk]; exact hz), am_ce_ext ok, am_ext_eq k (Or.inl hk)]
  · by_cases he : k = h.1.length
    · subst he
      rw [am_w_at (h := am_nw h z) (q := z) (by show (h.1 ++ [z])[h.1.length]? = _; simp), am_ce_ext ok, am_ext_at]
      rw [List.getElem?_append_right (by rw [am_w_len]; exact Nat.le_refl _), am_w_len]
      simp
    · rw [List.getElem?_eq_none (by rw [am_w_len]; show (h.1 ++ [z]).length ≤ k; simp; omega), List.getElem?_eq_none (by simp [am_w_len]; omega)]
theorem am_ok_nw {h : am_H} {z : Nat × Nat} (ok : am_ok h) : am_ok (am_nw h z) := by
  intro k j
  have hl : (am_nw h z).1.length = h.1.length + 1 := by show (h.1 ++ [z]).length = _; simp
  refine ⟨fun hk => (ok k j).1 (by omega), fun q hq => ?_⟩
  have := (ok k j).2 q hq
  omega
theorem am_nw_len {h : am_H} {z : Nat × Nat} : (am_nw h z).1.length = h.1.length + 1 := by show (h.1 ++ [z]).length = _; simp
def am_dt (t : FieldType) : Bool := match t with
  | .int => true
  | .long => true
  | .object _ => true
  | .array _ => true
  | _ => false
theorem am_dts : ∀ c, c < 8 → ∀ j, j < am_nf c → am_dt (am_ty c j) = true := am_c8 (by decide +kernel) (by decide +kernel) (by decide +kernel) (by decide +kernel) (by decide +kernel) (by decide +kernel) (by decide +kernel) (by decide +kernel)
theorem am_dv {ad : Nat → Nat} {h : am_H} {t : FieldType} {j : Nat} (ok : am_ok h) (ht : am_dt t = true) : defaultValue t = am_fv ad h h.1.length t j := by
  obtain ⟨h1, h2, h3⟩ := (ok h.1.length j).1 (Nat.le_refl _)
  cases t <;> first | (simp [am_dt] at ht; done) | (simp [am_fv, h1, h2, h3, defaultValue, va_rf])
section AMA
variable {l : Launch} {y : MethodName} {cc : ByteArray} {nL : Nat} {ret : Option FieldType} {rm : Room} {Ex : am_EX} {cells slots pc : Nat} {lv : List (Nat × Value)} {st : List Value} {h : am_H} {K : Option Value → am_H → Prop}
theorem am_grow {z : Nat × Nat} {a N pc2 : Nat} {pp : Program} {e : Env} {s : State} {m : MethodId} {args : Array Value} {below : List Frame} {meth : Method} {c : Code} {D : va_G} {tc : Nat → ClassId} {ad : Nat → Nat} {A : Nat → Prop} {H H1 : Heap} {locs : List Loc} {ls : Array Slot} {Q : State → Prop} {n0 : Nat} {ad0 : Nat → Nat}
    (C : am_C y cc nL ret pp s m args meth c D tc A) (Y : am_D nL rm Ex lv h D tc ad A s H locs ls n0 ad0) (Z : am_K l cc ret rm pp e s m args below meth c D tc A Q n0 ad0 K)
    (hlv : lv.all (fun q => am_rl h.1.length (h.1.length + 1) q.2) = true) (hst : st.all (am_rl h.1.length (h.1.length + 1)) = true) (hE : am_Mv Ex h.1.length (h.1.length + 1)) (hc : rm.cells ≠ 0)
    (hP : va_P D vwCl (am_w tc ad h ++ [(a, am_ce tc ad h h.1.length z)]) H1) (hD : va_D A (am_w tc ad h ++ [(a, am_ce tc ad h h.1.length z)])) (hS : va_S A s.heap H1 locs)
    (kk : am_R l y cc nL ret rm Ex (cells + 1) (slots + N) pc2 lv (.ref h.1.length :: st) (am_nw h z) K) : W pp l e rm s m args below meth c H1 locs (cells + 1) (slots + N) Q (F0 m pc2 ls (.ref a :: st.map (am_cv ad))) := by
  have he := am_ext_eq (ad := ad) (n := h.1.length) (a := a)
  rw [← am_w_nw Y.1] at hP hD
  have kW := kk pp e s m args below meth c D tc (am_ext ad h.1.length a) A H1 locs ls Q n0 ad0 C ⟨am_ok_nw Y.1, by rw [am_rl_lv hlv he]; exact Y.2.1, hP, hD, hS, hE _ _ _ _ he Y.2.2.2.2.2.1, by rw [am_nw_len]; exact Nat.le_succ_of_le Y.2.2.2.2.2.2.1, fun k hk => by
    rw [am_nw_len] at hk
    rw [he k (hk.imp (fun q => Nat.lt_of_lt_of_le q Y.2.2.2.2.2.2.1) id)]
    exact Y.2.2.2.2.2.2.2.1 k (hk.imp id (fun q => by omega)), fun q => absurd q hc⟩ Z
  rw [List.map_cons, am_rl_st hst he] at kW
  have e1 : am_cv (am_ext ad h.1.length a) (.ref h.1.length) = .ref a := by simp [am_cv, am_ext_at]
  rw [e1] at kW
  exact kW
theorem r_new {idx : Nat} (ci : Nat) (h8 : ci < 8) (hcl : Cond.classLink y.cls idx (am_cn ci) ∈ am_T) (hi : Cond.instantiable (am_cn ci) (am_nf ci) ∈ am_T) (hn : Cond.initialized (am_cn ci) ∈ am_T) (hr : cells + 1 ≤ rm.cells ∧ slots + am_nf ci ≤ rm.slots)
    (hlv : lv.all (fun q => am_rl h.1.length (h.1.length + 1) q.2) = true) (hst : st.all (am_rl h.1.length (h.1.length + 1)) = true) (hE : am_Mv Ex h.1.length (h.1.length + 1)) (d : decode cc pc = .ok (.new idx, 3))
    (kk : am_R l y cc nL ret rm Ex (cells + 1) (slots + am_nf ci) (pc + 3) lv (.ref h.1.length :: st) (am_nw h (ci, am_nf ci)) K) : am_R l y cc nL ret rm Ex cells slots pc lv st h K := by
  intro pp e s m args below meth c D tc ad A H locs ls Q n0 ad0 C Y Z
  refine va_new (ci := ci) (fs := (List.range (am_nf ci)).map (fun j => am_fv ad h h.1.length (am_ty ci j) j)) C.1 C.2.1 C.2.2.2.2.1 (am_uin ci h8) (am_ty ci) (am_tyk ci h8) C.2.2.2.1 (C.2.2.2.2.1 _ hcl) (C.2.2.2.2.1 _ hi) (C.2.2.2.2.1 _ hn) C.2.2.2.2.2.2.2.2.2.1 Y.2.2.1 Y.2.2.2.1 Y.2.2.2.2.1 C.2.2.2.2.2.2.2.2.1 (am_cl ci h8) (fun j hj => ?_) hr.1 hr.2 d (fun q H1 q1 q2 q3 => ?_)
  · rw [vp_V, List.getD_eq_getElem?_getD, am_fs_at hj]
    exact am_dv Y.1 (am_dts ci h8 j hj)
  · rw [← am_ce_o (tc := tc) (q := (ci, am_nf ci)) h8] at q1 q2
    exact am_grow C Y Z hlv hst hE (by omega) q1 q2 q3 kk
theorem r_newa {atype : ArrayType} {n : Int32} {len : Nat} (kd : Nat) (hk : (kd = 8 ∧ atype = .char) ∨ (kd = 9 ∧ atype = .int) ∨ (kd = 10 ∧ atype = .boolean)) (hw : Cond.arrayClass (newarray.typeOf atype) ∈ am_T) (hn : ¬ n < 0) (hN : n.toNatClampNeg = len) (hlen : len ≤ 10000) (hr : cells + 1 ≤ rm.cells ∧ slots + len ≤ rm.slots)
    (hlv : lv.all (fun q => am_rl h.1.length (h.1.length + 1) q.2) = true) (hst : st.all (am_rl h.1.length (h.1.length + 1)) = true) (hE : am_Mv Ex h.1.length (h.1.length + 1)) (d : decode cc pc = .ok (.newarray atype, 2))
    (kk : am_R l y cc nL ret rm Ex (cells + 1) (slots + len) (pc + 2) lv (.ref h.1.length :: st) (am_nw h (kd, len)) K) : am_R l y cc nL ret rm Ex cells slots pc lv (.int n :: st) h K := by
  intro pp e s m args below meth c D tc ad A H locs ls Q n0 ad0 C Y Z
  have hK := C.2.2.2.2.2.2.2.2.2.1
  have hz : h.2.1 h.1.length = fun _ => 0 := by
    funext j
    exact ((Y.1 h.1.length j).1 (Nat.le_refl _)).1
  have key : ∀ (ty : FieldType) (t0 : Nat), newarray.typeOf atype = ty → (am_tys tc)[t0]? = some (tc kd, ty) → va_RA s (tc kd) ty = (s.vm.findClass ("[" ++ ty.toString) = some (tc kd)) → (∀ cA, va_RA s cA ty = (s.vm.findClass ("[" ++ ty.toString) = some cA)) → defaultValue ty = .int 0 → len * componentBytes ty ≤ 536870912 → 8 ≤ kd → kd ≠ 11 → W pp l e rm s m args below meth c H locs cells slots Q (F0 m pc ls ((Value.int n :: st).map (am_cv ad))) := by
    intro ty t0 hty ht0 _ hRA hdv hby k8 k11
    refine va_newa (a0 := (len, .inl (fun _ => 0))) C.1 C.2.1 (C.2.2.2.2.1 _ hw) hty hK Y.2.2.1 Y.2.2.2.1 Y.2.2.2.2.1 C.2.2.2.2.2.2.2.2.1 (fun cA => by rw [vp_cell_i, hdv]) hn hN hby hr.1 hr.2 d (fun q cA H1 qK q1 q2 q3 => ?_)
    have e1 := (qK.2 4 (cA, ty) (by simp [am_tys])).2
    rw [hRA] at e1
    have e2 := (hK.2 t0 _ ht0).2
    rw [hRA] at e2
    have e3 : cA = tc kd := Option.some.inj (e1.symm.trans e2)
    subst e3
    rw [← hz, ← am_ce_i (tc := tc) (ad := ad) (h := h) (k := h.1.length) (n := len) k8 k11] at q1 q2
    exact am_grow C Y Z hlv hst hE (by omega) q1 q2 q3 kk
  rcases hk with ⟨rfl, rfl⟩ | ⟨rfl, rfl⟩ | ⟨rfl, rfl⟩
  · exact key .char 0 rfl rfl rfl (fun _ => rfl) rfl (by simp [componentBytes]; omega) (by decide) (by decide)
  · exact key .int 1 rfl rfl rfl (fun _ => rfl) rfl (by simp [componentBytes]; omega) (by decide) (by decide)
  · exact key .boolean 2 rfl rfl rfl (fun _ => rfl) rfl (by simp [componentBytes]; omega) (by decide) (by decide)
theorem r_anew {idx : Nat} {n : Int32} {len : Nat} (hcl : Cond.classLink y.cls idx "TimeLinks$Spans" ∈ am_T) (hn : ¬ n < 0) (hN : n.toNatClampNeg = len) (hlen : len ≤ 10000) (hr : cells + 1 ≤ rm.cells ∧ slots + len ≤ rm.slots)
    (hlv : lv.all (fun q => am_rl h.1.length (h.1.length + 1) q.2) = true) (hst : st.all (am_rl h.1.length (h.1.length + 1)) = true) (hE : am_Mv Ex h.1.length (h.1.length + 1)) (d : decode cc pc = .ok (.anewarray idx, 3))
    (kk : am_R l y cc nL ret rm Ex (cells + 1) (slots + len) (pc + 3) lv (.ref h.1.length :: st) (am_nw h (11, len)) K) : am_R l y cc nL ret rm Ex cells slots pc lv (.int n :: st) h K := by
  intro pp e s m args below meth c D tc ad A H locs ls Q n0 ad0 C Y Z
  have hK := C.2.2.2.2.2.2.2.2.2.1
  have hz : (fun j => (h.2.2.2 h.1.length j).map ad) = fun _ => none := by
    funext j
    rw [((Y.1 h.1.length j).1 (Nat.le_refl _)).2.2]
    rfl
  refine va_newq C.1 C.2.1 C.2.2.2.1 (C.2.2.2.2.1 _ hcl) C.2.2.2.2.2.2.2.2.2.2.2 hK Y.2.2.1 Y.2.2.2.1 Y.2.2.2.2.1 C.2.2.2.2.2.2.2.2.1 hn hN (by omega) hr.1 hr.2 d (fun q cA H1 qK q1 q2 q3 => ?_)
  obtain ⟨_, _, _, _, _, e1⟩ := (qK.2 4 (cA, .object "TimeLinks$Spans") (by simp [am_tys])).2
  obtain ⟨_, _, _, _, _, e2⟩ := (hK.2 3 (tc 11, .object "TimeLinks$Spans") rfl).2
  have e3 : cA = tc 11 := Option.some.inj (e1.symm.trans e2)
  subst e3
  rw [← hz, ← am_ce_q (tc := tc) (ad := ad) (h := h) (k := h.1.length) (n := len)] at q1 q2
  exact am_grow C Y Z hlv hst hE (by omega) q1 q2 q3 kk
end AMA
end
section
theorem am_t (i : Nat) {w : Cond} (h : tables_1[i]? = some w) (g : goodWord w = true) : w ∈ am_T := List.mem_filter.mpr ⟨List.mem_append_right _ (List.mem_of_getElem? h), g⟩
theorem am_s (i : Nat) {w : Cond} (h : (k2_sels lw_privs)[i]? = some w) (g : goodWord w = true) : w ∈ am_T := List.mem_filter.mpr ⟨List.mem_append_left _ (List.mem_of_getElem? h), g⟩
theorem am_n (i : Nat) {w : Cond} (h : tables_1[i]? = some w) : w ∈ lw_tbl := List.mem_append_right _ (List.mem_of_getElem? h)
theorem am_bs {α β : Type} {a : Option α} {f : α → Option β} {b : β} (h : Option.bind a f = some b) : ∃ w, a = some w ∧ f w = some b := by
  cases a with
  | none => cases h
  | some x => exact ⟨x, rfl, h⟩
def am_nz (z : Int32) : Option Unit := if z = 0 then none else some ()
def am_nzl (z : Int64) : Option Unit := if z = 0 then none else some ()
theorem am_nz_of {z : Int32} {u : Unit} (h : am_nz z = some u) : ¬ z = 0 := by
  intro q
  simp [am_nz, q] at h
theorem am_nzl_of {z : Int64} {u : Unit} (h : am_nzl z = some u) : ¬ z = 0 := by
  intro q
  simp [am_nzl, q] at h
def am_cls (h : am_H) (c p : Nat) : Option Nat := match h.1[p]? with
  | some q => if q.1 = c then some q.2 else none
  | none => none
theorem am_cls_of {h : am_H} {c p n : Nat} (hv : am_cls h c p = some n) : h.1[p]? = some (c, n) := by
  unfold am_cls at hv
  split at hv
  · rename_i q hq
    split at hv
    · rename_i hc
      rw [hq, ← hc, ← Option.some.inj hv]
    · cases hv
  · cases hv
theorem am_b0 {b : Bool} (h : am_b b = 0) : b = false := by
  cases b with
  | false => rfl
  | true => exact absurd h (by decide)
theorem am_b1 {b : Bool} (h : ¬ am_b b = 0) : b = true := by
  cases b with
  | false => exact absurd rfl h
  | true => rfl
def am_VM (own : String) (idx : Nat) (y : MethodName) (cc : ByteArray) (nL : Nat) (ret : Option FieldType) (n ci : Nat) : Prop := am_MF y cc nL ret n ∧ am_ML own idx y ∧ Cond.instanceMethod y ∈ am_T ∧ Cond.selects y.cls y y ∈ am_T ∧ ci < 8 ∧ am_cn ci = y.cls
def am_SM (own : String) (idx : Nat) (y : MethodName) (cc : ByteArray) (nL : Nat) (ret : Option FieldType) (n : Nat) : Prop := am_MF y cc nL ret n ∧ am_ML own idx y ∧ Cond.static y ∈ am_T
def am_IM (own : String) (idx : Nat) (y : MethodName) (cc : ByteArray) (nL : Nat) (n : Nat) : Prop := am_MF y cc nL none n ∧ am_ML own idx y ∧ Cond.instanceMethod y ∈ am_T ∧ y.name = "<init>"
theorem am_met2 {l : Launch} {y : MethodName} {cc : ByteArray} {nL : Nat} {ret : Option FieldType} {rm : Room} {av : List Value} {h : am_H} {r : Option Value} {h' : am_H} (lv : List (Nat × Value)) (hy : plainName y.cls = true) (hlen : (lg_sl av).length ≤ nL) (hlv : lv_args 0 av = lv)
    (hR : am_R l y cc nL ret rm (fun _ _ _ => True) 0 0 0 lv [] h (fun v h2 => v = r ∧ h2 = h')) : am_Ct l y cc nL ret rm av h r h' := am_met hy hlen (hlv ▸ hR)
section AMW
variable {l : Launch} {y : MethodName} {cc : ByteArray} {nL : Nat} {ret : Option FieldType} {rm : Room} {Ex : am_EX} {cells slots pc : Nat} {lv : List (Nat × Value)} {st : List Value} {h : am_H} {K : Option Value → am_H → Prop}
theorem r_inc {i : Nat} {n : Int} {x : Int32} (c : Int32) (j : Nat) (lv2 : List (Nat × Value)) (d : decode cc pc = .ok (.iinc i n, 3)) (hc : Int32.ofInt n = c) (hj : lv[j]? = some (i, .int x)) (hn : i < nL) (hl : am_st i (.int (x + c)) lv = lv2) (k : am_R l y cc nL ret rm Ex cells slots (pc + 3) lv2 st h K) : am_R l y cc nL ret rm Ex cells slots pc lv st h K := r_iinc j lv2 d hj (by rw [hc]) hn hl k
theorem r_cV1 {y' : MethodName} {cc' : ByteArray} {nL' : Nat} {ret' : Option FieldType} {rm' : Room} {h' : am_H} {v : Value} {st0 : List Value} {p0 idx ci : Nat} (As : List Value) (ct : am_Ct l y' cc' nL' ret' rm' (.ref p0 :: As) h (some v) h') (M : am_VM y.cls idx y' cc' nL' ret' As.length ci) (hp : ∃ n, h.1[p0]? = some (ci, n))
    (hr : (rm'.frames + 1 ≤ rm.frames ∧ 8 + (nL' + 11) + rm'.locals ≤ rm.locals) ∧ cells ≤ rm.cells ∧ slots ≤ rm.slots) (hz : rm'.cells = 0 ∧ rm'.slots = 0) (hst : st0 = As.reverse ++ .ref p0 :: st) (hcat : (st.map fun v => v.category).sum ≤ 8) (d : decode cc pc = .ok (.invokevirtual idx, 3)) (kk : am_R l y cc nL ret rm Ex cells slots (pc + 3) lv (v :: st) h' K) : am_R l y cc nL ret rm Ex cells slots pc lv st0 h K := by
  obtain ⟨n, hp⟩ := hp
  exact r_callV As ct M.1 M.2.1 M.2.2.1 M.2.2.2.1 M.2.2.2.2 hp (by rw [hz.1, hz.2]; exact hr) hst hcat d (Or.inl hz.1) (by rw [hz.1, hz.2]; exact kk)
theorem r_cV0 {y' : MethodName} {cc' : ByteArray} {nL' : Nat} {ret' : Option FieldType} {rm' : Room} {h' : am_H} {st0 : List Value} {p0 idx ci : Nat} (As : List Value) (ct : am_Ct l y' cc' nL' ret' rm' (.ref p0 :: As) h none h') (M : am_VM y.cls idx y' cc' nL' ret' As.length ci) (hp : ∃ n, h.1[p0]? = some (ci, n))
    (hr : (rm'.frames + 1 ≤ rm.frames ∧ 8 + (nL' + 11) + rm'.locals ≤ rm.locals) ∧ cells ≤ rm.cells ∧ slots ≤ rm.slots) (hz : rm'.cells = 0 ∧ rm'.slots = 0) (hst : st0 = As.reverse ++ .ref p0 :: st) (hcat : (st.map fun v => v.category).sum ≤ 8) (d : decode cc pc = .ok (.invokevirtual idx, 3)) (kk : am_R l y cc nL ret rm Ex cells slots (pc + 3) lv st h' K) : am_R l y cc nL ret rm Ex cells slots pc lv st0 h K := by
  obtain ⟨n, hp⟩ := hp
  exact r_callV As ct M.1 M.2.1 M.2.2.1 M.2.2.2.1 M.2.2.2.2 hp (by rw [hz.1, hz.2]; exact hr) hst hcat d (Or.inl hz.1) (by rw [hz.1, hz.2]; exact kk)
theorem r_cS1 {y' : MethodName} {cc' : ByteArray} {nL' : Nat} {ret' : Option FieldType} {rm' : Room} {h' : am_H} {v : Value} {st0 : List Value} {idx : Nat} (As : List Value) (ct : am_Ct l y' cc' nL' ret' rm' As h (some v) h') (M : am_SM y.cls idx y' cc' nL' ret' As.length)
    (hr : (rm'.frames + 1 ≤ rm.frames ∧ 8 + (nL' + 11) + rm'.locals ≤ rm.locals) ∧ cells ≤ rm.cells ∧ slots ≤ rm.slots) (hz : rm'.cells = 0 ∧ rm'.slots = 0) (hst : st0 = As.reverse ++ st) (hcat : (st.map fun v => v.category).sum ≤ 8) (d : decode cc pc = .ok (.invokestatic idx, 3)) (kk : am_R l y cc nL ret rm Ex cells slots (pc + 3) lv (v :: st) h' K) : am_R l y cc nL ret rm Ex cells slots pc lv st0 h K :=
  r_callS As ct M.1 M.2.1 M.2.2 (by rw [hz.1, hz.2]; exact hr) hst hcat d (Or.inl hz.1) (by rw [hz.1, hz.2]; exact kk)
theorem r_cI {y' : MethodName} {cc' : ByteArray} {nL' : Nat} {rm' : Room} {h' : am_H} {st0 : List Value} {p0 idx : Nat} (c2 s2 : Nat) (As : List Value) (ct : am_Ct l y' cc' nL' none rm' (.ref p0 :: As) h none h') (M : am_IM y.cls idx y' cc' nL' As.length)
    (hr : (rm'.frames + 1 ≤ rm.frames ∧ 8 + (nL' + 11) + rm'.locals ≤ rm.locals) ∧ c2 ≤ rm.cells ∧ s2 ≤ rm.slots) (hcs : cells + rm'.cells = c2 ∧ slots + rm'.slots = s2) (hst : st0 = As.reverse ++ .ref p0 :: st) (hcat : (st.map fun v => v.category).sum ≤ 8) (d : decode cc pc = .ok (.invokespecial idx, 3)) (hA : am_Al Ex rm rm' h.1.length h'.1.length lv st)
    (kk : am_R l y cc nL ret rm Ex c2 s2 (pc + 3) lv st h' K) : am_R l y cc nL ret rm Ex cells slots pc lv st0 h K := by
  obtain ⟨rfl, rfl⟩ := hcs
  exact r_callI As ct M.1 M.2.1 M.2.2.1 M.2.2.2 hr hst hcat d hA kk
end AMW
end
section
theorem mf_X5_takeFrom : am_MF yX5_takeFrom cX5_takeFrom 4 (none) 3 := ⟨(am_t 334 (by decide +kernel) rfl), (am_t 3 (by decide +kernel) rfl), (by decide +kernel)⟩
theorem mn_X5_takeFrom : Cond.instanceMethod yX5_takeFrom ∈ am_T := (am_t 333 (by decide +kernel) rfl)
theorem me_X5_takeFrom : Cond.selects yX5_takeFrom.cls yX5_takeFrom yX5_takeFrom ∈ am_T := am_s 6 (by decide +kernel) rfl
theorem mf_X5_copyOf : am_MF yX5_copyOf cX5_copyOf 3 (none) 1 := ⟨(am_t 330 (by decide +kernel) rfl), (am_t 3 (by decide +kernel) rfl), (by decide +kernel)⟩
theorem mn_X5_copyOf : Cond.instanceMethod yX5_copyOf ∈ am_T := (am_t 328 (by decide +kernel) rfl)
theorem me_X5_copyOf : Cond.selects yX5_copyOf.cls yX5_copyOf yX5_copyOf ∈ am_T := (am_t 329 (by decide +kernel) rfl)
theorem mf_X6_again : am_MF yX6_again cX6_again 2 (some .int) 1 := ⟨(am_t 641 (by decide +kernel) rfl), (am_t 1 (by decide +kernel) rfl), (by decide +kernel)⟩
theorem mn_X6_again : Cond.instanceMethod yX6_again ∈ am_T := (am_t 639 (by decide +kernel) rfl)
theorem me_X6_again : Cond.selects yX6_again.cls yX6_again yX6_again ∈ am_T := (am_t 640 (by decide +kernel) rfl)
theorem mf_X6_isTime : am_MF yX6_isTime cX6_isTime 1 (some .boolean) 1 := ⟨(am_t 266 (by decide +kernel) rfl), (am_t 1 (by decide +kernel) rfl), (by decide +kernel)⟩
theorem ms_X6_isTime : Cond.static yX6_isTime ∈ am_T := (am_t 265 (by decide +kernel) rfl)
theorem mf_X2_takeApart : am_MF yX2_takeApart cX2_takeApart 2 (none) 0 := ⟨(am_t 385 (by decide +kernel) rfl), (am_t 5 (by decide +kernel) rfl), (by decide +kernel)⟩
theorem mn_X2_takeApart : Cond.instanceMethod yX2_takeApart ∈ am_T := (am_t 384 (by decide +kernel) rfl)
theorem me_X2_takeApart : Cond.selects yX2_takeApart.cls yX2_takeApart yX2_takeApart ∈ am_T := am_s 9 (by decide +kernel) rfl
theorem mf_X5_fills : am_MF yX5_fills cX5_fills 6 (some .boolean) 2 := ⟨(am_t 314 (by decide +kernel) rfl), (am_t 3 (by decide +kernel) rfl), (by decide +kernel)⟩
theorem mn_X5_fills : Cond.instanceMethod yX5_fills ∈ am_T := (am_t 313 (by decide +kernel) rfl)
theorem me_X5_fills : Cond.selects yX5_fills.cls yX5_fills yX5_fills ∈ am_T := am_s 5 (by decide +kernel) rfl
theorem mf_X5_lies : am_MF yX5_lies cX5_lies 3 (some .boolean) 2 := ⟨(am_t 310 (by decide +kernel) rfl), (am_t 3 (by decide +kernel) rfl), (by decide +kernel)⟩
theorem mn_X5_lies : Cond.instanceMethod yX5_lies ∈ am_T := (am_t 308 (by decide +kernel) rfl)
theorem me_X5_lies : Cond.selects yX5_lies.cls yX5_lies yX5_lies ∈ am_T := (am_t 309 (by decide +kernel) rfl)
theorem mf_X2_rootOf : am_MF yX2_rootOf cX2_rootOf 4 (some .int) 1 := ⟨(am_t 398 (by decide +kernel) rfl), (am_t 5 (by decide +kernel) rfl), (by decide +kernel)⟩
theorem mn_X2_rootOf : Cond.instanceMethod yX2_rootOf ∈ am_T := (am_t 396 (by decide +kernel) rfl)
theorem me_X2_rootOf : Cond.selects yX2_rootOf.cls yX2_rootOf yX2_rootOf ∈ am_T := (am_t 397 (by decide +kernel) rfl)
theorem mf_X2_turnOf : am_MF yX2_turnOf cX2_turnOf 5 (some .int) 1 := ⟨(am_t 402 (by decide +kernel) rfl), (am_t 5 (by decide +kernel) rfl), (by decide +kernel)⟩
theorem mn_X2_turnOf : Cond.instanceMethod yX2_turnOf ∈ am_T := (am_t 400 (by decide +kernel) rfl)
theorem me_X2_turnOf : Cond.selects yX2_turnOf.cls yX2_turnOf yX2_turnOf ∈ am_T := (am_t 401 (by decide +kernel) rfl)
theorem mf_X2_hangsBelow : am_MF yX2_hangsBelow cX2_hangsBelow 3 (some .boolean) 2 := ⟨(am_t 406 (by decide +kernel) rfl), (am_t 5 (by decide +kernel) rfl), (by decide +kernel)⟩
theorem mn_X2_hangsBelow : Cond.instanceMethod yX2_hangsBelow ∈ am_T := (am_t 405 (by decide +kernel) rfl)
theorem me_X2_hangsBelow : Cond.selects yX2_hangsBelow.cls yX2_hangsBelow yX2_hangsBelow ∈ am_T := am_s 12 (by decide +kernel) rfl
theorem mf_X2_hang : am_MF yX2_hang cX2_hang 4 (none) 3 := ⟨(am_t 410 (by decide +kernel) rfl), (am_t 5 (by decide +kernel) rfl), (by decide +kernel)⟩
theorem mn_X2_hang : Cond.instanceMethod yX2_hang ∈ am_T := (am_t 409 (by decide +kernel) rfl)
theorem me_X2_hang : Cond.selects yX2_hang.cls yX2_hang yX2_hang ∈ am_T := am_s 13 (by decide +kernel) rfl
theorem mf_X2_join : am_MF yX2_join cX2_join 6 (some .boolean) 2 := ⟨(am_t 394 (by decide +kernel) rfl), (am_t 5 (by decide +kernel) rfl), (by decide +kernel)⟩
theorem mn_X2_join : Cond.instanceMethod yX2_join ∈ am_T := (am_t 393 (by decide +kernel) rfl)
theorem me_X2_join : Cond.selects yX2_join.cls yX2_join yX2_join ∈ am_T := am_s 11 (by decide +kernel) rfl
theorem mf_X2_joinAllOn : am_MF yX2_joinAllOn cX2_joinAllOn 5 (some .int) 2 := ⟨(am_t 389 (by decide +kernel) rfl), (am_t 5 (by decide +kernel) rfl), (by decide +kernel)⟩
theorem mn_X2_joinAllOn : Cond.instanceMethod yX2_joinAllOn ∈ am_T := (am_t 388 (by decide +kernel) rfl)
theorem me_X2_joinAllOn : Cond.selects yX2_joinAllOn.cls yX2_joinAllOn yX2_joinAllOn ∈ am_T := am_s 10 (by decide +kernel) rfl
theorem mf_X2_walkToNode : am_MF yX2_walkToNode cX2_walkToNode 5 (some .int) 2 := ⟨(am_t 381 (by decide +kernel) rfl), (am_t 5 (by decide +kernel) rfl), (by decide +kernel)⟩
theorem mn_X2_walkToNode : Cond.instanceMethod yX2_walkToNode ∈ am_T := (am_t 379 (by decide +kernel) rfl)
theorem me_X2_walkToNode : Cond.selects yX2_walkToNode.cls yX2_walkToNode yX2_walkToNode ∈ am_T := (am_t 380 (by decide +kernel) rfl)
theorem mf_X2_walkToTime : am_MF yX2_walkToTime cX2_walkToTime 3 (none) 2 := ⟨(am_t 377 (by decide +kernel) rfl), (am_t 5 (by decide +kernel) rfl), (by decide +kernel)⟩
theorem mn_X2_walkToTime : Cond.instanceMethod yX2_walkToTime ∈ am_T := (am_t 375 (by decide +kernel) rfl)
theorem me_X2_walkToTime : Cond.selects yX2_walkToTime.cls yX2_walkToTime yX2_walkToTime ∈ am_T := (am_t 376 (by decide +kernel) rfl)
theorem mf_X2_parts : am_MF yX2_parts cX2_parts 3 (some .int) 0 := ⟨(am_t 414 (by decide +kernel) rfl), (am_t 5 (by decide +kernel) rfl), (by decide +kernel)⟩
theorem mn_X2_parts : Cond.instanceMethod yX2_parts ∈ am_T := (am_t 412 (by decide +kernel) rfl)
theorem me_X2_parts : Cond.selects yX2_parts.cls yX2_parts yX2_parts ∈ am_T := (am_t 413 (by decide +kernel) rfl)
theorem mf_X5_livesAt : am_MF yX5_livesAt cX5_livesAt 3 (some .boolean) 2 := ⟨(am_t 422 (by decide +kernel) rfl), (am_t 3 (by decide +kernel) rfl), (by decide +kernel)⟩
theorem mn_X5_livesAt : Cond.instanceMethod yX5_livesAt ∈ am_T := (am_t 420 (by decide +kernel) rfl)
theorem me_X5_livesAt : Cond.selects yX5_livesAt.cls yX5_livesAt yX5_livesAt ∈ am_T := (am_t 421 (by decide +kernel) rfl)
theorem mf_X5_livingAt : am_MF yX5_livingAt cX5_livingAt 4 (some .int) 1 := ⟨(am_t 418 (by decide +kernel) rfl), (am_t 3 (by decide +kernel) rfl), (by decide +kernel)⟩
theorem mn_X5_livingAt : Cond.instanceMethod yX5_livingAt ∈ am_T := (am_t 416 (by decide +kernel) rfl)
theorem me_X5_livingAt : Cond.selects yX5_livingAt.cls yX5_livingAt yX5_livingAt ∈ am_T := (am_t 417 (by decide +kernel) rfl)
theorem mf_X2_oddParts : am_MF yX2_oddParts cX2_oddParts 3 (some .int) 0 := ⟨(am_t 426 (by decide +kernel) rfl), (am_t 5 (by decide +kernel) rfl), (by decide +kernel)⟩
theorem mn_X2_oddParts : Cond.instanceMethod yX2_oddParts ∈ am_T := (am_t 424 (by decide +kernel) rfl)
theorem me_X2_oddParts : Cond.selects yX2_oddParts.cls yX2_oddParts yX2_oddParts ∈ am_T := (am_t 425 (by decide +kernel) rfl)
theorem mf_X2_depthOf : am_MF yX2_depthOf cX2_depthOf 5 (some .int) 1 := ⟨(am_t 434 (by decide +kernel) rfl), (am_t 5 (by decide +kernel) rfl), (by decide +kernel)⟩
theorem mn_X2_depthOf : Cond.instanceMethod yX2_depthOf ∈ am_T := (am_t 432 (by decide +kernel) rfl)
theorem me_X2_depthOf : Cond.selects yX2_depthOf.cls yX2_depthOf yX2_depthOf ∈ am_T := (am_t 433 (by decide +kernel) rfl)
theorem mf_J9_max_7cf53 : am_MF yJ9_max_7cf53 cJ9_max_7cf53 2 (some .int) 2 := ⟨(am_t 280 (by decide +kernel) rfl), (am_t 9 (by decide +kernel) rfl), (by decide +kernel)⟩
theorem ms_J9_max_7cf53 : Cond.static yJ9_max_7cf53 ∈ am_T := (am_t 279 (by decide +kernel) rfl)
theorem mf_X2_greatestDepth : am_MF yX2_greatestDepth cX2_greatestDepth 3 (some .int) 0 := ⟨(am_t 430 (by decide +kernel) rfl), (am_t 5 (by decide +kernel) rfl), (by decide +kernel)⟩
theorem mn_X2_greatestDepth : Cond.instanceMethod yX2_greatestDepth ∈ am_T := (am_t 428 (by decide +kernel) rfl)
theorem me_X2_greatestDepth : Cond.selects yX2_greatestDepth.cls yX2_greatestDepth yX2_greatestDepth ∈ am_T := (am_t 429 (by decide +kernel) rfl)
theorem mf_X2_greatestSize : am_MF yX2_greatestSize cX2_greatestSize 3 (some .int) 0 := ⟨(am_t 439 (by decide +kernel) rfl), (am_t 5 (by decide +kernel) rfl), (by decide +kernel)⟩
theorem mn_X2_greatestSize : Cond.instanceMethod yX2_greatestSize ∈ am_T := (am_t 437 (by decide +kernel) rfl)
theorem me_X2_greatestSize : Cond.selects yX2_greatestSize.cls yX2_greatestSize yX2_greatestSize ∈ am_T := (am_t 438 (by decide +kernel) rfl)
theorem mf_X6_at : am_MF yX6_at cX6_at 3 (some .int) 2 := ⟨(am_t 373 (by decide +kernel) rfl), (am_t 1 (by decide +kernel) rfl), (by decide +kernel)⟩
theorem mn_X6_at : Cond.instanceMethod yX6_at ∈ am_T := (am_t 371 (by decide +kernel) rfl)
theorem me_X6_at : Cond.selects yX6_at.cls yX6_at yX6_at ∈ am_T := (am_t 372 (by decide +kernel) rfl)
theorem mf_X1_gather : am_MF yX1_gather cX1_gather 4 (none) 2 := ⟨(am_t 490 (by decide +kernel) rfl), (am_t 6 (by decide +kernel) rfl), (by decide +kernel)⟩
theorem mn_X1_gather : Cond.instanceMethod yX1_gather ∈ am_T := (am_t 488 (by decide +kernel) rfl)
theorem me_X1_gather : Cond.selects yX1_gather.cls yX1_gather yX1_gather ∈ am_T := (am_t 489 (by decide +kernel) rfl)
theorem mf_X1_all : am_MF yX1_all cX1_all 1 (some .int) 0 := ⟨(am_t 495 (by decide +kernel) rfl), (am_t 6 (by decide +kernel) rfl), (by decide +kernel)⟩
theorem mn_X1_all : Cond.instanceMethod yX1_all ∈ am_T := (am_t 493 (by decide +kernel) rfl)
theorem me_X1_all : Cond.selects yX1_all.cls yX1_all yX1_all ∈ am_T := (am_t 494 (by decide +kernel) rfl)
theorem mf_X1_reach : am_MF yX1_reach cX1_reach 7 (some .int) 2 := ⟨(am_t 503 (by decide +kernel) rfl), (am_t 6 (by decide +kernel) rfl), (by decide +kernel)⟩
theorem mn_X1_reach : Cond.instanceMethod yX1_reach ∈ am_T := (am_t 501 (by decide +kernel) rfl)
theorem me_X1_reach : Cond.selects yX1_reach.cls yX1_reach yX1_reach ∈ am_T := (am_t 502 (by decide +kernel) rfl)
theorem mf_X1_areJoined : am_MF yX1_areJoined cX1_areJoined 4 (some .boolean) 3 := ⟨(am_t 499 (by decide +kernel) rfl), (am_t 6 (by decide +kernel) rfl), (by decide +kernel)⟩
theorem mn_X1_areJoined : Cond.instanceMethod yX1_areJoined ∈ am_T := (am_t 497 (by decide +kernel) rfl)
theorem me_X1_areJoined : Cond.selects yX1_areJoined.cls yX1_areJoined yX1_areJoined ∈ am_T := (am_t 498 (by decide +kernel) rfl)
theorem mf_X6_bridges : am_MF yX6_bridges cX6_bridges 4 (some .int) 1 := ⟨(am_t 486 (by decide +kernel) rfl), (am_t 1 (by decide +kernel) rfl), (by decide +kernel)⟩
theorem mn_X6_bridges : Cond.instanceMethod yX6_bridges ∈ am_T := (am_t 484 (by decide +kernel) rfl)
theorem me_X6_bridges : Cond.selects yX6_bridges.cls yX6_bridges yX6_bridges ∈ am_T := (am_t 485 (by decide +kernel) rfl)
theorem mf_X6_stretch : am_MF yX6_stretch cX6_stretch 2 (some .int) 2 := ⟨(am_t 283 (by decide +kernel) rfl), (am_t 1 (by decide +kernel) rfl), (by decide +kernel)⟩
theorem ms_X6_stretch : Cond.static yX6_stretch ∈ am_T := (am_t 282 (by decide +kernel) rfl)
theorem mf_X5_timesFilled : am_MF yX5_timesFilled cX5_timesFilled 3 (some .int) 0 := ⟨(am_t 649 (by decide +kernel) rfl), (am_t 3 (by decide +kernel) rfl), (by decide +kernel)⟩
theorem mn_X5_timesFilled : Cond.instanceMethod yX5_timesFilled ∈ am_T := (am_t 647 (by decide +kernel) rfl)
theorem me_X5_timesFilled : Cond.selects yX5_timesFilled.cls yX5_timesFilled yX5_timesFilled ∈ am_T := (am_t 648 (by decide +kernel) rfl)
theorem mf_X5_timesTogether : am_MF yX5_timesTogether cX5_timesTogether 3 (some .int) 0 := ⟨(am_t 653 (by decide +kernel) rfl), (am_t 3 (by decide +kernel) rfl), (by decide +kernel)⟩
theorem mn_X5_timesTogether : Cond.instanceMethod yX5_timesTogether ∈ am_T := (am_t 651 (by decide +kernel) rfl)
theorem me_X5_timesTogether : Cond.selects yX5_timesTogether.cls yX5_timesTogether yX5_timesTogether ∈ am_T := (am_t 652 (by decide +kernel) rfl)
theorem mf_X6_count : am_MF yX6_count cX6_count 2 (some .int) 1 := ⟨(am_t 645 (by decide +kernel) rfl), (am_t 1 (by decide +kernel) rfl), (by decide +kernel)⟩
theorem mn_X6_count : Cond.instanceMethod yX6_count ∈ am_T := (am_t 643 (by decide +kernel) rfl)
theorem me_X6_count : Cond.selects yX6_count.cls yX6_count yX6_count ∈ am_T := (am_t 644 (by decide +kernel) rfl)
theorem mf_X5_has : am_MF yX5_has cX5_has 2 (some .boolean) 1 := ⟨(am_t 297 (by decide +kernel) rfl), (am_t 3 (by decide +kernel) rfl), (by decide +kernel)⟩
theorem mn_X5_has : Cond.instanceMethod yX5_has ∈ am_T := (am_t 295 (by decide +kernel) rfl)
theorem me_X5_has : Cond.selects yX5_has.cls yX5_has yX5_has ∈ am_T := (am_t 296 (by decide +kernel) rfl)
theorem mf_X5_drop : am_MF yX5_drop cX5_drop 3 (some .int) 1 := ⟨(am_t 356 (by decide +kernel) rfl), (am_t 3 (by decide +kernel) rfl), (by decide +kernel)⟩
theorem mn_X5_drop : Cond.instanceMethod yX5_drop ∈ am_T := (am_t 354 (by decide +kernel) rfl)
theorem me_X5_drop : Cond.selects yX5_drop.cls yX5_drop yX5_drop ∈ am_T := (am_t 355 (by decide +kernel) rfl)
theorem mf_X0_forgetFirst : am_MF yX0_forgetFirst cX0_forgetFirst 3 (none) 0 := ⟨(am_t 347 (by decide +kernel) rfl), (am_t 4 (by decide +kernel) rfl), (by decide +kernel)⟩
theorem mn_X0_forgetFirst : Cond.instanceMethod yX0_forgetFirst ∈ am_T := (am_t 346 (by decide +kernel) rfl)
theorem me_X0_forgetFirst : Cond.selects yX0_forgetFirst.cls yX0_forgetFirst yX0_forgetFirst ∈ am_T := am_s 8 (by decide +kernel) rfl
theorem mf_X0_remember : am_MF yX0_remember cX0_remember 2 (none) 1 := ⟨(am_t 343 (by decide +kernel) rfl), (am_t 4 (by decide +kernel) rfl), (by decide +kernel)⟩
theorem mn_X0_remember : Cond.instanceMethod yX0_remember ∈ am_T := (am_t 341 (by decide +kernel) rfl)
theorem me_X0_remember : Cond.selects yX0_remember.cls yX0_remember yX0_remember ∈ am_T := (am_t 342 (by decide +kernel) rfl)
theorem mf_X6_rememberIfDone : am_MF yX6_rememberIfDone cX6_rememberIfDone 2 (some .int) 1 := ⟨(am_t 339 (by decide +kernel) rfl), (am_t 1 (by decide +kernel) rfl), (by decide +kernel)⟩
theorem mn_X6_rememberIfDone : Cond.instanceMethod yX6_rememberIfDone ∈ am_T := (am_t 338 (by decide +kernel) rfl)
theorem me_X6_rememberIfDone : Cond.selects yX6_rememberIfDone.cls yX6_rememberIfDone yX6_rememberIfDone ∈ am_T := am_s 7 (by decide +kernel) rfl
theorem mf_X6_cut : am_MF yX6_cut cX6_cut 2 (some .int) 1 := ⟨(am_t 352 (by decide +kernel) rfl), (am_t 1 (by decide +kernel) rfl), (by decide +kernel)⟩
theorem mn_X6_cut : Cond.instanceMethod yX6_cut ∈ am_T := (am_t 350 (by decide +kernel) rfl)
theorem me_X6_cut : Cond.selects yX6_cut.cls yX6_cut yX6_cut ∈ am_T := (am_t 351 (by decide +kernel) rfl)
theorem mf_J9_min_7cf53 : am_MF yJ9_min_7cf53 cJ9_min_7cf53 2 (some .int) 2 := ⟨(am_t 277 (by decide +kernel) rfl), (am_t 9 (by decide +kernel) rfl), (by decide +kernel)⟩
theorem ms_J9_min_7cf53 : Cond.static yJ9_min_7cf53 ∈ am_T := (am_t 276 (by decide +kernel) rfl)
theorem mf_X6_isKnot : am_MF yX6_isKnot cX6_isKnot 1 (some .boolean) 1 := ⟨(am_t 242 (by decide +kernel) rfl), (am_t 1 (by decide +kernel) rfl), (by decide +kernel)⟩
theorem ms_X6_isKnot : Cond.static yX6_isKnot ∈ am_T := (am_t 241 (by decide +kernel) rfl)
theorem mf_X5_isOf : am_MF yX5_isOf cX5_isOf 4 (some .boolean) 3 := ⟨(am_t 274 (by decide +kernel) rfl), (am_t 3 (by decide +kernel) rfl), (by decide +kernel)⟩
theorem mn_X5_isOf : Cond.instanceMethod yX5_isOf ∈ am_T := (am_t 273 (by decide +kernel) rfl)
theorem me_X5_isOf : Cond.selects yX5_isOf.cls yX5_isOf yX5_isOf ∈ am_T := am_s 4 (by decide +kernel) rfl
theorem mf_X5_timesOf : am_MF yX5_timesOf cX5_timesOf 6 (some .int) 3 := ⟨(am_t 270 (by decide +kernel) rfl), (am_t 3 (by decide +kernel) rfl), (by decide +kernel)⟩
theorem mn_X5_timesOf : Cond.instanceMethod yX5_timesOf ∈ am_T := (am_t 268 (by decide +kernel) rfl)
theorem me_X5_timesOf : Cond.selects yX5_timesOf.cls yX5_timesOf yX5_timesOf ∈ am_T := (am_t 269 (by decide +kernel) rfl)
theorem mf_X5_add : am_MF yX5_add cX5_add 5 (some .int) 4 := ⟨(am_t 262 (by decide +kernel) rfl), (am_t 3 (by decide +kernel) rfl), (by decide +kernel)⟩
theorem mn_X5_add : Cond.instanceMethod yX5_add ∈ am_T := (am_t 260 (by decide +kernel) rfl)
theorem me_X5_add : Cond.selects yX5_add.cls yX5_add yX5_add ∈ am_T := (am_t 261 (by decide +kernel) rfl)
theorem mf_X6_addDrawn : am_MF yX6_addDrawn cX6_addDrawn 4 (none) 1 := ⟨(am_t 632 (by decide +kernel) rfl), (am_t 1 (by decide +kernel) rfl), (by decide +kernel)⟩
theorem mn_X6_addDrawn : Cond.instanceMethod yX6_addDrawn ∈ am_T := (am_t 631 (by decide +kernel) rfl)
theorem me_X6_addDrawn : Cond.selects yX6_addDrawn.cls yX6_addDrawn yX6_addDrawn ∈ am_T := am_s 27 (by decide +kernel) rfl
theorem mf_X6_partsInTrial : am_MF yX6_partsInTrial cX6_partsInTrial 2 (some .int) 1 := ⟨(am_t 535 (by decide +kernel) rfl), (am_t 1 (by decide +kernel) rfl), (by decide +kernel)⟩
theorem mn_X6_partsInTrial : Cond.instanceMethod yX6_partsInTrial ∈ am_T := (am_t 534 (by decide +kernel) rfl)
theorem me_X6_partsInTrial : Cond.selects yX6_partsInTrial.cls yX6_partsInTrial yX6_partsInTrial ∈ am_T := am_s 19 (by decide +kernel) rfl
theorem mf_X6_drawn : am_MF yX6_drawn cX6_drawn 4 (some .int) 1 := ⟨(am_t 626 (by decide +kernel) rfl), (am_t 1 (by decide +kernel) rfl), (by decide +kernel)⟩
theorem mn_X6_drawn : Cond.instanceMethod yX6_drawn ∈ am_T := (am_t 624 (by decide +kernel) rfl)
theorem me_X6_drawn : Cond.selects yX6_drawn.cls yX6_drawn yX6_drawn ∈ am_T := (am_t 625 (by decide +kernel) rfl)
theorem mf_X5_stopAt : am_MF yX5_stopAt cX5_stopAt 4 (some .int) 2 := ⟨(am_t 293 (by decide +kernel) rfl), (am_t 3 (by decide +kernel) rfl), (by decide +kernel)⟩
theorem mn_X5_stopAt : Cond.instanceMethod yX5_stopAt ∈ am_T := (am_t 291 (by decide +kernel) rfl)
theorem me_X5_stopAt : Cond.selects yX5_stopAt.cls yX5_stopAt yX5_stopAt ∈ am_T := (am_t 292 (by decide +kernel) rfl)
theorem mf_X6_end : am_MF yX6_end cX6_end 3 (some .int) 2 := ⟨(am_t 360 (by decide +kernel) rfl), (am_t 1 (by decide +kernel) rfl), (by decide +kernel)⟩
theorem mn_X6_end : Cond.instanceMethod yX6_end ∈ am_T := (am_t 358 (by decide +kernel) rfl)
theorem me_X6_end : Cond.selects yX6_end.cls yX6_end yX6_end ∈ am_T := (am_t 359 (by decide +kernel) rfl)
theorem mf_J6_bitCount_0f7a4 : am_MF yJ6_bitCount_0f7a4 cJ6_bitCount_0f7a4 1 (some .int) 1 := ⟨(am_t 470 (by decide +kernel) rfl), (am_t 10 (by decide +kernel) rfl), (by decide +kernel)⟩
theorem ms_J6_bitCount_0f7a4 : Cond.static yJ6_bitCount_0f7a4 ∈ am_T := (am_t 469 (by decide +kernel) rfl)
theorem mf_X6_power : am_MF yX6_power cX6_power 6 (some .long) 2 := ⟨(am_t 523 (by decide +kernel) rfl), (am_t 1 (by decide +kernel) rfl), (by decide +kernel)⟩
theorem ms_X6_power : Cond.static yX6_power ∈ am_T := (am_t 522 (by decide +kernel) rfl)
theorem mf_X6_chancesOfJoined : am_MF yX6_chancesOfJoined cX6_chancesOfJoined 8 (some .long) 3 := ⟨(am_t 617 (by decide +kernel) rfl), (am_t 1 (by decide +kernel) rfl), (by decide +kernel)⟩
theorem mn_X6_chancesOfJoined : Cond.instanceMethod yX6_chancesOfJoined ∈ am_T := (am_t 616 (by decide +kernel) rfl)
theorem me_X6_chancesOfJoined : Cond.selects yX6_chancesOfJoined.cls yX6_chancesOfJoined yX6_chancesOfJoined ∈ am_T := am_s 26 (by decide +kernel) rfl
theorem mf_X6_commonDivisor : am_MF yX6_commonDivisor cX6_commonDivisor 11 (some .long) 2 := ⟨(am_t 609 (by decide +kernel) rfl), (am_t 1 (by decide +kernel) rfl), (by decide +kernel)⟩
theorem ms_X6_commonDivisor : Cond.static yX6_commonDivisor ∈ am_T := (am_t 608 (by decide +kernel) rfl)
theorem mf_X6_told : am_MF yX6_told cX6_told 7 (some .int) 3 := ⟨(am_t 606 (by decide +kernel) rfl), (am_t 1 (by decide +kernel) rfl), (by decide +kernel)⟩
theorem ms_X6_told : Cond.static yX6_told ∈ am_T := (am_t 605 (by decide +kernel) rfl)
theorem mf_X6_fails : am_MF yX6_fails cX6_fails 6 (some .int) 5 := ⟨(am_t 613 (by decide +kernel) rfl), (am_t 1 (by decide +kernel) rfl), (by decide +kernel)⟩
theorem mn_X6_fails : Cond.instanceMethod yX6_fails ∈ am_T := (am_t 611 (by decide +kernel) rfl)
theorem me_X6_fails : Cond.selects yX6_fails.cls yX6_fails yX6_fails ∈ am_T := (am_t 612 (by decide +kernel) rfl)
theorem mf_X3_forgetLinks : am_MF yX3_forgetLinks cX3_forgetLinks 2 (none) 0 := ⟨(am_t 235 (by decide +kernel) rfl), (am_t 2 (by decide +kernel) rfl), (by decide +kernel)⟩
theorem mn_X3_forgetLinks : Cond.instanceMethod yX3_forgetLinks ∈ am_T := (am_t 234 (by decide +kernel) rfl)
theorem me_X3_forgetLinks : Cond.selects yX3_forgetLinks.cls yX3_forgetLinks yX3_forgetLinks ∈ am_T := am_s 0 (by decide +kernel) rfl
theorem mf_X3_partners : am_MF yX3_partners cX3_partners 4 (some .int) 2 := ⟨(am_t 246 (by decide +kernel) rfl), (am_t 2 (by decide +kernel) rfl), (by decide +kernel)⟩
theorem mn_X3_partners : Cond.instanceMethod yX3_partners ∈ am_T := (am_t 245 (by decide +kernel) rfl)
theorem me_X3_partners : Cond.selects yX3_partners.cls yX3_partners yX3_partners ∈ am_T := am_s 2 (by decide +kernel) rfl
theorem mf_X3_faultOfEvent : am_MF yX3_faultOfEvent cX3_faultOfEvent 5 (some .int) 1 := ⟨(am_t 239 (by decide +kernel) rfl), (am_t 2 (by decide +kernel) rfl), (by decide +kernel)⟩
theorem mn_X3_faultOfEvent : Cond.instanceMethod yX3_faultOfEvent ∈ am_T := (am_t 238 (by decide +kernel) rfl)
theorem me_X3_faultOfEvent : Cond.selects yX3_faultOfEvent.cls yX3_faultOfEvent yX3_faultOfEvent ∈ am_T := am_s 1 (by decide +kernel) rfl
theorem mf_X3_takeEvent : am_MF yX3_takeEvent cX3_takeEvent 5 (none) 1 := ⟨(am_t 250 (by decide +kernel) rfl), (am_t 2 (by decide +kernel) rfl), (by decide +kernel)⟩
theorem mn_X3_takeEvent : Cond.instanceMethod yX3_takeEvent ∈ am_T := (am_t 249 (by decide +kernel) rfl)
theorem me_X3_takeEvent : Cond.selects yX3_takeEvent.cls yX3_takeEvent yX3_takeEvent ∈ am_T := am_s 3 (by decide +kernel) rfl
theorem mf_X3_firstFault : am_MF yX3_firstFault cX3_firstFault 3 (some .int) 0 := ⟨(am_t 231 (by decide +kernel) rfl), (am_t 2 (by decide +kernel) rfl), (by decide +kernel)⟩
theorem mn_X3_firstFault : Cond.instanceMethod yX3_firstFault ∈ am_T := (am_t 229 (by decide +kernel) rfl)
theorem me_X3_firstFault : Cond.selects yX3_firstFault.cls yX3_firstFault yX3_firstFault ∈ am_T := (am_t 230 (by decide +kernel) rfl)
theorem mf_X6_fault : am_MF yX6_fault cX6_fault 1 (some .int) 0 := ⟨(am_t 227 (by decide +kernel) rfl), (am_t 1 (by decide +kernel) rfl), (by decide +kernel)⟩
theorem mn_X6_fault : Cond.instanceMethod yX6_fault ∈ am_T := (am_t 225 (by decide +kernel) rfl)
theorem me_X6_fault : Cond.selects yX6_fault.cls yX6_fault yX6_fault ∈ am_T := (am_t 226 (by decide +kernel) rfl)
theorem mf_X2_areJoined : am_MF yX2_areJoined cX2_areJoined 3 (some .boolean) 2 := ⟨(am_t 454 (by decide +kernel) rfl), (am_t 5 (by decide +kernel) rfl), (by decide +kernel)⟩
theorem mn_X2_areJoined : Cond.instanceMethod yX2_areJoined ∈ am_T := (am_t 452 (by decide +kernel) rfl)
theorem me_X2_areJoined : Cond.selects yX2_areJoined.cls yX2_areJoined yX2_areJoined ∈ am_T := (am_t 453 (by decide +kernel) rfl)
theorem mf_X6_joined : am_MF yX6_joined cX6_joined 4 (some .int) 3 := ⟨(am_t 450 (by decide +kernel) rfl), (am_t 1 (by decide +kernel) rfl), (by decide +kernel)⟩
theorem mn_X6_joined : Cond.instanceMethod yX6_joined ∈ am_T := (am_t 448 (by decide +kernel) rfl)
theorem me_X6_joined : Cond.selects yX6_joined.cls yX6_joined yX6_joined ∈ am_T := (am_t 449 (by decide +kernel) rfl)
theorem mf_X6_areJoinedInTrial : am_MF yX6_areJoinedInTrial cX6_areJoinedInTrial 4 (some .boolean) 3 := ⟨(am_t 531 (by decide +kernel) rfl), (am_t 1 (by decide +kernel) rfl), (by decide +kernel)⟩
theorem mn_X6_areJoinedInTrial : Cond.instanceMethod yX6_areJoinedInTrial ∈ am_T := (am_t 530 (by decide +kernel) rfl)
theorem me_X6_areJoinedInTrial : Cond.selects yX6_areJoinedInTrial.cls yX6_areJoinedInTrial yX6_areJoinedInTrial ∈ am_T := am_s 18 (by decide +kernel) rfl
theorem mf_X6_stands : am_MF yX6_stands cX6_stands 6 (some .boolean) 1 := ⟨(am_t 527 (by decide +kernel) rfl), (am_t 1 (by decide +kernel) rfl), (by decide +kernel)⟩
theorem mn_X6_stands : Cond.instanceMethod yX6_stands ∈ am_T := (am_t 526 (by decide +kernel) rfl)
theorem me_X6_stands : Cond.selects yX6_stands.cls yX6_stands yX6_stands ∈ am_T := am_s 17 (by decide +kernel) rfl
theorem mf_X6_judge : am_MF yX6_judge cX6_judge 7 (some .int) 2 := ⟨(am_t 519 (by decide +kernel) rfl), (am_t 1 (by decide +kernel) rfl), (by decide +kernel)⟩
theorem mn_X6_judge : Cond.instanceMethod yX6_judge ∈ am_T := (am_t 517 (by decide +kernel) rfl)
theorem me_X6_judge : Cond.selects yX6_judge.cls yX6_judge yX6_judge ∈ am_T := (am_t 518 (by decide +kernel) rfl)
theorem mf_X6_keep : am_MF yX6_keep cX6_keep 2 (some .int) 1 := ⟨(am_t 637 (by decide +kernel) rfl), (am_t 1 (by decide +kernel) rfl), (by decide +kernel)⟩
theorem mn_X6_keep : Cond.instanceMethod yX6_keep ∈ am_T := (am_t 635 (by decide +kernel) rfl)
theorem me_X6_keep : Cond.selects yX6_keep.cls yX6_keep yX6_keep ∈ am_T := (am_t 636 (by decide +kernel) rfl)
theorem mf_X6_knot : am_MF yX6_knot cX6_knot 4 (some .int) 3 := ⟨(am_t 443 (by decide +kernel) rfl), (am_t 1 (by decide +kernel) rfl), (by decide +kernel)⟩
theorem mn_X6_knot : Cond.instanceMethod yX6_knot ∈ am_T := (am_t 441 (by decide +kernel) rfl)
theorem me_X6_knot : Cond.selects yX6_knot.cls yX6_knot yX6_knot ∈ am_T := (am_t 442 (by decide +kernel) rfl)
theorem mf_X6_leastApart : am_MF yX6_leastApart cX6_leastApart 6 (some .int) 2 := ⟨(am_t 511 (by decide +kernel) rfl), (am_t 1 (by decide +kernel) rfl), (by decide +kernel)⟩
theorem mn_X6_leastApart : Cond.instanceMethod yX6_leastApart ∈ am_T := (am_t 510 (by decide +kernel) rfl)
theorem me_X6_leastApart : Cond.selects yX6_leastApart.cls yX6_leastApart yX6_leastApart ∈ am_T := am_s 16 (by decide +kernel) rfl
theorem mf_X1_numbersOf : am_MF yX1_numbersOf cX1_numbersOf 4 (some .int) 1 := ⟨(am_t 515 (by decide +kernel) rfl), (am_t 6 (by decide +kernel) rfl), (by decide +kernel)⟩
theorem mn_X1_numbersOf : Cond.instanceMethod yX1_numbersOf ∈ am_T := (am_t 513 (by decide +kernel) rfl)
theorem me_X1_numbersOf : Cond.selects yX1_numbersOf.cls yX1_numbersOf yX1_numbersOf ∈ am_T := (am_t 514 (by decide +kernel) rfl)
theorem mf_X6_least : am_MF yX6_least cX6_least 6 (some .int) 4 := ⟨(am_t 507 (by decide +kernel) rfl), (am_t 1 (by decide +kernel) rfl), (by decide +kernel)⟩
theorem mn_X6_least : Cond.instanceMethod yX6_least ∈ am_T := (am_t 505 (by decide +kernel) rfl)
theorem me_X6_least : Cond.selects yX6_least.cls yX6_least yX6_least ∈ am_T := (am_t 506 (by decide +kernel) rfl)
theorem mf_X5_lastOf : am_MF yX5_lastOf cX5_lastOf 4 (some .int) 2 := ⟨(am_t 289 (by decide +kernel) rfl), (am_t 3 (by decide +kernel) rfl), (by decide +kernel)⟩
theorem mn_X5_lastOf : Cond.instanceMethod yX5_lastOf ∈ am_T := (am_t 287 (by decide +kernel) rfl)
theorem me_X5_lastOf : Cond.selects yX5_lastOf.cls yX5_lastOf yX5_lastOf ∈ am_T := (am_t 288 (by decide +kernel) rfl)
theorem mf_X3_layOut : am_MF yX3_layOut cX3_layOut 3 (none) 1 := ⟨(am_t 258 (by decide +kernel) rfl), (am_t 2 (by decide +kernel) rfl), (by decide +kernel)⟩
theorem mn_X3_layOut : Cond.instanceMethod yX3_layOut ∈ am_T := (am_t 256 (by decide +kernel) rfl)
theorem me_X3_layOut : Cond.selects yX3_layOut.cls yX3_layOut yX3_layOut ∈ am_T := (am_t 257 (by decide +kernel) rfl)
theorem mf_X6_life : am_MF yX6_life cX6_life 2 (some .int) 0 := ⟨(am_t 254 (by decide +kernel) rfl), (am_t 1 (by decide +kernel) rfl), (by decide +kernel)⟩
theorem mn_X6_life : Cond.instanceMethod yX6_life ∈ am_T := (am_t 252 (by decide +kernel) rfl)
theorem me_X6_life : Cond.selects yX6_life.cls yX6_life yX6_life ∈ am_T := (am_t 253 (by decide +kernel) rfl)
theorem mf_X4_lookAt : am_MF yX4_lookAt cX4_lookAt 4 (none) 2 := ⟨(am_t 555 (by decide +kernel) rfl), (am_t 7 (by decide +kernel) rfl), (by decide +kernel)⟩
theorem mn_X4_lookAt : Cond.instanceMethod yX4_lookAt ∈ am_T := (am_t 553 (by decide +kernel) rfl)
theorem me_X4_lookAt : Cond.selects yX4_lookAt.cls yX4_lookAt yX4_lookAt ∈ am_T := (am_t 554 (by decide +kernel) rfl)
theorem mf_X4_leads : am_MF yX4_leads cX4_leads 4 (some .boolean) 3 := ⟨(am_t 580 (by decide +kernel) rfl), (am_t 7 (by decide +kernel) rfl), (by decide +kernel)⟩
theorem mn_X4_leads : Cond.instanceMethod yX4_leads ∈ am_T := (am_t 579 (by decide +kernel) rfl)
theorem me_X4_leads : Cond.selects yX4_leads.cls yX4_leads yX4_leads ∈ am_T := am_s 23 (by decide +kernel) rfl
theorem mf_X4_joinedWith : am_MF yX4_joinedWith cX4_joinedWith 5 (some .boolean) 4 := ⟨(am_t 576 (by decide +kernel) rfl), (am_t 7 (by decide +kernel) rfl), (by decide +kernel)⟩
theorem mn_X4_joinedWith : Cond.instanceMethod yX4_joinedWith ∈ am_T := (am_t 575 (by decide +kernel) rfl)
theorem me_X4_joinedWith : Cond.selects yX4_joinedWith.cls yX4_joinedWith yX4_joinedWith ∈ am_T := am_s 22 (by decide +kernel) rfl
theorem mf_X4_allSoWith : am_MF yX4_allSoWith cX4_allSoWith 5 (some .boolean) 3 := ⟨(am_t 572 (by decide +kernel) rfl), (am_t 7 (by decide +kernel) rfl), (by decide +kernel)⟩
theorem mn_X4_allSoWith : Cond.instanceMethod yX4_allSoWith ∈ am_T := (am_t 570 (by decide +kernel) rfl)
theorem me_X4_allSoWith : Cond.selects yX4_allSoWith.cls yX4_allSoWith yX4_allSoWith ∈ am_T := (am_t 571 (by decide +kernel) rfl)
theorem mf_X6_missingEnds : am_MF yX6_missingEnds cX6_missingEnds 7 (some .int) 4 := ⟨(am_t 567 (by decide +kernel) rfl), (am_t 1 (by decide +kernel) rfl), (by decide +kernel)⟩
theorem mn_X6_missingEnds : Cond.instanceMethod yX6_missingEnds ∈ am_T := (am_t 566 (by decide +kernel) rfl)
theorem me_X6_missingEnds : Cond.selects yX6_missingEnds.cls yX6_missingEnds yX6_missingEnds ∈ am_T := am_s 21 (by decide +kernel) rfl
theorem mf_X6_howManyMissing : am_MF yX6_howManyMissing cX6_howManyMissing 6 (some .int) 0 := ⟨(am_t 562 (by decide +kernel) rfl), (am_t 1 (by decide +kernel) rfl), (by decide +kernel)⟩
theorem mn_X6_howManyMissing : Cond.instanceMethod yX6_howManyMissing ∈ am_T := (am_t 561 (by decide +kernel) rfl)
theorem me_X6_howManyMissing : Cond.selects yX6_howManyMissing.cls yX6_howManyMissing yX6_howManyMissing ∈ am_T := am_s 20 (by decide +kernel) rfl
theorem mf_X6_lowestBit : am_MF yX6_lowestBit cX6_lowestBit 2 (some .int) 1 := ⟨(am_t 588 (by decide +kernel) rfl), (am_t 1 (by decide +kernel) rfl), (by decide +kernel)⟩
theorem ms_X6_lowestBit : Cond.static yX6_lowestBit ∈ am_T := (am_t 587 (by decide +kernel) rfl)
theorem mf_X6_firstMissing : am_MF yX6_firstMissing cX6_firstMissing 6 (some .int) 0 := ⟨(am_t 584 (by decide +kernel) rfl), (am_t 1 (by decide +kernel) rfl), (by decide +kernel)⟩
theorem mn_X6_firstMissing : Cond.instanceMethod yX6_firstMissing ∈ am_T := (am_t 583 (by decide +kernel) rfl)
theorem me_X6_firstMissing : Cond.selects yX6_firstMissing.cls yX6_firstMissing yX6_firstMissing ∈ am_T := am_s 24 (by decide +kernel) rfl
theorem mf_X6_missing : am_MF yX6_missing cX6_missing 2 (some .int) 1 := ⟨(am_t 551 (by decide +kernel) rfl), (am_t 1 (by decide +kernel) rfl), (by decide +kernel)⟩
theorem mn_X6_missing : Cond.instanceMethod yX6_missing ∈ am_T := (am_t 549 (by decide +kernel) rfl)
theorem me_X6_missing : Cond.selects yX6_missing.cls yX6_missing yX6_missing ∈ am_T := (am_t 550 (by decide +kernel) rfl)
theorem mf_X5_lyingOn : am_MF yX5_lyingOn cX5_lyingOn 4 (some .int) 1 := ⟨(am_t 322 (by decide +kernel) rfl), (am_t 3 (by decide +kernel) rfl), (by decide +kernel)⟩
theorem mn_X5_lyingOn : Cond.instanceMethod yX5_lyingOn ∈ am_T := (am_t 320 (by decide +kernel) rfl)
theorem me_X5_lyingOn : Cond.selects yX5_lyingOn.cls yX5_lyingOn yX5_lyingOn ∈ am_T := (am_t 321 (by decide +kernel) rfl)
theorem mf_X6_node : am_MF yX6_node cX6_node 2 (some .int) 1 := ⟨(am_t 318 (by decide +kernel) rfl), (am_t 1 (by decide +kernel) rfl), (by decide +kernel)⟩
theorem mn_X6_node : Cond.instanceMethod yX6_node ∈ am_T := (am_t 316 (by decide +kernel) rfl)
theorem me_X6_node : Cond.selects yX6_node.cls yX6_node yX6_node ∈ am_T := (am_t 317 (by decide +kernel) rfl)
theorem mf_X6_put : am_MF yX6_put cX6_put 5 (some .int) 4 := ⟨(am_t 326 (by decide +kernel) rfl), (am_t 1 (by decide +kernel) rfl), (by decide +kernel)⟩
theorem mn_X6_put : Cond.instanceMethod yX6_put ∈ am_T := (am_t 324 (by decide +kernel) rfl)
theorem me_X6_put : Cond.selects yX6_put.cls yX6_put yX6_put ∈ am_T := (am_t 325 (by decide +kernel) rfl)
theorem mf_X4_add : am_MF yX4_add cX4_add 5 (some .int) 4 := ⟨(am_t 543 (by decide +kernel) rfl), (am_t 7 (by decide +kernel) rfl), (by decide +kernel)⟩
theorem mn_X4_add : Cond.instanceMethod yX4_add ∈ am_T := (am_t 541 (by decide +kernel) rfl)
theorem me_X4_add : Cond.selects yX4_add.cls yX4_add yX4_add ∈ am_T := (am_t 542 (by decide +kernel) rfl)
theorem mf_X6_see : am_MF yX6_see cX6_see 5 (some .int) 4 := ⟨(am_t 539 (by decide +kernel) rfl), (am_t 1 (by decide +kernel) rfl), (by decide +kernel)⟩
theorem mn_X6_see : Cond.instanceMethod yX6_see ∈ am_T := (am_t 537 (by decide +kernel) rfl)
theorem me_X6_see : Cond.selects yX6_see.cls yX6_see yX6_see ∈ am_T := (am_t 538 (by decide +kernel) rfl)
theorem mf_X6_seed : am_MF yX6_seed cX6_seed 5 (some .long) 1 := ⟨(am_t 622 (by decide +kernel) rfl), (am_t 1 (by decide +kernel) rfl), (by decide +kernel)⟩
theorem mn_X6_seed : Cond.instanceMethod yX6_seed ∈ am_T := (am_t 620 (by decide +kernel) rfl)
theorem me_X6_seed : Cond.selects yX6_seed.cls yX6_seed yX6_seed ∈ am_T := (am_t 621 (by decide +kernel) rfl)
theorem mf_X1_placeOf : am_MF yX1_placeOf cX1_placeOf 3 (some .int) 1 := ⟨(am_t 600 (by decide +kernel) rfl), (am_t 6 (by decide +kernel) rfl), (by decide +kernel)⟩
theorem mn_X1_placeOf : Cond.instanceMethod yX1_placeOf ∈ am_T := (am_t 598 (by decide +kernel) rfl)
theorem me_X1_placeOf : Cond.selects yX1_placeOf.cls yX1_placeOf yX1_placeOf ∈ am_T := (am_t 599 (by decide +kernel) rfl)
theorem mf_X6_factorial : am_MF yX6_factorial cX6_factorial 4 (some .long) 1 := ⟨(am_t 603 (by decide +kernel) rfl), (am_t 1 (by decide +kernel) rfl), (by decide +kernel)⟩
theorem ms_X6_factorial : Cond.static yX6_factorial ∈ am_T := (am_t 602 (by decide +kernel) rfl)
theorem mf_X6_ordersInWhichItJoins : am_MF yX6_ordersInWhichItJoins cX6_ordersInWhichItJoins 8 (some .long) 1 := ⟨(am_t 596 (by decide +kernel) rfl), (am_t 1 (by decide +kernel) rfl), (by decide +kernel)⟩
theorem mn_X6_ordersInWhichItJoins : Cond.instanceMethod yX6_ordersInWhichItJoins ∈ am_T := (am_t 595 (by decide +kernel) rfl)
theorem me_X6_ordersInWhichItJoins : Cond.selects yX6_ordersInWhichItJoins.cls yX6_ordersInWhichItJoins yX6_ordersInWhichItJoins ∈ am_T := am_s 25 (by decide +kernel) rfl
theorem mf_X6_share : am_MF yX6_share cX6_share 4 (some .int) 3 := ⟨(am_t 592 (by decide +kernel) rfl), (am_t 1 (by decide +kernel) rfl), (by decide +kernel)⟩
theorem mn_X6_share : Cond.instanceMethod yX6_share ∈ am_T := (am_t 590 (by decide +kernel) rfl)
theorem me_X6_share : Cond.selects yX6_share.cls yX6_share yX6_share ∈ am_T := (am_t 591 (by decide +kernel) rfl)
theorem mf_X6_side : am_MF yX6_side cX6_side 4 (some .int) 3 := ⟨(am_t 458 (by decide +kernel) rfl), (am_t 1 (by decide +kernel) rfl), (by decide +kernel)⟩
theorem mn_X6_side : Cond.instanceMethod yX6_side ∈ am_T := (am_t 456 (by decide +kernel) rfl)
theorem me_X6_side : Cond.selects yX6_side.cls yX6_side yX6_side ∈ am_T := (am_t 457 (by decide +kernel) rfl)
theorem mf_X5_howManyNodes : am_MF yX5_howManyNodes cX5_howManyNodes 4 (some .int) 1 := ⟨(am_t 306 (by decide +kernel) rfl), (am_t 3 (by decide +kernel) rfl), (by decide +kernel)⟩
theorem mn_X5_howManyNodes : Cond.instanceMethod yX5_howManyNodes ∈ am_T := (am_t 304 (by decide +kernel) rfl)
theorem me_X5_howManyNodes : Cond.selects yX5_howManyNodes.cls yX5_howManyNodes yX5_howManyNodes ∈ am_T := (am_t 305 (by decide +kernel) rfl)
theorem mf_X6_span : am_MF yX6_span cX6_span 3 (some .int) 2 := ⟨(am_t 301 (by decide +kernel) rfl), (am_t 1 (by decide +kernel) rfl), (by decide +kernel)⟩
theorem mn_X6_span : Cond.instanceMethod yX6_span ∈ am_T := (am_t 299 (by decide +kernel) rfl)
theorem me_X6_span : Cond.selects yX6_span.cls yX6_span yX6_span ∈ am_T := (am_t 300 (by decide +kernel) rfl)
theorem mf_X0_takeBackLast : am_MF yX0_takeBackLast cX0_takeBackLast 2 (none) 1 := ⟨(am_t 369 (by decide +kernel) rfl), (am_t 4 (by decide +kernel) rfl), (by decide +kernel)⟩
theorem mn_X0_takeBackLast : Cond.instanceMethod yX0_takeBackLast ∈ am_T := (am_t 367 (by decide +kernel) rfl)
theorem me_X0_takeBackLast : Cond.selects yX0_takeBackLast.cls yX0_takeBackLast yX0_takeBackLast ∈ am_T := (am_t 368 (by decide +kernel) rfl)
theorem mf_X6_undo : am_MF yX6_undo cX6_undo 1 (some .int) 0 := ⟨(am_t 365 (by decide +kernel) rfl), (am_t 1 (by decide +kernel) rfl), (by decide +kernel)⟩
theorem mn_X6_undo : Cond.instanceMethod yX6_undo ∈ am_T := (am_t 363 (by decide +kernel) rfl)
theorem me_X6_undo : Cond.selects yX6_undo.cls yX6_undo yX6_undo ∈ am_T := (am_t 364 (by decide +kernel) rfl)
theorem mf_X6_unsee : am_MF yX6_unsee cX6_unsee 2 (some .int) 0 := ⟨(am_t 547 (by decide +kernel) rfl), (am_t 1 (by decide +kernel) rfl), (by decide +kernel)⟩
theorem mn_X6_unsee : Cond.instanceMethod yX6_unsee ∈ am_T := (am_t 545 (by decide +kernel) rfl)
theorem me_X6_unsee : Cond.selects yX6_unsee.cls yX6_unsee yX6_unsee ∈ am_T := (am_t 546 (by decide +kernel) rfl)
theorem mf_X6_when : am_MF yX6_when cX6_when 5 (some .int) 2 := ⟨(am_t 482 (by decide +kernel) rfl), (am_t 1 (by decide +kernel) rfl), (by decide +kernel)⟩
theorem mn_X6_when : Cond.instanceMethod yX6_when ∈ am_T := (am_t 480 (by decide +kernel) rfl)
theorem me_X6_when : Cond.selects yX6_when.cls yX6_when yX6_when ∈ am_T := (am_t 481 (by decide +kernel) rfl)
theorem mf_X6_wipe : am_MF yX6_wipe cX6_wipe 2 (some .int) 0 := ⟨(am_t 223 (by decide +kernel) rfl), (am_t 1 (by decide +kernel) rfl), (by decide +kernel)⟩
theorem mn_X6_wipe : Cond.instanceMethod yX6_wipe ∈ am_T := (am_t 221 (by decide +kernel) rfl)
theorem me_X6_wipe : Cond.selects yX6_wipe.cls yX6_wipe yX6_wipe ∈ am_T := (am_t 222 (by decide +kernel) rfl)
theorem mf_X6_lyingOnAll : am_MF yX6_lyingOnAll cX6_lyingOnAll 3 (some .int) 0 := ⟨(am_t 467 (by decide +kernel) rfl), (am_t 1 (by decide +kernel) rfl), (by decide +kernel)⟩
theorem mn_X6_lyingOnAll : Cond.instanceMethod yX6_lyingOnAll ∈ am_T := (am_t 466 (by decide +kernel) rfl)
theorem me_X6_lyingOnAll : Cond.selects yX6_lyingOnAll.cls yX6_lyingOnAll yX6_lyingOnAll ∈ am_T := am_s 14 (by decide +kernel) rfl
theorem mf_X6_joiningOnAll : am_MF yX6_joiningOnAll cX6_joiningOnAll 3 (some .int) 0 := ⟨(am_t 477 (by decide +kernel) rfl), (am_t 1 (by decide +kernel) rfl), (by decide +kernel)⟩
theorem mn_X6_joiningOnAll : Cond.instanceMethod yX6_joiningOnAll ∈ am_T := (am_t 476 (by decide +kernel) rfl)
theorem me_X6_joiningOnAll : Cond.selects yX6_joiningOnAll.cls yX6_joiningOnAll yX6_joiningOnAll ∈ am_T := am_s 15 (by decide +kernel) rfl
theorem mf_X6_work : am_MF yX6_work cX6_work 2 (some .int) 1 := ⟨(am_t 463 (by decide +kernel) rfl), (am_t 1 (by decide +kernel) rfl), (by decide +kernel)⟩
theorem mn_X6_work : Cond.instanceMethod yX6_work ∈ am_T := (am_t 461 (by decide +kernel) rfl)
theorem me_X6_work : Cond.selects yX6_work.cls yX6_work yX6_work ∈ am_T := (am_t 462 (by decide +kernel) rfl)
theorem mf_X3_append : am_MF yX3_append cX3_append 2 (some .int) 1 := ⟨(am_t 219 (by decide +kernel) rfl), (am_t 2 (by decide +kernel) rfl), (by decide +kernel)⟩
theorem mn_X3_append : Cond.instanceMethod yX3_append ∈ am_T := (am_t 217 (by decide +kernel) rfl)
theorem me_X3_append : Cond.selects yX3_append.cls yX3_append yX3_append ∈ am_T := (am_t 218 (by decide +kernel) rfl)
theorem mf_X6_write : am_MF yX6_write cX6_write 2 (some .int) 1 := ⟨(am_t 215 (by decide +kernel) rfl), (am_t 1 (by decide +kernel) rfl), (by decide +kernel)⟩
theorem mn_X6_write : Cond.instanceMethod yX6_write ∈ am_T := (am_t 213 (by decide +kernel) rfl)
theorem me_X6_write : Cond.selects yX6_write.cls yX6_write yX6_write ∈ am_T := (am_t 214 (by decide +kernel) rfl)
theorem mf_X7_in : am_MF yX7_in cX7_in 6 (some .boolean) 3 := ⟨(am_t 728 (by decide +kernel) rfl), (am_t 8 (by decide +kernel) rfl), (by decide +kernel)⟩
theorem ms_X7_in : Cond.static yX7_in ∈ am_T := (am_t 727 (by decide +kernel) rfl)
theorem mf_X7_many : am_MF yX7_many cX7_many 2 (some .int) 1 := ⟨(am_t 780 (by decide +kernel) rfl), (am_t 8 (by decide +kernel) rfl), (by decide +kernel)⟩
theorem mn_X7_many : Cond.instanceMethod yX7_many ∈ am_T := (am_t 779 (by decide +kernel) rfl)
theorem me_X7_many : Cond.selects yX7_many.cls yX7_many yX7_many ∈ am_T := am_s 34 (by decide +kernel) rfl
theorem mf_X7_again : am_MF yX7_again cX7_again 3 (some .int) 1 := ⟨(am_t 1043 (by decide +kernel) rfl), (am_t 8 (by decide +kernel) rfl), (by decide +kernel)⟩
theorem mn_X7_again : Cond.instanceMethod yX7_again ∈ am_T := (am_t 1041 (by decide +kernel) rfl)
theorem me_X7_again : Cond.selects yX7_again.cls yX7_again yX7_again ∈ am_T := (am_t 1042 (by decide +kernel) rfl)
theorem mf_X7_isTime : am_MF yX7_isTime cX7_isTime 1 (some .boolean) 1 := ⟨(am_t 831 (by decide +kernel) rfl), (am_t 8 (by decide +kernel) rfl), (by decide +kernel)⟩
theorem ms_X7_isTime : Cond.static yX7_isTime ∈ am_T := (am_t 830 (by decide +kernel) rfl)
theorem mf_X7_clearKnots : am_MF yX7_clearKnots cX7_clearKnots 2 (none) 0 := ⟨(am_t 881 (by decide +kernel) rfl), (am_t 8 (by decide +kernel) rfl), (by decide +kernel)⟩
theorem mn_X7_clearKnots : Cond.instanceMethod yX7_clearKnots ∈ am_T := (am_t 880 (by decide +kernel) rfl)
theorem me_X7_clearKnots : Cond.selects yX7_clearKnots.cls yX7_clearKnots yX7_clearKnots ∈ am_T := am_s 44 (by decide +kernel) rfl
theorem mf_X7_has : am_MF yX7_has cX7_has 2 (some .boolean) 2 := ⟨(am_t 884 (by decide +kernel) rfl), (am_t 8 (by decide +kernel) rfl), (by decide +kernel)⟩
theorem ms_X7_has : Cond.static yX7_has ∈ am_T := (am_t 883 (by decide +kernel) rfl)
theorem mf_X7_spanOf : am_MF yX7_spanOf cX7_spanOf 3 (some .int) 2 := ⟨(am_t 784 (by decide +kernel) rfl), (am_t 8 (by decide +kernel) rfl), (by decide +kernel)⟩
theorem mn_X7_spanOf : Cond.instanceMethod yX7_spanOf ∈ am_T := (am_t 783 (by decide +kernel) rfl)
theorem me_X7_spanOf : Cond.selects yX7_spanOf.cls yX7_spanOf yX7_spanOf ∈ am_T := am_s 35 (by decide +kernel) rfl
theorem mf_X7_fromOf : am_MF yX7_fromOf cX7_fromOf 1 (some .int) 1 := ⟨(am_t 764 (by decide +kernel) rfl), (am_t 8 (by decide +kernel) rfl), (by decide +kernel)⟩
theorem ms_X7_fromOf : Cond.static yX7_fromOf ∈ am_T := (am_t 763 (by decide +kernel) rfl)
theorem mf_X7_toOf : am_MF yX7_toOf cX7_toOf 1 (some .int) 1 := ⟨(am_t 793 (by decide +kernel) rfl), (am_t 8 (by decide +kernel) rfl), (by decide +kernel)⟩
theorem ms_X7_toOf : Cond.static yX7_toOf ∈ am_T := (am_t 792 (by decide +kernel) rfl)
theorem mf_X7_livesAt : am_MF yX7_livesAt cX7_livesAt 2 (some .boolean) 2 := ⟨(am_t 887 (by decide +kernel) rfl), (am_t 8 (by decide +kernel) rfl), (by decide +kernel)⟩
theorem ms_X7_livesAt : Cond.static yX7_livesAt ∈ am_T := (am_t 886 (by decide +kernel) rfl)
theorem mf_X7_lowOf : am_MF yX7_lowOf cX7_lowOf 1 (some .int) 1 := ⟨(am_t 787 (by decide +kernel) rfl), (am_t 8 (by decide +kernel) rfl), (by decide +kernel)⟩
theorem ms_X7_lowOf : Cond.static yX7_lowOf ∈ am_T := (am_t 786 (by decide +kernel) rfl)
theorem mf_X7_rootOf : am_MF yX7_rootOf cX7_rootOf 3 (some .int) 1 := ⟨(am_t 895 (by decide +kernel) rfl), (am_t 8 (by decide +kernel) rfl), (by decide +kernel)⟩
theorem mn_X7_rootOf : Cond.instanceMethod yX7_rootOf ∈ am_T := (am_t 894 (by decide +kernel) rfl)
theorem me_X7_rootOf : Cond.selects yX7_rootOf.cls yX7_rootOf yX7_rootOf ∈ am_T := am_s 46 (by decide +kernel) rfl
theorem mf_X7_highOf : am_MF yX7_highOf cX7_highOf 1 (some .int) 1 := ⟨(am_t 790 (by decide +kernel) rfl), (am_t 8 (by decide +kernel) rfl), (by decide +kernel)⟩
theorem ms_X7_highOf : Cond.static yX7_highOf ∈ am_T := (am_t 789 (by decide +kernel) rfl)
theorem mf_X7_joins : am_MF yX7_joins cX7_joins 7 (some .boolean) 1 := ⟨(am_t 891 (by decide +kernel) rfl), (am_t 8 (by decide +kernel) rfl), (by decide +kernel)⟩
theorem mn_X7_joins : Cond.instanceMethod yX7_joins ∈ am_T := (am_t 890 (by decide +kernel) rfl)
theorem me_X7_joins : Cond.selects yX7_joins.cls yX7_joins yX7_joins ∈ am_T := am_s 45 (by decide +kernel) rfl
theorem mf_X7_partsBy : am_MF yX7_partsBy cX7_partsBy 6 (some .int) 3 := ⟨(am_t 877 (by decide +kernel) rfl), (am_t 8 (by decide +kernel) rfl), (by decide +kernel)⟩
theorem mn_X7_partsBy : Cond.instanceMethod yX7_partsBy ∈ am_T := (am_t 876 (by decide +kernel) rfl)
theorem me_X7_partsBy : Cond.selects yX7_partsBy.cls yX7_partsBy yX7_partsBy ∈ am_T := am_s 43 (by decide +kernel) rfl
theorem mf_X7_livingAt : am_MF yX7_livingAt cX7_livingAt 4 (some .int) 1 := ⟨(am_t 899 (by decide +kernel) rfl), (am_t 8 (by decide +kernel) rfl), (by decide +kernel)⟩
theorem mn_X7_livingAt : Cond.instanceMethod yX7_livingAt ∈ am_T := (am_t 898 (by decide +kernel) rfl)
theorem me_X7_livingAt : Cond.selects yX7_livingAt.cls yX7_livingAt yX7_livingAt ∈ am_T := am_s 47 (by decide +kernel) rfl
theorem mf_X7_spreadSides : am_MF yX7_spreadSides cX7_spreadSides 7 (none) 1 := ⟨(am_t 911 (by decide +kernel) rfl), (am_t 8 (by decide +kernel) rfl), (by decide +kernel)⟩
theorem mn_X7_spreadSides : Cond.instanceMethod yX7_spreadSides ∈ am_T := (am_t 910 (by decide +kernel) rfl)
theorem me_X7_spreadSides : Cond.selects yX7_spreadSides.cls yX7_spreadSides yX7_spreadSides ∈ am_T := am_s 50 (by decide +kernel) rfl
theorem mf_X7_findSides : am_MF yX7_findSides cX7_findSides 4 (none) 1 := ⟨(am_t 907 (by decide +kernel) rfl), (am_t 8 (by decide +kernel) rfl), (by decide +kernel)⟩
theorem mn_X7_findSides : Cond.instanceMethod yX7_findSides ∈ am_T := (am_t 906 (by decide +kernel) rfl)
theorem me_X7_findSides : Cond.selects yX7_findSides.cls yX7_findSides yX7_findSides ∈ am_T := am_s 49 (by decide +kernel) rfl
theorem mf_X7_oddParts : am_MF yX7_oddParts cX7_oddParts 4 (some .int) 1 := ⟨(am_t 903 (by decide +kernel) rfl), (am_t 8 (by decide +kernel) rfl), (by decide +kernel)⟩
theorem mn_X7_oddParts : Cond.instanceMethod yX7_oddParts ∈ am_T := (am_t 902 (by decide +kernel) rfl)
theorem me_X7_oddParts : Cond.selects yX7_oddParts.cls yX7_oddParts yX7_oddParts ∈ am_T := am_s 48 (by decide +kernel) rfl
theorem mf_X7_depthOf : am_MF yX7_depthOf cX7_depthOf 3 (some .int) 1 := ⟨(am_t 808 (by decide +kernel) rfl), (am_t 8 (by decide +kernel) rfl), (by decide +kernel)⟩
theorem ms_X7_depthOf : Cond.static yX7_depthOf ∈ am_T := (am_t 807 (by decide +kernel) rfl)
theorem mf_X7_firstOf : am_MF yX7_firstOf cX7_firstOf 2 (some .int) 1 := ⟨(am_t 805 (by decide +kernel) rfl), (am_t 8 (by decide +kernel) rfl), (by decide +kernel)⟩
theorem ms_X7_firstOf : Cond.static yX7_firstOf ∈ am_T := (am_t 804 (by decide +kernel) rfl)
theorem mf_X7_lastOf : am_MF yX7_lastOf cX7_lastOf 1 (some .int) 1 := ⟨(am_t 811 (by decide +kernel) rfl), (am_t 8 (by decide +kernel) rfl), (by decide +kernel)⟩
theorem ms_X7_lastOf : Cond.static yX7_lastOf ∈ am_T := (am_t 810 (by decide +kernel) rfl)
theorem mf_X7_fills : am_MF yX7_fills cX7_fills 2 (some .boolean) 2 := ⟨(am_t 802 (by decide +kernel) rfl), (am_t 8 (by decide +kernel) rfl), (by decide +kernel)⟩
theorem ms_X7_fills : Cond.static yX7_fills ∈ am_T := (am_t 801 (by decide +kernel) rfl)
theorem mf_X7_lies : am_MF yX7_lies cX7_lies 2 (some .boolean) 2 := ⟨(am_t 799 (by decide +kernel) rfl), (am_t 8 (by decide +kernel) rfl), (by decide +kernel)⟩
theorem ms_X7_lies : Cond.static yX7_lies ∈ am_T := (am_t 798 (by decide +kernel) rfl)
theorem mf_X7_walkTo : am_MF yX7_walkTo cX7_walkTo 6 (some .int) 1 := ⟨(am_t 919 (by decide +kernel) rfl), (am_t 8 (by decide +kernel) rfl), (by decide +kernel)⟩
theorem mn_X7_walkTo : Cond.instanceMethod yX7_walkTo ∈ am_T := (am_t 918 (by decide +kernel) rfl)
theorem me_X7_walkTo : Cond.selects yX7_walkTo.cls yX7_walkTo yX7_walkTo ∈ am_T := am_s 52 (by decide +kernel) rfl
theorem mf_X7_depthAt : am_MF yX7_depthAt cX7_depthAt 4 (some .int) 1 := ⟨(am_t 923 (by decide +kernel) rfl), (am_t 8 (by decide +kernel) rfl), (by decide +kernel)⟩
theorem mn_X7_depthAt : Cond.instanceMethod yX7_depthAt ∈ am_T := (am_t 922 (by decide +kernel) rfl)
theorem me_X7_depthAt : Cond.selects yX7_depthAt.cls yX7_depthAt yX7_depthAt ∈ am_T := am_s 53 (by decide +kernel) rfl
theorem mf_X7_greatestDepth : am_MF yX7_greatestDepth cX7_greatestDepth 4 (some .int) 1 := ⟨(am_t 915 (by decide +kernel) rfl), (am_t 8 (by decide +kernel) rfl), (by decide +kernel)⟩
theorem mn_X7_greatestDepth : Cond.instanceMethod yX7_greatestDepth ∈ am_T := (am_t 914 (by decide +kernel) rfl)
theorem me_X7_greatestDepth : Cond.selects yX7_greatestDepth.cls yX7_greatestDepth yX7_greatestDepth ∈ am_T := am_s 51 (by decide +kernel) rfl
theorem mf_X7_greatestPart : am_MF yX7_greatestPart cX7_greatestPart 4 (some .int) 1 := ⟨(am_t 927 (by decide +kernel) rfl), (am_t 8 (by decide +kernel) rfl), (by decide +kernel)⟩
theorem mn_X7_greatestPart : Cond.instanceMethod yX7_greatestPart ∈ am_T := (am_t 926 (by decide +kernel) rfl)
theorem me_X7_greatestPart : Cond.selects yX7_greatestPart.cls yX7_greatestPart yX7_greatestPart ∈ am_T := am_s 54 (by decide +kernel) rfl
theorem mf_X7_at : am_MF yX7_at cX7_at 3 (some .int) 2 := ⟨(am_t 872 (by decide +kernel) rfl), (am_t 8 (by decide +kernel) rfl), (by decide +kernel)⟩
theorem mn_X7_at : Cond.instanceMethod yX7_at ∈ am_T := (am_t 870 (by decide +kernel) rfl)
theorem me_X7_at : Cond.selects yX7_at.cls yX7_at yX7_at ∈ am_T := (am_t 871 (by decide +kernel) rfl)
theorem mf_X7_bridges : am_MF yX7_bridges cX7_bridges 5 (some .int) 1 := ⟨(am_t 959 (by decide +kernel) rfl), (am_t 8 (by decide +kernel) rfl), (by decide +kernel)⟩
theorem mn_X7_bridges : Cond.instanceMethod yX7_bridges ∈ am_T := (am_t 957 (by decide +kernel) rfl)
theorem me_X7_bridges : Cond.selects yX7_bridges.cls yX7_bridges yX7_bridges ∈ am_T := (am_t 958 (by decide +kernel) rfl)
theorem mf_X7_filledTimes : am_MF yX7_filledTimes cX7_filledTimes 3 (some .int) 0 := ⟨(am_t 1051 (by decide +kernel) rfl), (am_t 8 (by decide +kernel) rfl), (by decide +kernel)⟩
theorem mn_X7_filledTimes : Cond.instanceMethod yX7_filledTimes ∈ am_T := (am_t 1050 (by decide +kernel) rfl)
theorem me_X7_filledTimes : Cond.selects yX7_filledTimes.cls yX7_filledTimes yX7_filledTimes ∈ am_T := am_s 62 (by decide +kernel) rfl
theorem mf_X7_timesTogether : am_MF yX7_timesTogether cX7_timesTogether 3 (some .int) 0 := ⟨(am_t 1055 (by decide +kernel) rfl), (am_t 8 (by decide +kernel) rfl), (by decide +kernel)⟩
theorem mn_X7_timesTogether : Cond.instanceMethod yX7_timesTogether ∈ am_T := (am_t 1054 (by decide +kernel) rfl)
theorem me_X7_timesTogether : Cond.selects yX7_timesTogether.cls yX7_timesTogether yX7_timesTogether ∈ am_T := am_s 63 (by decide +kernel) rfl
theorem mf_X7_count : am_MF yX7_count cX7_count 2 (some .int) 1 := ⟨(am_t 1047 (by decide +kernel) rfl), (am_t 8 (by decide +kernel) rfl), (by decide +kernel)⟩
theorem mn_X7_count : Cond.instanceMethod yX7_count ∈ am_T := (am_t 1045 (by decide +kernel) rfl)
theorem me_X7_count : Cond.selects yX7_count.cls yX7_count yX7_count ∈ am_T := (am_t 1046 (by decide +kernel) rfl)
theorem mf_X7_isSpan : am_MF yX7_isSpan cX7_isSpan 2 (some .boolean) 1 := ⟨(am_t 776 (by decide +kernel) rfl), (am_t 8 (by decide +kernel) rfl), (by decide +kernel)⟩
theorem mn_X7_isSpan : Cond.instanceMethod yX7_isSpan ∈ am_T := (am_t 775 (by decide +kernel) rfl)
theorem me_X7_isSpan : Cond.selects yX7_isSpan.cls yX7_isSpan yX7_isSpan ∈ am_T := am_s 33 (by decide +kernel) rfl
theorem mf_X7_keepAct : am_MF yX7_keepAct cX7_keepAct 2 (none) 0 := ⟨(am_t 840 (by decide +kernel) rfl), (am_t 8 (by decide +kernel) rfl), (by decide +kernel)⟩
theorem mn_X7_keepAct : Cond.instanceMethod yX7_keepAct ∈ am_T := (am_t 839 (by decide +kernel) rfl)
theorem me_X7_keepAct : Cond.selects yX7_keepAct.cls yX7_keepAct yX7_keepAct ∈ am_T := am_s 38 (by decide +kernel) rfl
theorem mf_X7_cutOn : am_MF yX7_cutOn cX7_cutOn 4 (none) 2 := ⟨(am_t 852 (by decide +kernel) rfl), (am_t 8 (by decide +kernel) rfl), (by decide +kernel)⟩
theorem mn_X7_cutOn : Cond.instanceMethod yX7_cutOn ∈ am_T := (am_t 851 (by decide +kernel) rfl)
theorem me_X7_cutOn : Cond.selects yX7_cutOn.cls yX7_cutOn yX7_cutOn ∈ am_T := am_s 40 (by decide +kernel) rfl
theorem mf_X7_cut : am_MF yX7_cut cX7_cut 2 (some .int) 1 := ⟨(am_t 848 (by decide +kernel) rfl), (am_t 8 (by decide +kernel) rfl), (by decide +kernel)⟩
theorem mn_X7_cut : Cond.instanceMethod yX7_cut ∈ am_T := (am_t 846 (by decide +kernel) rfl)
theorem me_X7_cut : Cond.selects yX7_cut.cls yX7_cut yX7_cut ∈ am_T := (am_t 847 (by decide +kernel) rfl)
theorem mf_X7_layTrial : am_MF yX7_layTrial cX7_layTrial 2 (none) 0 := ⟨(am_t 976 (by decide +kernel) rfl), (am_t 8 (by decide +kernel) rfl), (by decide +kernel)⟩
theorem mn_X7_layTrial : Cond.instanceMethod yX7_layTrial ∈ am_T := (am_t 975 (by decide +kernel) rfl)
theorem me_X7_layTrial : Cond.selects yX7_layTrial.cls yX7_layTrial yX7_layTrial ∈ am_T := am_s 56 (by decide +kernel) rfl
theorem mf_X7_isKnot : am_MF yX7_isKnot cX7_isKnot 1 (some .boolean) 1 := ⟨(am_t 827 (by decide +kernel) rfl), (am_t 8 (by decide +kernel) rfl), (by decide +kernel)⟩
theorem ms_X7_isKnot : Cond.static yX7_isKnot ∈ am_T := (am_t 826 (by decide +kernel) rfl)
theorem mf_X7_asOne : am_MF yX7_asOne cX7_asOne 6 (some .int) 4 := ⟨(am_t 761 (by decide +kernel) rfl), (am_t 8 (by decide +kernel) rfl), (by decide +kernel)⟩
theorem ms_X7_asOne : Cond.static yX7_asOne ∈ am_T := (am_t 760 (by decide +kernel) rfl)
theorem mf_X7_isFree : am_MF yX7_isFree cX7_isFree 8 (some .boolean) 3 := ⟨(am_t 836 (by decide +kernel) rfl), (am_t 8 (by decide +kernel) rfl), (by decide +kernel)⟩
theorem mn_X7_isFree : Cond.instanceMethod yX7_isFree ∈ am_T := (am_t 835 (by decide +kernel) rfl)
theorem me_X7_isFree : Cond.selects yX7_isFree.cls yX7_isFree yX7_isFree ∈ am_T := am_s 37 (by decide +kernel) rfl
theorem mf_X7_canPut : am_MF yX7_canPut cX7_canPut 6 (some .boolean) 5 := ⟨(am_t 984 (by decide +kernel) rfl), (am_t 8 (by decide +kernel) rfl), (by decide +kernel)⟩
theorem mn_X7_canPut : Cond.instanceMethod yX7_canPut ∈ am_T := (am_t 983 (by decide +kernel) rfl)
theorem me_X7_canPut : Cond.selects yX7_canPut.cls yX7_canPut yX7_canPut ∈ am_T := am_s 58 (by decide +kernel) rfl
theorem mf_X7_putOn : am_MF yX7_putOn cX7_putOn 3 (none) 2 := ⟨(am_t 844 (by decide +kernel) rfl), (am_t 8 (by decide +kernel) rfl), (by decide +kernel)⟩
theorem mn_X7_putOn : Cond.instanceMethod yX7_putOn ∈ am_T := (am_t 843 (by decide +kernel) rfl)
theorem me_X7_putOn : Cond.selects yX7_putOn.cls yX7_putOn yX7_putOn ∈ am_T := am_s 39 (by decide +kernel) rfl
theorem mf_X7_drawn : am_MF yX7_drawn cX7_drawn 7 (some .int) 1 := ⟨(am_t 1032 (by decide +kernel) rfl), (am_t 8 (by decide +kernel) rfl), (by decide +kernel)⟩
theorem mn_X7_drawn : Cond.instanceMethod yX7_drawn ∈ am_T := (am_t 1030 (by decide +kernel) rfl)
theorem me_X7_drawn : Cond.selects yX7_drawn.cls yX7_drawn yX7_drawn ∈ am_T := (am_t 1031 (by decide +kernel) rfl)
theorem mf_X7_canEnd : am_MF yX7_canEnd cX7_canEnd 5 (some .boolean) 3 := ⟨(am_t 860 (by decide +kernel) rfl), (am_t 8 (by decide +kernel) rfl), (by decide +kernel)⟩
theorem mn_X7_canEnd : Cond.instanceMethod yX7_canEnd ∈ am_T := (am_t 859 (by decide +kernel) rfl)
theorem me_X7_canEnd : Cond.selects yX7_canEnd.cls yX7_canEnd yX7_canEnd ∈ am_T := am_s 41 (by decide +kernel) rfl
theorem mf_X7_endOn : am_MF yX7_endOn cX7_endOn 5 (none) 3 := ⟨(am_t 864 (by decide +kernel) rfl), (am_t 8 (by decide +kernel) rfl), (by decide +kernel)⟩
theorem mn_X7_endOn : Cond.instanceMethod yX7_endOn ∈ am_T := (am_t 863 (by decide +kernel) rfl)
theorem me_X7_endOn : Cond.selects yX7_endOn.cls yX7_endOn yX7_endOn ∈ am_T := am_s 42 (by decide +kernel) rfl
theorem mf_X7_end : am_MF yX7_end cX7_end 4 (some .int) 2 := ⟨(am_t 856 (by decide +kernel) rfl), (am_t 8 (by decide +kernel) rfl), (by decide +kernel)⟩
theorem mn_X7_end : Cond.instanceMethod yX7_end ∈ am_T := (am_t 854 (by decide +kernel) rfl)
theorem me_X7_end : Cond.selects yX7_end.cls yX7_end yX7_end ∈ am_T := (am_t 855 (by decide +kernel) rfl)
theorem mf_X7_findLiving : am_MF yX7_findLiving cX7_findLiving 4 (some .int) 1 := ⟨(am_t 1009 (by decide +kernel) rfl), (am_t 8 (by decide +kernel) rfl), (by decide +kernel)⟩
theorem mn_X7_findLiving : Cond.instanceMethod yX7_findLiving ∈ am_T := (am_t 1008 (by decide +kernel) rfl)
theorem me_X7_findLiving : Cond.selects yX7_findLiving.cls yX7_findLiving yX7_findLiving ∈ am_T := am_s 60 (by decide +kernel) rfl
theorem mf_X7_spansOf : am_MF yX7_spansOf cX7_spansOf 5 (some .int) 2 := ⟨(am_t 1013 (by decide +kernel) rfl), (am_t 8 (by decide +kernel) rfl), (by decide +kernel)⟩
theorem mn_X7_spansOf : Cond.instanceMethod yX7_spansOf ∈ am_T := (am_t 1012 (by decide +kernel) rfl)
theorem me_X7_spansOf : Cond.selects yX7_spansOf.cls yX7_spansOf yX7_spansOf ∈ am_T := am_s 61 (by decide +kernel) rfl
theorem mf_X7_areJoined : am_MF yX7_areJoined cX7_areJoined 6 (some .boolean) 5 := ⟨(am_t 940 (by decide +kernel) rfl), (am_t 8 (by decide +kernel) rfl), (by decide +kernel)⟩
theorem mn_X7_areJoined : Cond.instanceMethod yX7_areJoined ∈ am_T := (am_t 939 (by decide +kernel) rfl)
theorem me_X7_areJoined : Cond.selects yX7_areJoined.cls yX7_areJoined yX7_areJoined ∈ am_T := am_s 55 (by decide +kernel) rfl
theorem mf_X7_common : am_MF yX7_common cX7_common 5 (some .int) 2 := ⟨(am_t 1019 (by decide +kernel) rfl), (am_t 8 (by decide +kernel) rfl), (by decide +kernel)⟩
theorem ms_X7_common : Cond.static yX7_common ∈ am_T := (am_t 1018 (by decide +kernel) rfl)
theorem mf_X7_fails : am_MF yX7_fails cX7_fails 12 (some .int) 5 := ⟨(am_t 1023 (by decide +kernel) rfl), (am_t 8 (by decide +kernel) rfl), (by decide +kernel)⟩
theorem mn_X7_fails : Cond.instanceMethod yX7_fails ∈ am_T := (am_t 1021 (by decide +kernel) rfl)
theorem me_X7_fails : Cond.selects yX7_fails.cls yX7_fails yX7_fails ∈ am_T := (am_t 1022 (by decide +kernel) rfl)
theorem mf_X7_linksOf : am_MF yX7_linksOf cX7_linksOf 4 (some .int) 1 := ⟨(am_t 748 (by decide +kernel) rfl), (am_t 8 (by decide +kernel) rfl), (by decide +kernel)⟩
theorem mn_X7_linksOf : Cond.instanceMethod yX7_linksOf ∈ am_T := (am_t 747 (by decide +kernel) rfl)
theorem me_X7_linksOf : Cond.selects yX7_linksOf.cls yX7_linksOf yX7_linksOf ∈ am_T := am_s 30 (by decide +kernel) rfl
theorem mf_X7_linksOfAll : am_MF yX7_linksOfAll cX7_linksOfAll 3 (some .int) 0 := ⟨(am_t 744 (by decide +kernel) rfl), (am_t 8 (by decide +kernel) rfl), (by decide +kernel)⟩
theorem mn_X7_linksOfAll : Cond.instanceMethod yX7_linksOfAll ∈ am_T := (am_t 743 (by decide +kernel) rfl)
theorem me_X7_linksOfAll : Cond.selects yX7_linksOfAll.cls yX7_linksOfAll yX7_linksOfAll ∈ am_T := am_s 29 (by decide +kernel) rfl
theorem mf_X7_knotAt : am_MF yX7_knotAt cX7_knotAt 2 (some .int) 1 := ⟨(am_t 756 (by decide +kernel) rfl), (am_t 8 (by decide +kernel) rfl), (by decide +kernel)⟩
theorem mn_X7_knotAt : Cond.instanceMethod yX7_knotAt ∈ am_T := (am_t 755 (by decide +kernel) rfl)
theorem me_X7_knotAt : Cond.selects yX7_knotAt.cls yX7_knotAt yX7_knotAt ∈ am_T := am_s 32 (by decide +kernel) rfl
theorem mf_X7_readPair : am_MF yX7_readPair cX7_readPair 7 (some .int) 3 := ⟨(am_t 752 (by decide +kernel) rfl), (am_t 8 (by decide +kernel) rfl), (by decide +kernel)⟩
theorem mn_X7_readPair : Cond.instanceMethod yX7_readPair ∈ am_T := (am_t 751 (by decide +kernel) rfl)
theorem me_X7_readPair : Cond.selects yX7_readPair.cls yX7_readPair yX7_readPair ∈ am_T := am_s 31 (by decide +kernel) rfl
theorem mf_X7_readText : am_MF yX7_readText cX7_readText 7 (some .int) 0 := ⟨(am_t 740 (by decide +kernel) rfl), (am_t 8 (by decide +kernel) rfl), (by decide +kernel)⟩
theorem mn_X7_readText : Cond.instanceMethod yX7_readText ∈ am_T := (am_t 739 (by decide +kernel) rfl)
theorem me_X7_readText : Cond.selects yX7_readText.cls yX7_readText yX7_readText ∈ am_T := am_s 28 (by decide +kernel) rfl
theorem mf_X7_fault : am_MF yX7_fault cX7_fault 1 (some .int) 0 := ⟨(am_t 736 (by decide +kernel) rfl), (am_t 8 (by decide +kernel) rfl), (by decide +kernel)⟩
theorem mn_X7_fault : Cond.instanceMethod yX7_fault ∈ am_T := (am_t 734 (by decide +kernel) rfl)
theorem me_X7_fault : Cond.selects yX7_fault.cls yX7_fault yX7_fault ∈ am_T := (am_t 735 (by decide +kernel) rfl)
theorem mf_X7_joined : am_MF yX7_joined cX7_joined 4 (some .int) 3 := ⟨(am_t 936 (by decide +kernel) rfl), (am_t 8 (by decide +kernel) rfl), (by decide +kernel)⟩
theorem mn_X7_joined : Cond.instanceMethod yX7_joined ∈ am_T := (am_t 934 (by decide +kernel) rfl)
theorem me_X7_joined : Cond.selects yX7_joined.cls yX7_joined yX7_joined ∈ am_T := (am_t 935 (by decide +kernel) rfl)
theorem mf_X7_byFives : am_MF yX7_byFives cX7_byFives 4 (some .long) 1 := ⟨(am_t 971 (by decide +kernel) rfl), (am_t 8 (by decide +kernel) rfl), (by decide +kernel)⟩
theorem ms_X7_byFives : Cond.static yX7_byFives ∈ am_T := (am_t 970 (by decide +kernel) rfl)
theorem mf_X7_tryThing : am_MF yX7_tryThing cX7_tryThing 9 (some .boolean) 3 := ⟨(am_t 980 (by decide +kernel) rfl), (am_t 8 (by decide +kernel) rfl), (by decide +kernel)⟩
theorem mn_X7_tryThing : Cond.instanceMethod yX7_tryThing ∈ am_T := (am_t 979 (by decide +kernel) rfl)
theorem me_X7_tryThing : Cond.selects yX7_tryThing.cls yX7_tryThing yX7_tryThing ∈ am_T := am_s 57 (by decide +kernel) rfl
theorem mf_X7_judge : am_MF yX7_judge cX7_judge 6 (some .int) 2 := ⟨(am_t 967 (by decide +kernel) rfl), (am_t 8 (by decide +kernel) rfl), (by decide +kernel)⟩
theorem mn_X7_judge : Cond.instanceMethod yX7_judge ∈ am_T := (am_t 965 (by decide +kernel) rfl)
theorem me_X7_judge : Cond.selects yX7_judge.cls yX7_judge yX7_judge ∈ am_T := (am_t 966 (by decide +kernel) rfl)
theorem mf_X7_keep : am_MF yX7_keep cX7_keep 3 (some .int) 1 := ⟨(am_t 1039 (by decide +kernel) rfl), (am_t 8 (by decide +kernel) rfl), (by decide +kernel)⟩
theorem mn_X7_keep : Cond.instanceMethod yX7_keep ∈ am_T := (am_t 1037 (by decide +kernel) rfl)
theorem me_X7_keep : Cond.selects yX7_keep.cls yX7_keep yX7_keep ∈ am_T := (am_t 1038 (by decide +kernel) rfl)
theorem mf_X7_knot : am_MF yX7_knot cX7_knot 4 (some .int) 3 := ⟨(am_t 931 (by decide +kernel) rfl), (am_t 8 (by decide +kernel) rfl), (by decide +kernel)⟩
theorem mn_X7_knot : Cond.instanceMethod yX7_knot ∈ am_T := (am_t 929 (by decide +kernel) rfl)
theorem me_X7_knot : Cond.selects yX7_knot.cls yX7_knot yX7_knot ∈ am_T := (am_t 930 (by decide +kernel) rfl)
theorem mf_X7_ones : am_MF yX7_ones cX7_ones 3 (some .int) 1 := ⟨(am_t 951 (by decide +kernel) rfl), (am_t 8 (by decide +kernel) rfl), (by decide +kernel)⟩
theorem ms_X7_ones : Cond.static yX7_ones ∈ am_T := (am_t 950 (by decide +kernel) rfl)
theorem mf_X7_least : am_MF yX7_least cX7_least 8 (some .int) 4 := ⟨(am_t 963 (by decide +kernel) rfl), (am_t 8 (by decide +kernel) rfl), (by decide +kernel)⟩
theorem mn_X7_least : Cond.instanceMethod yX7_least ∈ am_T := (am_t 961 (by decide +kernel) rfl)
theorem me_X7_least : Cond.selects yX7_least.cls yX7_least yX7_least ∈ am_T := (am_t 962 (by decide +kernel) rfl)
theorem mf_X7_life : am_MF yX7_life cX7_life 2 (some .int) 0 := ⟨(am_t 768 (by decide +kernel) rfl), (am_t 8 (by decide +kernel) rfl), (by decide +kernel)⟩
theorem mn_X7_life : Cond.instanceMethod yX7_life ∈ am_T := (am_t 766 (by decide +kernel) rfl)
theorem me_X7_life : Cond.selects yX7_life.cls yX7_life yX7_life ∈ am_T := (am_t 767 (by decide +kernel) rfl)
theorem mf_X7_mayBe : am_MF yX7_mayBe cX7_mayBe 4 (some .boolean) 1 := ⟨(am_t 1000 (by decide +kernel) rfl), (am_t 8 (by decide +kernel) rfl), (by decide +kernel)⟩
theorem mn_X7_mayBe : Cond.instanceMethod yX7_mayBe ∈ am_T := (am_t 999 (by decide +kernel) rfl)
theorem me_X7_mayBe : Cond.selects yX7_mayBe.cls yX7_mayBe yX7_mayBe ∈ am_T := am_s 59 (by decide +kernel) rfl
theorem mf_X7_missing : am_MF yX7_missing cX7_missing 6 (some .int) 1 := ⟨(am_t 996 (by decide +kernel) rfl), (am_t 8 (by decide +kernel) rfl), (by decide +kernel)⟩
theorem mn_X7_missing : Cond.instanceMethod yX7_missing ∈ am_T := (am_t 994 (by decide +kernel) rfl)
theorem me_X7_missing : Cond.selects yX7_missing.cls yX7_missing yX7_missing ∈ am_T := (am_t 995 (by decide +kernel) rfl)
theorem mf_X7_liesOn : am_MF yX7_liesOn cX7_liesOn 4 (some .int) 1 := ⟨(am_t 820 (by decide +kernel) rfl), (am_t 8 (by decide +kernel) rfl), (by decide +kernel)⟩
theorem mn_X7_liesOn : Cond.instanceMethod yX7_liesOn ∈ am_T := (am_t 819 (by decide +kernel) rfl)
theorem me_X7_liesOn : Cond.selects yX7_liesOn.cls yX7_liesOn yX7_liesOn ∈ am_T := am_s 36 (by decide +kernel) rfl
theorem mf_X7_node : am_MF yX7_node cX7_node 2 (some .int) 1 := ⟨(am_t 815 (by decide +kernel) rfl), (am_t 8 (by decide +kernel) rfl), (by decide +kernel)⟩
theorem mn_X7_node : Cond.instanceMethod yX7_node ∈ am_T := (am_t 813 (by decide +kernel) rfl)
theorem me_X7_node : Cond.selects yX7_node.cls yX7_node yX7_node ∈ am_T := (am_t 814 (by decide +kernel) rfl)
theorem mf_X7_put : am_MF yX7_put cX7_put 5 (some .int) 4 := ⟨(am_t 824 (by decide +kernel) rfl), (am_t 8 (by decide +kernel) rfl), (by decide +kernel)⟩
theorem mn_X7_put : Cond.instanceMethod yX7_put ∈ am_T := (am_t 822 (by decide +kernel) rfl)
theorem me_X7_put : Cond.selects yX7_put.cls yX7_put yX7_put ∈ am_T := (am_t 823 (by decide +kernel) rfl)
theorem mf_X7_see : am_MF yX7_see cX7_see 5 (some .int) 4 := ⟨(am_t 988 (by decide +kernel) rfl), (am_t 8 (by decide +kernel) rfl), (by decide +kernel)⟩
theorem mn_X7_see : Cond.instanceMethod yX7_see ∈ am_T := (am_t 986 (by decide +kernel) rfl)
theorem me_X7_see : Cond.selects yX7_see.cls yX7_see yX7_see ∈ am_T := (am_t 987 (by decide +kernel) rfl)
theorem mf_X7_seed : am_MF yX7_seed cX7_seed 5 (some .long) 1 := ⟨(am_t 1028 (by decide +kernel) rfl), (am_t 8 (by decide +kernel) rfl), (by decide +kernel)⟩
theorem mn_X7_seed : Cond.instanceMethod yX7_seed ∈ am_T := (am_t 1026 (by decide +kernel) rfl)
theorem me_X7_seed : Cond.selects yX7_seed.cls yX7_seed yX7_seed ∈ am_T := (am_t 1027 (by decide +kernel) rfl)
theorem mf_X7_factorial : am_MF yX7_factorial cX7_factorial 3 (some .int) 1 := ⟨(am_t 1016 (by decide +kernel) rfl), (am_t 8 (by decide +kernel) rfl), (by decide +kernel)⟩
theorem ms_X7_factorial : Cond.static yX7_factorial ∈ am_T := (am_t 1015 (by decide +kernel) rfl)
theorem mf_X7_share : am_MF yX7_share cX7_share 9 (some .int) 3 := ⟨(am_t 1005 (by decide +kernel) rfl), (am_t 8 (by decide +kernel) rfl), (by decide +kernel)⟩
theorem mn_X7_share : Cond.instanceMethod yX7_share ∈ am_T := (am_t 1003 (by decide +kernel) rfl)
theorem me_X7_share : Cond.selects yX7_share.cls yX7_share yX7_share ∈ am_T := (am_t 1004 (by decide +kernel) rfl)
theorem mf_X7_side : am_MF yX7_side cX7_side 4 (some .int) 3 := ⟨(am_t 944 (by decide +kernel) rfl), (am_t 8 (by decide +kernel) rfl), (by decide +kernel)⟩
theorem mn_X7_side : Cond.instanceMethod yX7_side ∈ am_T := (am_t 942 (by decide +kernel) rfl)
theorem me_X7_side : Cond.selects yX7_side.cls yX7_side yX7_side ∈ am_T := (am_t 943 (by decide +kernel) rfl)
theorem mf_X7_nodesOf : am_MF yX7_nodesOf cX7_nodesOf 3 (some .int) 1 := ⟨(am_t 796 (by decide +kernel) rfl), (am_t 8 (by decide +kernel) rfl), (by decide +kernel)⟩
theorem ms_X7_nodesOf : Cond.static yX7_nodesOf ∈ am_T := (am_t 795 (by decide +kernel) rfl)
theorem mf_X7_span : am_MF yX7_span cX7_span 4 (some .int) 2 := ⟨(am_t 772 (by decide +kernel) rfl), (am_t 8 (by decide +kernel) rfl), (by decide +kernel)⟩
theorem mn_X7_span : Cond.instanceMethod yX7_span ∈ am_T := (am_t 770 (by decide +kernel) rfl)
theorem me_X7_span : Cond.selects yX7_span.cls yX7_span yX7_span ∈ am_T := (am_t 771 (by decide +kernel) rfl)
theorem mf_X7_undo : am_MF yX7_undo cX7_undo 2 (some .int) 0 := ⟨(am_t 868 (by decide +kernel) rfl), (am_t 8 (by decide +kernel) rfl), (by decide +kernel)⟩
theorem mn_X7_undo : Cond.instanceMethod yX7_undo ∈ am_T := (am_t 866 (by decide +kernel) rfl)
theorem me_X7_undo : Cond.selects yX7_undo.cls yX7_undo yX7_undo ∈ am_T := (am_t 867 (by decide +kernel) rfl)
theorem mf_X7_unsee : am_MF yX7_unsee cX7_unsee 2 (some .int) 0 := ⟨(am_t 992 (by decide +kernel) rfl), (am_t 8 (by decide +kernel) rfl), (by decide +kernel)⟩
theorem mn_X7_unsee : Cond.instanceMethod yX7_unsee ∈ am_T := (am_t 990 (by decide +kernel) rfl)
theorem me_X7_unsee : Cond.selects yX7_unsee.cls yX7_unsee yX7_unsee ∈ am_T := (am_t 991 (by decide +kernel) rfl)
theorem mf_X7_when : am_MF yX7_when cX7_when 5 (some .int) 2 := ⟨(am_t 955 (by decide +kernel) rfl), (am_t 8 (by decide +kernel) rfl), (by decide +kernel)⟩
theorem mn_X7_when : Cond.instanceMethod yX7_when ∈ am_T := (am_t 953 (by decide +kernel) rfl)
theorem me_X7_when : Cond.selects yX7_when.cls yX7_when yX7_when ∈ am_T := (am_t 954 (by decide +kernel) rfl)
theorem mf_X7_wipe : am_MF yX7_wipe cX7_wipe 2 (some .int) 0 := ⟨(am_t 732 (by decide +kernel) rfl), (am_t 8 (by decide +kernel) rfl), (by decide +kernel)⟩
theorem mn_X7_wipe : Cond.instanceMethod yX7_wipe ∈ am_T := (am_t 730 (by decide +kernel) rfl)
theorem me_X7_wipe : Cond.selects yX7_wipe.cls yX7_wipe yX7_wipe ∈ am_T := (am_t 731 (by decide +kernel) rfl)
theorem mf_X7_work : am_MF yX7_work cX7_work 4 (some .int) 1 := ⟨(am_t 948 (by decide +kernel) rfl), (am_t 8 (by decide +kernel) rfl), (by decide +kernel)⟩
theorem mn_X7_work : Cond.instanceMethod yX7_work ∈ am_T := (am_t 946 (by decide +kernel) rfl)
theorem me_X7_work : Cond.selects yX7_work.cls yX7_work yX7_work ∈ am_T := (am_t 947 (by decide +kernel) rfl)
theorem mf_X7_write : am_MF yX7_write cX7_write 2 (some .int) 1 := ⟨(am_t 724 (by decide +kernel) rfl), (am_t 8 (by decide +kernel) rfl), (by decide +kernel)⟩
theorem mn_X7_write : Cond.instanceMethod yX7_write ∈ am_T := (am_t 722 (by decide +kernel) rfl)
theorem me_X7_write : Cond.selects yX7_write.cls yX7_write yX7_write ∈ am_T := (am_t 723 (by decide +kernel) rfl)
theorem mf_X3_init : am_MF yX3_init cX3_init 1 (none) 0 := ⟨(am_t 23 (by decide +kernel) rfl), (am_t 2 (by decide +kernel) rfl), (by decide +kernel)⟩
theorem mn_X3_init : Cond.instanceMethod yX3_init ∈ am_T := (am_t 22 (by decide +kernel) rfl)
theorem mf_X5_init : am_MF yX5_init cX5_init 1 (none) 0 := ⟨(am_t 57 (by decide +kernel) rfl), (am_t 3 (by decide +kernel) rfl), (by decide +kernel)⟩
theorem mn_X5_init : Cond.instanceMethod yX5_init ∈ am_T := (am_t 56 (by decide +kernel) rfl)
theorem mf_X0_init : am_MF yX0_init cX0_init 2 (none) 0 := ⟨(am_t 91 (by decide +kernel) rfl), (am_t 4 (by decide +kernel) rfl), (by decide +kernel)⟩
theorem mn_X0_init : Cond.instanceMethod yX0_init ∈ am_T := (am_t 90 (by decide +kernel) rfl)
theorem mf_X2_init : am_MF yX2_init cX2_init 1 (none) 0 := ⟨(am_t 108 (by decide +kernel) rfl), (am_t 5 (by decide +kernel) rfl), (by decide +kernel)⟩
theorem mn_X2_init : Cond.instanceMethod yX2_init ∈ am_T := (am_t 107 (by decide +kernel) rfl)
theorem mf_X1_init : am_MF yX1_init cX1_init 1 (none) 0 := ⟨(am_t 130 (by decide +kernel) rfl), (am_t 6 (by decide +kernel) rfl), (by decide +kernel)⟩
theorem mn_X1_init : Cond.instanceMethod yX1_init ∈ am_T := (am_t 129 (by decide +kernel) rfl)
theorem mf_X4_init : am_MF yX4_init cX4_init 1 (none) 0 := ⟨(am_t 156 (by decide +kernel) rfl), (am_t 7 (by decide +kernel) rfl), (by decide +kernel)⟩
theorem mn_X4_init : Cond.instanceMethod yX4_init ∈ am_T := (am_t 155 (by decide +kernel) rfl)
theorem mf_X6_init : am_MF yX6_init cX6_init 2 (none) 0 := ⟨(am_t 15 (by decide +kernel) rfl), (am_t 1 (by decide +kernel) rfl), (by decide +kernel)⟩
theorem mn_X6_init : Cond.instanceMethod yX6_init ∈ am_T := (am_t 14 (by decide +kernel) rfl)
theorem mf_X7_init : am_MF yX7_init cX7_init 1 (none) 0 := ⟨(am_t 658 (by decide +kernel) rfl), (am_t 8 (by decide +kernel) rfl), (by decide +kernel)⟩
theorem mn_X7_init : Cond.instanceMethod yX7_init ∈ am_T := (am_t 657 (by decide +kernel) rfl)
theorem fl_X5_9 : am_FL RX5 9 5 0 := ⟨by decide, by decide, Or.inl (am_t 59 (by decide +kernel) rfl)⟩
theorem fl_X5_15 : am_FL RX5 15 5 1 := ⟨by decide, by decide, Or.inl (am_t 63 (by decide +kernel) rfl)⟩
theorem fl_X5_18 : am_FL RX5 18 5 2 := ⟨by decide, by decide, Or.inl (am_t 67 (by decide +kernel) rfl)⟩
theorem fl_X5_21 : am_FL RX5 21 5 3 := ⟨by decide, by decide, Or.inl (am_t 69 (by decide +kernel) rfl)⟩
theorem fl_X5_24 : am_FL RX5 24 5 4 := ⟨by decide, by decide, Or.inl (am_t 71 (by decide +kernel) rfl)⟩
theorem vm_X5_28 : am_VM RX5 28 yX5_takeFrom cX5_takeFrom 4 (none) 3 5 := ⟨mf_X5_takeFrom, Or.inl (am_t 331 (by decide +kernel) rfl), mn_X5_takeFrom, me_X5_takeFrom, by decide, rfl⟩
theorem fl_X6_58 : am_FL RX6 58 6 8 := ⟨by decide, by decide, Or.inl (am_t 189 (by decide +kernel) rfl)⟩
theorem fl_X6_19 : am_FL RX6 19 6 1 := ⟨by decide, by decide, Or.inl (am_t 182 (by decide +kernel) rfl)⟩
theorem fl_X6_54 : am_FL RX6 54 6 7 := ⟨by decide, by decide, Or.inl (am_t 188 (by decide +kernel) rfl)⟩
theorem vm_X6_105 : am_VM RX6 105 yX5_copyOf cX5_copyOf 3 (none) 1 5 := ⟨mf_X5_copyOf, Or.inl (am_t 327 (by decide +kernel) rfl), mn_X5_copyOf, me_X5_copyOf, by decide, rfl⟩
theorem fl_X6_29 : am_FL RX6 29 6 3 := ⟨by decide, by decide, Or.inl (am_t 184 (by decide +kernel) rfl)⟩
theorem fl_X6_78 : am_FL RX6 78 0 1 := ⟨by decide, by decide, Or.inr ⟨"TimeLinks", am_n 98 (by decide +kernel)⟩⟩
theorem fl_X6_81 : am_FL RX6 81 5 4 := ⟨by decide, by decide, Or.inr ⟨"TimeLinks", am_n 74 (by decide +kernel)⟩⟩
theorem fl_X2_9 : am_FL RX2 9 2 0 := ⟨by decide, by decide, Or.inl (am_t 110 (by decide +kernel) rfl)⟩
theorem fl_X2_15 : am_FL RX2 15 2 1 := ⟨by decide, by decide, Or.inl (am_t 111 (by decide +kernel) rfl)⟩
theorem fl_X2_18 : am_FL RX2 18 2 2 := ⟨by decide, by decide, Or.inl (am_t 113 (by decide +kernel) rfl)⟩
theorem fl_X2_21 : am_FL RX2 21 2 3 := ⟨by decide, by decide, Or.inl (am_t 114 (by decide +kernel) rfl)⟩
theorem vm_X5_66 : am_VM RX5 66 yX5_fills cX5_fills 6 (some .boolean) 2 5 := ⟨mf_X5_fills, Or.inl (am_t 311 (by decide +kernel) rfl), mn_X5_fills, me_X5_fills, by decide, rfl⟩
theorem vm_X2_53 : am_VM RX2 53 yX2_rootOf cX2_rootOf 4 (some .int) 1 2 := ⟨mf_X2_rootOf, Or.inl (am_t 395 (by decide +kernel) rfl), mn_X2_rootOf, me_X2_rootOf, by decide, rfl⟩
theorem vm_X2_57 : am_VM RX2 57 yX2_turnOf cX2_turnOf 5 (some .int) 1 2 := ⟨mf_X2_turnOf, Or.inl (am_t 399 (by decide +kernel) rfl), mn_X2_turnOf, me_X2_turnOf, by decide, rfl⟩
theorem vm_X2_60 : am_VM RX2 60 yX2_hangsBelow cX2_hangsBelow 3 (some .boolean) 2 2 := ⟨mf_X2_hangsBelow, Or.inl (am_t 403 (by decide +kernel) rfl), mn_X2_hangsBelow, me_X2_hangsBelow, by decide, rfl⟩
theorem vm_X2_63 : am_VM RX2 63 yX2_hang cX2_hang 4 (none) 3 2 := ⟨mf_X2_hang, Or.inl (am_t 407 (by decide +kernel) rfl), mn_X2_hang, me_X2_hang, by decide, rfl⟩
theorem fl_X2_35 : am_FL RX2 35 5 4 := ⟨by decide, by decide, Or.inr ⟨"TimeLinks", am_n 73 (by decide +kernel)⟩⟩
theorem vm_X2_40 : am_VM RX2 40 yX5_lies cX5_lies 3 (some .boolean) 2 5 := ⟨mf_X5_lies, Or.inl (am_t 390 (by decide +kernel) rfl), mn_X5_lies, me_X5_lies, by decide, rfl⟩
theorem fl_X2_44 : am_FL RX2 44 5 0 := ⟨by decide, by decide, Or.inr ⟨"TimeLinks", am_n 61 (by decide +kernel)⟩⟩
theorem fl_X2_47 : am_FL RX2 47 5 1 := ⟨by decide, by decide, Or.inr ⟨"TimeLinks", am_n 65 (by decide +kernel)⟩⟩
theorem vm_X2_50 : am_VM RX2 50 yX2_join cX2_join 6 (some .boolean) 2 2 := ⟨mf_X2_join, Or.inl (am_t 391 (by decide +kernel) rfl), mn_X2_join, me_X2_join, by decide, rfl⟩
theorem vm_X2_29 : am_VM RX2 29 yX2_takeApart cX2_takeApart 2 (none) 0 2 := ⟨mf_X2_takeApart, Or.inl (am_t 382 (by decide +kernel) rfl), mn_X2_takeApart, me_X2_takeApart, by decide, rfl⟩
theorem vm_X2_32 : am_VM RX2 32 yX2_joinAllOn cX2_joinAllOn 5 (some .int) 2 2 := ⟨mf_X2_joinAllOn, Or.inl (am_t 386 (by decide +kernel) rfl), mn_X2_joinAllOn, me_X2_joinAllOn, by decide, rfl⟩
theorem vm_X2_25 : am_VM RX2 25 yX2_walkToNode cX2_walkToNode 5 (some .int) 2 2 := ⟨mf_X2_walkToNode, Or.inl (am_t 378 (by decide +kernel) rfl), mn_X2_walkToNode, me_X2_walkToNode, by decide, rfl⟩
theorem vm_X5_62 : am_VM RX5 62 yX5_livesAt cX5_livesAt 3 (some .boolean) 2 5 := ⟨mf_X5_livesAt, Or.inl (am_t 419 (by decide +kernel) rfl), mn_X5_livesAt, me_X5_livesAt, by decide, rfl⟩
theorem vm_X2_67 : am_VM RX2 67 yX2_depthOf cX2_depthOf 5 (some .int) 1 2 := ⟨mf_X2_depthOf, Or.inl (am_t 431 (by decide +kernel) rfl), mn_X2_depthOf, me_X2_depthOf, by decide, rfl⟩
theorem sm_X2_70 : am_SM RX2 70 yJ9_max_7cf53 cJ9_max_7cf53 2 (some .int) 2 := ⟨mf_J9_max_7cf53, Or.inl (am_t 435 (by decide +kernel) rfl), ms_J9_max_7cf53⟩
theorem sm_X6_128 : am_SM RX6 128 yX6_isTime cX6_isTime 1 (some .boolean) 1 := ⟨mf_X6_isTime, Or.inl (am_t 284 (by decide +kernel) rfl), ms_X6_isTime⟩
theorem fl_X6_36 : am_FL RX6 36 6 4 := ⟨by decide, by decide, Or.inl (am_t 185 (by decide +kernel) rfl)⟩
theorem vm_X6_131 : am_VM RX6 131 yX2_walkToTime cX2_walkToTime 3 (none) 2 2 := ⟨mf_X2_walkToTime, Or.inl (am_t 374 (by decide +kernel) rfl), mn_X2_walkToTime, me_X2_walkToTime, by decide, rfl⟩
theorem vm_X6_135 : am_VM RX6 135 yX2_parts cX2_parts 3 (some .int) 0 2 := ⟨mf_X2_parts, Or.inl (am_t 411 (by decide +kernel) rfl), mn_X2_parts, me_X2_parts, by decide, rfl⟩
theorem vm_X6_138 : am_VM RX6 138 yX5_livingAt cX5_livingAt 4 (some .int) 1 5 := ⟨mf_X5_livingAt, Or.inl (am_t 415 (by decide +kernel) rfl), mn_X5_livingAt, me_X5_livingAt, by decide, rfl⟩
theorem vm_X6_141 : am_VM RX6 141 yX2_oddParts cX2_oddParts 3 (some .int) 0 2 := ⟨mf_X2_oddParts, Or.inl (am_t 423 (by decide +kernel) rfl), mn_X2_oddParts, me_X2_oddParts, by decide, rfl⟩
theorem vm_X6_144 : am_VM RX6 144 yX2_greatestDepth cX2_greatestDepth 3 (some .int) 0 2 := ⟨mf_X2_greatestDepth, Or.inl (am_t 427 (by decide +kernel) rfl), mn_X2_greatestDepth, me_X2_greatestDepth, by decide, rfl⟩
theorem vm_X6_147 : am_VM RX6 147 yX2_greatestSize cX2_greatestSize 3 (some .int) 0 2 := ⟨mf_X2_greatestSize, Or.inl (am_t 436 (by decide +kernel) rfl), mn_X2_greatestSize, me_X2_greatestSize, by decide, rfl⟩
theorem fl_X1_24 : am_FL RX1 24 1 4 := ⟨by decide, by decide, Or.inl (am_t 139 (by decide +kernel) rfl)⟩
theorem fl_X1_28 : am_FL RX1 28 5 4 := ⟨by decide, by decide, Or.inr ⟨"TimeLinks", am_n 72 (by decide +kernel)⟩⟩
theorem vm_X1_31 : am_VM RX1 31 yX5_livesAt cX5_livesAt 3 (some .boolean) 2 5 := ⟨mf_X5_livesAt, Or.inl (am_t 491 (by decide +kernel) rfl), mn_X5_livesAt, me_X5_livesAt, by decide, rfl⟩
theorem fl_X1_9 : am_FL RX1 9 1 0 := ⟨by decide, by decide, Or.inl (am_t 132 (by decide +kernel) rfl)⟩
theorem fl_X1_15 : am_FL RX1 15 1 1 := ⟨by decide, by decide, Or.inl (am_t 134 (by decide +kernel) rfl)⟩
theorem fl_X1_35 : am_FL RX1 35 5 0 := ⟨by decide, by decide, Or.inr ⟨"TimeLinks", am_n 60 (by decide +kernel)⟩⟩
theorem fl_X1_18 : am_FL RX1 18 1 2 := ⟨by decide, by decide, Or.inl (am_t 136 (by decide +kernel) rfl)⟩
theorem fl_X1_36 : am_FL RX1 36 5 1 := ⟨by decide, by decide, Or.inr ⟨"TimeLinks", am_n 64 (by decide +kernel)⟩⟩
theorem fl_X1_21 : am_FL RX1 21 1 3 := ⟨by decide, by decide, Or.inl (am_t 138 (by decide +kernel) rfl)⟩
theorem vm_X1_37 : am_VM RX1 37 yX1_reach cX1_reach 7 (some .int) 2 1 := ⟨mf_X1_reach, Or.inl (am_t 500 (by decide +kernel) rfl), mn_X1_reach, me_X1_reach, by decide, rfl⟩
theorem fl_X6_43 : am_FL RX6 43 6 5 := ⟨by decide, by decide, Or.inl (am_t 186 (by decide +kernel) rfl)⟩
theorem vm_X6_186 : am_VM RX6 186 yX1_gather cX1_gather 4 (none) 2 1 := ⟨mf_X1_gather, Or.inl (am_t 487 (by decide +kernel) rfl), mn_X1_gather, me_X1_gather, by decide, rfl⟩
theorem fl_X6_189 : am_FL RX6 189 1 4 := ⟨by decide, by decide, Or.inr ⟨"TimeLinks", am_n 140 (by decide +kernel)⟩⟩
theorem fl_X6_190 : am_FL RX6 190 1 1 := ⟨by decide, by decide, Or.inr ⟨"TimeLinks", am_n 135 (by decide +kernel)⟩⟩
theorem fl_X6_191 : am_FL RX6 191 1 2 := ⟨by decide, by decide, Or.inr ⟨"TimeLinks", am_n 137 (by decide +kernel)⟩⟩
theorem vm_X6_192 : am_VM RX6 192 yX1_all cX1_all 1 (some .int) 0 1 := ⟨mf_X1_all, Or.inl (am_t 492 (by decide +kernel) rfl), mn_X1_all, me_X1_all, by decide, rfl⟩
theorem vm_X6_195 : am_VM RX6 195 yX1_areJoined cX1_areJoined 4 (some .boolean) 3 1 := ⟨mf_X1_areJoined, Or.inl (am_t 496 (by decide +kernel) rfl), mn_X1_areJoined, me_X1_areJoined, by decide, rfl⟩
theorem fl_X6_198 : am_FL RX6 198 1 0 := ⟨by decide, by decide, Or.inr ⟨"TimeLinks", am_n 133 (by decide +kernel)⟩⟩
theorem kw_X6_296 : Cond.constant RX6 296 (65535) ∈ am_T := (am_t 285 (by decide +kernel) rfl)
theorem sm_X5_43 : am_SM RX5 43 yX6_stretch cX6_stretch 2 (some .int) 2 := ⟨mf_X6_stretch, Or.inr ⟨"TimeLinks", am_n 281 (by decide +kernel)⟩, ms_X6_stretch⟩
theorem fl_X6_10 : am_FL RX6 10 6 0 := ⟨by decide, by decide, Or.inl (am_t 181 (by decide +kernel) rfl)⟩
theorem fl_X6_66 : am_FL RX6 66 3 1 := ⟨by decide, by decide, Or.inr ⟨"TimeLinks", am_n 27 (by decide +kernel)⟩⟩
theorem vm_X6_290 : am_VM RX6 290 yX5_timesFilled cX5_timesFilled 3 (some .int) 0 5 := ⟨mf_X5_timesFilled, Or.inl (am_t 646 (by decide +kernel) rfl), mn_X5_timesFilled, me_X5_timesFilled, by decide, rfl⟩
theorem vm_X6_293 : am_VM RX6 293 yX5_timesTogether cX5_timesTogether 3 (some .int) 0 5 := ⟨mf_X5_timesTogether, Or.inl (am_t 650 (by decide +kernel) rfl), mn_X5_timesTogether, me_X5_timesTogether, by decide, rfl⟩
theorem fl_X6_50 : am_FL RX6 50 6 6 := ⟨by decide, by decide, Or.inl (am_t 187 (by decide +kernel) rfl)⟩
theorem fl_X6_225 : am_FL RX6 225 4 6 := ⟨by decide, by decide, Or.inr ⟨"TimeLinks", am_n 165 (by decide +kernel)⟩⟩
theorem vm_X5_55 : am_VM RX5 55 yX5_has cX5_has 2 (some .boolean) 1 5 := ⟨mf_X5_has, Or.inl (am_t 294 (by decide +kernel) rfl), mn_X5_has, me_X5_has, by decide, rfl⟩
theorem fl_X0_11 : am_FL RX0 11 0 0 := ⟨by decide, by decide, Or.inl (am_t 96 (by decide +kernel) rfl)⟩
theorem fl_X0_18 : am_FL RX0 18 0 1 := ⟨by decide, by decide, Or.inl (am_t 97 (by decide +kernel) rfl)⟩
theorem vm_X0_22 : am_VM RX0 22 yX0_forgetFirst cX0_forgetFirst 3 (none) 0 0 := ⟨mf_X0_forgetFirst, Or.inl (am_t 344 (by decide +kernel) rfl), mn_X0_forgetFirst, me_X0_forgetFirst, by decide, rfl⟩
theorem vm_X0_25 : am_VM RX0 25 yX5_copyOf cX5_copyOf 3 (none) 1 5 := ⟨mf_X5_copyOf, Or.inl (am_t 348 (by decide +kernel) rfl), mn_X5_copyOf, me_X5_copyOf, by decide, rfl⟩
theorem fl_X6_23 : am_FL RX6 23 6 2 := ⟨by decide, by decide, Or.inl (am_t 183 (by decide +kernel) rfl)⟩
theorem vm_X6_125 : am_VM RX6 125 yX0_remember cX0_remember 2 (none) 1 0 := ⟨mf_X0_remember, Or.inl (am_t 340 (by decide +kernel) rfl), mn_X0_remember, me_X0_remember, by decide, rfl⟩
theorem vm_X6_115 : am_VM RX6 115 yX5_drop cX5_drop 3 (some .int) 1 5 := ⟨mf_X5_drop, Or.inl (am_t 353 (by decide +kernel) rfl), mn_X5_drop, me_X5_drop, by decide, rfl⟩
theorem vm_X6_112 : am_VM RX6 112 yX6_rememberIfDone cX6_rememberIfDone 2 (some .int) 1 6 := ⟨mf_X6_rememberIfDone, Or.inl (am_t 336 (by decide +kernel) rfl), mn_X6_rememberIfDone, me_X6_rememberIfDone, by decide, rfl⟩
theorem sm_X5_47 : am_SM RX5 47 yJ9_min_7cf53 cJ9_min_7cf53 2 (some .int) 2 := ⟨mf_J9_min_7cf53, Or.inl (am_t 275 (by decide +kernel) rfl), ms_J9_min_7cf53⟩
theorem sm_X5_52 : am_SM RX5 52 yJ9_max_7cf53 cJ9_max_7cf53 2 (some .int) 2 := ⟨mf_J9_max_7cf53, Or.inl (am_t 278 (by decide +kernel) rfl), ms_J9_max_7cf53⟩
theorem vm_X5_58 : am_VM RX5 58 yX5_isOf cX5_isOf 4 (some .boolean) 3 5 := ⟨mf_X5_isOf, Or.inl (am_t 271 (by decide +kernel) rfl), mn_X5_isOf, me_X5_isOf, by decide, rfl⟩
theorem sm_X5_32 : am_SM RX5 32 yX6_isKnot cX6_isKnot 1 (some .boolean) 1 := ⟨mf_X6_isKnot, Or.inr ⟨"TimeLinks", am_n 263 (by decide +kernel)⟩, ms_X6_isKnot⟩
theorem sm_X5_36 : am_SM RX5 36 yX6_isTime cX6_isTime 1 (some .boolean) 1 := ⟨mf_X6_isTime, Or.inr ⟨"TimeLinks", am_n 264 (by decide +kernel)⟩, ms_X6_isTime⟩
theorem vm_X5_39 : am_VM RX5 39 yX5_timesOf cX5_timesOf 6 (some .int) 3 5 := ⟨mf_X5_timesOf, Or.inl (am_t 267 (by decide +kernel) rfl), mn_X5_timesOf, me_X5_timesOf, by decide, rfl⟩
theorem sm_X6_285 : am_SM RX6 285 yJ9_min_7cf53 cJ9_min_7cf53 2 (some .int) 2 := ⟨mf_J9_min_7cf53, Or.inl (am_t 633 (by decide +kernel) rfl), ms_J9_min_7cf53⟩
theorem vm_X6_108 : am_VM RX6 108 yX5_add cX5_add 5 (some .int) 4 5 := ⟨mf_X5_add, Or.inl (am_t 335 (by decide +kernel) rfl), mn_X5_add, me_X5_add, by decide, rfl⟩
theorem fl_X6_273 : am_FL RX6 273 6 9 := ⟨by decide, by decide, Or.inl (am_t 190 (by decide +kernel) rfl)⟩
theorem kw_X6_277 : Cond.constantLong RX6 277 (6364136223846793005) ∈ am_T := (am_t 627 (by decide +kernel) rfl)
theorem kw_X6_279 : Cond.constantLong RX6 279 (1442695040888963407) ∈ am_T := (am_t 628 (by decide +kernel) rfl)
theorem vm_X6_281 : am_VM RX6 281 yX6_addDrawn cX6_addDrawn 4 (none) 1 6 := ⟨mf_X6_addDrawn, Or.inl (am_t 629 (by decide +kernel) rfl), mn_X6_addDrawn, me_X6_addDrawn, by decide, rfl⟩
theorem vm_X6_219 : am_VM RX6 219 yX6_partsInTrial cX6_partsInTrial 2 (some .int) 1 6 := ⟨mf_X6_partsInTrial, Or.inl (am_t 532 (by decide +kernel) rfl), mn_X6_partsInTrial, me_X6_partsInTrial, by decide, rfl⟩
theorem vm_X6_118 : am_VM RX6 118 yX5_stopAt cX5_stopAt 4 (some .int) 2 5 := ⟨mf_X5_stopAt, Or.inl (am_t 361 (by decide +kernel) rfl), mn_X5_stopAt, me_X5_stopAt, by decide, rfl⟩
theorem kw_J6_265 : Cond.constant RJ6 265 (1431655765) ∈ am_T := (am_t 471 (by decide +kernel) rfl)
theorem kw_J6_266 : Cond.constant RJ6 266 (858993459) ∈ am_T := (am_t 472 (by decide +kernel) rfl)
theorem kw_J6_267 : Cond.constant RJ6 267 (252645135) ∈ am_T := (am_t 473 (by decide +kernel) rfl)
theorem sm_X6_177 : am_SM RX6 177 yJ6_bitCount_0f7a4 cJ6_bitCount_0f7a4 1 (some .int) 1 := ⟨mf_J6_bitCount_0f7a4, Or.inl (am_t 468 (by decide +kernel) rfl), ms_J6_bitCount_0f7a4⟩
theorem sm_X6_209 : am_SM RX6 209 yX6_power cX6_power 6 (some .long) 2 := ⟨mf_X6_power, Or.inl (am_t 521 (by decide +kernel) rfl), ms_X6_power⟩
theorem sm_X6_297 : am_SM RX6 297 yX6_commonDivisor cX6_commonDivisor 11 (some .long) 2 := ⟨mf_X6_commonDivisor, Or.inl (am_t 607 (by decide +kernel) rfl), ms_X6_commonDivisor⟩
theorem sm_X6_150 : am_SM RX6 150 yX6_isKnot cX6_isKnot 1 (some .boolean) 1 := ⟨mf_X6_isKnot, Or.inl (am_t 444 (by decide +kernel) rfl), ms_X6_isKnot⟩
theorem vm_X6_267 : am_VM RX6 267 yX6_chancesOfJoined cX6_chancesOfJoined 8 (some .long) 3 6 := ⟨mf_X6_chancesOfJoined, Or.inl (am_t 614 (by decide +kernel) rfl), mn_X6_chancesOfJoined, me_X6_chancesOfJoined, by decide, rfl⟩
theorem kw_X6_271 : Cond.constantLong RX6 271 (10) ∈ am_T := (am_t 618 (by decide +kernel) rfl)
theorem sm_X6_260 : am_SM RX6 260 yX6_told cX6_told 7 (some .int) 3 := ⟨mf_X6_told, Or.inl (am_t 604 (by decide +kernel) rfl), ms_X6_told⟩
theorem fl_X3_46 : am_FL RX3 46 3 3 := ⟨by decide, by decide, Or.inl (am_t 29 (by decide +kernel) rfl)⟩
theorem fl_X3_15 : am_FL RX3 15 3 2 := ⟨by decide, by decide, Or.inl (am_t 28 (by decide +kernel) rfl)⟩
theorem fl_X3_9 : am_FL RX3 9 3 0 := ⟨by decide, by decide, Or.inl (am_t 25 (by decide +kernel) rfl)⟩
theorem fl_X3_28 : am_FL RX3 28 3 1 := ⟨by decide, by decide, Or.inl (am_t 26 (by decide +kernel) rfl)⟩
theorem sm_X3_49 : am_SM RX3 49 yX6_isKnot cX6_isKnot 1 (some .boolean) 1 := ⟨mf_X6_isKnot, Or.inr ⟨"TimeLinks", am_n 240 (by decide +kernel)⟩, ms_X6_isKnot⟩
theorem vm_X3_53 : am_VM RX3 53 yX3_partners cX3_partners 4 (some .int) 2 3 := ⟨mf_X3_partners, Or.inl (am_t 243 (by decide +kernel) rfl), mn_X3_partners, me_X3_partners, by decide, rfl⟩
theorem fl_X3_19 : am_FL RX3 19 3 4 := ⟨by decide, by decide, Or.inl (am_t 30 (by decide +kernel) rfl)⟩
theorem fl_X3_35 : am_FL RX3 35 3 7 := ⟨by decide, by decide, Or.inl (am_t 33 (by decide +kernel) rfl)⟩
theorem fl_X3_22 : am_FL RX3 22 3 5 := ⟨by decide, by decide, Or.inl (am_t 31 (by decide +kernel) rfl)⟩
theorem fl_X3_25 : am_FL RX3 25 3 6 := ⟨by decide, by decide, Or.inl (am_t 32 (by decide +kernel) rfl)⟩
theorem vm_X3_32 : am_VM RX3 32 yX3_forgetLinks cX3_forgetLinks 2 (none) 0 3 := ⟨mf_X3_forgetLinks, Or.inl (am_t 232 (by decide +kernel) rfl), mn_X3_forgetLinks, me_X3_forgetLinks, by decide, rfl⟩
theorem vm_X3_38 : am_VM RX3 38 yX3_faultOfEvent cX3_faultOfEvent 5 (some .int) 1 3 := ⟨mf_X3_faultOfEvent, Or.inl (am_t 236 (by decide +kernel) rfl), mn_X3_faultOfEvent, me_X3_faultOfEvent, by decide, rfl⟩
theorem vm_X3_42 : am_VM RX3 42 yX3_takeEvent cX3_takeEvent 5 (none) 1 3 := ⟨mf_X3_takeEvent, Or.inl (am_t 247 (by decide +kernel) rfl), mn_X3_takeEvent, me_X3_takeEvent, by decide, rfl⟩
theorem vm_X6_70 : am_VM RX6 70 yX3_firstFault cX3_firstFault 3 (some .int) 0 3 := ⟨mf_X3_firstFault, Or.inl (am_t 228 (by decide +kernel) rfl), mn_X3_firstFault, me_X3_firstFault, by decide, rfl⟩
theorem vm_X6_161 : am_VM RX6 161 yX2_areJoined cX2_areJoined 3 (some .boolean) 2 2 := ⟨mf_X2_areJoined, Or.inl (am_t 451 (by decide +kernel) rfl), mn_X2_areJoined, me_X2_areJoined, by decide, rfl⟩
theorem vm_X6_216 : am_VM RX6 216 yX6_areJoinedInTrial cX6_areJoinedInTrial 4 (some .boolean) 3 6 := ⟨mf_X6_areJoinedInTrial, Or.inl (am_t 528 (by decide +kernel) rfl), mn_X6_areJoinedInTrial, me_X6_areJoinedInTrial, by decide, rfl⟩
theorem kw_X6_207 : Cond.constantLong RX6 207 (100000) ∈ am_T := (am_t 520 (by decide +kernel) rfl)
theorem vm_X6_213 : am_VM RX6 213 yX6_stands cX6_stands 6 (some .boolean) 1 6 := ⟨mf_X6_stands, Or.inl (am_t 524 (by decide +kernel) rfl), mn_X6_stands, me_X6_stands, by decide, rfl⟩
theorem vm_X6_153 : am_VM RX6 153 yX2_rootOf cX2_rootOf 4 (some .int) 1 2 := ⟨mf_X2_rootOf, Or.inl (am_t 445 (by decide +kernel) rfl), mn_X2_rootOf, me_X2_rootOf, by decide, rfl⟩
theorem vm_X6_156 : am_VM RX6 156 yX2_depthOf cX2_depthOf 5 (some .int) 1 2 := ⟨mf_X2_depthOf, Or.inl (am_t 446 (by decide +kernel) rfl), mn_X2_depthOf, me_X2_depthOf, by decide, rfl⟩
theorem fl_X6_159 : am_FL RX6 159 2 1 := ⟨by decide, by decide, Or.inr ⟨"TimeLinks", am_n 112 (by decide +kernel)⟩⟩
theorem vm_X6_201 : am_VM RX6 201 yX6_leastApart cX6_leastApart 6 (some .int) 2 6 := ⟨mf_X6_leastApart, Or.inl (am_t 508 (by decide +kernel) rfl), mn_X6_leastApart, me_X6_leastApart, by decide, rfl⟩
theorem vm_X6_204 : am_VM RX6 204 yX1_numbersOf cX1_numbersOf 4 (some .int) 1 1 := ⟨mf_X1_numbersOf, Or.inl (am_t 512 (by decide +kernel) rfl), mn_X1_numbersOf, me_X1_numbersOf, by decide, rfl⟩
theorem fl_X3_57 : am_FL RX3 57 5 4 := ⟨by decide, by decide, Or.inr ⟨"TimeLinks", am_n 75 (by decide +kernel)⟩⟩
theorem vm_X3_62 : am_VM RX3 62 yX5_add cX5_add 5 (some .int) 4 5 := ⟨mf_X5_add, Or.inl (am_t 259 (by decide +kernel) rfl), mn_X5_add, me_X5_add, by decide, rfl⟩
theorem vm_X3_66 : am_VM RX3 66 yX5_lastOf cX5_lastOf 4 (some .int) 2 5 := ⟨mf_X5_lastOf, Or.inl (am_t 286 (by decide +kernel) rfl), mn_X5_lastOf, me_X5_lastOf, by decide, rfl⟩
theorem vm_X3_70 : am_VM RX3 70 yX5_stopAt cX5_stopAt 4 (some .int) 2 5 := ⟨mf_X5_stopAt, Or.inl (am_t 290 (by decide +kernel) rfl), mn_X5_stopAt, me_X5_stopAt, by decide, rfl⟩
theorem vm_X6_74 : am_VM RX6 74 yX3_layOut cX3_layOut 3 (none) 1 3 := ⟨mf_X3_layOut, Or.inl (am_t 255 (by decide +kernel) rfl), mn_X3_layOut, me_X3_layOut, by decide, rfl⟩
theorem fl_X4_31 : am_FL RX4 31 4 6 := ⟨by decide, by decide, Or.inl (am_t 164 (by decide +kernel) rfl)⟩
theorem fl_X4_9 : am_FL RX4 9 4 0 := ⟨by decide, by decide, Or.inl (am_t 158 (by decide +kernel) rfl)⟩
theorem vm_X4_35 : am_VM RX4 35 yX1_gather cX1_gather 4 (none) 2 1 := ⟨mf_X1_gather, Or.inl (am_t 556 (by decide +kernel) rfl), mn_X1_gather, me_X1_gather, by decide, rfl⟩
theorem fl_X4_25 : am_FL RX4 25 4 4 := ⟨by decide, by decide, Or.inl (am_t 162 (by decide +kernel) rfl)⟩
theorem fl_X4_15 : am_FL RX4 15 4 1 := ⟨by decide, by decide, Or.inl (am_t 159 (by decide +kernel) rfl)⟩
theorem vm_X4_41 : am_VM RX4 41 yX1_all cX1_all 1 (some .int) 0 1 := ⟨mf_X1_all, Or.inl (am_t 557 (by decide +kernel) rfl), mn_X1_all, me_X1_all, by decide, rfl⟩
theorem vm_X4_45 : am_VM RX4 45 yX1_reach cX1_reach 7 (some .int) 2 1 := ⟨mf_X1_reach, Or.inl (am_t 558 (by decide +kernel) rfl), mn_X1_reach, me_X1_reach, by decide, rfl⟩
theorem fl_X4_28 : am_FL RX4 28 4 5 := ⟨by decide, by decide, Or.inl (am_t 163 (by decide +kernel) rfl)⟩
theorem fl_X4_18 : am_FL RX4 18 4 2 := ⟨by decide, by decide, Or.inl (am_t 160 (by decide +kernel) rfl)⟩
theorem vm_X4_53 : am_VM RX4 53 yX4_leads cX4_leads 4 (some .boolean) 3 4 := ⟨mf_X4_leads, Or.inl (am_t 577 (by decide +kernel) rfl), mn_X4_leads, me_X4_leads, by decide, rfl⟩
theorem vm_X4_49 : am_VM RX4 49 yX4_joinedWith cX4_joinedWith 5 (some .boolean) 4 4 := ⟨mf_X4_joinedWith, Or.inl (am_t 573 (by decide +kernel) rfl), mn_X4_joinedWith, me_X4_joinedWith, by decide, rfl⟩
theorem fl_X4_21 : am_FL RX4 21 4 3 := ⟨by decide, by decide, Or.inl (am_t 161 (by decide +kernel) rfl)⟩
theorem sm_X6_247 : am_SM RX6 247 yX6_stretch cX6_stretch 2 (some .int) 2 := ⟨mf_X6_stretch, Or.inl (am_t 568 (by decide +kernel) rfl), ms_X6_stretch⟩
theorem vm_X6_250 : am_VM RX6 250 yX4_allSoWith cX4_allSoWith 5 (some .boolean) 3 4 := ⟨mf_X4_allSoWith, Or.inl (am_t 569 (by decide +kernel) rfl), mn_X4_allSoWith, me_X4_allSoWith, by decide, rfl⟩
theorem vm_X6_236 : am_VM RX6 236 yX5_timesOf cX5_timesOf 6 (some .int) 3 5 := ⟨mf_X5_timesOf, Or.inl (am_t 563 (by decide +kernel) rfl), mn_X5_timesOf, me_X5_timesOf, by decide, rfl⟩
theorem vm_X6_240 : am_VM RX6 240 yX6_missingEnds cX6_missingEnds 7 (some .int) 4 6 := ⟨mf_X6_missingEnds, Or.inl (am_t 564 (by decide +kernel) rfl), mn_X6_missingEnds, me_X6_missingEnds, by decide, rfl⟩
theorem kw_X6_243 : Cond.constant RX6 243 (100000) ∈ am_T := (am_t 585 (by decide +kernel) rfl)
theorem sm_X6_244 : am_SM RX6 244 yX6_lowestBit cX6_lowestBit 2 (some .int) 1 := ⟨mf_X6_lowestBit, Or.inl (am_t 586 (by decide +kernel) rfl), ms_X6_lowestBit⟩
theorem vm_X6_226 : am_VM RX6 226 yX4_lookAt cX4_lookAt 4 (none) 2 4 := ⟨mf_X4_lookAt, Or.inl (am_t 552 (by decide +kernel) rfl), mn_X4_lookAt, me_X4_lookAt, by decide, rfl⟩
theorem vm_X6_230 : am_VM RX6 230 yX6_howManyMissing cX6_howManyMissing 6 (some .int) 0 6 := ⟨mf_X6_howManyMissing, Or.inl (am_t 559 (by decide +kernel) rfl), mn_X6_howManyMissing, me_X6_howManyMissing, by decide, rfl⟩
theorem vm_X6_233 : am_VM RX6 233 yX6_firstMissing cX6_firstMissing 6 (some .int) 0 6 := ⟨mf_X6_firstMissing, Or.inl (am_t 581 (by decide +kernel) rfl), mn_X6_firstMissing, me_X6_firstMissing, by decide, rfl⟩
theorem vm_X5_69 : am_VM RX5 69 yX5_lies cX5_lies 3 (some .boolean) 2 5 := ⟨mf_X5_lies, Or.inl (am_t 307 (by decide +kernel) rfl), mn_X5_lies, me_X5_lies, by decide, rfl⟩
theorem vm_X6_102 : am_VM RX6 102 yX5_lyingOn cX5_lyingOn 4 (some .int) 1 5 := ⟨mf_X5_lyingOn, Or.inl (am_t 319 (by decide +kernel) rfl), mn_X5_lyingOn, me_X5_lyingOn, by decide, rfl⟩
theorem vm_X6_222 : am_VM RX6 222 yX4_add cX4_add 5 (some .int) 4 4 := ⟨mf_X4_add, Or.inl (am_t 540 (by decide +kernel) rfl), mn_X4_add, me_X4_add, by decide, rfl⟩
theorem vm_X6_264 : am_VM RX6 264 yX1_placeOf cX1_placeOf 3 (some .int) 1 1 := ⟨mf_X1_placeOf, Or.inl (am_t 597 (by decide +kernel) rfl), mn_X1_placeOf, me_X1_placeOf, by decide, rfl⟩
theorem sm_X6_257 : am_SM RX6 257 yX6_factorial cX6_factorial 4 (some .long) 1 := ⟨mf_X6_factorial, Or.inl (am_t 601 (by decide +kernel) rfl), ms_X6_factorial⟩
theorem vm_X6_82 : am_VM RX6 82 yX5_has cX5_has 2 (some .boolean) 1 5 := ⟨mf_X5_has, Or.inl (am_t 302 (by decide +kernel) rfl), mn_X5_has, me_X5_has, by decide, rfl⟩
theorem vm_X6_253 : am_VM RX6 253 yX6_ordersInWhichItJoins cX6_ordersInWhichItJoins 8 (some .long) 1 6 := ⟨mf_X6_ordersInWhichItJoins, Or.inl (am_t 593 (by decide +kernel) rfl), mn_X6_ordersInWhichItJoins, me_X6_ordersInWhichItJoins, by decide, rfl⟩
theorem fl_X6_165 : am_FL RX6 165 2 3 := ⟨by decide, by decide, Or.inr ⟨"TimeLinks", am_n 115 (by decide +kernel)⟩⟩
theorem vm_X6_168 : am_VM RX6 168 yX2_turnOf cX2_turnOf 5 (some .int) 1 2 := ⟨mf_X2_turnOf, Or.inl (am_t 459 (by decide +kernel) rfl), mn_X2_turnOf, me_X2_turnOf, by decide, rfl⟩
theorem fl_X6_86 : am_FL RX6 86 5 0 := ⟨by decide, by decide, Or.inr ⟨"TimeLinks", am_n 62 (by decide +kernel)⟩⟩
theorem fl_X6_90 : am_FL RX6 90 5 1 := ⟨by decide, by decide, Or.inr ⟨"TimeLinks", am_n 66 (by decide +kernel)⟩⟩
theorem fl_X6_93 : am_FL RX6 93 5 2 := ⟨by decide, by decide, Or.inr ⟨"TimeLinks", am_n 68 (by decide +kernel)⟩⟩
theorem fl_X6_96 : am_FL RX6 96 5 3 := ⟨by decide, by decide, Or.inr ⟨"TimeLinks", am_n 70 (by decide +kernel)⟩⟩
theorem vm_X6_99 : am_VM RX6 99 yX5_howManyNodes cX5_howManyNodes 4 (some .int) 1 5 := ⟨mf_X5_howManyNodes, Or.inl (am_t 303 (by decide +kernel) rfl), mn_X5_howManyNodes, me_X5_howManyNodes, by decide, rfl⟩
theorem vm_X6_122 : am_VM RX6 122 yX0_takeBackLast cX0_takeBackLast 2 (none) 1 0 := ⟨mf_X0_takeBackLast, Or.inl (am_t 366 (by decide +kernel) rfl), mn_X0_takeBackLast, me_X0_takeBackLast, by decide, rfl⟩
theorem vm_X6_182 : am_VM RX6 182 yX2_walkToNode cX2_walkToNode 5 (some .int) 2 2 := ⟨mf_X2_walkToNode, Or.inl (am_t 478 (by decide +kernel) rfl), mn_X2_walkToNode, me_X2_walkToNode, by decide, rfl⟩
theorem vm_X6_171 : am_VM RX6 171 yX6_lyingOnAll cX6_lyingOnAll 3 (some .int) 0 6 := ⟨mf_X6_lyingOnAll, Or.inl (am_t 464 (by decide +kernel) rfl), mn_X6_lyingOnAll, me_X6_lyingOnAll, by decide, rfl⟩
theorem vm_X6_174 : am_VM RX6 174 yX6_joiningOnAll cX6_joiningOnAll 3 (some .int) 0 6 := ⟨mf_X6_joiningOnAll, Or.inl (am_t 474 (by decide +kernel) rfl), mn_X6_joiningOnAll, me_X6_joiningOnAll, by decide, rfl⟩
theorem vm_X6_62 : am_VM RX6 62 yX3_append cX3_append 2 (some .int) 1 3 := ⟨mf_X3_append, Or.inl (am_t 216 (by decide +kernel) rfl), mn_X3_append, me_X3_append, by decide, rfl⟩
theorem fl_X7_7 : am_FL RX7 7 7 0 := ⟨by decide, by decide, Or.inl (am_t 660 (by decide +kernel) rfl)⟩
theorem sm_X7_58 : am_SM RX7 58 yX7_in cX7_in 6 (some .boolean) 3 := ⟨mf_X7_in, Or.inl (am_t 726 (by decide +kernel) rfl), ms_X7_in⟩
theorem fl_X7_49 : am_FL RX7 49 7 18 := ⟨by decide, by decide, Or.inl (am_t 678 (by decide +kernel) rfl)⟩
theorem fl_X7_53 : am_FL RX7 53 7 19 := ⟨by decide, by decide, Or.inl (am_t 679 (by decide +kernel) rfl)⟩
theorem fl_X7_102 : am_FL RX7 102 7 4 := ⟨by decide, by decide, Or.inl (am_t 664 (by decide +kernel) rfl)⟩
theorem vm_X7_105 : am_VM RX7 105 yX7_many cX7_many 2 (some .int) 1 7 := ⟨mf_X7_many, Or.inl (am_t 777 (by decide +kernel) rfl), mn_X7_many, me_X7_many, by decide, rfl⟩
theorem kw_X7_62 : Cond.constantLong RX7 62 (15) ∈ am_T := (am_t 832 (by decide +kernel) rfl)
theorem fl_X7_22 : am_FL RX7 22 7 7 := ⟨by decide, by decide, Or.inl (am_t 667 (by decide +kernel) rfl)⟩
theorem fl_X7_25 : am_FL RX7 25 7 8 := ⟨by decide, by decide, Or.inl (am_t 668 (by decide +kernel) rfl)⟩
theorem sm_X7_64 : am_SM RX7 64 yX7_fromOf cX7_fromOf 1 (some .int) 1 := ⟨mf_X7_fromOf, Or.inl (am_t 762 (by decide +kernel) rfl), ms_X7_fromOf⟩
theorem sm_X7_68 : am_SM RX7 68 yX7_toOf cX7_toOf 1 (some .int) 1 := ⟨mf_X7_toOf, Or.inl (am_t 791 (by decide +kernel) rfl), ms_X7_toOf⟩
theorem sm_X7_112 : am_SM RX7 112 yX7_lowOf cX7_lowOf 1 (some .int) 1 := ⟨mf_X7_lowOf, Or.inl (am_t 785 (by decide +kernel) rfl), ms_X7_lowOf⟩
theorem vm_X7_176 : am_VM RX7 176 yX7_rootOf cX7_rootOf 3 (some .int) 1 7 := ⟨mf_X7_rootOf, Or.inl (am_t 892 (by decide +kernel) rfl), mn_X7_rootOf, me_X7_rootOf, by decide, rfl⟩
theorem sm_X7_115 : am_SM RX7 115 yX7_highOf cX7_highOf 1 (some .int) 1 := ⟨mf_X7_highOf, Or.inl (am_t 788 (by decide +kernel) rfl), ms_X7_highOf⟩
theorem vm_X7_179 : am_VM RX7 179 yX7_clearKnots cX7_clearKnots 2 (none) 0 7 := ⟨mf_X7_clearKnots, Or.inl (am_t 878 (by decide +kernel) rfl), mn_X7_clearKnots, me_X7_clearKnots, by decide, rfl⟩
theorem sm_X7_185 : am_SM RX7 185 yX7_has cX7_has 2 (some .boolean) 2 := ⟨mf_X7_has, Or.inl (am_t 882 (by decide +kernel) rfl), ms_X7_has⟩
theorem vm_X7_108 : am_VM RX7 108 yX7_spanOf cX7_spanOf 3 (some .int) 2 7 := ⟨mf_X7_spanOf, Or.inl (am_t 781 (by decide +kernel) rfl), mn_X7_spanOf, me_X7_spanOf, by decide, rfl⟩
theorem sm_X7_188 : am_SM RX7 188 yX7_livesAt cX7_livesAt 2 (some .boolean) 2 := ⟨mf_X7_livesAt, Or.inl (am_t 885 (by decide +kernel) rfl), ms_X7_livesAt⟩
theorem vm_X7_182 : am_VM RX7 182 yX7_joins cX7_joins 7 (some .boolean) 1 7 := ⟨mf_X7_joins, Or.inl (am_t 888 (by decide +kernel) rfl), mn_X7_joins, me_X7_joins, by decide, rfl⟩
theorem fl_X7_28 : am_FL RX7 28 7 9 := ⟨by decide, by decide, Or.inl (am_t 669 (by decide +kernel) rfl)⟩
theorem kw_X7_191 : Cond.constant RX7 191 (65535) ∈ am_T := (am_t 873 (by decide +kernel) rfl)
theorem vm_X7_192 : am_VM RX7 192 yX7_partsBy cX7_partsBy 6 (some .int) 3 7 := ⟨mf_X7_partsBy, Or.inl (am_t 874 (by decide +kernel) rfl), mn_X7_partsBy, me_X7_partsBy, by decide, rfl⟩
theorem fl_X7_31 : am_FL RX7 31 7 10 := ⟨by decide, by decide, Or.inl (am_t 670 (by decide +kernel) rfl)⟩
theorem vm_X7_196 : am_VM RX7 196 yX7_spreadSides cX7_spreadSides 7 (none) 1 7 := ⟨mf_X7_spreadSides, Or.inl (am_t 908 (by decide +kernel) rfl), mn_X7_spreadSides, me_X7_spreadSides, by decide, rfl⟩
theorem vm_X7_200 : am_VM RX7 200 yX7_findSides cX7_findSides 4 (none) 1 7 := ⟨mf_X7_findSides, Or.inl (am_t 904 (by decide +kernel) rfl), mn_X7_findSides, me_X7_findSides, by decide, rfl⟩
theorem sm_X7_129 : am_SM RX7 129 yX7_depthOf cX7_depthOf 3 (some .int) 1 := ⟨mf_X7_depthOf, Or.inl (am_t 806 (by decide +kernel) rfl), ms_X7_depthOf⟩
theorem sm_X7_132 : am_SM RX7 132 yX7_firstOf cX7_firstOf 2 (some .int) 1 := ⟨mf_X7_firstOf, Or.inl (am_t 803 (by decide +kernel) rfl), ms_X7_firstOf⟩
theorem sm_X7_135 : am_SM RX7 135 yX7_lastOf cX7_lastOf 1 (some .int) 1 := ⟨mf_X7_lastOf, Or.inl (am_t 809 (by decide +kernel) rfl), ms_X7_lastOf⟩
theorem sm_X7_138 : am_SM RX7 138 yX7_fills cX7_fills 2 (some .boolean) 2 := ⟨mf_X7_fills, Or.inl (am_t 800 (by decide +kernel) rfl), ms_X7_fills⟩
theorem sm_X7_142 : am_SM RX7 142 yX7_lies cX7_lies 2 (some .boolean) 2 := ⟨mf_X7_lies, Or.inl (am_t 797 (by decide +kernel) rfl), ms_X7_lies⟩
theorem vm_X7_203 : am_VM RX7 203 yX7_walkTo cX7_walkTo 6 (some .int) 1 7 := ⟨mf_X7_walkTo, Or.inl (am_t 916 (by decide +kernel) rfl), mn_X7_walkTo, me_X7_walkTo, by decide, rfl⟩
theorem vm_X7_206 : am_VM RX7 206 yX7_depthAt cX7_depthAt 4 (some .int) 1 7 := ⟨mf_X7_depthAt, Or.inl (am_t 920 (by decide +kernel) rfl), mn_X7_depthAt, me_X7_depthAt, by decide, rfl⟩
theorem sm_X7_122 : am_SM RX7 122 yX7_isTime cX7_isTime 1 (some .boolean) 1 := ⟨mf_X7_isTime, Or.inl (am_t 829 (by decide +kernel) rfl), ms_X7_isTime⟩
theorem vm_X7_209 : am_VM RX7 209 yX7_livingAt cX7_livingAt 4 (some .int) 1 7 := ⟨mf_X7_livingAt, Or.inl (am_t 896 (by decide +kernel) rfl), mn_X7_livingAt, me_X7_livingAt, by decide, rfl⟩
theorem vm_X7_212 : am_VM RX7 212 yX7_oddParts cX7_oddParts 4 (some .int) 1 7 := ⟨mf_X7_oddParts, Or.inl (am_t 900 (by decide +kernel) rfl), mn_X7_oddParts, me_X7_oddParts, by decide, rfl⟩
theorem vm_X7_215 : am_VM RX7 215 yX7_greatestDepth cX7_greatestDepth 4 (some .int) 1 7 := ⟨mf_X7_greatestDepth, Or.inl (am_t 912 (by decide +kernel) rfl), mn_X7_greatestDepth, me_X7_greatestDepth, by decide, rfl⟩
theorem vm_X7_218 : am_VM RX7 218 yX7_greatestPart cX7_greatestPart 4 (some .int) 1 7 := ⟨mf_X7_greatestPart, Or.inl (am_t 924 (by decide +kernel) rfl), mn_X7_greatestPart, me_X7_greatestPart, by decide, rfl⟩
theorem fl_X7_73 : am_FL RX7 73 7 2 := ⟨by decide, by decide, Or.inl (am_t 662 (by decide +kernel) rfl)⟩
theorem vm_X7_278 : am_VM RX7 278 yX7_filledTimes cX7_filledTimes 3 (some .int) 0 7 := ⟨mf_X7_filledTimes, Or.inl (am_t 1048 (by decide +kernel) rfl), mn_X7_filledTimes, me_X7_filledTimes, by decide, rfl⟩
theorem vm_X7_281 : am_VM RX7 281 yX7_timesTogether cX7_timesTogether 3 (some .int) 0 7 := ⟨mf_X7_timesTogether, Or.inl (am_t 1052 (by decide +kernel) rfl), mn_X7_timesTogether, me_X7_timesTogether, by decide, rfl⟩
theorem fl_X7_247 : am_FL RX7 247 7 11 := ⟨by decide, by decide, Or.inl (am_t 671 (by decide +kernel) rfl)⟩
theorem fl_X7_19 : am_FL RX7 19 7 6 := ⟨by decide, by decide, Or.inl (am_t 666 (by decide +kernel) rfl)⟩
theorem fl_X7_156 : am_FL RX7 156 7 5 := ⟨by decide, by decide, Or.inl (am_t 665 (by decide +kernel) rfl)⟩
theorem vm_X7_145 : am_VM RX7 145 yX7_isSpan cX7_isSpan 2 (some .boolean) 1 7 := ⟨mf_X7_isSpan, Or.inl (am_t 773 (by decide +kernel) rfl), mn_X7_isSpan, me_X7_isSpan, by decide, rfl⟩
theorem vm_X7_159 : am_VM RX7 159 yX7_keepAct cX7_keepAct 2 (none) 0 7 := ⟨mf_X7_keepAct, Or.inl (am_t 837 (by decide +kernel) rfl), mn_X7_keepAct, me_X7_keepAct, by decide, rfl⟩
theorem vm_X7_166 : am_VM RX7 166 yX7_cutOn cX7_cutOn 4 (none) 2 7 := ⟨mf_X7_cutOn, Or.inl (am_t 849 (by decide +kernel) rfl), mn_X7_cutOn, me_X7_cutOn, by decide, rfl⟩
theorem kw_X7_56 : Cond.constantLong RX7 56 (7) ∈ am_T := (am_t 828 (by decide +kernel) rfl)
theorem sm_X7_118 : am_SM RX7 118 yX7_isKnot cX7_isKnot 1 (some .boolean) 1 := ⟨mf_X7_isKnot, Or.inl (am_t 825 (by decide +kernel) rfl), ms_X7_isKnot⟩
theorem sm_X7_95 : am_SM RX7 95 yX7_asOne cX7_asOne 6 (some .int) 4 := ⟨mf_X7_asOne, Or.inl (am_t 759 (by decide +kernel) rfl), ms_X7_asOne⟩
theorem vm_X7_125 : am_VM RX7 125 yX7_isFree cX7_isFree 8 (some .boolean) 3 7 := ⟨mf_X7_isFree, Or.inl (am_t 833 (by decide +kernel) rfl), mn_X7_isFree, me_X7_isFree, by decide, rfl⟩
theorem kw_X7_272 : Cond.constantLong RX7 272 (16) ∈ am_T := (am_t 1033 (by decide +kernel) rfl)
theorem vm_X7_241 : am_VM RX7 241 yX7_layTrial cX7_layTrial 2 (none) 0 7 := ⟨mf_X7_layTrial, Or.inl (am_t 973 (by decide +kernel) rfl), mn_X7_layTrial, me_X7_layTrial, by decide, rfl⟩
theorem fl_X7_268 : am_FL RX7 268 7 17 := ⟨by decide, by decide, Or.inl (am_t 677 (by decide +kernel) rfl)⟩
theorem kw_X7_274 : Cond.constantLong RX7 274 (6364136223846793005) ∈ am_T := (am_t 1034 (by decide +kernel) rfl)
theorem kw_X7_276 : Cond.constantLong RX7 276 (1442695040888963407) ∈ am_T := (am_t 1035 (by decide +kernel) rfl)
theorem vm_X7_230 : am_VM RX7 230 yX7_canPut cX7_canPut 6 (some .boolean) 5 7 := ⟨mf_X7_canPut, Or.inl (am_t 981 (by decide +kernel) rfl), mn_X7_canPut, me_X7_canPut, by decide, rfl⟩
theorem vm_X7_162 : am_VM RX7 162 yX7_putOn cX7_putOn 3 (none) 2 7 := ⟨mf_X7_putOn, Or.inl (am_t 841 (by decide +kernel) rfl), mn_X7_putOn, me_X7_putOn, by decide, rfl⟩
theorem vm_X7_169 : am_VM RX7 169 yX7_canEnd cX7_canEnd 5 (some .boolean) 3 7 := ⟨mf_X7_canEnd, Or.inl (am_t 857 (by decide +kernel) rfl), mn_X7_canEnd, me_X7_canEnd, by decide, rfl⟩
theorem vm_X7_172 : am_VM RX7 172 yX7_endOn cX7_endOn 5 (none) 3 7 := ⟨mf_X7_endOn, Or.inl (am_t 861 (by decide +kernel) rfl), mn_X7_endOn, me_X7_endOn, by decide, rfl⟩
theorem fl_X7_46 : am_FL RX7 46 7 16 := ⟨by decide, by decide, Or.inl (am_t 676 (by decide +kernel) rfl)⟩
theorem kw_X7_266 : Cond.constantLong RX7 266 (10) ∈ am_T := (am_t 1024 (by decide +kernel) rfl)
theorem vm_X7_254 : am_VM RX7 254 yX7_findLiving cX7_findLiving 4 (some .int) 1 7 := ⟨mf_X7_findLiving, Or.inl (am_t 1006 (by decide +kernel) rfl), mn_X7_findLiving, me_X7_findLiving, by decide, rfl⟩
theorem vm_X7_257 : am_VM RX7 257 yX7_spansOf cX7_spansOf 5 (some .int) 2 7 := ⟨mf_X7_spansOf, Or.inl (am_t 1010 (by decide +kernel) rfl), mn_X7_spansOf, me_X7_spansOf, by decide, rfl⟩
theorem vm_X7_223 : am_VM RX7 223 yX7_areJoined cX7_areJoined 6 (some .boolean) 5 7 := ⟨mf_X7_areJoined, Or.inl (am_t 937 (by decide +kernel) rfl), mn_X7_areJoined, me_X7_areJoined, by decide, rfl⟩
theorem sm_X7_263 : am_SM RX7 263 yX7_common cX7_common 5 (some .int) 2 := ⟨mf_X7_common, Or.inl (am_t 1017 (by decide +kernel) rfl), ms_X7_common⟩
theorem fl_X7_16 : am_FL RX7 16 7 3 := ⟨by decide, by decide, Or.inl (am_t 663 (by decide +kernel) rfl)⟩
theorem vm_X7_81 : am_VM RX7 81 yX7_linksOf cX7_linksOf 4 (some .int) 1 7 := ⟨mf_X7_linksOf, Or.inl (am_t 745 (by decide +kernel) rfl), mn_X7_linksOf, me_X7_linksOf, by decide, rfl⟩
theorem fl_X7_13 : am_FL RX7 13 7 1 := ⟨by decide, by decide, Or.inl (am_t 661 (by decide +kernel) rfl)⟩
theorem kw_X7_77 : Cond.constantLong RX7 77 (48) ∈ am_T := (am_t 757 (by decide +kernel) rfl)
theorem kw_X7_79 : Cond.constantLong RX7 79 (55) ∈ am_T := (am_t 758 (by decide +kernel) rfl)
theorem vm_X7_92 : am_VM RX7 92 yX7_knotAt cX7_knotAt 2 (some .int) 1 7 := ⟨mf_X7_knotAt, Or.inl (am_t 753 (by decide +kernel) rfl), mn_X7_knotAt, me_X7_knotAt, by decide, rfl⟩
theorem vm_X7_84 : am_VM RX7 84 yX7_linksOfAll cX7_linksOfAll 3 (some .int) 0 7 := ⟨mf_X7_linksOfAll, Or.inl (am_t 741 (by decide +kernel) rfl), mn_X7_linksOfAll, me_X7_linksOfAll, by decide, rfl⟩
theorem vm_X7_88 : am_VM RX7 88 yX7_readPair cX7_readPair 7 (some .int) 3 7 := ⟨mf_X7_readPair, Or.inl (am_t 749 (by decide +kernel) rfl), mn_X7_readPair, me_X7_readPair, by decide, rfl⟩
theorem vm_X7_99 : am_VM RX7 99 yX7_readText cX7_readText 7 (some .int) 0 7 := ⟨mf_X7_readText, Or.inl (am_t 737 (by decide +kernel) rfl), mn_X7_readText, me_X7_readText, by decide, rfl⟩
theorem kw_X7_233 : Cond.constantLong RX7 233 (100000) ∈ am_T := (am_t 972 (by decide +kernel) rfl)
theorem kw_X7_235 : Cond.constantLong RX7 235 (3) ∈ am_T := (am_t 968 (by decide +kernel) rfl)
theorem sm_X7_237 : am_SM RX7 237 yX7_byFives cX7_byFives 4 (some .long) 1 := ⟨mf_X7_byFives, Or.inl (am_t 969 (by decide +kernel) rfl), ms_X7_byFives⟩
theorem vm_X7_244 : am_VM RX7 244 yX7_tryThing cX7_tryThing 9 (some .boolean) 3 7 := ⟨mf_X7_tryThing, Or.inl (am_t 977 (by decide +kernel) rfl), mn_X7_tryThing, me_X7_tryThing, by decide, rfl⟩
theorem kw_X7_221 : Cond.constantLong RX7 221 (2) ∈ am_T := (am_t 932 (by decide +kernel) rfl)
theorem sm_X7_227 : am_SM RX7 227 yX7_ones cX7_ones 3 (some .int) 1 := ⟨mf_X7_ones, Or.inl (am_t 949 (by decide +kernel) rfl), ms_X7_ones⟩
theorem fl_X7_37 : am_FL RX7 37 7 13 := ⟨by decide, by decide, Or.inl (am_t 673 (by decide +kernel) rfl)⟩
theorem fl_X7_40 : am_FL RX7 40 7 14 := ⟨by decide, by decide, Or.inl (am_t 674 (by decide +kernel) rfl)⟩
theorem fl_X7_34 : am_FL RX7 34 7 12 := ⟨by decide, by decide, Or.inl (am_t 672 (by decide +kernel) rfl)⟩
theorem fl_X7_43 : am_FL RX7 43 7 15 := ⟨by decide, by decide, Or.inl (am_t 675 (by decide +kernel) rfl)⟩
theorem vm_X7_250 : am_VM RX7 250 yX7_mayBe cX7_mayBe 4 (some .boolean) 1 7 := ⟨mf_X7_mayBe, Or.inl (am_t 997 (by decide +kernel) rfl), mn_X7_mayBe, me_X7_mayBe, by decide, rfl⟩
theorem kw_X7_253 : Cond.constant RX7 253 (100000) ∈ am_T := (am_t 1001 (by decide +kernel) rfl)
theorem kw_X7_151 : Cond.constantLong RX7 151 (31) ∈ am_T := (am_t 816 (by decide +kernel) rfl)
theorem vm_X7_153 : am_VM RX7 153 yX7_liesOn cX7_liesOn 4 (some .int) 1 7 := ⟨mf_X7_liesOn, Or.inl (am_t 817 (by decide +kernel) rfl), mn_X7_liesOn, me_X7_liesOn, by decide, rfl⟩
theorem sm_X7_260 : am_SM RX7 260 yX7_factorial cX7_factorial 3 (some .int) 1 := ⟨mf_X7_factorial, Or.inl (am_t 1014 (by decide +kernel) rfl), ms_X7_factorial⟩
theorem sm_X7_148 : am_SM RX7 148 yX7_nodesOf cX7_nodesOf 3 (some .int) 1 := ⟨mf_X7_nodesOf, Or.inl (am_t 794 (by decide +kernel) rfl), ms_X7_nodesOf⟩
theorem kw_X7_71 : Cond.constantLong RX7 71 (255) ∈ am_T := (am_t 725 (by decide +kernel) rfl)
theorem ko_X3 : Cond.methodLink RX3 3 Lib.objectInit ∈ am_T := (am_t 24 (by decide +kernel) rfl)
theorem ka_char : Cond.arrayClass (newarray.typeOf .char) ∈ am_T := (am_t 51 (by decide +kernel) rfl)
theorem fk_X3_9 : Cond.fieldLink RX3 9 (am_ct 3 0).1 (am_ct 3 0).2.1 (am_ct 3 0).2.2.1 ∈ am_T := (am_t 25 (by decide +kernel) rfl)
theorem ka_int : Cond.arrayClass (newarray.typeOf .int) ∈ am_T := (am_t 52 (by decide +kernel) rfl)
theorem fk_X3_15 : Cond.fieldLink RX3 15 (am_ct 3 2).1 (am_ct 3 2).2.1 (am_ct 3 2).2.2.1 ∈ am_T := (am_t 28 (by decide +kernel) rfl)
theorem fk_X3_19 : Cond.fieldLink RX3 19 (am_ct 3 4).1 (am_ct 3 4).2.1 (am_ct 3 4).2.2.1 ∈ am_T := (am_t 30 (by decide +kernel) rfl)
theorem fk_X3_22 : Cond.fieldLink RX3 22 (am_ct 3 5).1 (am_ct 3 5).2.1 (am_ct 3 5).2.2.1 ∈ am_T := (am_t 31 (by decide +kernel) rfl)
theorem fk_X3_25 : Cond.fieldLink RX3 25 (am_ct 3 6).1 (am_ct 3 6).2.1 (am_ct 3 6).2.2.1 ∈ am_T := (am_t 32 (by decide +kernel) rfl)
theorem ko_X5 : Cond.methodLink RX5 3 Lib.objectInit ∈ am_T := (am_t 58 (by decide +kernel) rfl)
theorem fk_X5_9 : Cond.fieldLink RX5 9 (am_ct 5 0).1 (am_ct 5 0).2.1 (am_ct 5 0).2.2.1 ∈ am_T := (am_t 59 (by decide +kernel) rfl)
theorem fk_X5_15 : Cond.fieldLink RX5 15 (am_ct 5 1).1 (am_ct 5 1).2.1 (am_ct 5 1).2.2.1 ∈ am_T := (am_t 63 (by decide +kernel) rfl)
theorem fk_X5_18 : Cond.fieldLink RX5 18 (am_ct 5 2).1 (am_ct 5 2).2.1 (am_ct 5 2).2.2.1 ∈ am_T := (am_t 67 (by decide +kernel) rfl)
theorem fk_X5_21 : Cond.fieldLink RX5 21 (am_ct 5 3).1 (am_ct 5 3).2.1 (am_ct 5 3).2.2.1 ∈ am_T := (am_t 69 (by decide +kernel) rfl)
theorem ko_X0 : Cond.methodLink RX0 3 Lib.objectInit ∈ am_T := (am_t 92 (by decide +kernel) rfl)
theorem kq_X0_9 : Cond.classLink RX0 9 "TimeLinks$Spans" ∈ am_T := (am_t 93 (by decide +kernel) rfl)
theorem fk_X0_11 : Cond.fieldLink RX0 11 (am_ct 0 0).1 (am_ct 0 0).2.1 (am_ct 0 0).2.2.1 ∈ am_T := (am_t 96 (by decide +kernel) rfl)
theorem kc_X0_9 : Cond.classLink RX0 9 (am_cn 5) ∈ am_T := (am_t 93 (by decide +kernel) rfl)
theorem ki_5 : Cond.instantiable (am_cn 5) (am_nf 5) ∈ am_T := (am_t 54 (by decide +kernel) rfl)
theorem kn_5 : Cond.initialized (am_cn 5) ∈ am_T := (am_t 3 (by decide +kernel) rfl)
theorem im_X0_17 : am_IM RX0 17 yX5_init cX5_init 1 0 := ⟨mf_X5_init, Or.inr ⟨"TimeLinks", am_n 95 (by decide +kernel)⟩, mn_X5_init, rfl⟩
theorem ko_X2 : Cond.methodLink RX2 3 Lib.objectInit ∈ am_T := (am_t 109 (by decide +kernel) rfl)
theorem fk_X2_9 : Cond.fieldLink RX2 9 (am_ct 2 0).1 (am_ct 2 0).2.1 (am_ct 2 0).2.2.1 ∈ am_T := (am_t 110 (by decide +kernel) rfl)
theorem fk_X2_15 : Cond.fieldLink RX2 15 (am_ct 2 1).1 (am_ct 2 1).2.1 (am_ct 2 1).2.2.1 ∈ am_T := (am_t 111 (by decide +kernel) rfl)
theorem fk_X2_18 : Cond.fieldLink RX2 18 (am_ct 2 2).1 (am_ct 2 2).2.1 (am_ct 2 2).2.2.1 ∈ am_T := (am_t 113 (by decide +kernel) rfl)
theorem ka_boolean : Cond.arrayClass (newarray.typeOf .boolean) ∈ am_T := (am_t 125 (by decide +kernel) rfl)
theorem fk_X2_21 : Cond.fieldLink RX2 21 (am_ct 2 3).1 (am_ct 2 3).2.1 (am_ct 2 3).2.2.1 ∈ am_T := (am_t 114 (by decide +kernel) rfl)
theorem ko_X1 : Cond.methodLink RX1 3 Lib.objectInit ∈ am_T := (am_t 131 (by decide +kernel) rfl)
theorem fk_X1_9 : Cond.fieldLink RX1 9 (am_ct 1 0).1 (am_ct 1 0).2.1 (am_ct 1 0).2.2.1 ∈ am_T := (am_t 132 (by decide +kernel) rfl)
theorem fk_X1_15 : Cond.fieldLink RX1 15 (am_ct 1 1).1 (am_ct 1 1).2.1 (am_ct 1 1).2.2.1 ∈ am_T := (am_t 134 (by decide +kernel) rfl)
theorem fk_X1_18 : Cond.fieldLink RX1 18 (am_ct 1 2).1 (am_ct 1 2).2.1 (am_ct 1 2).2.2.1 ∈ am_T := (am_t 136 (by decide +kernel) rfl)
theorem fk_X1_21 : Cond.fieldLink RX1 21 (am_ct 1 3).1 (am_ct 1 3).2.1 (am_ct 1 3).2.2.1 ∈ am_T := (am_t 138 (by decide +kernel) rfl)
theorem ko_X4 : Cond.methodLink RX4 3 Lib.objectInit ∈ am_T := (am_t 157 (by decide +kernel) rfl)
theorem fk_X4_9 : Cond.fieldLink RX4 9 (am_ct 4 0).1 (am_ct 4 0).2.1 (am_ct 4 0).2.2.1 ∈ am_T := (am_t 158 (by decide +kernel) rfl)
theorem fk_X4_15 : Cond.fieldLink RX4 15 (am_ct 4 1).1 (am_ct 4 1).2.1 (am_ct 4 1).2.2.1 ∈ am_T := (am_t 159 (by decide +kernel) rfl)
theorem fk_X4_18 : Cond.fieldLink RX4 18 (am_ct 4 2).1 (am_ct 4 2).2.1 (am_ct 4 2).2.2.1 ∈ am_T := (am_t 160 (by decide +kernel) rfl)
theorem fk_X4_21 : Cond.fieldLink RX4 21 (am_ct 4 3).1 (am_ct 4 3).2.1 (am_ct 4 3).2.2.1 ∈ am_T := (am_t 161 (by decide +kernel) rfl)
theorem fk_X4_25 : Cond.fieldLink RX4 25 (am_ct 4 4).1 (am_ct 4 4).2.1 (am_ct 4 4).2.2.1 ∈ am_T := (am_t 162 (by decide +kernel) rfl)
theorem fk_X4_28 : Cond.fieldLink RX4 28 (am_ct 4 5).1 (am_ct 4 5).2.1 (am_ct 4 5).2.2.1 ∈ am_T := (am_t 163 (by decide +kernel) rfl)
theorem ko_X6 : Cond.methodLink RX6 1 Lib.objectInit ∈ am_T := (am_t 16 (by decide +kernel) rfl)
theorem kc_X6_7 : Cond.classLink RX6 7 (am_cn 3) ∈ am_T := (am_t 19 (by decide +kernel) rfl)
theorem ki_3 : Cond.instantiable (am_cn 3) (am_nf 3) ∈ am_T := (am_t 20 (by decide +kernel) rfl)
theorem kn_3 : Cond.initialized (am_cn 3) ∈ am_T := (am_t 2 (by decide +kernel) rfl)
theorem im_X6_9 : am_IM RX6 9 yX3_init cX3_init 1 0 := ⟨mf_X3_init, Or.inr ⟨"TimeLinks", am_n 21 (by decide +kernel)⟩, mn_X3_init, rfl⟩
theorem fk_X6_10 : Cond.fieldLink RX6 10 (am_ct 6 0).1 (am_ct 6 0).2.1 (am_ct 6 0).2.2.1 ∈ am_T := (am_t 181 (by decide +kernel) rfl)
theorem kc_X6_16 : Cond.classLink RX6 16 (am_cn 5) ∈ am_T := (am_t 53 (by decide +kernel) rfl)
theorem im_X6_18 : am_IM RX6 18 yX5_init cX5_init 1 0 := ⟨mf_X5_init, Or.inr ⟨"TimeLinks", am_n 55 (by decide +kernel)⟩, mn_X5_init, rfl⟩
theorem fk_X6_19 : Cond.fieldLink RX6 19 (am_ct 6 1).1 (am_ct 6 1).2.1 (am_ct 6 1).2.2.1 ∈ am_T := (am_t 182 (by decide +kernel) rfl)
theorem fk_X6_23 : Cond.fieldLink RX6 23 (am_ct 6 2).1 (am_ct 6 2).2.1 (am_ct 6 2).2.2.1 ∈ am_T := (am_t 183 (by decide +kernel) rfl)
theorem kc_X6_26 : Cond.classLink RX6 26 (am_cn 0) ∈ am_T := (am_t 87 (by decide +kernel) rfl)
theorem ki_0 : Cond.instantiable (am_cn 0) (am_nf 0) ∈ am_T := (am_t 88 (by decide +kernel) rfl)
theorem kn_0 : Cond.initialized (am_cn 0) ∈ am_T := (am_t 4 (by decide +kernel) rfl)
theorem im_X6_28 : am_IM RX6 28 yX0_init cX0_init 2 0 := ⟨mf_X0_init, Or.inl (am_t 89 (by decide +kernel) rfl), mn_X0_init, rfl⟩
theorem fk_X6_29 : Cond.fieldLink RX6 29 (am_ct 6 3).1 (am_ct 6 3).2.1 (am_ct 6 3).2.2.1 ∈ am_T := (am_t 184 (by decide +kernel) rfl)
theorem kc_X6_33 : Cond.classLink RX6 33 (am_cn 2) ∈ am_T := (am_t 104 (by decide +kernel) rfl)
theorem ki_2 : Cond.instantiable (am_cn 2) (am_nf 2) ∈ am_T := (am_t 105 (by decide +kernel) rfl)
theorem kn_2 : Cond.initialized (am_cn 2) ∈ am_T := (am_t 5 (by decide +kernel) rfl)
theorem im_X6_35 : am_IM RX6 35 yX2_init cX2_init 1 0 := ⟨mf_X2_init, Or.inr ⟨"TimeLinks", am_n 106 (by decide +kernel)⟩, mn_X2_init, rfl⟩
theorem fk_X6_36 : Cond.fieldLink RX6 36 (am_ct 6 4).1 (am_ct 6 4).2.1 (am_ct 6 4).2.2.1 ∈ am_T := (am_t 185 (by decide +kernel) rfl)
theorem kc_X6_40 : Cond.classLink RX6 40 (am_cn 1) ∈ am_T := (am_t 126 (by decide +kernel) rfl)
theorem ki_1 : Cond.instantiable (am_cn 1) (am_nf 1) ∈ am_T := (am_t 127 (by decide +kernel) rfl)
theorem kn_1 : Cond.initialized (am_cn 1) ∈ am_T := (am_t 6 (by decide +kernel) rfl)
theorem im_X6_42 : am_IM RX6 42 yX1_init cX1_init 1 0 := ⟨mf_X1_init, Or.inr ⟨"TimeLinks", am_n 128 (by decide +kernel)⟩, mn_X1_init, rfl⟩
theorem fk_X6_43 : Cond.fieldLink RX6 43 (am_ct 6 5).1 (am_ct 6 5).2.1 (am_ct 6 5).2.2.1 ∈ am_T := (am_t 186 (by decide +kernel) rfl)
theorem kc_X6_47 : Cond.classLink RX6 47 (am_cn 4) ∈ am_T := (am_t 152 (by decide +kernel) rfl)
theorem ki_4 : Cond.instantiable (am_cn 4) (am_nf 4) ∈ am_T := (am_t 153 (by decide +kernel) rfl)
theorem kn_4 : Cond.initialized (am_cn 4) ∈ am_T := (am_t 7 (by decide +kernel) rfl)
theorem im_X6_49 : am_IM RX6 49 yX4_init cX4_init 1 0 := ⟨mf_X4_init, Or.inr ⟨"TimeLinks", am_n 154 (by decide +kernel)⟩, mn_X4_init, rfl⟩
theorem fk_X6_50 : Cond.fieldLink RX6 50 (am_ct 6 6).1 (am_ct 6 6).2.1 (am_ct 6 6).2.2.1 ∈ am_T := (am_t 187 (by decide +kernel) rfl)
theorem kq_X6_16 : Cond.classLink RX6 16 "TimeLinks$Spans" ∈ am_T := (am_t 53 (by decide +kernel) rfl)
theorem fk_X6_54 : Cond.fieldLink RX6 54 (am_ct 6 7).1 (am_ct 6 7).2.1 (am_ct 6 7).2.2.1 ∈ am_T := (am_t 188 (by decide +kernel) rfl)
theorem fk_X6_58 : Cond.fieldLink RX6 58 (am_ct 6 8).1 (am_ct 6 8).2.1 (am_ct 6 8).2.2.1 ∈ am_T := (am_t 189 (by decide +kernel) rfl)
theorem ko_X7 : Cond.methodLink RX7 1 Lib.objectInit ∈ am_T := (am_t 659 (by decide +kernel) rfl)
theorem fk_X7_7 : Cond.fieldLink RX7 7 (am_ct 7 0).1 (am_ct 7 0).2.1 (am_ct 7 0).2.2.1 ∈ am_T := (am_t 660 (by decide +kernel) rfl)
theorem fk_X7_13 : Cond.fieldLink RX7 13 (am_ct 7 1).1 (am_ct 7 1).2.1 (am_ct 7 1).2.2.1 ∈ am_T := (am_t 661 (by decide +kernel) rfl)
theorem fk_X7_16 : Cond.fieldLink RX7 16 (am_ct 7 3).1 (am_ct 7 3).2.1 (am_ct 7 3).2.2.1 ∈ am_T := (am_t 663 (by decide +kernel) rfl)
theorem fk_X7_19 : Cond.fieldLink RX7 19 (am_ct 7 6).1 (am_ct 7 6).2.1 (am_ct 7 6).2.2.1 ∈ am_T := (am_t 666 (by decide +kernel) rfl)
theorem fk_X7_22 : Cond.fieldLink RX7 22 (am_ct 7 7).1 (am_ct 7 7).2.1 (am_ct 7 7).2.2.1 ∈ am_T := (am_t 667 (by decide +kernel) rfl)
theorem fk_X7_25 : Cond.fieldLink RX7 25 (am_ct 7 8).1 (am_ct 7 8).2.1 (am_ct 7 8).2.2.1 ∈ am_T := (am_t 668 (by decide +kernel) rfl)
theorem fk_X7_28 : Cond.fieldLink RX7 28 (am_ct 7 9).1 (am_ct 7 9).2.1 (am_ct 7 9).2.2.1 ∈ am_T := (am_t 669 (by decide +kernel) rfl)
theorem fk_X7_31 : Cond.fieldLink RX7 31 (am_ct 7 10).1 (am_ct 7 10).2.1 (am_ct 7 10).2.2.1 ∈ am_T := (am_t 670 (by decide +kernel) rfl)
theorem fk_X7_34 : Cond.fieldLink RX7 34 (am_ct 7 12).1 (am_ct 7 12).2.1 (am_ct 7 12).2.2.1 ∈ am_T := (am_t 672 (by decide +kernel) rfl)
theorem fk_X7_37 : Cond.fieldLink RX7 37 (am_ct 7 13).1 (am_ct 7 13).2.1 (am_ct 7 13).2.2.1 ∈ am_T := (am_t 673 (by decide +kernel) rfl)
theorem fk_X7_40 : Cond.fieldLink RX7 40 (am_ct 7 14).1 (am_ct 7 14).2.1 (am_ct 7 14).2.2.1 ∈ am_T := (am_t 674 (by decide +kernel) rfl)
theorem fk_X7_43 : Cond.fieldLink RX7 43 (am_ct 7 15).1 (am_ct 7 15).2.1 (am_ct 7 15).2.2.1 ∈ am_T := (am_t 675 (by decide +kernel) rfl)
theorem fk_X7_46 : Cond.fieldLink RX7 46 (am_ct 7 16).1 (am_ct 7 16).2.1 (am_ct 7 16).2.2.1 ∈ am_T := (am_t 676 (by decide +kernel) rfl)
theorem fk_X7_49 : Cond.fieldLink RX7 49 (am_ct 7 18).1 (am_ct 7 18).2.1 (am_ct 7 18).2.2.1 ∈ am_T := (am_t 678 (by decide +kernel) rfl)
theorem fk_X7_53 : Cond.fieldLink RX7 53 (am_ct 7 19).1 (am_ct 7 19).2.1 (am_ct 7 19).2.2.1 ∈ am_T := (am_t 679 (by decide +kernel) rfl)
theorem kc_L_7 : Cond.classLink RL 7 (am_cn 6) ∈ am_T := (am_t 11 (by decide +kernel) rfl)
theorem ki_6 : Cond.instantiable (am_cn 6) (am_nf 6) ∈ am_T := (am_t 12 (by decide +kernel) rfl)
theorem kn_6 : Cond.initialized (am_cn 6) ∈ am_T := (am_t 1 (by decide +kernel) rfl)
theorem im_L_9 : am_IM RL 9 yX6_init cX6_init 2 0 := ⟨mf_X6_init, Or.inl (am_t 13 (by decide +kernel) rfl), mn_X6_init, rfl⟩
theorem kc_L_10 : Cond.classLink RL 10 (am_cn 7) ∈ am_T := (am_t 654 (by decide +kernel) rfl)
theorem ki_7 : Cond.instantiable (am_cn 7) (am_nf 7) ∈ am_T := (am_t 655 (by decide +kernel) rfl)
theorem kn_7 : Cond.initialized (am_cn 7) ∈ am_T := (am_t 8 (by decide +kernel) rfl)
theorem im_L_12 : am_IM RL 12 yX7_init cX7_init 1 0 := ⟨mf_X7_init, Or.inl (am_t 656 (by decide +kernel) rfl), mn_X7_init, rfl⟩
theorem vm_L_13 : am_VM RL 13 yX6_write cX6_write 2 (some .int) 1 6 := ⟨mf_X6_write, Or.inl (am_t 212 (by decide +kernel) rfl), mn_X6_write, me_X6_write, by decide, rfl⟩
theorem vm_L_17 : am_VM RL 17 yX7_write cX7_write 2 (some .int) 1 7 := ⟨mf_X7_write, Or.inl (am_t 721 (by decide +kernel) rfl), mn_X7_write, me_X7_write, by decide, rfl⟩
theorem vm_L_18 : am_VM RL 18 yX6_wipe cX6_wipe 2 (some .int) 0 6 := ⟨mf_X6_wipe, Or.inl (am_t 220 (by decide +kernel) rfl), mn_X6_wipe, me_X6_wipe, by decide, rfl⟩
theorem vm_L_22 : am_VM RL 22 yX7_wipe cX7_wipe 2 (some .int) 0 7 := ⟨mf_X7_wipe, Or.inl (am_t 729 (by decide +kernel) rfl), mn_X7_wipe, me_X7_wipe, by decide, rfl⟩
theorem vm_L_23 : am_VM RL 23 yX6_fault cX6_fault 1 (some .int) 0 6 := ⟨mf_X6_fault, Or.inl (am_t 224 (by decide +kernel) rfl), mn_X6_fault, me_X6_fault, by decide, rfl⟩
theorem vm_L_26 : am_VM RL 26 yX7_fault cX7_fault 1 (some .int) 0 7 := ⟨mf_X7_fault, Or.inl (am_t 733 (by decide +kernel) rfl), mn_X7_fault, me_X7_fault, by decide, rfl⟩
theorem vm_L_27 : am_VM RL 27 yX6_life cX6_life 2 (some .int) 0 6 := ⟨mf_X6_life, Or.inl (am_t 251 (by decide +kernel) rfl), mn_X6_life, me_X6_life, by decide, rfl⟩
theorem vm_L_30 : am_VM RL 30 yX7_life cX7_life 2 (some .int) 0 7 := ⟨mf_X7_life, Or.inl (am_t 765 (by decide +kernel) rfl), mn_X7_life, me_X7_life, by decide, rfl⟩
theorem vm_L_31 : am_VM RL 31 yX6_span cX6_span 3 (some .int) 2 6 := ⟨mf_X6_span, Or.inl (am_t 298 (by decide +kernel) rfl), mn_X6_span, me_X6_span, by decide, rfl⟩
theorem vm_L_35 : am_VM RL 35 yX7_span cX7_span 4 (some .int) 2 7 := ⟨mf_X7_span, Or.inl (am_t 769 (by decide +kernel) rfl), mn_X7_span, me_X7_span, by decide, rfl⟩
theorem vm_L_36 : am_VM RL 36 yX6_node cX6_node 2 (some .int) 1 6 := ⟨mf_X6_node, Or.inl (am_t 315 (by decide +kernel) rfl), mn_X6_node, me_X6_node, by decide, rfl⟩
theorem vm_L_39 : am_VM RL 39 yX7_node cX7_node 2 (some .int) 1 7 := ⟨mf_X7_node, Or.inl (am_t 812 (by decide +kernel) rfl), mn_X7_node, me_X7_node, by decide, rfl⟩
theorem vm_L_40 : am_VM RL 40 yX6_put cX6_put 5 (some .int) 4 6 := ⟨mf_X6_put, Or.inl (am_t 323 (by decide +kernel) rfl), mn_X6_put, me_X6_put, by decide, rfl⟩
theorem vm_L_44 : am_VM RL 44 yX7_put cX7_put 5 (some .int) 4 7 := ⟨mf_X7_put, Or.inl (am_t 821 (by decide +kernel) rfl), mn_X7_put, me_X7_put, by decide, rfl⟩
theorem vm_L_45 : am_VM RL 45 yX6_cut cX6_cut 2 (some .int) 1 6 := ⟨mf_X6_cut, Or.inl (am_t 349 (by decide +kernel) rfl), mn_X6_cut, me_X6_cut, by decide, rfl⟩
theorem vm_L_48 : am_VM RL 48 yX7_cut cX7_cut 2 (some .int) 1 7 := ⟨mf_X7_cut, Or.inl (am_t 845 (by decide +kernel) rfl), mn_X7_cut, me_X7_cut, by decide, rfl⟩
theorem vm_L_49 : am_VM RL 49 yX6_end cX6_end 3 (some .int) 2 6 := ⟨mf_X6_end, Or.inl (am_t 357 (by decide +kernel) rfl), mn_X6_end, me_X6_end, by decide, rfl⟩
theorem vm_L_52 : am_VM RL 52 yX7_end cX7_end 4 (some .int) 2 7 := ⟨mf_X7_end, Or.inl (am_t 853 (by decide +kernel) rfl), mn_X7_end, me_X7_end, by decide, rfl⟩
theorem vm_L_53 : am_VM RL 53 yX6_undo cX6_undo 1 (some .int) 0 6 := ⟨mf_X6_undo, Or.inl (am_t 362 (by decide +kernel) rfl), mn_X6_undo, me_X6_undo, by decide, rfl⟩
theorem vm_L_56 : am_VM RL 56 yX7_undo cX7_undo 2 (some .int) 0 7 := ⟨mf_X7_undo, Or.inl (am_t 865 (by decide +kernel) rfl), mn_X7_undo, me_X7_undo, by decide, rfl⟩
theorem vm_L_57 : am_VM RL 57 yX6_at cX6_at 3 (some .int) 2 6 := ⟨mf_X6_at, Or.inl (am_t 370 (by decide +kernel) rfl), mn_X6_at, me_X6_at, by decide, rfl⟩
theorem vm_L_60 : am_VM RL 60 yX7_at cX7_at 3 (some .int) 2 7 := ⟨mf_X7_at, Or.inl (am_t 869 (by decide +kernel) rfl), mn_X7_at, me_X7_at, by decide, rfl⟩
theorem vm_L_61 : am_VM RL 61 yX6_knot cX6_knot 4 (some .int) 3 6 := ⟨mf_X6_knot, Or.inl (am_t 440 (by decide +kernel) rfl), mn_X6_knot, me_X6_knot, by decide, rfl⟩
theorem vm_L_65 : am_VM RL 65 yX7_knot cX7_knot 4 (some .int) 3 7 := ⟨mf_X7_knot, Or.inl (am_t 928 (by decide +kernel) rfl), mn_X7_knot, me_X7_knot, by decide, rfl⟩
theorem vm_L_66 : am_VM RL 66 yX6_joined cX6_joined 4 (some .int) 3 6 := ⟨mf_X6_joined, Or.inl (am_t 447 (by decide +kernel) rfl), mn_X6_joined, me_X6_joined, by decide, rfl⟩
theorem vm_L_69 : am_VM RL 69 yX7_joined cX7_joined 4 (some .int) 3 7 := ⟨mf_X7_joined, Or.inl (am_t 933 (by decide +kernel) rfl), mn_X7_joined, me_X7_joined, by decide, rfl⟩
theorem vm_L_70 : am_VM RL 70 yX6_side cX6_side 4 (some .int) 3 6 := ⟨mf_X6_side, Or.inl (am_t 455 (by decide +kernel) rfl), mn_X6_side, me_X6_side, by decide, rfl⟩
theorem vm_L_73 : am_VM RL 73 yX7_side cX7_side 4 (some .int) 3 7 := ⟨mf_X7_side, Or.inl (am_t 941 (by decide +kernel) rfl), mn_X7_side, me_X7_side, by decide, rfl⟩
theorem vm_L_74 : am_VM RL 74 yX6_work cX6_work 2 (some .int) 1 6 := ⟨mf_X6_work, Or.inl (am_t 460 (by decide +kernel) rfl), mn_X6_work, me_X6_work, by decide, rfl⟩
theorem vm_L_77 : am_VM RL 77 yX7_work cX7_work 4 (some .int) 1 7 := ⟨mf_X7_work, Or.inl (am_t 945 (by decide +kernel) rfl), mn_X7_work, me_X7_work, by decide, rfl⟩
theorem vm_L_78 : am_VM RL 78 yX6_when cX6_when 5 (some .int) 2 6 := ⟨mf_X6_when, Or.inl (am_t 479 (by decide +kernel) rfl), mn_X6_when, me_X6_when, by decide, rfl⟩
theorem vm_L_81 : am_VM RL 81 yX7_when cX7_when 5 (some .int) 2 7 := ⟨mf_X7_when, Or.inl (am_t 952 (by decide +kernel) rfl), mn_X7_when, me_X7_when, by decide, rfl⟩
theorem vm_L_82 : am_VM RL 82 yX6_bridges cX6_bridges 4 (some .int) 1 6 := ⟨mf_X6_bridges, Or.inl (am_t 483 (by decide +kernel) rfl), mn_X6_bridges, me_X6_bridges, by decide, rfl⟩
theorem vm_L_85 : am_VM RL 85 yX7_bridges cX7_bridges 5 (some .int) 1 7 := ⟨mf_X7_bridges, Or.inl (am_t 956 (by decide +kernel) rfl), mn_X7_bridges, me_X7_bridges, by decide, rfl⟩
theorem vm_L_86 : am_VM RL 86 yX6_least cX6_least 6 (some .int) 4 6 := ⟨mf_X6_least, Or.inl (am_t 504 (by decide +kernel) rfl), mn_X6_least, me_X6_least, by decide, rfl⟩
theorem vm_L_89 : am_VM RL 89 yX7_least cX7_least 8 (some .int) 4 7 := ⟨mf_X7_least, Or.inl (am_t 960 (by decide +kernel) rfl), mn_X7_least, me_X7_least, by decide, rfl⟩
theorem kw_L_90 : Cond.constantLong RL 90 (4294967295) ∈ am_T := (am_t 1056 (by decide +kernel) rfl)
theorem vm_L_92 : am_VM RL 92 yX6_judge cX6_judge 7 (some .int) 2 6 := ⟨mf_X6_judge, Or.inl (am_t 516 (by decide +kernel) rfl), mn_X6_judge, me_X6_judge, by decide, rfl⟩
theorem vm_L_96 : am_VM RL 96 yX7_judge cX7_judge 6 (some .int) 2 7 := ⟨mf_X7_judge, Or.inl (am_t 964 (by decide +kernel) rfl), mn_X7_judge, me_X7_judge, by decide, rfl⟩
theorem vm_L_97 : am_VM RL 97 yX6_see cX6_see 5 (some .int) 4 6 := ⟨mf_X6_see, Or.inl (am_t 536 (by decide +kernel) rfl), mn_X6_see, me_X6_see, by decide, rfl⟩
theorem vm_L_100 : am_VM RL 100 yX7_see cX7_see 5 (some .int) 4 7 := ⟨mf_X7_see, Or.inl (am_t 985 (by decide +kernel) rfl), mn_X7_see, me_X7_see, by decide, rfl⟩
theorem vm_L_101 : am_VM RL 101 yX6_unsee cX6_unsee 2 (some .int) 0 6 := ⟨mf_X6_unsee, Or.inl (am_t 544 (by decide +kernel) rfl), mn_X6_unsee, me_X6_unsee, by decide, rfl⟩
theorem vm_L_104 : am_VM RL 104 yX7_unsee cX7_unsee 2 (some .int) 0 7 := ⟨mf_X7_unsee, Or.inl (am_t 989 (by decide +kernel) rfl), mn_X7_unsee, me_X7_unsee, by decide, rfl⟩
theorem vm_L_105 : am_VM RL 105 yX6_missing cX6_missing 2 (some .int) 1 6 := ⟨mf_X6_missing, Or.inl (am_t 548 (by decide +kernel) rfl), mn_X6_missing, me_X6_missing, by decide, rfl⟩
theorem vm_L_108 : am_VM RL 108 yX7_missing cX7_missing 6 (some .int) 1 7 := ⟨mf_X7_missing, Or.inl (am_t 993 (by decide +kernel) rfl), mn_X7_missing, me_X7_missing, by decide, rfl⟩
theorem vm_L_109 : am_VM RL 109 yX6_share cX6_share 4 (some .int) 3 6 := ⟨mf_X6_share, Or.inl (am_t 589 (by decide +kernel) rfl), mn_X6_share, me_X6_share, by decide, rfl⟩
theorem vm_L_113 : am_VM RL 113 yX7_share cX7_share 9 (some .int) 3 7 := ⟨mf_X7_share, Or.inl (am_t 1002 (by decide +kernel) rfl), mn_X7_share, me_X7_share, by decide, rfl⟩
theorem vm_L_114 : am_VM RL 114 yX6_fails cX6_fails 6 (some .int) 5 6 := ⟨mf_X6_fails, Or.inl (am_t 610 (by decide +kernel) rfl), mn_X6_fails, me_X6_fails, by decide, rfl⟩
theorem vm_L_118 : am_VM RL 118 yX7_fails cX7_fails 12 (some .int) 5 7 := ⟨mf_X7_fails, Or.inl (am_t 1020 (by decide +kernel) rfl), mn_X7_fails, me_X7_fails, by decide, rfl⟩
theorem vm_L_119 : am_VM RL 119 yX6_seed cX6_seed 5 (some .long) 1 6 := ⟨mf_X6_seed, Or.inl (am_t 619 (by decide +kernel) rfl), mn_X6_seed, me_X6_seed, by decide, rfl⟩
theorem vm_L_123 : am_VM RL 123 yX7_seed cX7_seed 5 (some .long) 1 7 := ⟨mf_X7_seed, Or.inl (am_t 1025 (by decide +kernel) rfl), mn_X7_seed, me_X7_seed, by decide, rfl⟩
theorem vm_L_124 : am_VM RL 124 yX6_drawn cX6_drawn 4 (some .int) 1 6 := ⟨mf_X6_drawn, Or.inl (am_t 623 (by decide +kernel) rfl), mn_X6_drawn, me_X6_drawn, by decide, rfl⟩
theorem vm_L_127 : am_VM RL 127 yX7_drawn cX7_drawn 7 (some .int) 1 7 := ⟨mf_X7_drawn, Or.inl (am_t 1029 (by decide +kernel) rfl), mn_X7_drawn, me_X7_drawn, by decide, rfl⟩
theorem vm_L_128 : am_VM RL 128 yX6_keep cX6_keep 2 (some .int) 1 6 := ⟨mf_X6_keep, Or.inl (am_t 634 (by decide +kernel) rfl), mn_X6_keep, me_X6_keep, by decide, rfl⟩
theorem vm_L_131 : am_VM RL 131 yX7_keep cX7_keep 3 (some .int) 1 7 := ⟨mf_X7_keep, Or.inl (am_t 1036 (by decide +kernel) rfl), mn_X7_keep, me_X7_keep, by decide, rfl⟩
theorem vm_L_132 : am_VM RL 132 yX6_again cX6_again 2 (some .int) 1 6 := ⟨mf_X6_again, Or.inl (am_t 638 (by decide +kernel) rfl), mn_X6_again, me_X6_again, by decide, rfl⟩
theorem vm_L_135 : am_VM RL 135 yX7_again cX7_again 3 (some .int) 1 7 := ⟨mf_X7_again, Or.inl (am_t 1040 (by decide +kernel) rfl), mn_X7_again, me_X7_again, by decide, rfl⟩
theorem vm_L_136 : am_VM RL 136 yX6_count cX6_count 2 (some .int) 1 6 := ⟨mf_X6_count, Or.inl (am_t 642 (by decide +kernel) rfl), mn_X6_count, me_X6_count, by decide, rfl⟩
theorem vm_L_139 : am_VM RL 139 yX7_count cX7_count 2 (some .int) 1 7 := ⟨mf_X7_count, Or.inl (am_t 1044 (by decide +kernel) rfl), mn_X7_count, me_X7_count, by decide, rfl⟩
theorem ko_i : Cond.instanceMethod Lib.objectInit ∈ am_T := (am_t 17 (by decide +kernel) rfl)
theorem ko_c : Cond.code Lib.objectInit ⟨#[0xb1]⟩ 1 none ∈ am_T := (am_t 18 (by decide +kernel) rfl)
end
section
def rm_X5_takeFrom : Room := { frames := 0, cells := 0, slots := 0, locals := 0 }
def rm_X5_copyOf : Room := { frames := 1, cells := 0, slots := 0, locals := 23 }
def rm_X6_again : Room := { frames := 2, cells := 0, slots := 0, locals := 45 }
def rm_X6_isTime : Room := { frames := 0, cells := 0, slots := 0, locals := 0 }
def rm_X2_takeApart : Room := { frames := 0, cells := 0, slots := 0, locals := 0 }
def rm_X5_fills : Room := { frames := 0, cells := 0, slots := 0, locals := 0 }
def rm_X5_lies : Room := { frames := 1, cells := 0, slots := 0, locals := 25 }
def rm_X2_rootOf : Room := { frames := 0, cells := 0, slots := 0, locals := 0 }
def rm_X2_turnOf : Room := { frames := 0, cells := 0, slots := 0, locals := 0 }
def rm_X2_hangsBelow : Room := { frames := 0, cells := 0, slots := 0, locals := 0 }
def rm_X2_hang : Room := { frames := 0, cells := 0, slots := 0, locals := 0 }
def rm_X2_join : Room := { frames := 1, cells := 0, slots := 0, locals := 24 }
def rm_X2_joinAllOn : Room := { frames := 2, cells := 0, slots := 0, locals := 49 }
def rm_X2_walkToNode : Room := { frames := 3, cells := 0, slots := 0, locals := 73 }
def rm_X2_walkToTime : Room := { frames := 4, cells := 0, slots := 0, locals := 97 }
def rm_X2_parts : Room := { frames := 0, cells := 0, slots := 0, locals := 0 }
def rm_X5_livesAt : Room := { frames := 0, cells := 0, slots := 0, locals := 0 }
def rm_X5_livingAt : Room := { frames := 1, cells := 0, slots := 0, locals := 22 }
def rm_X2_oddParts : Room := { frames := 0, cells := 0, slots := 0, locals := 0 }
def rm_X2_depthOf : Room := { frames := 0, cells := 0, slots := 0, locals := 0 }
def rm_J9_max_7cf53 : Room := { frames := 0, cells := 0, slots := 0, locals := 0 }
def rm_X2_greatestDepth : Room := { frames := 1, cells := 0, slots := 0, locals := 24 }
def rm_X2_greatestSize : Room := { frames := 1, cells := 0, slots := 0, locals := 21 }
def rm_X6_at : Room := { frames := 5, cells := 0, slots := 0, locals := 119 }
def rm_X1_gather : Room := { frames := 1, cells := 0, slots := 0, locals := 22 }
def rm_X1_all : Room := { frames := 0, cells := 0, slots := 0, locals := 0 }
def rm_X1_reach : Room := { frames := 0, cells := 0, slots := 0, locals := 0 }
def rm_X1_areJoined : Room := { frames := 1, cells := 0, slots := 0, locals := 26 }
def rm_X6_bridges : Room := { frames := 2, cells := 0, slots := 0, locals := 49 }
def rm_X6_stretch : Room := { frames := 1, cells := 0, slots := 0, locals := 20 }
def rm_X5_timesFilled : Room := { frames := 2, cells := 0, slots := 0, locals := 41 }
def rm_X5_timesTogether : Room := { frames := 0, cells := 0, slots := 0, locals := 0 }
def rm_X6_count : Room := { frames := 3, cells := 0, slots := 0, locals := 63 }
def rm_X5_has : Room := { frames := 0, cells := 0, slots := 0, locals := 0 }
def rm_X5_drop : Room := { frames := 1, cells := 0, slots := 0, locals := 23 }
def rm_X0_forgetFirst : Room := { frames := 0, cells := 0, slots := 0, locals := 0 }
def rm_X0_remember : Room := { frames := 2, cells := 0, slots := 0, locals := 45 }
def rm_X6_rememberIfDone : Room := { frames := 3, cells := 0, slots := 0, locals := 66 }
def rm_X6_cut : Room := { frames := 4, cells := 0, slots := 0, locals := 87 }
def rm_J9_min_7cf53 : Room := { frames := 0, cells := 0, slots := 0, locals := 0 }
def rm_X6_isKnot : Room := { frames := 0, cells := 0, slots := 0, locals := 0 }
def rm_X5_isOf : Room := { frames := 1, cells := 0, slots := 0, locals := 21 }
def rm_X5_timesOf : Room := { frames := 2, cells := 0, slots := 0, locals := 44 }
def rm_X5_add : Room := { frames := 3, cells := 0, slots := 0, locals := 69 }
def rm_X6_addDrawn : Room := { frames := 4, cells := 0, slots := 0, locals := 93 }
def rm_X6_partsInTrial : Room := { frames := 5, cells := 0, slots := 0, locals := 119 }
def rm_X6_drawn : Room := { frames := 6, cells := 0, slots := 0, locals := 140 }
def rm_X5_stopAt : Room := { frames := 3, cells := 0, slots := 0, locals := 69 }
def rm_X6_end : Room := { frames := 4, cells := 0, slots := 0, locals := 92 }
def rm_J6_bitCount_0f7a4 : Room := { frames := 0, cells := 0, slots := 0, locals := 0 }
def rm_X6_power : Room := { frames := 0, cells := 0, slots := 0, locals := 0 }
def rm_X6_chancesOfJoined : Room := { frames := 2, cells := 0, slots := 0, locals := 49 }
def rm_X6_commonDivisor : Room := { frames := 0, cells := 0, slots := 0, locals := 0 }
def rm_X6_told : Room := { frames := 1, cells := 0, slots := 0, locals := 30 }
def rm_X6_fails : Room := { frames := 3, cells := 0, slots := 0, locals := 76 }
def rm_X3_forgetLinks : Room := { frames := 0, cells := 0, slots := 0, locals := 0 }
def rm_X3_partners : Room := { frames := 0, cells := 0, slots := 0, locals := 0 }
def rm_X3_faultOfEvent : Room := { frames := 1, cells := 0, slots := 0, locals := 23 }
def rm_X3_takeEvent : Room := { frames := 0, cells := 0, slots := 0, locals := 0 }
def rm_X3_firstFault : Room := { frames := 2, cells := 0, slots := 0, locals := 47 }
def rm_X6_fault : Room := { frames := 3, cells := 0, slots := 0, locals := 69 }
def rm_X2_areJoined : Room := { frames := 1, cells := 0, slots := 0, locals := 23 }
def rm_X6_joined : Room := { frames := 5, cells := 0, slots := 0, locals := 119 }
def rm_X6_areJoinedInTrial : Room := { frames := 5, cells := 0, slots := 0, locals := 119 }
def rm_X6_stands : Room := { frames := 6, cells := 0, slots := 0, locals := 142 }
def rm_X6_judge : Room := { frames := 7, cells := 0, slots := 0, locals := 167 }
def rm_X6_keep : Room := { frames := 2, cells := 0, slots := 0, locals := 45 }
def rm_X6_knot : Room := { frames := 5, cells := 0, slots := 0, locals := 119 }
def rm_X6_leastApart : Room := { frames := 2, cells := 0, slots := 0, locals := 49 }
def rm_X1_numbersOf : Room := { frames := 0, cells := 0, slots := 0, locals := 0 }
def rm_X6_least : Room := { frames := 3, cells := 0, slots := 0, locals := 74 }
def rm_X5_lastOf : Room := { frames := 2, cells := 0, slots := 0, locals := 44 }
def rm_X3_layOut : Room := { frames := 4, cells := 0, slots := 0, locals := 93 }
def rm_X6_life : Room := { frames := 5, cells := 0, slots := 0, locals := 115 }
def rm_X4_lookAt : Room := { frames := 2, cells := 0, slots := 0, locals := 45 }
def rm_X4_leads : Room := { frames := 0, cells := 0, slots := 0, locals := 0 }
def rm_X4_joinedWith : Room := { frames := 1, cells := 0, slots := 0, locals := 23 }
def rm_X4_allSoWith : Room := { frames := 2, cells := 0, slots := 0, locals := 47 }
def rm_X6_missingEnds : Room := { frames := 3, cells := 0, slots := 0, locals := 71 }
def rm_X6_howManyMissing : Room := { frames := 4, cells := 0, slots := 0, locals := 97 }
def rm_X6_lowestBit : Room := { frames := 0, cells := 0, slots := 0, locals := 0 }
def rm_X6_firstMissing : Room := { frames := 4, cells := 0, slots := 0, locals := 97 }
def rm_X6_missing : Room := { frames := 5, cells := 0, slots := 0, locals := 122 }
def rm_X5_lyingOn : Room := { frames := 2, cells := 0, slots := 0, locals := 47 }
def rm_X6_node : Room := { frames := 3, cells := 0, slots := 0, locals := 70 }
def rm_X6_put : Room := { frames := 4, cells := 0, slots := 0, locals := 93 }
def rm_X4_add : Room := { frames := 0, cells := 0, slots := 0, locals := 0 }
def rm_X6_see : Room := { frames := 1, cells := 0, slots := 0, locals := 24 }
def rm_X6_seed : Room := { frames := 0, cells := 0, slots := 0, locals := 0 }
def rm_X1_placeOf : Room := { frames := 0, cells := 0, slots := 0, locals := 0 }
def rm_X6_factorial : Room := { frames := 0, cells := 0, slots := 0, locals := 0 }
def rm_X6_ordersInWhichItJoins : Room := { frames := 2, cells := 0, slots := 0, locals := 49 }
def rm_X6_share : Room := { frames := 3, cells := 0, slots := 0, locals := 76 }
def rm_X6_side : Room := { frames := 5, cells := 0, slots := 0, locals := 119 }
def rm_X5_howManyNodes : Room := { frames := 2, cells := 0, slots := 0, locals := 47 }
def rm_X6_span : Room := { frames := 3, cells := 0, slots := 0, locals := 70 }
def rm_X0_takeBackLast : Room := { frames := 2, cells := 0, slots := 0, locals := 45 }
def rm_X6_undo : Room := { frames := 3, cells := 0, slots := 0, locals := 66 }
def rm_X6_unsee : Room := { frames := 0, cells := 0, slots := 0, locals := 0 }
def rm_X6_when : Room := { frames := 5, cells := 0, slots := 0, locals := 119 }
def rm_X6_wipe : Room := { frames := 0, cells := 0, slots := 0, locals := 0 }
def rm_X6_lyingOnAll : Room := { frames := 3, cells := 0, slots := 0, locals := 70 }
def rm_X6_joiningOnAll : Room := { frames := 4, cells := 0, slots := 0, locals := 97 }
def rm_X6_work : Room := { frames := 5, cells := 0, slots := 0, locals := 119 }
def rm_X3_append : Room := { frames := 0, cells := 0, slots := 0, locals := 0 }
def rm_X6_write : Room := { frames := 1, cells := 0, slots := 0, locals := 21 }
def rm_X7_in : Room := { frames := 0, cells := 0, slots := 0, locals := 0 }
def rm_X7_many : Room := { frames := 0, cells := 0, slots := 0, locals := 0 }
def rm_X7_again : Room := { frames := 1, cells := 0, slots := 0, locals := 25 }
def rm_X7_isTime : Room := { frames := 1, cells := 0, slots := 0, locals := 25 }
def rm_X7_clearKnots : Room := { frames := 0, cells := 0, slots := 0, locals := 0 }
def rm_X7_has : Room := { frames := 0, cells := 0, slots := 0, locals := 0 }
def rm_X7_spanOf : Room := { frames := 0, cells := 0, slots := 0, locals := 0 }
def rm_X7_fromOf : Room := { frames := 0, cells := 0, slots := 0, locals := 0 }
def rm_X7_toOf : Room := { frames := 0, cells := 0, slots := 0, locals := 0 }
def rm_X7_livesAt : Room := { frames := 1, cells := 0, slots := 0, locals := 20 }
def rm_X7_lowOf : Room := { frames := 0, cells := 0, slots := 0, locals := 0 }
def rm_X7_rootOf : Room := { frames := 0, cells := 0, slots := 0, locals := 0 }
def rm_X7_highOf : Room := { frames := 0, cells := 0, slots := 0, locals := 0 }
def rm_X7_joins : Room := { frames := 1, cells := 0, slots := 0, locals := 22 }
def rm_X7_partsBy : Room := { frames := 2, cells := 0, slots := 0, locals := 48 }
def rm_X7_livingAt : Room := { frames := 2, cells := 0, slots := 0, locals := 41 }
def rm_X7_spreadSides : Room := { frames := 2, cells := 0, slots := 0, locals := 41 }
def rm_X7_findSides : Room := { frames := 3, cells := 0, slots := 0, locals := 73 }
def rm_X7_oddParts : Room := { frames := 4, cells := 0, slots := 0, locals := 96 }
def rm_X7_depthOf : Room := { frames := 0, cells := 0, slots := 0, locals := 0 }
def rm_X7_firstOf : Room := { frames := 1, cells := 0, slots := 0, locals := 22 }
def rm_X7_lastOf : Room := { frames := 2, cells := 0, slots := 0, locals := 43 }
def rm_X7_fills : Room := { frames := 3, cells := 0, slots := 0, locals := 63 }
def rm_X7_lies : Room := { frames := 4, cells := 0, slots := 0, locals := 84 }
def rm_X7_walkTo : Room := { frames := 5, cells := 0, slots := 0, locals := 105 }
def rm_X7_depthAt : Room := { frames := 0, cells := 0, slots := 0, locals := 0 }
def rm_X7_greatestDepth : Room := { frames := 6, cells := 0, slots := 0, locals := 130 }
def rm_X7_greatestPart : Room := { frames := 6, cells := 0, slots := 0, locals := 130 }
def rm_X7_at : Room := { frames := 7, cells := 0, slots := 0, locals := 153 }
def rm_X7_bridges : Room := { frames := 3, cells := 0, slots := 0, locals := 73 }
def rm_X7_filledTimes : Room := { frames := 3, cells := 0, slots := 0, locals := 64 }
def rm_X7_timesTogether : Room := { frames := 1, cells := 0, slots := 0, locals := 22 }
def rm_X7_count : Room := { frames := 4, cells := 0, slots := 0, locals := 86 }
def rm_X7_isSpan : Room := { frames := 1, cells := 0, slots := 0, locals := 25 }
def rm_X7_keepAct : Room := { frames := 0, cells := 0, slots := 0, locals := 0 }
def rm_X7_cutOn : Room := { frames := 1, cells := 0, slots := 0, locals := 21 }
def rm_X7_cut : Room := { frames := 2, cells := 0, slots := 0, locals := 46 }
def rm_X7_layTrial : Room := { frames := 0, cells := 0, slots := 0, locals := 0 }
def rm_X7_isKnot : Room := { frames := 1, cells := 0, slots := 0, locals := 25 }
def rm_X7_asOne : Room := { frames := 0, cells := 0, slots := 0, locals := 0 }
def rm_X7_isFree : Room := { frames := 1, cells := 0, slots := 0, locals := 22 }
def rm_X7_canPut : Room := { frames := 2, cells := 0, slots := 0, locals := 49 }
def rm_X7_putOn : Room := { frames := 1, cells := 0, slots := 0, locals := 21 }
def rm_X7_drawn : Room := { frames := 3, cells := 0, slots := 0, locals := 74 }
def rm_X7_canEnd : Room := { frames := 2, cells := 0, slots := 0, locals := 49 }
def rm_X7_endOn : Room := { frames := 1, cells := 0, slots := 0, locals := 25 }
def rm_X7_end : Room := { frames := 3, cells := 0, slots := 0, locals := 73 }
def rm_X7_findLiving : Room := { frames := 2, cells := 0, slots := 0, locals := 41 }
def rm_X7_spansOf : Room := { frames := 1, cells := 0, slots := 0, locals := 21 }
def rm_X7_areJoined : Room := { frames := 3, cells := 0, slots := 0, locals := 73 }
def rm_X7_common : Room := { frames := 0, cells := 0, slots := 0, locals := 0 }
def rm_X7_fails : Room := { frames := 4, cells := 0, slots := 0, locals := 98 }
def rm_X7_linksOf : Room := { frames := 0, cells := 0, slots := 0, locals := 0 }
def rm_X7_linksOfAll : Room := { frames := 1, cells := 0, slots := 0, locals := 23 }
def rm_X7_knotAt : Room := { frames := 1, cells := 0, slots := 0, locals := 25 }
def rm_X7_readPair : Room := { frames := 2, cells := 0, slots := 0, locals := 46 }
def rm_X7_readText : Room := { frames := 3, cells := 0, slots := 0, locals := 72 }
def rm_X7_fault : Room := { frames := 4, cells := 0, slots := 0, locals := 98 }
def rm_X7_joined : Room := { frames := 4, cells := 0, slots := 0, locals := 98 }
def rm_X7_byFives : Room := { frames := 0, cells := 0, slots := 0, locals := 0 }
def rm_X7_tryThing : Room := { frames := 4, cells := 0, slots := 0, locals := 98 }
def rm_X7_judge : Room := { frames := 5, cells := 0, slots := 0, locals := 126 }
def rm_X7_keep : Room := { frames := 1, cells := 0, slots := 0, locals := 25 }
def rm_X7_knot : Room := { frames := 6, cells := 0, slots := 0, locals := 130 }
def rm_X7_ones : Room := { frames := 0, cells := 0, slots := 0, locals := 0 }
def rm_X7_least : Room := { frames := 4, cells := 0, slots := 0, locals := 98 }
def rm_X7_life : Room := { frames := 4, cells := 0, slots := 0, locals := 98 }
def rm_X7_mayBe : Room := { frames := 4, cells := 0, slots := 0, locals := 98 }
def rm_X7_missing : Room := { frames := 5, cells := 0, slots := 0, locals := 121 }
def rm_X7_liesOn : Room := { frames := 5, cells := 0, slots := 0, locals := 105 }
def rm_X7_node : Room := { frames := 6, cells := 0, slots := 0, locals := 128 }
def rm_X7_put : Room := { frames := 2, cells := 0, slots := 0, locals := 49 }
def rm_X7_see : Room := { frames := 2, cells := 0, slots := 0, locals := 45 }
def rm_X7_seed : Room := { frames := 0, cells := 0, slots := 0, locals := 0 }
def rm_X7_factorial : Room := { frames := 0, cells := 0, slots := 0, locals := 0 }
def rm_X7_share : Room := { frames := 3, cells := 0, slots := 0, locals := 73 }
def rm_X7_side : Room := { frames := 4, cells := 0, slots := 0, locals := 96 }
def rm_X7_nodesOf : Room := { frames := 5, cells := 0, slots := 0, locals := 105 }
def rm_X7_span : Room := { frames := 6, cells := 0, slots := 0, locals := 127 }
def rm_X7_undo : Room := { frames := 0, cells := 0, slots := 0, locals := 0 }
def rm_X7_unsee : Room := { frames := 0, cells := 0, slots := 0, locals := 0 }
def rm_X7_when : Room := { frames := 4, cells := 0, slots := 0, locals := 98 }
def rm_X7_wipe : Room := { frames := 0, cells := 0, slots := 0, locals := 0 }
def rm_X7_work : Room := { frames := 6, cells := 0, slots := 0, locals := 130 }
def rm_X7_write : Room := { frames := 1, cells := 0, slots := 0, locals := 25 }
end
section
theorem dX0_init_0 : decode cX0_init 0 = .ok (.aload_n 0, 1) := by decide +kernel
theorem dX0_init_1 : decode cX0_init 1 = .ok (.invokespecial 3, 3) := by decide +kernel
theorem dX0_init_4 : decode cX0_init 4 = .ok (.aload_n 0, 1) := by decide +kernel
theorem dX0_init_5 : decode cX0_init 5 = .ok (.bipush 14, 2) := by decide +kernel
theorem dX0_init_7 : decode cX0_init 7 = .ok (.anewarray 9, 3) := by decide +kernel
theorem dX0_init_10 : decode cX0_init 10 = .ok (.putfield 11, 3) := by decide +kernel
theorem dX0_init_13 : decode cX0_init 13 = .ok (.iconst 0, 1) := by decide +kernel
theorem dX0_init_14 : decode cX0_init 14 = .ok (.istore_n 1, 1) := by decide +kernel
theorem dX0_init_15 : decode cX0_init 15 = .ok (.iload_n 1, 1) := by decide +kernel
theorem dX0_init_16 : decode cX0_init 16 = .ok (.bipush 14, 2) := by decide +kernel
theorem dX0_init_18 : decode cX0_init 18 = .ok (.if_icmp .ge 22, 3) := by decide +kernel
theorem dX0_init_21 : decode cX0_init 21 = .ok (.aload_n 0, 1) := by decide +kernel
theorem dX0_init_22 : decode cX0_init 22 = .ok (.getfield 11, 3) := by decide +kernel
theorem dX0_init_25 : decode cX0_init 25 = .ok (.iload_n 1, 1) := by decide +kernel
theorem dX0_init_26 : decode cX0_init 26 = .ok (.new 9, 3) := by decide +kernel
theorem dX0_init_29 : decode cX0_init 29 = .ok (.dup, 1) := by decide +kernel
theorem dX0_init_30 : decode cX0_init 30 = .ok (.invokespecial 17, 3) := by decide +kernel
theorem dX0_init_33 : decode cX0_init 33 = .ok (.aastore, 1) := by decide +kernel
theorem dX0_init_34 : decode cX0_init 34 = .ok (.iinc 1 1, 3) := by decide +kernel
theorem dX0_init_37 : decode cX0_init 37 = .ok (.goto (-22), 3) := by decide +kernel
theorem dX0_init_40 : decode cX0_init 40 = .ok (.return_, 1) := by decide +kernel
theorem dX0_remember_0 : decode cX0_remember 0 = .ok (.aload_n 0, 1) := by decide +kernel
theorem dX0_remember_1 : decode cX0_remember 1 = .ok (.getfield 18, 3) := by decide +kernel
theorem dX0_remember_4 : decode cX0_remember 4 = .ok (.bipush 14, 2) := by decide +kernel
theorem dX0_remember_6 : decode cX0_remember 6 = .ok (.if_icmp .lt 7, 3) := by decide +kernel
theorem dX0_remember_9 : decode cX0_remember 9 = .ok (.aload_n 0, 1) := by decide +kernel
theorem dX0_remember_10 : decode cX0_remember 10 = .ok (.invokevirtual 22, 3) := by decide +kernel
theorem dX0_remember_13 : decode cX0_remember 13 = .ok (.aload_n 0, 1) := by decide +kernel
theorem dX0_remember_14 : decode cX0_remember 14 = .ok (.getfield 11, 3) := by decide +kernel
theorem dX0_remember_17 : decode cX0_remember 17 = .ok (.aload_n 0, 1) := by decide +kernel
theorem dX0_remember_18 : decode cX0_remember 18 = .ok (.getfield 18, 3) := by decide +kernel
theorem dX0_remember_21 : decode cX0_remember 21 = .ok (.aaload, 1) := by decide +kernel
theorem dX0_remember_22 : decode cX0_remember 22 = .ok (.aload_n 1, 1) := by decide +kernel
theorem dX0_remember_23 : decode cX0_remember 23 = .ok (.invokevirtual 25, 3) := by decide +kernel
theorem dX0_remember_26 : decode cX0_remember 26 = .ok (.aload_n 0, 1) := by decide +kernel
theorem dX0_remember_27 : decode cX0_remember 27 = .ok (.dup, 1) := by decide +kernel
theorem dX0_remember_28 : decode cX0_remember 28 = .ok (.getfield 18, 3) := by decide +kernel
theorem dX0_remember_31 : decode cX0_remember 31 = .ok (.iconst 1, 1) := by decide +kernel
theorem dX0_remember_32 : decode cX0_remember 32 = .ok (.iadd, 1) := by decide +kernel
theorem dX0_remember_33 : decode cX0_remember 33 = .ok (.putfield 18, 3) := by decide +kernel
theorem dX0_remember_36 : decode cX0_remember 36 = .ok (.return_, 1) := by decide +kernel
theorem dX0_forgetFirst_0 : decode cX0_forgetFirst 0 = .ok (.aload_n 0, 1) := by decide +kernel
theorem dX0_forgetFirst_1 : decode cX0_forgetFirst 1 = .ok (.getfield 11, 3) := by decide +kernel
theorem dX0_forgetFirst_4 : decode cX0_forgetFirst 4 = .ok (.iconst 0, 1) := by decide +kernel
theorem dX0_forgetFirst_5 : decode cX0_forgetFirst 5 = .ok (.aaload, 1) := by decide +kernel
theorem dX0_forgetFirst_6 : decode cX0_forgetFirst 6 = .ok (.astore_n 1, 1) := by decide +kernel
theorem dX0_forgetFirst_7 : decode cX0_forgetFirst 7 = .ok (.iconst 1, 1) := by decide +kernel
theorem dX0_forgetFirst_8 : decode cX0_forgetFirst 8 = .ok (.istore_n 2, 1) := by decide +kernel
theorem dX0_forgetFirst_9 : decode cX0_forgetFirst 9 = .ok (.iload_n 2, 1) := by decide +kernel
theorem dX0_forgetFirst_10 : decode cX0_forgetFirst 10 = .ok (.bipush 14, 2) := by decide +kernel
theorem dX0_forgetFirst_12 : decode cX0_forgetFirst 12 = .ok (.if_icmp .ge 23, 3) := by decide +kernel
theorem dX0_forgetFirst_15 : decode cX0_forgetFirst 15 = .ok (.aload_n 0, 1) := by decide +kernel
theorem dX0_forgetFirst_16 : decode cX0_forgetFirst 16 = .ok (.getfield 11, 3) := by decide +kernel
theorem dX0_forgetFirst_19 : decode cX0_forgetFirst 19 = .ok (.iload_n 2, 1) := by decide +kernel
theorem dX0_forgetFirst_20 : decode cX0_forgetFirst 20 = .ok (.iconst 1, 1) := by decide +kernel
theorem dX0_forgetFirst_21 : decode cX0_forgetFirst 21 = .ok (.isub, 1) := by decide +kernel
theorem dX0_forgetFirst_22 : decode cX0_forgetFirst 22 = .ok (.aload_n 0, 1) := by decide +kernel
theorem dX0_forgetFirst_23 : decode cX0_forgetFirst 23 = .ok (.getfield 11, 3) := by decide +kernel
theorem dX0_forgetFirst_26 : decode cX0_forgetFirst 26 = .ok (.iload_n 2, 1) := by decide +kernel
theorem dX0_forgetFirst_27 : decode cX0_forgetFirst 27 = .ok (.aaload, 1) := by decide +kernel
theorem dX0_forgetFirst_28 : decode cX0_forgetFirst 28 = .ok (.aastore, 1) := by decide +kernel
theorem dX0_forgetFirst_29 : decode cX0_forgetFirst 29 = .ok (.iinc 2 1, 3) := by decide +kernel
theorem dX0_forgetFirst_32 : decode cX0_forgetFirst 32 = .ok (.goto (-23), 3) := by decide +kernel
theorem dX0_forgetFirst_35 : decode cX0_forgetFirst 35 = .ok (.aload_n 0, 1) := by decide +kernel
theorem dX0_forgetFirst_36 : decode cX0_forgetFirst 36 = .ok (.getfield 11, 3) := by decide +kernel
theorem dX0_forgetFirst_39 : decode cX0_forgetFirst 39 = .ok (.bipush 13, 2) := by decide +kernel
theorem dX0_forgetFirst_41 : decode cX0_forgetFirst 41 = .ok (.aload_n 1, 1) := by decide +kernel
theorem dX0_forgetFirst_42 : decode cX0_forgetFirst 42 = .ok (.aastore, 1) := by decide +kernel
theorem dX0_forgetFirst_43 : decode cX0_forgetFirst 43 = .ok (.aload_n 0, 1) := by decide +kernel
theorem dX0_forgetFirst_44 : decode cX0_forgetFirst 44 = .ok (.bipush 13, 2) := by decide +kernel
theorem dX0_forgetFirst_46 : decode cX0_forgetFirst 46 = .ok (.putfield 18, 3) := by decide +kernel
theorem dX0_forgetFirst_49 : decode cX0_forgetFirst 49 = .ok (.return_, 1) := by decide +kernel
theorem dX0_takeBackLast_0 : decode cX0_takeBackLast 0 = .ok (.aload_n 0, 1) := by decide +kernel
theorem dX0_takeBackLast_1 : decode cX0_takeBackLast 1 = .ok (.getfield 18, 3) := by decide +kernel
theorem dX0_takeBackLast_4 : decode cX0_takeBackLast 4 = .ok (.ifCond .le 26, 3) := by decide +kernel
theorem dX0_takeBackLast_7 : decode cX0_takeBackLast 7 = .ok (.aload_n 0, 1) := by decide +kernel
theorem dX0_takeBackLast_8 : decode cX0_takeBackLast 8 = .ok (.dup, 1) := by decide +kernel
theorem dX0_takeBackLast_9 : decode cX0_takeBackLast 9 = .ok (.getfield 18, 3) := by decide +kernel
theorem dX0_takeBackLast_12 : decode cX0_takeBackLast 12 = .ok (.iconst 1, 1) := by decide +kernel
theorem dX0_takeBackLast_13 : decode cX0_takeBackLast 13 = .ok (.isub, 1) := by decide +kernel
theorem dX0_takeBackLast_14 : decode cX0_takeBackLast 14 = .ok (.putfield 18, 3) := by decide +kernel
theorem dX0_takeBackLast_17 : decode cX0_takeBackLast 17 = .ok (.aload_n 1, 1) := by decide +kernel
theorem dX0_takeBackLast_18 : decode cX0_takeBackLast 18 = .ok (.aload_n 0, 1) := by decide +kernel
theorem dX0_takeBackLast_19 : decode cX0_takeBackLast 19 = .ok (.getfield 11, 3) := by decide +kernel
theorem dX0_takeBackLast_22 : decode cX0_takeBackLast 22 = .ok (.aload_n 0, 1) := by decide +kernel
theorem dX0_takeBackLast_23 : decode cX0_takeBackLast 23 = .ok (.getfield 18, 3) := by decide +kernel
theorem dX0_takeBackLast_26 : decode cX0_takeBackLast 26 = .ok (.aaload, 1) := by decide +kernel
theorem dX0_takeBackLast_27 : decode cX0_takeBackLast 27 = .ok (.invokevirtual 25, 3) := by decide +kernel
theorem dX0_takeBackLast_30 : decode cX0_takeBackLast 30 = .ok (.return_, 1) := by decide +kernel
theorem dX1_init_0 : decode cX1_init 0 = .ok (.aload_n 0, 1) := by decide +kernel
theorem dX1_init_1 : decode cX1_init 1 = .ok (.invokespecial 3, 3) := by decide +kernel
theorem dX1_init_4 : decode cX1_init 4 = .ok (.aload_n 0, 1) := by decide +kernel
theorem dX1_init_5 : decode cX1_init 5 = .ok (.bipush 16, 2) := by decide +kernel
theorem dX1_init_7 : decode cX1_init 7 = .ok (.newarray .int, 2) := by decide +kernel
theorem dX1_init_9 : decode cX1_init 9 = .ok (.putfield 9, 3) := by decide +kernel
theorem dX1_init_12 : decode cX1_init 12 = .ok (.aload_n 0, 1) := by decide +kernel
theorem dX1_init_13 : decode cX1_init 13 = .ok (.bipush 16, 2) := by decide +kernel
theorem dX1_init_15 : decode cX1_init 15 = .ok (.newarray .int, 2) := by decide +kernel
theorem dX1_init_17 : decode cX1_init 17 = .ok (.putfield 15, 3) := by decide +kernel
theorem dX1_init_20 : decode cX1_init 20 = .ok (.aload_n 0, 1) := by decide +kernel
theorem dX1_init_21 : decode cX1_init 21 = .ok (.bipush 16, 2) := by decide +kernel
theorem dX1_init_23 : decode cX1_init 23 = .ok (.newarray .int, 2) := by decide +kernel
theorem dX1_init_25 : decode cX1_init 25 = .ok (.putfield 18, 3) := by decide +kernel
theorem dX1_init_28 : decode cX1_init 28 = .ok (.aload_n 0, 1) := by decide +kernel
theorem dX1_init_29 : decode cX1_init 29 = .ok (.bipush 16, 2) := by decide +kernel
theorem dX1_init_31 : decode cX1_init 31 = .ok (.newarray .int, 2) := by decide +kernel
theorem dX1_init_33 : decode cX1_init 33 = .ok (.putfield 21, 3) := by decide +kernel
theorem dX1_init_36 : decode cX1_init 36 = .ok (.return_, 1) := by decide +kernel
theorem dX1_gather_0 : decode cX1_gather 0 = .ok (.aload_n 0, 1) := by decide +kernel
theorem dX1_gather_1 : decode cX1_gather 1 = .ok (.iconst 0, 1) := by decide +kernel
theorem dX1_gather_2 : decode cX1_gather 2 = .ok (.putfield 24, 3) := by decide +kernel
theorem dX1_gather_5 : decode cX1_gather 5 = .ok (.iconst 0, 1) := by decide +kernel
theorem dX1_gather_6 : decode cX1_gather 6 = .ok (.istore_n 3, 1) := by decide +kernel
theorem dX1_gather_7 : decode cX1_gather 7 = .ok (.iload_n 3, 1) := by decide +kernel
theorem dX1_gather_8 : decode cX1_gather 8 = .ok (.aload_n 1, 1) := by decide +kernel
theorem dX1_gather_9 : decode cX1_gather 9 = .ok (.getfield 28, 3) := by decide +kernel
theorem dX1_gather_12 : decode cX1_gather 12 = .ok (.if_icmp .ge 94, 3) := by decide +kernel
theorem dX1_gather_15 : decode cX1_gather 15 = .ok (.aload_n 1, 1) := by decide +kernel
theorem dX1_gather_16 : decode cX1_gather 16 = .ok (.iload_n 3, 1) := by decide +kernel
theorem dX1_gather_17 : decode cX1_gather 17 = .ok (.iload_n 2, 1) := by decide +kernel
theorem dX1_gather_18 : decode cX1_gather 18 = .ok (.invokevirtual 31, 3) := by decide +kernel
theorem dX1_gather_21 : decode cX1_gather 21 = .ok (.ifCond .eq 79, 3) := by decide +kernel
theorem dX1_gather_24 : decode cX1_gather 24 = .ok (.aload_n 0, 1) := by decide +kernel
theorem dX1_gather_25 : decode cX1_gather 25 = .ok (.getfield 9, 3) := by decide +kernel
theorem dX1_gather_28 : decode cX1_gather 28 = .ok (.aload_n 0, 1) := by decide +kernel
theorem dX1_gather_29 : decode cX1_gather 29 = .ok (.getfield 24, 3) := by decide +kernel
theorem dX1_gather_32 : decode cX1_gather 32 = .ok (.iload_n 3, 1) := by decide +kernel
theorem dX1_gather_33 : decode cX1_gather 33 = .ok (.iastore, 1) := by decide +kernel
theorem dX1_gather_34 : decode cX1_gather 34 = .ok (.aload_n 0, 1) := by decide +kernel
theorem dX1_gather_35 : decode cX1_gather 35 = .ok (.getfield 15, 3) := by decide +kernel
theorem dX1_gather_38 : decode cX1_gather 38 = .ok (.aload_n 0, 1) := by decide +kernel
theorem dX1_gather_39 : decode cX1_gather 39 = .ok (.getfield 24, 3) := by decide +kernel
theorem dX1_gather_42 : decode cX1_gather 42 = .ok (.aload_n 1, 1) := by decide +kernel
theorem dX1_gather_43 : decode cX1_gather 43 = .ok (.getfield 35, 3) := by decide +kernel
theorem dX1_gather_46 : decode cX1_gather 46 = .ok (.iload_n 3, 1) := by decide +kernel
theorem dX1_gather_47 : decode cX1_gather 47 = .ok (.iaload, 1) := by decide +kernel
theorem dX1_gather_48 : decode cX1_gather 48 = .ok (.iastore, 1) := by decide +kernel
theorem dX1_gather_49 : decode cX1_gather 49 = .ok (.aload_n 0, 1) := by decide +kernel
theorem dX1_gather_50 : decode cX1_gather 50 = .ok (.getfield 18, 3) := by decide +kernel
theorem dX1_gather_53 : decode cX1_gather 53 = .ok (.aload_n 0, 1) := by decide +kernel
theorem dX1_gather_54 : decode cX1_gather 54 = .ok (.getfield 24, 3) := by decide +kernel
theorem dX1_gather_57 : decode cX1_gather 57 = .ok (.aload_n 1, 1) := by decide +kernel
theorem dX1_gather_58 : decode cX1_gather 58 = .ok (.getfield 36, 3) := by decide +kernel
theorem dX1_gather_61 : decode cX1_gather 61 = .ok (.iload_n 3, 1) := by decide +kernel
theorem dX1_gather_62 : decode cX1_gather 62 = .ok (.iaload, 1) := by decide +kernel
theorem dX1_gather_63 : decode cX1_gather 63 = .ok (.iastore, 1) := by decide +kernel
theorem dX1_gather_64 : decode cX1_gather 64 = .ok (.aload_n 0, 1) := by decide +kernel
theorem dX1_gather_65 : decode cX1_gather 65 = .ok (.getfield 21, 3) := by decide +kernel
theorem dX1_gather_68 : decode cX1_gather 68 = .ok (.aload_n 0, 1) := by decide +kernel
theorem dX1_gather_69 : decode cX1_gather 69 = .ok (.getfield 24, 3) := by decide +kernel
theorem dX1_gather_72 : decode cX1_gather 72 = .ok (.iconst 1, 1) := by decide +kernel
theorem dX1_gather_73 : decode cX1_gather 73 = .ok (.aload_n 1, 1) := by decide +kernel
theorem dX1_gather_74 : decode cX1_gather 74 = .ok (.getfield 35, 3) := by decide +kernel
theorem dX1_gather_77 : decode cX1_gather 77 = .ok (.iload_n 3, 1) := by decide +kernel
theorem dX1_gather_78 : decode cX1_gather 78 = .ok (.iaload, 1) := by decide +kernel
theorem dX1_gather_79 : decode cX1_gather 79 = .ok (.ishl, 1) := by decide +kernel
theorem dX1_gather_80 : decode cX1_gather 80 = .ok (.iconst 1, 1) := by decide +kernel
theorem dX1_gather_81 : decode cX1_gather 81 = .ok (.aload_n 1, 1) := by decide +kernel
theorem dX1_gather_82 : decode cX1_gather 82 = .ok (.getfield 36, 3) := by decide +kernel
theorem dX1_gather_85 : decode cX1_gather 85 = .ok (.iload_n 3, 1) := by decide +kernel
theorem dX1_gather_86 : decode cX1_gather 86 = .ok (.iaload, 1) := by decide +kernel
theorem dX1_gather_87 : decode cX1_gather 87 = .ok (.ishl, 1) := by decide +kernel
theorem dX1_gather_88 : decode cX1_gather 88 = .ok (.ior, 1) := by decide +kernel
theorem dX1_gather_89 : decode cX1_gather 89 = .ok (.iastore, 1) := by decide +kernel
theorem dX1_gather_90 : decode cX1_gather 90 = .ok (.aload_n 0, 1) := by decide +kernel
theorem dX1_gather_91 : decode cX1_gather 91 = .ok (.dup, 1) := by decide +kernel
theorem dX1_gather_92 : decode cX1_gather 92 = .ok (.getfield 24, 3) := by decide +kernel
theorem dX1_gather_95 : decode cX1_gather 95 = .ok (.iconst 1, 1) := by decide +kernel
theorem dX1_gather_96 : decode cX1_gather 96 = .ok (.iadd, 1) := by decide +kernel
theorem dX1_gather_97 : decode cX1_gather 97 = .ok (.putfield 24, 3) := by decide +kernel
theorem dX1_gather_100 : decode cX1_gather 100 = .ok (.iinc 3 1, 3) := by decide +kernel
theorem dX1_gather_103 : decode cX1_gather 103 = .ok (.goto (-96), 3) := by decide +kernel
theorem dX1_gather_106 : decode cX1_gather 106 = .ok (.return_, 1) := by decide +kernel
theorem dX1_all_0 : decode cX1_all 0 = .ok (.iconst 1, 1) := by decide +kernel
theorem dX1_all_1 : decode cX1_all 1 = .ok (.aload_n 0, 1) := by decide +kernel
theorem dX1_all_2 : decode cX1_all 2 = .ok (.getfield 24, 3) := by decide +kernel
theorem dX1_all_5 : decode cX1_all 5 = .ok (.ishl, 1) := by decide +kernel
theorem dX1_all_6 : decode cX1_all 6 = .ok (.iconst 1, 1) := by decide +kernel
theorem dX1_all_7 : decode cX1_all 7 = .ok (.isub, 1) := by decide +kernel
theorem dX1_all_8 : decode cX1_all 8 = .ok (.ireturn, 1) := by decide +kernel
theorem dX1_placeOf_0 : decode cX1_placeOf 0 = .ok (.iconst 0, 1) := by decide +kernel
theorem dX1_placeOf_1 : decode cX1_placeOf 1 = .ok (.istore_n 2, 1) := by decide +kernel
theorem dX1_placeOf_2 : decode cX1_placeOf 2 = .ok (.iload_n 2, 1) := by decide +kernel
theorem dX1_placeOf_3 : decode cX1_placeOf 3 = .ok (.aload_n 0, 1) := by decide +kernel
theorem dX1_placeOf_4 : decode cX1_placeOf 4 = .ok (.getfield 24, 3) := by decide +kernel
theorem dX1_placeOf_7 : decode cX1_placeOf 7 = .ok (.if_icmp .ge 21, 3) := by decide +kernel
theorem dX1_placeOf_10 : decode cX1_placeOf 10 = .ok (.aload_n 0, 1) := by decide +kernel
theorem dX1_placeOf_11 : decode cX1_placeOf 11 = .ok (.getfield 9, 3) := by decide +kernel
theorem dX1_placeOf_14 : decode cX1_placeOf 14 = .ok (.iload_n 2, 1) := by decide +kernel
theorem dX1_placeOf_15 : decode cX1_placeOf 15 = .ok (.iaload, 1) := by decide +kernel
theorem dX1_placeOf_16 : decode cX1_placeOf 16 = .ok (.iload_n 1, 1) := by decide +kernel
theorem dX1_placeOf_17 : decode cX1_placeOf 17 = .ok (.if_icmp .ne 5, 3) := by decide +kernel
theorem dX1_placeOf_20 : decode cX1_placeOf 20 = .ok (.iload_n 2, 1) := by decide +kernel
theorem dX1_placeOf_21 : decode cX1_placeOf 21 = .ok (.ireturn, 1) := by decide +kernel
theorem dX1_placeOf_22 : decode cX1_placeOf 22 = .ok (.iinc 2 1, 3) := by decide +kernel
theorem dX1_placeOf_25 : decode cX1_placeOf 25 = .ok (.goto (-23), 3) := by decide +kernel
theorem dX1_placeOf_28 : decode cX1_placeOf 28 = .ok (.bipush (-9), 2) := by decide +kernel
theorem dX1_placeOf_30 : decode cX1_placeOf 30 = .ok (.ireturn, 1) := by decide +kernel
theorem dX1_numbersOf_0 : decode cX1_numbersOf 0 = .ok (.iconst 0, 1) := by decide +kernel
theorem dX1_numbersOf_1 : decode cX1_numbersOf 1 = .ok (.istore_n 2, 1) := by decide +kernel
theorem dX1_numbersOf_2 : decode cX1_numbersOf 2 = .ok (.iconst 0, 1) := by decide +kernel
theorem dX1_numbersOf_3 : decode cX1_numbersOf 3 = .ok (.istore_n 3, 1) := by decide +kernel
theorem dX1_numbersOf_4 : decode cX1_numbersOf 4 = .ok (.iload_n 3, 1) := by decide +kernel
theorem dX1_numbersOf_5 : decode cX1_numbersOf 5 = .ok (.aload_n 0, 1) := by decide +kernel
theorem dX1_numbersOf_6 : decode cX1_numbersOf 6 = .ok (.getfield 24, 3) := by decide +kernel
theorem dX1_numbersOf_9 : decode cX1_numbersOf 9 = .ok (.if_icmp .ge 28, 3) := by decide +kernel
theorem dX1_numbersOf_12 : decode cX1_numbersOf 12 = .ok (.iload_n 1, 1) := by decide +kernel
theorem dX1_numbersOf_13 : decode cX1_numbersOf 13 = .ok (.iload_n 3, 1) := by decide +kernel
theorem dX1_numbersOf_14 : decode cX1_numbersOf 14 = .ok (.ishr, 1) := by decide +kernel
theorem dX1_numbersOf_15 : decode cX1_numbersOf 15 = .ok (.iconst 1, 1) := by decide +kernel
theorem dX1_numbersOf_16 : decode cX1_numbersOf 16 = .ok (.iand, 1) := by decide +kernel
theorem dX1_numbersOf_17 : decode cX1_numbersOf 17 = .ok (.ifCond .eq 14, 3) := by decide +kernel
theorem dX1_numbersOf_20 : decode cX1_numbersOf 20 = .ok (.iload_n 2, 1) := by decide +kernel
theorem dX1_numbersOf_21 : decode cX1_numbersOf 21 = .ok (.iconst 1, 1) := by decide +kernel
theorem dX1_numbersOf_22 : decode cX1_numbersOf 22 = .ok (.aload_n 0, 1) := by decide +kernel
theorem dX1_numbersOf_23 : decode cX1_numbersOf 23 = .ok (.getfield 9, 3) := by decide +kernel
theorem dX1_numbersOf_26 : decode cX1_numbersOf 26 = .ok (.iload_n 3, 1) := by decide +kernel
theorem dX1_numbersOf_27 : decode cX1_numbersOf 27 = .ok (.iaload, 1) := by decide +kernel
theorem dX1_numbersOf_28 : decode cX1_numbersOf 28 = .ok (.ishl, 1) := by decide +kernel
theorem dX1_numbersOf_29 : decode cX1_numbersOf 29 = .ok (.ior, 1) := by decide +kernel
theorem dX1_numbersOf_30 : decode cX1_numbersOf 30 = .ok (.istore_n 2, 1) := by decide +kernel
theorem dX1_numbersOf_31 : decode cX1_numbersOf 31 = .ok (.iinc 3 1, 3) := by decide +kernel
theorem dX1_numbersOf_34 : decode cX1_numbersOf 34 = .ok (.goto (-30), 3) := by decide +kernel
theorem dX1_numbersOf_37 : decode cX1_numbersOf 37 = .ok (.iload_n 2, 1) := by decide +kernel
theorem dX1_numbersOf_38 : decode cX1_numbersOf 38 = .ok (.ireturn, 1) := by decide +kernel
theorem dX1_reach_0 : decode cX1_reach 0 = .ok (.iconst 1, 1) := by decide +kernel
theorem dX1_reach_1 : decode cX1_reach 1 = .ok (.iload_n 1, 1) := by decide +kernel
theorem dX1_reach_2 : decode cX1_reach 2 = .ok (.ishl, 1) := by decide +kernel
theorem dX1_reach_3 : decode cX1_reach 3 = .ok (.istore_n 3, 1) := by decide +kernel
theorem dX1_reach_4 : decode cX1_reach 4 = .ok (.iconst 1, 1) := by decide +kernel
theorem dX1_reach_5 : decode cX1_reach 5 = .ok (.istore 4, 2) := by decide +kernel
theorem dX1_reach_7 : decode cX1_reach 7 = .ok (.iload 4, 2) := by decide +kernel
theorem dX1_reach_9 : decode cX1_reach 9 = .ok (.bipush 8, 2) := by decide +kernel
theorem dX1_reach_11 : decode cX1_reach 11 = .ok (.if_icmp .ge 70, 3) := by decide +kernel
theorem dX1_reach_14 : decode cX1_reach 14 = .ok (.iload_n 3, 1) := by decide +kernel
theorem dX1_reach_15 : decode cX1_reach 15 = .ok (.istore 5, 2) := by decide +kernel
theorem dX1_reach_17 : decode cX1_reach 17 = .ok (.iconst 0, 1) := by decide +kernel
theorem dX1_reach_18 : decode cX1_reach 18 = .ok (.istore 6, 2) := by decide +kernel
theorem dX1_reach_20 : decode cX1_reach 20 = .ok (.iload 6, 2) := by decide +kernel
theorem dX1_reach_22 : decode cX1_reach 22 = .ok (.aload_n 0, 1) := by decide +kernel
theorem dX1_reach_23 : decode cX1_reach 23 = .ok (.getfield 24, 3) := by decide +kernel
theorem dX1_reach_26 : decode cX1_reach 26 = .ok (.if_icmp .ge 40, 3) := by decide +kernel
theorem dX1_reach_29 : decode cX1_reach 29 = .ok (.iload_n 2, 1) := by decide +kernel
theorem dX1_reach_30 : decode cX1_reach 30 = .ok (.iload 6, 2) := by decide +kernel
theorem dX1_reach_32 : decode cX1_reach 32 = .ok (.ishr, 1) := by decide +kernel
theorem dX1_reach_33 : decode cX1_reach 33 = .ok (.iconst 1, 1) := by decide +kernel
theorem dX1_reach_34 : decode cX1_reach 34 = .ok (.iand, 1) := by decide +kernel
theorem dX1_reach_35 : decode cX1_reach 35 = .ok (.ifCond .eq 25, 3) := by decide +kernel
theorem dX1_reach_38 : decode cX1_reach 38 = .ok (.aload_n 0, 1) := by decide +kernel
theorem dX1_reach_39 : decode cX1_reach 39 = .ok (.getfield 21, 3) := by decide +kernel
theorem dX1_reach_42 : decode cX1_reach 42 = .ok (.iload 6, 2) := by decide +kernel
theorem dX1_reach_44 : decode cX1_reach 44 = .ok (.iaload, 1) := by decide +kernel
theorem dX1_reach_45 : decode cX1_reach 45 = .ok (.iload_n 3, 1) := by decide +kernel
theorem dX1_reach_46 : decode cX1_reach 46 = .ok (.iand, 1) := by decide +kernel
theorem dX1_reach_47 : decode cX1_reach 47 = .ok (.ifCond .eq 13, 3) := by decide +kernel
theorem dX1_reach_50 : decode cX1_reach 50 = .ok (.iload_n 3, 1) := by decide +kernel
theorem dX1_reach_51 : decode cX1_reach 51 = .ok (.aload_n 0, 1) := by decide +kernel
theorem dX1_reach_52 : decode cX1_reach 52 = .ok (.getfield 21, 3) := by decide +kernel
theorem dX1_reach_55 : decode cX1_reach 55 = .ok (.iload 6, 2) := by decide +kernel
theorem dX1_reach_57 : decode cX1_reach 57 = .ok (.iaload, 1) := by decide +kernel
theorem dX1_reach_58 : decode cX1_reach 58 = .ok (.ior, 1) := by decide +kernel
theorem dX1_reach_59 : decode cX1_reach 59 = .ok (.istore_n 3, 1) := by decide +kernel
theorem dX1_reach_60 : decode cX1_reach 60 = .ok (.iinc 6 1, 3) := by decide +kernel
theorem dX1_reach_63 : decode cX1_reach 63 = .ok (.goto (-43), 3) := by decide +kernel
theorem dX1_reach_66 : decode cX1_reach 66 = .ok (.iload_n 3, 1) := by decide +kernel
theorem dX1_reach_67 : decode cX1_reach 67 = .ok (.iload 5, 2) := by decide +kernel
theorem dX1_reach_69 : decode cX1_reach 69 = .ok (.if_icmp .ne 6, 3) := by decide +kernel
theorem dX1_reach_72 : decode cX1_reach 72 = .ok (.goto 9, 3) := by decide +kernel
theorem dX1_reach_75 : decode cX1_reach 75 = .ok (.iinc 4 1, 3) := by decide +kernel
theorem dX1_reach_78 : decode cX1_reach 78 = .ok (.goto (-71), 3) := by decide +kernel
theorem dX1_reach_81 : decode cX1_reach 81 = .ok (.iload_n 3, 1) := by decide +kernel
theorem dX1_reach_82 : decode cX1_reach 82 = .ok (.ireturn, 1) := by decide +kernel
theorem dX1_areJoined_0 : decode cX1_areJoined 0 = .ok (.aload_n 0, 1) := by decide +kernel
theorem dX1_areJoined_1 : decode cX1_areJoined 1 = .ok (.iload_n 1, 1) := by decide +kernel
theorem dX1_areJoined_2 : decode cX1_areJoined 2 = .ok (.iload_n 3, 1) := by decide +kernel
theorem dX1_areJoined_3 : decode cX1_areJoined 3 = .ok (.invokevirtual 37, 3) := by decide +kernel
theorem dX1_areJoined_6 : decode cX1_areJoined 6 = .ok (.iload_n 2, 1) := by decide +kernel
theorem dX1_areJoined_7 : decode cX1_areJoined 7 = .ok (.ishr, 1) := by decide +kernel
theorem dX1_areJoined_8 : decode cX1_areJoined 8 = .ok (.iconst 1, 1) := by decide +kernel
theorem dX1_areJoined_9 : decode cX1_areJoined 9 = .ok (.iand, 1) := by decide +kernel
theorem dX1_areJoined_10 : decode cX1_areJoined 10 = .ok (.ifCond .eq 7, 3) := by decide +kernel
theorem dX1_areJoined_13 : decode cX1_areJoined 13 = .ok (.iconst 1, 1) := by decide +kernel
theorem dX1_areJoined_14 : decode cX1_areJoined 14 = .ok (.goto 4, 3) := by decide +kernel
theorem dX1_areJoined_17 : decode cX1_areJoined 17 = .ok (.iconst 0, 1) := by decide +kernel
theorem dX1_areJoined_18 : decode cX1_areJoined 18 = .ok (.ireturn, 1) := by decide +kernel
theorem dX2_init_0 : decode cX2_init 0 = .ok (.aload_n 0, 1) := by decide +kernel
theorem dX2_init_1 : decode cX2_init 1 = .ok (.invokespecial 3, 3) := by decide +kernel
theorem dX2_init_4 : decode cX2_init 4 = .ok (.aload_n 0, 1) := by decide +kernel
theorem dX2_init_5 : decode cX2_init 5 = .ok (.bipush 8, 2) := by decide +kernel
theorem dX2_init_7 : decode cX2_init 7 = .ok (.newarray .int, 2) := by decide +kernel
theorem dX2_init_9 : decode cX2_init 9 = .ok (.putfield 9, 3) := by decide +kernel
theorem dX2_init_12 : decode cX2_init 12 = .ok (.aload_n 0, 1) := by decide +kernel
theorem dX2_init_13 : decode cX2_init 13 = .ok (.bipush 8, 2) := by decide +kernel
theorem dX2_init_15 : decode cX2_init 15 = .ok (.newarray .int, 2) := by decide +kernel
theorem dX2_init_17 : decode cX2_init 17 = .ok (.putfield 15, 3) := by decide +kernel
theorem dX2_init_20 : decode cX2_init 20 = .ok (.aload_n 0, 1) := by decide +kernel
theorem dX2_init_21 : decode cX2_init 21 = .ok (.bipush 8, 2) := by decide +kernel
theorem dX2_init_23 : decode cX2_init 23 = .ok (.newarray .int, 2) := by decide +kernel
theorem dX2_init_25 : decode cX2_init 25 = .ok (.putfield 18, 3) := by decide +kernel
theorem dX2_init_28 : decode cX2_init 28 = .ok (.aload_n 0, 1) := by decide +kernel
theorem dX2_init_29 : decode cX2_init 29 = .ok (.bipush 8, 2) := by decide +kernel
theorem dX2_init_31 : decode cX2_init 31 = .ok (.newarray .boolean, 2) := by decide +kernel
theorem dX2_init_33 : decode cX2_init 33 = .ok (.putfield 21, 3) := by decide +kernel
theorem dX2_init_36 : decode cX2_init 36 = .ok (.return_, 1) := by decide +kernel
theorem dX2_takeApart_0 : decode cX2_takeApart 0 = .ok (.iconst 0, 1) := by decide +kernel
theorem dX2_takeApart_1 : decode cX2_takeApart 1 = .ok (.istore_n 1, 1) := by decide +kernel
theorem dX2_takeApart_2 : decode cX2_takeApart 2 = .ok (.iload_n 1, 1) := by decide +kernel
theorem dX2_takeApart_3 : decode cX2_takeApart 3 = .ok (.bipush 8, 2) := by decide +kernel
theorem dX2_takeApart_5 : decode cX2_takeApart 5 = .ok (.if_icmp .ge 37, 3) := by decide +kernel
theorem dX2_takeApart_8 : decode cX2_takeApart 8 = .ok (.aload_n 0, 1) := by decide +kernel
theorem dX2_takeApart_9 : decode cX2_takeApart 9 = .ok (.getfield 9, 3) := by decide +kernel
theorem dX2_takeApart_12 : decode cX2_takeApart 12 = .ok (.iload_n 1, 1) := by decide +kernel
theorem dX2_takeApart_13 : decode cX2_takeApart 13 = .ok (.iload_n 1, 1) := by decide +kernel
theorem dX2_takeApart_14 : decode cX2_takeApart 14 = .ok (.iastore, 1) := by decide +kernel
theorem dX2_takeApart_15 : decode cX2_takeApart 15 = .ok (.aload_n 0, 1) := by decide +kernel
theorem dX2_takeApart_16 : decode cX2_takeApart 16 = .ok (.getfield 15, 3) := by decide +kernel
theorem dX2_takeApart_19 : decode cX2_takeApart 19 = .ok (.iload_n 1, 1) := by decide +kernel
theorem dX2_takeApart_20 : decode cX2_takeApart 20 = .ok (.iconst 1, 1) := by decide +kernel
theorem dX2_takeApart_21 : decode cX2_takeApart 21 = .ok (.iastore, 1) := by decide +kernel
theorem dX2_takeApart_22 : decode cX2_takeApart 22 = .ok (.aload_n 0, 1) := by decide +kernel
theorem dX2_takeApart_23 : decode cX2_takeApart 23 = .ok (.getfield 18, 3) := by decide +kernel
theorem dX2_takeApart_26 : decode cX2_takeApart 26 = .ok (.iload_n 1, 1) := by decide +kernel
theorem dX2_takeApart_27 : decode cX2_takeApart 27 = .ok (.iconst 0, 1) := by decide +kernel
theorem dX2_takeApart_28 : decode cX2_takeApart 28 = .ok (.iastore, 1) := by decide +kernel
theorem dX2_takeApart_29 : decode cX2_takeApart 29 = .ok (.aload_n 0, 1) := by decide +kernel
theorem dX2_takeApart_30 : decode cX2_takeApart 30 = .ok (.getfield 21, 3) := by decide +kernel
theorem dX2_takeApart_33 : decode cX2_takeApart 33 = .ok (.iload_n 1, 1) := by decide +kernel
theorem dX2_takeApart_34 : decode cX2_takeApart 34 = .ok (.iconst 0, 1) := by decide +kernel
theorem dX2_takeApart_35 : decode cX2_takeApart 35 = .ok (.bastore, 1) := by decide +kernel
theorem dX2_takeApart_36 : decode cX2_takeApart 36 = .ok (.iinc 1 1, 3) := by decide +kernel
theorem dX2_takeApart_39 : decode cX2_takeApart 39 = .ok (.goto (-37), 3) := by decide +kernel
theorem dX2_takeApart_42 : decode cX2_takeApart 42 = .ok (.return_, 1) := by decide +kernel
theorem dX2_walkToTime_0 : decode cX2_walkToTime 0 = .ok (.aload_n 0, 1) := by decide +kernel
theorem dX2_walkToTime_1 : decode cX2_walkToTime 1 = .ok (.aload_n 1, 1) := by decide +kernel
theorem dX2_walkToTime_2 : decode cX2_walkToTime 2 = .ok (.bipush 16, 2) := by decide +kernel
theorem dX2_walkToTime_4 : decode cX2_walkToTime 4 = .ok (.iload_n 2, 1) := by decide +kernel
theorem dX2_walkToTime_5 : decode cX2_walkToTime 5 = .ok (.iadd, 1) := by decide +kernel
theorem dX2_walkToTime_6 : decode cX2_walkToTime 6 = .ok (.invokevirtual 25, 3) := by decide +kernel
theorem dX2_walkToTime_9 : decode cX2_walkToTime 9 = .ok (.pop, 1) := by decide +kernel
theorem dX2_walkToTime_10 : decode cX2_walkToTime 10 = .ok (.return_, 1) := by decide +kernel
theorem dX2_walkToNode_0 : decode cX2_walkToNode 0 = .ok (.aload_n 0, 1) := by decide +kernel
theorem dX2_walkToNode_1 : decode cX2_walkToNode 1 = .ok (.invokevirtual 29, 3) := by decide +kernel
theorem dX2_walkToNode_4 : decode cX2_walkToNode 4 = .ok (.iconst 0, 1) := by decide +kernel
theorem dX2_walkToNode_5 : decode cX2_walkToNode 5 = .ok (.istore_n 3, 1) := by decide +kernel
theorem dX2_walkToNode_6 : decode cX2_walkToNode 6 = .ok (.iconst 4, 1) := by decide +kernel
theorem dX2_walkToNode_7 : decode cX2_walkToNode 7 = .ok (.istore 4, 2) := by decide +kernel
theorem dX2_walkToNode_9 : decode cX2_walkToNode 9 = .ok (.iload 4, 2) := by decide +kernel
theorem dX2_walkToNode_11 : decode cX2_walkToNode 11 = .ok (.ifCond .lt 19, 3) := by decide +kernel
theorem dX2_walkToNode_14 : decode cX2_walkToNode 14 = .ok (.aload_n 0, 1) := by decide +kernel
theorem dX2_walkToNode_15 : decode cX2_walkToNode 15 = .ok (.aload_n 1, 1) := by decide +kernel
theorem dX2_walkToNode_16 : decode cX2_walkToNode 16 = .ok (.iload_n 2, 1) := by decide +kernel
theorem dX2_walkToNode_17 : decode cX2_walkToNode 17 = .ok (.iload 4, 2) := by decide +kernel
theorem dX2_walkToNode_19 : decode cX2_walkToNode 19 = .ok (.ishr, 1) := by decide +kernel
theorem dX2_walkToNode_20 : decode cX2_walkToNode 20 = .ok (.invokevirtual 32, 3) := by decide +kernel
theorem dX2_walkToNode_23 : decode cX2_walkToNode 23 = .ok (.istore_n 3, 1) := by decide +kernel
theorem dX2_walkToNode_24 : decode cX2_walkToNode 24 = .ok (.iinc 4 (-1), 3) := by decide +kernel
theorem dX2_walkToNode_27 : decode cX2_walkToNode 27 = .ok (.goto (-18), 3) := by decide +kernel
theorem dX2_walkToNode_30 : decode cX2_walkToNode 30 = .ok (.iload_n 3, 1) := by decide +kernel
theorem dX2_walkToNode_31 : decode cX2_walkToNode 31 = .ok (.ireturn, 1) := by decide +kernel
theorem dX2_joinAllOn_0 : decode cX2_joinAllOn 0 = .ok (.iconst 0, 1) := by decide +kernel
theorem dX2_joinAllOn_1 : decode cX2_joinAllOn 1 = .ok (.istore_n 3, 1) := by decide +kernel
theorem dX2_joinAllOn_2 : decode cX2_joinAllOn 2 = .ok (.iconst 0, 1) := by decide +kernel
theorem dX2_joinAllOn_3 : decode cX2_joinAllOn 3 = .ok (.istore 4, 2) := by decide +kernel
theorem dX2_joinAllOn_5 : decode cX2_joinAllOn 5 = .ok (.iload 4, 2) := by decide +kernel
theorem dX2_joinAllOn_7 : decode cX2_joinAllOn 7 = .ok (.aload_n 1, 1) := by decide +kernel
theorem dX2_joinAllOn_8 : decode cX2_joinAllOn 8 = .ok (.getfield 35, 3) := by decide +kernel
theorem dX2_joinAllOn_11 : decode cX2_joinAllOn 11 = .ok (.if_icmp .ge 43, 3) := by decide +kernel
theorem dX2_joinAllOn_14 : decode cX2_joinAllOn 14 = .ok (.aload_n 1, 1) := by decide +kernel
theorem dX2_joinAllOn_15 : decode cX2_joinAllOn 15 = .ok (.iload 4, 2) := by decide +kernel
theorem dX2_joinAllOn_17 : decode cX2_joinAllOn 17 = .ok (.iload_n 2, 1) := by decide +kernel
theorem dX2_joinAllOn_18 : decode cX2_joinAllOn 18 = .ok (.invokevirtual 40, 3) := by decide +kernel
theorem dX2_joinAllOn_21 : decode cX2_joinAllOn 21 = .ok (.ifCond .eq 27, 3) := by decide +kernel
theorem dX2_joinAllOn_24 : decode cX2_joinAllOn 24 = .ok (.aload_n 0, 1) := by decide +kernel
theorem dX2_joinAllOn_25 : decode cX2_joinAllOn 25 = .ok (.aload_n 1, 1) := by decide +kernel
theorem dX2_joinAllOn_26 : decode cX2_joinAllOn 26 = .ok (.getfield 44, 3) := by decide +kernel
theorem dX2_joinAllOn_29 : decode cX2_joinAllOn 29 = .ok (.iload 4, 2) := by decide +kernel
theorem dX2_joinAllOn_31 : decode cX2_joinAllOn 31 = .ok (.iaload, 1) := by decide +kernel
theorem dX2_joinAllOn_32 : decode cX2_joinAllOn 32 = .ok (.aload_n 1, 1) := by decide +kernel
theorem dX2_joinAllOn_33 : decode cX2_joinAllOn 33 = .ok (.getfield 47, 3) := by decide +kernel
theorem dX2_joinAllOn_36 : decode cX2_joinAllOn 36 = .ok (.iload 4, 2) := by decide +kernel
theorem dX2_joinAllOn_38 : decode cX2_joinAllOn 38 = .ok (.iaload, 1) := by decide +kernel
theorem dX2_joinAllOn_39 : decode cX2_joinAllOn 39 = .ok (.invokevirtual 50, 3) := by decide +kernel
theorem dX2_joinAllOn_42 : decode cX2_joinAllOn 42 = .ok (.ifCond .eq 6, 3) := by decide +kernel
theorem dX2_joinAllOn_45 : decode cX2_joinAllOn 45 = .ok (.iinc 3 1, 3) := by decide +kernel
theorem dX2_joinAllOn_48 : decode cX2_joinAllOn 48 = .ok (.iinc 4 1, 3) := by decide +kernel
theorem dX2_joinAllOn_51 : decode cX2_joinAllOn 51 = .ok (.goto (-46), 3) := by decide +kernel
theorem dX2_joinAllOn_54 : decode cX2_joinAllOn 54 = .ok (.iload_n 3, 1) := by decide +kernel
theorem dX2_joinAllOn_55 : decode cX2_joinAllOn 55 = .ok (.ireturn, 1) := by decide +kernel
theorem dX2_join_0 : decode cX2_join 0 = .ok (.aload_n 0, 1) := by decide +kernel
theorem dX2_join_1 : decode cX2_join 1 = .ok (.iload_n 1, 1) := by decide +kernel
theorem dX2_join_2 : decode cX2_join 2 = .ok (.invokevirtual 53, 3) := by decide +kernel
theorem dX2_join_5 : decode cX2_join 5 = .ok (.istore_n 3, 1) := by decide +kernel
theorem dX2_join_6 : decode cX2_join 6 = .ok (.aload_n 0, 1) := by decide +kernel
theorem dX2_join_7 : decode cX2_join 7 = .ok (.iload_n 2, 1) := by decide +kernel
theorem dX2_join_8 : decode cX2_join 8 = .ok (.invokevirtual 53, 3) := by decide +kernel
theorem dX2_join_11 : decode cX2_join 11 = .ok (.istore 4, 2) := by decide +kernel
theorem dX2_join_13 : decode cX2_join 13 = .ok (.aload_n 0, 1) := by decide +kernel
theorem dX2_join_14 : decode cX2_join 14 = .ok (.iload_n 1, 1) := by decide +kernel
theorem dX2_join_15 : decode cX2_join 15 = .ok (.invokevirtual 57, 3) := by decide +kernel
theorem dX2_join_18 : decode cX2_join 18 = .ok (.aload_n 0, 1) := by decide +kernel
theorem dX2_join_19 : decode cX2_join 19 = .ok (.iload_n 2, 1) := by decide +kernel
theorem dX2_join_20 : decode cX2_join 20 = .ok (.invokevirtual 57, 3) := by decide +kernel
theorem dX2_join_23 : decode cX2_join 23 = .ok (.ixor, 1) := by decide +kernel
theorem dX2_join_24 : decode cX2_join 24 = .ok (.iconst 1, 1) := by decide +kernel
theorem dX2_join_25 : decode cX2_join 25 = .ok (.ixor, 1) := by decide +kernel
theorem dX2_join_26 : decode cX2_join 26 = .ok (.istore 5, 2) := by decide +kernel
theorem dX2_join_28 : decode cX2_join 28 = .ok (.iload_n 3, 1) := by decide +kernel
theorem dX2_join_29 : decode cX2_join 29 = .ok (.iload 4, 2) := by decide +kernel
theorem dX2_join_31 : decode cX2_join 31 = .ok (.if_icmp .ne 25, 3) := by decide +kernel
theorem dX2_join_34 : decode cX2_join 34 = .ok (.aload_n 0, 1) := by decide +kernel
theorem dX2_join_35 : decode cX2_join 35 = .ok (.getfield 21, 3) := by decide +kernel
theorem dX2_join_38 : decode cX2_join 38 = .ok (.iload_n 3, 1) := by decide +kernel
theorem dX2_join_39 : decode cX2_join 39 = .ok (.dup2, 1) := by decide +kernel
theorem dX2_join_40 : decode cX2_join 40 = .ok (.baload, 1) := by decide +kernel
theorem dX2_join_41 : decode cX2_join 41 = .ok (.iload 5, 2) := by decide +kernel
theorem dX2_join_43 : decode cX2_join 43 = .ok (.iconst 1, 1) := by decide +kernel
theorem dX2_join_44 : decode cX2_join 44 = .ok (.if_icmp .ne 7, 3) := by decide +kernel
theorem dX2_join_47 : decode cX2_join 47 = .ok (.iconst 1, 1) := by decide +kernel
theorem dX2_join_48 : decode cX2_join 48 = .ok (.goto 4, 3) := by decide +kernel
theorem dX2_join_51 : decode cX2_join 51 = .ok (.iconst 0, 1) := by decide +kernel
theorem dX2_join_52 : decode cX2_join 52 = .ok (.ior, 1) := by decide +kernel
theorem dX2_join_53 : decode cX2_join 53 = .ok (.bastore, 1) := by decide +kernel
theorem dX2_join_54 : decode cX2_join 54 = .ok (.iconst 0, 1) := by decide +kernel
theorem dX2_join_55 : decode cX2_join 55 = .ok (.ireturn, 1) := by decide +kernel
theorem dX2_join_56 : decode cX2_join 56 = .ok (.aload_n 0, 1) := by decide +kernel
theorem dX2_join_57 : decode cX2_join 57 = .ok (.iload_n 3, 1) := by decide +kernel
theorem dX2_join_58 : decode cX2_join 58 = .ok (.iload 4, 2) := by decide +kernel
theorem dX2_join_60 : decode cX2_join 60 = .ok (.invokevirtual 60, 3) := by decide +kernel
theorem dX2_join_63 : decode cX2_join 63 = .ok (.ifCond .eq 15, 3) := by decide +kernel
theorem dX2_join_66 : decode cX2_join 66 = .ok (.aload_n 0, 1) := by decide +kernel
theorem dX2_join_67 : decode cX2_join 67 = .ok (.iload_n 3, 1) := by decide +kernel
theorem dX2_join_68 : decode cX2_join 68 = .ok (.iload 4, 2) := by decide +kernel
theorem dX2_join_70 : decode cX2_join 70 = .ok (.iload 5, 2) := by decide +kernel
theorem dX2_join_72 : decode cX2_join 72 = .ok (.invokevirtual 63, 3) := by decide +kernel
theorem dX2_join_75 : decode cX2_join 75 = .ok (.goto 12, 3) := by decide +kernel
theorem dX2_join_78 : decode cX2_join 78 = .ok (.aload_n 0, 1) := by decide +kernel
theorem dX2_join_79 : decode cX2_join 79 = .ok (.iload 4, 2) := by decide +kernel
theorem dX2_join_81 : decode cX2_join 81 = .ok (.iload_n 3, 1) := by decide +kernel
theorem dX2_join_82 : decode cX2_join 82 = .ok (.iload 5, 2) := by decide +kernel
theorem dX2_join_84 : decode cX2_join 84 = .ok (.invokevirtual 63, 3) := by decide +kernel
theorem dX2_join_87 : decode cX2_join 87 = .ok (.iconst 1, 1) := by decide +kernel
theorem dX2_join_88 : decode cX2_join 88 = .ok (.ireturn, 1) := by decide +kernel
theorem dX2_hangsBelow_0 : decode cX2_hangsBelow 0 = .ok (.aload_n 0, 1) := by decide +kernel
theorem dX2_hangsBelow_1 : decode cX2_hangsBelow 1 = .ok (.getfield 15, 3) := by decide +kernel
theorem dX2_hangsBelow_4 : decode cX2_hangsBelow 4 = .ok (.iload_n 1, 1) := by decide +kernel
theorem dX2_hangsBelow_5 : decode cX2_hangsBelow 5 = .ok (.iaload, 1) := by decide +kernel
theorem dX2_hangsBelow_6 : decode cX2_hangsBelow 6 = .ok (.aload_n 0, 1) := by decide +kernel
theorem dX2_hangsBelow_7 : decode cX2_hangsBelow 7 = .ok (.getfield 15, 3) := by decide +kernel
theorem dX2_hangsBelow_10 : decode cX2_hangsBelow 10 = .ok (.iload_n 2, 1) := by decide +kernel
theorem dX2_hangsBelow_11 : decode cX2_hangsBelow 11 = .ok (.iaload, 1) := by decide +kernel
theorem dX2_hangsBelow_12 : decode cX2_hangsBelow 12 = .ok (.if_icmp .lt 23, 3) := by decide +kernel
theorem dX2_hangsBelow_15 : decode cX2_hangsBelow 15 = .ok (.aload_n 0, 1) := by decide +kernel
theorem dX2_hangsBelow_16 : decode cX2_hangsBelow 16 = .ok (.getfield 15, 3) := by decide +kernel
theorem dX2_hangsBelow_19 : decode cX2_hangsBelow 19 = .ok (.iload_n 1, 1) := by decide +kernel
theorem dX2_hangsBelow_20 : decode cX2_hangsBelow 20 = .ok (.iaload, 1) := by decide +kernel
theorem dX2_hangsBelow_21 : decode cX2_hangsBelow 21 = .ok (.aload_n 0, 1) := by decide +kernel
theorem dX2_hangsBelow_22 : decode cX2_hangsBelow 22 = .ok (.getfield 15, 3) := by decide +kernel
theorem dX2_hangsBelow_25 : decode cX2_hangsBelow 25 = .ok (.iload_n 2, 1) := by decide +kernel
theorem dX2_hangsBelow_26 : decode cX2_hangsBelow 26 = .ok (.iaload, 1) := by decide +kernel
theorem dX2_hangsBelow_27 : decode cX2_hangsBelow 27 = .ok (.if_icmp .ne 12, 3) := by decide +kernel
theorem dX2_hangsBelow_30 : decode cX2_hangsBelow 30 = .ok (.iload_n 1, 1) := by decide +kernel
theorem dX2_hangsBelow_31 : decode cX2_hangsBelow 31 = .ok (.iload_n 2, 1) := by decide +kernel
theorem dX2_hangsBelow_32 : decode cX2_hangsBelow 32 = .ok (.if_icmp .le 7, 3) := by decide +kernel
theorem dX2_hangsBelow_35 : decode cX2_hangsBelow 35 = .ok (.iconst 1, 1) := by decide +kernel
theorem dX2_hangsBelow_36 : decode cX2_hangsBelow 36 = .ok (.goto 4, 3) := by decide +kernel
theorem dX2_hangsBelow_39 : decode cX2_hangsBelow 39 = .ok (.iconst 0, 1) := by decide +kernel
theorem dX2_hangsBelow_40 : decode cX2_hangsBelow 40 = .ok (.ireturn, 1) := by decide +kernel
theorem dX2_hang_0 : decode cX2_hang 0 = .ok (.aload_n 0, 1) := by decide +kernel
theorem dX2_hang_1 : decode cX2_hang 1 = .ok (.getfield 9, 3) := by decide +kernel
theorem dX2_hang_4 : decode cX2_hang 4 = .ok (.iload_n 1, 1) := by decide +kernel
theorem dX2_hang_5 : decode cX2_hang 5 = .ok (.iload_n 2, 1) := by decide +kernel
theorem dX2_hang_6 : decode cX2_hang 6 = .ok (.iastore, 1) := by decide +kernel
theorem dX2_hang_7 : decode cX2_hang 7 = .ok (.aload_n 0, 1) := by decide +kernel
theorem dX2_hang_8 : decode cX2_hang 8 = .ok (.getfield 15, 3) := by decide +kernel
theorem dX2_hang_11 : decode cX2_hang 11 = .ok (.iload_n 2, 1) := by decide +kernel
theorem dX2_hang_12 : decode cX2_hang 12 = .ok (.dup2, 1) := by decide +kernel
theorem dX2_hang_13 : decode cX2_hang 13 = .ok (.iaload, 1) := by decide +kernel
theorem dX2_hang_14 : decode cX2_hang 14 = .ok (.aload_n 0, 1) := by decide +kernel
theorem dX2_hang_15 : decode cX2_hang 15 = .ok (.getfield 15, 3) := by decide +kernel
theorem dX2_hang_18 : decode cX2_hang 18 = .ok (.iload_n 1, 1) := by decide +kernel
theorem dX2_hang_19 : decode cX2_hang 19 = .ok (.iaload, 1) := by decide +kernel
theorem dX2_hang_20 : decode cX2_hang 20 = .ok (.iadd, 1) := by decide +kernel
theorem dX2_hang_21 : decode cX2_hang 21 = .ok (.iastore, 1) := by decide +kernel
theorem dX2_hang_22 : decode cX2_hang 22 = .ok (.aload_n 0, 1) := by decide +kernel
theorem dX2_hang_23 : decode cX2_hang 23 = .ok (.getfield 18, 3) := by decide +kernel
theorem dX2_hang_26 : decode cX2_hang 26 = .ok (.iload_n 1, 1) := by decide +kernel
theorem dX2_hang_27 : decode cX2_hang 27 = .ok (.iload_n 3, 1) := by decide +kernel
theorem dX2_hang_28 : decode cX2_hang 28 = .ok (.iastore, 1) := by decide +kernel
theorem dX2_hang_29 : decode cX2_hang 29 = .ok (.aload_n 0, 1) := by decide +kernel
theorem dX2_hang_30 : decode cX2_hang 30 = .ok (.getfield 21, 3) := by decide +kernel
theorem dX2_hang_33 : decode cX2_hang 33 = .ok (.iload_n 2, 1) := by decide +kernel
theorem dX2_hang_34 : decode cX2_hang 34 = .ok (.dup2, 1) := by decide +kernel
theorem dX2_hang_35 : decode cX2_hang 35 = .ok (.baload, 1) := by decide +kernel
theorem dX2_hang_36 : decode cX2_hang 36 = .ok (.aload_n 0, 1) := by decide +kernel
theorem dX2_hang_37 : decode cX2_hang 37 = .ok (.getfield 21, 3) := by decide +kernel
theorem dX2_hang_40 : decode cX2_hang 40 = .ok (.iload_n 1, 1) := by decide +kernel
theorem dX2_hang_41 : decode cX2_hang 41 = .ok (.baload, 1) := by decide +kernel
theorem dX2_hang_42 : decode cX2_hang 42 = .ok (.ior, 1) := by decide +kernel
theorem dX2_hang_43 : decode cX2_hang 43 = .ok (.bastore, 1) := by decide +kernel
theorem dX2_hang_44 : decode cX2_hang 44 = .ok (.return_, 1) := by decide +kernel
theorem dX2_rootOf_0 : decode cX2_rootOf 0 = .ok (.iload_n 1, 1) := by decide +kernel
theorem dX2_rootOf_1 : decode cX2_rootOf 1 = .ok (.istore_n 2, 1) := by decide +kernel
theorem dX2_rootOf_2 : decode cX2_rootOf 2 = .ok (.iconst 0, 1) := by decide +kernel
theorem dX2_rootOf_3 : decode cX2_rootOf 3 = .ok (.istore_n 3, 1) := by decide +kernel
theorem dX2_rootOf_4 : decode cX2_rootOf 4 = .ok (.iload_n 3, 1) := by decide +kernel
theorem dX2_rootOf_5 : decode cX2_rootOf 5 = .ok (.bipush 8, 2) := by decide +kernel
theorem dX2_rootOf_7 : decode cX2_rootOf 7 = .ok (.if_icmp .ge 16, 3) := by decide +kernel
theorem dX2_rootOf_10 : decode cX2_rootOf 10 = .ok (.aload_n 0, 1) := by decide +kernel
theorem dX2_rootOf_11 : decode cX2_rootOf 11 = .ok (.getfield 9, 3) := by decide +kernel
theorem dX2_rootOf_14 : decode cX2_rootOf 14 = .ok (.iload_n 2, 1) := by decide +kernel
theorem dX2_rootOf_15 : decode cX2_rootOf 15 = .ok (.iaload, 1) := by decide +kernel
theorem dX2_rootOf_16 : decode cX2_rootOf 16 = .ok (.istore_n 2, 1) := by decide +kernel
theorem dX2_rootOf_17 : decode cX2_rootOf 17 = .ok (.iinc 3 1, 3) := by decide +kernel
theorem dX2_rootOf_20 : decode cX2_rootOf 20 = .ok (.goto (-16), 3) := by decide +kernel
theorem dX2_rootOf_23 : decode cX2_rootOf 23 = .ok (.iload_n 2, 1) := by decide +kernel
theorem dX2_rootOf_24 : decode cX2_rootOf 24 = .ok (.ireturn, 1) := by decide +kernel
theorem dX2_depthOf_0 : decode cX2_depthOf 0 = .ok (.iconst 0, 1) := by decide +kernel
theorem dX2_depthOf_1 : decode cX2_depthOf 1 = .ok (.istore_n 2, 1) := by decide +kernel
theorem dX2_depthOf_2 : decode cX2_depthOf 2 = .ok (.iload_n 1, 1) := by decide +kernel
theorem dX2_depthOf_3 : decode cX2_depthOf 3 = .ok (.istore_n 3, 1) := by decide +kernel
theorem dX2_depthOf_4 : decode cX2_depthOf 4 = .ok (.iconst 0, 1) := by decide +kernel
theorem dX2_depthOf_5 : decode cX2_depthOf 5 = .ok (.istore 4, 2) := by decide +kernel
theorem dX2_depthOf_7 : decode cX2_depthOf 7 = .ok (.iload 4, 2) := by decide +kernel
theorem dX2_depthOf_9 : decode cX2_depthOf 9 = .ok (.bipush 8, 2) := by decide +kernel
theorem dX2_depthOf_11 : decode cX2_depthOf 11 = .ok (.if_icmp .ge 29, 3) := by decide +kernel
theorem dX2_depthOf_14 : decode cX2_depthOf 14 = .ok (.aload_n 0, 1) := by decide +kernel
theorem dX2_depthOf_15 : decode cX2_depthOf 15 = .ok (.getfield 9, 3) := by decide +kernel
theorem dX2_depthOf_18 : decode cX2_depthOf 18 = .ok (.iload_n 3, 1) := by decide +kernel
theorem dX2_depthOf_19 : decode cX2_depthOf 19 = .ok (.iaload, 1) := by decide +kernel
theorem dX2_depthOf_20 : decode cX2_depthOf 20 = .ok (.iload_n 3, 1) := by decide +kernel
theorem dX2_depthOf_21 : decode cX2_depthOf 21 = .ok (.if_icmp .eq 19, 3) := by decide +kernel
theorem dX2_depthOf_24 : decode cX2_depthOf 24 = .ok (.aload_n 0, 1) := by decide +kernel
theorem dX2_depthOf_25 : decode cX2_depthOf 25 = .ok (.getfield 9, 3) := by decide +kernel
theorem dX2_depthOf_28 : decode cX2_depthOf 28 = .ok (.iload_n 3, 1) := by decide +kernel
theorem dX2_depthOf_29 : decode cX2_depthOf 29 = .ok (.iaload, 1) := by decide +kernel
theorem dX2_depthOf_30 : decode cX2_depthOf 30 = .ok (.istore_n 3, 1) := by decide +kernel
theorem dX2_depthOf_31 : decode cX2_depthOf 31 = .ok (.iinc 2 1, 3) := by decide +kernel
theorem dX2_depthOf_34 : decode cX2_depthOf 34 = .ok (.iinc 4 1, 3) := by decide +kernel
theorem dX2_depthOf_37 : decode cX2_depthOf 37 = .ok (.goto (-30), 3) := by decide +kernel
theorem dX2_depthOf_40 : decode cX2_depthOf 40 = .ok (.iload_n 2, 1) := by decide +kernel
theorem dX2_depthOf_41 : decode cX2_depthOf 41 = .ok (.ireturn, 1) := by decide +kernel
theorem dX2_turnOf_0 : decode cX2_turnOf 0 = .ok (.iconst 0, 1) := by decide +kernel
theorem dX2_turnOf_1 : decode cX2_turnOf 1 = .ok (.istore_n 2, 1) := by decide +kernel
theorem dX2_turnOf_2 : decode cX2_turnOf 2 = .ok (.iload_n 1, 1) := by decide +kernel
theorem dX2_turnOf_3 : decode cX2_turnOf 3 = .ok (.istore_n 3, 1) := by decide +kernel
theorem dX2_turnOf_4 : decode cX2_turnOf 4 = .ok (.iconst 0, 1) := by decide +kernel
theorem dX2_turnOf_5 : decode cX2_turnOf 5 = .ok (.istore 4, 2) := by decide +kernel
theorem dX2_turnOf_7 : decode cX2_turnOf 7 = .ok (.iload 4, 2) := by decide +kernel
theorem dX2_turnOf_9 : decode cX2_turnOf 9 = .ok (.bipush 8, 2) := by decide +kernel
theorem dX2_turnOf_11 : decode cX2_turnOf 11 = .ok (.if_icmp .ge 35, 3) := by decide +kernel
theorem dX2_turnOf_14 : decode cX2_turnOf 14 = .ok (.aload_n 0, 1) := by decide +kernel
theorem dX2_turnOf_15 : decode cX2_turnOf 15 = .ok (.getfield 9, 3) := by decide +kernel
theorem dX2_turnOf_18 : decode cX2_turnOf 18 = .ok (.iload_n 3, 1) := by decide +kernel
theorem dX2_turnOf_19 : decode cX2_turnOf 19 = .ok (.iaload, 1) := by decide +kernel
theorem dX2_turnOf_20 : decode cX2_turnOf 20 = .ok (.iload_n 3, 1) := by decide +kernel
theorem dX2_turnOf_21 : decode cX2_turnOf 21 = .ok (.if_icmp .eq 25, 3) := by decide +kernel
theorem dX2_turnOf_24 : decode cX2_turnOf 24 = .ok (.iload_n 2, 1) := by decide +kernel
theorem dX2_turnOf_25 : decode cX2_turnOf 25 = .ok (.aload_n 0, 1) := by decide +kernel
theorem dX2_turnOf_26 : decode cX2_turnOf 26 = .ok (.getfield 18, 3) := by decide +kernel
theorem dX2_turnOf_29 : decode cX2_turnOf 29 = .ok (.iload_n 3, 1) := by decide +kernel
theorem dX2_turnOf_30 : decode cX2_turnOf 30 = .ok (.iaload, 1) := by decide +kernel
theorem dX2_turnOf_31 : decode cX2_turnOf 31 = .ok (.ixor, 1) := by decide +kernel
theorem dX2_turnOf_32 : decode cX2_turnOf 32 = .ok (.istore_n 2, 1) := by decide +kernel
theorem dX2_turnOf_33 : decode cX2_turnOf 33 = .ok (.aload_n 0, 1) := by decide +kernel
theorem dX2_turnOf_34 : decode cX2_turnOf 34 = .ok (.getfield 9, 3) := by decide +kernel
theorem dX2_turnOf_37 : decode cX2_turnOf 37 = .ok (.iload_n 3, 1) := by decide +kernel
theorem dX2_turnOf_38 : decode cX2_turnOf 38 = .ok (.iaload, 1) := by decide +kernel
theorem dX2_turnOf_39 : decode cX2_turnOf 39 = .ok (.istore_n 3, 1) := by decide +kernel
theorem dX2_turnOf_40 : decode cX2_turnOf 40 = .ok (.iinc 4 1, 3) := by decide +kernel
theorem dX2_turnOf_43 : decode cX2_turnOf 43 = .ok (.goto (-36), 3) := by decide +kernel
theorem dX2_turnOf_46 : decode cX2_turnOf 46 = .ok (.iload_n 2, 1) := by decide +kernel
theorem dX2_turnOf_47 : decode cX2_turnOf 47 = .ok (.ireturn, 1) := by decide +kernel
theorem dX2_areJoined_0 : decode cX2_areJoined 0 = .ok (.aload_n 0, 1) := by decide +kernel
theorem dX2_areJoined_1 : decode cX2_areJoined 1 = .ok (.iload_n 1, 1) := by decide +kernel
theorem dX2_areJoined_2 : decode cX2_areJoined 2 = .ok (.invokevirtual 53, 3) := by decide +kernel
theorem dX2_areJoined_5 : decode cX2_areJoined 5 = .ok (.aload_n 0, 1) := by decide +kernel
theorem dX2_areJoined_6 : decode cX2_areJoined 6 = .ok (.iload_n 2, 1) := by decide +kernel
theorem dX2_areJoined_7 : decode cX2_areJoined 7 = .ok (.invokevirtual 53, 3) := by decide +kernel
theorem dX2_areJoined_10 : decode cX2_areJoined 10 = .ok (.if_icmp .ne 7, 3) := by decide +kernel
theorem dX2_areJoined_13 : decode cX2_areJoined 13 = .ok (.iconst 1, 1) := by decide +kernel
theorem dX2_areJoined_14 : decode cX2_areJoined 14 = .ok (.goto 4, 3) := by decide +kernel
theorem dX2_areJoined_17 : decode cX2_areJoined 17 = .ok (.iconst 0, 1) := by decide +kernel
theorem dX2_areJoined_18 : decode cX2_areJoined 18 = .ok (.ireturn, 1) := by decide +kernel
theorem dX2_parts_0 : decode cX2_parts 0 = .ok (.iconst 0, 1) := by decide +kernel
theorem dX2_parts_1 : decode cX2_parts 1 = .ok (.istore_n 1, 1) := by decide +kernel
theorem dX2_parts_2 : decode cX2_parts 2 = .ok (.iconst 0, 1) := by decide +kernel
theorem dX2_parts_3 : decode cX2_parts 3 = .ok (.istore_n 2, 1) := by decide +kernel
theorem dX2_parts_4 : decode cX2_parts 4 = .ok (.iload_n 2, 1) := by decide +kernel
theorem dX2_parts_5 : decode cX2_parts 5 = .ok (.bipush 8, 2) := by decide +kernel
theorem dX2_parts_7 : decode cX2_parts 7 = .ok (.if_icmp .ge 22, 3) := by decide +kernel
theorem dX2_parts_10 : decode cX2_parts 10 = .ok (.aload_n 0, 1) := by decide +kernel
theorem dX2_parts_11 : decode cX2_parts 11 = .ok (.getfield 9, 3) := by decide +kernel
theorem dX2_parts_14 : decode cX2_parts 14 = .ok (.iload_n 2, 1) := by decide +kernel
theorem dX2_parts_15 : decode cX2_parts 15 = .ok (.iaload, 1) := by decide +kernel
theorem dX2_parts_16 : decode cX2_parts 16 = .ok (.iload_n 2, 1) := by decide +kernel
theorem dX2_parts_17 : decode cX2_parts 17 = .ok (.if_icmp .ne 6, 3) := by decide +kernel
theorem dX2_parts_20 : decode cX2_parts 20 = .ok (.iinc 1 1, 3) := by decide +kernel
theorem dX2_parts_23 : decode cX2_parts 23 = .ok (.iinc 2 1, 3) := by decide +kernel
theorem dX2_parts_26 : decode cX2_parts 26 = .ok (.goto (-22), 3) := by decide +kernel
theorem dX2_parts_29 : decode cX2_parts 29 = .ok (.iload_n 1, 1) := by decide +kernel
theorem dX2_parts_30 : decode cX2_parts 30 = .ok (.ireturn, 1) := by decide +kernel
theorem dX2_oddParts_0 : decode cX2_oddParts 0 = .ok (.iconst 0, 1) := by decide +kernel
theorem dX2_oddParts_1 : decode cX2_oddParts 1 = .ok (.istore_n 1, 1) := by decide +kernel
theorem dX2_oddParts_2 : decode cX2_oddParts 2 = .ok (.iconst 0, 1) := by decide +kernel
theorem dX2_oddParts_3 : decode cX2_oddParts 3 = .ok (.istore_n 2, 1) := by decide +kernel
theorem dX2_oddParts_4 : decode cX2_oddParts 4 = .ok (.iload_n 2, 1) := by decide +kernel
theorem dX2_oddParts_5 : decode cX2_oddParts 5 = .ok (.bipush 8, 2) := by decide +kernel
theorem dX2_oddParts_7 : decode cX2_oddParts 7 = .ok (.if_icmp .ge 31, 3) := by decide +kernel
theorem dX2_oddParts_10 : decode cX2_oddParts 10 = .ok (.aload_n 0, 1) := by decide +kernel
theorem dX2_oddParts_11 : decode cX2_oddParts 11 = .ok (.getfield 9, 3) := by decide +kernel
theorem dX2_oddParts_14 : decode cX2_oddParts 14 = .ok (.iload_n 2, 1) := by decide +kernel
theorem dX2_oddParts_15 : decode cX2_oddParts 15 = .ok (.iaload, 1) := by decide +kernel
theorem dX2_oddParts_16 : decode cX2_oddParts 16 = .ok (.iload_n 2, 1) := by decide +kernel
theorem dX2_oddParts_17 : decode cX2_oddParts 17 = .ok (.if_icmp .ne 15, 3) := by decide +kernel
theorem dX2_oddParts_20 : decode cX2_oddParts 20 = .ok (.aload_n 0, 1) := by decide +kernel
theorem dX2_oddParts_21 : decode cX2_oddParts 21 = .ok (.getfield 21, 3) := by decide +kernel
theorem dX2_oddParts_24 : decode cX2_oddParts 24 = .ok (.iload_n 2, 1) := by decide +kernel
theorem dX2_oddParts_25 : decode cX2_oddParts 25 = .ok (.baload, 1) := by decide +kernel
theorem dX2_oddParts_26 : decode cX2_oddParts 26 = .ok (.ifCond .eq 6, 3) := by decide +kernel
theorem dX2_oddParts_29 : decode cX2_oddParts 29 = .ok (.iinc 1 1, 3) := by decide +kernel
theorem dX2_oddParts_32 : decode cX2_oddParts 32 = .ok (.iinc 2 1, 3) := by decide +kernel
theorem dX2_oddParts_35 : decode cX2_oddParts 35 = .ok (.goto (-31), 3) := by decide +kernel
theorem dX2_oddParts_38 : decode cX2_oddParts 38 = .ok (.iload_n 1, 1) := by decide +kernel
theorem dX2_oddParts_39 : decode cX2_oddParts 39 = .ok (.ireturn, 1) := by decide +kernel
theorem dX2_greatestDepth_0 : decode cX2_greatestDepth 0 = .ok (.iconst 0, 1) := by decide +kernel
theorem dX2_greatestDepth_1 : decode cX2_greatestDepth 1 = .ok (.istore_n 1, 1) := by decide +kernel
theorem dX2_greatestDepth_2 : decode cX2_greatestDepth 2 = .ok (.iconst 0, 1) := by decide +kernel
theorem dX2_greatestDepth_3 : decode cX2_greatestDepth 3 = .ok (.istore_n 2, 1) := by decide +kernel
theorem dX2_greatestDepth_4 : decode cX2_greatestDepth 4 = .ok (.iload_n 2, 1) := by decide +kernel
theorem dX2_greatestDepth_5 : decode cX2_greatestDepth 5 = .ok (.bipush 8, 2) := by decide +kernel
theorem dX2_greatestDepth_7 : decode cX2_greatestDepth 7 = .ok (.if_icmp .ge 19, 3) := by decide +kernel
theorem dX2_greatestDepth_10 : decode cX2_greatestDepth 10 = .ok (.iload_n 1, 1) := by decide +kernel
theorem dX2_greatestDepth_11 : decode cX2_greatestDepth 11 = .ok (.aload_n 0, 1) := by decide +kernel
theorem dX2_greatestDepth_12 : decode cX2_greatestDepth 12 = .ok (.iload_n 2, 1) := by decide +kernel
theorem dX2_greatestDepth_13 : decode cX2_greatestDepth 13 = .ok (.invokevirtual 67, 3) := by decide +kernel
theorem dX2_greatestDepth_16 : decode cX2_greatestDepth 16 = .ok (.invokestatic 70, 3) := by decide +kernel
theorem dX2_greatestDepth_19 : decode cX2_greatestDepth 19 = .ok (.istore_n 1, 1) := by decide +kernel
theorem dX2_greatestDepth_20 : decode cX2_greatestDepth 20 = .ok (.iinc 2 1, 3) := by decide +kernel
theorem dX2_greatestDepth_23 : decode cX2_greatestDepth 23 = .ok (.goto (-19), 3) := by decide +kernel
theorem dX2_greatestDepth_26 : decode cX2_greatestDepth 26 = .ok (.iload_n 1, 1) := by decide +kernel
theorem dX2_greatestDepth_27 : decode cX2_greatestDepth 27 = .ok (.ireturn, 1) := by decide +kernel
theorem dX2_greatestSize_0 : decode cX2_greatestSize 0 = .ok (.iconst 0, 1) := by decide +kernel
theorem dX2_greatestSize_1 : decode cX2_greatestSize 1 = .ok (.istore_n 1, 1) := by decide +kernel
theorem dX2_greatestSize_2 : decode cX2_greatestSize 2 = .ok (.iconst 0, 1) := by decide +kernel
theorem dX2_greatestSize_3 : decode cX2_greatestSize 3 = .ok (.istore_n 2, 1) := by decide +kernel
theorem dX2_greatestSize_4 : decode cX2_greatestSize 4 = .ok (.iload_n 2, 1) := by decide +kernel
theorem dX2_greatestSize_5 : decode cX2_greatestSize 5 = .ok (.bipush 8, 2) := by decide +kernel
theorem dX2_greatestSize_7 : decode cX2_greatestSize 7 = .ok (.if_icmp .ge 20, 3) := by decide +kernel
theorem dX2_greatestSize_10 : decode cX2_greatestSize 10 = .ok (.iload_n 1, 1) := by decide +kernel
theorem dX2_greatestSize_11 : decode cX2_greatestSize 11 = .ok (.aload_n 0, 1) := by decide +kernel
theorem dX2_greatestSize_12 : decode cX2_greatestSize 12 = .ok (.getfield 15, 3) := by decide +kernel
theorem dX2_greatestSize_15 : decode cX2_greatestSize 15 = .ok (.iload_n 2, 1) := by decide +kernel
theorem dX2_greatestSize_16 : decode cX2_greatestSize 16 = .ok (.iaload, 1) := by decide +kernel
theorem dX2_greatestSize_17 : decode cX2_greatestSize 17 = .ok (.invokestatic 70, 3) := by decide +kernel
theorem dX2_greatestSize_20 : decode cX2_greatestSize 20 = .ok (.istore_n 1, 1) := by decide +kernel
theorem dX2_greatestSize_21 : decode cX2_greatestSize 21 = .ok (.iinc 2 1, 3) := by decide +kernel
theorem dX2_greatestSize_24 : decode cX2_greatestSize 24 = .ok (.goto (-20), 3) := by decide +kernel
theorem dX2_greatestSize_27 : decode cX2_greatestSize 27 = .ok (.iload_n 1, 1) := by decide +kernel
theorem dX2_greatestSize_28 : decode cX2_greatestSize 28 = .ok (.ireturn, 1) := by decide +kernel
theorem dX3_init_0 : decode cX3_init 0 = .ok (.aload_n 0, 1) := by decide +kernel
theorem dX3_init_1 : decode cX3_init 1 = .ok (.invokespecial 3, 3) := by decide +kernel
theorem dX3_init_4 : decode cX3_init 4 = .ok (.aload_n 0, 1) := by decide +kernel
theorem dX3_init_5 : decode cX3_init 5 = .ok (.bipush 64, 2) := by decide +kernel
theorem dX3_init_7 : decode cX3_init 7 = .ok (.newarray .char, 2) := by decide +kernel
theorem dX3_init_9 : decode cX3_init 9 = .ok (.putfield 9, 3) := by decide +kernel
theorem dX3_init_12 : decode cX3_init 12 = .ok (.aload_n 0, 1) := by decide +kernel
theorem dX3_init_13 : decode cX3_init 13 = .ok (.bipush 8, 2) := by decide +kernel
theorem dX3_init_15 : decode cX3_init 15 = .ok (.newarray .int, 2) := by decide +kernel
theorem dX3_init_17 : decode cX3_init 17 = .ok (.putfield 15, 3) := by decide +kernel
theorem dX3_init_20 : decode cX3_init 20 = .ok (.aload_n 0, 1) := by decide +kernel
theorem dX3_init_21 : decode cX3_init 21 = .ok (.bipush 16, 2) := by decide +kernel
theorem dX3_init_23 : decode cX3_init 23 = .ok (.newarray .char, 2) := by decide +kernel
theorem dX3_init_25 : decode cX3_init 25 = .ok (.putfield 19, 3) := by decide +kernel
theorem dX3_init_28 : decode cX3_init 28 = .ok (.aload_n 0, 1) := by decide +kernel
theorem dX3_init_29 : decode cX3_init 29 = .ok (.bipush 16, 2) := by decide +kernel
theorem dX3_init_31 : decode cX3_init 31 = .ok (.newarray .int, 2) := by decide +kernel
theorem dX3_init_33 : decode cX3_init 33 = .ok (.putfield 22, 3) := by decide +kernel
theorem dX3_init_36 : decode cX3_init 36 = .ok (.aload_n 0, 1) := by decide +kernel
theorem dX3_init_37 : decode cX3_init 37 = .ok (.bipush 16, 2) := by decide +kernel
theorem dX3_init_39 : decode cX3_init 39 = .ok (.newarray .int, 2) := by decide +kernel
theorem dX3_init_41 : decode cX3_init 41 = .ok (.putfield 25, 3) := by decide +kernel
theorem dX3_init_44 : decode cX3_init 44 = .ok (.return_, 1) := by decide +kernel
theorem dX3_append_0 : decode cX3_append 0 = .ok (.aload_n 0, 1) := by decide +kernel
theorem dX3_append_1 : decode cX3_append 1 = .ok (.getfield 28, 3) := by decide +kernel
theorem dX3_append_4 : decode cX3_append 4 = .ok (.bipush 64, 2) := by decide +kernel
theorem dX3_append_6 : decode cX3_append 6 = .ok (.if_icmp .lt 6, 3) := by decide +kernel
theorem dX3_append_9 : decode cX3_append 9 = .ok (.bipush (-4), 2) := by decide +kernel
theorem dX3_append_11 : decode cX3_append 11 = .ok (.ireturn, 1) := by decide +kernel
theorem dX3_append_12 : decode cX3_append 12 = .ok (.aload_n 0, 1) := by decide +kernel
theorem dX3_append_13 : decode cX3_append 13 = .ok (.getfield 9, 3) := by decide +kernel
theorem dX3_append_16 : decode cX3_append 16 = .ok (.aload_n 0, 1) := by decide +kernel
theorem dX3_append_17 : decode cX3_append 17 = .ok (.getfield 28, 3) := by decide +kernel
theorem dX3_append_20 : decode cX3_append 20 = .ok (.iload_n 1, 1) := by decide +kernel
theorem dX3_append_21 : decode cX3_append 21 = .ok (.i2c, 1) := by decide +kernel
theorem dX3_append_22 : decode cX3_append 22 = .ok (.castore, 1) := by decide +kernel
theorem dX3_append_23 : decode cX3_append 23 = .ok (.aload_n 0, 1) := by decide +kernel
theorem dX3_append_24 : decode cX3_append 24 = .ok (.dup, 1) := by decide +kernel
theorem dX3_append_25 : decode cX3_append 25 = .ok (.getfield 28, 3) := by decide +kernel
theorem dX3_append_28 : decode cX3_append 28 = .ok (.iconst 1, 1) := by decide +kernel
theorem dX3_append_29 : decode cX3_append 29 = .ok (.iadd, 1) := by decide +kernel
theorem dX3_append_30 : decode cX3_append 30 = .ok (.putfield 28, 3) := by decide +kernel
theorem dX3_append_33 : decode cX3_append 33 = .ok (.aload_n 0, 1) := by decide +kernel
theorem dX3_append_34 : decode cX3_append 34 = .ok (.getfield 28, 3) := by decide +kernel
theorem dX3_append_37 : decode cX3_append 37 = .ok (.ireturn, 1) := by decide +kernel
theorem dX3_firstFault_0 : decode cX3_firstFault 0 = .ok (.aload_n 0, 1) := by decide +kernel
theorem dX3_firstFault_1 : decode cX3_firstFault 1 = .ok (.invokevirtual 32, 3) := by decide +kernel
theorem dX3_firstFault_4 : decode cX3_firstFault 4 = .ok (.aload_n 0, 1) := by decide +kernel
theorem dX3_firstFault_5 : decode cX3_firstFault 5 = .ok (.getfield 28, 3) := by decide +kernel
theorem dX3_firstFault_8 : decode cX3_firstFault 8 = .ok (.ifCond .eq 14, 3) := by decide +kernel
theorem dX3_firstFault_11 : decode cX3_firstFault 11 = .ok (.aload_n 0, 1) := by decide +kernel
theorem dX3_firstFault_12 : decode cX3_firstFault 12 = .ok (.getfield 9, 3) := by decide +kernel
theorem dX3_firstFault_15 : decode cX3_firstFault 15 = .ok (.iconst 0, 1) := by decide +kernel
theorem dX3_firstFault_16 : decode cX3_firstFault 16 = .ok (.caload, 1) := by decide +kernel
theorem dX3_firstFault_17 : decode cX3_firstFault 17 = .ok (.bipush 76, 2) := by decide +kernel
theorem dX3_firstFault_19 : decode cX3_firstFault 19 = .ok (.if_icmp .eq 5, 3) := by decide +kernel
theorem dX3_firstFault_22 : decode cX3_firstFault 22 = .ok (.iconst 0, 1) := by decide +kernel
theorem dX3_firstFault_23 : decode cX3_firstFault 23 = .ok (.ireturn, 1) := by decide +kernel
theorem dX3_firstFault_24 : decode cX3_firstFault 24 = .ok (.iconst 1, 1) := by decide +kernel
theorem dX3_firstFault_25 : decode cX3_firstFault 25 = .ok (.istore_n 1, 1) := by decide +kernel
theorem dX3_firstFault_26 : decode cX3_firstFault 26 = .ok (.aload_n 0, 1) := by decide +kernel
theorem dX3_firstFault_27 : decode cX3_firstFault 27 = .ok (.iconst 0, 1) := by decide +kernel
theorem dX3_firstFault_28 : decode cX3_firstFault 28 = .ok (.putfield 35, 3) := by decide +kernel
theorem dX3_firstFault_31 : decode cX3_firstFault 31 = .ok (.aload_n 0, 1) := by decide +kernel
theorem dX3_firstFault_32 : decode cX3_firstFault 32 = .ok (.getfield 35, 3) := by decide +kernel
theorem dX3_firstFault_35 : decode cX3_firstFault 35 = .ok (.bipush 16, 2) := by decide +kernel
theorem dX3_firstFault_37 : decode cX3_firstFault 37 = .ok (.if_icmp .ge 62, 3) := by decide +kernel
theorem dX3_firstFault_40 : decode cX3_firstFault 40 = .ok (.iload_n 1, 1) := by decide +kernel
theorem dX3_firstFault_41 : decode cX3_firstFault 41 = .ok (.aload_n 0, 1) := by decide +kernel
theorem dX3_firstFault_42 : decode cX3_firstFault 42 = .ok (.getfield 28, 3) := by decide +kernel
theorem dX3_firstFault_45 : decode cX3_firstFault 45 = .ok (.if_icmp .ge 54, 3) := by decide +kernel
theorem dX3_firstFault_48 : decode cX3_firstFault 48 = .ok (.aload_n 0, 1) := by decide +kernel
theorem dX3_firstFault_49 : decode cX3_firstFault 49 = .ok (.iload_n 1, 1) := by decide +kernel
theorem dX3_firstFault_50 : decode cX3_firstFault 50 = .ok (.invokevirtual 38, 3) := by decide +kernel
theorem dX3_firstFault_53 : decode cX3_firstFault 53 = .ok (.istore_n 2, 1) := by decide +kernel
theorem dX3_firstFault_54 : decode cX3_firstFault 54 = .ok (.iload_n 2, 1) := by decide +kernel
theorem dX3_firstFault_55 : decode cX3_firstFault 55 = .ok (.bipush (-9), 2) := by decide +kernel
theorem dX3_firstFault_57 : decode cX3_firstFault 57 = .ok (.if_icmp .eq 5, 3) := by decide +kernel
theorem dX3_firstFault_60 : decode cX3_firstFault 60 = .ok (.iload_n 2, 1) := by decide +kernel
theorem dX3_firstFault_61 : decode cX3_firstFault 61 = .ok (.ireturn, 1) := by decide +kernel
theorem dX3_firstFault_62 : decode cX3_firstFault 62 = .ok (.aload_n 0, 1) := by decide +kernel
theorem dX3_firstFault_63 : decode cX3_firstFault 63 = .ok (.iload_n 1, 1) := by decide +kernel
theorem dX3_firstFault_64 : decode cX3_firstFault 64 = .ok (.invokevirtual 42, 3) := by decide +kernel
theorem dX3_firstFault_67 : decode cX3_firstFault 67 = .ok (.iload_n 1, 1) := by decide +kernel
theorem dX3_firstFault_68 : decode cX3_firstFault 68 = .ok (.aload_n 0, 1) := by decide +kernel
theorem dX3_firstFault_69 : decode cX3_firstFault 69 = .ok (.getfield 9, 3) := by decide +kernel
theorem dX3_firstFault_72 : decode cX3_firstFault 72 = .ok (.iload_n 1, 1) := by decide +kernel
theorem dX3_firstFault_73 : decode cX3_firstFault 73 = .ok (.caload, 1) := by decide +kernel
theorem dX3_firstFault_74 : decode cX3_firstFault 74 = .ok (.bipush 46, 2) := by decide +kernel
theorem dX3_firstFault_76 : decode cX3_firstFault 76 = .ok (.if_icmp .ne 7, 3) := by decide +kernel
theorem dX3_firstFault_79 : decode cX3_firstFault 79 = .ok (.iconst 1, 1) := by decide +kernel
theorem dX3_firstFault_80 : decode cX3_firstFault 80 = .ok (.goto 4, 3) := by decide +kernel
theorem dX3_firstFault_83 : decode cX3_firstFault 83 = .ok (.iconst 3, 1) := by decide +kernel
theorem dX3_firstFault_84 : decode cX3_firstFault 84 = .ok (.iadd, 1) := by decide +kernel
theorem dX3_firstFault_85 : decode cX3_firstFault 85 = .ok (.istore_n 1, 1) := by decide +kernel
theorem dX3_firstFault_86 : decode cX3_firstFault 86 = .ok (.aload_n 0, 1) := by decide +kernel
theorem dX3_firstFault_87 : decode cX3_firstFault 87 = .ok (.dup, 1) := by decide +kernel
theorem dX3_firstFault_88 : decode cX3_firstFault 88 = .ok (.getfield 35, 3) := by decide +kernel
theorem dX3_firstFault_91 : decode cX3_firstFault 91 = .ok (.iconst 1, 1) := by decide +kernel
theorem dX3_firstFault_92 : decode cX3_firstFault 92 = .ok (.iadd, 1) := by decide +kernel
theorem dX3_firstFault_93 : decode cX3_firstFault 93 = .ok (.putfield 35, 3) := by decide +kernel
theorem dX3_firstFault_96 : decode cX3_firstFault 96 = .ok (.goto (-65), 3) := by decide +kernel
theorem dX3_firstFault_99 : decode cX3_firstFault 99 = .ok (.iload_n 1, 1) := by decide +kernel
theorem dX3_firstFault_100 : decode cX3_firstFault 100 = .ok (.aload_n 0, 1) := by decide +kernel
theorem dX3_firstFault_101 : decode cX3_firstFault 101 = .ok (.getfield 28, 3) := by decide +kernel
theorem dX3_firstFault_104 : decode cX3_firstFault 104 = .ok (.if_icmp .ge 7, 3) := by decide +kernel
theorem dX3_firstFault_107 : decode cX3_firstFault 107 = .ok (.iload_n 1, 1) := by decide +kernel
theorem dX3_firstFault_108 : decode cX3_firstFault 108 = .ok (.goto 5, 3) := by decide +kernel
theorem dX3_firstFault_111 : decode cX3_firstFault 111 = .ok (.bipush (-9), 2) := by decide +kernel
theorem dX3_firstFault_113 : decode cX3_firstFault 113 = .ok (.ireturn, 1) := by decide +kernel
theorem dX3_forgetLinks_0 : decode cX3_forgetLinks 0 = .ok (.aload_n 0, 1) := by decide +kernel
theorem dX3_forgetLinks_1 : decode cX3_forgetLinks 1 = .ok (.iconst 0, 1) := by decide +kernel
theorem dX3_forgetLinks_2 : decode cX3_forgetLinks 2 = .ok (.putfield 46, 3) := by decide +kernel
theorem dX3_forgetLinks_5 : decode cX3_forgetLinks 5 = .ok (.iconst 0, 1) := by decide +kernel
theorem dX3_forgetLinks_6 : decode cX3_forgetLinks 6 = .ok (.istore_n 1, 1) := by decide +kernel
theorem dX3_forgetLinks_7 : decode cX3_forgetLinks 7 = .ok (.iload_n 1, 1) := by decide +kernel
theorem dX3_forgetLinks_8 : decode cX3_forgetLinks 8 = .ok (.bipush 8, 2) := by decide +kernel
theorem dX3_forgetLinks_10 : decode cX3_forgetLinks 10 = .ok (.if_icmp .ge 16, 3) := by decide +kernel
theorem dX3_forgetLinks_13 : decode cX3_forgetLinks 13 = .ok (.aload_n 0, 1) := by decide +kernel
theorem dX3_forgetLinks_14 : decode cX3_forgetLinks 14 = .ok (.getfield 15, 3) := by decide +kernel
theorem dX3_forgetLinks_17 : decode cX3_forgetLinks 17 = .ok (.iload_n 1, 1) := by decide +kernel
theorem dX3_forgetLinks_18 : decode cX3_forgetLinks 18 = .ok (.iconst 0, 1) := by decide +kernel
theorem dX3_forgetLinks_19 : decode cX3_forgetLinks 19 = .ok (.iastore, 1) := by decide +kernel
theorem dX3_forgetLinks_20 : decode cX3_forgetLinks 20 = .ok (.iinc 1 1, 3) := by decide +kernel
theorem dX3_forgetLinks_23 : decode cX3_forgetLinks 23 = .ok (.goto (-16), 3) := by decide +kernel
theorem dX3_forgetLinks_26 : decode cX3_forgetLinks 26 = .ok (.return_, 1) := by decide +kernel
theorem dX3_faultOfEvent_0 : decode cX3_faultOfEvent 0 = .ok (.aload_n 0, 1) := by decide +kernel
theorem dX3_faultOfEvent_1 : decode cX3_faultOfEvent 1 = .ok (.getfield 9, 3) := by decide +kernel
theorem dX3_faultOfEvent_4 : decode cX3_faultOfEvent 4 = .ok (.iload_n 1, 1) := by decide +kernel
theorem dX3_faultOfEvent_5 : decode cX3_faultOfEvent 5 = .ok (.caload, 1) := by decide +kernel
theorem dX3_faultOfEvent_6 : decode cX3_faultOfEvent 6 = .ok (.istore_n 2, 1) := by decide +kernel
theorem dX3_faultOfEvent_7 : decode cX3_faultOfEvent 7 = .ok (.iload_n 2, 1) := by decide +kernel
theorem dX3_faultOfEvent_8 : decode cX3_faultOfEvent 8 = .ok (.bipush 46, 2) := by decide +kernel
theorem dX3_faultOfEvent_10 : decode cX3_faultOfEvent 10 = .ok (.if_icmp .ne 6, 3) := by decide +kernel
theorem dX3_faultOfEvent_13 : decode cX3_faultOfEvent 13 = .ok (.bipush (-9), 2) := by decide +kernel
theorem dX3_faultOfEvent_15 : decode cX3_faultOfEvent 15 = .ok (.ireturn, 1) := by decide +kernel
theorem dX3_faultOfEvent_16 : decode cX3_faultOfEvent 16 = .ok (.iload_n 2, 1) := by decide +kernel
theorem dX3_faultOfEvent_17 : decode cX3_faultOfEvent 17 = .ok (.bipush 43, 2) := by decide +kernel
theorem dX3_faultOfEvent_19 : decode cX3_faultOfEvent 19 = .ok (.if_icmp .eq 18, 3) := by decide +kernel
theorem dX3_faultOfEvent_22 : decode cX3_faultOfEvent 22 = .ok (.iload_n 2, 1) := by decide +kernel
theorem dX3_faultOfEvent_23 : decode cX3_faultOfEvent 23 = .ok (.bipush 45, 2) := by decide +kernel
theorem dX3_faultOfEvent_25 : decode cX3_faultOfEvent 25 = .ok (.if_icmp .ne 10, 3) := by decide +kernel
theorem dX3_faultOfEvent_28 : decode cX3_faultOfEvent 28 = .ok (.aload_n 0, 1) := by decide +kernel
theorem dX3_faultOfEvent_29 : decode cX3_faultOfEvent 29 = .ok (.getfield 46, 3) := by decide +kernel
theorem dX3_faultOfEvent_32 : decode cX3_faultOfEvent 32 = .ok (.ifCond .ne 5, 3) := by decide +kernel
theorem dX3_faultOfEvent_35 : decode cX3_faultOfEvent 35 = .ok (.iload_n 1, 1) := by decide +kernel
theorem dX3_faultOfEvent_36 : decode cX3_faultOfEvent 36 = .ok (.ireturn, 1) := by decide +kernel
theorem dX3_faultOfEvent_37 : decode cX3_faultOfEvent 37 = .ok (.iload_n 1, 1) := by decide +kernel
theorem dX3_faultOfEvent_38 : decode cX3_faultOfEvent 38 = .ok (.iconst 1, 1) := by decide +kernel
theorem dX3_faultOfEvent_39 : decode cX3_faultOfEvent 39 = .ok (.iadd, 1) := by decide +kernel
theorem dX3_faultOfEvent_40 : decode cX3_faultOfEvent 40 = .ok (.aload_n 0, 1) := by decide +kernel
theorem dX3_faultOfEvent_41 : decode cX3_faultOfEvent 41 = .ok (.getfield 28, 3) := by decide +kernel
theorem dX3_faultOfEvent_44 : decode cX3_faultOfEvent 44 = .ok (.if_icmp .lt 8, 3) := by decide +kernel
theorem dX3_faultOfEvent_47 : decode cX3_faultOfEvent 47 = .ok (.aload_n 0, 1) := by decide +kernel
theorem dX3_faultOfEvent_48 : decode cX3_faultOfEvent 48 = .ok (.getfield 28, 3) := by decide +kernel
theorem dX3_faultOfEvent_51 : decode cX3_faultOfEvent 51 = .ok (.ireturn, 1) := by decide +kernel
theorem dX3_faultOfEvent_52 : decode cX3_faultOfEvent 52 = .ok (.aload_n 0, 1) := by decide +kernel
theorem dX3_faultOfEvent_53 : decode cX3_faultOfEvent 53 = .ok (.getfield 9, 3) := by decide +kernel
theorem dX3_faultOfEvent_56 : decode cX3_faultOfEvent 56 = .ok (.iload_n 1, 1) := by decide +kernel
theorem dX3_faultOfEvent_57 : decode cX3_faultOfEvent 57 = .ok (.iconst 1, 1) := by decide +kernel
theorem dX3_faultOfEvent_58 : decode cX3_faultOfEvent 58 = .ok (.iadd, 1) := by decide +kernel
theorem dX3_faultOfEvent_59 : decode cX3_faultOfEvent 59 = .ok (.caload, 1) := by decide +kernel
theorem dX3_faultOfEvent_60 : decode cX3_faultOfEvent 60 = .ok (.bipush 48, 2) := by decide +kernel
theorem dX3_faultOfEvent_62 : decode cX3_faultOfEvent 62 = .ok (.isub, 1) := by decide +kernel
theorem dX3_faultOfEvent_63 : decode cX3_faultOfEvent 63 = .ok (.istore_n 3, 1) := by decide +kernel
theorem dX3_faultOfEvent_64 : decode cX3_faultOfEvent 64 = .ok (.iload_n 3, 1) := by decide +kernel
theorem dX3_faultOfEvent_65 : decode cX3_faultOfEvent 65 = .ok (.invokestatic 49, 3) := by decide +kernel
theorem dX3_faultOfEvent_68 : decode cX3_faultOfEvent 68 = .ok (.ifCond .eq 12, 3) := by decide +kernel
theorem dX3_faultOfEvent_71 : decode cX3_faultOfEvent 71 = .ok (.aload_n 0, 1) := by decide +kernel
theorem dX3_faultOfEvent_72 : decode cX3_faultOfEvent 72 = .ok (.iload_n 3, 1) := by decide +kernel
theorem dX3_faultOfEvent_73 : decode cX3_faultOfEvent 73 = .ok (.iload_n 2, 1) := by decide +kernel
theorem dX3_faultOfEvent_74 : decode cX3_faultOfEvent 74 = .ok (.invokevirtual 53, 3) := by decide +kernel
theorem dX3_faultOfEvent_77 : decode cX3_faultOfEvent 77 = .ok (.ifCond .ne 7, 3) := by decide +kernel
theorem dX3_faultOfEvent_80 : decode cX3_faultOfEvent 80 = .ok (.iload_n 1, 1) := by decide +kernel
theorem dX3_faultOfEvent_81 : decode cX3_faultOfEvent 81 = .ok (.iconst 1, 1) := by decide +kernel
theorem dX3_faultOfEvent_82 : decode cX3_faultOfEvent 82 = .ok (.iadd, 1) := by decide +kernel
theorem dX3_faultOfEvent_83 : decode cX3_faultOfEvent 83 = .ok (.ireturn, 1) := by decide +kernel
theorem dX3_faultOfEvent_84 : decode cX3_faultOfEvent 84 = .ok (.iload_n 1, 1) := by decide +kernel
theorem dX3_faultOfEvent_85 : decode cX3_faultOfEvent 85 = .ok (.iconst 2, 1) := by decide +kernel
theorem dX3_faultOfEvent_86 : decode cX3_faultOfEvent 86 = .ok (.iadd, 1) := by decide +kernel
theorem dX3_faultOfEvent_87 : decode cX3_faultOfEvent 87 = .ok (.aload_n 0, 1) := by decide +kernel
theorem dX3_faultOfEvent_88 : decode cX3_faultOfEvent 88 = .ok (.getfield 28, 3) := by decide +kernel
theorem dX3_faultOfEvent_91 : decode cX3_faultOfEvent 91 = .ok (.if_icmp .lt 8, 3) := by decide +kernel
theorem dX3_faultOfEvent_94 : decode cX3_faultOfEvent 94 = .ok (.aload_n 0, 1) := by decide +kernel
theorem dX3_faultOfEvent_95 : decode cX3_faultOfEvent 95 = .ok (.getfield 28, 3) := by decide +kernel
theorem dX3_faultOfEvent_98 : decode cX3_faultOfEvent 98 = .ok (.ireturn, 1) := by decide +kernel
theorem dX3_faultOfEvent_99 : decode cX3_faultOfEvent 99 = .ok (.aload_n 0, 1) := by decide +kernel
theorem dX3_faultOfEvent_100 : decode cX3_faultOfEvent 100 = .ok (.getfield 9, 3) := by decide +kernel
theorem dX3_faultOfEvent_103 : decode cX3_faultOfEvent 103 = .ok (.iload_n 1, 1) := by decide +kernel
theorem dX3_faultOfEvent_104 : decode cX3_faultOfEvent 104 = .ok (.iconst 2, 1) := by decide +kernel
theorem dX3_faultOfEvent_105 : decode cX3_faultOfEvent 105 = .ok (.iadd, 1) := by decide +kernel
theorem dX3_faultOfEvent_106 : decode cX3_faultOfEvent 106 = .ok (.caload, 1) := by decide +kernel
theorem dX3_faultOfEvent_107 : decode cX3_faultOfEvent 107 = .ok (.bipush 48, 2) := by decide +kernel
theorem dX3_faultOfEvent_109 : decode cX3_faultOfEvent 109 = .ok (.isub, 1) := by decide +kernel
theorem dX3_faultOfEvent_110 : decode cX3_faultOfEvent 110 = .ok (.istore 4, 2) := by decide +kernel
theorem dX3_faultOfEvent_112 : decode cX3_faultOfEvent 112 = .ok (.iload 4, 2) := by decide +kernel
theorem dX3_faultOfEvent_114 : decode cX3_faultOfEvent 114 = .ok (.invokestatic 49, 3) := by decide +kernel
theorem dX3_faultOfEvent_117 : decode cX3_faultOfEvent 117 = .ok (.ifCond .eq 22, 3) := by decide +kernel
theorem dX3_faultOfEvent_120 : decode cX3_faultOfEvent 120 = .ok (.aload_n 0, 1) := by decide +kernel
theorem dX3_faultOfEvent_121 : decode cX3_faultOfEvent 121 = .ok (.iload_n 3, 1) := by decide +kernel
theorem dX3_faultOfEvent_122 : decode cX3_faultOfEvent 122 = .ok (.iload_n 2, 1) := by decide +kernel
theorem dX3_faultOfEvent_123 : decode cX3_faultOfEvent 123 = .ok (.invokevirtual 53, 3) := by decide +kernel
theorem dX3_faultOfEvent_126 : decode cX3_faultOfEvent 126 = .ok (.iload 4, 2) := by decide +kernel
theorem dX3_faultOfEvent_128 : decode cX3_faultOfEvent 128 = .ok (.ishr, 1) := by decide +kernel
theorem dX3_faultOfEvent_129 : decode cX3_faultOfEvent 129 = .ok (.iconst 1, 1) := by decide +kernel
theorem dX3_faultOfEvent_130 : decode cX3_faultOfEvent 130 = .ok (.iand, 1) := by decide +kernel
theorem dX3_faultOfEvent_131 : decode cX3_faultOfEvent 131 = .ok (.ifCond .eq 8, 3) := by decide +kernel
theorem dX3_faultOfEvent_134 : decode cX3_faultOfEvent 134 = .ok (.bipush (-9), 2) := by decide +kernel
theorem dX3_faultOfEvent_136 : decode cX3_faultOfEvent 136 = .ok (.goto 6, 3) := by decide +kernel
theorem dX3_faultOfEvent_139 : decode cX3_faultOfEvent 139 = .ok (.iload_n 1, 1) := by decide +kernel
theorem dX3_faultOfEvent_140 : decode cX3_faultOfEvent 140 = .ok (.iconst 2, 1) := by decide +kernel
theorem dX3_faultOfEvent_141 : decode cX3_faultOfEvent 141 = .ok (.iadd, 1) := by decide +kernel
theorem dX3_faultOfEvent_142 : decode cX3_faultOfEvent 142 = .ok (.ireturn, 1) := by decide +kernel
theorem dX3_partners_0 : decode cX3_partners 0 = .ok (.sipush 255, 3) := by decide +kernel
theorem dX3_partners_3 : decode cX3_partners 3 = .ok (.iconst 1, 1) := by decide +kernel
theorem dX3_partners_4 : decode cX3_partners 4 = .ok (.iload_n 1, 1) := by decide +kernel
theorem dX3_partners_5 : decode cX3_partners 5 = .ok (.ishl, 1) := by decide +kernel
theorem dX3_partners_6 : decode cX3_partners 6 = .ok (.ixor, 1) := by decide +kernel
theorem dX3_partners_7 : decode cX3_partners 7 = .ok (.istore_n 3, 1) := by decide +kernel
theorem dX3_partners_8 : decode cX3_partners 8 = .ok (.iload_n 2, 1) := by decide +kernel
theorem dX3_partners_9 : decode cX3_partners 9 = .ok (.bipush 43, 2) := by decide +kernel
theorem dX3_partners_11 : decode cX3_partners 11 = .ok (.if_icmp .ne 16, 3) := by decide +kernel
theorem dX3_partners_14 : decode cX3_partners 14 = .ok (.iload_n 3, 1) := by decide +kernel
theorem dX3_partners_15 : decode cX3_partners 15 = .ok (.aload_n 0, 1) := by decide +kernel
theorem dX3_partners_16 : decode cX3_partners 16 = .ok (.getfield 15, 3) := by decide +kernel
theorem dX3_partners_19 : decode cX3_partners 19 = .ok (.iload_n 1, 1) := by decide +kernel
theorem dX3_partners_20 : decode cX3_partners 20 = .ok (.iaload, 1) := by decide +kernel
theorem dX3_partners_21 : decode cX3_partners 21 = .ok (.iconst (-1), 1) := by decide +kernel
theorem dX3_partners_22 : decode cX3_partners 22 = .ok (.ixor, 1) := by decide +kernel
theorem dX3_partners_23 : decode cX3_partners 23 = .ok (.iand, 1) := by decide +kernel
theorem dX3_partners_24 : decode cX3_partners 24 = .ok (.goto 9, 3) := by decide +kernel
theorem dX3_partners_27 : decode cX3_partners 27 = .ok (.aload_n 0, 1) := by decide +kernel
theorem dX3_partners_28 : decode cX3_partners 28 = .ok (.getfield 15, 3) := by decide +kernel
theorem dX3_partners_31 : decode cX3_partners 31 = .ok (.iload_n 1, 1) := by decide +kernel
theorem dX3_partners_32 : decode cX3_partners 32 = .ok (.iaload, 1) := by decide +kernel
theorem dX3_partners_33 : decode cX3_partners 33 = .ok (.ireturn, 1) := by decide +kernel
theorem dX3_takeEvent_0 : decode cX3_takeEvent 0 = .ok (.aload_n 0, 1) := by decide +kernel
theorem dX3_takeEvent_1 : decode cX3_takeEvent 1 = .ok (.getfield 9, 3) := by decide +kernel
theorem dX3_takeEvent_4 : decode cX3_takeEvent 4 = .ok (.iload_n 1, 1) := by decide +kernel
theorem dX3_takeEvent_5 : decode cX3_takeEvent 5 = .ok (.caload, 1) := by decide +kernel
theorem dX3_takeEvent_6 : decode cX3_takeEvent 6 = .ok (.istore_n 2, 1) := by decide +kernel
theorem dX3_takeEvent_7 : decode cX3_takeEvent 7 = .ok (.aload_n 0, 1) := by decide +kernel
theorem dX3_takeEvent_8 : decode cX3_takeEvent 8 = .ok (.getfield 19, 3) := by decide +kernel
theorem dX3_takeEvent_11 : decode cX3_takeEvent 11 = .ok (.aload_n 0, 1) := by decide +kernel
theorem dX3_takeEvent_12 : decode cX3_takeEvent 12 = .ok (.getfield 35, 3) := by decide +kernel
theorem dX3_takeEvent_15 : decode cX3_takeEvent 15 = .ok (.iload_n 2, 1) := by decide +kernel
theorem dX3_takeEvent_16 : decode cX3_takeEvent 16 = .ok (.castore, 1) := by decide +kernel
theorem dX3_takeEvent_17 : decode cX3_takeEvent 17 = .ok (.iload_n 2, 1) := by decide +kernel
theorem dX3_takeEvent_18 : decode cX3_takeEvent 18 = .ok (.bipush 46, 2) := by decide +kernel
theorem dX3_takeEvent_20 : decode cX3_takeEvent 20 = .ok (.if_icmp .eq 95, 3) := by decide +kernel
theorem dX3_takeEvent_23 : decode cX3_takeEvent 23 = .ok (.aload_n 0, 1) := by decide +kernel
theorem dX3_takeEvent_24 : decode cX3_takeEvent 24 = .ok (.getfield 9, 3) := by decide +kernel
theorem dX3_takeEvent_27 : decode cX3_takeEvent 27 = .ok (.iload_n 1, 1) := by decide +kernel
theorem dX3_takeEvent_28 : decode cX3_takeEvent 28 = .ok (.iconst 1, 1) := by decide +kernel
theorem dX3_takeEvent_29 : decode cX3_takeEvent 29 = .ok (.iadd, 1) := by decide +kernel
theorem dX3_takeEvent_30 : decode cX3_takeEvent 30 = .ok (.caload, 1) := by decide +kernel
theorem dX3_takeEvent_31 : decode cX3_takeEvent 31 = .ok (.bipush 48, 2) := by decide +kernel
theorem dX3_takeEvent_33 : decode cX3_takeEvent 33 = .ok (.isub, 1) := by decide +kernel
theorem dX3_takeEvent_34 : decode cX3_takeEvent 34 = .ok (.istore_n 3, 1) := by decide +kernel
theorem dX3_takeEvent_35 : decode cX3_takeEvent 35 = .ok (.aload_n 0, 1) := by decide +kernel
theorem dX3_takeEvent_36 : decode cX3_takeEvent 36 = .ok (.getfield 9, 3) := by decide +kernel
theorem dX3_takeEvent_39 : decode cX3_takeEvent 39 = .ok (.iload_n 1, 1) := by decide +kernel
theorem dX3_takeEvent_40 : decode cX3_takeEvent 40 = .ok (.iconst 2, 1) := by decide +kernel
theorem dX3_takeEvent_41 : decode cX3_takeEvent 41 = .ok (.iadd, 1) := by decide +kernel
theorem dX3_takeEvent_42 : decode cX3_takeEvent 42 = .ok (.caload, 1) := by decide +kernel
theorem dX3_takeEvent_43 : decode cX3_takeEvent 43 = .ok (.bipush 48, 2) := by decide +kernel
theorem dX3_takeEvent_45 : decode cX3_takeEvent 45 = .ok (.isub, 1) := by decide +kernel
theorem dX3_takeEvent_46 : decode cX3_takeEvent 46 = .ok (.istore 4, 2) := by decide +kernel
theorem dX3_takeEvent_48 : decode cX3_takeEvent 48 = .ok (.aload_n 0, 1) := by decide +kernel
theorem dX3_takeEvent_49 : decode cX3_takeEvent 49 = .ok (.getfield 15, 3) := by decide +kernel
theorem dX3_takeEvent_52 : decode cX3_takeEvent 52 = .ok (.iload_n 3, 1) := by decide +kernel
theorem dX3_takeEvent_53 : decode cX3_takeEvent 53 = .ok (.dup2, 1) := by decide +kernel
theorem dX3_takeEvent_54 : decode cX3_takeEvent 54 = .ok (.iaload, 1) := by decide +kernel
theorem dX3_takeEvent_55 : decode cX3_takeEvent 55 = .ok (.iconst 1, 1) := by decide +kernel
theorem dX3_takeEvent_56 : decode cX3_takeEvent 56 = .ok (.iload 4, 2) := by decide +kernel
theorem dX3_takeEvent_58 : decode cX3_takeEvent 58 = .ok (.ishl, 1) := by decide +kernel
theorem dX3_takeEvent_59 : decode cX3_takeEvent 59 = .ok (.ixor, 1) := by decide +kernel
theorem dX3_takeEvent_60 : decode cX3_takeEvent 60 = .ok (.iastore, 1) := by decide +kernel
theorem dX3_takeEvent_61 : decode cX3_takeEvent 61 = .ok (.aload_n 0, 1) := by decide +kernel
theorem dX3_takeEvent_62 : decode cX3_takeEvent 62 = .ok (.getfield 15, 3) := by decide +kernel
theorem dX3_takeEvent_65 : decode cX3_takeEvent 65 = .ok (.iload 4, 2) := by decide +kernel
theorem dX3_takeEvent_67 : decode cX3_takeEvent 67 = .ok (.dup2, 1) := by decide +kernel
theorem dX3_takeEvent_68 : decode cX3_takeEvent 68 = .ok (.iaload, 1) := by decide +kernel
theorem dX3_takeEvent_69 : decode cX3_takeEvent 69 = .ok (.iconst 1, 1) := by decide +kernel
theorem dX3_takeEvent_70 : decode cX3_takeEvent 70 = .ok (.iload_n 3, 1) := by decide +kernel
theorem dX3_takeEvent_71 : decode cX3_takeEvent 71 = .ok (.ishl, 1) := by decide +kernel
theorem dX3_takeEvent_72 : decode cX3_takeEvent 72 = .ok (.ixor, 1) := by decide +kernel
theorem dX3_takeEvent_73 : decode cX3_takeEvent 73 = .ok (.iastore, 1) := by decide +kernel
theorem dX3_takeEvent_74 : decode cX3_takeEvent 74 = .ok (.aload_n 0, 1) := by decide +kernel
theorem dX3_takeEvent_75 : decode cX3_takeEvent 75 = .ok (.dup, 1) := by decide +kernel
theorem dX3_takeEvent_76 : decode cX3_takeEvent 76 = .ok (.getfield 46, 3) := by decide +kernel
theorem dX3_takeEvent_79 : decode cX3_takeEvent 79 = .ok (.iload_n 2, 1) := by decide +kernel
theorem dX3_takeEvent_80 : decode cX3_takeEvent 80 = .ok (.bipush 43, 2) := by decide +kernel
theorem dX3_takeEvent_82 : decode cX3_takeEvent 82 = .ok (.if_icmp .ne 7, 3) := by decide +kernel
theorem dX3_takeEvent_85 : decode cX3_takeEvent 85 = .ok (.iconst 1, 1) := by decide +kernel
theorem dX3_takeEvent_86 : decode cX3_takeEvent 86 = .ok (.goto 4, 3) := by decide +kernel
theorem dX3_takeEvent_89 : decode cX3_takeEvent 89 = .ok (.iconst (-1), 1) := by decide +kernel
theorem dX3_takeEvent_90 : decode cX3_takeEvent 90 = .ok (.iadd, 1) := by decide +kernel
theorem dX3_takeEvent_91 : decode cX3_takeEvent 91 = .ok (.putfield 46, 3) := by decide +kernel
theorem dX3_takeEvent_94 : decode cX3_takeEvent 94 = .ok (.aload_n 0, 1) := by decide +kernel
theorem dX3_takeEvent_95 : decode cX3_takeEvent 95 = .ok (.getfield 22, 3) := by decide +kernel
theorem dX3_takeEvent_98 : decode cX3_takeEvent 98 = .ok (.aload_n 0, 1) := by decide +kernel
theorem dX3_takeEvent_99 : decode cX3_takeEvent 99 = .ok (.getfield 35, 3) := by decide +kernel
theorem dX3_takeEvent_102 : decode cX3_takeEvent 102 = .ok (.iload_n 3, 1) := by decide +kernel
theorem dX3_takeEvent_103 : decode cX3_takeEvent 103 = .ok (.iastore, 1) := by decide +kernel
theorem dX3_takeEvent_104 : decode cX3_takeEvent 104 = .ok (.aload_n 0, 1) := by decide +kernel
theorem dX3_takeEvent_105 : decode cX3_takeEvent 105 = .ok (.getfield 25, 3) := by decide +kernel
theorem dX3_takeEvent_108 : decode cX3_takeEvent 108 = .ok (.aload_n 0, 1) := by decide +kernel
theorem dX3_takeEvent_109 : decode cX3_takeEvent 109 = .ok (.getfield 35, 3) := by decide +kernel
theorem dX3_takeEvent_112 : decode cX3_takeEvent 112 = .ok (.iload 4, 2) := by decide +kernel
theorem dX3_takeEvent_114 : decode cX3_takeEvent 114 = .ok (.iastore, 1) := by decide +kernel
theorem dX3_takeEvent_115 : decode cX3_takeEvent 115 = .ok (.return_, 1) := by decide +kernel
theorem dX3_layOut_0 : decode cX3_layOut 0 = .ok (.aload_n 1, 1) := by decide +kernel
theorem dX3_layOut_1 : decode cX3_layOut 1 = .ok (.iconst 0, 1) := by decide +kernel
theorem dX3_layOut_2 : decode cX3_layOut 2 = .ok (.putfield 57, 3) := by decide +kernel
theorem dX3_layOut_5 : decode cX3_layOut 5 = .ok (.iconst 0, 1) := by decide +kernel
theorem dX3_layOut_6 : decode cX3_layOut 6 = .ok (.istore_n 2, 1) := by decide +kernel
theorem dX3_layOut_7 : decode cX3_layOut 7 = .ok (.iload_n 2, 1) := by decide +kernel
theorem dX3_layOut_8 : decode cX3_layOut 8 = .ok (.aload_n 0, 1) := by decide +kernel
theorem dX3_layOut_9 : decode cX3_layOut 9 = .ok (.getfield 35, 3) := by decide +kernel
theorem dX3_layOut_12 : decode cX3_layOut 12 = .ok (.if_icmp .ge 75, 3) := by decide +kernel
theorem dX3_layOut_15 : decode cX3_layOut 15 = .ok (.aload_n 0, 1) := by decide +kernel
theorem dX3_layOut_16 : decode cX3_layOut 16 = .ok (.getfield 19, 3) := by decide +kernel
theorem dX3_layOut_19 : decode cX3_layOut 19 = .ok (.iload_n 2, 1) := by decide +kernel
theorem dX3_layOut_20 : decode cX3_layOut 20 = .ok (.caload, 1) := by decide +kernel
theorem dX3_layOut_21 : decode cX3_layOut 21 = .ok (.bipush 43, 2) := by decide +kernel
theorem dX3_layOut_23 : decode cX3_layOut 23 = .ok (.if_icmp .ne 23, 3) := by decide +kernel
theorem dX3_layOut_26 : decode cX3_layOut 26 = .ok (.aload_n 1, 1) := by decide +kernel
theorem dX3_layOut_27 : decode cX3_layOut 27 = .ok (.aload_n 0, 1) := by decide +kernel
theorem dX3_layOut_28 : decode cX3_layOut 28 = .ok (.getfield 22, 3) := by decide +kernel
theorem dX3_layOut_31 : decode cX3_layOut 31 = .ok (.iload_n 2, 1) := by decide +kernel
theorem dX3_layOut_32 : decode cX3_layOut 32 = .ok (.iaload, 1) := by decide +kernel
theorem dX3_layOut_33 : decode cX3_layOut 33 = .ok (.aload_n 0, 1) := by decide +kernel
theorem dX3_layOut_34 : decode cX3_layOut 34 = .ok (.getfield 25, 3) := by decide +kernel
theorem dX3_layOut_37 : decode cX3_layOut 37 = .ok (.iload_n 2, 1) := by decide +kernel
theorem dX3_layOut_38 : decode cX3_layOut 38 = .ok (.iaload, 1) := by decide +kernel
theorem dX3_layOut_39 : decode cX3_layOut 39 = .ok (.iload_n 2, 1) := by decide +kernel
theorem dX3_layOut_40 : decode cX3_layOut 40 = .ok (.bipush 15, 2) := by decide +kernel
theorem dX3_layOut_42 : decode cX3_layOut 42 = .ok (.invokevirtual 62, 3) := by decide +kernel
theorem dX3_layOut_45 : decode cX3_layOut 45 = .ok (.pop, 1) := by decide +kernel
theorem dX3_layOut_46 : decode cX3_layOut 46 = .ok (.aload_n 0, 1) := by decide +kernel
theorem dX3_layOut_47 : decode cX3_layOut 47 = .ok (.getfield 19, 3) := by decide +kernel
theorem dX3_layOut_50 : decode cX3_layOut 50 = .ok (.iload_n 2, 1) := by decide +kernel
theorem dX3_layOut_51 : decode cX3_layOut 51 = .ok (.caload, 1) := by decide +kernel
theorem dX3_layOut_52 : decode cX3_layOut 52 = .ok (.bipush 45, 2) := by decide +kernel
theorem dX3_layOut_54 : decode cX3_layOut 54 = .ok (.if_icmp .ne 27, 3) := by decide +kernel
theorem dX3_layOut_57 : decode cX3_layOut 57 = .ok (.aload_n 1, 1) := by decide +kernel
theorem dX3_layOut_58 : decode cX3_layOut 58 = .ok (.aload_n 1, 1) := by decide +kernel
theorem dX3_layOut_59 : decode cX3_layOut 59 = .ok (.aload_n 0, 1) := by decide +kernel
theorem dX3_layOut_60 : decode cX3_layOut 60 = .ok (.getfield 22, 3) := by decide +kernel
theorem dX3_layOut_63 : decode cX3_layOut 63 = .ok (.iload_n 2, 1) := by decide +kernel
theorem dX3_layOut_64 : decode cX3_layOut 64 = .ok (.iaload, 1) := by decide +kernel
theorem dX3_layOut_65 : decode cX3_layOut 65 = .ok (.aload_n 0, 1) := by decide +kernel
theorem dX3_layOut_66 : decode cX3_layOut 66 = .ok (.getfield 25, 3) := by decide +kernel
theorem dX3_layOut_69 : decode cX3_layOut 69 = .ok (.iload_n 2, 1) := by decide +kernel
theorem dX3_layOut_70 : decode cX3_layOut 70 = .ok (.iaload, 1) := by decide +kernel
theorem dX3_layOut_71 : decode cX3_layOut 71 = .ok (.invokevirtual 66, 3) := by decide +kernel
theorem dX3_layOut_74 : decode cX3_layOut 74 = .ok (.iload_n 2, 1) := by decide +kernel
theorem dX3_layOut_75 : decode cX3_layOut 75 = .ok (.iconst 1, 1) := by decide +kernel
theorem dX3_layOut_76 : decode cX3_layOut 76 = .ok (.isub, 1) := by decide +kernel
theorem dX3_layOut_77 : decode cX3_layOut 77 = .ok (.invokevirtual 70, 3) := by decide +kernel
theorem dX3_layOut_80 : decode cX3_layOut 80 = .ok (.pop, 1) := by decide +kernel
theorem dX3_layOut_81 : decode cX3_layOut 81 = .ok (.iinc 2 1, 3) := by decide +kernel
theorem dX3_layOut_84 : decode cX3_layOut 84 = .ok (.goto (-77), 3) := by decide +kernel
theorem dX3_layOut_87 : decode cX3_layOut 87 = .ok (.return_, 1) := by decide +kernel
theorem dX4_init_0 : decode cX4_init 0 = .ok (.aload_n 0, 1) := by decide +kernel
theorem dX4_init_1 : decode cX4_init 1 = .ok (.invokespecial 3, 3) := by decide +kernel
theorem dX4_init_4 : decode cX4_init 4 = .ok (.aload_n 0, 1) := by decide +kernel
theorem dX4_init_5 : decode cX4_init 5 = .ok (.bipush 6, 2) := by decide +kernel
theorem dX4_init_7 : decode cX4_init 7 = .ok (.newarray .int, 2) := by decide +kernel
theorem dX4_init_9 : decode cX4_init 9 = .ok (.putfield 9, 3) := by decide +kernel
theorem dX4_init_12 : decode cX4_init 12 = .ok (.aload_n 0, 1) := by decide +kernel
theorem dX4_init_13 : decode cX4_init 13 = .ok (.bipush 6, 2) := by decide +kernel
theorem dX4_init_15 : decode cX4_init 15 = .ok (.newarray .int, 2) := by decide +kernel
theorem dX4_init_17 : decode cX4_init 17 = .ok (.putfield 15, 3) := by decide +kernel
theorem dX4_init_20 : decode cX4_init 20 = .ok (.aload_n 0, 1) := by decide +kernel
theorem dX4_init_21 : decode cX4_init 21 = .ok (.bipush 6, 2) := by decide +kernel
theorem dX4_init_23 : decode cX4_init 23 = .ok (.newarray .int, 2) := by decide +kernel
theorem dX4_init_25 : decode cX4_init 25 = .ok (.putfield 18, 3) := by decide +kernel
theorem dX4_init_28 : decode cX4_init 28 = .ok (.aload_n 0, 1) := by decide +kernel
theorem dX4_init_29 : decode cX4_init 29 = .ok (.bipush 6, 2) := by decide +kernel
theorem dX4_init_31 : decode cX4_init 31 = .ok (.newarray .boolean, 2) := by decide +kernel
theorem dX4_init_33 : decode cX4_init 33 = .ok (.putfield 21, 3) := by decide +kernel
theorem dX4_init_36 : decode cX4_init 36 = .ok (.aload_n 0, 1) := by decide +kernel
theorem dX4_init_37 : decode cX4_init 37 = .ok (.bipush 6, 2) := by decide +kernel
theorem dX4_init_39 : decode cX4_init 39 = .ok (.newarray .int, 2) := by decide +kernel
theorem dX4_init_41 : decode cX4_init 41 = .ok (.putfield 25, 3) := by decide +kernel
theorem dX4_init_44 : decode cX4_init 44 = .ok (.aload_n 0, 1) := by decide +kernel
theorem dX4_init_45 : decode cX4_init 45 = .ok (.bipush 6, 2) := by decide +kernel
theorem dX4_init_47 : decode cX4_init 47 = .ok (.newarray .int, 2) := by decide +kernel
theorem dX4_init_49 : decode cX4_init 49 = .ok (.putfield 28, 3) := by decide +kernel
theorem dX4_init_52 : decode cX4_init 52 = .ok (.return_, 1) := by decide +kernel
theorem dX4_add_0 : decode cX4_add 0 = .ok (.aload_n 0, 1) := by decide +kernel
theorem dX4_add_1 : decode cX4_add 1 = .ok (.getfield 31, 3) := by decide +kernel
theorem dX4_add_4 : decode cX4_add 4 = .ok (.bipush 6, 2) := by decide +kernel
theorem dX4_add_6 : decode cX4_add 6 = .ok (.if_icmp .lt 6, 3) := by decide +kernel
theorem dX4_add_9 : decode cX4_add 9 = .ok (.bipush (-4), 2) := by decide +kernel
theorem dX4_add_11 : decode cX4_add 11 = .ok (.ireturn, 1) := by decide +kernel
theorem dX4_add_12 : decode cX4_add 12 = .ok (.aload_n 0, 1) := by decide +kernel
theorem dX4_add_13 : decode cX4_add 13 = .ok (.getfield 9, 3) := by decide +kernel
theorem dX4_add_16 : decode cX4_add 16 = .ok (.aload_n 0, 1) := by decide +kernel
theorem dX4_add_17 : decode cX4_add 17 = .ok (.getfield 31, 3) := by decide +kernel
theorem dX4_add_20 : decode cX4_add 20 = .ok (.iload_n 1, 1) := by decide +kernel
theorem dX4_add_21 : decode cX4_add 21 = .ok (.iastore, 1) := by decide +kernel
theorem dX4_add_22 : decode cX4_add 22 = .ok (.aload_n 0, 1) := by decide +kernel
theorem dX4_add_23 : decode cX4_add 23 = .ok (.getfield 15, 3) := by decide +kernel
theorem dX4_add_26 : decode cX4_add 26 = .ok (.aload_n 0, 1) := by decide +kernel
theorem dX4_add_27 : decode cX4_add 27 = .ok (.getfield 31, 3) := by decide +kernel
theorem dX4_add_30 : decode cX4_add 30 = .ok (.iload_n 2, 1) := by decide +kernel
theorem dX4_add_31 : decode cX4_add 31 = .ok (.iastore, 1) := by decide +kernel
theorem dX4_add_32 : decode cX4_add 32 = .ok (.aload_n 0, 1) := by decide +kernel
theorem dX4_add_33 : decode cX4_add 33 = .ok (.getfield 18, 3) := by decide +kernel
theorem dX4_add_36 : decode cX4_add 36 = .ok (.aload_n 0, 1) := by decide +kernel
theorem dX4_add_37 : decode cX4_add 37 = .ok (.getfield 31, 3) := by decide +kernel
theorem dX4_add_40 : decode cX4_add 40 = .ok (.iload_n 3, 1) := by decide +kernel
theorem dX4_add_41 : decode cX4_add 41 = .ok (.iastore, 1) := by decide +kernel
theorem dX4_add_42 : decode cX4_add 42 = .ok (.aload_n 0, 1) := by decide +kernel
theorem dX4_add_43 : decode cX4_add 43 = .ok (.getfield 21, 3) := by decide +kernel
theorem dX4_add_46 : decode cX4_add 46 = .ok (.aload_n 0, 1) := by decide +kernel
theorem dX4_add_47 : decode cX4_add 47 = .ok (.getfield 31, 3) := by decide +kernel
theorem dX4_add_50 : decode cX4_add 50 = .ok (.iload 4, 2) := by decide +kernel
theorem dX4_add_52 : decode cX4_add 52 = .ok (.bastore, 1) := by decide +kernel
theorem dX4_add_53 : decode cX4_add 53 = .ok (.aload_n 0, 1) := by decide +kernel
theorem dX4_add_54 : decode cX4_add 54 = .ok (.dup, 1) := by decide +kernel
theorem dX4_add_55 : decode cX4_add 55 = .ok (.getfield 31, 3) := by decide +kernel
theorem dX4_add_58 : decode cX4_add 58 = .ok (.iconst 1, 1) := by decide +kernel
theorem dX4_add_59 : decode cX4_add 59 = .ok (.iadd, 1) := by decide +kernel
theorem dX4_add_60 : decode cX4_add 60 = .ok (.putfield 31, 3) := by decide +kernel
theorem dX4_add_63 : decode cX4_add 63 = .ok (.aload_n 0, 1) := by decide +kernel
theorem dX4_add_64 : decode cX4_add 64 = .ok (.getfield 31, 3) := by decide +kernel
theorem dX4_add_67 : decode cX4_add 67 = .ok (.ireturn, 1) := by decide +kernel
theorem dX4_lookAt_0 : decode cX4_lookAt 0 = .ok (.iconst 0, 1) := by decide +kernel
theorem dX4_lookAt_1 : decode cX4_lookAt 1 = .ok (.istore_n 3, 1) := by decide +kernel
theorem dX4_lookAt_2 : decode cX4_lookAt 2 = .ok (.iload_n 3, 1) := by decide +kernel
theorem dX4_lookAt_3 : decode cX4_lookAt 3 = .ok (.aload_n 0, 1) := by decide +kernel
theorem dX4_lookAt_4 : decode cX4_lookAt 4 = .ok (.getfield 31, 3) := by decide +kernel
theorem dX4_lookAt_7 : decode cX4_lookAt 7 = .ok (.if_icmp .ge 60, 3) := by decide +kernel
theorem dX4_lookAt_10 : decode cX4_lookAt 10 = .ok (.aload_n 2, 1) := by decide +kernel
theorem dX4_lookAt_11 : decode cX4_lookAt 11 = .ok (.aload_n 1, 1) := by decide +kernel
theorem dX4_lookAt_12 : decode cX4_lookAt 12 = .ok (.aload_n 0, 1) := by decide +kernel
theorem dX4_lookAt_13 : decode cX4_lookAt 13 = .ok (.getfield 9, 3) := by decide +kernel
theorem dX4_lookAt_16 : decode cX4_lookAt 16 = .ok (.iload_n 3, 1) := by decide +kernel
theorem dX4_lookAt_17 : decode cX4_lookAt 17 = .ok (.iaload, 1) := by decide +kernel
theorem dX4_lookAt_18 : decode cX4_lookAt 18 = .ok (.invokevirtual 35, 3) := by decide +kernel
theorem dX4_lookAt_21 : decode cX4_lookAt 21 = .ok (.aload_n 0, 1) := by decide +kernel
theorem dX4_lookAt_22 : decode cX4_lookAt 22 = .ok (.getfield 25, 3) := by decide +kernel
theorem dX4_lookAt_25 : decode cX4_lookAt 25 = .ok (.iload_n 3, 1) := by decide +kernel
theorem dX4_lookAt_26 : decode cX4_lookAt 26 = .ok (.aload_n 2, 1) := by decide +kernel
theorem dX4_lookAt_27 : decode cX4_lookAt 27 = .ok (.aload_n 0, 1) := by decide +kernel
theorem dX4_lookAt_28 : decode cX4_lookAt 28 = .ok (.getfield 15, 3) := by decide +kernel
theorem dX4_lookAt_31 : decode cX4_lookAt 31 = .ok (.iload_n 3, 1) := by decide +kernel
theorem dX4_lookAt_32 : decode cX4_lookAt 32 = .ok (.iaload, 1) := by decide +kernel
theorem dX4_lookAt_33 : decode cX4_lookAt 33 = .ok (.aload_n 2, 1) := by decide +kernel
theorem dX4_lookAt_34 : decode cX4_lookAt 34 = .ok (.invokevirtual 41, 3) := by decide +kernel
theorem dX4_lookAt_37 : decode cX4_lookAt 37 = .ok (.invokevirtual 45, 3) := by decide +kernel
theorem dX4_lookAt_40 : decode cX4_lookAt 40 = .ok (.iastore, 1) := by decide +kernel
theorem dX4_lookAt_41 : decode cX4_lookAt 41 = .ok (.aload_n 0, 1) := by decide +kernel
theorem dX4_lookAt_42 : decode cX4_lookAt 42 = .ok (.getfield 28, 3) := by decide +kernel
theorem dX4_lookAt_45 : decode cX4_lookAt 45 = .ok (.iload_n 3, 1) := by decide +kernel
theorem dX4_lookAt_46 : decode cX4_lookAt 46 = .ok (.aload_n 2, 1) := by decide +kernel
theorem dX4_lookAt_47 : decode cX4_lookAt 47 = .ok (.aload_n 0, 1) := by decide +kernel
theorem dX4_lookAt_48 : decode cX4_lookAt 48 = .ok (.getfield 18, 3) := by decide +kernel
theorem dX4_lookAt_51 : decode cX4_lookAt 51 = .ok (.iload_n 3, 1) := by decide +kernel
theorem dX4_lookAt_52 : decode cX4_lookAt 52 = .ok (.iaload, 1) := by decide +kernel
theorem dX4_lookAt_53 : decode cX4_lookAt 53 = .ok (.aload_n 2, 1) := by decide +kernel
theorem dX4_lookAt_54 : decode cX4_lookAt 54 = .ok (.invokevirtual 41, 3) := by decide +kernel
theorem dX4_lookAt_57 : decode cX4_lookAt 57 = .ok (.invokevirtual 45, 3) := by decide +kernel
theorem dX4_lookAt_60 : decode cX4_lookAt 60 = .ok (.iastore, 1) := by decide +kernel
theorem dX4_lookAt_61 : decode cX4_lookAt 61 = .ok (.iinc 3 1, 3) := by decide +kernel
theorem dX4_lookAt_64 : decode cX4_lookAt 64 = .ok (.goto (-62), 3) := by decide +kernel
theorem dX4_lookAt_67 : decode cX4_lookAt 67 = .ok (.return_, 1) := by decide +kernel
theorem dX4_allSoWith_0 : decode cX4_allSoWith 0 = .ok (.iconst 0, 1) := by decide +kernel
theorem dX4_allSoWith_1 : decode cX4_allSoWith 1 = .ok (.istore 4, 2) := by decide +kernel
theorem dX4_allSoWith_3 : decode cX4_allSoWith 3 = .ok (.iload 4, 2) := by decide +kernel
theorem dX4_allSoWith_5 : decode cX4_allSoWith 5 = .ok (.aload_n 0, 1) := by decide +kernel
theorem dX4_allSoWith_6 : decode cX4_allSoWith 6 = .ok (.getfield 31, 3) := by decide +kernel
theorem dX4_allSoWith_9 : decode cX4_allSoWith 9 = .ok (.if_icmp .ge 30, 3) := by decide +kernel
theorem dX4_allSoWith_12 : decode cX4_allSoWith 12 = .ok (.aload_n 0, 1) := by decide +kernel
theorem dX4_allSoWith_13 : decode cX4_allSoWith 13 = .ok (.iload 4, 2) := by decide +kernel
theorem dX4_allSoWith_15 : decode cX4_allSoWith 15 = .ok (.iload_n 1, 1) := by decide +kernel
theorem dX4_allSoWith_16 : decode cX4_allSoWith 16 = .ok (.iload_n 2, 1) := by decide +kernel
theorem dX4_allSoWith_17 : decode cX4_allSoWith 17 = .ok (.iload_n 3, 1) := by decide +kernel
theorem dX4_allSoWith_18 : decode cX4_allSoWith 18 = .ok (.invokevirtual 49, 3) := by decide +kernel
theorem dX4_allSoWith_21 : decode cX4_allSoWith 21 = .ok (.aload_n 0, 1) := by decide +kernel
theorem dX4_allSoWith_22 : decode cX4_allSoWith 22 = .ok (.getfield 21, 3) := by decide +kernel
theorem dX4_allSoWith_25 : decode cX4_allSoWith 25 = .ok (.iload 4, 2) := by decide +kernel
theorem dX4_allSoWith_27 : decode cX4_allSoWith 27 = .ok (.baload, 1) := by decide +kernel
theorem dX4_allSoWith_28 : decode cX4_allSoWith 28 = .ok (.if_icmp .eq 5, 3) := by decide +kernel
theorem dX4_allSoWith_31 : decode cX4_allSoWith 31 = .ok (.iconst 0, 1) := by decide +kernel
theorem dX4_allSoWith_32 : decode cX4_allSoWith 32 = .ok (.ireturn, 1) := by decide +kernel
theorem dX4_allSoWith_33 : decode cX4_allSoWith 33 = .ok (.iinc 4 1, 3) := by decide +kernel
theorem dX4_allSoWith_36 : decode cX4_allSoWith 36 = .ok (.goto (-33), 3) := by decide +kernel
theorem dX4_allSoWith_39 : decode cX4_allSoWith 39 = .ok (.iconst 1, 1) := by decide +kernel
theorem dX4_allSoWith_40 : decode cX4_allSoWith 40 = .ok (.ireturn, 1) := by decide +kernel
theorem dX4_joinedWith_0 : decode cX4_joinedWith 0 = .ok (.aload_n 0, 1) := by decide +kernel
theorem dX4_joinedWith_1 : decode cX4_joinedWith 1 = .ok (.getfield 25, 3) := by decide +kernel
theorem dX4_joinedWith_4 : decode cX4_joinedWith 4 = .ok (.iload_n 1, 1) := by decide +kernel
theorem dX4_joinedWith_5 : decode cX4_joinedWith 5 = .ok (.iaload, 1) := by decide +kernel
theorem dX4_joinedWith_6 : decode cX4_joinedWith 6 = .ok (.aload_n 0, 1) := by decide +kernel
theorem dX4_joinedWith_7 : decode cX4_joinedWith 7 = .ok (.getfield 28, 3) := by decide +kernel
theorem dX4_joinedWith_10 : decode cX4_joinedWith 10 = .ok (.iload_n 1, 1) := by decide +kernel
theorem dX4_joinedWith_11 : decode cX4_joinedWith 11 = .ok (.iaload, 1) := by decide +kernel
theorem dX4_joinedWith_12 : decode cX4_joinedWith 12 = .ok (.if_icmp .ne 5, 3) := by decide +kernel
theorem dX4_joinedWith_15 : decode cX4_joinedWith 15 = .ok (.iconst 1, 1) := by decide +kernel
theorem dX4_joinedWith_16 : decode cX4_joinedWith 16 = .ok (.ireturn, 1) := by decide +kernel
theorem dX4_joinedWith_17 : decode cX4_joinedWith 17 = .ok (.iload 4, 2) := by decide +kernel
theorem dX4_joinedWith_19 : decode cX4_joinedWith 19 = .ok (.aload_n 0, 1) := by decide +kernel
theorem dX4_joinedWith_20 : decode cX4_joinedWith 20 = .ok (.getfield 9, 3) := by decide +kernel
theorem dX4_joinedWith_23 : decode cX4_joinedWith 23 = .ok (.iload_n 1, 1) := by decide +kernel
theorem dX4_joinedWith_24 : decode cX4_joinedWith 24 = .ok (.iaload, 1) := by decide +kernel
theorem dX4_joinedWith_25 : decode cX4_joinedWith 25 = .ok (.ishr, 1) := by decide +kernel
theorem dX4_joinedWith_26 : decode cX4_joinedWith 26 = .ok (.iconst 1, 1) := by decide +kernel
theorem dX4_joinedWith_27 : decode cX4_joinedWith 27 = .ok (.iand, 1) := by decide +kernel
theorem dX4_joinedWith_28 : decode cX4_joinedWith 28 = .ok (.ifCond .ne 5, 3) := by decide +kernel
theorem dX4_joinedWith_31 : decode cX4_joinedWith 31 = .ok (.iconst 0, 1) := by decide +kernel
theorem dX4_joinedWith_32 : decode cX4_joinedWith 32 = .ok (.ireturn, 1) := by decide +kernel
theorem dX4_joinedWith_33 : decode cX4_joinedWith 33 = .ok (.aload_n 0, 1) := by decide +kernel
theorem dX4_joinedWith_34 : decode cX4_joinedWith 34 = .ok (.iload_n 1, 1) := by decide +kernel
theorem dX4_joinedWith_35 : decode cX4_joinedWith 35 = .ok (.iload_n 2, 1) := by decide +kernel
theorem dX4_joinedWith_36 : decode cX4_joinedWith 36 = .ok (.iload_n 3, 1) := by decide +kernel
theorem dX4_joinedWith_37 : decode cX4_joinedWith 37 = .ok (.invokevirtual 53, 3) := by decide +kernel
theorem dX4_joinedWith_40 : decode cX4_joinedWith 40 = .ok (.ifCond .ne 13, 3) := by decide +kernel
theorem dX4_joinedWith_43 : decode cX4_joinedWith 43 = .ok (.aload_n 0, 1) := by decide +kernel
theorem dX4_joinedWith_44 : decode cX4_joinedWith 44 = .ok (.iload_n 1, 1) := by decide +kernel
theorem dX4_joinedWith_45 : decode cX4_joinedWith 45 = .ok (.iload_n 3, 1) := by decide +kernel
theorem dX4_joinedWith_46 : decode cX4_joinedWith 46 = .ok (.iload_n 2, 1) := by decide +kernel
theorem dX4_joinedWith_47 : decode cX4_joinedWith 47 = .ok (.invokevirtual 53, 3) := by decide +kernel
theorem dX4_joinedWith_50 : decode cX4_joinedWith 50 = .ok (.ifCond .eq 7, 3) := by decide +kernel
theorem dX4_joinedWith_53 : decode cX4_joinedWith 53 = .ok (.iconst 1, 1) := by decide +kernel
theorem dX4_joinedWith_54 : decode cX4_joinedWith 54 = .ok (.goto 4, 3) := by decide +kernel
theorem dX4_joinedWith_57 : decode cX4_joinedWith 57 = .ok (.iconst 0, 1) := by decide +kernel
theorem dX4_joinedWith_58 : decode cX4_joinedWith 58 = .ok (.ireturn, 1) := by decide +kernel
theorem dX4_leads_0 : decode cX4_leads 0 = .ok (.aload_n 0, 1) := by decide +kernel
theorem dX4_leads_1 : decode cX4_leads 1 = .ok (.getfield 25, 3) := by decide +kernel
theorem dX4_leads_4 : decode cX4_leads 4 = .ok (.iload_n 1, 1) := by decide +kernel
theorem dX4_leads_5 : decode cX4_leads 5 = .ok (.iaload, 1) := by decide +kernel
theorem dX4_leads_6 : decode cX4_leads 6 = .ok (.iload_n 2, 1) := by decide +kernel
theorem dX4_leads_7 : decode cX4_leads 7 = .ok (.ishr, 1) := by decide +kernel
theorem dX4_leads_8 : decode cX4_leads 8 = .ok (.iconst 1, 1) := by decide +kernel
theorem dX4_leads_9 : decode cX4_leads 9 = .ok (.iand, 1) := by decide +kernel
theorem dX4_leads_10 : decode cX4_leads 10 = .ok (.ifCond .eq 20, 3) := by decide +kernel
theorem dX4_leads_13 : decode cX4_leads 13 = .ok (.aload_n 0, 1) := by decide +kernel
theorem dX4_leads_14 : decode cX4_leads 14 = .ok (.getfield 28, 3) := by decide +kernel
theorem dX4_leads_17 : decode cX4_leads 17 = .ok (.iload_n 1, 1) := by decide +kernel
theorem dX4_leads_18 : decode cX4_leads 18 = .ok (.iaload, 1) := by decide +kernel
theorem dX4_leads_19 : decode cX4_leads 19 = .ok (.iload_n 3, 1) := by decide +kernel
theorem dX4_leads_20 : decode cX4_leads 20 = .ok (.ishr, 1) := by decide +kernel
theorem dX4_leads_21 : decode cX4_leads 21 = .ok (.iconst 1, 1) := by decide +kernel
theorem dX4_leads_22 : decode cX4_leads 22 = .ok (.iand, 1) := by decide +kernel
theorem dX4_leads_23 : decode cX4_leads 23 = .ok (.ifCond .eq 7, 3) := by decide +kernel
theorem dX4_leads_26 : decode cX4_leads 26 = .ok (.iconst 1, 1) := by decide +kernel
theorem dX4_leads_27 : decode cX4_leads 27 = .ok (.goto 4, 3) := by decide +kernel
theorem dX4_leads_30 : decode cX4_leads 30 = .ok (.iconst 0, 1) := by decide +kernel
theorem dX4_leads_31 : decode cX4_leads 31 = .ok (.ireturn, 1) := by decide +kernel
theorem dX5_init_0 : decode cX5_init 0 = .ok (.aload_n 0, 1) := by decide +kernel
theorem dX5_init_1 : decode cX5_init 1 = .ok (.invokespecial 3, 3) := by decide +kernel
theorem dX5_init_4 : decode cX5_init 4 = .ok (.aload_n 0, 1) := by decide +kernel
theorem dX5_init_5 : decode cX5_init 5 = .ok (.bipush 16, 2) := by decide +kernel
theorem dX5_init_7 : decode cX5_init 7 = .ok (.newarray .int, 2) := by decide +kernel
theorem dX5_init_9 : decode cX5_init 9 = .ok (.putfield 9, 3) := by decide +kernel
theorem dX5_init_12 : decode cX5_init 12 = .ok (.aload_n 0, 1) := by decide +kernel
theorem dX5_init_13 : decode cX5_init 13 = .ok (.bipush 16, 2) := by decide +kernel
theorem dX5_init_15 : decode cX5_init 15 = .ok (.newarray .int, 2) := by decide +kernel
theorem dX5_init_17 : decode cX5_init 17 = .ok (.putfield 15, 3) := by decide +kernel
theorem dX5_init_20 : decode cX5_init 20 = .ok (.aload_n 0, 1) := by decide +kernel
theorem dX5_init_21 : decode cX5_init 21 = .ok (.bipush 16, 2) := by decide +kernel
theorem dX5_init_23 : decode cX5_init 23 = .ok (.newarray .int, 2) := by decide +kernel
theorem dX5_init_25 : decode cX5_init 25 = .ok (.putfield 18, 3) := by decide +kernel
theorem dX5_init_28 : decode cX5_init 28 = .ok (.aload_n 0, 1) := by decide +kernel
theorem dX5_init_29 : decode cX5_init 29 = .ok (.bipush 16, 2) := by decide +kernel
theorem dX5_init_31 : decode cX5_init 31 = .ok (.newarray .int, 2) := by decide +kernel
theorem dX5_init_33 : decode cX5_init 33 = .ok (.putfield 21, 3) := by decide +kernel
theorem dX5_init_36 : decode cX5_init 36 = .ok (.return_, 1) := by decide +kernel
theorem dX5_has_0 : decode cX5_has 0 = .ok (.iload_n 1, 1) := by decide +kernel
theorem dX5_has_1 : decode cX5_has 1 = .ok (.ifCond .lt 15, 3) := by decide +kernel
theorem dX5_has_4 : decode cX5_has 4 = .ok (.iload_n 1, 1) := by decide +kernel
theorem dX5_has_5 : decode cX5_has 5 = .ok (.aload_n 0, 1) := by decide +kernel
theorem dX5_has_6 : decode cX5_has 6 = .ok (.getfield 24, 3) := by decide +kernel
theorem dX5_has_9 : decode cX5_has 9 = .ok (.if_icmp .ge 7, 3) := by decide +kernel
theorem dX5_has_12 : decode cX5_has 12 = .ok (.iconst 1, 1) := by decide +kernel
theorem dX5_has_13 : decode cX5_has 13 = .ok (.goto 4, 3) := by decide +kernel
theorem dX5_has_16 : decode cX5_has 16 = .ok (.iconst 0, 1) := by decide +kernel
theorem dX5_has_17 : decode cX5_has 17 = .ok (.ireturn, 1) := by decide +kernel
theorem dX5_copyOf_0 : decode cX5_copyOf 0 = .ok (.aload_n 0, 1) := by decide +kernel
theorem dX5_copyOf_1 : decode cX5_copyOf 1 = .ok (.aload_n 1, 1) := by decide +kernel
theorem dX5_copyOf_2 : decode cX5_copyOf 2 = .ok (.getfield 24, 3) := by decide +kernel
theorem dX5_copyOf_5 : decode cX5_copyOf 5 = .ok (.putfield 24, 3) := by decide +kernel
theorem dX5_copyOf_8 : decode cX5_copyOf 8 = .ok (.iconst 0, 1) := by decide +kernel
theorem dX5_copyOf_9 : decode cX5_copyOf 9 = .ok (.istore_n 2, 1) := by decide +kernel
theorem dX5_copyOf_10 : decode cX5_copyOf 10 = .ok (.iload_n 2, 1) := by decide +kernel
theorem dX5_copyOf_11 : decode cX5_copyOf 11 = .ok (.aload_n 0, 1) := by decide +kernel
theorem dX5_copyOf_12 : decode cX5_copyOf 12 = .ok (.getfield 24, 3) := by decide +kernel
theorem dX5_copyOf_15 : decode cX5_copyOf 15 = .ok (.if_icmp .ge 16, 3) := by decide +kernel
theorem dX5_copyOf_18 : decode cX5_copyOf 18 = .ok (.aload_n 0, 1) := by decide +kernel
theorem dX5_copyOf_19 : decode cX5_copyOf 19 = .ok (.aload_n 1, 1) := by decide +kernel
theorem dX5_copyOf_20 : decode cX5_copyOf 20 = .ok (.iload_n 2, 1) := by decide +kernel
theorem dX5_copyOf_21 : decode cX5_copyOf 21 = .ok (.iload_n 2, 1) := by decide +kernel
theorem dX5_copyOf_22 : decode cX5_copyOf 22 = .ok (.invokevirtual 28, 3) := by decide +kernel
theorem dX5_copyOf_25 : decode cX5_copyOf 25 = .ok (.iinc 2 1, 3) := by decide +kernel
theorem dX5_copyOf_28 : decode cX5_copyOf 28 = .ok (.goto (-18), 3) := by decide +kernel
theorem dX5_copyOf_31 : decode cX5_copyOf 31 = .ok (.return_, 1) := by decide +kernel
theorem dX5_takeFrom_0 : decode cX5_takeFrom 0 = .ok (.aload_n 0, 1) := by decide +kernel
theorem dX5_takeFrom_1 : decode cX5_takeFrom 1 = .ok (.getfield 9, 3) := by decide +kernel
theorem dX5_takeFrom_4 : decode cX5_takeFrom 4 = .ok (.iload_n 3, 1) := by decide +kernel
theorem dX5_takeFrom_5 : decode cX5_takeFrom 5 = .ok (.aload_n 1, 1) := by decide +kernel
theorem dX5_takeFrom_6 : decode cX5_takeFrom 6 = .ok (.getfield 9, 3) := by decide +kernel
theorem dX5_takeFrom_9 : decode cX5_takeFrom 9 = .ok (.iload_n 2, 1) := by decide +kernel
theorem dX5_takeFrom_10 : decode cX5_takeFrom 10 = .ok (.iaload, 1) := by decide +kernel
theorem dX5_takeFrom_11 : decode cX5_takeFrom 11 = .ok (.iastore, 1) := by decide +kernel
theorem dX5_takeFrom_12 : decode cX5_takeFrom 12 = .ok (.aload_n 0, 1) := by decide +kernel
theorem dX5_takeFrom_13 : decode cX5_takeFrom 13 = .ok (.getfield 15, 3) := by decide +kernel
theorem dX5_takeFrom_16 : decode cX5_takeFrom 16 = .ok (.iload_n 3, 1) := by decide +kernel
theorem dX5_takeFrom_17 : decode cX5_takeFrom 17 = .ok (.aload_n 1, 1) := by decide +kernel
theorem dX5_takeFrom_18 : decode cX5_takeFrom 18 = .ok (.getfield 15, 3) := by decide +kernel
theorem dX5_takeFrom_21 : decode cX5_takeFrom 21 = .ok (.iload_n 2, 1) := by decide +kernel
theorem dX5_takeFrom_22 : decode cX5_takeFrom 22 = .ok (.iaload, 1) := by decide +kernel
theorem dX5_takeFrom_23 : decode cX5_takeFrom 23 = .ok (.iastore, 1) := by decide +kernel
theorem dX5_takeFrom_24 : decode cX5_takeFrom 24 = .ok (.aload_n 0, 1) := by decide +kernel
theorem dX5_takeFrom_25 : decode cX5_takeFrom 25 = .ok (.getfield 18, 3) := by decide +kernel
theorem dX5_takeFrom_28 : decode cX5_takeFrom 28 = .ok (.iload_n 3, 1) := by decide +kernel
theorem dX5_takeFrom_29 : decode cX5_takeFrom 29 = .ok (.aload_n 1, 1) := by decide +kernel
theorem dX5_takeFrom_30 : decode cX5_takeFrom 30 = .ok (.getfield 18, 3) := by decide +kernel
theorem dX5_takeFrom_33 : decode cX5_takeFrom 33 = .ok (.iload_n 2, 1) := by decide +kernel
theorem dX5_takeFrom_34 : decode cX5_takeFrom 34 = .ok (.iaload, 1) := by decide +kernel
theorem dX5_takeFrom_35 : decode cX5_takeFrom 35 = .ok (.iastore, 1) := by decide +kernel
theorem dX5_takeFrom_36 : decode cX5_takeFrom 36 = .ok (.aload_n 0, 1) := by decide +kernel
theorem dX5_takeFrom_37 : decode cX5_takeFrom 37 = .ok (.getfield 21, 3) := by decide +kernel
theorem dX5_takeFrom_40 : decode cX5_takeFrom 40 = .ok (.iload_n 3, 1) := by decide +kernel
theorem dX5_takeFrom_41 : decode cX5_takeFrom 41 = .ok (.aload_n 1, 1) := by decide +kernel
theorem dX5_takeFrom_42 : decode cX5_takeFrom 42 = .ok (.getfield 21, 3) := by decide +kernel
theorem dX5_takeFrom_45 : decode cX5_takeFrom 45 = .ok (.iload_n 2, 1) := by decide +kernel
theorem dX5_takeFrom_46 : decode cX5_takeFrom 46 = .ok (.iaload, 1) := by decide +kernel
theorem dX5_takeFrom_47 : decode cX5_takeFrom 47 = .ok (.iastore, 1) := by decide +kernel
theorem dX5_takeFrom_48 : decode cX5_takeFrom 48 = .ok (.return_, 1) := by decide +kernel
theorem dX5_add_0 : decode cX5_add 0 = .ok (.iload_n 1, 1) := by decide +kernel
theorem dX5_add_1 : decode cX5_add 1 = .ok (.invokestatic 32, 3) := by decide +kernel
theorem dX5_add_4 : decode cX5_add 4 = .ok (.ifCond .eq 25, 3) := by decide +kernel
theorem dX5_add_7 : decode cX5_add 7 = .ok (.iload_n 2, 1) := by decide +kernel
theorem dX5_add_8 : decode cX5_add 8 = .ok (.invokestatic 32, 3) := by decide +kernel
theorem dX5_add_11 : decode cX5_add 11 = .ok (.ifCond .eq 18, 3) := by decide +kernel
theorem dX5_add_14 : decode cX5_add 14 = .ok (.iload_n 3, 1) := by decide +kernel
theorem dX5_add_15 : decode cX5_add 15 = .ok (.invokestatic 36, 3) := by decide +kernel
theorem dX5_add_18 : decode cX5_add 18 = .ok (.ifCond .eq 11, 3) := by decide +kernel
theorem dX5_add_21 : decode cX5_add 21 = .ok (.iload 4, 2) := by decide +kernel
theorem dX5_add_23 : decode cX5_add 23 = .ok (.invokestatic 36, 3) := by decide +kernel
theorem dX5_add_26 : decode cX5_add 26 = .ok (.ifCond .ne 5, 3) := by decide +kernel
theorem dX5_add_29 : decode cX5_add 29 = .ok (.iconst (-1), 1) := by decide +kernel
theorem dX5_add_30 : decode cX5_add 30 = .ok (.ireturn, 1) := by decide +kernel
theorem dX5_add_31 : decode cX5_add 31 = .ok (.iload_n 1, 1) := by decide +kernel
theorem dX5_add_32 : decode cX5_add 32 = .ok (.iload_n 2, 1) := by decide +kernel
theorem dX5_add_33 : decode cX5_add 33 = .ok (.if_icmp .eq 9, 3) := by decide +kernel
theorem dX5_add_36 : decode cX5_add 36 = .ok (.iload 4, 2) := by decide +kernel
theorem dX5_add_38 : decode cX5_add 38 = .ok (.iload_n 3, 1) := by decide +kernel
theorem dX5_add_39 : decode cX5_add 39 = .ok (.if_icmp .ge 6, 3) := by decide +kernel
theorem dX5_add_42 : decode cX5_add 42 = .ok (.bipush (-2), 2) := by decide +kernel
theorem dX5_add_44 : decode cX5_add 44 = .ok (.ireturn, 1) := by decide +kernel
theorem dX5_add_45 : decode cX5_add 45 = .ok (.aload_n 0, 1) := by decide +kernel
theorem dX5_add_46 : decode cX5_add 46 = .ok (.iload_n 1, 1) := by decide +kernel
theorem dX5_add_47 : decode cX5_add 47 = .ok (.iload_n 2, 1) := by decide +kernel
theorem dX5_add_48 : decode cX5_add 48 = .ok (.bipush (-9), 2) := by decide +kernel
theorem dX5_add_50 : decode cX5_add 50 = .ok (.invokevirtual 39, 3) := by decide +kernel
theorem dX5_add_53 : decode cX5_add 53 = .ok (.iload_n 3, 1) := by decide +kernel
theorem dX5_add_54 : decode cX5_add 54 = .ok (.iload 4, 2) := by decide +kernel
theorem dX5_add_56 : decode cX5_add 56 = .ok (.invokestatic 43, 3) := by decide +kernel
theorem dX5_add_59 : decode cX5_add 59 = .ok (.iand, 1) := by decide +kernel
theorem dX5_add_60 : decode cX5_add 60 = .ok (.ifCond .eq 6, 3) := by decide +kernel
theorem dX5_add_63 : decode cX5_add 63 = .ok (.bipush (-3), 2) := by decide +kernel
theorem dX5_add_65 : decode cX5_add 65 = .ok (.ireturn, 1) := by decide +kernel
theorem dX5_add_66 : decode cX5_add 66 = .ok (.aload_n 0, 1) := by decide +kernel
theorem dX5_add_67 : decode cX5_add 67 = .ok (.getfield 24, 3) := by decide +kernel
theorem dX5_add_70 : decode cX5_add 70 = .ok (.bipush 16, 2) := by decide +kernel
theorem dX5_add_72 : decode cX5_add 72 = .ok (.if_icmp .lt 6, 3) := by decide +kernel
theorem dX5_add_75 : decode cX5_add 75 = .ok (.bipush (-4), 2) := by decide +kernel
theorem dX5_add_77 : decode cX5_add 77 = .ok (.ireturn, 1) := by decide +kernel
theorem dX5_add_78 : decode cX5_add 78 = .ok (.aload_n 0, 1) := by decide +kernel
theorem dX5_add_79 : decode cX5_add 79 = .ok (.getfield 9, 3) := by decide +kernel
theorem dX5_add_82 : decode cX5_add 82 = .ok (.aload_n 0, 1) := by decide +kernel
theorem dX5_add_83 : decode cX5_add 83 = .ok (.getfield 24, 3) := by decide +kernel
theorem dX5_add_86 : decode cX5_add 86 = .ok (.iload_n 1, 1) := by decide +kernel
theorem dX5_add_87 : decode cX5_add 87 = .ok (.iload_n 2, 1) := by decide +kernel
theorem dX5_add_88 : decode cX5_add 88 = .ok (.invokestatic 47, 3) := by decide +kernel
theorem dX5_add_91 : decode cX5_add 91 = .ok (.iastore, 1) := by decide +kernel
theorem dX5_add_92 : decode cX5_add 92 = .ok (.aload_n 0, 1) := by decide +kernel
theorem dX5_add_93 : decode cX5_add 93 = .ok (.getfield 15, 3) := by decide +kernel
theorem dX5_add_96 : decode cX5_add 96 = .ok (.aload_n 0, 1) := by decide +kernel
theorem dX5_add_97 : decode cX5_add 97 = .ok (.getfield 24, 3) := by decide +kernel
theorem dX5_add_100 : decode cX5_add 100 = .ok (.iload_n 1, 1) := by decide +kernel
theorem dX5_add_101 : decode cX5_add 101 = .ok (.iload_n 2, 1) := by decide +kernel
theorem dX5_add_102 : decode cX5_add 102 = .ok (.invokestatic 52, 3) := by decide +kernel
theorem dX5_add_105 : decode cX5_add 105 = .ok (.iastore, 1) := by decide +kernel
theorem dX5_add_106 : decode cX5_add 106 = .ok (.aload_n 0, 1) := by decide +kernel
theorem dX5_add_107 : decode cX5_add 107 = .ok (.getfield 18, 3) := by decide +kernel
theorem dX5_add_110 : decode cX5_add 110 = .ok (.aload_n 0, 1) := by decide +kernel
theorem dX5_add_111 : decode cX5_add 111 = .ok (.getfield 24, 3) := by decide +kernel
theorem dX5_add_114 : decode cX5_add 114 = .ok (.iload_n 3, 1) := by decide +kernel
theorem dX5_add_115 : decode cX5_add 115 = .ok (.iastore, 1) := by decide +kernel
theorem dX5_add_116 : decode cX5_add 116 = .ok (.aload_n 0, 1) := by decide +kernel
theorem dX5_add_117 : decode cX5_add 117 = .ok (.getfield 21, 3) := by decide +kernel
theorem dX5_add_120 : decode cX5_add 120 = .ok (.aload_n 0, 1) := by decide +kernel
theorem dX5_add_121 : decode cX5_add 121 = .ok (.getfield 24, 3) := by decide +kernel
theorem dX5_add_124 : decode cX5_add 124 = .ok (.iload 4, 2) := by decide +kernel
theorem dX5_add_126 : decode cX5_add 126 = .ok (.iastore, 1) := by decide +kernel
theorem dX5_add_127 : decode cX5_add 127 = .ok (.aload_n 0, 1) := by decide +kernel
theorem dX5_add_128 : decode cX5_add 128 = .ok (.dup, 1) := by decide +kernel
theorem dX5_add_129 : decode cX5_add 129 = .ok (.getfield 24, 3) := by decide +kernel
theorem dX5_add_132 : decode cX5_add 132 = .ok (.iconst 1, 1) := by decide +kernel
theorem dX5_add_133 : decode cX5_add 133 = .ok (.iadd, 1) := by decide +kernel
theorem dX5_add_134 : decode cX5_add 134 = .ok (.putfield 24, 3) := by decide +kernel
theorem dX5_add_137 : decode cX5_add 137 = .ok (.aload_n 0, 1) := by decide +kernel
theorem dX5_add_138 : decode cX5_add 138 = .ok (.getfield 24, 3) := by decide +kernel
theorem dX5_add_141 : decode cX5_add 141 = .ok (.iconst 1, 1) := by decide +kernel
theorem dX5_add_142 : decode cX5_add 142 = .ok (.isub, 1) := by decide +kernel
theorem dX5_add_143 : decode cX5_add 143 = .ok (.ireturn, 1) := by decide +kernel
theorem dX5_drop_0 : decode cX5_drop 0 = .ok (.aload_n 0, 1) := by decide +kernel
theorem dX5_drop_1 : decode cX5_drop 1 = .ok (.iload_n 1, 1) := by decide +kernel
theorem dX5_drop_2 : decode cX5_drop 2 = .ok (.invokevirtual 55, 3) := by decide +kernel
theorem dX5_drop_5 : decode cX5_drop 5 = .ok (.ifCond .ne 5, 3) := by decide +kernel
theorem dX5_drop_8 : decode cX5_drop 8 = .ok (.iconst (-1), 1) := by decide +kernel
theorem dX5_drop_9 : decode cX5_drop 9 = .ok (.ireturn, 1) := by decide +kernel
theorem dX5_drop_10 : decode cX5_drop 10 = .ok (.aload_n 0, 1) := by decide +kernel
theorem dX5_drop_11 : decode cX5_drop 11 = .ok (.dup, 1) := by decide +kernel
theorem dX5_drop_12 : decode cX5_drop 12 = .ok (.getfield 24, 3) := by decide +kernel
theorem dX5_drop_15 : decode cX5_drop 15 = .ok (.iconst 1, 1) := by decide +kernel
theorem dX5_drop_16 : decode cX5_drop 16 = .ok (.isub, 1) := by decide +kernel
theorem dX5_drop_17 : decode cX5_drop 17 = .ok (.putfield 24, 3) := by decide +kernel
theorem dX5_drop_20 : decode cX5_drop 20 = .ok (.iload_n 1, 1) := by decide +kernel
theorem dX5_drop_21 : decode cX5_drop 21 = .ok (.istore_n 2, 1) := by decide +kernel
theorem dX5_drop_22 : decode cX5_drop 22 = .ok (.iload_n 2, 1) := by decide +kernel
theorem dX5_drop_23 : decode cX5_drop 23 = .ok (.aload_n 0, 1) := by decide +kernel
theorem dX5_drop_24 : decode cX5_drop 24 = .ok (.getfield 24, 3) := by decide +kernel
theorem dX5_drop_27 : decode cX5_drop 27 = .ok (.if_icmp .ge 18, 3) := by decide +kernel
theorem dX5_drop_30 : decode cX5_drop 30 = .ok (.aload_n 0, 1) := by decide +kernel
theorem dX5_drop_31 : decode cX5_drop 31 = .ok (.aload_n 0, 1) := by decide +kernel
theorem dX5_drop_32 : decode cX5_drop 32 = .ok (.iload_n 2, 1) := by decide +kernel
theorem dX5_drop_33 : decode cX5_drop 33 = .ok (.iconst 1, 1) := by decide +kernel
theorem dX5_drop_34 : decode cX5_drop 34 = .ok (.iadd, 1) := by decide +kernel
theorem dX5_drop_35 : decode cX5_drop 35 = .ok (.iload_n 2, 1) := by decide +kernel
theorem dX5_drop_36 : decode cX5_drop 36 = .ok (.invokevirtual 28, 3) := by decide +kernel
theorem dX5_drop_39 : decode cX5_drop 39 = .ok (.iinc 2 1, 3) := by decide +kernel
theorem dX5_drop_42 : decode cX5_drop 42 = .ok (.goto (-20), 3) := by decide +kernel
theorem dX5_drop_45 : decode cX5_drop 45 = .ok (.aload_n 0, 1) := by decide +kernel
theorem dX5_drop_46 : decode cX5_drop 46 = .ok (.getfield 24, 3) := by decide +kernel
theorem dX5_drop_49 : decode cX5_drop 49 = .ok (.ireturn, 1) := by decide +kernel
theorem dX5_stopAt_0 : decode cX5_stopAt 0 = .ok (.aload_n 0, 1) := by decide +kernel
theorem dX5_stopAt_1 : decode cX5_stopAt 1 = .ok (.iload_n 1, 1) := by decide +kernel
theorem dX5_stopAt_2 : decode cX5_stopAt 2 = .ok (.invokevirtual 55, 3) := by decide +kernel
theorem dX5_stopAt_5 : decode cX5_stopAt 5 = .ok (.ifCond .eq 10, 3) := by decide +kernel
theorem dX5_stopAt_8 : decode cX5_stopAt 8 = .ok (.iload_n 2, 1) := by decide +kernel
theorem dX5_stopAt_9 : decode cX5_stopAt 9 = .ok (.invokestatic 36, 3) := by decide +kernel
theorem dX5_stopAt_12 : decode cX5_stopAt 12 = .ok (.ifCond .ne 5, 3) := by decide +kernel
theorem dX5_stopAt_15 : decode cX5_stopAt 15 = .ok (.iconst (-1), 1) := by decide +kernel
theorem dX5_stopAt_16 : decode cX5_stopAt 16 = .ok (.ireturn, 1) := by decide +kernel
theorem dX5_stopAt_17 : decode cX5_stopAt 17 = .ok (.aload_n 0, 1) := by decide +kernel
theorem dX5_stopAt_18 : decode cX5_stopAt 18 = .ok (.getfield 21, 3) := by decide +kernel
theorem dX5_stopAt_21 : decode cX5_stopAt 21 = .ok (.iload_n 1, 1) := by decide +kernel
theorem dX5_stopAt_22 : decode cX5_stopAt 22 = .ok (.iaload, 1) := by decide +kernel
theorem dX5_stopAt_23 : decode cX5_stopAt 23 = .ok (.istore_n 3, 1) := by decide +kernel
theorem dX5_stopAt_24 : decode cX5_stopAt 24 = .ok (.iload_n 2, 1) := by decide +kernel
theorem dX5_stopAt_25 : decode cX5_stopAt 25 = .ok (.iload_n 3, 1) := by decide +kernel
theorem dX5_stopAt_26 : decode cX5_stopAt 26 = .ok (.if_icmp .eq 13, 3) := by decide +kernel
theorem dX5_stopAt_29 : decode cX5_stopAt 29 = .ok (.iload_n 2, 1) := by decide +kernel
theorem dX5_stopAt_30 : decode cX5_stopAt 30 = .ok (.aload_n 0, 1) := by decide +kernel
theorem dX5_stopAt_31 : decode cX5_stopAt 31 = .ok (.getfield 18, 3) := by decide +kernel
theorem dX5_stopAt_34 : decode cX5_stopAt 34 = .ok (.iload_n 1, 1) := by decide +kernel
theorem dX5_stopAt_35 : decode cX5_stopAt 35 = .ok (.iaload, 1) := by decide +kernel
theorem dX5_stopAt_36 : decode cX5_stopAt 36 = .ok (.if_icmp .ge 6, 3) := by decide +kernel
theorem dX5_stopAt_39 : decode cX5_stopAt 39 = .ok (.bipush (-3), 2) := by decide +kernel
theorem dX5_stopAt_41 : decode cX5_stopAt 41 = .ok (.ireturn, 1) := by decide +kernel
theorem dX5_stopAt_42 : decode cX5_stopAt 42 = .ok (.aload_n 0, 1) := by decide +kernel
theorem dX5_stopAt_43 : decode cX5_stopAt 43 = .ok (.aload_n 0, 1) := by decide +kernel
theorem dX5_stopAt_44 : decode cX5_stopAt 44 = .ok (.getfield 9, 3) := by decide +kernel
theorem dX5_stopAt_47 : decode cX5_stopAt 47 = .ok (.iload_n 1, 1) := by decide +kernel
theorem dX5_stopAt_48 : decode cX5_stopAt 48 = .ok (.iaload, 1) := by decide +kernel
theorem dX5_stopAt_49 : decode cX5_stopAt 49 = .ok (.aload_n 0, 1) := by decide +kernel
theorem dX5_stopAt_50 : decode cX5_stopAt 50 = .ok (.getfield 15, 3) := by decide +kernel
theorem dX5_stopAt_53 : decode cX5_stopAt 53 = .ok (.iload_n 1, 1) := by decide +kernel
theorem dX5_stopAt_54 : decode cX5_stopAt 54 = .ok (.iaload, 1) := by decide +kernel
theorem dX5_stopAt_55 : decode cX5_stopAt 55 = .ok (.iload_n 1, 1) := by decide +kernel
theorem dX5_stopAt_56 : decode cX5_stopAt 56 = .ok (.invokevirtual 39, 3) := by decide +kernel
theorem dX5_stopAt_59 : decode cX5_stopAt 59 = .ok (.aload_n 0, 1) := by decide +kernel
theorem dX5_stopAt_60 : decode cX5_stopAt 60 = .ok (.getfield 18, 3) := by decide +kernel
theorem dX5_stopAt_63 : decode cX5_stopAt 63 = .ok (.iload_n 1, 1) := by decide +kernel
theorem dX5_stopAt_64 : decode cX5_stopAt 64 = .ok (.iaload, 1) := by decide +kernel
theorem dX5_stopAt_65 : decode cX5_stopAt 65 = .ok (.iload_n 2, 1) := by decide +kernel
theorem dX5_stopAt_66 : decode cX5_stopAt 66 = .ok (.invokestatic 43, 3) := by decide +kernel
theorem dX5_stopAt_69 : decode cX5_stopAt 69 = .ok (.iand, 1) := by decide +kernel
theorem dX5_stopAt_70 : decode cX5_stopAt 70 = .ok (.ifCond .eq 6, 3) := by decide +kernel
theorem dX5_stopAt_73 : decode cX5_stopAt 73 = .ok (.bipush (-3), 2) := by decide +kernel
theorem dX5_stopAt_75 : decode cX5_stopAt 75 = .ok (.ireturn, 1) := by decide +kernel
theorem dX5_stopAt_76 : decode cX5_stopAt 76 = .ok (.aload_n 0, 1) := by decide +kernel
theorem dX5_stopAt_77 : decode cX5_stopAt 77 = .ok (.getfield 21, 3) := by decide +kernel
theorem dX5_stopAt_80 : decode cX5_stopAt 80 = .ok (.iload_n 1, 1) := by decide +kernel
theorem dX5_stopAt_81 : decode cX5_stopAt 81 = .ok (.iload_n 2, 1) := by decide +kernel
theorem dX5_stopAt_82 : decode cX5_stopAt 82 = .ok (.iastore, 1) := by decide +kernel
theorem dX5_stopAt_83 : decode cX5_stopAt 83 = .ok (.iload_n 3, 1) := by decide +kernel
theorem dX5_stopAt_84 : decode cX5_stopAt 84 = .ok (.ireturn, 1) := by decide +kernel
theorem dX5_isOf_0 : decode cX5_isOf 0 = .ok (.aload_n 0, 1) := by decide +kernel
theorem dX5_isOf_1 : decode cX5_isOf 1 = .ok (.getfield 9, 3) := by decide +kernel
theorem dX5_isOf_4 : decode cX5_isOf 4 = .ok (.iload_n 1, 1) := by decide +kernel
theorem dX5_isOf_5 : decode cX5_isOf 5 = .ok (.iaload, 1) := by decide +kernel
theorem dX5_isOf_6 : decode cX5_isOf 6 = .ok (.iload_n 2, 1) := by decide +kernel
theorem dX5_isOf_7 : decode cX5_isOf 7 = .ok (.iload_n 3, 1) := by decide +kernel
theorem dX5_isOf_8 : decode cX5_isOf 8 = .ok (.invokestatic 47, 3) := by decide +kernel
theorem dX5_isOf_11 : decode cX5_isOf 11 = .ok (.if_icmp .ne 21, 3) := by decide +kernel
theorem dX5_isOf_14 : decode cX5_isOf 14 = .ok (.aload_n 0, 1) := by decide +kernel
theorem dX5_isOf_15 : decode cX5_isOf 15 = .ok (.getfield 15, 3) := by decide +kernel
theorem dX5_isOf_18 : decode cX5_isOf 18 = .ok (.iload_n 1, 1) := by decide +kernel
theorem dX5_isOf_19 : decode cX5_isOf 19 = .ok (.iaload, 1) := by decide +kernel
theorem dX5_isOf_20 : decode cX5_isOf 20 = .ok (.iload_n 2, 1) := by decide +kernel
theorem dX5_isOf_21 : decode cX5_isOf 21 = .ok (.iload_n 3, 1) := by decide +kernel
theorem dX5_isOf_22 : decode cX5_isOf 22 = .ok (.invokestatic 52, 3) := by decide +kernel
theorem dX5_isOf_25 : decode cX5_isOf 25 = .ok (.if_icmp .ne 7, 3) := by decide +kernel
theorem dX5_isOf_28 : decode cX5_isOf 28 = .ok (.iconst 1, 1) := by decide +kernel
theorem dX5_isOf_29 : decode cX5_isOf 29 = .ok (.goto 4, 3) := by decide +kernel
theorem dX5_isOf_32 : decode cX5_isOf 32 = .ok (.iconst 0, 1) := by decide +kernel
theorem dX5_isOf_33 : decode cX5_isOf 33 = .ok (.ireturn, 1) := by decide +kernel
theorem dX5_lastOf_0 : decode cX5_lastOf 0 = .ok (.aload_n 0, 1) := by decide +kernel
theorem dX5_lastOf_1 : decode cX5_lastOf 1 = .ok (.getfield 24, 3) := by decide +kernel
theorem dX5_lastOf_4 : decode cX5_lastOf 4 = .ok (.iconst 1, 1) := by decide +kernel
theorem dX5_lastOf_5 : decode cX5_lastOf 5 = .ok (.isub, 1) := by decide +kernel
theorem dX5_lastOf_6 : decode cX5_lastOf 6 = .ok (.istore_n 3, 1) := by decide +kernel
theorem dX5_lastOf_7 : decode cX5_lastOf 7 = .ok (.iload_n 3, 1) := by decide +kernel
theorem dX5_lastOf_8 : decode cX5_lastOf 8 = .ok (.ifCond .lt 21, 3) := by decide +kernel
theorem dX5_lastOf_11 : decode cX5_lastOf 11 = .ok (.aload_n 0, 1) := by decide +kernel
theorem dX5_lastOf_12 : decode cX5_lastOf 12 = .ok (.iload_n 3, 1) := by decide +kernel
theorem dX5_lastOf_13 : decode cX5_lastOf 13 = .ok (.iload_n 1, 1) := by decide +kernel
theorem dX5_lastOf_14 : decode cX5_lastOf 14 = .ok (.iload_n 2, 1) := by decide +kernel
theorem dX5_lastOf_15 : decode cX5_lastOf 15 = .ok (.invokevirtual 58, 3) := by decide +kernel
theorem dX5_lastOf_18 : decode cX5_lastOf 18 = .ok (.ifCond .eq 5, 3) := by decide +kernel
theorem dX5_lastOf_21 : decode cX5_lastOf 21 = .ok (.iload_n 3, 1) := by decide +kernel
theorem dX5_lastOf_22 : decode cX5_lastOf 22 = .ok (.ireturn, 1) := by decide +kernel
theorem dX5_lastOf_23 : decode cX5_lastOf 23 = .ok (.iinc 3 (-1), 3) := by decide +kernel
theorem dX5_lastOf_26 : decode cX5_lastOf 26 = .ok (.goto (-19), 3) := by decide +kernel
theorem dX5_lastOf_29 : decode cX5_lastOf 29 = .ok (.bipush (-9), 2) := by decide +kernel
theorem dX5_lastOf_31 : decode cX5_lastOf 31 = .ok (.ireturn, 1) := by decide +kernel
theorem dX5_timesOf_0 : decode cX5_timesOf 0 = .ok (.iconst 0, 1) := by decide +kernel
theorem dX5_timesOf_1 : decode cX5_timesOf 1 = .ok (.istore 4, 2) := by decide +kernel
theorem dX5_timesOf_3 : decode cX5_timesOf 3 = .ok (.iconst 0, 1) := by decide +kernel
theorem dX5_timesOf_4 : decode cX5_timesOf 4 = .ok (.istore 5, 2) := by decide +kernel
theorem dX5_timesOf_6 : decode cX5_timesOf 6 = .ok (.iload 5, 2) := by decide +kernel
theorem dX5_timesOf_8 : decode cX5_timesOf 8 = .ok (.aload_n 0, 1) := by decide +kernel
theorem dX5_timesOf_9 : decode cX5_timesOf 9 = .ok (.getfield 24, 3) := by decide +kernel
theorem dX5_timesOf_12 : decode cX5_timesOf 12 = .ok (.if_icmp .ge 48, 3) := by decide +kernel
theorem dX5_timesOf_15 : decode cX5_timesOf 15 = .ok (.iload 5, 2) := by decide +kernel
theorem dX5_timesOf_17 : decode cX5_timesOf 17 = .ok (.iload_n 3, 1) := by decide +kernel
theorem dX5_timesOf_18 : decode cX5_timesOf 18 = .ok (.if_icmp .eq 36, 3) := by decide +kernel
theorem dX5_timesOf_21 : decode cX5_timesOf 21 = .ok (.aload_n 0, 1) := by decide +kernel
theorem dX5_timesOf_22 : decode cX5_timesOf 22 = .ok (.iload 5, 2) := by decide +kernel
theorem dX5_timesOf_24 : decode cX5_timesOf 24 = .ok (.iload_n 1, 1) := by decide +kernel
theorem dX5_timesOf_25 : decode cX5_timesOf 25 = .ok (.iload_n 2, 1) := by decide +kernel
theorem dX5_timesOf_26 : decode cX5_timesOf 26 = .ok (.invokevirtual 58, 3) := by decide +kernel
theorem dX5_timesOf_29 : decode cX5_timesOf 29 = .ok (.ifCond .eq 25, 3) := by decide +kernel
theorem dX5_timesOf_32 : decode cX5_timesOf 32 = .ok (.iload 4, 2) := by decide +kernel
theorem dX5_timesOf_34 : decode cX5_timesOf 34 = .ok (.aload_n 0, 1) := by decide +kernel
theorem dX5_timesOf_35 : decode cX5_timesOf 35 = .ok (.getfield 18, 3) := by decide +kernel
theorem dX5_timesOf_38 : decode cX5_timesOf 38 = .ok (.iload 5, 2) := by decide +kernel
theorem dX5_timesOf_40 : decode cX5_timesOf 40 = .ok (.iaload, 1) := by decide +kernel
theorem dX5_timesOf_41 : decode cX5_timesOf 41 = .ok (.aload_n 0, 1) := by decide +kernel
theorem dX5_timesOf_42 : decode cX5_timesOf 42 = .ok (.getfield 21, 3) := by decide +kernel
theorem dX5_timesOf_45 : decode cX5_timesOf 45 = .ok (.iload 5, 2) := by decide +kernel
theorem dX5_timesOf_47 : decode cX5_timesOf 47 = .ok (.iaload, 1) := by decide +kernel
theorem dX5_timesOf_48 : decode cX5_timesOf 48 = .ok (.invokestatic 43, 3) := by decide +kernel
theorem dX5_timesOf_51 : decode cX5_timesOf 51 = .ok (.ior, 1) := by decide +kernel
theorem dX5_timesOf_52 : decode cX5_timesOf 52 = .ok (.istore 4, 2) := by decide +kernel
theorem dX5_timesOf_54 : decode cX5_timesOf 54 = .ok (.iinc 5 1, 3) := by decide +kernel
theorem dX5_timesOf_57 : decode cX5_timesOf 57 = .ok (.goto (-51), 3) := by decide +kernel
theorem dX5_timesOf_60 : decode cX5_timesOf 60 = .ok (.iload 4, 2) := by decide +kernel
theorem dX5_timesOf_62 : decode cX5_timesOf 62 = .ok (.ireturn, 1) := by decide +kernel
theorem dX5_timesFilled_0 : decode cX5_timesFilled 0 = .ok (.iconst 0, 1) := by decide +kernel
theorem dX5_timesFilled_1 : decode cX5_timesFilled 1 = .ok (.istore_n 1, 1) := by decide +kernel
theorem dX5_timesFilled_2 : decode cX5_timesFilled 2 = .ok (.iconst 0, 1) := by decide +kernel
theorem dX5_timesFilled_3 : decode cX5_timesFilled 3 = .ok (.istore_n 2, 1) := by decide +kernel
theorem dX5_timesFilled_4 : decode cX5_timesFilled 4 = .ok (.iload_n 2, 1) := by decide +kernel
theorem dX5_timesFilled_5 : decode cX5_timesFilled 5 = .ok (.aload_n 0, 1) := by decide +kernel
theorem dX5_timesFilled_6 : decode cX5_timesFilled 6 = .ok (.getfield 24, 3) := by decide +kernel
theorem dX5_timesFilled_9 : decode cX5_timesFilled 9 = .ok (.if_icmp .ge 27, 3) := by decide +kernel
theorem dX5_timesFilled_12 : decode cX5_timesFilled 12 = .ok (.iload_n 1, 1) := by decide +kernel
theorem dX5_timesFilled_13 : decode cX5_timesFilled 13 = .ok (.aload_n 0, 1) := by decide +kernel
theorem dX5_timesFilled_14 : decode cX5_timesFilled 14 = .ok (.getfield 18, 3) := by decide +kernel
theorem dX5_timesFilled_17 : decode cX5_timesFilled 17 = .ok (.iload_n 2, 1) := by decide +kernel
theorem dX5_timesFilled_18 : decode cX5_timesFilled 18 = .ok (.iaload, 1) := by decide +kernel
theorem dX5_timesFilled_19 : decode cX5_timesFilled 19 = .ok (.aload_n 0, 1) := by decide +kernel
theorem dX5_timesFilled_20 : decode cX5_timesFilled 20 = .ok (.getfield 21, 3) := by decide +kernel
theorem dX5_timesFilled_23 : decode cX5_timesFilled 23 = .ok (.iload_n 2, 1) := by decide +kernel
theorem dX5_timesFilled_24 : decode cX5_timesFilled 24 = .ok (.iaload, 1) := by decide +kernel
theorem dX5_timesFilled_25 : decode cX5_timesFilled 25 = .ok (.invokestatic 43, 3) := by decide +kernel
theorem dX5_timesFilled_28 : decode cX5_timesFilled 28 = .ok (.ior, 1) := by decide +kernel
theorem dX5_timesFilled_29 : decode cX5_timesFilled 29 = .ok (.istore_n 1, 1) := by decide +kernel
theorem dX5_timesFilled_30 : decode cX5_timesFilled 30 = .ok (.iinc 2 1, 3) := by decide +kernel
theorem dX5_timesFilled_33 : decode cX5_timesFilled 33 = .ok (.goto (-29), 3) := by decide +kernel
theorem dX5_timesFilled_36 : decode cX5_timesFilled 36 = .ok (.iload_n 1, 1) := by decide +kernel
theorem dX5_timesFilled_37 : decode cX5_timesFilled 37 = .ok (.ireturn, 1) := by decide +kernel
theorem dX5_timesTogether_0 : decode cX5_timesTogether 0 = .ok (.iconst 0, 1) := by decide +kernel
theorem dX5_timesTogether_1 : decode cX5_timesTogether 1 = .ok (.istore_n 1, 1) := by decide +kernel
theorem dX5_timesTogether_2 : decode cX5_timesTogether 2 = .ok (.iconst 0, 1) := by decide +kernel
theorem dX5_timesTogether_3 : decode cX5_timesTogether 3 = .ok (.istore_n 2, 1) := by decide +kernel
theorem dX5_timesTogether_4 : decode cX5_timesTogether 4 = .ok (.iload_n 2, 1) := by decide +kernel
theorem dX5_timesTogether_5 : decode cX5_timesTogether 5 = .ok (.aload_n 0, 1) := by decide +kernel
theorem dX5_timesTogether_6 : decode cX5_timesTogether 6 = .ok (.getfield 24, 3) := by decide +kernel
theorem dX5_timesTogether_9 : decode cX5_timesTogether 9 = .ok (.if_icmp .ge 27, 3) := by decide +kernel
theorem dX5_timesTogether_12 : decode cX5_timesTogether 12 = .ok (.iload_n 1, 1) := by decide +kernel
theorem dX5_timesTogether_13 : decode cX5_timesTogether 13 = .ok (.aload_n 0, 1) := by decide +kernel
theorem dX5_timesTogether_14 : decode cX5_timesTogether 14 = .ok (.getfield 21, 3) := by decide +kernel
theorem dX5_timesTogether_17 : decode cX5_timesTogether 17 = .ok (.iload_n 2, 1) := by decide +kernel
theorem dX5_timesTogether_18 : decode cX5_timesTogether 18 = .ok (.iaload, 1) := by decide +kernel
theorem dX5_timesTogether_19 : decode cX5_timesTogether 19 = .ok (.aload_n 0, 1) := by decide +kernel
theorem dX5_timesTogether_20 : decode cX5_timesTogether 20 = .ok (.getfield 18, 3) := by decide +kernel
theorem dX5_timesTogether_23 : decode cX5_timesTogether 23 = .ok (.iload_n 2, 1) := by decide +kernel
theorem dX5_timesTogether_24 : decode cX5_timesTogether 24 = .ok (.iaload, 1) := by decide +kernel
theorem dX5_timesTogether_25 : decode cX5_timesTogether 25 = .ok (.isub, 1) := by decide +kernel
theorem dX5_timesTogether_26 : decode cX5_timesTogether 26 = .ok (.iconst 1, 1) := by decide +kernel
theorem dX5_timesTogether_27 : decode cX5_timesTogether 27 = .ok (.iadd, 1) := by decide +kernel
theorem dX5_timesTogether_28 : decode cX5_timesTogether 28 = .ok (.iadd, 1) := by decide +kernel
theorem dX5_timesTogether_29 : decode cX5_timesTogether 29 = .ok (.istore_n 1, 1) := by decide +kernel
theorem dX5_timesTogether_30 : decode cX5_timesTogether 30 = .ok (.iinc 2 1, 3) := by decide +kernel
theorem dX5_timesTogether_33 : decode cX5_timesTogether 33 = .ok (.goto (-29), 3) := by decide +kernel
theorem dX5_timesTogether_36 : decode cX5_timesTogether 36 = .ok (.iload_n 1, 1) := by decide +kernel
theorem dX5_timesTogether_37 : decode cX5_timesTogether 37 = .ok (.ireturn, 1) := by decide +kernel
theorem dX5_livesAt_0 : decode cX5_livesAt 0 = .ok (.aload_n 0, 1) := by decide +kernel
theorem dX5_livesAt_1 : decode cX5_livesAt 1 = .ok (.getfield 18, 3) := by decide +kernel
theorem dX5_livesAt_4 : decode cX5_livesAt 4 = .ok (.iload_n 1, 1) := by decide +kernel
theorem dX5_livesAt_5 : decode cX5_livesAt 5 = .ok (.iaload, 1) := by decide +kernel
theorem dX5_livesAt_6 : decode cX5_livesAt 6 = .ok (.iload_n 2, 1) := by decide +kernel
theorem dX5_livesAt_7 : decode cX5_livesAt 7 = .ok (.if_icmp .gt 17, 3) := by decide +kernel
theorem dX5_livesAt_10 : decode cX5_livesAt 10 = .ok (.iload_n 2, 1) := by decide +kernel
theorem dX5_livesAt_11 : decode cX5_livesAt 11 = .ok (.aload_n 0, 1) := by decide +kernel
theorem dX5_livesAt_12 : decode cX5_livesAt 12 = .ok (.getfield 21, 3) := by decide +kernel
theorem dX5_livesAt_15 : decode cX5_livesAt 15 = .ok (.iload_n 1, 1) := by decide +kernel
theorem dX5_livesAt_16 : decode cX5_livesAt 16 = .ok (.iaload, 1) := by decide +kernel
theorem dX5_livesAt_17 : decode cX5_livesAt 17 = .ok (.if_icmp .gt 7, 3) := by decide +kernel
theorem dX5_livesAt_20 : decode cX5_livesAt 20 = .ok (.iconst 1, 1) := by decide +kernel
theorem dX5_livesAt_21 : decode cX5_livesAt 21 = .ok (.goto 4, 3) := by decide +kernel
theorem dX5_livesAt_24 : decode cX5_livesAt 24 = .ok (.iconst 0, 1) := by decide +kernel
theorem dX5_livesAt_25 : decode cX5_livesAt 25 = .ok (.ireturn, 1) := by decide +kernel
theorem dX5_livingAt_0 : decode cX5_livingAt 0 = .ok (.iconst 0, 1) := by decide +kernel
theorem dX5_livingAt_1 : decode cX5_livingAt 1 = .ok (.istore_n 2, 1) := by decide +kernel
theorem dX5_livingAt_2 : decode cX5_livingAt 2 = .ok (.iconst 0, 1) := by decide +kernel
theorem dX5_livingAt_3 : decode cX5_livingAt 3 = .ok (.istore_n 3, 1) := by decide +kernel
theorem dX5_livingAt_4 : decode cX5_livingAt 4 = .ok (.iload_n 3, 1) := by decide +kernel
theorem dX5_livingAt_5 : decode cX5_livingAt 5 = .ok (.aload_n 0, 1) := by decide +kernel
theorem dX5_livingAt_6 : decode cX5_livingAt 6 = .ok (.getfield 24, 3) := by decide +kernel
theorem dX5_livingAt_9 : decode cX5_livingAt 9 = .ok (.if_icmp .ge 24, 3) := by decide +kernel
theorem dX5_livingAt_12 : decode cX5_livingAt 12 = .ok (.aload_n 0, 1) := by decide +kernel
theorem dX5_livingAt_13 : decode cX5_livingAt 13 = .ok (.iload_n 3, 1) := by decide +kernel
theorem dX5_livingAt_14 : decode cX5_livingAt 14 = .ok (.iload_n 1, 1) := by decide +kernel
theorem dX5_livingAt_15 : decode cX5_livingAt 15 = .ok (.invokevirtual 62, 3) := by decide +kernel
theorem dX5_livingAt_18 : decode cX5_livingAt 18 = .ok (.ifCond .eq 9, 3) := by decide +kernel
theorem dX5_livingAt_21 : decode cX5_livingAt 21 = .ok (.iload_n 2, 1) := by decide +kernel
theorem dX5_livingAt_22 : decode cX5_livingAt 22 = .ok (.iconst 1, 1) := by decide +kernel
theorem dX5_livingAt_23 : decode cX5_livingAt 23 = .ok (.iload_n 3, 1) := by decide +kernel
theorem dX5_livingAt_24 : decode cX5_livingAt 24 = .ok (.ishl, 1) := by decide +kernel
theorem dX5_livingAt_25 : decode cX5_livingAt 25 = .ok (.ior, 1) := by decide +kernel
theorem dX5_livingAt_26 : decode cX5_livingAt 26 = .ok (.istore_n 2, 1) := by decide +kernel
theorem dX5_livingAt_27 : decode cX5_livingAt 27 = .ok (.iinc 3 1, 3) := by decide +kernel
theorem dX5_livingAt_30 : decode cX5_livingAt 30 = .ok (.goto (-26), 3) := by decide +kernel
theorem dX5_livingAt_33 : decode cX5_livingAt 33 = .ok (.iload_n 2, 1) := by decide +kernel
theorem dX5_livingAt_34 : decode cX5_livingAt 34 = .ok (.ireturn, 1) := by decide +kernel
theorem dX5_fills_0 : decode cX5_fills 0 = .ok (.iload_n 2, 1) := by decide +kernel
theorem dX5_fills_1 : decode cX5_fills 1 = .ok (.iconst 1, 1) := by decide +kernel
theorem dX5_fills_2 : decode cX5_fills 2 = .ok (.if_icmp .ge 5, 3) := by decide +kernel
theorem dX5_fills_5 : decode cX5_fills 5 = .ok (.iconst 0, 1) := by decide +kernel
theorem dX5_fills_6 : decode cX5_fills 6 = .ok (.ireturn, 1) := by decide +kernel
theorem dX5_fills_7 : decode cX5_fills 7 = .ok (.iload_n 2, 1) := by decide +kernel
theorem dX5_fills_8 : decode cX5_fills 8 = .ok (.istore_n 3, 1) := by decide +kernel
theorem dX5_fills_9 : decode cX5_fills 9 = .ok (.iload_n 2, 1) := by decide +kernel
theorem dX5_fills_10 : decode cX5_fills 10 = .ok (.istore 4, 2) := by decide +kernel
theorem dX5_fills_12 : decode cX5_fills 12 = .ok (.iconst 1, 1) := by decide +kernel
theorem dX5_fills_13 : decode cX5_fills 13 = .ok (.istore 5, 2) := by decide +kernel
theorem dX5_fills_15 : decode cX5_fills 15 = .ok (.iload 5, 2) := by decide +kernel
theorem dX5_fills_17 : decode cX5_fills 17 = .ok (.iconst 5, 1) := by decide +kernel
theorem dX5_fills_18 : decode cX5_fills 18 = .ok (.if_icmp .ge 27, 3) := by decide +kernel
theorem dX5_fills_21 : decode cX5_fills 21 = .ok (.iload_n 3, 1) := by decide +kernel
theorem dX5_fills_22 : decode cX5_fills 22 = .ok (.bipush 16, 2) := by decide +kernel
theorem dX5_fills_24 : decode cX5_fills 24 = .ok (.if_icmp .ge 21, 3) := by decide +kernel
theorem dX5_fills_27 : decode cX5_fills 27 = .ok (.iconst 2, 1) := by decide +kernel
theorem dX5_fills_28 : decode cX5_fills 28 = .ok (.iload_n 3, 1) := by decide +kernel
theorem dX5_fills_29 : decode cX5_fills 29 = .ok (.imul, 1) := by decide +kernel
theorem dX5_fills_30 : decode cX5_fills 30 = .ok (.istore_n 3, 1) := by decide +kernel
theorem dX5_fills_31 : decode cX5_fills 31 = .ok (.iconst 2, 1) := by decide +kernel
theorem dX5_fills_32 : decode cX5_fills 32 = .ok (.iload 4, 2) := by decide +kernel
theorem dX5_fills_34 : decode cX5_fills 34 = .ok (.imul, 1) := by decide +kernel
theorem dX5_fills_35 : decode cX5_fills 35 = .ok (.iconst 1, 1) := by decide +kernel
theorem dX5_fills_36 : decode cX5_fills 36 = .ok (.iadd, 1) := by decide +kernel
theorem dX5_fills_37 : decode cX5_fills 37 = .ok (.istore 4, 2) := by decide +kernel
theorem dX5_fills_39 : decode cX5_fills 39 = .ok (.iinc 5 1, 3) := by decide +kernel
theorem dX5_fills_42 : decode cX5_fills 42 = .ok (.goto (-27), 3) := by decide +kernel
theorem dX5_fills_45 : decode cX5_fills 45 = .ok (.aload_n 0, 1) := by decide +kernel
theorem dX5_fills_46 : decode cX5_fills 46 = .ok (.getfield 18, 3) := by decide +kernel
theorem dX5_fills_49 : decode cX5_fills 49 = .ok (.iload_n 1, 1) := by decide +kernel
theorem dX5_fills_50 : decode cX5_fills 50 = .ok (.iaload, 1) := by decide +kernel
theorem dX5_fills_51 : decode cX5_fills 51 = .ok (.iload_n 3, 1) := by decide +kernel
theorem dX5_fills_52 : decode cX5_fills 52 = .ok (.bipush 16, 2) := by decide +kernel
theorem dX5_fills_54 : decode cX5_fills 54 = .ok (.isub, 1) := by decide +kernel
theorem dX5_fills_55 : decode cX5_fills 55 = .ok (.if_icmp .gt 21, 3) := by decide +kernel
theorem dX5_fills_58 : decode cX5_fills 58 = .ok (.iload 4, 2) := by decide +kernel
theorem dX5_fills_60 : decode cX5_fills 60 = .ok (.bipush 16, 2) := by decide +kernel
theorem dX5_fills_62 : decode cX5_fills 62 = .ok (.isub, 1) := by decide +kernel
theorem dX5_fills_63 : decode cX5_fills 63 = .ok (.aload_n 0, 1) := by decide +kernel
theorem dX5_fills_64 : decode cX5_fills 64 = .ok (.getfield 21, 3) := by decide +kernel
theorem dX5_fills_67 : decode cX5_fills 67 = .ok (.iload_n 1, 1) := by decide +kernel
theorem dX5_fills_68 : decode cX5_fills 68 = .ok (.iaload, 1) := by decide +kernel
theorem dX5_fills_69 : decode cX5_fills 69 = .ok (.if_icmp .gt 7, 3) := by decide +kernel
theorem dX5_fills_72 : decode cX5_fills 72 = .ok (.iconst 1, 1) := by decide +kernel
theorem dX5_fills_73 : decode cX5_fills 73 = .ok (.goto 4, 3) := by decide +kernel
theorem dX5_fills_76 : decode cX5_fills 76 = .ok (.iconst 0, 1) := by decide +kernel
theorem dX5_fills_77 : decode cX5_fills 77 = .ok (.ireturn, 1) := by decide +kernel
theorem dX5_lies_0 : decode cX5_lies 0 = .ok (.aload_n 0, 1) := by decide +kernel
theorem dX5_lies_1 : decode cX5_lies 1 = .ok (.iload_n 1, 1) := by decide +kernel
theorem dX5_lies_2 : decode cX5_lies 2 = .ok (.iload_n 2, 1) := by decide +kernel
theorem dX5_lies_3 : decode cX5_lies 3 = .ok (.invokevirtual 66, 3) := by decide +kernel
theorem dX5_lies_6 : decode cX5_lies 6 = .ok (.ifCond .eq 18, 3) := by decide +kernel
theorem dX5_lies_9 : decode cX5_lies 9 = .ok (.aload_n 0, 1) := by decide +kernel
theorem dX5_lies_10 : decode cX5_lies 10 = .ok (.iload_n 1, 1) := by decide +kernel
theorem dX5_lies_11 : decode cX5_lies 11 = .ok (.iload_n 2, 1) := by decide +kernel
theorem dX5_lies_12 : decode cX5_lies 12 = .ok (.iconst 2, 1) := by decide +kernel
theorem dX5_lies_13 : decode cX5_lies 13 = .ok (.idiv, 1) := by decide +kernel
theorem dX5_lies_14 : decode cX5_lies 14 = .ok (.invokevirtual 66, 3) := by decide +kernel
theorem dX5_lies_17 : decode cX5_lies 17 = .ok (.ifCond .ne 7, 3) := by decide +kernel
theorem dX5_lies_20 : decode cX5_lies 20 = .ok (.iconst 1, 1) := by decide +kernel
theorem dX5_lies_21 : decode cX5_lies 21 = .ok (.goto 4, 3) := by decide +kernel
theorem dX5_lies_24 : decode cX5_lies 24 = .ok (.iconst 0, 1) := by decide +kernel
theorem dX5_lies_25 : decode cX5_lies 25 = .ok (.ireturn, 1) := by decide +kernel
theorem dX5_lyingOn_0 : decode cX5_lyingOn 0 = .ok (.iconst 0, 1) := by decide +kernel
theorem dX5_lyingOn_1 : decode cX5_lyingOn 1 = .ok (.istore_n 2, 1) := by decide +kernel
theorem dX5_lyingOn_2 : decode cX5_lyingOn 2 = .ok (.iconst 0, 1) := by decide +kernel
theorem dX5_lyingOn_3 : decode cX5_lyingOn 3 = .ok (.istore_n 3, 1) := by decide +kernel
theorem dX5_lyingOn_4 : decode cX5_lyingOn 4 = .ok (.iload_n 3, 1) := by decide +kernel
theorem dX5_lyingOn_5 : decode cX5_lyingOn 5 = .ok (.aload_n 0, 1) := by decide +kernel
theorem dX5_lyingOn_6 : decode cX5_lyingOn 6 = .ok (.getfield 24, 3) := by decide +kernel
theorem dX5_lyingOn_9 : decode cX5_lyingOn 9 = .ok (.if_icmp .ge 24, 3) := by decide +kernel
theorem dX5_lyingOn_12 : decode cX5_lyingOn 12 = .ok (.aload_n 0, 1) := by decide +kernel
theorem dX5_lyingOn_13 : decode cX5_lyingOn 13 = .ok (.iload_n 3, 1) := by decide +kernel
theorem dX5_lyingOn_14 : decode cX5_lyingOn 14 = .ok (.iload_n 1, 1) := by decide +kernel
theorem dX5_lyingOn_15 : decode cX5_lyingOn 15 = .ok (.invokevirtual 69, 3) := by decide +kernel
theorem dX5_lyingOn_18 : decode cX5_lyingOn 18 = .ok (.ifCond .eq 9, 3) := by decide +kernel
theorem dX5_lyingOn_21 : decode cX5_lyingOn 21 = .ok (.iload_n 2, 1) := by decide +kernel
theorem dX5_lyingOn_22 : decode cX5_lyingOn 22 = .ok (.iconst 1, 1) := by decide +kernel
theorem dX5_lyingOn_23 : decode cX5_lyingOn 23 = .ok (.iload_n 3, 1) := by decide +kernel
theorem dX5_lyingOn_24 : decode cX5_lyingOn 24 = .ok (.ishl, 1) := by decide +kernel
theorem dX5_lyingOn_25 : decode cX5_lyingOn 25 = .ok (.ior, 1) := by decide +kernel
theorem dX5_lyingOn_26 : decode cX5_lyingOn 26 = .ok (.istore_n 2, 1) := by decide +kernel
theorem dX5_lyingOn_27 : decode cX5_lyingOn 27 = .ok (.iinc 3 1, 3) := by decide +kernel
theorem dX5_lyingOn_30 : decode cX5_lyingOn 30 = .ok (.goto (-26), 3) := by decide +kernel
theorem dX5_lyingOn_33 : decode cX5_lyingOn 33 = .ok (.iload_n 2, 1) := by decide +kernel
theorem dX5_lyingOn_34 : decode cX5_lyingOn 34 = .ok (.ireturn, 1) := by decide +kernel
theorem dX5_howManyNodes_0 : decode cX5_howManyNodes 0 = .ok (.iconst 0, 1) := by decide +kernel
theorem dX5_howManyNodes_1 : decode cX5_howManyNodes 1 = .ok (.istore_n 2, 1) := by decide +kernel
theorem dX5_howManyNodes_2 : decode cX5_howManyNodes 2 = .ok (.iconst 1, 1) := by decide +kernel
theorem dX5_howManyNodes_3 : decode cX5_howManyNodes 3 = .ok (.istore_n 3, 1) := by decide +kernel
theorem dX5_howManyNodes_4 : decode cX5_howManyNodes 4 = .ok (.iload_n 3, 1) := by decide +kernel
theorem dX5_howManyNodes_5 : decode cX5_howManyNodes 5 = .ok (.bipush 31, 2) := by decide +kernel
theorem dX5_howManyNodes_7 : decode cX5_howManyNodes 7 = .ok (.if_icmp .gt 21, 3) := by decide +kernel
theorem dX5_howManyNodes_10 : decode cX5_howManyNodes 10 = .ok (.aload_n 0, 1) := by decide +kernel
theorem dX5_howManyNodes_11 : decode cX5_howManyNodes 11 = .ok (.iload_n 1, 1) := by decide +kernel
theorem dX5_howManyNodes_12 : decode cX5_howManyNodes 12 = .ok (.iload_n 3, 1) := by decide +kernel
theorem dX5_howManyNodes_13 : decode cX5_howManyNodes 13 = .ok (.invokevirtual 69, 3) := by decide +kernel
theorem dX5_howManyNodes_16 : decode cX5_howManyNodes 16 = .ok (.ifCond .eq 6, 3) := by decide +kernel
theorem dX5_howManyNodes_19 : decode cX5_howManyNodes 19 = .ok (.iinc 2 1, 3) := by decide +kernel
theorem dX5_howManyNodes_22 : decode cX5_howManyNodes 22 = .ok (.iinc 3 1, 3) := by decide +kernel
theorem dX5_howManyNodes_25 : decode cX5_howManyNodes 25 = .ok (.goto (-21), 3) := by decide +kernel
theorem dX5_howManyNodes_28 : decode cX5_howManyNodes 28 = .ok (.iload_n 2, 1) := by decide +kernel
theorem dX5_howManyNodes_29 : decode cX5_howManyNodes 29 = .ok (.ireturn, 1) := by decide +kernel
theorem dJ6_bitCount_0f7a4_0 : decode cJ6_bitCount_0f7a4 0 = .ok (.iload_n 0, 1) := by decide +kernel
theorem dJ6_bitCount_0f7a4_1 : decode cJ6_bitCount_0f7a4 1 = .ok (.iload_n 0, 1) := by decide +kernel
theorem dJ6_bitCount_0f7a4_2 : decode cJ6_bitCount_0f7a4 2 = .ok (.iconst 1, 1) := by decide +kernel
theorem dJ6_bitCount_0f7a4_3 : decode cJ6_bitCount_0f7a4 3 = .ok (.iushr, 1) := by decide +kernel
theorem dJ6_bitCount_0f7a4_4 : decode cJ6_bitCount_0f7a4 4 = .ok (.ldc_w 265, 3) := by decide +kernel
theorem dJ6_bitCount_0f7a4_7 : decode cJ6_bitCount_0f7a4 7 = .ok (.iand, 1) := by decide +kernel
theorem dJ6_bitCount_0f7a4_8 : decode cJ6_bitCount_0f7a4 8 = .ok (.isub, 1) := by decide +kernel
theorem dJ6_bitCount_0f7a4_9 : decode cJ6_bitCount_0f7a4 9 = .ok (.istore_n 0, 1) := by decide +kernel
theorem dJ6_bitCount_0f7a4_10 : decode cJ6_bitCount_0f7a4 10 = .ok (.iload_n 0, 1) := by decide +kernel
theorem dJ6_bitCount_0f7a4_11 : decode cJ6_bitCount_0f7a4 11 = .ok (.ldc_w 266, 3) := by decide +kernel
theorem dJ6_bitCount_0f7a4_14 : decode cJ6_bitCount_0f7a4 14 = .ok (.iand, 1) := by decide +kernel
theorem dJ6_bitCount_0f7a4_15 : decode cJ6_bitCount_0f7a4 15 = .ok (.iload_n 0, 1) := by decide +kernel
theorem dJ6_bitCount_0f7a4_16 : decode cJ6_bitCount_0f7a4 16 = .ok (.iconst 2, 1) := by decide +kernel
theorem dJ6_bitCount_0f7a4_17 : decode cJ6_bitCount_0f7a4 17 = .ok (.iushr, 1) := by decide +kernel
theorem dJ6_bitCount_0f7a4_18 : decode cJ6_bitCount_0f7a4 18 = .ok (.ldc_w 266, 3) := by decide +kernel
theorem dJ6_bitCount_0f7a4_21 : decode cJ6_bitCount_0f7a4 21 = .ok (.iand, 1) := by decide +kernel
theorem dJ6_bitCount_0f7a4_22 : decode cJ6_bitCount_0f7a4 22 = .ok (.iadd, 1) := by decide +kernel
theorem dJ6_bitCount_0f7a4_23 : decode cJ6_bitCount_0f7a4 23 = .ok (.istore_n 0, 1) := by decide +kernel
theorem dJ6_bitCount_0f7a4_24 : decode cJ6_bitCount_0f7a4 24 = .ok (.iload_n 0, 1) := by decide +kernel
theorem dJ6_bitCount_0f7a4_25 : decode cJ6_bitCount_0f7a4 25 = .ok (.iload_n 0, 1) := by decide +kernel
theorem dJ6_bitCount_0f7a4_26 : decode cJ6_bitCount_0f7a4 26 = .ok (.iconst 4, 1) := by decide +kernel
theorem dJ6_bitCount_0f7a4_27 : decode cJ6_bitCount_0f7a4 27 = .ok (.iushr, 1) := by decide +kernel
theorem dJ6_bitCount_0f7a4_28 : decode cJ6_bitCount_0f7a4 28 = .ok (.iadd, 1) := by decide +kernel
theorem dJ6_bitCount_0f7a4_29 : decode cJ6_bitCount_0f7a4 29 = .ok (.ldc_w 267, 3) := by decide +kernel
theorem dJ6_bitCount_0f7a4_32 : decode cJ6_bitCount_0f7a4 32 = .ok (.iand, 1) := by decide +kernel
theorem dJ6_bitCount_0f7a4_33 : decode cJ6_bitCount_0f7a4 33 = .ok (.istore_n 0, 1) := by decide +kernel
theorem dJ6_bitCount_0f7a4_34 : decode cJ6_bitCount_0f7a4 34 = .ok (.iload_n 0, 1) := by decide +kernel
theorem dJ6_bitCount_0f7a4_35 : decode cJ6_bitCount_0f7a4 35 = .ok (.iload_n 0, 1) := by decide +kernel
theorem dJ6_bitCount_0f7a4_36 : decode cJ6_bitCount_0f7a4 36 = .ok (.bipush 8, 2) := by decide +kernel
theorem dJ6_bitCount_0f7a4_38 : decode cJ6_bitCount_0f7a4 38 = .ok (.iushr, 1) := by decide +kernel
theorem dJ6_bitCount_0f7a4_39 : decode cJ6_bitCount_0f7a4 39 = .ok (.iadd, 1) := by decide +kernel
theorem dJ6_bitCount_0f7a4_40 : decode cJ6_bitCount_0f7a4 40 = .ok (.istore_n 0, 1) := by decide +kernel
theorem dJ6_bitCount_0f7a4_41 : decode cJ6_bitCount_0f7a4 41 = .ok (.iload_n 0, 1) := by decide +kernel
theorem dJ6_bitCount_0f7a4_42 : decode cJ6_bitCount_0f7a4 42 = .ok (.iload_n 0, 1) := by decide +kernel
theorem dJ6_bitCount_0f7a4_43 : decode cJ6_bitCount_0f7a4 43 = .ok (.bipush 16, 2) := by decide +kernel
theorem dJ6_bitCount_0f7a4_45 : decode cJ6_bitCount_0f7a4 45 = .ok (.iushr, 1) := by decide +kernel
theorem dJ6_bitCount_0f7a4_46 : decode cJ6_bitCount_0f7a4 46 = .ok (.iadd, 1) := by decide +kernel
theorem dJ6_bitCount_0f7a4_47 : decode cJ6_bitCount_0f7a4 47 = .ok (.istore_n 0, 1) := by decide +kernel
theorem dJ6_bitCount_0f7a4_48 : decode cJ6_bitCount_0f7a4 48 = .ok (.iload_n 0, 1) := by decide +kernel
theorem dJ6_bitCount_0f7a4_49 : decode cJ6_bitCount_0f7a4 49 = .ok (.bipush 63, 2) := by decide +kernel
theorem dJ6_bitCount_0f7a4_51 : decode cJ6_bitCount_0f7a4 51 = .ok (.iand, 1) := by decide +kernel
theorem dJ6_bitCount_0f7a4_52 : decode cJ6_bitCount_0f7a4 52 = .ok (.ireturn, 1) := by decide +kernel
theorem dJ9_max_7cf53_0 : decode cJ9_max_7cf53 0 = .ok (.iload_n 0, 1) := by decide +kernel
theorem dJ9_max_7cf53_1 : decode cJ9_max_7cf53 1 = .ok (.iload_n 1, 1) := by decide +kernel
theorem dJ9_max_7cf53_2 : decode cJ9_max_7cf53 2 = .ok (.if_icmp .lt 7, 3) := by decide +kernel
theorem dJ9_max_7cf53_5 : decode cJ9_max_7cf53 5 = .ok (.iload_n 0, 1) := by decide +kernel
theorem dJ9_max_7cf53_6 : decode cJ9_max_7cf53 6 = .ok (.goto 4, 3) := by decide +kernel
theorem dJ9_max_7cf53_9 : decode cJ9_max_7cf53 9 = .ok (.iload_n 1, 1) := by decide +kernel
theorem dJ9_max_7cf53_10 : decode cJ9_max_7cf53 10 = .ok (.ireturn, 1) := by decide +kernel
theorem dJ9_min_7cf53_0 : decode cJ9_min_7cf53 0 = .ok (.iload_n 0, 1) := by decide +kernel
theorem dJ9_min_7cf53_1 : decode cJ9_min_7cf53 1 = .ok (.iload_n 1, 1) := by decide +kernel
theorem dJ9_min_7cf53_2 : decode cJ9_min_7cf53 2 = .ok (.if_icmp .gt 7, 3) := by decide +kernel
theorem dJ9_min_7cf53_5 : decode cJ9_min_7cf53 5 = .ok (.iload_n 0, 1) := by decide +kernel
theorem dJ9_min_7cf53_6 : decode cJ9_min_7cf53 6 = .ok (.goto 4, 3) := by decide +kernel
theorem dJ9_min_7cf53_9 : decode cJ9_min_7cf53 9 = .ok (.iload_n 1, 1) := by decide +kernel
theorem dJ9_min_7cf53_10 : decode cJ9_min_7cf53 10 = .ok (.ireturn, 1) := by decide +kernel
end
section
theorem dX6_init_0 : decode cX6_init 0 = .ok (.aload_n 0, 1) := by decide +kernel
theorem dX6_init_1 : decode cX6_init 1 = .ok (.invokespecial 1, 3) := by decide +kernel
theorem dX6_init_4 : decode cX6_init 4 = .ok (.aload_n 0, 1) := by decide +kernel
theorem dX6_init_5 : decode cX6_init 5 = .ok (.new 7, 3) := by decide +kernel
theorem dX6_init_8 : decode cX6_init 8 = .ok (.dup, 1) := by decide +kernel
theorem dX6_init_9 : decode cX6_init 9 = .ok (.invokespecial 9, 3) := by decide +kernel
theorem dX6_init_12 : decode cX6_init 12 = .ok (.putfield 10, 3) := by decide +kernel
theorem dX6_init_15 : decode cX6_init 15 = .ok (.aload_n 0, 1) := by decide +kernel
theorem dX6_init_16 : decode cX6_init 16 = .ok (.new 16, 3) := by decide +kernel
theorem dX6_init_19 : decode cX6_init 19 = .ok (.dup, 1) := by decide +kernel
theorem dX6_init_20 : decode cX6_init 20 = .ok (.invokespecial 18, 3) := by decide +kernel
theorem dX6_init_23 : decode cX6_init 23 = .ok (.putfield 19, 3) := by decide +kernel
theorem dX6_init_26 : decode cX6_init 26 = .ok (.aload_n 0, 1) := by decide +kernel
theorem dX6_init_27 : decode cX6_init 27 = .ok (.new 16, 3) := by decide +kernel
theorem dX6_init_30 : decode cX6_init 30 = .ok (.dup, 1) := by decide +kernel
theorem dX6_init_31 : decode cX6_init 31 = .ok (.invokespecial 18, 3) := by decide +kernel
theorem dX6_init_34 : decode cX6_init 34 = .ok (.putfield 23, 3) := by decide +kernel
theorem dX6_init_37 : decode cX6_init 37 = .ok (.aload_n 0, 1) := by decide +kernel
theorem dX6_init_38 : decode cX6_init 38 = .ok (.new 26, 3) := by decide +kernel
theorem dX6_init_41 : decode cX6_init 41 = .ok (.dup, 1) := by decide +kernel
theorem dX6_init_42 : decode cX6_init 42 = .ok (.invokespecial 28, 3) := by decide +kernel
theorem dX6_init_45 : decode cX6_init 45 = .ok (.putfield 29, 3) := by decide +kernel
theorem dX6_init_48 : decode cX6_init 48 = .ok (.aload_n 0, 1) := by decide +kernel
theorem dX6_init_49 : decode cX6_init 49 = .ok (.new 33, 3) := by decide +kernel
theorem dX6_init_52 : decode cX6_init 52 = .ok (.dup, 1) := by decide +kernel
theorem dX6_init_53 : decode cX6_init 53 = .ok (.invokespecial 35, 3) := by decide +kernel
theorem dX6_init_56 : decode cX6_init 56 = .ok (.putfield 36, 3) := by decide +kernel
theorem dX6_init_59 : decode cX6_init 59 = .ok (.aload_n 0, 1) := by decide +kernel
theorem dX6_init_60 : decode cX6_init 60 = .ok (.new 40, 3) := by decide +kernel
theorem dX6_init_63 : decode cX6_init 63 = .ok (.dup, 1) := by decide +kernel
theorem dX6_init_64 : decode cX6_init 64 = .ok (.invokespecial 42, 3) := by decide +kernel
theorem dX6_init_67 : decode cX6_init 67 = .ok (.putfield 43, 3) := by decide +kernel
theorem dX6_init_70 : decode cX6_init 70 = .ok (.aload_n 0, 1) := by decide +kernel
theorem dX6_init_71 : decode cX6_init 71 = .ok (.new 47, 3) := by decide +kernel
theorem dX6_init_74 : decode cX6_init 74 = .ok (.dup, 1) := by decide +kernel
theorem dX6_init_75 : decode cX6_init 75 = .ok (.invokespecial 49, 3) := by decide +kernel
theorem dX6_init_78 : decode cX6_init 78 = .ok (.putfield 50, 3) := by decide +kernel
theorem dX6_init_81 : decode cX6_init 81 = .ok (.aload_n 0, 1) := by decide +kernel
theorem dX6_init_82 : decode cX6_init 82 = .ok (.iconst 2, 1) := by decide +kernel
theorem dX6_init_83 : decode cX6_init 83 = .ok (.anewarray 16, 3) := by decide +kernel
theorem dX6_init_86 : decode cX6_init 86 = .ok (.putfield 54, 3) := by decide +kernel
theorem dX6_init_89 : decode cX6_init 89 = .ok (.aload_n 0, 1) := by decide +kernel
theorem dX6_init_90 : decode cX6_init 90 = .ok (.iconst 2, 1) := by decide +kernel
theorem dX6_init_91 : decode cX6_init 91 = .ok (.newarray .boolean, 2) := by decide +kernel
theorem dX6_init_93 : decode cX6_init 93 = .ok (.putfield 58, 3) := by decide +kernel
theorem dX6_init_96 : decode cX6_init 96 = .ok (.iconst 0, 1) := by decide +kernel
theorem dX6_init_97 : decode cX6_init 97 = .ok (.istore_n 1, 1) := by decide +kernel
theorem dX6_init_98 : decode cX6_init 98 = .ok (.iload_n 1, 1) := by decide +kernel
theorem dX6_init_99 : decode cX6_init 99 = .ok (.iconst 2, 1) := by decide +kernel
theorem dX6_init_100 : decode cX6_init 100 = .ok (.if_icmp .ge 22, 3) := by decide +kernel
theorem dX6_init_103 : decode cX6_init 103 = .ok (.aload_n 0, 1) := by decide +kernel
theorem dX6_init_104 : decode cX6_init 104 = .ok (.getfield 54, 3) := by decide +kernel
theorem dX6_init_107 : decode cX6_init 107 = .ok (.iload_n 1, 1) := by decide +kernel
theorem dX6_init_108 : decode cX6_init 108 = .ok (.new 16, 3) := by decide +kernel
theorem dX6_init_111 : decode cX6_init 111 = .ok (.dup, 1) := by decide +kernel
theorem dX6_init_112 : decode cX6_init 112 = .ok (.invokespecial 18, 3) := by decide +kernel
theorem dX6_init_115 : decode cX6_init 115 = .ok (.aastore, 1) := by decide +kernel
theorem dX6_init_116 : decode cX6_init 116 = .ok (.iinc 1 1, 3) := by decide +kernel
theorem dX6_init_119 : decode cX6_init 119 = .ok (.goto (-21), 3) := by decide +kernel
theorem dX6_init_122 : decode cX6_init 122 = .ok (.return_, 1) := by decide +kernel
theorem dX6_write_0 : decode cX6_write 0 = .ok (.iload_n 1, 1) := by decide +kernel
theorem dX6_write_1 : decode cX6_write 1 = .ok (.ifCond .lt 10, 3) := by decide +kernel
theorem dX6_write_4 : decode cX6_write 4 = .ok (.iload_n 1, 1) := by decide +kernel
theorem dX6_write_5 : decode cX6_write 5 = .ok (.sipush 255, 3) := by decide +kernel
theorem dX6_write_8 : decode cX6_write 8 = .ok (.if_icmp .le 6, 3) := by decide +kernel
theorem dX6_write_11 : decode cX6_write 11 = .ok (.bipush (-2), 2) := by decide +kernel
theorem dX6_write_13 : decode cX6_write 13 = .ok (.ireturn, 1) := by decide +kernel
theorem dX6_write_14 : decode cX6_write 14 = .ok (.aload_n 0, 1) := by decide +kernel
theorem dX6_write_15 : decode cX6_write 15 = .ok (.getfield 10, 3) := by decide +kernel
theorem dX6_write_18 : decode cX6_write 18 = .ok (.iload_n 1, 1) := by decide +kernel
theorem dX6_write_19 : decode cX6_write 19 = .ok (.invokevirtual 62, 3) := by decide +kernel
theorem dX6_write_22 : decode cX6_write 22 = .ok (.ireturn, 1) := by decide +kernel
theorem dX6_wipe_0 : decode cX6_wipe 0 = .ok (.aload_n 0, 1) := by decide +kernel
theorem dX6_wipe_1 : decode cX6_wipe 1 = .ok (.getfield 10, 3) := by decide +kernel
theorem dX6_wipe_4 : decode cX6_wipe 4 = .ok (.getfield 66, 3) := by decide +kernel
theorem dX6_wipe_7 : decode cX6_wipe 7 = .ok (.istore_n 1, 1) := by decide +kernel
theorem dX6_wipe_8 : decode cX6_wipe 8 = .ok (.aload_n 0, 1) := by decide +kernel
theorem dX6_wipe_9 : decode cX6_wipe 9 = .ok (.getfield 10, 3) := by decide +kernel
theorem dX6_wipe_12 : decode cX6_wipe 12 = .ok (.iconst 0, 1) := by decide +kernel
theorem dX6_wipe_13 : decode cX6_wipe 13 = .ok (.putfield 66, 3) := by decide +kernel
theorem dX6_wipe_16 : decode cX6_wipe 16 = .ok (.iload_n 1, 1) := by decide +kernel
theorem dX6_wipe_17 : decode cX6_wipe 17 = .ok (.ireturn, 1) := by decide +kernel
theorem dX6_fault_0 : decode cX6_fault 0 = .ok (.aload_n 0, 1) := by decide +kernel
theorem dX6_fault_1 : decode cX6_fault 1 = .ok (.getfield 10, 3) := by decide +kernel
theorem dX6_fault_4 : decode cX6_fault 4 = .ok (.invokevirtual 70, 3) := by decide +kernel
theorem dX6_fault_7 : decode cX6_fault 7 = .ok (.ireturn, 1) := by decide +kernel
theorem dX6_life_0 : decode cX6_life 0 = .ok (.aload_n 0, 1) := by decide +kernel
theorem dX6_life_1 : decode cX6_life 1 = .ok (.getfield 10, 3) := by decide +kernel
theorem dX6_life_4 : decode cX6_life 4 = .ok (.invokevirtual 70, 3) := by decide +kernel
theorem dX6_life_7 : decode cX6_life 7 = .ok (.bipush (-9), 2) := by decide +kernel
theorem dX6_life_9 : decode cX6_life 9 = .ok (.if_icmp .eq 6, 3) := by decide +kernel
theorem dX6_life_12 : decode cX6_life 12 = .ok (.bipush (-3), 2) := by decide +kernel
theorem dX6_life_14 : decode cX6_life 14 = .ok (.ireturn, 1) := by decide +kernel
theorem dX6_life_15 : decode cX6_life 15 = .ok (.aload_n 0, 1) := by decide +kernel
theorem dX6_life_16 : decode cX6_life 16 = .ok (.getfield 10, 3) := by decide +kernel
theorem dX6_life_19 : decode cX6_life 19 = .ok (.aload_n 0, 1) := by decide +kernel
theorem dX6_life_20 : decode cX6_life 20 = .ok (.getfield 19, 3) := by decide +kernel
theorem dX6_life_23 : decode cX6_life 23 = .ok (.invokevirtual 74, 3) := by decide +kernel
theorem dX6_life_26 : decode cX6_life 26 = .ok (.aload_n 0, 1) := by decide +kernel
theorem dX6_life_27 : decode cX6_life 27 = .ok (.getfield 29, 3) := by decide +kernel
theorem dX6_life_30 : decode cX6_life 30 = .ok (.iconst 0, 1) := by decide +kernel
theorem dX6_life_31 : decode cX6_life 31 = .ok (.putfield 78, 3) := by decide +kernel
theorem dX6_life_34 : decode cX6_life 34 = .ok (.iconst 0, 1) := by decide +kernel
theorem dX6_life_35 : decode cX6_life 35 = .ok (.istore_n 1, 1) := by decide +kernel
theorem dX6_life_36 : decode cX6_life 36 = .ok (.iload_n 1, 1) := by decide +kernel
theorem dX6_life_37 : decode cX6_life 37 = .ok (.iconst 2, 1) := by decide +kernel
theorem dX6_life_38 : decode cX6_life 38 = .ok (.if_icmp .ge 16, 3) := by decide +kernel
theorem dX6_life_41 : decode cX6_life 41 = .ok (.aload_n 0, 1) := by decide +kernel
theorem dX6_life_42 : decode cX6_life 42 = .ok (.getfield 58, 3) := by decide +kernel
theorem dX6_life_45 : decode cX6_life 45 = .ok (.iload_n 1, 1) := by decide +kernel
theorem dX6_life_46 : decode cX6_life 46 = .ok (.iconst 0, 1) := by decide +kernel
theorem dX6_life_47 : decode cX6_life 47 = .ok (.bastore, 1) := by decide +kernel
theorem dX6_life_48 : decode cX6_life 48 = .ok (.iinc 1 1, 3) := by decide +kernel
theorem dX6_life_51 : decode cX6_life 51 = .ok (.goto (-15), 3) := by decide +kernel
theorem dX6_life_54 : decode cX6_life 54 = .ok (.aload_n 0, 1) := by decide +kernel
theorem dX6_life_55 : decode cX6_life 55 = .ok (.getfield 19, 3) := by decide +kernel
theorem dX6_life_58 : decode cX6_life 58 = .ok (.getfield 81, 3) := by decide +kernel
theorem dX6_life_61 : decode cX6_life 61 = .ok (.ireturn, 1) := by decide +kernel
theorem dX6_span_0 : decode cX6_span 0 = .ok (.aload_n 0, 1) := by decide +kernel
theorem dX6_span_1 : decode cX6_span 1 = .ok (.getfield 19, 3) := by decide +kernel
theorem dX6_span_4 : decode cX6_span 4 = .ok (.iload_n 1, 1) := by decide +kernel
theorem dX6_span_5 : decode cX6_span 5 = .ok (.invokevirtual 82, 3) := by decide +kernel
theorem dX6_span_8 : decode cX6_span 8 = .ok (.ifCond .ne 5, 3) := by decide +kernel
theorem dX6_span_11 : decode cX6_span 11 = .ok (.iconst (-1), 1) := by decide +kernel
theorem dX6_span_12 : decode cX6_span 12 = .ok (.ireturn, 1) := by decide +kernel
theorem dX6_span_13 : decode cX6_span 13 = .ok (.iload_n 2, 1) := by decide +kernel
theorem dX6_span_14 : decode cX6_span 14 = .ok (.tableswitch 83 0 4 #[34, 44, 54, 64, 74], 34) := by decide +kernel
theorem dX6_span_48 : decode cX6_span 48 = .ok (.aload_n 0, 1) := by decide +kernel
theorem dX6_span_49 : decode cX6_span 49 = .ok (.getfield 19, 3) := by decide +kernel
theorem dX6_span_52 : decode cX6_span 52 = .ok (.getfield 86, 3) := by decide +kernel
theorem dX6_span_55 : decode cX6_span 55 = .ok (.iload_n 1, 1) := by decide +kernel
theorem dX6_span_56 : decode cX6_span 56 = .ok (.iaload, 1) := by decide +kernel
theorem dX6_span_57 : decode cX6_span 57 = .ok (.ireturn, 1) := by decide +kernel
theorem dX6_span_58 : decode cX6_span 58 = .ok (.aload_n 0, 1) := by decide +kernel
theorem dX6_span_59 : decode cX6_span 59 = .ok (.getfield 19, 3) := by decide +kernel
theorem dX6_span_62 : decode cX6_span 62 = .ok (.getfield 90, 3) := by decide +kernel
theorem dX6_span_65 : decode cX6_span 65 = .ok (.iload_n 1, 1) := by decide +kernel
theorem dX6_span_66 : decode cX6_span 66 = .ok (.iaload, 1) := by decide +kernel
theorem dX6_span_67 : decode cX6_span 67 = .ok (.ireturn, 1) := by decide +kernel
theorem dX6_span_68 : decode cX6_span 68 = .ok (.aload_n 0, 1) := by decide +kernel
theorem dX6_span_69 : decode cX6_span 69 = .ok (.getfield 19, 3) := by decide +kernel
theorem dX6_span_72 : decode cX6_span 72 = .ok (.getfield 93, 3) := by decide +kernel
theorem dX6_span_75 : decode cX6_span 75 = .ok (.iload_n 1, 1) := by decide +kernel
theorem dX6_span_76 : decode cX6_span 76 = .ok (.iaload, 1) := by decide +kernel
theorem dX6_span_77 : decode cX6_span 77 = .ok (.ireturn, 1) := by decide +kernel
theorem dX6_span_78 : decode cX6_span 78 = .ok (.aload_n 0, 1) := by decide +kernel
theorem dX6_span_79 : decode cX6_span 79 = .ok (.getfield 19, 3) := by decide +kernel
theorem dX6_span_82 : decode cX6_span 82 = .ok (.getfield 96, 3) := by decide +kernel
theorem dX6_span_85 : decode cX6_span 85 = .ok (.iload_n 1, 1) := by decide +kernel
theorem dX6_span_86 : decode cX6_span 86 = .ok (.iaload, 1) := by decide +kernel
theorem dX6_span_87 : decode cX6_span 87 = .ok (.ireturn, 1) := by decide +kernel
theorem dX6_span_88 : decode cX6_span 88 = .ok (.aload_n 0, 1) := by decide +kernel
theorem dX6_span_89 : decode cX6_span 89 = .ok (.getfield 19, 3) := by decide +kernel
theorem dX6_span_92 : decode cX6_span 92 = .ok (.iload_n 1, 1) := by decide +kernel
theorem dX6_span_93 : decode cX6_span 93 = .ok (.invokevirtual 99, 3) := by decide +kernel
theorem dX6_span_96 : decode cX6_span 96 = .ok (.ireturn, 1) := by decide +kernel
theorem dX6_span_97 : decode cX6_span 97 = .ok (.bipush (-2), 2) := by decide +kernel
theorem dX6_span_99 : decode cX6_span 99 = .ok (.ireturn, 1) := by decide +kernel
theorem dX6_node_0 : decode cX6_node 0 = .ok (.iload_n 1, 1) := by decide +kernel
theorem dX6_node_1 : decode cX6_node 1 = .ok (.iconst 1, 1) := by decide +kernel
theorem dX6_node_2 : decode cX6_node 2 = .ok (.if_icmp .lt 9, 3) := by decide +kernel
theorem dX6_node_5 : decode cX6_node 5 = .ok (.iload_n 1, 1) := by decide +kernel
theorem dX6_node_6 : decode cX6_node 6 = .ok (.bipush 31, 2) := by decide +kernel
theorem dX6_node_8 : decode cX6_node 8 = .ok (.if_icmp .le 5, 3) := by decide +kernel
theorem dX6_node_11 : decode cX6_node 11 = .ok (.iconst (-1), 1) := by decide +kernel
theorem dX6_node_12 : decode cX6_node 12 = .ok (.ireturn, 1) := by decide +kernel
theorem dX6_node_13 : decode cX6_node 13 = .ok (.aload_n 0, 1) := by decide +kernel
theorem dX6_node_14 : decode cX6_node 14 = .ok (.getfield 19, 3) := by decide +kernel
theorem dX6_node_17 : decode cX6_node 17 = .ok (.iload_n 1, 1) := by decide +kernel
theorem dX6_node_18 : decode cX6_node 18 = .ok (.invokevirtual 102, 3) := by decide +kernel
theorem dX6_node_21 : decode cX6_node 21 = .ok (.ireturn, 1) := by decide +kernel
theorem dX6_put_0 : decode cX6_put 0 = .ok (.aload_n 0, 1) := by decide +kernel
theorem dX6_put_1 : decode cX6_put 1 = .ok (.getfield 23, 3) := by decide +kernel
theorem dX6_put_4 : decode cX6_put 4 = .ok (.aload_n 0, 1) := by decide +kernel
theorem dX6_put_5 : decode cX6_put 5 = .ok (.getfield 19, 3) := by decide +kernel
theorem dX6_put_8 : decode cX6_put 8 = .ok (.invokevirtual 105, 3) := by decide +kernel
theorem dX6_put_11 : decode cX6_put 11 = .ok (.aload_n 0, 1) := by decide +kernel
theorem dX6_put_12 : decode cX6_put 12 = .ok (.aload_n 0, 1) := by decide +kernel
theorem dX6_put_13 : decode cX6_put 13 = .ok (.getfield 19, 3) := by decide +kernel
theorem dX6_put_16 : decode cX6_put 16 = .ok (.iload_n 1, 1) := by decide +kernel
theorem dX6_put_17 : decode cX6_put 17 = .ok (.iload_n 2, 1) := by decide +kernel
theorem dX6_put_18 : decode cX6_put 18 = .ok (.iload_n 3, 1) := by decide +kernel
theorem dX6_put_19 : decode cX6_put 19 = .ok (.iload 4, 2) := by decide +kernel
theorem dX6_put_21 : decode cX6_put 21 = .ok (.invokevirtual 108, 3) := by decide +kernel
theorem dX6_put_24 : decode cX6_put 24 = .ok (.invokevirtual 112, 3) := by decide +kernel
theorem dX6_put_27 : decode cX6_put 27 = .ok (.ireturn, 1) := by decide +kernel
theorem dX6_cut_0 : decode cX6_cut 0 = .ok (.aload_n 0, 1) := by decide +kernel
theorem dX6_cut_1 : decode cX6_cut 1 = .ok (.getfield 23, 3) := by decide +kernel
theorem dX6_cut_4 : decode cX6_cut 4 = .ok (.aload_n 0, 1) := by decide +kernel
theorem dX6_cut_5 : decode cX6_cut 5 = .ok (.getfield 19, 3) := by decide +kernel
theorem dX6_cut_8 : decode cX6_cut 8 = .ok (.invokevirtual 105, 3) := by decide +kernel
theorem dX6_cut_11 : decode cX6_cut 11 = .ok (.aload_n 0, 1) := by decide +kernel
theorem dX6_cut_12 : decode cX6_cut 12 = .ok (.aload_n 0, 1) := by decide +kernel
theorem dX6_cut_13 : decode cX6_cut 13 = .ok (.getfield 19, 3) := by decide +kernel
theorem dX6_cut_16 : decode cX6_cut 16 = .ok (.iload_n 1, 1) := by decide +kernel
theorem dX6_cut_17 : decode cX6_cut 17 = .ok (.invokevirtual 115, 3) := by decide +kernel
theorem dX6_cut_20 : decode cX6_cut 20 = .ok (.invokevirtual 112, 3) := by decide +kernel
theorem dX6_cut_23 : decode cX6_cut 23 = .ok (.ireturn, 1) := by decide +kernel
theorem dX6_end_0 : decode cX6_end 0 = .ok (.aload_n 0, 1) := by decide +kernel
theorem dX6_end_1 : decode cX6_end 1 = .ok (.getfield 23, 3) := by decide +kernel
theorem dX6_end_4 : decode cX6_end 4 = .ok (.aload_n 0, 1) := by decide +kernel
theorem dX6_end_5 : decode cX6_end 5 = .ok (.getfield 19, 3) := by decide +kernel
theorem dX6_end_8 : decode cX6_end 8 = .ok (.invokevirtual 105, 3) := by decide +kernel
theorem dX6_end_11 : decode cX6_end 11 = .ok (.aload_n 0, 1) := by decide +kernel
theorem dX6_end_12 : decode cX6_end 12 = .ok (.aload_n 0, 1) := by decide +kernel
theorem dX6_end_13 : decode cX6_end 13 = .ok (.getfield 19, 3) := by decide +kernel
theorem dX6_end_16 : decode cX6_end 16 = .ok (.iload_n 1, 1) := by decide +kernel
theorem dX6_end_17 : decode cX6_end 17 = .ok (.iload_n 2, 1) := by decide +kernel
theorem dX6_end_18 : decode cX6_end 18 = .ok (.invokevirtual 118, 3) := by decide +kernel
theorem dX6_end_21 : decode cX6_end 21 = .ok (.invokevirtual 112, 3) := by decide +kernel
theorem dX6_end_24 : decode cX6_end 24 = .ok (.ireturn, 1) := by decide +kernel
theorem dX6_undo_0 : decode cX6_undo 0 = .ok (.aload_n 0, 1) := by decide +kernel
theorem dX6_undo_1 : decode cX6_undo 1 = .ok (.getfield 29, 3) := by decide +kernel
theorem dX6_undo_4 : decode cX6_undo 4 = .ok (.getfield 78, 3) := by decide +kernel
theorem dX6_undo_7 : decode cX6_undo 7 = .ok (.ifCond .ne 6, 3) := by decide +kernel
theorem dX6_undo_10 : decode cX6_undo 10 = .ok (.bipush (-3), 2) := by decide +kernel
theorem dX6_undo_12 : decode cX6_undo 12 = .ok (.ireturn, 1) := by decide +kernel
theorem dX6_undo_13 : decode cX6_undo 13 = .ok (.aload_n 0, 1) := by decide +kernel
theorem dX6_undo_14 : decode cX6_undo 14 = .ok (.getfield 29, 3) := by decide +kernel
theorem dX6_undo_17 : decode cX6_undo 17 = .ok (.aload_n 0, 1) := by decide +kernel
theorem dX6_undo_18 : decode cX6_undo 18 = .ok (.getfield 19, 3) := by decide +kernel
theorem dX6_undo_21 : decode cX6_undo 21 = .ok (.invokevirtual 122, 3) := by decide +kernel
theorem dX6_undo_24 : decode cX6_undo 24 = .ok (.aload_n 0, 1) := by decide +kernel
theorem dX6_undo_25 : decode cX6_undo 25 = .ok (.getfield 29, 3) := by decide +kernel
theorem dX6_undo_28 : decode cX6_undo 28 = .ok (.getfield 78, 3) := by decide +kernel
theorem dX6_undo_31 : decode cX6_undo 31 = .ok (.ireturn, 1) := by decide +kernel
theorem dX6_rememberIfDone_0 : decode cX6_rememberIfDone 0 = .ok (.iload_n 1, 1) := by decide +kernel
theorem dX6_rememberIfDone_1 : decode cX6_rememberIfDone 1 = .ok (.ifCond .lt 14, 3) := by decide +kernel
theorem dX6_rememberIfDone_4 : decode cX6_rememberIfDone 4 = .ok (.aload_n 0, 1) := by decide +kernel
theorem dX6_rememberIfDone_5 : decode cX6_rememberIfDone 5 = .ok (.getfield 29, 3) := by decide +kernel
theorem dX6_rememberIfDone_8 : decode cX6_rememberIfDone 8 = .ok (.aload_n 0, 1) := by decide +kernel
theorem dX6_rememberIfDone_9 : decode cX6_rememberIfDone 9 = .ok (.getfield 23, 3) := by decide +kernel
theorem dX6_rememberIfDone_12 : decode cX6_rememberIfDone 12 = .ok (.invokevirtual 125, 3) := by decide +kernel
theorem dX6_rememberIfDone_15 : decode cX6_rememberIfDone 15 = .ok (.iload_n 1, 1) := by decide +kernel
theorem dX6_rememberIfDone_16 : decode cX6_rememberIfDone 16 = .ok (.ireturn, 1) := by decide +kernel
theorem dX6_at_0 : decode cX6_at 0 = .ok (.iload_n 1, 1) := by decide +kernel
theorem dX6_at_1 : decode cX6_at 1 = .ok (.invokestatic 128, 3) := by decide +kernel
theorem dX6_at_4 : decode cX6_at 4 = .ok (.ifCond .ne 5, 3) := by decide +kernel
theorem dX6_at_7 : decode cX6_at 7 = .ok (.iconst (-1), 1) := by decide +kernel
theorem dX6_at_8 : decode cX6_at 8 = .ok (.ireturn, 1) := by decide +kernel
theorem dX6_at_9 : decode cX6_at 9 = .ok (.aload_n 0, 1) := by decide +kernel
theorem dX6_at_10 : decode cX6_at 10 = .ok (.getfield 36, 3) := by decide +kernel
theorem dX6_at_13 : decode cX6_at 13 = .ok (.aload_n 0, 1) := by decide +kernel
theorem dX6_at_14 : decode cX6_at 14 = .ok (.getfield 19, 3) := by decide +kernel
theorem dX6_at_17 : decode cX6_at 17 = .ok (.iload_n 1, 1) := by decide +kernel
theorem dX6_at_18 : decode cX6_at 18 = .ok (.invokevirtual 131, 3) := by decide +kernel
theorem dX6_at_21 : decode cX6_at 21 = .ok (.iload_n 2, 1) := by decide +kernel
theorem dX6_at_22 : decode cX6_at 22 = .ok (.tableswitch 75 0 4 #[34, 42, 51, 59, 67], 34) := by decide +kernel
theorem dX6_at_56 : decode cX6_at 56 = .ok (.aload_n 0, 1) := by decide +kernel
theorem dX6_at_57 : decode cX6_at 57 = .ok (.getfield 36, 3) := by decide +kernel
theorem dX6_at_60 : decode cX6_at 60 = .ok (.invokevirtual 135, 3) := by decide +kernel
theorem dX6_at_63 : decode cX6_at 63 = .ok (.ireturn, 1) := by decide +kernel
theorem dX6_at_64 : decode cX6_at 64 = .ok (.aload_n 0, 1) := by decide +kernel
theorem dX6_at_65 : decode cX6_at 65 = .ok (.getfield 19, 3) := by decide +kernel
theorem dX6_at_68 : decode cX6_at 68 = .ok (.iload_n 1, 1) := by decide +kernel
theorem dX6_at_69 : decode cX6_at 69 = .ok (.invokevirtual 138, 3) := by decide +kernel
theorem dX6_at_72 : decode cX6_at 72 = .ok (.ireturn, 1) := by decide +kernel
theorem dX6_at_73 : decode cX6_at 73 = .ok (.aload_n 0, 1) := by decide +kernel
theorem dX6_at_74 : decode cX6_at 74 = .ok (.getfield 36, 3) := by decide +kernel
theorem dX6_at_77 : decode cX6_at 77 = .ok (.invokevirtual 141, 3) := by decide +kernel
theorem dX6_at_80 : decode cX6_at 80 = .ok (.ireturn, 1) := by decide +kernel
theorem dX6_at_81 : decode cX6_at 81 = .ok (.aload_n 0, 1) := by decide +kernel
theorem dX6_at_82 : decode cX6_at 82 = .ok (.getfield 36, 3) := by decide +kernel
theorem dX6_at_85 : decode cX6_at 85 = .ok (.invokevirtual 144, 3) := by decide +kernel
theorem dX6_at_88 : decode cX6_at 88 = .ok (.ireturn, 1) := by decide +kernel
theorem dX6_at_89 : decode cX6_at 89 = .ok (.aload_n 0, 1) := by decide +kernel
theorem dX6_at_90 : decode cX6_at 90 = .ok (.getfield 36, 3) := by decide +kernel
theorem dX6_at_93 : decode cX6_at 93 = .ok (.invokevirtual 147, 3) := by decide +kernel
theorem dX6_at_96 : decode cX6_at 96 = .ok (.ireturn, 1) := by decide +kernel
theorem dX6_at_97 : decode cX6_at 97 = .ok (.bipush (-2), 2) := by decide +kernel
theorem dX6_at_99 : decode cX6_at 99 = .ok (.ireturn, 1) := by decide +kernel
theorem dX6_knot_0 : decode cX6_knot 0 = .ok (.iload_n 1, 1) := by decide +kernel
theorem dX6_knot_1 : decode cX6_knot 1 = .ok (.invokestatic 150, 3) := by decide +kernel
theorem dX6_knot_4 : decode cX6_knot 4 = .ok (.ifCond .eq 10, 3) := by decide +kernel
theorem dX6_knot_7 : decode cX6_knot 7 = .ok (.iload_n 2, 1) := by decide +kernel
theorem dX6_knot_8 : decode cX6_knot 8 = .ok (.invokestatic 128, 3) := by decide +kernel
theorem dX6_knot_11 : decode cX6_knot 11 = .ok (.ifCond .ne 5, 3) := by decide +kernel
theorem dX6_knot_14 : decode cX6_knot 14 = .ok (.iconst (-1), 1) := by decide +kernel
theorem dX6_knot_15 : decode cX6_knot 15 = .ok (.ireturn, 1) := by decide +kernel
theorem dX6_knot_16 : decode cX6_knot 16 = .ok (.aload_n 0, 1) := by decide +kernel
theorem dX6_knot_17 : decode cX6_knot 17 = .ok (.getfield 36, 3) := by decide +kernel
theorem dX6_knot_20 : decode cX6_knot 20 = .ok (.aload_n 0, 1) := by decide +kernel
theorem dX6_knot_21 : decode cX6_knot 21 = .ok (.getfield 19, 3) := by decide +kernel
theorem dX6_knot_24 : decode cX6_knot 24 = .ok (.iload_n 2, 1) := by decide +kernel
theorem dX6_knot_25 : decode cX6_knot 25 = .ok (.invokevirtual 131, 3) := by decide +kernel
theorem dX6_knot_28 : decode cX6_knot 28 = .ok (.iload_n 3, 1) := by decide +kernel
theorem dX6_knot_29 : decode cX6_knot 29 = .ok (.tableswitch 62 0 2 #[27, 36, 45], 27) := by decide +kernel
theorem dX6_knot_56 : decode cX6_knot 56 = .ok (.aload_n 0, 1) := by decide +kernel
theorem dX6_knot_57 : decode cX6_knot 57 = .ok (.getfield 36, 3) := by decide +kernel
theorem dX6_knot_60 : decode cX6_knot 60 = .ok (.iload_n 1, 1) := by decide +kernel
theorem dX6_knot_61 : decode cX6_knot 61 = .ok (.invokevirtual 153, 3) := by decide +kernel
theorem dX6_knot_64 : decode cX6_knot 64 = .ok (.ireturn, 1) := by decide +kernel
theorem dX6_knot_65 : decode cX6_knot 65 = .ok (.aload_n 0, 1) := by decide +kernel
theorem dX6_knot_66 : decode cX6_knot 66 = .ok (.getfield 36, 3) := by decide +kernel
theorem dX6_knot_69 : decode cX6_knot 69 = .ok (.iload_n 1, 1) := by decide +kernel
theorem dX6_knot_70 : decode cX6_knot 70 = .ok (.invokevirtual 156, 3) := by decide +kernel
theorem dX6_knot_73 : decode cX6_knot 73 = .ok (.ireturn, 1) := by decide +kernel
theorem dX6_knot_74 : decode cX6_knot 74 = .ok (.aload_n 0, 1) := by decide +kernel
theorem dX6_knot_75 : decode cX6_knot 75 = .ok (.getfield 36, 3) := by decide +kernel
theorem dX6_knot_78 : decode cX6_knot 78 = .ok (.getfield 159, 3) := by decide +kernel
theorem dX6_knot_81 : decode cX6_knot 81 = .ok (.aload_n 0, 1) := by decide +kernel
theorem dX6_knot_82 : decode cX6_knot 82 = .ok (.getfield 36, 3) := by decide +kernel
theorem dX6_knot_85 : decode cX6_knot 85 = .ok (.iload_n 1, 1) := by decide +kernel
theorem dX6_knot_86 : decode cX6_knot 86 = .ok (.invokevirtual 153, 3) := by decide +kernel
theorem dX6_knot_89 : decode cX6_knot 89 = .ok (.iaload, 1) := by decide +kernel
theorem dX6_knot_90 : decode cX6_knot 90 = .ok (.ireturn, 1) := by decide +kernel
theorem dX6_knot_91 : decode cX6_knot 91 = .ok (.bipush (-2), 2) := by decide +kernel
theorem dX6_knot_93 : decode cX6_knot 93 = .ok (.ireturn, 1) := by decide +kernel
theorem dX6_joined_0 : decode cX6_joined 0 = .ok (.iload_n 1, 1) := by decide +kernel
theorem dX6_joined_1 : decode cX6_joined 1 = .ok (.invokestatic 150, 3) := by decide +kernel
theorem dX6_joined_4 : decode cX6_joined 4 = .ok (.ifCond .eq 17, 3) := by decide +kernel
theorem dX6_joined_7 : decode cX6_joined 7 = .ok (.iload_n 2, 1) := by decide +kernel
theorem dX6_joined_8 : decode cX6_joined 8 = .ok (.invokestatic 150, 3) := by decide +kernel
theorem dX6_joined_11 : decode cX6_joined 11 = .ok (.ifCond .eq 10, 3) := by decide +kernel
theorem dX6_joined_14 : decode cX6_joined 14 = .ok (.iload_n 3, 1) := by decide +kernel
theorem dX6_joined_15 : decode cX6_joined 15 = .ok (.invokestatic 128, 3) := by decide +kernel
theorem dX6_joined_18 : decode cX6_joined 18 = .ok (.ifCond .ne 5, 3) := by decide +kernel
theorem dX6_joined_21 : decode cX6_joined 21 = .ok (.iconst (-1), 1) := by decide +kernel
theorem dX6_joined_22 : decode cX6_joined 22 = .ok (.ireturn, 1) := by decide +kernel
theorem dX6_joined_23 : decode cX6_joined 23 = .ok (.aload_n 0, 1) := by decide +kernel
theorem dX6_joined_24 : decode cX6_joined 24 = .ok (.getfield 36, 3) := by decide +kernel
theorem dX6_joined_27 : decode cX6_joined 27 = .ok (.aload_n 0, 1) := by decide +kernel
theorem dX6_joined_28 : decode cX6_joined 28 = .ok (.getfield 19, 3) := by decide +kernel
theorem dX6_joined_31 : decode cX6_joined 31 = .ok (.iload_n 3, 1) := by decide +kernel
theorem dX6_joined_32 : decode cX6_joined 32 = .ok (.invokevirtual 131, 3) := by decide +kernel
theorem dX6_joined_35 : decode cX6_joined 35 = .ok (.aload_n 0, 1) := by decide +kernel
theorem dX6_joined_36 : decode cX6_joined 36 = .ok (.getfield 36, 3) := by decide +kernel
theorem dX6_joined_39 : decode cX6_joined 39 = .ok (.iload_n 1, 1) := by decide +kernel
theorem dX6_joined_40 : decode cX6_joined 40 = .ok (.iload_n 2, 1) := by decide +kernel
theorem dX6_joined_41 : decode cX6_joined 41 = .ok (.invokevirtual 161, 3) := by decide +kernel
theorem dX6_joined_44 : decode cX6_joined 44 = .ok (.ifCond .eq 7, 3) := by decide +kernel
theorem dX6_joined_47 : decode cX6_joined 47 = .ok (.iconst 1, 1) := by decide +kernel
theorem dX6_joined_48 : decode cX6_joined 48 = .ok (.goto 4, 3) := by decide +kernel
theorem dX6_joined_51 : decode cX6_joined 51 = .ok (.iconst 0, 1) := by decide +kernel
theorem dX6_joined_52 : decode cX6_joined 52 = .ok (.ireturn, 1) := by decide +kernel
theorem dX6_side_0 : decode cX6_side 0 = .ok (.iload_n 1, 1) := by decide +kernel
theorem dX6_side_1 : decode cX6_side 1 = .ok (.invokestatic 150, 3) := by decide +kernel
theorem dX6_side_4 : decode cX6_side 4 = .ok (.ifCond .eq 17, 3) := by decide +kernel
theorem dX6_side_7 : decode cX6_side 7 = .ok (.iload_n 2, 1) := by decide +kernel
theorem dX6_side_8 : decode cX6_side 8 = .ok (.invokestatic 150, 3) := by decide +kernel
theorem dX6_side_11 : decode cX6_side 11 = .ok (.ifCond .eq 10, 3) := by decide +kernel
theorem dX6_side_14 : decode cX6_side 14 = .ok (.iload_n 3, 1) := by decide +kernel
theorem dX6_side_15 : decode cX6_side 15 = .ok (.invokestatic 128, 3) := by decide +kernel
theorem dX6_side_18 : decode cX6_side 18 = .ok (.ifCond .ne 5, 3) := by decide +kernel
theorem dX6_side_21 : decode cX6_side 21 = .ok (.iconst (-1), 1) := by decide +kernel
theorem dX6_side_22 : decode cX6_side 22 = .ok (.ireturn, 1) := by decide +kernel
theorem dX6_side_23 : decode cX6_side 23 = .ok (.iload_n 1, 1) := by decide +kernel
theorem dX6_side_24 : decode cX6_side 24 = .ok (.iload_n 2, 1) := by decide +kernel
theorem dX6_side_25 : decode cX6_side 25 = .ok (.if_icmp .ne 5, 3) := by decide +kernel
theorem dX6_side_28 : decode cX6_side 28 = .ok (.iconst 0, 1) := by decide +kernel
theorem dX6_side_29 : decode cX6_side 29 = .ok (.ireturn, 1) := by decide +kernel
theorem dX6_side_30 : decode cX6_side 30 = .ok (.aload_n 0, 1) := by decide +kernel
theorem dX6_side_31 : decode cX6_side 31 = .ok (.getfield 36, 3) := by decide +kernel
theorem dX6_side_34 : decode cX6_side 34 = .ok (.aload_n 0, 1) := by decide +kernel
theorem dX6_side_35 : decode cX6_side 35 = .ok (.getfield 19, 3) := by decide +kernel
theorem dX6_side_38 : decode cX6_side 38 = .ok (.iload_n 3, 1) := by decide +kernel
theorem dX6_side_39 : decode cX6_side 39 = .ok (.invokevirtual 131, 3) := by decide +kernel
theorem dX6_side_42 : decode cX6_side 42 = .ok (.aload_n 0, 1) := by decide +kernel
theorem dX6_side_43 : decode cX6_side 43 = .ok (.getfield 36, 3) := by decide +kernel
theorem dX6_side_46 : decode cX6_side 46 = .ok (.iload_n 1, 1) := by decide +kernel
theorem dX6_side_47 : decode cX6_side 47 = .ok (.iload_n 2, 1) := by decide +kernel
theorem dX6_side_48 : decode cX6_side 48 = .ok (.invokevirtual 161, 3) := by decide +kernel
theorem dX6_side_51 : decode cX6_side 51 = .ok (.ifCond .eq 22, 3) := by decide +kernel
theorem dX6_side_54 : decode cX6_side 54 = .ok (.aload_n 0, 1) := by decide +kernel
theorem dX6_side_55 : decode cX6_side 55 = .ok (.getfield 36, 3) := by decide +kernel
theorem dX6_side_58 : decode cX6_side 58 = .ok (.getfield 165, 3) := by decide +kernel
theorem dX6_side_61 : decode cX6_side 61 = .ok (.aload_n 0, 1) := by decide +kernel
theorem dX6_side_62 : decode cX6_side 62 = .ok (.getfield 36, 3) := by decide +kernel
theorem dX6_side_65 : decode cX6_side 65 = .ok (.iload_n 1, 1) := by decide +kernel
theorem dX6_side_66 : decode cX6_side 66 = .ok (.invokevirtual 153, 3) := by decide +kernel
theorem dX6_side_69 : decode cX6_side 69 = .ok (.baload, 1) := by decide +kernel
theorem dX6_side_70 : decode cX6_side 70 = .ok (.ifCond .eq 6, 3) := by decide +kernel
theorem dX6_side_73 : decode cX6_side 73 = .ok (.bipush (-3), 2) := by decide +kernel
theorem dX6_side_75 : decode cX6_side 75 = .ok (.ireturn, 1) := by decide +kernel
theorem dX6_side_76 : decode cX6_side 76 = .ok (.aload_n 0, 1) := by decide +kernel
theorem dX6_side_77 : decode cX6_side 77 = .ok (.getfield 36, 3) := by decide +kernel
theorem dX6_side_80 : decode cX6_side 80 = .ok (.iload_n 1, 1) := by decide +kernel
theorem dX6_side_81 : decode cX6_side 81 = .ok (.invokevirtual 168, 3) := by decide +kernel
theorem dX6_side_84 : decode cX6_side 84 = .ok (.aload_n 0, 1) := by decide +kernel
theorem dX6_side_85 : decode cX6_side 85 = .ok (.getfield 36, 3) := by decide +kernel
theorem dX6_side_88 : decode cX6_side 88 = .ok (.iload_n 2, 1) := by decide +kernel
theorem dX6_side_89 : decode cX6_side 89 = .ok (.invokevirtual 168, 3) := by decide +kernel
theorem dX6_side_92 : decode cX6_side 92 = .ok (.ixor, 1) := by decide +kernel
theorem dX6_side_93 : decode cX6_side 93 = .ok (.ireturn, 1) := by decide +kernel
theorem dX6_work_0 : decode cX6_work 0 = .ok (.iload_n 1, 1) := by decide +kernel
theorem dX6_work_1 : decode cX6_work 1 = .ok (.lookupswitch 37 #[(0, 27), (1, 32)], 27) := by decide +kernel
theorem dX6_work_28 : decode cX6_work 28 = .ok (.aload_n 0, 1) := by decide +kernel
theorem dX6_work_29 : decode cX6_work 29 = .ok (.invokevirtual 171, 3) := by decide +kernel
theorem dX6_work_32 : decode cX6_work 32 = .ok (.ireturn, 1) := by decide +kernel
theorem dX6_work_33 : decode cX6_work 33 = .ok (.aload_n 0, 1) := by decide +kernel
theorem dX6_work_34 : decode cX6_work 34 = .ok (.invokevirtual 174, 3) := by decide +kernel
theorem dX6_work_37 : decode cX6_work 37 = .ok (.ireturn, 1) := by decide +kernel
theorem dX6_work_38 : decode cX6_work 38 = .ok (.bipush (-2), 2) := by decide +kernel
theorem dX6_work_40 : decode cX6_work 40 = .ok (.ireturn, 1) := by decide +kernel
theorem dX6_lyingOnAll_0 : decode cX6_lyingOnAll 0 = .ok (.iconst 0, 1) := by decide +kernel
theorem dX6_lyingOnAll_1 : decode cX6_lyingOnAll 1 = .ok (.istore_n 1, 1) := by decide +kernel
theorem dX6_lyingOnAll_2 : decode cX6_lyingOnAll 2 = .ok (.iconst 1, 1) := by decide +kernel
theorem dX6_lyingOnAll_3 : decode cX6_lyingOnAll 3 = .ok (.istore_n 2, 1) := by decide +kernel
theorem dX6_lyingOnAll_4 : decode cX6_lyingOnAll 4 = .ok (.iload_n 2, 1) := by decide +kernel
theorem dX6_lyingOnAll_5 : decode cX6_lyingOnAll 5 = .ok (.bipush 31, 2) := by decide +kernel
theorem dX6_lyingOnAll_7 : decode cX6_lyingOnAll 7 = .ok (.if_icmp .gt 23, 3) := by decide +kernel
theorem dX6_lyingOnAll_10 : decode cX6_lyingOnAll 10 = .ok (.iload_n 1, 1) := by decide +kernel
theorem dX6_lyingOnAll_11 : decode cX6_lyingOnAll 11 = .ok (.aload_n 0, 1) := by decide +kernel
theorem dX6_lyingOnAll_12 : decode cX6_lyingOnAll 12 = .ok (.getfield 19, 3) := by decide +kernel
theorem dX6_lyingOnAll_15 : decode cX6_lyingOnAll 15 = .ok (.iload_n 2, 1) := by decide +kernel
theorem dX6_lyingOnAll_16 : decode cX6_lyingOnAll 16 = .ok (.invokevirtual 102, 3) := by decide +kernel
theorem dX6_lyingOnAll_19 : decode cX6_lyingOnAll 19 = .ok (.invokestatic 177, 3) := by decide +kernel
theorem dX6_lyingOnAll_22 : decode cX6_lyingOnAll 22 = .ok (.iadd, 1) := by decide +kernel
theorem dX6_lyingOnAll_23 : decode cX6_lyingOnAll 23 = .ok (.istore_n 1, 1) := by decide +kernel
theorem dX6_lyingOnAll_24 : decode cX6_lyingOnAll 24 = .ok (.iinc 2 1, 3) := by decide +kernel
theorem dX6_lyingOnAll_27 : decode cX6_lyingOnAll 27 = .ok (.goto (-23), 3) := by decide +kernel
theorem dX6_lyingOnAll_30 : decode cX6_lyingOnAll 30 = .ok (.iload_n 1, 1) := by decide +kernel
theorem dX6_lyingOnAll_31 : decode cX6_lyingOnAll 31 = .ok (.ireturn, 1) := by decide +kernel
theorem dX6_joiningOnAll_0 : decode cX6_joiningOnAll 0 = .ok (.iconst 0, 1) := by decide +kernel
theorem dX6_joiningOnAll_1 : decode cX6_joiningOnAll 1 = .ok (.istore_n 1, 1) := by decide +kernel
theorem dX6_joiningOnAll_2 : decode cX6_joiningOnAll 2 = .ok (.iconst 1, 1) := by decide +kernel
theorem dX6_joiningOnAll_3 : decode cX6_joiningOnAll 3 = .ok (.istore_n 2, 1) := by decide +kernel
theorem dX6_joiningOnAll_4 : decode cX6_joiningOnAll 4 = .ok (.iload_n 2, 1) := by decide +kernel
theorem dX6_joiningOnAll_5 : decode cX6_joiningOnAll 5 = .ok (.bipush 31, 2) := by decide +kernel
theorem dX6_joiningOnAll_7 : decode cX6_joiningOnAll 7 = .ok (.if_icmp .gt 24, 3) := by decide +kernel
theorem dX6_joiningOnAll_10 : decode cX6_joiningOnAll 10 = .ok (.iload_n 1, 1) := by decide +kernel
theorem dX6_joiningOnAll_11 : decode cX6_joiningOnAll 11 = .ok (.aload_n 0, 1) := by decide +kernel
theorem dX6_joiningOnAll_12 : decode cX6_joiningOnAll 12 = .ok (.getfield 36, 3) := by decide +kernel
theorem dX6_joiningOnAll_15 : decode cX6_joiningOnAll 15 = .ok (.aload_n 0, 1) := by decide +kernel
theorem dX6_joiningOnAll_16 : decode cX6_joiningOnAll 16 = .ok (.getfield 19, 3) := by decide +kernel
theorem dX6_joiningOnAll_19 : decode cX6_joiningOnAll 19 = .ok (.iload_n 2, 1) := by decide +kernel
theorem dX6_joiningOnAll_20 : decode cX6_joiningOnAll 20 = .ok (.invokevirtual 182, 3) := by decide +kernel
theorem dX6_joiningOnAll_23 : decode cX6_joiningOnAll 23 = .ok (.iadd, 1) := by decide +kernel
theorem dX6_joiningOnAll_24 : decode cX6_joiningOnAll 24 = .ok (.istore_n 1, 1) := by decide +kernel
theorem dX6_joiningOnAll_25 : decode cX6_joiningOnAll 25 = .ok (.iinc 2 1, 3) := by decide +kernel
theorem dX6_joiningOnAll_28 : decode cX6_joiningOnAll 28 = .ok (.goto (-24), 3) := by decide +kernel
theorem dX6_joiningOnAll_31 : decode cX6_joiningOnAll 31 = .ok (.iload_n 1, 1) := by decide +kernel
theorem dX6_joiningOnAll_32 : decode cX6_joiningOnAll 32 = .ok (.ireturn, 1) := by decide +kernel
theorem dX6_when_0 : decode cX6_when 0 = .ok (.iload_n 1, 1) := by decide +kernel
theorem dX6_when_1 : decode cX6_when 1 = .ok (.invokestatic 150, 3) := by decide +kernel
theorem dX6_when_4 : decode cX6_when 4 = .ok (.ifCond .eq 10, 3) := by decide +kernel
theorem dX6_when_7 : decode cX6_when 7 = .ok (.iload_n 2, 1) := by decide +kernel
theorem dX6_when_8 : decode cX6_when 8 = .ok (.invokestatic 150, 3) := by decide +kernel
theorem dX6_when_11 : decode cX6_when 11 = .ok (.ifCond .ne 5, 3) := by decide +kernel
theorem dX6_when_14 : decode cX6_when 14 = .ok (.iconst (-1), 1) := by decide +kernel
theorem dX6_when_15 : decode cX6_when 15 = .ok (.ireturn, 1) := by decide +kernel
theorem dX6_when_16 : decode cX6_when 16 = .ok (.iconst 0, 1) := by decide +kernel
theorem dX6_when_17 : decode cX6_when 17 = .ok (.istore_n 3, 1) := by decide +kernel
theorem dX6_when_18 : decode cX6_when 18 = .ok (.iconst 0, 1) := by decide +kernel
theorem dX6_when_19 : decode cX6_when 19 = .ok (.istore 4, 2) := by decide +kernel
theorem dX6_when_21 : decode cX6_when 21 = .ok (.iload 4, 2) := by decide +kernel
theorem dX6_when_23 : decode cX6_when 23 = .ok (.bipush 16, 2) := by decide +kernel
theorem dX6_when_25 : decode cX6_when 25 = .ok (.if_icmp .ge 41, 3) := by decide +kernel
theorem dX6_when_28 : decode cX6_when 28 = .ok (.aload_n 0, 1) := by decide +kernel
theorem dX6_when_29 : decode cX6_when 29 = .ok (.getfield 36, 3) := by decide +kernel
theorem dX6_when_32 : decode cX6_when 32 = .ok (.aload_n 0, 1) := by decide +kernel
theorem dX6_when_33 : decode cX6_when 33 = .ok (.getfield 19, 3) := by decide +kernel
theorem dX6_when_36 : decode cX6_when 36 = .ok (.iload 4, 2) := by decide +kernel
theorem dX6_when_38 : decode cX6_when 38 = .ok (.invokevirtual 131, 3) := by decide +kernel
theorem dX6_when_41 : decode cX6_when 41 = .ok (.aload_n 0, 1) := by decide +kernel
theorem dX6_when_42 : decode cX6_when 42 = .ok (.getfield 36, 3) := by decide +kernel
theorem dX6_when_45 : decode cX6_when 45 = .ok (.iload_n 1, 1) := by decide +kernel
theorem dX6_when_46 : decode cX6_when 46 = .ok (.iload_n 2, 1) := by decide +kernel
theorem dX6_when_47 : decode cX6_when 47 = .ok (.invokevirtual 161, 3) := by decide +kernel
theorem dX6_when_50 : decode cX6_when 50 = .ok (.ifCond .eq 10, 3) := by decide +kernel
theorem dX6_when_53 : decode cX6_when 53 = .ok (.iload_n 3, 1) := by decide +kernel
theorem dX6_when_54 : decode cX6_when 54 = .ok (.iconst 1, 1) := by decide +kernel
theorem dX6_when_55 : decode cX6_when 55 = .ok (.iload 4, 2) := by decide +kernel
theorem dX6_when_57 : decode cX6_when 57 = .ok (.ishl, 1) := by decide +kernel
theorem dX6_when_58 : decode cX6_when 58 = .ok (.ior, 1) := by decide +kernel
theorem dX6_when_59 : decode cX6_when 59 = .ok (.istore_n 3, 1) := by decide +kernel
theorem dX6_when_60 : decode cX6_when 60 = .ok (.iinc 4 1, 3) := by decide +kernel
theorem dX6_when_63 : decode cX6_when 63 = .ok (.goto (-42), 3) := by decide +kernel
theorem dX6_when_66 : decode cX6_when 66 = .ok (.iload_n 3, 1) := by decide +kernel
theorem dX6_when_67 : decode cX6_when 67 = .ok (.ireturn, 1) := by decide +kernel
theorem dX6_bridges_0 : decode cX6_bridges 0 = .ok (.iload_n 1, 1) := by decide +kernel
theorem dX6_bridges_1 : decode cX6_bridges 1 = .ok (.invokestatic 128, 3) := by decide +kernel
theorem dX6_bridges_4 : decode cX6_bridges 4 = .ok (.ifCond .ne 5, 3) := by decide +kernel
theorem dX6_bridges_7 : decode cX6_bridges 7 = .ok (.iconst (-1), 1) := by decide +kernel
theorem dX6_bridges_8 : decode cX6_bridges 8 = .ok (.ireturn, 1) := by decide +kernel
theorem dX6_bridges_9 : decode cX6_bridges 9 = .ok (.aload_n 0, 1) := by decide +kernel
theorem dX6_bridges_10 : decode cX6_bridges 10 = .ok (.getfield 43, 3) := by decide +kernel
theorem dX6_bridges_13 : decode cX6_bridges 13 = .ok (.aload_n 0, 1) := by decide +kernel
theorem dX6_bridges_14 : decode cX6_bridges 14 = .ok (.getfield 19, 3) := by decide +kernel
theorem dX6_bridges_17 : decode cX6_bridges 17 = .ok (.iload_n 1, 1) := by decide +kernel
theorem dX6_bridges_18 : decode cX6_bridges 18 = .ok (.invokevirtual 186, 3) := by decide +kernel
theorem dX6_bridges_21 : decode cX6_bridges 21 = .ok (.iconst 0, 1) := by decide +kernel
theorem dX6_bridges_22 : decode cX6_bridges 22 = .ok (.istore_n 2, 1) := by decide +kernel
theorem dX6_bridges_23 : decode cX6_bridges 23 = .ok (.iconst 0, 1) := by decide +kernel
theorem dX6_bridges_24 : decode cX6_bridges 24 = .ok (.istore_n 3, 1) := by decide +kernel
theorem dX6_bridges_25 : decode cX6_bridges 25 = .ok (.iload_n 3, 1) := by decide +kernel
theorem dX6_bridges_26 : decode cX6_bridges 26 = .ok (.aload_n 0, 1) := by decide +kernel
theorem dX6_bridges_27 : decode cX6_bridges 27 = .ok (.getfield 43, 3) := by decide +kernel
theorem dX6_bridges_30 : decode cX6_bridges 30 = .ok (.getfield 189, 3) := by decide +kernel
theorem dX6_bridges_33 : decode cX6_bridges 33 = .ok (.if_icmp .ge 62, 3) := by decide +kernel
theorem dX6_bridges_36 : decode cX6_bridges 36 = .ok (.aload_n 0, 1) := by decide +kernel
theorem dX6_bridges_37 : decode cX6_bridges 37 = .ok (.getfield 43, 3) := by decide +kernel
theorem dX6_bridges_40 : decode cX6_bridges 40 = .ok (.aload_n 0, 1) := by decide +kernel
theorem dX6_bridges_41 : decode cX6_bridges 41 = .ok (.getfield 43, 3) := by decide +kernel
theorem dX6_bridges_44 : decode cX6_bridges 44 = .ok (.getfield 190, 3) := by decide +kernel
theorem dX6_bridges_47 : decode cX6_bridges 47 = .ok (.iload_n 3, 1) := by decide +kernel
theorem dX6_bridges_48 : decode cX6_bridges 48 = .ok (.iaload, 1) := by decide +kernel
theorem dX6_bridges_49 : decode cX6_bridges 49 = .ok (.aload_n 0, 1) := by decide +kernel
theorem dX6_bridges_50 : decode cX6_bridges 50 = .ok (.getfield 43, 3) := by decide +kernel
theorem dX6_bridges_53 : decode cX6_bridges 53 = .ok (.getfield 191, 3) := by decide +kernel
theorem dX6_bridges_56 : decode cX6_bridges 56 = .ok (.iload_n 3, 1) := by decide +kernel
theorem dX6_bridges_57 : decode cX6_bridges 57 = .ok (.iaload, 1) := by decide +kernel
theorem dX6_bridges_58 : decode cX6_bridges 58 = .ok (.aload_n 0, 1) := by decide +kernel
theorem dX6_bridges_59 : decode cX6_bridges 59 = .ok (.getfield 43, 3) := by decide +kernel
theorem dX6_bridges_62 : decode cX6_bridges 62 = .ok (.invokevirtual 192, 3) := by decide +kernel
theorem dX6_bridges_65 : decode cX6_bridges 65 = .ok (.iconst 1, 1) := by decide +kernel
theorem dX6_bridges_66 : decode cX6_bridges 66 = .ok (.iload_n 3, 1) := by decide +kernel
theorem dX6_bridges_67 : decode cX6_bridges 67 = .ok (.ishl, 1) := by decide +kernel
theorem dX6_bridges_68 : decode cX6_bridges 68 = .ok (.ixor, 1) := by decide +kernel
theorem dX6_bridges_69 : decode cX6_bridges 69 = .ok (.invokevirtual 195, 3) := by decide +kernel
theorem dX6_bridges_72 : decode cX6_bridges 72 = .ok (.ifCond .ne 17, 3) := by decide +kernel
theorem dX6_bridges_75 : decode cX6_bridges 75 = .ok (.iload_n 2, 1) := by decide +kernel
theorem dX6_bridges_76 : decode cX6_bridges 76 = .ok (.iconst 1, 1) := by decide +kernel
theorem dX6_bridges_77 : decode cX6_bridges 77 = .ok (.aload_n 0, 1) := by decide +kernel
theorem dX6_bridges_78 : decode cX6_bridges 78 = .ok (.getfield 43, 3) := by decide +kernel
theorem dX6_bridges_81 : decode cX6_bridges 81 = .ok (.getfield 198, 3) := by decide +kernel
theorem dX6_bridges_84 : decode cX6_bridges 84 = .ok (.iload_n 3, 1) := by decide +kernel
theorem dX6_bridges_85 : decode cX6_bridges 85 = .ok (.iaload, 1) := by decide +kernel
theorem dX6_bridges_86 : decode cX6_bridges 86 = .ok (.ishl, 1) := by decide +kernel
theorem dX6_bridges_87 : decode cX6_bridges 87 = .ok (.ior, 1) := by decide +kernel
theorem dX6_bridges_88 : decode cX6_bridges 88 = .ok (.istore_n 2, 1) := by decide +kernel
theorem dX6_bridges_89 : decode cX6_bridges 89 = .ok (.iinc 3 1, 3) := by decide +kernel
theorem dX6_bridges_92 : decode cX6_bridges 92 = .ok (.goto (-67), 3) := by decide +kernel
theorem dX6_bridges_95 : decode cX6_bridges 95 = .ok (.iload_n 2, 1) := by decide +kernel
theorem dX6_bridges_96 : decode cX6_bridges 96 = .ok (.ireturn, 1) := by decide +kernel
theorem dX6_least_0 : decode cX6_least 0 = .ok (.iload_n 1, 1) := by decide +kernel
theorem dX6_least_1 : decode cX6_least 1 = .ok (.invokestatic 150, 3) := by decide +kernel
theorem dX6_least_4 : decode cX6_least 4 = .ok (.ifCond .eq 17, 3) := by decide +kernel
theorem dX6_least_7 : decode cX6_least 7 = .ok (.iload_n 2, 1) := by decide +kernel
theorem dX6_least_8 : decode cX6_least 8 = .ok (.invokestatic 150, 3) := by decide +kernel
theorem dX6_least_11 : decode cX6_least 11 = .ok (.ifCond .eq 10, 3) := by decide +kernel
theorem dX6_least_14 : decode cX6_least 14 = .ok (.iload_n 3, 1) := by decide +kernel
theorem dX6_least_15 : decode cX6_least 15 = .ok (.invokestatic 128, 3) := by decide +kernel
theorem dX6_least_18 : decode cX6_least 18 = .ok (.ifCond .ne 5, 3) := by decide +kernel
theorem dX6_least_21 : decode cX6_least 21 = .ok (.iconst (-1), 1) := by decide +kernel
theorem dX6_least_22 : decode cX6_least 22 = .ok (.ireturn, 1) := by decide +kernel
theorem dX6_least_23 : decode cX6_least 23 = .ok (.iload_n 1, 1) := by decide +kernel
theorem dX6_least_24 : decode cX6_least 24 = .ok (.iload_n 2, 1) := by decide +kernel
theorem dX6_least_25 : decode cX6_least 25 = .ok (.if_icmp .eq 14, 3) := by decide +kernel
theorem dX6_least_28 : decode cX6_least 28 = .ok (.iload 4, 2) := by decide +kernel
theorem dX6_least_30 : decode cX6_least 30 = .ok (.ifCond .lt 9, 3) := by decide +kernel
theorem dX6_least_33 : decode cX6_least 33 = .ok (.iload 4, 2) := by decide +kernel
theorem dX6_least_35 : decode cX6_least 35 = .ok (.iconst 1, 1) := by decide +kernel
theorem dX6_least_36 : decode cX6_least 36 = .ok (.if_icmp .le 6, 3) := by decide +kernel
theorem dX6_least_39 : decode cX6_least 39 = .ok (.bipush (-2), 2) := by decide +kernel
theorem dX6_least_41 : decode cX6_least 41 = .ok (.ireturn, 1) := by decide +kernel
theorem dX6_least_42 : decode cX6_least 42 = .ok (.aload_n 0, 1) := by decide +kernel
theorem dX6_least_43 : decode cX6_least 43 = .ok (.getfield 43, 3) := by decide +kernel
theorem dX6_least_46 : decode cX6_least 46 = .ok (.aload_n 0, 1) := by decide +kernel
theorem dX6_least_47 : decode cX6_least 47 = .ok (.getfield 19, 3) := by decide +kernel
theorem dX6_least_50 : decode cX6_least 50 = .ok (.iload_n 3, 1) := by decide +kernel
theorem dX6_least_51 : decode cX6_least 51 = .ok (.invokevirtual 186, 3) := by decide +kernel
theorem dX6_least_54 : decode cX6_least 54 = .ok (.aload_n 0, 1) := by decide +kernel
theorem dX6_least_55 : decode cX6_least 55 = .ok (.getfield 43, 3) := by decide +kernel
theorem dX6_least_58 : decode cX6_least 58 = .ok (.getfield 189, 3) := by decide +kernel
theorem dX6_least_61 : decode cX6_least 61 = .ok (.bipush 10, 2) := by decide +kernel
theorem dX6_least_63 : decode cX6_least 63 = .ok (.if_icmp .le 6, 3) := by decide +kernel
theorem dX6_least_66 : decode cX6_least 66 = .ok (.bipush (-4), 2) := by decide +kernel
theorem dX6_least_68 : decode cX6_least 68 = .ok (.ireturn, 1) := by decide +kernel
theorem dX6_least_69 : decode cX6_least 69 = .ok (.aload_n 0, 1) := by decide +kernel
theorem dX6_least_70 : decode cX6_least 70 = .ok (.iload_n 1, 1) := by decide +kernel
theorem dX6_least_71 : decode cX6_least 71 = .ok (.iload_n 2, 1) := by decide +kernel
theorem dX6_least_72 : decode cX6_least 72 = .ok (.invokevirtual 201, 3) := by decide +kernel
theorem dX6_least_75 : decode cX6_least 75 = .ok (.istore 5, 2) := by decide +kernel
theorem dX6_least_77 : decode cX6_least 77 = .ok (.iload 4, 2) := by decide +kernel
theorem dX6_least_79 : decode cX6_least 79 = .ok (.ifCond .ne 11, 3) := by decide +kernel
theorem dX6_least_82 : decode cX6_least 82 = .ok (.iload 5, 2) := by decide +kernel
theorem dX6_least_84 : decode cX6_least 84 = .ok (.invokestatic 177, 3) := by decide +kernel
theorem dX6_least_87 : decode cX6_least 87 = .ok (.goto 12, 3) := by decide +kernel
theorem dX6_least_90 : decode cX6_least 90 = .ok (.aload_n 0, 1) := by decide +kernel
theorem dX6_least_91 : decode cX6_least 91 = .ok (.getfield 43, 3) := by decide +kernel
theorem dX6_least_94 : decode cX6_least 94 = .ok (.iload 5, 2) := by decide +kernel
theorem dX6_least_96 : decode cX6_least 96 = .ok (.invokevirtual 204, 3) := by decide +kernel
theorem dX6_least_99 : decode cX6_least 99 = .ok (.ireturn, 1) := by decide +kernel
theorem dX6_leastApart_0 : decode cX6_leastApart 0 = .ok (.aload_n 0, 1) := by decide +kernel
theorem dX6_leastApart_1 : decode cX6_leastApart 1 = .ok (.getfield 43, 3) := by decide +kernel
theorem dX6_leastApart_4 : decode cX6_leastApart 4 = .ok (.invokevirtual 192, 3) := by decide +kernel
theorem dX6_leastApart_7 : decode cX6_leastApart 7 = .ok (.istore_n 3, 1) := by decide +kernel
theorem dX6_leastApart_8 : decode cX6_leastApart 8 = .ok (.iconst 0, 1) := by decide +kernel
theorem dX6_leastApart_9 : decode cX6_leastApart 9 = .ok (.istore 4, 2) := by decide +kernel
theorem dX6_leastApart_11 : decode cX6_leastApart 11 = .ok (.iload 4, 2) := by decide +kernel
theorem dX6_leastApart_13 : decode cX6_leastApart 13 = .ok (.aload_n 0, 1) := by decide +kernel
theorem dX6_leastApart_14 : decode cX6_leastApart 14 = .ok (.getfield 43, 3) := by decide +kernel
theorem dX6_leastApart_17 : decode cX6_leastApart 17 = .ok (.getfield 189, 3) := by decide +kernel
theorem dX6_leastApart_20 : decode cX6_leastApart 20 = .ok (.if_icmp .ge 53, 3) := by decide +kernel
theorem dX6_leastApart_23 : decode cX6_leastApart 23 = .ok (.iconst 0, 1) := by decide +kernel
theorem dX6_leastApart_24 : decode cX6_leastApart 24 = .ok (.istore 5, 2) := by decide +kernel
theorem dX6_leastApart_26 : decode cX6_leastApart 26 = .ok (.iload 5, 2) := by decide +kernel
theorem dX6_leastApart_28 : decode cX6_leastApart 28 = .ok (.iload_n 3, 1) := by decide +kernel
theorem dX6_leastApart_29 : decode cX6_leastApart 29 = .ok (.if_icmp .gt 38, 3) := by decide +kernel
theorem dX6_leastApart_32 : decode cX6_leastApart 32 = .ok (.iload 5, 2) := by decide +kernel
theorem dX6_leastApart_34 : decode cX6_leastApart 34 = .ok (.invokestatic 177, 3) := by decide +kernel
theorem dX6_leastApart_37 : decode cX6_leastApart 37 = .ok (.iload 4, 2) := by decide +kernel
theorem dX6_leastApart_39 : decode cX6_leastApart 39 = .ok (.if_icmp .ne 22, 3) := by decide +kernel
theorem dX6_leastApart_42 : decode cX6_leastApart 42 = .ok (.aload_n 0, 1) := by decide +kernel
theorem dX6_leastApart_43 : decode cX6_leastApart 43 = .ok (.getfield 43, 3) := by decide +kernel
theorem dX6_leastApart_46 : decode cX6_leastApart 46 = .ok (.iload_n 1, 1) := by decide +kernel
theorem dX6_leastApart_47 : decode cX6_leastApart 47 = .ok (.iload_n 2, 1) := by decide +kernel
theorem dX6_leastApart_48 : decode cX6_leastApart 48 = .ok (.iload_n 3, 1) := by decide +kernel
theorem dX6_leastApart_49 : decode cX6_leastApart 49 = .ok (.iload 5, 2) := by decide +kernel
theorem dX6_leastApart_51 : decode cX6_leastApart 51 = .ok (.ixor, 1) := by decide +kernel
theorem dX6_leastApart_52 : decode cX6_leastApart 52 = .ok (.invokevirtual 195, 3) := by decide +kernel
theorem dX6_leastApart_55 : decode cX6_leastApart 55 = .ok (.ifCond .ne 6, 3) := by decide +kernel
theorem dX6_leastApart_58 : decode cX6_leastApart 58 = .ok (.iload 5, 2) := by decide +kernel
theorem dX6_leastApart_60 : decode cX6_leastApart 60 = .ok (.ireturn, 1) := by decide +kernel
theorem dX6_leastApart_61 : decode cX6_leastApart 61 = .ok (.iinc 5 1, 3) := by decide +kernel
theorem dX6_leastApart_64 : decode cX6_leastApart 64 = .ok (.goto (-38), 3) := by decide +kernel
theorem dX6_leastApart_67 : decode cX6_leastApart 67 = .ok (.iinc 4 1, 3) := by decide +kernel
theorem dX6_leastApart_70 : decode cX6_leastApart 70 = .ok (.goto (-59), 3) := by decide +kernel
theorem dX6_leastApart_73 : decode cX6_leastApart 73 = .ok (.iload_n 3, 1) := by decide +kernel
theorem dX6_leastApart_74 : decode cX6_leastApart 74 = .ok (.ireturn, 1) := by decide +kernel
theorem dX6_judge_0 : decode cX6_judge 0 = .ok (.iload_n 1, 1) := by decide +kernel
theorem dX6_judge_1 : decode cX6_judge 1 = .ok (.iconst 1, 1) := by decide +kernel
theorem dX6_judge_2 : decode cX6_judge 2 = .ok (.if_icmp .lt 26, 3) := by decide +kernel
theorem dX6_judge_5 : decode cX6_judge 5 = .ok (.iload_n 1, 1) := by decide +kernel
theorem dX6_judge_6 : decode cX6_judge 6 = .ok (.iconst 3, 1) := by decide +kernel
theorem dX6_judge_7 : decode cX6_judge 7 = .ok (.if_icmp .gt 21, 3) := by decide +kernel
theorem dX6_judge_10 : decode cX6_judge 10 = .ok (.lload_n 2, 1) := by decide +kernel
theorem dX6_judge_11 : decode cX6_judge 11 = .ok (.lconst 0, 1) := by decide +kernel
theorem dX6_judge_12 : decode cX6_judge 12 = .ok (.lcmp, 1) := by decide +kernel
theorem dX6_judge_13 : decode cX6_judge 13 = .ok (.ifCond .lt 15, 3) := by decide +kernel
theorem dX6_judge_16 : decode cX6_judge 16 = .ok (.lload_n 2, 1) := by decide +kernel
theorem dX6_judge_17 : decode cX6_judge 17 = .ok (.ldc2_w 207, 3) := by decide +kernel
theorem dX6_judge_20 : decode cX6_judge 20 = .ok (.iload_n 1, 1) := by decide +kernel
theorem dX6_judge_21 : decode cX6_judge 21 = .ok (.invokestatic 209, 3) := by decide +kernel
theorem dX6_judge_24 : decode cX6_judge 24 = .ok (.lcmp, 1) := by decide +kernel
theorem dX6_judge_25 : decode cX6_judge 25 = .ok (.ifCond .lt 6, 3) := by decide +kernel
theorem dX6_judge_28 : decode cX6_judge 28 = .ok (.bipush (-2), 2) := by decide +kernel
theorem dX6_judge_30 : decode cX6_judge 30 = .ok (.ireturn, 1) := by decide +kernel
theorem dX6_judge_31 : decode cX6_judge 31 = .ok (.aload_n 0, 1) := by decide +kernel
theorem dX6_judge_32 : decode cX6_judge 32 = .ok (.getfield 23, 3) := by decide +kernel
theorem dX6_judge_35 : decode cX6_judge 35 = .ok (.aload_n 0, 1) := by decide +kernel
theorem dX6_judge_36 : decode cX6_judge 36 = .ok (.getfield 19, 3) := by decide +kernel
theorem dX6_judge_39 : decode cX6_judge 39 = .ok (.invokevirtual 105, 3) := by decide +kernel
theorem dX6_judge_42 : decode cX6_judge 42 = .ok (.ldc2_w 207, 3) := by decide +kernel
theorem dX6_judge_45 : decode cX6_judge 45 = .ok (.iload_n 1, 1) := by decide +kernel
theorem dX6_judge_46 : decode cX6_judge 46 = .ok (.iconst 1, 1) := by decide +kernel
theorem dX6_judge_47 : decode cX6_judge 47 = .ok (.isub, 1) := by decide +kernel
theorem dX6_judge_48 : decode cX6_judge 48 = .ok (.invokestatic 209, 3) := by decide +kernel
theorem dX6_judge_51 : decode cX6_judge 51 = .ok (.lstore 4, 2) := by decide +kernel
theorem dX6_judge_53 : decode cX6_judge 53 = .ok (.iconst 0, 1) := by decide +kernel
theorem dX6_judge_54 : decode cX6_judge 54 = .ok (.istore 6, 2) := by decide +kernel
theorem dX6_judge_56 : decode cX6_judge 56 = .ok (.iload 6, 2) := by decide +kernel
theorem dX6_judge_58 : decode cX6_judge 58 = .ok (.iload_n 1, 1) := by decide +kernel
theorem dX6_judge_59 : decode cX6_judge 59 = .ok (.if_icmp .ge 43, 3) := by decide +kernel
theorem dX6_judge_62 : decode cX6_judge 62 = .ok (.lload 4, 2) := by decide +kernel
theorem dX6_judge_64 : decode cX6_judge 64 = .ok (.lconst 0, 1) := by decide +kernel
theorem dX6_judge_65 : decode cX6_judge 65 = .ok (.lcmp, 1) := by decide +kernel
theorem dX6_judge_66 : decode cX6_judge 66 = .ok (.ifCond .le 36, 3) := by decide +kernel
theorem dX6_judge_69 : decode cX6_judge 69 = .ok (.aload_n 0, 1) := by decide +kernel
theorem dX6_judge_70 : decode cX6_judge 70 = .ok (.lload_n 2, 1) := by decide +kernel
theorem dX6_judge_71 : decode cX6_judge 71 = .ok (.lload 4, 2) := by decide +kernel
theorem dX6_judge_73 : decode cX6_judge 73 = .ok (.ldiv, 1) := by decide +kernel
theorem dX6_judge_74 : decode cX6_judge 74 = .ok (.ldc2_w 207, 3) := by decide +kernel
theorem dX6_judge_77 : decode cX6_judge 77 = .ok (.lrem, 1) := by decide +kernel
theorem dX6_judge_78 : decode cX6_judge 78 = .ok (.l2i, 1) := by decide +kernel
theorem dX6_judge_79 : decode cX6_judge 79 = .ok (.invokevirtual 213, 3) := by decide +kernel
theorem dX6_judge_82 : decode cX6_judge 82 = .ok (.ifCond .ne 6, 3) := by decide +kernel
theorem dX6_judge_85 : decode cX6_judge 85 = .ok (.iload 6, 2) := by decide +kernel
theorem dX6_judge_87 : decode cX6_judge 87 = .ok (.ireturn, 1) := by decide +kernel
theorem dX6_judge_88 : decode cX6_judge 88 = .ok (.lload 4, 2) := by decide +kernel
theorem dX6_judge_90 : decode cX6_judge 90 = .ok (.ldc2_w 207, 3) := by decide +kernel
theorem dX6_judge_93 : decode cX6_judge 93 = .ok (.ldiv, 1) := by decide +kernel
theorem dX6_judge_94 : decode cX6_judge 94 = .ok (.lstore 4, 2) := by decide +kernel
theorem dX6_judge_96 : decode cX6_judge 96 = .ok (.iinc 6 1, 3) := by decide +kernel
theorem dX6_judge_99 : decode cX6_judge 99 = .ok (.goto (-43), 3) := by decide +kernel
theorem dX6_judge_102 : decode cX6_judge 102 = .ok (.bipush (-9), 2) := by decide +kernel
theorem dX6_judge_104 : decode cX6_judge 104 = .ok (.ireturn, 1) := by decide +kernel
theorem dX6_stands_0 : decode cX6_stands 0 = .ok (.iload_n 1, 1) := by decide +kernel
theorem dX6_stands_1 : decode cX6_stands 1 = .ok (.sipush 1000, 3) := by decide +kernel
theorem dX6_stands_4 : decode cX6_stands 4 = .ok (.idiv, 1) := by decide +kernel
theorem dX6_stands_5 : decode cX6_stands 5 = .ok (.bipush 10, 2) := by decide +kernel
theorem dX6_stands_7 : decode cX6_stands 7 = .ok (.irem, 1) := by decide +kernel
theorem dX6_stands_8 : decode cX6_stands 8 = .ok (.istore_n 2, 1) := by decide +kernel
theorem dX6_stands_9 : decode cX6_stands 9 = .ok (.iload_n 1, 1) := by decide +kernel
theorem dX6_stands_10 : decode cX6_stands 10 = .ok (.bipush 100, 2) := by decide +kernel
theorem dX6_stands_12 : decode cX6_stands 12 = .ok (.idiv, 1) := by decide +kernel
theorem dX6_stands_13 : decode cX6_stands 13 = .ok (.bipush 10, 2) := by decide +kernel
theorem dX6_stands_15 : decode cX6_stands 15 = .ok (.irem, 1) := by decide +kernel
theorem dX6_stands_16 : decode cX6_stands 16 = .ok (.istore_n 3, 1) := by decide +kernel
theorem dX6_stands_17 : decode cX6_stands 17 = .ok (.iload_n 1, 1) := by decide +kernel
theorem dX6_stands_18 : decode cX6_stands 18 = .ok (.bipush 100, 2) := by decide +kernel
theorem dX6_stands_20 : decode cX6_stands 20 = .ok (.idiv, 1) := by decide +kernel
theorem dX6_stands_21 : decode cX6_stands 21 = .ok (.bipush 100, 2) := by decide +kernel
theorem dX6_stands_23 : decode cX6_stands 23 = .ok (.irem, 1) := by decide +kernel
theorem dX6_stands_24 : decode cX6_stands 24 = .ok (.istore 4, 2) := by decide +kernel
theorem dX6_stands_26 : decode cX6_stands 26 = .ok (.iload_n 1, 1) := by decide +kernel
theorem dX6_stands_27 : decode cX6_stands 27 = .ok (.bipush 100, 2) := by decide +kernel
theorem dX6_stands_29 : decode cX6_stands 29 = .ok (.irem, 1) := by decide +kernel
theorem dX6_stands_30 : decode cX6_stands 30 = .ok (.istore 5, 2) := by decide +kernel
theorem dX6_stands_32 : decode cX6_stands 32 = .ok (.iload_n 1, 1) := by decide +kernel
theorem dX6_stands_33 : decode cX6_stands 33 = .ok (.sipush 10000, 3) := by decide +kernel
theorem dX6_stands_36 : decode cX6_stands 36 = .ok (.idiv, 1) := by decide +kernel
theorem dX6_stands_37 : decode cX6_stands 37 = .ok (.tableswitch 173 1 5 #[35, 63, 86, 106, 145], 35) := by decide +kernel
theorem dX6_stands_72 : decode cX6_stands 72 = .ok (.aload_n 0, 1) := by decide +kernel
theorem dX6_stands_73 : decode cX6_stands 73 = .ok (.getfield 23, 3) := by decide +kernel
theorem dX6_stands_76 : decode cX6_stands 76 = .ok (.iload_n 2, 1) := by decide +kernel
theorem dX6_stands_77 : decode cX6_stands 77 = .ok (.iload_n 3, 1) := by decide +kernel
theorem dX6_stands_78 : decode cX6_stands 78 = .ok (.iload 5, 2) := by decide +kernel
theorem dX6_stands_80 : decode cX6_stands 80 = .ok (.bipush 10, 2) := by decide +kernel
theorem dX6_stands_82 : decode cX6_stands 82 = .ok (.idiv, 1) := by decide +kernel
theorem dX6_stands_83 : decode cX6_stands 83 = .ok (.iload 5, 2) := by decide +kernel
theorem dX6_stands_85 : decode cX6_stands 85 = .ok (.bipush 10, 2) := by decide +kernel
theorem dX6_stands_87 : decode cX6_stands 87 = .ok (.irem, 1) := by decide +kernel
theorem dX6_stands_88 : decode cX6_stands 88 = .ok (.invokevirtual 108, 3) := by decide +kernel
theorem dX6_stands_91 : decode cX6_stands 91 = .ok (.ifCond .lt 7, 3) := by decide +kernel
theorem dX6_stands_94 : decode cX6_stands 94 = .ok (.iconst 1, 1) := by decide +kernel
theorem dX6_stands_95 : decode cX6_stands 95 = .ok (.goto 4, 3) := by decide +kernel
theorem dX6_stands_98 : decode cX6_stands 98 = .ok (.iconst 0, 1) := by decide +kernel
theorem dX6_stands_99 : decode cX6_stands 99 = .ok (.ireturn, 1) := by decide +kernel
theorem dX6_stands_100 : decode cX6_stands 100 = .ok (.iload 4, 2) := by decide +kernel
theorem dX6_stands_102 : decode cX6_stands 102 = .ok (.ifCond .ne 19, 3) := by decide +kernel
theorem dX6_stands_105 : decode cX6_stands 105 = .ok (.aload_n 0, 1) := by decide +kernel
theorem dX6_stands_106 : decode cX6_stands 106 = .ok (.getfield 23, 3) := by decide +kernel
theorem dX6_stands_109 : decode cX6_stands 109 = .ok (.iload 5, 2) := by decide +kernel
theorem dX6_stands_111 : decode cX6_stands 111 = .ok (.invokevirtual 115, 3) := by decide +kernel
theorem dX6_stands_114 : decode cX6_stands 114 = .ok (.ifCond .lt 7, 3) := by decide +kernel
theorem dX6_stands_117 : decode cX6_stands 117 = .ok (.iconst 1, 1) := by decide +kernel
theorem dX6_stands_118 : decode cX6_stands 118 = .ok (.goto 4, 3) := by decide +kernel
theorem dX6_stands_121 : decode cX6_stands 121 = .ok (.iconst 0, 1) := by decide +kernel
theorem dX6_stands_122 : decode cX6_stands 122 = .ok (.ireturn, 1) := by decide +kernel
theorem dX6_stands_123 : decode cX6_stands 123 = .ok (.aload_n 0, 1) := by decide +kernel
theorem dX6_stands_124 : decode cX6_stands 124 = .ok (.getfield 23, 3) := by decide +kernel
theorem dX6_stands_127 : decode cX6_stands 127 = .ok (.iload 4, 2) := by decide +kernel
theorem dX6_stands_129 : decode cX6_stands 129 = .ok (.iload 5, 2) := by decide +kernel
theorem dX6_stands_131 : decode cX6_stands 131 = .ok (.invokevirtual 118, 3) := by decide +kernel
theorem dX6_stands_134 : decode cX6_stands 134 = .ok (.ifCond .lt 7, 3) := by decide +kernel
theorem dX6_stands_137 : decode cX6_stands 137 = .ok (.iconst 1, 1) := by decide +kernel
theorem dX6_stands_138 : decode cX6_stands 138 = .ok (.goto 4, 3) := by decide +kernel
theorem dX6_stands_141 : decode cX6_stands 141 = .ok (.iconst 0, 1) := by decide +kernel
theorem dX6_stands_142 : decode cX6_stands 142 = .ok (.ireturn, 1) := by decide +kernel
theorem dX6_stands_143 : decode cX6_stands 143 = .ok (.iload_n 2, 1) := by decide +kernel
theorem dX6_stands_144 : decode cX6_stands 144 = .ok (.invokestatic 150, 3) := by decide +kernel
theorem dX6_stands_147 : decode cX6_stands 147 = .ok (.ifCond .eq 33, 3) := by decide +kernel
theorem dX6_stands_150 : decode cX6_stands 150 = .ok (.iload_n 3, 1) := by decide +kernel
theorem dX6_stands_151 : decode cX6_stands 151 = .ok (.invokestatic 150, 3) := by decide +kernel
theorem dX6_stands_154 : decode cX6_stands 154 = .ok (.ifCond .eq 26, 3) := by decide +kernel
theorem dX6_stands_157 : decode cX6_stands 157 = .ok (.iload 5, 2) := by decide +kernel
theorem dX6_stands_159 : decode cX6_stands 159 = .ok (.invokestatic 128, 3) := by decide +kernel
theorem dX6_stands_162 : decode cX6_stands 162 = .ok (.ifCond .eq 18, 3) := by decide +kernel
theorem dX6_stands_165 : decode cX6_stands 165 = .ok (.aload_n 0, 1) := by decide +kernel
theorem dX6_stands_166 : decode cX6_stands 166 = .ok (.iload_n 2, 1) := by decide +kernel
theorem dX6_stands_167 : decode cX6_stands 167 = .ok (.iload_n 3, 1) := by decide +kernel
theorem dX6_stands_168 : decode cX6_stands 168 = .ok (.iload 5, 2) := by decide +kernel
theorem dX6_stands_170 : decode cX6_stands 170 = .ok (.invokevirtual 216, 3) := by decide +kernel
theorem dX6_stands_173 : decode cX6_stands 173 = .ok (.ifCond .eq 7, 3) := by decide +kernel
theorem dX6_stands_176 : decode cX6_stands 176 = .ok (.iconst 1, 1) := by decide +kernel
theorem dX6_stands_177 : decode cX6_stands 177 = .ok (.goto 4, 3) := by decide +kernel
theorem dX6_stands_180 : decode cX6_stands 180 = .ok (.iconst 0, 1) := by decide +kernel
theorem dX6_stands_181 : decode cX6_stands 181 = .ok (.ireturn, 1) := by decide +kernel
theorem dX6_stands_182 : decode cX6_stands 182 = .ok (.iload_n 2, 1) := by decide +kernel
theorem dX6_stands_183 : decode cX6_stands 183 = .ok (.ifCond .ne 25, 3) := by decide +kernel
theorem dX6_stands_186 : decode cX6_stands 186 = .ok (.iload 5, 2) := by decide +kernel
theorem dX6_stands_188 : decode cX6_stands 188 = .ok (.invokestatic 128, 3) := by decide +kernel
theorem dX6_stands_191 : decode cX6_stands 191 = .ok (.ifCond .eq 17, 3) := by decide +kernel
theorem dX6_stands_194 : decode cX6_stands 194 = .ok (.aload_n 0, 1) := by decide +kernel
theorem dX6_stands_195 : decode cX6_stands 195 = .ok (.iload 5, 2) := by decide +kernel
theorem dX6_stands_197 : decode cX6_stands 197 = .ok (.invokevirtual 219, 3) := by decide +kernel
theorem dX6_stands_200 : decode cX6_stands 200 = .ok (.iload_n 3, 1) := by decide +kernel
theorem dX6_stands_201 : decode cX6_stands 201 = .ok (.if_icmp .lt 7, 3) := by decide +kernel
theorem dX6_stands_204 : decode cX6_stands 204 = .ok (.iconst 1, 1) := by decide +kernel
theorem dX6_stands_205 : decode cX6_stands 205 = .ok (.goto 4, 3) := by decide +kernel
theorem dX6_stands_208 : decode cX6_stands 208 = .ok (.iconst 0, 1) := by decide +kernel
theorem dX6_stands_209 : decode cX6_stands 209 = .ok (.ireturn, 1) := by decide +kernel
theorem dX6_stands_210 : decode cX6_stands 210 = .ok (.iconst 0, 1) := by decide +kernel
theorem dX6_stands_211 : decode cX6_stands 211 = .ok (.ireturn, 1) := by decide +kernel
theorem dX6_areJoinedInTrial_0 : decode cX6_areJoinedInTrial 0 = .ok (.aload_n 0, 1) := by decide +kernel
theorem dX6_areJoinedInTrial_1 : decode cX6_areJoinedInTrial 1 = .ok (.getfield 36, 3) := by decide +kernel
theorem dX6_areJoinedInTrial_4 : decode cX6_areJoinedInTrial 4 = .ok (.aload_n 0, 1) := by decide +kernel
theorem dX6_areJoinedInTrial_5 : decode cX6_areJoinedInTrial 5 = .ok (.getfield 23, 3) := by decide +kernel
theorem dX6_areJoinedInTrial_8 : decode cX6_areJoinedInTrial 8 = .ok (.iload_n 3, 1) := by decide +kernel
theorem dX6_areJoinedInTrial_9 : decode cX6_areJoinedInTrial 9 = .ok (.invokevirtual 131, 3) := by decide +kernel
theorem dX6_areJoinedInTrial_12 : decode cX6_areJoinedInTrial 12 = .ok (.aload_n 0, 1) := by decide +kernel
theorem dX6_areJoinedInTrial_13 : decode cX6_areJoinedInTrial 13 = .ok (.getfield 36, 3) := by decide +kernel
theorem dX6_areJoinedInTrial_16 : decode cX6_areJoinedInTrial 16 = .ok (.iload_n 1, 1) := by decide +kernel
theorem dX6_areJoinedInTrial_17 : decode cX6_areJoinedInTrial 17 = .ok (.iload_n 2, 1) := by decide +kernel
theorem dX6_areJoinedInTrial_18 : decode cX6_areJoinedInTrial 18 = .ok (.invokevirtual 161, 3) := by decide +kernel
theorem dX6_areJoinedInTrial_21 : decode cX6_areJoinedInTrial 21 = .ok (.ireturn, 1) := by decide +kernel
theorem dX6_partsInTrial_0 : decode cX6_partsInTrial 0 = .ok (.aload_n 0, 1) := by decide +kernel
theorem dX6_partsInTrial_1 : decode cX6_partsInTrial 1 = .ok (.getfield 36, 3) := by decide +kernel
theorem dX6_partsInTrial_4 : decode cX6_partsInTrial 4 = .ok (.aload_n 0, 1) := by decide +kernel
theorem dX6_partsInTrial_5 : decode cX6_partsInTrial 5 = .ok (.getfield 23, 3) := by decide +kernel
theorem dX6_partsInTrial_8 : decode cX6_partsInTrial 8 = .ok (.iload_n 1, 1) := by decide +kernel
theorem dX6_partsInTrial_9 : decode cX6_partsInTrial 9 = .ok (.invokevirtual 131, 3) := by decide +kernel
theorem dX6_partsInTrial_12 : decode cX6_partsInTrial 12 = .ok (.aload_n 0, 1) := by decide +kernel
theorem dX6_partsInTrial_13 : decode cX6_partsInTrial 13 = .ok (.getfield 36, 3) := by decide +kernel
theorem dX6_partsInTrial_16 : decode cX6_partsInTrial 16 = .ok (.invokevirtual 135, 3) := by decide +kernel
theorem dX6_partsInTrial_19 : decode cX6_partsInTrial 19 = .ok (.ireturn, 1) := by decide +kernel
theorem dX6_see_0 : decode cX6_see 0 = .ok (.iload_n 1, 1) := by decide +kernel
theorem dX6_see_1 : decode cX6_see 1 = .ok (.invokestatic 128, 3) := by decide +kernel
theorem dX6_see_4 : decode cX6_see 4 = .ok (.ifCond .eq 17, 3) := by decide +kernel
theorem dX6_see_7 : decode cX6_see 7 = .ok (.iload_n 2, 1) := by decide +kernel
theorem dX6_see_8 : decode cX6_see 8 = .ok (.invokestatic 150, 3) := by decide +kernel
theorem dX6_see_11 : decode cX6_see 11 = .ok (.ifCond .eq 10, 3) := by decide +kernel
theorem dX6_see_14 : decode cX6_see 14 = .ok (.iload_n 3, 1) := by decide +kernel
theorem dX6_see_15 : decode cX6_see 15 = .ok (.invokestatic 150, 3) := by decide +kernel
theorem dX6_see_18 : decode cX6_see 18 = .ok (.ifCond .ne 5, 3) := by decide +kernel
theorem dX6_see_21 : decode cX6_see 21 = .ok (.iconst (-1), 1) := by decide +kernel
theorem dX6_see_22 : decode cX6_see 22 = .ok (.ireturn, 1) := by decide +kernel
theorem dX6_see_23 : decode cX6_see 23 = .ok (.iload_n 2, 1) := by decide +kernel
theorem dX6_see_24 : decode cX6_see 24 = .ok (.iload_n 3, 1) := by decide +kernel
theorem dX6_see_25 : decode cX6_see 25 = .ok (.if_icmp .eq 14, 3) := by decide +kernel
theorem dX6_see_28 : decode cX6_see 28 = .ok (.iload 4, 2) := by decide +kernel
theorem dX6_see_30 : decode cX6_see 30 = .ok (.ifCond .lt 9, 3) := by decide +kernel
theorem dX6_see_33 : decode cX6_see 33 = .ok (.iload 4, 2) := by decide +kernel
theorem dX6_see_35 : decode cX6_see 35 = .ok (.iconst 1, 1) := by decide +kernel
theorem dX6_see_36 : decode cX6_see 36 = .ok (.if_icmp .le 6, 3) := by decide +kernel
theorem dX6_see_39 : decode cX6_see 39 = .ok (.bipush (-2), 2) := by decide +kernel
theorem dX6_see_41 : decode cX6_see 41 = .ok (.ireturn, 1) := by decide +kernel
theorem dX6_see_42 : decode cX6_see 42 = .ok (.aload_n 0, 1) := by decide +kernel
theorem dX6_see_43 : decode cX6_see 43 = .ok (.getfield 50, 3) := by decide +kernel
theorem dX6_see_46 : decode cX6_see 46 = .ok (.iload_n 1, 1) := by decide +kernel
theorem dX6_see_47 : decode cX6_see 47 = .ok (.iload_n 2, 1) := by decide +kernel
theorem dX6_see_48 : decode cX6_see 48 = .ok (.iload_n 3, 1) := by decide +kernel
theorem dX6_see_49 : decode cX6_see 49 = .ok (.iload 4, 2) := by decide +kernel
theorem dX6_see_51 : decode cX6_see 51 = .ok (.iconst 1, 1) := by decide +kernel
theorem dX6_see_52 : decode cX6_see 52 = .ok (.if_icmp .ne 7, 3) := by decide +kernel
theorem dX6_see_55 : decode cX6_see 55 = .ok (.iconst 1, 1) := by decide +kernel
theorem dX6_see_56 : decode cX6_see 56 = .ok (.goto 4, 3) := by decide +kernel
theorem dX6_see_59 : decode cX6_see 59 = .ok (.iconst 0, 1) := by decide +kernel
theorem dX6_see_60 : decode cX6_see 60 = .ok (.invokevirtual 222, 3) := by decide +kernel
theorem dX6_see_63 : decode cX6_see 63 = .ok (.ireturn, 1) := by decide +kernel
theorem dX6_unsee_0 : decode cX6_unsee 0 = .ok (.aload_n 0, 1) := by decide +kernel
theorem dX6_unsee_1 : decode cX6_unsee 1 = .ok (.getfield 50, 3) := by decide +kernel
theorem dX6_unsee_4 : decode cX6_unsee 4 = .ok (.getfield 225, 3) := by decide +kernel
theorem dX6_unsee_7 : decode cX6_unsee 7 = .ok (.istore_n 1, 1) := by decide +kernel
theorem dX6_unsee_8 : decode cX6_unsee 8 = .ok (.aload_n 0, 1) := by decide +kernel
theorem dX6_unsee_9 : decode cX6_unsee 9 = .ok (.getfield 50, 3) := by decide +kernel
theorem dX6_unsee_12 : decode cX6_unsee 12 = .ok (.iconst 0, 1) := by decide +kernel
theorem dX6_unsee_13 : decode cX6_unsee 13 = .ok (.putfield 225, 3) := by decide +kernel
theorem dX6_unsee_16 : decode cX6_unsee 16 = .ok (.iload_n 1, 1) := by decide +kernel
theorem dX6_unsee_17 : decode cX6_unsee 17 = .ok (.ireturn, 1) := by decide +kernel
theorem dX6_missing_0 : decode cX6_missing 0 = .ok (.iload_n 1, 1) := by decide +kernel
theorem dX6_missing_1 : decode cX6_missing 1 = .ok (.ifCond .lt 8, 3) := by decide +kernel
theorem dX6_missing_4 : decode cX6_missing 4 = .ok (.iload_n 1, 1) := by decide +kernel
theorem dX6_missing_5 : decode cX6_missing 5 = .ok (.iconst 1, 1) := by decide +kernel
theorem dX6_missing_6 : decode cX6_missing 6 = .ok (.if_icmp .le 6, 3) := by decide +kernel
theorem dX6_missing_9 : decode cX6_missing 9 = .ok (.bipush (-2), 2) := by decide +kernel
theorem dX6_missing_11 : decode cX6_missing 11 = .ok (.ireturn, 1) := by decide +kernel
theorem dX6_missing_12 : decode cX6_missing 12 = .ok (.aload_n 0, 1) := by decide +kernel
theorem dX6_missing_13 : decode cX6_missing 13 = .ok (.getfield 19, 3) := by decide +kernel
theorem dX6_missing_16 : decode cX6_missing 16 = .ok (.getfield 81, 3) := by decide +kernel
theorem dX6_missing_19 : decode cX6_missing 19 = .ok (.bipush 16, 2) := by decide +kernel
theorem dX6_missing_21 : decode cX6_missing 21 = .ok (.if_icmp .lt 6, 3) := by decide +kernel
theorem dX6_missing_24 : decode cX6_missing 24 = .ok (.bipush (-4), 2) := by decide +kernel
theorem dX6_missing_26 : decode cX6_missing 26 = .ok (.ireturn, 1) := by decide +kernel
theorem dX6_missing_27 : decode cX6_missing 27 = .ok (.aload_n 0, 1) := by decide +kernel
theorem dX6_missing_28 : decode cX6_missing 28 = .ok (.getfield 50, 3) := by decide +kernel
theorem dX6_missing_31 : decode cX6_missing 31 = .ok (.aload_n 0, 1) := by decide +kernel
theorem dX6_missing_32 : decode cX6_missing 32 = .ok (.getfield 19, 3) := by decide +kernel
theorem dX6_missing_35 : decode cX6_missing 35 = .ok (.aload_n 0, 1) := by decide +kernel
theorem dX6_missing_36 : decode cX6_missing 36 = .ok (.getfield 43, 3) := by decide +kernel
theorem dX6_missing_39 : decode cX6_missing 39 = .ok (.invokevirtual 226, 3) := by decide +kernel
theorem dX6_missing_42 : decode cX6_missing 42 = .ok (.iload_n 1, 1) := by decide +kernel
theorem dX6_missing_43 : decode cX6_missing 43 = .ok (.ifCond .ne 10, 3) := by decide +kernel
theorem dX6_missing_46 : decode cX6_missing 46 = .ok (.aload_n 0, 1) := by decide +kernel
theorem dX6_missing_47 : decode cX6_missing 47 = .ok (.invokevirtual 230, 3) := by decide +kernel
theorem dX6_missing_50 : decode cX6_missing 50 = .ok (.goto 7, 3) := by decide +kernel
theorem dX6_missing_53 : decode cX6_missing 53 = .ok (.aload_n 0, 1) := by decide +kernel
theorem dX6_missing_54 : decode cX6_missing 54 = .ok (.invokevirtual 233, 3) := by decide +kernel
theorem dX6_missing_57 : decode cX6_missing 57 = .ok (.ireturn, 1) := by decide +kernel
theorem dX6_howManyMissing_0 : decode cX6_howManyMissing 0 = .ok (.iconst 0, 1) := by decide +kernel
theorem dX6_howManyMissing_1 : decode cX6_howManyMissing 1 = .ok (.istore_n 1, 1) := by decide +kernel
theorem dX6_howManyMissing_2 : decode cX6_howManyMissing 2 = .ok (.iconst 0, 1) := by decide +kernel
theorem dX6_howManyMissing_3 : decode cX6_howManyMissing 3 = .ok (.istore_n 2, 1) := by decide +kernel
theorem dX6_howManyMissing_4 : decode cX6_howManyMissing 4 = .ok (.iload_n 2, 1) := by decide +kernel
theorem dX6_howManyMissing_5 : decode cX6_howManyMissing 5 = .ok (.bipush 8, 2) := by decide +kernel
theorem dX6_howManyMissing_7 : decode cX6_howManyMissing 7 = .ok (.if_icmp .ge 70, 3) := by decide +kernel
theorem dX6_howManyMissing_10 : decode cX6_howManyMissing 10 = .ok (.iload_n 2, 1) := by decide +kernel
theorem dX6_howManyMissing_11 : decode cX6_howManyMissing 11 = .ok (.iconst 1, 1) := by decide +kernel
theorem dX6_howManyMissing_12 : decode cX6_howManyMissing 12 = .ok (.iadd, 1) := by decide +kernel
theorem dX6_howManyMissing_13 : decode cX6_howManyMissing 13 = .ok (.istore_n 3, 1) := by decide +kernel
theorem dX6_howManyMissing_14 : decode cX6_howManyMissing 14 = .ok (.iload_n 3, 1) := by decide +kernel
theorem dX6_howManyMissing_15 : decode cX6_howManyMissing 15 = .ok (.bipush 8, 2) := by decide +kernel
theorem dX6_howManyMissing_17 : decode cX6_howManyMissing 17 = .ok (.if_icmp .ge 54, 3) := by decide +kernel
theorem dX6_howManyMissing_20 : decode cX6_howManyMissing 20 = .ok (.aload_n 0, 1) := by decide +kernel
theorem dX6_howManyMissing_21 : decode cX6_howManyMissing 21 = .ok (.getfield 19, 3) := by decide +kernel
theorem dX6_howManyMissing_24 : decode cX6_howManyMissing 24 = .ok (.iload_n 2, 1) := by decide +kernel
theorem dX6_howManyMissing_25 : decode cX6_howManyMissing 25 = .ok (.iload_n 3, 1) := by decide +kernel
theorem dX6_howManyMissing_26 : decode cX6_howManyMissing 26 = .ok (.bipush (-9), 2) := by decide +kernel
theorem dX6_howManyMissing_28 : decode cX6_howManyMissing 28 = .ok (.invokevirtual 236, 3) := by decide +kernel
theorem dX6_howManyMissing_31 : decode cX6_howManyMissing 31 = .ok (.istore 4, 2) := by decide +kernel
theorem dX6_howManyMissing_33 : decode cX6_howManyMissing 33 = .ok (.iconst 0, 1) := by decide +kernel
theorem dX6_howManyMissing_34 : decode cX6_howManyMissing 34 = .ok (.istore 5, 2) := by decide +kernel
theorem dX6_howManyMissing_36 : decode cX6_howManyMissing 36 = .ok (.iload 5, 2) := by decide +kernel
theorem dX6_howManyMissing_38 : decode cX6_howManyMissing 38 = .ok (.bipush 16, 2) := by decide +kernel
theorem dX6_howManyMissing_40 : decode cX6_howManyMissing 40 = .ok (.if_icmp .ge 25, 3) := by decide +kernel
theorem dX6_howManyMissing_43 : decode cX6_howManyMissing 43 = .ok (.iload_n 1, 1) := by decide +kernel
theorem dX6_howManyMissing_44 : decode cX6_howManyMissing 44 = .ok (.aload_n 0, 1) := by decide +kernel
theorem dX6_howManyMissing_45 : decode cX6_howManyMissing 45 = .ok (.iload_n 2, 1) := by decide +kernel
theorem dX6_howManyMissing_46 : decode cX6_howManyMissing 46 = .ok (.iload_n 3, 1) := by decide +kernel
theorem dX6_howManyMissing_47 : decode cX6_howManyMissing 47 = .ok (.iload 5, 2) := by decide +kernel
theorem dX6_howManyMissing_49 : decode cX6_howManyMissing 49 = .ok (.iload 4, 2) := by decide +kernel
theorem dX6_howManyMissing_51 : decode cX6_howManyMissing 51 = .ok (.invokevirtual 240, 3) := by decide +kernel
theorem dX6_howManyMissing_54 : decode cX6_howManyMissing 54 = .ok (.invokestatic 177, 3) := by decide +kernel
theorem dX6_howManyMissing_57 : decode cX6_howManyMissing 57 = .ok (.iadd, 1) := by decide +kernel
theorem dX6_howManyMissing_58 : decode cX6_howManyMissing 58 = .ok (.istore_n 1, 1) := by decide +kernel
theorem dX6_howManyMissing_59 : decode cX6_howManyMissing 59 = .ok (.iinc 5 1, 3) := by decide +kernel
theorem dX6_howManyMissing_62 : decode cX6_howManyMissing 62 = .ok (.goto (-26), 3) := by decide +kernel
theorem dX6_howManyMissing_65 : decode cX6_howManyMissing 65 = .ok (.iinc 3 1, 3) := by decide +kernel
theorem dX6_howManyMissing_68 : decode cX6_howManyMissing 68 = .ok (.goto (-54), 3) := by decide +kernel
theorem dX6_howManyMissing_71 : decode cX6_howManyMissing 71 = .ok (.iinc 2 1, 3) := by decide +kernel
theorem dX6_howManyMissing_74 : decode cX6_howManyMissing 74 = .ok (.goto (-70), 3) := by decide +kernel
theorem dX6_howManyMissing_77 : decode cX6_howManyMissing 77 = .ok (.iload_n 1, 1) := by decide +kernel
theorem dX6_howManyMissing_78 : decode cX6_howManyMissing 78 = .ok (.ireturn, 1) := by decide +kernel
theorem dX6_firstMissing_0 : decode cX6_firstMissing 0 = .ok (.iconst 0, 1) := by decide +kernel
theorem dX6_firstMissing_1 : decode cX6_firstMissing 1 = .ok (.istore_n 1, 1) := by decide +kernel
theorem dX6_firstMissing_2 : decode cX6_firstMissing 2 = .ok (.iload_n 1, 1) := by decide +kernel
theorem dX6_firstMissing_3 : decode cX6_firstMissing 3 = .ok (.bipush 8, 2) := by decide +kernel
theorem dX6_firstMissing_5 : decode cX6_firstMissing 5 = .ok (.if_icmp .ge 92, 3) := by decide +kernel
theorem dX6_firstMissing_8 : decode cX6_firstMissing 8 = .ok (.iload_n 1, 1) := by decide +kernel
theorem dX6_firstMissing_9 : decode cX6_firstMissing 9 = .ok (.iconst 1, 1) := by decide +kernel
theorem dX6_firstMissing_10 : decode cX6_firstMissing 10 = .ok (.iadd, 1) := by decide +kernel
theorem dX6_firstMissing_11 : decode cX6_firstMissing 11 = .ok (.istore_n 2, 1) := by decide +kernel
theorem dX6_firstMissing_12 : decode cX6_firstMissing 12 = .ok (.iload_n 2, 1) := by decide +kernel
theorem dX6_firstMissing_13 : decode cX6_firstMissing 13 = .ok (.bipush 8, 2) := by decide +kernel
theorem dX6_firstMissing_15 : decode cX6_firstMissing 15 = .ok (.if_icmp .ge 76, 3) := by decide +kernel
theorem dX6_firstMissing_18 : decode cX6_firstMissing 18 = .ok (.aload_n 0, 1) := by decide +kernel
theorem dX6_firstMissing_19 : decode cX6_firstMissing 19 = .ok (.getfield 19, 3) := by decide +kernel
theorem dX6_firstMissing_22 : decode cX6_firstMissing 22 = .ok (.iload_n 1, 1) := by decide +kernel
theorem dX6_firstMissing_23 : decode cX6_firstMissing 23 = .ok (.iload_n 2, 1) := by decide +kernel
theorem dX6_firstMissing_24 : decode cX6_firstMissing 24 = .ok (.bipush (-9), 2) := by decide +kernel
theorem dX6_firstMissing_26 : decode cX6_firstMissing 26 = .ok (.invokevirtual 236, 3) := by decide +kernel
theorem dX6_firstMissing_29 : decode cX6_firstMissing 29 = .ok (.istore_n 3, 1) := by decide +kernel
theorem dX6_firstMissing_30 : decode cX6_firstMissing 30 = .ok (.iconst 0, 1) := by decide +kernel
theorem dX6_firstMissing_31 : decode cX6_firstMissing 31 = .ok (.istore 4, 2) := by decide +kernel
theorem dX6_firstMissing_33 : decode cX6_firstMissing 33 = .ok (.iload 4, 2) := by decide +kernel
theorem dX6_firstMissing_35 : decode cX6_firstMissing 35 = .ok (.bipush 16, 2) := by decide +kernel
theorem dX6_firstMissing_37 : decode cX6_firstMissing 37 = .ok (.if_icmp .ge 48, 3) := by decide +kernel
theorem dX6_firstMissing_40 : decode cX6_firstMissing 40 = .ok (.aload_n 0, 1) := by decide +kernel
theorem dX6_firstMissing_41 : decode cX6_firstMissing 41 = .ok (.iload_n 1, 1) := by decide +kernel
theorem dX6_firstMissing_42 : decode cX6_firstMissing 42 = .ok (.iload_n 2, 1) := by decide +kernel
theorem dX6_firstMissing_43 : decode cX6_firstMissing 43 = .ok (.iload 4, 2) := by decide +kernel
theorem dX6_firstMissing_45 : decode cX6_firstMissing 45 = .ok (.iload_n 3, 1) := by decide +kernel
theorem dX6_firstMissing_46 : decode cX6_firstMissing 46 = .ok (.invokevirtual 240, 3) := by decide +kernel
theorem dX6_firstMissing_49 : decode cX6_firstMissing 49 = .ok (.istore 5, 2) := by decide +kernel
theorem dX6_firstMissing_51 : decode cX6_firstMissing 51 = .ok (.iload 5, 2) := by decide +kernel
theorem dX6_firstMissing_53 : decode cX6_firstMissing 53 = .ok (.ifCond .eq 26, 3) := by decide +kernel
theorem dX6_firstMissing_56 : decode cX6_firstMissing 56 = .ok (.ldc 243, 2) := by decide +kernel
theorem dX6_firstMissing_58 : decode cX6_firstMissing 58 = .ok (.iload_n 1, 1) := by decide +kernel
theorem dX6_firstMissing_59 : decode cX6_firstMissing 59 = .ok (.imul, 1) := by decide +kernel
theorem dX6_firstMissing_60 : decode cX6_firstMissing 60 = .ok (.sipush 10000, 3) := by decide +kernel
theorem dX6_firstMissing_63 : decode cX6_firstMissing 63 = .ok (.iload_n 2, 1) := by decide +kernel
theorem dX6_firstMissing_64 : decode cX6_firstMissing 64 = .ok (.imul, 1) := by decide +kernel
theorem dX6_firstMissing_65 : decode cX6_firstMissing 65 = .ok (.iadd, 1) := by decide +kernel
theorem dX6_firstMissing_66 : decode cX6_firstMissing 66 = .ok (.bipush 100, 2) := by decide +kernel
theorem dX6_firstMissing_68 : decode cX6_firstMissing 68 = .ok (.iload 4, 2) := by decide +kernel
theorem dX6_firstMissing_70 : decode cX6_firstMissing 70 = .ok (.imul, 1) := by decide +kernel
theorem dX6_firstMissing_71 : decode cX6_firstMissing 71 = .ok (.iadd, 1) := by decide +kernel
theorem dX6_firstMissing_72 : decode cX6_firstMissing 72 = .ok (.iload 5, 2) := by decide +kernel
theorem dX6_firstMissing_74 : decode cX6_firstMissing 74 = .ok (.invokestatic 244, 3) := by decide +kernel
theorem dX6_firstMissing_77 : decode cX6_firstMissing 77 = .ok (.iadd, 1) := by decide +kernel
theorem dX6_firstMissing_78 : decode cX6_firstMissing 78 = .ok (.ireturn, 1) := by decide +kernel
theorem dX6_firstMissing_79 : decode cX6_firstMissing 79 = .ok (.iinc 4 1, 3) := by decide +kernel
theorem dX6_firstMissing_82 : decode cX6_firstMissing 82 = .ok (.goto (-49), 3) := by decide +kernel
theorem dX6_firstMissing_85 : decode cX6_firstMissing 85 = .ok (.iinc 2 1, 3) := by decide +kernel
theorem dX6_firstMissing_88 : decode cX6_firstMissing 88 = .ok (.goto (-76), 3) := by decide +kernel
theorem dX6_firstMissing_91 : decode cX6_firstMissing 91 = .ok (.iinc 1 1, 3) := by decide +kernel
theorem dX6_firstMissing_94 : decode cX6_firstMissing 94 = .ok (.goto (-92), 3) := by decide +kernel
theorem dX6_firstMissing_97 : decode cX6_firstMissing 97 = .ok (.bipush (-9), 2) := by decide +kernel
theorem dX6_firstMissing_99 : decode cX6_firstMissing 99 = .ok (.ireturn, 1) := by decide +kernel
theorem dX6_missingEnds_0 : decode cX6_missingEnds 0 = .ok (.iconst 0, 1) := by decide +kernel
theorem dX6_missingEnds_1 : decode cX6_missingEnds 1 = .ok (.istore 5, 2) := by decide +kernel
theorem dX6_missingEnds_3 : decode cX6_missingEnds 3 = .ok (.iload_n 3, 1) := by decide +kernel
theorem dX6_missingEnds_4 : decode cX6_missingEnds 4 = .ok (.istore 6, 2) := by decide +kernel
theorem dX6_missingEnds_6 : decode cX6_missingEnds 6 = .ok (.iload 6, 2) := by decide +kernel
theorem dX6_missingEnds_8 : decode cX6_missingEnds 8 = .ok (.bipush 16, 2) := by decide +kernel
theorem dX6_missingEnds_10 : decode cX6_missingEnds 10 = .ok (.if_icmp .ge 46, 3) := by decide +kernel
theorem dX6_missingEnds_13 : decode cX6_missingEnds 13 = .ok (.iload 4, 2) := by decide +kernel
theorem dX6_missingEnds_15 : decode cX6_missingEnds 15 = .ok (.iload 6, 2) := by decide +kernel
theorem dX6_missingEnds_17 : decode cX6_missingEnds 17 = .ok (.ishr, 1) := by decide +kernel
theorem dX6_missingEnds_18 : decode cX6_missingEnds 18 = .ok (.iconst 1, 1) := by decide +kernel
theorem dX6_missingEnds_19 : decode cX6_missingEnds 19 = .ok (.iand, 1) := by decide +kernel
theorem dX6_missingEnds_20 : decode cX6_missingEnds 20 = .ok (.ifCond .ne 36, 3) := by decide +kernel
theorem dX6_missingEnds_23 : decode cX6_missingEnds 23 = .ok (.aload_n 0, 1) := by decide +kernel
theorem dX6_missingEnds_24 : decode cX6_missingEnds 24 = .ok (.getfield 50, 3) := by decide +kernel
theorem dX6_missingEnds_27 : decode cX6_missingEnds 27 = .ok (.iload_n 1, 1) := by decide +kernel
theorem dX6_missingEnds_28 : decode cX6_missingEnds 28 = .ok (.iload_n 2, 1) := by decide +kernel
theorem dX6_missingEnds_29 : decode cX6_missingEnds 29 = .ok (.iload_n 3, 1) := by decide +kernel
theorem dX6_missingEnds_30 : decode cX6_missingEnds 30 = .ok (.iload 6, 2) := by decide +kernel
theorem dX6_missingEnds_32 : decode cX6_missingEnds 32 = .ok (.invokestatic 247, 3) := by decide +kernel
theorem dX6_missingEnds_35 : decode cX6_missingEnds 35 = .ok (.invokevirtual 250, 3) := by decide +kernel
theorem dX6_missingEnds_38 : decode cX6_missingEnds 38 = .ok (.ifCond .eq 12, 3) := by decide +kernel
theorem dX6_missingEnds_41 : decode cX6_missingEnds 41 = .ok (.iload 5, 2) := by decide +kernel
theorem dX6_missingEnds_43 : decode cX6_missingEnds 43 = .ok (.iconst 1, 1) := by decide +kernel
theorem dX6_missingEnds_44 : decode cX6_missingEnds 44 = .ok (.iload 6, 2) := by decide +kernel
theorem dX6_missingEnds_46 : decode cX6_missingEnds 46 = .ok (.ishl, 1) := by decide +kernel
theorem dX6_missingEnds_47 : decode cX6_missingEnds 47 = .ok (.ior, 1) := by decide +kernel
theorem dX6_missingEnds_48 : decode cX6_missingEnds 48 = .ok (.istore 5, 2) := by decide +kernel
theorem dX6_missingEnds_50 : decode cX6_missingEnds 50 = .ok (.iinc 6 1, 3) := by decide +kernel
theorem dX6_missingEnds_53 : decode cX6_missingEnds 53 = .ok (.goto (-47), 3) := by decide +kernel
theorem dX6_missingEnds_56 : decode cX6_missingEnds 56 = .ok (.iload 5, 2) := by decide +kernel
theorem dX6_missingEnds_58 : decode cX6_missingEnds 58 = .ok (.ireturn, 1) := by decide +kernel
theorem dX6_share_0 : decode cX6_share 0 = .ok (.aload_n 0, 1) := by decide +kernel
theorem dX6_share_1 : decode cX6_share 1 = .ok (.getfield 19, 3) := by decide +kernel
theorem dX6_share_4 : decode cX6_share 4 = .ok (.iload_n 1, 1) := by decide +kernel
theorem dX6_share_5 : decode cX6_share 5 = .ok (.invokevirtual 82, 3) := by decide +kernel
theorem dX6_share_8 : decode cX6_share 8 = .ok (.ifCond .eq 10, 3) := by decide +kernel
theorem dX6_share_11 : decode cX6_share 11 = .ok (.iload_n 2, 1) := by decide +kernel
theorem dX6_share_12 : decode cX6_share 12 = .ok (.invokestatic 128, 3) := by decide +kernel
theorem dX6_share_15 : decode cX6_share 15 = .ok (.ifCond .ne 5, 3) := by decide +kernel
theorem dX6_share_18 : decode cX6_share 18 = .ok (.iconst (-1), 1) := by decide +kernel
theorem dX6_share_19 : decode cX6_share 19 = .ok (.ireturn, 1) := by decide +kernel
theorem dX6_share_20 : decode cX6_share 20 = .ok (.aload_n 0, 1) := by decide +kernel
theorem dX6_share_21 : decode cX6_share 21 = .ok (.getfield 43, 3) := by decide +kernel
theorem dX6_share_24 : decode cX6_share 24 = .ok (.aload_n 0, 1) := by decide +kernel
theorem dX6_share_25 : decode cX6_share 25 = .ok (.getfield 19, 3) := by decide +kernel
theorem dX6_share_28 : decode cX6_share 28 = .ok (.iload_n 2, 1) := by decide +kernel
theorem dX6_share_29 : decode cX6_share 29 = .ok (.invokevirtual 186, 3) := by decide +kernel
theorem dX6_share_32 : decode cX6_share 32 = .ok (.aload_n 0, 1) := by decide +kernel
theorem dX6_share_33 : decode cX6_share 33 = .ok (.getfield 43, 3) := by decide +kernel
theorem dX6_share_36 : decode cX6_share 36 = .ok (.getfield 189, 3) := by decide +kernel
theorem dX6_share_39 : decode cX6_share 39 = .ok (.bipush 8, 2) := by decide +kernel
theorem dX6_share_41 : decode cX6_share 41 = .ok (.if_icmp .le 6, 3) := by decide +kernel
theorem dX6_share_44 : decode cX6_share 44 = .ok (.bipush (-4), 2) := by decide +kernel
theorem dX6_share_46 : decode cX6_share 46 = .ok (.ireturn, 1) := by decide +kernel
theorem dX6_share_47 : decode cX6_share 47 = .ok (.aload_n 0, 1) := by decide +kernel
theorem dX6_share_48 : decode cX6_share 48 = .ok (.iload_n 1, 1) := by decide +kernel
theorem dX6_share_49 : decode cX6_share 49 = .ok (.invokevirtual 253, 3) := by decide +kernel
theorem dX6_share_52 : decode cX6_share 52 = .ok (.aload_n 0, 1) := by decide +kernel
theorem dX6_share_53 : decode cX6_share 53 = .ok (.getfield 43, 3) := by decide +kernel
theorem dX6_share_56 : decode cX6_share 56 = .ok (.getfield 189, 3) := by decide +kernel
theorem dX6_share_59 : decode cX6_share 59 = .ok (.invokestatic 257, 3) := by decide +kernel
theorem dX6_share_62 : decode cX6_share 62 = .ok (.iload_n 3, 1) := by decide +kernel
theorem dX6_share_63 : decode cX6_share 63 = .ok (.invokestatic 260, 3) := by decide +kernel
theorem dX6_share_66 : decode cX6_share 66 = .ok (.ireturn, 1) := by decide +kernel
theorem dX6_ordersInWhichItJoins_0 : decode cX6_ordersInWhichItJoins 0 = .ok (.aload_n 0, 1) := by decide +kernel
theorem dX6_ordersInWhichItJoins_1 : decode cX6_ordersInWhichItJoins 1 = .ok (.getfield 43, 3) := by decide +kernel
theorem dX6_ordersInWhichItJoins_4 : decode cX6_ordersInWhichItJoins 4 = .ok (.iload_n 1, 1) := by decide +kernel
theorem dX6_ordersInWhichItJoins_5 : decode cX6_ordersInWhichItJoins 5 = .ok (.invokevirtual 264, 3) := by decide +kernel
theorem dX6_ordersInWhichItJoins_8 : decode cX6_ordersInWhichItJoins 8 = .ok (.istore_n 2, 1) := by decide +kernel
theorem dX6_ordersInWhichItJoins_9 : decode cX6_ordersInWhichItJoins 9 = .ok (.iload_n 2, 1) := by decide +kernel
theorem dX6_ordersInWhichItJoins_10 : decode cX6_ordersInWhichItJoins 10 = .ok (.ifCond .ge 5, 3) := by decide +kernel
theorem dX6_ordersInWhichItJoins_13 : decode cX6_ordersInWhichItJoins 13 = .ok (.lconst 0, 1) := by decide +kernel
theorem dX6_ordersInWhichItJoins_14 : decode cX6_ordersInWhichItJoins 14 = .ok (.lreturn, 1) := by decide +kernel
theorem dX6_ordersInWhichItJoins_15 : decode cX6_ordersInWhichItJoins 15 = .ok (.lconst 0, 1) := by decide +kernel
theorem dX6_ordersInWhichItJoins_16 : decode cX6_ordersInWhichItJoins 16 = .ok (.lstore_n 3, 1) := by decide +kernel
theorem dX6_ordersInWhichItJoins_17 : decode cX6_ordersInWhichItJoins 17 = .ok (.iconst 0, 1) := by decide +kernel
theorem dX6_ordersInWhichItJoins_18 : decode cX6_ordersInWhichItJoins 18 = .ok (.istore 5, 2) := by decide +kernel
theorem dX6_ordersInWhichItJoins_20 : decode cX6_ordersInWhichItJoins 20 = .ok (.iload 5, 2) := by decide +kernel
theorem dX6_ordersInWhichItJoins_22 : decode cX6_ordersInWhichItJoins 22 = .ok (.aload_n 0, 1) := by decide +kernel
theorem dX6_ordersInWhichItJoins_23 : decode cX6_ordersInWhichItJoins 23 = .ok (.getfield 43, 3) := by decide +kernel
theorem dX6_ordersInWhichItJoins_26 : decode cX6_ordersInWhichItJoins 26 = .ok (.invokevirtual 192, 3) := by decide +kernel
theorem dX6_ordersInWhichItJoins_29 : decode cX6_ordersInWhichItJoins 29 = .ok (.if_icmp .gt 91, 3) := by decide +kernel
theorem dX6_ordersInWhichItJoins_32 : decode cX6_ordersInWhichItJoins 32 = .ok (.iload 5, 2) := by decide +kernel
theorem dX6_ordersInWhichItJoins_34 : decode cX6_ordersInWhichItJoins 34 = .ok (.iload_n 2, 1) := by decide +kernel
theorem dX6_ordersInWhichItJoins_35 : decode cX6_ordersInWhichItJoins 35 = .ok (.ishr, 1) := by decide +kernel
theorem dX6_ordersInWhichItJoins_36 : decode cX6_ordersInWhichItJoins 36 = .ok (.iconst 1, 1) := by decide +kernel
theorem dX6_ordersInWhichItJoins_37 : decode cX6_ordersInWhichItJoins 37 = .ok (.iand, 1) := by decide +kernel
theorem dX6_ordersInWhichItJoins_38 : decode cX6_ordersInWhichItJoins 38 = .ok (.ifCond .ne 7, 3) := by decide +kernel
theorem dX6_ordersInWhichItJoins_41 : decode cX6_ordersInWhichItJoins 41 = .ok (.iconst 1, 1) := by decide +kernel
theorem dX6_ordersInWhichItJoins_42 : decode cX6_ordersInWhichItJoins 42 = .ok (.goto 4, 3) := by decide +kernel
theorem dX6_ordersInWhichItJoins_45 : decode cX6_ordersInWhichItJoins 45 = .ok (.iconst 0, 1) := by decide +kernel
theorem dX6_ordersInWhichItJoins_46 : decode cX6_ordersInWhichItJoins 46 = .ok (.istore 6, 2) := by decide +kernel
theorem dX6_ordersInWhichItJoins_48 : decode cX6_ordersInWhichItJoins 48 = .ok (.iload 6, 2) := by decide +kernel
theorem dX6_ordersInWhichItJoins_50 : decode cX6_ordersInWhichItJoins 50 = .ok (.ifCond .eq 64, 3) := by decide +kernel
theorem dX6_ordersInWhichItJoins_53 : decode cX6_ordersInWhichItJoins 53 = .ok (.aload_n 0, 1) := by decide +kernel
theorem dX6_ordersInWhichItJoins_54 : decode cX6_ordersInWhichItJoins 54 = .ok (.getfield 43, 3) := by decide +kernel
theorem dX6_ordersInWhichItJoins_57 : decode cX6_ordersInWhichItJoins 57 = .ok (.aload_n 0, 1) := by decide +kernel
theorem dX6_ordersInWhichItJoins_58 : decode cX6_ordersInWhichItJoins 58 = .ok (.getfield 43, 3) := by decide +kernel
theorem dX6_ordersInWhichItJoins_61 : decode cX6_ordersInWhichItJoins 61 = .ok (.getfield 190, 3) := by decide +kernel
theorem dX6_ordersInWhichItJoins_64 : decode cX6_ordersInWhichItJoins 64 = .ok (.iload_n 2, 1) := by decide +kernel
theorem dX6_ordersInWhichItJoins_65 : decode cX6_ordersInWhichItJoins 65 = .ok (.iaload, 1) := by decide +kernel
theorem dX6_ordersInWhichItJoins_66 : decode cX6_ordersInWhichItJoins 66 = .ok (.aload_n 0, 1) := by decide +kernel
theorem dX6_ordersInWhichItJoins_67 : decode cX6_ordersInWhichItJoins 67 = .ok (.getfield 43, 3) := by decide +kernel
theorem dX6_ordersInWhichItJoins_70 : decode cX6_ordersInWhichItJoins 70 = .ok (.getfield 191, 3) := by decide +kernel
theorem dX6_ordersInWhichItJoins_73 : decode cX6_ordersInWhichItJoins 73 = .ok (.iload_n 2, 1) := by decide +kernel
theorem dX6_ordersInWhichItJoins_74 : decode cX6_ordersInWhichItJoins 74 = .ok (.iaload, 1) := by decide +kernel
theorem dX6_ordersInWhichItJoins_75 : decode cX6_ordersInWhichItJoins 75 = .ok (.iload 5, 2) := by decide +kernel
theorem dX6_ordersInWhichItJoins_77 : decode cX6_ordersInWhichItJoins 77 = .ok (.invokevirtual 195, 3) := by decide +kernel
theorem dX6_ordersInWhichItJoins_80 : decode cX6_ordersInWhichItJoins 80 = .ok (.ifCond .ne 34, 3) := by decide +kernel
theorem dX6_ordersInWhichItJoins_83 : decode cX6_ordersInWhichItJoins 83 = .ok (.iload 5, 2) := by decide +kernel
theorem dX6_ordersInWhichItJoins_85 : decode cX6_ordersInWhichItJoins 85 = .ok (.invokestatic 177, 3) := by decide +kernel
theorem dX6_ordersInWhichItJoins_88 : decode cX6_ordersInWhichItJoins 88 = .ok (.istore 7, 2) := by decide +kernel
theorem dX6_ordersInWhichItJoins_90 : decode cX6_ordersInWhichItJoins 90 = .ok (.lload_n 3, 1) := by decide +kernel
theorem dX6_ordersInWhichItJoins_91 : decode cX6_ordersInWhichItJoins 91 = .ok (.iload 7, 2) := by decide +kernel
theorem dX6_ordersInWhichItJoins_93 : decode cX6_ordersInWhichItJoins 93 = .ok (.invokestatic 257, 3) := by decide +kernel
theorem dX6_ordersInWhichItJoins_96 : decode cX6_ordersInWhichItJoins 96 = .ok (.aload_n 0, 1) := by decide +kernel
theorem dX6_ordersInWhichItJoins_97 : decode cX6_ordersInWhichItJoins 97 = .ok (.getfield 43, 3) := by decide +kernel
theorem dX6_ordersInWhichItJoins_100 : decode cX6_ordersInWhichItJoins 100 = .ok (.getfield 189, 3) := by decide +kernel
theorem dX6_ordersInWhichItJoins_103 : decode cX6_ordersInWhichItJoins 103 = .ok (.iconst 1, 1) := by decide +kernel
theorem dX6_ordersInWhichItJoins_104 : decode cX6_ordersInWhichItJoins 104 = .ok (.isub, 1) := by decide +kernel
theorem dX6_ordersInWhichItJoins_105 : decode cX6_ordersInWhichItJoins 105 = .ok (.iload 7, 2) := by decide +kernel
theorem dX6_ordersInWhichItJoins_107 : decode cX6_ordersInWhichItJoins 107 = .ok (.isub, 1) := by decide +kernel
theorem dX6_ordersInWhichItJoins_108 : decode cX6_ordersInWhichItJoins 108 = .ok (.invokestatic 257, 3) := by decide +kernel
theorem dX6_ordersInWhichItJoins_111 : decode cX6_ordersInWhichItJoins 111 = .ok (.lmul, 1) := by decide +kernel
theorem dX6_ordersInWhichItJoins_112 : decode cX6_ordersInWhichItJoins 112 = .ok (.ladd, 1) := by decide +kernel
theorem dX6_ordersInWhichItJoins_113 : decode cX6_ordersInWhichItJoins 113 = .ok (.lstore_n 3, 1) := by decide +kernel
theorem dX6_ordersInWhichItJoins_114 : decode cX6_ordersInWhichItJoins 114 = .ok (.iinc 5 1, 3) := by decide +kernel
theorem dX6_ordersInWhichItJoins_117 : decode cX6_ordersInWhichItJoins 117 = .ok (.goto (-97), 3) := by decide +kernel
theorem dX6_ordersInWhichItJoins_120 : decode cX6_ordersInWhichItJoins 120 = .ok (.lload_n 3, 1) := by decide +kernel
theorem dX6_ordersInWhichItJoins_121 : decode cX6_ordersInWhichItJoins 121 = .ok (.lreturn, 1) := by decide +kernel
theorem dX6_fails_0 : decode cX6_fails 0 = .ok (.iload_n 1, 1) := by decide +kernel
theorem dX6_fails_1 : decode cX6_fails 1 = .ok (.invokestatic 150, 3) := by decide +kernel
theorem dX6_fails_4 : decode cX6_fails 4 = .ok (.ifCond .eq 17, 3) := by decide +kernel
theorem dX6_fails_7 : decode cX6_fails 7 = .ok (.iload_n 2, 1) := by decide +kernel
theorem dX6_fails_8 : decode cX6_fails 8 = .ok (.invokestatic 150, 3) := by decide +kernel
theorem dX6_fails_11 : decode cX6_fails 11 = .ok (.ifCond .eq 10, 3) := by decide +kernel
theorem dX6_fails_14 : decode cX6_fails 14 = .ok (.iload_n 3, 1) := by decide +kernel
theorem dX6_fails_15 : decode cX6_fails 15 = .ok (.invokestatic 128, 3) := by decide +kernel
theorem dX6_fails_18 : decode cX6_fails 18 = .ok (.ifCond .ne 5, 3) := by decide +kernel
theorem dX6_fails_21 : decode cX6_fails 21 = .ok (.iconst (-1), 1) := by decide +kernel
theorem dX6_fails_22 : decode cX6_fails 22 = .ok (.ireturn, 1) := by decide +kernel
theorem dX6_fails_23 : decode cX6_fails 23 = .ok (.iload 4, 2) := by decide +kernel
theorem dX6_fails_25 : decode cX6_fails 25 = .ok (.ifCond .lt 10, 3) := by decide +kernel
theorem dX6_fails_28 : decode cX6_fails 28 = .ok (.iload 4, 2) := by decide +kernel
theorem dX6_fails_30 : decode cX6_fails 30 = .ok (.bipush 10, 2) := by decide +kernel
theorem dX6_fails_32 : decode cX6_fails 32 = .ok (.if_icmp .le 6, 3) := by decide +kernel
theorem dX6_fails_35 : decode cX6_fails 35 = .ok (.bipush (-2), 2) := by decide +kernel
theorem dX6_fails_37 : decode cX6_fails 37 = .ok (.ireturn, 1) := by decide +kernel
theorem dX6_fails_38 : decode cX6_fails 38 = .ok (.aload_n 0, 1) := by decide +kernel
theorem dX6_fails_39 : decode cX6_fails 39 = .ok (.getfield 43, 3) := by decide +kernel
theorem dX6_fails_42 : decode cX6_fails 42 = .ok (.aload_n 0, 1) := by decide +kernel
theorem dX6_fails_43 : decode cX6_fails 43 = .ok (.getfield 19, 3) := by decide +kernel
theorem dX6_fails_46 : decode cX6_fails 46 = .ok (.iload_n 3, 1) := by decide +kernel
theorem dX6_fails_47 : decode cX6_fails 47 = .ok (.invokevirtual 186, 3) := by decide +kernel
theorem dX6_fails_50 : decode cX6_fails 50 = .ok (.aload_n 0, 1) := by decide +kernel
theorem dX6_fails_51 : decode cX6_fails 51 = .ok (.getfield 43, 3) := by decide +kernel
theorem dX6_fails_54 : decode cX6_fails 54 = .ok (.getfield 189, 3) := by decide +kernel
theorem dX6_fails_57 : decode cX6_fails 57 = .ok (.bipush 8, 2) := by decide +kernel
theorem dX6_fails_59 : decode cX6_fails 59 = .ok (.if_icmp .le 6, 3) := by decide +kernel
theorem dX6_fails_62 : decode cX6_fails 62 = .ok (.bipush (-4), 2) := by decide +kernel
theorem dX6_fails_64 : decode cX6_fails 64 = .ok (.ireturn, 1) := by decide +kernel
theorem dX6_fails_65 : decode cX6_fails 65 = .ok (.aload_n 0, 1) := by decide +kernel
theorem dX6_fails_66 : decode cX6_fails 66 = .ok (.iload_n 1, 1) := by decide +kernel
theorem dX6_fails_67 : decode cX6_fails 67 = .ok (.iload_n 2, 1) := by decide +kernel
theorem dX6_fails_68 : decode cX6_fails 68 = .ok (.iload 4, 2) := by decide +kernel
theorem dX6_fails_70 : decode cX6_fails 70 = .ok (.invokevirtual 267, 3) := by decide +kernel
theorem dX6_fails_73 : decode cX6_fails 73 = .ok (.ldc2_w 271, 3) := by decide +kernel
theorem dX6_fails_76 : decode cX6_fails 76 = .ok (.aload_n 0, 1) := by decide +kernel
theorem dX6_fails_77 : decode cX6_fails 77 = .ok (.getfield 43, 3) := by decide +kernel
theorem dX6_fails_80 : decode cX6_fails 80 = .ok (.getfield 189, 3) := by decide +kernel
theorem dX6_fails_83 : decode cX6_fails 83 = .ok (.invokestatic 209, 3) := by decide +kernel
theorem dX6_fails_86 : decode cX6_fails 86 = .ok (.iload 5, 2) := by decide +kernel
theorem dX6_fails_88 : decode cX6_fails 88 = .ok (.invokestatic 260, 3) := by decide +kernel
theorem dX6_fails_91 : decode cX6_fails 91 = .ok (.ireturn, 1) := by decide +kernel
theorem dX6_chancesOfJoined_0 : decode cX6_chancesOfJoined 0 = .ok (.lconst 0, 1) := by decide +kernel
theorem dX6_chancesOfJoined_1 : decode cX6_chancesOfJoined 1 = .ok (.lstore 4, 2) := by decide +kernel
theorem dX6_chancesOfJoined_3 : decode cX6_chancesOfJoined 3 = .ok (.iconst 0, 1) := by decide +kernel
theorem dX6_chancesOfJoined_4 : decode cX6_chancesOfJoined 4 = .ok (.istore 6, 2) := by decide +kernel
theorem dX6_chancesOfJoined_6 : decode cX6_chancesOfJoined 6 = .ok (.iload 6, 2) := by decide +kernel
theorem dX6_chancesOfJoined_8 : decode cX6_chancesOfJoined 8 = .ok (.aload_n 0, 1) := by decide +kernel
theorem dX6_chancesOfJoined_9 : decode cX6_chancesOfJoined 9 = .ok (.getfield 43, 3) := by decide +kernel
theorem dX6_chancesOfJoined_12 : decode cX6_chancesOfJoined 12 = .ok (.invokevirtual 192, 3) := by decide +kernel
theorem dX6_chancesOfJoined_15 : decode cX6_chancesOfJoined 15 = .ok (.if_icmp .gt 61, 3) := by decide +kernel
theorem dX6_chancesOfJoined_18 : decode cX6_chancesOfJoined 18 = .ok (.aload_n 0, 1) := by decide +kernel
theorem dX6_chancesOfJoined_19 : decode cX6_chancesOfJoined 19 = .ok (.getfield 43, 3) := by decide +kernel
theorem dX6_chancesOfJoined_22 : decode cX6_chancesOfJoined 22 = .ok (.iload_n 1, 1) := by decide +kernel
theorem dX6_chancesOfJoined_23 : decode cX6_chancesOfJoined 23 = .ok (.iload_n 2, 1) := by decide +kernel
theorem dX6_chancesOfJoined_24 : decode cX6_chancesOfJoined 24 = .ok (.iload 6, 2) := by decide +kernel
theorem dX6_chancesOfJoined_26 : decode cX6_chancesOfJoined 26 = .ok (.invokevirtual 195, 3) := by decide +kernel
theorem dX6_chancesOfJoined_29 : decode cX6_chancesOfJoined 29 = .ok (.ifCond .eq 41, 3) := by decide +kernel
theorem dX6_chancesOfJoined_32 : decode cX6_chancesOfJoined 32 = .ok (.iload 6, 2) := by decide +kernel
theorem dX6_chancesOfJoined_34 : decode cX6_chancesOfJoined 34 = .ok (.invokestatic 177, 3) := by decide +kernel
theorem dX6_chancesOfJoined_37 : decode cX6_chancesOfJoined 37 = .ok (.istore 7, 2) := by decide +kernel
theorem dX6_chancesOfJoined_39 : decode cX6_chancesOfJoined 39 = .ok (.lload 4, 2) := by decide +kernel
theorem dX6_chancesOfJoined_41 : decode cX6_chancesOfJoined 41 = .ok (.bipush 10, 2) := by decide +kernel
theorem dX6_chancesOfJoined_43 : decode cX6_chancesOfJoined 43 = .ok (.iload_n 3, 1) := by decide +kernel
theorem dX6_chancesOfJoined_44 : decode cX6_chancesOfJoined 44 = .ok (.isub, 1) := by decide +kernel
theorem dX6_chancesOfJoined_45 : decode cX6_chancesOfJoined 45 = .ok (.i2l, 1) := by decide +kernel
theorem dX6_chancesOfJoined_46 : decode cX6_chancesOfJoined 46 = .ok (.iload 7, 2) := by decide +kernel
theorem dX6_chancesOfJoined_48 : decode cX6_chancesOfJoined 48 = .ok (.invokestatic 209, 3) := by decide +kernel
theorem dX6_chancesOfJoined_51 : decode cX6_chancesOfJoined 51 = .ok (.iload_n 3, 1) := by decide +kernel
theorem dX6_chancesOfJoined_52 : decode cX6_chancesOfJoined 52 = .ok (.i2l, 1) := by decide +kernel
theorem dX6_chancesOfJoined_53 : decode cX6_chancesOfJoined 53 = .ok (.aload_n 0, 1) := by decide +kernel
theorem dX6_chancesOfJoined_54 : decode cX6_chancesOfJoined 54 = .ok (.getfield 43, 3) := by decide +kernel
theorem dX6_chancesOfJoined_57 : decode cX6_chancesOfJoined 57 = .ok (.getfield 189, 3) := by decide +kernel
theorem dX6_chancesOfJoined_60 : decode cX6_chancesOfJoined 60 = .ok (.iload 7, 2) := by decide +kernel
theorem dX6_chancesOfJoined_62 : decode cX6_chancesOfJoined 62 = .ok (.isub, 1) := by decide +kernel
theorem dX6_chancesOfJoined_63 : decode cX6_chancesOfJoined 63 = .ok (.invokestatic 209, 3) := by decide +kernel
theorem dX6_chancesOfJoined_66 : decode cX6_chancesOfJoined 66 = .ok (.lmul, 1) := by decide +kernel
theorem dX6_chancesOfJoined_67 : decode cX6_chancesOfJoined 67 = .ok (.ladd, 1) := by decide +kernel
theorem dX6_chancesOfJoined_68 : decode cX6_chancesOfJoined 68 = .ok (.lstore 4, 2) := by decide +kernel
theorem dX6_chancesOfJoined_70 : decode cX6_chancesOfJoined 70 = .ok (.iinc 6 1, 3) := by decide +kernel
theorem dX6_chancesOfJoined_73 : decode cX6_chancesOfJoined 73 = .ok (.goto (-67), 3) := by decide +kernel
theorem dX6_chancesOfJoined_76 : decode cX6_chancesOfJoined 76 = .ok (.lload 4, 2) := by decide +kernel
theorem dX6_chancesOfJoined_78 : decode cX6_chancesOfJoined 78 = .ok (.lreturn, 1) := by decide +kernel
theorem dX6_seed_0 : decode cX6_seed 0 = .ok (.aload_n 0, 1) := by decide +kernel
theorem dX6_seed_1 : decode cX6_seed 1 = .ok (.getfield 273, 3) := by decide +kernel
theorem dX6_seed_4 : decode cX6_seed 4 = .ok (.lstore_n 3, 1) := by decide +kernel
theorem dX6_seed_5 : decode cX6_seed 5 = .ok (.aload_n 0, 1) := by decide +kernel
theorem dX6_seed_6 : decode cX6_seed 6 = .ok (.lload_n 1, 1) := by decide +kernel
theorem dX6_seed_7 : decode cX6_seed 7 = .ok (.putfield 273, 3) := by decide +kernel
theorem dX6_seed_10 : decode cX6_seed 10 = .ok (.lload_n 3, 1) := by decide +kernel
theorem dX6_seed_11 : decode cX6_seed 11 = .ok (.lreturn, 1) := by decide +kernel
theorem dX6_drawn_0 : decode cX6_drawn 0 = .ok (.iload_n 1, 1) := by decide +kernel
theorem dX6_drawn_1 : decode cX6_drawn 1 = .ok (.iconst 1, 1) := by decide +kernel
theorem dX6_drawn_2 : decode cX6_drawn 2 = .ok (.if_icmp .lt 9, 3) := by decide +kernel
theorem dX6_drawn_5 : decode cX6_drawn 5 = .ok (.iload_n 1, 1) := by decide +kernel
theorem dX6_drawn_6 : decode cX6_drawn 6 = .ok (.bipush 16, 2) := by decide +kernel
theorem dX6_drawn_8 : decode cX6_drawn 8 = .ok (.if_icmp .le 6, 3) := by decide +kernel
theorem dX6_drawn_11 : decode cX6_drawn 11 = .ok (.bipush (-2), 2) := by decide +kernel
theorem dX6_drawn_13 : decode cX6_drawn 13 = .ok (.ireturn, 1) := by decide +kernel
theorem dX6_drawn_14 : decode cX6_drawn 14 = .ok (.aload_n 0, 1) := by decide +kernel
theorem dX6_drawn_15 : decode cX6_drawn 15 = .ok (.getfield 23, 3) := by decide +kernel
theorem dX6_drawn_18 : decode cX6_drawn 18 = .ok (.aload_n 0, 1) := by decide +kernel
theorem dX6_drawn_19 : decode cX6_drawn 19 = .ok (.getfield 19, 3) := by decide +kernel
theorem dX6_drawn_22 : decode cX6_drawn 22 = .ok (.invokevirtual 105, 3) := by decide +kernel
theorem dX6_drawn_25 : decode cX6_drawn 25 = .ok (.iconst 0, 1) := by decide +kernel
theorem dX6_drawn_26 : decode cX6_drawn 26 = .ok (.istore_n 2, 1) := by decide +kernel
theorem dX6_drawn_27 : decode cX6_drawn 27 = .ok (.iconst 0, 1) := by decide +kernel
theorem dX6_drawn_28 : decode cX6_drawn 28 = .ok (.istore_n 3, 1) := by decide +kernel
theorem dX6_drawn_29 : decode cX6_drawn 29 = .ok (.iload_n 3, 1) := by decide +kernel
theorem dX6_drawn_30 : decode cX6_drawn 30 = .ok (.iload_n 1, 1) := by decide +kernel
theorem dX6_drawn_31 : decode cX6_drawn 31 = .ok (.if_icmp .ge 46, 3) := by decide +kernel
theorem dX6_drawn_34 : decode cX6_drawn 34 = .ok (.aload_n 0, 1) := by decide +kernel
theorem dX6_drawn_35 : decode cX6_drawn 35 = .ok (.aload_n 0, 1) := by decide +kernel
theorem dX6_drawn_36 : decode cX6_drawn 36 = .ok (.getfield 273, 3) := by decide +kernel
theorem dX6_drawn_39 : decode cX6_drawn 39 = .ok (.ldc2_w 277, 3) := by decide +kernel
theorem dX6_drawn_42 : decode cX6_drawn 42 = .ok (.lmul, 1) := by decide +kernel
theorem dX6_drawn_43 : decode cX6_drawn 43 = .ok (.ldc2_w 279, 3) := by decide +kernel
theorem dX6_drawn_46 : decode cX6_drawn 46 = .ok (.ladd, 1) := by decide +kernel
theorem dX6_drawn_47 : decode cX6_drawn 47 = .ok (.putfield 273, 3) := by decide +kernel
theorem dX6_drawn_50 : decode cX6_drawn 50 = .ok (.aload_n 0, 1) := by decide +kernel
theorem dX6_drawn_51 : decode cX6_drawn 51 = .ok (.aload_n 0, 1) := by decide +kernel
theorem dX6_drawn_52 : decode cX6_drawn 52 = .ok (.getfield 273, 3) := by decide +kernel
theorem dX6_drawn_55 : decode cX6_drawn 55 = .ok (.bipush 33, 2) := by decide +kernel
theorem dX6_drawn_57 : decode cX6_drawn 57 = .ok (.lushr, 1) := by decide +kernel
theorem dX6_drawn_58 : decode cX6_drawn 58 = .ok (.l2i, 1) := by decide +kernel
theorem dX6_drawn_59 : decode cX6_drawn 59 = .ok (.invokevirtual 281, 3) := by decide +kernel
theorem dX6_drawn_62 : decode cX6_drawn 62 = .ok (.iload_n 2, 1) := by decide +kernel
theorem dX6_drawn_63 : decode cX6_drawn 63 = .ok (.aload_n 0, 1) := by decide +kernel
theorem dX6_drawn_64 : decode cX6_drawn 64 = .ok (.bipush 8, 2) := by decide +kernel
theorem dX6_drawn_66 : decode cX6_drawn 66 = .ok (.invokevirtual 219, 3) := by decide +kernel
theorem dX6_drawn_69 : decode cX6_drawn 69 = .ok (.iadd, 1) := by decide +kernel
theorem dX6_drawn_70 : decode cX6_drawn 70 = .ok (.istore_n 2, 1) := by decide +kernel
theorem dX6_drawn_71 : decode cX6_drawn 71 = .ok (.iinc 3 1, 3) := by decide +kernel
theorem dX6_drawn_74 : decode cX6_drawn 74 = .ok (.goto (-45), 3) := by decide +kernel
theorem dX6_drawn_77 : decode cX6_drawn 77 = .ok (.iload_n 2, 1) := by decide +kernel
theorem dX6_drawn_78 : decode cX6_drawn 78 = .ok (.ireturn, 1) := by decide +kernel
theorem dX6_addDrawn_0 : decode cX6_addDrawn 0 = .ok (.iload_n 1, 1) := by decide +kernel
theorem dX6_addDrawn_1 : decode cX6_addDrawn 1 = .ok (.bipush 64, 2) := by decide +kernel
theorem dX6_addDrawn_3 : decode cX6_addDrawn 3 = .ok (.idiv, 1) := by decide +kernel
theorem dX6_addDrawn_4 : decode cX6_addDrawn 4 = .ok (.bipush 16, 2) := by decide +kernel
theorem dX6_addDrawn_6 : decode cX6_addDrawn 6 = .ok (.irem, 1) := by decide +kernel
theorem dX6_addDrawn_7 : decode cX6_addDrawn 7 = .ok (.istore_n 2, 1) := by decide +kernel
theorem dX6_addDrawn_8 : decode cX6_addDrawn 8 = .ok (.iload_n 2, 1) := by decide +kernel
theorem dX6_addDrawn_9 : decode cX6_addDrawn 9 = .ok (.iload_n 1, 1) := by decide +kernel
theorem dX6_addDrawn_10 : decode cX6_addDrawn 10 = .ok (.sipush 1024, 3) := by decide +kernel
theorem dX6_addDrawn_13 : decode cX6_addDrawn 13 = .ok (.idiv, 1) := by decide +kernel
theorem dX6_addDrawn_14 : decode cX6_addDrawn 14 = .ok (.bipush 16, 2) := by decide +kernel
theorem dX6_addDrawn_16 : decode cX6_addDrawn 16 = .ok (.irem, 1) := by decide +kernel
theorem dX6_addDrawn_17 : decode cX6_addDrawn 17 = .ok (.iadd, 1) := by decide +kernel
theorem dX6_addDrawn_18 : decode cX6_addDrawn 18 = .ok (.bipush 15, 2) := by decide +kernel
theorem dX6_addDrawn_20 : decode cX6_addDrawn 20 = .ok (.invokestatic 285, 3) := by decide +kernel
theorem dX6_addDrawn_23 : decode cX6_addDrawn 23 = .ok (.istore_n 3, 1) := by decide +kernel
theorem dX6_addDrawn_24 : decode cX6_addDrawn 24 = .ok (.aload_n 0, 1) := by decide +kernel
theorem dX6_addDrawn_25 : decode cX6_addDrawn 25 = .ok (.getfield 23, 3) := by decide +kernel
theorem dX6_addDrawn_28 : decode cX6_addDrawn 28 = .ok (.iload_n 1, 1) := by decide +kernel
theorem dX6_addDrawn_29 : decode cX6_addDrawn 29 = .ok (.bipush 8, 2) := by decide +kernel
theorem dX6_addDrawn_31 : decode cX6_addDrawn 31 = .ok (.irem, 1) := by decide +kernel
theorem dX6_addDrawn_32 : decode cX6_addDrawn 32 = .ok (.iload_n 1, 1) := by decide +kernel
theorem dX6_addDrawn_33 : decode cX6_addDrawn 33 = .ok (.bipush 8, 2) := by decide +kernel
theorem dX6_addDrawn_35 : decode cX6_addDrawn 35 = .ok (.idiv, 1) := by decide +kernel
theorem dX6_addDrawn_36 : decode cX6_addDrawn 36 = .ok (.bipush 8, 2) := by decide +kernel
theorem dX6_addDrawn_38 : decode cX6_addDrawn 38 = .ok (.irem, 1) := by decide +kernel
theorem dX6_addDrawn_39 : decode cX6_addDrawn 39 = .ok (.iload_n 2, 1) := by decide +kernel
theorem dX6_addDrawn_40 : decode cX6_addDrawn 40 = .ok (.iload_n 3, 1) := by decide +kernel
theorem dX6_addDrawn_41 : decode cX6_addDrawn 41 = .ok (.invokevirtual 108, 3) := by decide +kernel
theorem dX6_addDrawn_44 : decode cX6_addDrawn 44 = .ok (.pop, 1) := by decide +kernel
theorem dX6_addDrawn_45 : decode cX6_addDrawn 45 = .ok (.return_, 1) := by decide +kernel
theorem dX6_keep_0 : decode cX6_keep 0 = .ok (.iload_n 1, 1) := by decide +kernel
theorem dX6_keep_1 : decode cX6_keep 1 = .ok (.ifCond .lt 8, 3) := by decide +kernel
theorem dX6_keep_4 : decode cX6_keep 4 = .ok (.iload_n 1, 1) := by decide +kernel
theorem dX6_keep_5 : decode cX6_keep 5 = .ok (.iconst 2, 1) := by decide +kernel
theorem dX6_keep_6 : decode cX6_keep 6 = .ok (.if_icmp .lt 5, 3) := by decide +kernel
theorem dX6_keep_9 : decode cX6_keep 9 = .ok (.iconst (-1), 1) := by decide +kernel
theorem dX6_keep_10 : decode cX6_keep 10 = .ok (.ireturn, 1) := by decide +kernel
theorem dX6_keep_11 : decode cX6_keep 11 = .ok (.aload_n 0, 1) := by decide +kernel
theorem dX6_keep_12 : decode cX6_keep 12 = .ok (.getfield 54, 3) := by decide +kernel
theorem dX6_keep_15 : decode cX6_keep 15 = .ok (.iload_n 1, 1) := by decide +kernel
theorem dX6_keep_16 : decode cX6_keep 16 = .ok (.aaload, 1) := by decide +kernel
theorem dX6_keep_17 : decode cX6_keep 17 = .ok (.aload_n 0, 1) := by decide +kernel
theorem dX6_keep_18 : decode cX6_keep 18 = .ok (.getfield 19, 3) := by decide +kernel
theorem dX6_keep_21 : decode cX6_keep 21 = .ok (.invokevirtual 105, 3) := by decide +kernel
theorem dX6_keep_24 : decode cX6_keep 24 = .ok (.aload_n 0, 1) := by decide +kernel
theorem dX6_keep_25 : decode cX6_keep 25 = .ok (.getfield 58, 3) := by decide +kernel
theorem dX6_keep_28 : decode cX6_keep 28 = .ok (.iload_n 1, 1) := by decide +kernel
theorem dX6_keep_29 : decode cX6_keep 29 = .ok (.iconst 1, 1) := by decide +kernel
theorem dX6_keep_30 : decode cX6_keep 30 = .ok (.bastore, 1) := by decide +kernel
theorem dX6_keep_31 : decode cX6_keep 31 = .ok (.aload_n 0, 1) := by decide +kernel
theorem dX6_keep_32 : decode cX6_keep 32 = .ok (.getfield 19, 3) := by decide +kernel
theorem dX6_keep_35 : decode cX6_keep 35 = .ok (.getfield 81, 3) := by decide +kernel
theorem dX6_keep_38 : decode cX6_keep 38 = .ok (.ireturn, 1) := by decide +kernel
theorem dX6_again_0 : decode cX6_again 0 = .ok (.iload_n 1, 1) := by decide +kernel
theorem dX6_again_1 : decode cX6_again 1 = .ok (.ifCond .lt 8, 3) := by decide +kernel
theorem dX6_again_4 : decode cX6_again 4 = .ok (.iload_n 1, 1) := by decide +kernel
theorem dX6_again_5 : decode cX6_again 5 = .ok (.iconst 2, 1) := by decide +kernel
theorem dX6_again_6 : decode cX6_again 6 = .ok (.if_icmp .lt 5, 3) := by decide +kernel
theorem dX6_again_9 : decode cX6_again 9 = .ok (.iconst (-1), 1) := by decide +kernel
theorem dX6_again_10 : decode cX6_again 10 = .ok (.ireturn, 1) := by decide +kernel
theorem dX6_again_11 : decode cX6_again 11 = .ok (.aload_n 0, 1) := by decide +kernel
theorem dX6_again_12 : decode cX6_again 12 = .ok (.getfield 58, 3) := by decide +kernel
theorem dX6_again_15 : decode cX6_again 15 = .ok (.iload_n 1, 1) := by decide +kernel
theorem dX6_again_16 : decode cX6_again 16 = .ok (.baload, 1) := by decide +kernel
theorem dX6_again_17 : decode cX6_again 17 = .ok (.ifCond .ne 6, 3) := by decide +kernel
theorem dX6_again_20 : decode cX6_again 20 = .ok (.bipush (-3), 2) := by decide +kernel
theorem dX6_again_22 : decode cX6_again 22 = .ok (.ireturn, 1) := by decide +kernel
theorem dX6_again_23 : decode cX6_again 23 = .ok (.aload_n 0, 1) := by decide +kernel
theorem dX6_again_24 : decode cX6_again 24 = .ok (.getfield 19, 3) := by decide +kernel
theorem dX6_again_27 : decode cX6_again 27 = .ok (.aload_n 0, 1) := by decide +kernel
theorem dX6_again_28 : decode cX6_again 28 = .ok (.getfield 54, 3) := by decide +kernel
theorem dX6_again_31 : decode cX6_again 31 = .ok (.iload_n 1, 1) := by decide +kernel
theorem dX6_again_32 : decode cX6_again 32 = .ok (.aaload, 1) := by decide +kernel
theorem dX6_again_33 : decode cX6_again 33 = .ok (.invokevirtual 105, 3) := by decide +kernel
theorem dX6_again_36 : decode cX6_again 36 = .ok (.aload_n 0, 1) := by decide +kernel
theorem dX6_again_37 : decode cX6_again 37 = .ok (.getfield 29, 3) := by decide +kernel
theorem dX6_again_40 : decode cX6_again 40 = .ok (.iconst 0, 1) := by decide +kernel
theorem dX6_again_41 : decode cX6_again 41 = .ok (.putfield 78, 3) := by decide +kernel
theorem dX6_again_44 : decode cX6_again 44 = .ok (.aload_n 0, 1) := by decide +kernel
theorem dX6_again_45 : decode cX6_again 45 = .ok (.getfield 19, 3) := by decide +kernel
theorem dX6_again_48 : decode cX6_again 48 = .ok (.getfield 81, 3) := by decide +kernel
theorem dX6_again_51 : decode cX6_again 51 = .ok (.ireturn, 1) := by decide +kernel
theorem dX6_count_0 : decode cX6_count 0 = .ok (.iload_n 1, 1) := by decide +kernel
theorem dX6_count_1 : decode cX6_count 1 = .ok (.tableswitch 87 0 5 #[39, 47, 55, 63, 71, 79], 39) := by decide +kernel
theorem dX6_count_40 : decode cX6_count 40 = .ok (.aload_n 0, 1) := by decide +kernel
theorem dX6_count_41 : decode cX6_count 41 = .ok (.getfield 10, 3) := by decide +kernel
theorem dX6_count_44 : decode cX6_count 44 = .ok (.getfield 66, 3) := by decide +kernel
theorem dX6_count_47 : decode cX6_count 47 = .ok (.ireturn, 1) := by decide +kernel
theorem dX6_count_48 : decode cX6_count 48 = .ok (.aload_n 0, 1) := by decide +kernel
theorem dX6_count_49 : decode cX6_count 49 = .ok (.getfield 19, 3) := by decide +kernel
theorem dX6_count_52 : decode cX6_count 52 = .ok (.getfield 81, 3) := by decide +kernel
theorem dX6_count_55 : decode cX6_count 55 = .ok (.ireturn, 1) := by decide +kernel
theorem dX6_count_56 : decode cX6_count 56 = .ok (.aload_n 0, 1) := by decide +kernel
theorem dX6_count_57 : decode cX6_count 57 = .ok (.getfield 19, 3) := by decide +kernel
theorem dX6_count_60 : decode cX6_count 60 = .ok (.invokevirtual 290, 3) := by decide +kernel
theorem dX6_count_63 : decode cX6_count 63 = .ok (.ireturn, 1) := by decide +kernel
theorem dX6_count_64 : decode cX6_count 64 = .ok (.aload_n 0, 1) := by decide +kernel
theorem dX6_count_65 : decode cX6_count 65 = .ok (.getfield 19, 3) := by decide +kernel
theorem dX6_count_68 : decode cX6_count 68 = .ok (.invokevirtual 293, 3) := by decide +kernel
theorem dX6_count_71 : decode cX6_count 71 = .ok (.ireturn, 1) := by decide +kernel
theorem dX6_count_72 : decode cX6_count 72 = .ok (.aload_n 0, 1) := by decide +kernel
theorem dX6_count_73 : decode cX6_count 73 = .ok (.getfield 29, 3) := by decide +kernel
theorem dX6_count_76 : decode cX6_count 76 = .ok (.getfield 78, 3) := by decide +kernel
theorem dX6_count_79 : decode cX6_count 79 = .ok (.ireturn, 1) := by decide +kernel
theorem dX6_count_80 : decode cX6_count 80 = .ok (.aload_n 0, 1) := by decide +kernel
theorem dX6_count_81 : decode cX6_count 81 = .ok (.getfield 50, 3) := by decide +kernel
theorem dX6_count_84 : decode cX6_count 84 = .ok (.getfield 225, 3) := by decide +kernel
theorem dX6_count_87 : decode cX6_count 87 = .ok (.ireturn, 1) := by decide +kernel
theorem dX6_count_88 : decode cX6_count 88 = .ok (.bipush (-2), 2) := by decide +kernel
theorem dX6_count_90 : decode cX6_count 90 = .ok (.ireturn, 1) := by decide +kernel
theorem dX6_isKnot_0 : decode cX6_isKnot 0 = .ok (.iload_n 0, 1) := by decide +kernel
theorem dX6_isKnot_1 : decode cX6_isKnot 1 = .ok (.ifCond .lt 13, 3) := by decide +kernel
theorem dX6_isKnot_4 : decode cX6_isKnot 4 = .ok (.iload_n 0, 1) := by decide +kernel
theorem dX6_isKnot_5 : decode cX6_isKnot 5 = .ok (.bipush 8, 2) := by decide +kernel
theorem dX6_isKnot_7 : decode cX6_isKnot 7 = .ok (.if_icmp .ge 7, 3) := by decide +kernel
theorem dX6_isKnot_10 : decode cX6_isKnot 10 = .ok (.iconst 1, 1) := by decide +kernel
theorem dX6_isKnot_11 : decode cX6_isKnot 11 = .ok (.goto 4, 3) := by decide +kernel
theorem dX6_isKnot_14 : decode cX6_isKnot 14 = .ok (.iconst 0, 1) := by decide +kernel
theorem dX6_isKnot_15 : decode cX6_isKnot 15 = .ok (.ireturn, 1) := by decide +kernel
theorem dX6_isTime_0 : decode cX6_isTime 0 = .ok (.iload_n 0, 1) := by decide +kernel
theorem dX6_isTime_1 : decode cX6_isTime 1 = .ok (.ifCond .lt 13, 3) := by decide +kernel
theorem dX6_isTime_4 : decode cX6_isTime 4 = .ok (.iload_n 0, 1) := by decide +kernel
theorem dX6_isTime_5 : decode cX6_isTime 5 = .ok (.bipush 16, 2) := by decide +kernel
theorem dX6_isTime_7 : decode cX6_isTime 7 = .ok (.if_icmp .ge 7, 3) := by decide +kernel
theorem dX6_isTime_10 : decode cX6_isTime 10 = .ok (.iconst 1, 1) := by decide +kernel
theorem dX6_isTime_11 : decode cX6_isTime 11 = .ok (.goto 4, 3) := by decide +kernel
theorem dX6_isTime_14 : decode cX6_isTime 14 = .ok (.iconst 0, 1) := by decide +kernel
theorem dX6_isTime_15 : decode cX6_isTime 15 = .ok (.ireturn, 1) := by decide +kernel
theorem dX6_stretch_0 : decode cX6_stretch 0 = .ok (.iload_n 0, 1) := by decide +kernel
theorem dX6_stretch_1 : decode cX6_stretch 1 = .ok (.invokestatic 128, 3) := by decide +kernel
theorem dX6_stretch_4 : decode cX6_stretch 4 = .ok (.ifCond .eq 15, 3) := by decide +kernel
theorem dX6_stretch_7 : decode cX6_stretch 7 = .ok (.iload_n 1, 1) := by decide +kernel
theorem dX6_stretch_8 : decode cX6_stretch 8 = .ok (.invokestatic 128, 3) := by decide +kernel
theorem dX6_stretch_11 : decode cX6_stretch 11 = .ok (.ifCond .eq 8, 3) := by decide +kernel
theorem dX6_stretch_14 : decode cX6_stretch 14 = .ok (.iload_n 1, 1) := by decide +kernel
theorem dX6_stretch_15 : decode cX6_stretch 15 = .ok (.iload_n 0, 1) := by decide +kernel
theorem dX6_stretch_16 : decode cX6_stretch 16 = .ok (.if_icmp .ge 5, 3) := by decide +kernel
theorem dX6_stretch_19 : decode cX6_stretch 19 = .ok (.iconst 0, 1) := by decide +kernel
theorem dX6_stretch_20 : decode cX6_stretch 20 = .ok (.ireturn, 1) := by decide +kernel
theorem dX6_stretch_21 : decode cX6_stretch 21 = .ok (.ldc_w 296, 3) := by decide +kernel
theorem dX6_stretch_24 : decode cX6_stretch 24 = .ok (.bipush 15, 2) := by decide +kernel
theorem dX6_stretch_26 : decode cX6_stretch 26 = .ok (.iload_n 1, 1) := by decide +kernel
theorem dX6_stretch_27 : decode cX6_stretch 27 = .ok (.iload_n 0, 1) := by decide +kernel
theorem dX6_stretch_28 : decode cX6_stretch 28 = .ok (.isub, 1) := by decide +kernel
theorem dX6_stretch_29 : decode cX6_stretch 29 = .ok (.isub, 1) := by decide +kernel
theorem dX6_stretch_30 : decode cX6_stretch 30 = .ok (.ishr, 1) := by decide +kernel
theorem dX6_stretch_31 : decode cX6_stretch 31 = .ok (.iload_n 0, 1) := by decide +kernel
theorem dX6_stretch_32 : decode cX6_stretch 32 = .ok (.ishl, 1) := by decide +kernel
theorem dX6_stretch_33 : decode cX6_stretch 33 = .ok (.ireturn, 1) := by decide +kernel
theorem dX6_lowestBit_0 : decode cX6_lowestBit 0 = .ok (.iconst 0, 1) := by decide +kernel
theorem dX6_lowestBit_1 : decode cX6_lowestBit 1 = .ok (.istore_n 1, 1) := by decide +kernel
theorem dX6_lowestBit_2 : decode cX6_lowestBit 2 = .ok (.iload_n 1, 1) := by decide +kernel
theorem dX6_lowestBit_3 : decode cX6_lowestBit 3 = .ok (.bipush 16, 2) := by decide +kernel
theorem dX6_lowestBit_5 : decode cX6_lowestBit 5 = .ok (.if_icmp .ge 19, 3) := by decide +kernel
theorem dX6_lowestBit_8 : decode cX6_lowestBit 8 = .ok (.iload_n 0, 1) := by decide +kernel
theorem dX6_lowestBit_9 : decode cX6_lowestBit 9 = .ok (.iload_n 1, 1) := by decide +kernel
theorem dX6_lowestBit_10 : decode cX6_lowestBit 10 = .ok (.ishr, 1) := by decide +kernel
theorem dX6_lowestBit_11 : decode cX6_lowestBit 11 = .ok (.iconst 1, 1) := by decide +kernel
theorem dX6_lowestBit_12 : decode cX6_lowestBit 12 = .ok (.iand, 1) := by decide +kernel
theorem dX6_lowestBit_13 : decode cX6_lowestBit 13 = .ok (.ifCond .eq 5, 3) := by decide +kernel
theorem dX6_lowestBit_16 : decode cX6_lowestBit 16 = .ok (.iload_n 1, 1) := by decide +kernel
theorem dX6_lowestBit_17 : decode cX6_lowestBit 17 = .ok (.ireturn, 1) := by decide +kernel
theorem dX6_lowestBit_18 : decode cX6_lowestBit 18 = .ok (.iinc 1 1, 3) := by decide +kernel
theorem dX6_lowestBit_21 : decode cX6_lowestBit 21 = .ok (.goto (-19), 3) := by decide +kernel
theorem dX6_lowestBit_24 : decode cX6_lowestBit 24 = .ok (.bipush (-9), 2) := by decide +kernel
theorem dX6_lowestBit_26 : decode cX6_lowestBit 26 = .ok (.ireturn, 1) := by decide +kernel
theorem dX6_power_0 : decode cX6_power 0 = .ok (.lconst 1, 1) := by decide +kernel
theorem dX6_power_1 : decode cX6_power 1 = .ok (.lstore_n 3, 1) := by decide +kernel
theorem dX6_power_2 : decode cX6_power 2 = .ok (.iconst 0, 1) := by decide +kernel
theorem dX6_power_3 : decode cX6_power 3 = .ok (.istore 5, 2) := by decide +kernel
theorem dX6_power_5 : decode cX6_power 5 = .ok (.iload 5, 2) := by decide +kernel
theorem dX6_power_7 : decode cX6_power 7 = .ok (.iload_n 2, 1) := by decide +kernel
theorem dX6_power_8 : decode cX6_power 8 = .ok (.if_icmp .ge 13, 3) := by decide +kernel
theorem dX6_power_11 : decode cX6_power 11 = .ok (.lload_n 3, 1) := by decide +kernel
theorem dX6_power_12 : decode cX6_power 12 = .ok (.lload_n 0, 1) := by decide +kernel
theorem dX6_power_13 : decode cX6_power 13 = .ok (.lmul, 1) := by decide +kernel
theorem dX6_power_14 : decode cX6_power 14 = .ok (.lstore_n 3, 1) := by decide +kernel
theorem dX6_power_15 : decode cX6_power 15 = .ok (.iinc 5 1, 3) := by decide +kernel
theorem dX6_power_18 : decode cX6_power 18 = .ok (.goto (-13), 3) := by decide +kernel
theorem dX6_power_21 : decode cX6_power 21 = .ok (.lload_n 3, 1) := by decide +kernel
theorem dX6_power_22 : decode cX6_power 22 = .ok (.lreturn, 1) := by decide +kernel
theorem dX6_factorial_0 : decode cX6_factorial 0 = .ok (.lconst 1, 1) := by decide +kernel
theorem dX6_factorial_1 : decode cX6_factorial 1 = .ok (.lstore_n 1, 1) := by decide +kernel
theorem dX6_factorial_2 : decode cX6_factorial 2 = .ok (.iconst 2, 1) := by decide +kernel
theorem dX6_factorial_3 : decode cX6_factorial 3 = .ok (.istore_n 3, 1) := by decide +kernel
theorem dX6_factorial_4 : decode cX6_factorial 4 = .ok (.iload_n 3, 1) := by decide +kernel
theorem dX6_factorial_5 : decode cX6_factorial 5 = .ok (.iload_n 0, 1) := by decide +kernel
theorem dX6_factorial_6 : decode cX6_factorial 6 = .ok (.if_icmp .gt 14, 3) := by decide +kernel
theorem dX6_factorial_9 : decode cX6_factorial 9 = .ok (.lload_n 1, 1) := by decide +kernel
theorem dX6_factorial_10 : decode cX6_factorial 10 = .ok (.iload_n 3, 1) := by decide +kernel
theorem dX6_factorial_11 : decode cX6_factorial 11 = .ok (.i2l, 1) := by decide +kernel
theorem dX6_factorial_12 : decode cX6_factorial 12 = .ok (.lmul, 1) := by decide +kernel
theorem dX6_factorial_13 : decode cX6_factorial 13 = .ok (.lstore_n 1, 1) := by decide +kernel
theorem dX6_factorial_14 : decode cX6_factorial 14 = .ok (.iinc 3 1, 3) := by decide +kernel
theorem dX6_factorial_17 : decode cX6_factorial 17 = .ok (.goto (-13), 3) := by decide +kernel
theorem dX6_factorial_20 : decode cX6_factorial 20 = .ok (.lload_n 1, 1) := by decide +kernel
theorem dX6_factorial_21 : decode cX6_factorial 21 = .ok (.lreturn, 1) := by decide +kernel
theorem dX6_told_0 : decode cX6_told 0 = .ok (.lload_n 0, 1) := by decide +kernel
theorem dX6_told_1 : decode cX6_told 1 = .ok (.lload_n 2, 1) := by decide +kernel
theorem dX6_told_2 : decode cX6_told 2 = .ok (.invokestatic 297, 3) := by decide +kernel
theorem dX6_told_5 : decode cX6_told 5 = .ok (.lstore 5, 2) := by decide +kernel
theorem dX6_told_7 : decode cX6_told 7 = .ok (.lload 5, 2) := by decide +kernel
theorem dX6_told_9 : decode cX6_told 9 = .ok (.lconst 1, 1) := by decide +kernel
theorem dX6_told_10 : decode cX6_told 10 = .ok (.lcmp, 1) := by decide +kernel
theorem dX6_told_11 : decode cX6_told 11 = .ok (.ifCond .ge 5, 3) := by decide +kernel
theorem dX6_told_14 : decode cX6_told 14 = .ok (.iconst 0, 1) := by decide +kernel
theorem dX6_told_15 : decode cX6_told 15 = .ok (.ireturn, 1) := by decide +kernel
theorem dX6_told_16 : decode cX6_told 16 = .ok (.iload 4, 2) := by decide +kernel
theorem dX6_told_18 : decode cX6_told 18 = .ok (.ifCond .eq 7, 3) := by decide +kernel
theorem dX6_told_21 : decode cX6_told 21 = .ok (.lload_n 0, 1) := by decide +kernel
theorem dX6_told_22 : decode cX6_told 22 = .ok (.goto 4, 3) := by decide +kernel
theorem dX6_told_25 : decode cX6_told 25 = .ok (.lload_n 2, 1) := by decide +kernel
theorem dX6_told_26 : decode cX6_told 26 = .ok (.lload 5, 2) := by decide +kernel
theorem dX6_told_28 : decode cX6_told 28 = .ok (.ldiv, 1) := by decide +kernel
theorem dX6_told_29 : decode cX6_told 29 = .ok (.l2i, 1) := by decide +kernel
theorem dX6_told_30 : decode cX6_told 30 = .ok (.ireturn, 1) := by decide +kernel
theorem dX6_commonDivisor_0 : decode cX6_commonDivisor 0 = .ok (.lload_n 0, 1) := by decide +kernel
theorem dX6_commonDivisor_1 : decode cX6_commonDivisor 1 = .ok (.lstore 4, 2) := by decide +kernel
theorem dX6_commonDivisor_3 : decode cX6_commonDivisor 3 = .ok (.lload_n 2, 1) := by decide +kernel
theorem dX6_commonDivisor_4 : decode cX6_commonDivisor 4 = .ok (.lstore 6, 2) := by decide +kernel
theorem dX6_commonDivisor_6 : decode cX6_commonDivisor 6 = .ok (.iconst 0, 1) := by decide +kernel
theorem dX6_commonDivisor_7 : decode cX6_commonDivisor 7 = .ok (.istore 8, 2) := by decide +kernel
theorem dX6_commonDivisor_9 : decode cX6_commonDivisor 9 = .ok (.iload 8, 2) := by decide +kernel
theorem dX6_commonDivisor_11 : decode cX6_commonDivisor 11 = .ok (.bipush 100, 2) := by decide +kernel
theorem dX6_commonDivisor_13 : decode cX6_commonDivisor 13 = .ok (.if_icmp .ge 31, 3) := by decide +kernel
theorem dX6_commonDivisor_16 : decode cX6_commonDivisor 16 = .ok (.lload 6, 2) := by decide +kernel
theorem dX6_commonDivisor_18 : decode cX6_commonDivisor 18 = .ok (.lconst 0, 1) := by decide +kernel
theorem dX6_commonDivisor_19 : decode cX6_commonDivisor 19 = .ok (.lcmp, 1) := by decide +kernel
theorem dX6_commonDivisor_20 : decode cX6_commonDivisor 20 = .ok (.ifCond .eq 24, 3) := by decide +kernel
theorem dX6_commonDivisor_23 : decode cX6_commonDivisor 23 = .ok (.lload 4, 2) := by decide +kernel
theorem dX6_commonDivisor_25 : decode cX6_commonDivisor 25 = .ok (.lload 6, 2) := by decide +kernel
theorem dX6_commonDivisor_27 : decode cX6_commonDivisor 27 = .ok (.lrem, 1) := by decide +kernel
theorem dX6_commonDivisor_28 : decode cX6_commonDivisor 28 = .ok (.lstore 9, 2) := by decide +kernel
theorem dX6_commonDivisor_30 : decode cX6_commonDivisor 30 = .ok (.lload 6, 2) := by decide +kernel
theorem dX6_commonDivisor_32 : decode cX6_commonDivisor 32 = .ok (.lstore 4, 2) := by decide +kernel
theorem dX6_commonDivisor_34 : decode cX6_commonDivisor 34 = .ok (.lload 9, 2) := by decide +kernel
theorem dX6_commonDivisor_36 : decode cX6_commonDivisor 36 = .ok (.lstore 6, 2) := by decide +kernel
theorem dX6_commonDivisor_38 : decode cX6_commonDivisor 38 = .ok (.iinc 8 1, 3) := by decide +kernel
theorem dX6_commonDivisor_41 : decode cX6_commonDivisor 41 = .ok (.goto (-32), 3) := by decide +kernel
theorem dX6_commonDivisor_44 : decode cX6_commonDivisor 44 = .ok (.lload 4, 2) := by decide +kernel
theorem dX6_commonDivisor_46 : decode cX6_commonDivisor 46 = .ok (.lreturn, 1) := by decide +kernel
end
section
theorem dX7_init_0 : decode cX7_init 0 = .ok (.aload_n 0, 1) := by decide +kernel
theorem dX7_init_1 : decode cX7_init 1 = .ok (.invokespecial 1, 3) := by decide +kernel
theorem dX7_init_4 : decode cX7_init 4 = .ok (.aload_n 0, 1) := by decide +kernel
theorem dX7_init_5 : decode cX7_init 5 = .ok (.bipush 34, 2) := by decide +kernel
theorem dX7_init_7 : decode cX7_init 7 = .ok (.newarray .int, 2) := by decide +kernel
theorem dX7_init_9 : decode cX7_init 9 = .ok (.putfield 7, 3) := by decide +kernel
theorem dX7_init_12 : decode cX7_init 12 = .ok (.aload_n 0, 1) := by decide +kernel
theorem dX7_init_13 : decode cX7_init 13 = .ok (.bipush 64, 2) := by decide +kernel
theorem dX7_init_15 : decode cX7_init 15 = .ok (.newarray .int, 2) := by decide +kernel
theorem dX7_init_17 : decode cX7_init 17 = .ok (.putfield 13, 3) := by decide +kernel
theorem dX7_init_20 : decode cX7_init 20 = .ok (.aload_n 0, 1) := by decide +kernel
theorem dX7_init_21 : decode cX7_init 21 = .ok (.bipush 64, 2) := by decide +kernel
theorem dX7_init_23 : decode cX7_init 23 = .ok (.newarray .int, 2) := by decide +kernel
theorem dX7_init_25 : decode cX7_init 25 = .ok (.putfield 16, 3) := by decide +kernel
theorem dX7_init_28 : decode cX7_init 28 = .ok (.aload_n 0, 1) := by decide +kernel
theorem dX7_init_29 : decode cX7_init 29 = .ok (.sipush 238, 3) := by decide +kernel
theorem dX7_init_32 : decode cX7_init 32 = .ok (.newarray .int, 2) := by decide +kernel
theorem dX7_init_34 : decode cX7_init 34 = .ok (.putfield 19, 3) := by decide +kernel
theorem dX7_init_37 : decode cX7_init 37 = .ok (.aload_n 0, 1) := by decide +kernel
theorem dX7_init_38 : decode cX7_init 38 = .ok (.bipush 8, 2) := by decide +kernel
theorem dX7_init_40 : decode cX7_init 40 = .ok (.newarray .int, 2) := by decide +kernel
theorem dX7_init_42 : decode cX7_init 42 = .ok (.putfield 22, 3) := by decide +kernel
theorem dX7_init_45 : decode cX7_init 45 = .ok (.aload_n 0, 1) := by decide +kernel
theorem dX7_init_46 : decode cX7_init 46 = .ok (.bipush 8, 2) := by decide +kernel
theorem dX7_init_48 : decode cX7_init 48 = .ok (.newarray .int, 2) := by decide +kernel
theorem dX7_init_50 : decode cX7_init 50 = .ok (.putfield 25, 3) := by decide +kernel
theorem dX7_init_53 : decode cX7_init 53 = .ok (.aload_n 0, 1) := by decide +kernel
theorem dX7_init_54 : decode cX7_init 54 = .ok (.bipush 8, 2) := by decide +kernel
theorem dX7_init_56 : decode cX7_init 56 = .ok (.newarray .int, 2) := by decide +kernel
theorem dX7_init_58 : decode cX7_init 58 = .ok (.putfield 28, 3) := by decide +kernel
theorem dX7_init_61 : decode cX7_init 61 = .ok (.aload_n 0, 1) := by decide +kernel
theorem dX7_init_62 : decode cX7_init 62 = .ok (.bipush 8, 2) := by decide +kernel
theorem dX7_init_64 : decode cX7_init 64 = .ok (.newarray .int, 2) := by decide +kernel
theorem dX7_init_66 : decode cX7_init 66 = .ok (.putfield 31, 3) := by decide +kernel
theorem dX7_init_69 : decode cX7_init 69 = .ok (.aload_n 0, 1) := by decide +kernel
theorem dX7_init_70 : decode cX7_init 70 = .ok (.bipush 6, 2) := by decide +kernel
theorem dX7_init_72 : decode cX7_init 72 = .ok (.newarray .int, 2) := by decide +kernel
theorem dX7_init_74 : decode cX7_init 74 = .ok (.putfield 34, 3) := by decide +kernel
theorem dX7_init_77 : decode cX7_init 77 = .ok (.aload_n 0, 1) := by decide +kernel
theorem dX7_init_78 : decode cX7_init 78 = .ok (.bipush 6, 2) := by decide +kernel
theorem dX7_init_80 : decode cX7_init 80 = .ok (.newarray .int, 2) := by decide +kernel
theorem dX7_init_82 : decode cX7_init 82 = .ok (.putfield 37, 3) := by decide +kernel
theorem dX7_init_85 : decode cX7_init 85 = .ok (.aload_n 0, 1) := by decide +kernel
theorem dX7_init_86 : decode cX7_init 86 = .ok (.bipush 6, 2) := by decide +kernel
theorem dX7_init_88 : decode cX7_init 88 = .ok (.newarray .int, 2) := by decide +kernel
theorem dX7_init_90 : decode cX7_init 90 = .ok (.putfield 40, 3) := by decide +kernel
theorem dX7_init_93 : decode cX7_init 93 = .ok (.aload_n 0, 1) := by decide +kernel
theorem dX7_init_94 : decode cX7_init 94 = .ok (.bipush 6, 2) := by decide +kernel
theorem dX7_init_96 : decode cX7_init 96 = .ok (.newarray .int, 2) := by decide +kernel
theorem dX7_init_98 : decode cX7_init 98 = .ok (.putfield 43, 3) := by decide +kernel
theorem dX7_init_101 : decode cX7_init 101 = .ok (.aload_n 0, 1) := by decide +kernel
theorem dX7_init_102 : decode cX7_init 102 = .ok (.bipush 16, 2) := by decide +kernel
theorem dX7_init_104 : decode cX7_init 104 = .ok (.newarray .int, 2) := by decide +kernel
theorem dX7_init_106 : decode cX7_init 106 = .ok (.putfield 46, 3) := by decide +kernel
theorem dX7_init_109 : decode cX7_init 109 = .ok (.aload_n 0, 1) := by decide +kernel
theorem dX7_init_110 : decode cX7_init 110 = .ok (.iconst 2, 1) := by decide +kernel
theorem dX7_init_111 : decode cX7_init 111 = .ok (.newarray .boolean, 2) := by decide +kernel
theorem dX7_init_113 : decode cX7_init 113 = .ok (.putfield 49, 3) := by decide +kernel
theorem dX7_init_116 : decode cX7_init 116 = .ok (.aload_n 0, 1) := by decide +kernel
theorem dX7_init_117 : decode cX7_init 117 = .ok (.bipush 34, 2) := by decide +kernel
theorem dX7_init_119 : decode cX7_init 119 = .ok (.newarray .int, 2) := by decide +kernel
theorem dX7_init_121 : decode cX7_init 121 = .ok (.putfield 53, 3) := by decide +kernel
theorem dX7_init_124 : decode cX7_init 124 = .ok (.return_, 1) := by decide +kernel
theorem dX7_in_0 : decode cX7_in 0 = .ok (.lload_n 0, 1) := by decide +kernel
theorem dX7_in_1 : decode cX7_in 1 = .ok (.lload_n 2, 1) := by decide +kernel
theorem dX7_in_2 : decode cX7_in 2 = .ok (.lcmp, 1) := by decide +kernel
theorem dX7_in_3 : decode cX7_in 3 = .ok (.ifCond .lt 14, 3) := by decide +kernel
theorem dX7_in_6 : decode cX7_in 6 = .ok (.lload_n 0, 1) := by decide +kernel
theorem dX7_in_7 : decode cX7_in 7 = .ok (.lload 4, 2) := by decide +kernel
theorem dX7_in_9 : decode cX7_in 9 = .ok (.lcmp, 1) := by decide +kernel
theorem dX7_in_10 : decode cX7_in 10 = .ok (.ifCond .gt 7, 3) := by decide +kernel
theorem dX7_in_13 : decode cX7_in 13 = .ok (.iconst 1, 1) := by decide +kernel
theorem dX7_in_14 : decode cX7_in 14 = .ok (.goto 4, 3) := by decide +kernel
theorem dX7_in_17 : decode cX7_in 17 = .ok (.iconst 0, 1) := by decide +kernel
theorem dX7_in_18 : decode cX7_in 18 = .ok (.ireturn, 1) := by decide +kernel
theorem dX7_has_0 : decode cX7_has 0 = .ok (.iload_n 0, 1) := by decide +kernel
theorem dX7_has_1 : decode cX7_has 1 = .ok (.iload_n 1, 1) := by decide +kernel
theorem dX7_has_2 : decode cX7_has 2 = .ok (.ishr, 1) := by decide +kernel
theorem dX7_has_3 : decode cX7_has 3 = .ok (.iconst 1, 1) := by decide +kernel
theorem dX7_has_4 : decode cX7_has 4 = .ok (.iand, 1) := by decide +kernel
theorem dX7_has_5 : decode cX7_has 5 = .ok (.iconst 1, 1) := by decide +kernel
theorem dX7_has_6 : decode cX7_has 6 = .ok (.if_icmp .ne 7, 3) := by decide +kernel
theorem dX7_has_9 : decode cX7_has 9 = .ok (.iconst 1, 1) := by decide +kernel
theorem dX7_has_10 : decode cX7_has 10 = .ok (.goto 4, 3) := by decide +kernel
theorem dX7_has_13 : decode cX7_has 13 = .ok (.iconst 0, 1) := by decide +kernel
theorem dX7_has_14 : decode cX7_has 14 = .ok (.ireturn, 1) := by decide +kernel
theorem dX7_ones_0 : decode cX7_ones 0 = .ok (.iconst 0, 1) := by decide +kernel
theorem dX7_ones_1 : decode cX7_ones 1 = .ok (.istore_n 1, 1) := by decide +kernel
theorem dX7_ones_2 : decode cX7_ones 2 = .ok (.iconst 0, 1) := by decide +kernel
theorem dX7_ones_3 : decode cX7_ones 3 = .ok (.istore_n 2, 1) := by decide +kernel
theorem dX7_ones_4 : decode cX7_ones 4 = .ok (.iload_n 2, 1) := by decide +kernel
theorem dX7_ones_5 : decode cX7_ones 5 = .ok (.bipush 16, 2) := by decide +kernel
theorem dX7_ones_7 : decode cX7_ones 7 = .ok (.if_icmp .ge 17, 3) := by decide +kernel
theorem dX7_ones_10 : decode cX7_ones 10 = .ok (.iload_n 1, 1) := by decide +kernel
theorem dX7_ones_11 : decode cX7_ones 11 = .ok (.iload_n 0, 1) := by decide +kernel
theorem dX7_ones_12 : decode cX7_ones 12 = .ok (.iload_n 2, 1) := by decide +kernel
theorem dX7_ones_13 : decode cX7_ones 13 = .ok (.ishr, 1) := by decide +kernel
theorem dX7_ones_14 : decode cX7_ones 14 = .ok (.iconst 1, 1) := by decide +kernel
theorem dX7_ones_15 : decode cX7_ones 15 = .ok (.iand, 1) := by decide +kernel
theorem dX7_ones_16 : decode cX7_ones 16 = .ok (.iadd, 1) := by decide +kernel
theorem dX7_ones_17 : decode cX7_ones 17 = .ok (.istore_n 1, 1) := by decide +kernel
theorem dX7_ones_18 : decode cX7_ones 18 = .ok (.iinc 2 1, 3) := by decide +kernel
theorem dX7_ones_21 : decode cX7_ones 21 = .ok (.goto (-17), 3) := by decide +kernel
theorem dX7_ones_24 : decode cX7_ones 24 = .ok (.iload_n 1, 1) := by decide +kernel
theorem dX7_ones_25 : decode cX7_ones 25 = .ok (.ireturn, 1) := by decide +kernel
theorem dX7_isKnot_0 : decode cX7_isKnot 0 = .ok (.iload_n 0, 1) := by decide +kernel
theorem dX7_isKnot_1 : decode cX7_isKnot 1 = .ok (.i2l, 1) := by decide +kernel
theorem dX7_isKnot_2 : decode cX7_isKnot 2 = .ok (.lconst 0, 1) := by decide +kernel
theorem dX7_isKnot_3 : decode cX7_isKnot 3 = .ok (.ldc2_w 56, 3) := by decide +kernel
theorem dX7_isKnot_6 : decode cX7_isKnot 6 = .ok (.invokestatic 58, 3) := by decide +kernel
theorem dX7_isKnot_9 : decode cX7_isKnot 9 = .ok (.ireturn, 1) := by decide +kernel
theorem dX7_isTime_0 : decode cX7_isTime 0 = .ok (.iload_n 0, 1) := by decide +kernel
theorem dX7_isTime_1 : decode cX7_isTime 1 = .ok (.i2l, 1) := by decide +kernel
theorem dX7_isTime_2 : decode cX7_isTime 2 = .ok (.lconst 0, 1) := by decide +kernel
theorem dX7_isTime_3 : decode cX7_isTime 3 = .ok (.ldc2_w 62, 3) := by decide +kernel
theorem dX7_isTime_6 : decode cX7_isTime 6 = .ok (.invokestatic 58, 3) := by decide +kernel
theorem dX7_isTime_9 : decode cX7_isTime 9 = .ok (.ireturn, 1) := by decide +kernel
theorem dX7_asOne_0 : decode cX7_asOne 0 = .ok (.iload_n 0, 1) := by decide +kernel
theorem dX7_asOne_1 : decode cX7_asOne 1 = .ok (.iload_n 1, 1) := by decide +kernel
theorem dX7_asOne_2 : decode cX7_asOne 2 = .ok (.if_icmp .ge 7, 3) := by decide +kernel
theorem dX7_asOne_5 : decode cX7_asOne 5 = .ok (.iload_n 0, 1) := by decide +kernel
theorem dX7_asOne_6 : decode cX7_asOne 6 = .ok (.goto 4, 3) := by decide +kernel
theorem dX7_asOne_9 : decode cX7_asOne 9 = .ok (.iload_n 1, 1) := by decide +kernel
theorem dX7_asOne_10 : decode cX7_asOne 10 = .ok (.istore 4, 2) := by decide +kernel
theorem dX7_asOne_12 : decode cX7_asOne 12 = .ok (.iload_n 0, 1) := by decide +kernel
theorem dX7_asOne_13 : decode cX7_asOne 13 = .ok (.iload_n 1, 1) := by decide +kernel
theorem dX7_asOne_14 : decode cX7_asOne 14 = .ok (.if_icmp .ge 7, 3) := by decide +kernel
theorem dX7_asOne_17 : decode cX7_asOne 17 = .ok (.iload_n 1, 1) := by decide +kernel
theorem dX7_asOne_18 : decode cX7_asOne 18 = .ok (.goto 4, 3) := by decide +kernel
theorem dX7_asOne_21 : decode cX7_asOne 21 = .ok (.iload_n 0, 1) := by decide +kernel
theorem dX7_asOne_22 : decode cX7_asOne 22 = .ok (.istore 5, 2) := by decide +kernel
theorem dX7_asOne_24 : decode cX7_asOne 24 = .ok (.iload 4, 2) := by decide +kernel
theorem dX7_asOne_26 : decode cX7_asOne 26 = .ok (.bipush 8, 2) := by decide +kernel
theorem dX7_asOne_28 : decode cX7_asOne 28 = .ok (.imul, 1) := by decide +kernel
theorem dX7_asOne_29 : decode cX7_asOne 29 = .ok (.iload 5, 2) := by decide +kernel
theorem dX7_asOne_31 : decode cX7_asOne 31 = .ok (.iadd, 1) := by decide +kernel
theorem dX7_asOne_32 : decode cX7_asOne 32 = .ok (.bipush 16, 2) := by decide +kernel
theorem dX7_asOne_34 : decode cX7_asOne 34 = .ok (.imul, 1) := by decide +kernel
theorem dX7_asOne_35 : decode cX7_asOne 35 = .ok (.iload_n 2, 1) := by decide +kernel
theorem dX7_asOne_36 : decode cX7_asOne 36 = .ok (.iadd, 1) := by decide +kernel
theorem dX7_asOne_37 : decode cX7_asOne 37 = .ok (.bipush 16, 2) := by decide +kernel
theorem dX7_asOne_39 : decode cX7_asOne 39 = .ok (.imul, 1) := by decide +kernel
theorem dX7_asOne_40 : decode cX7_asOne 40 = .ok (.iload_n 3, 1) := by decide +kernel
theorem dX7_asOne_41 : decode cX7_asOne 41 = .ok (.iadd, 1) := by decide +kernel
theorem dX7_asOne_42 : decode cX7_asOne 42 = .ok (.ireturn, 1) := by decide +kernel
theorem dX7_lowOf_0 : decode cX7_lowOf 0 = .ok (.iload_n 0, 1) := by decide +kernel
theorem dX7_lowOf_1 : decode cX7_lowOf 1 = .ok (.sipush 2048, 3) := by decide +kernel
theorem dX7_lowOf_4 : decode cX7_lowOf 4 = .ok (.idiv, 1) := by decide +kernel
theorem dX7_lowOf_5 : decode cX7_lowOf 5 = .ok (.ireturn, 1) := by decide +kernel
theorem dX7_highOf_0 : decode cX7_highOf 0 = .ok (.iload_n 0, 1) := by decide +kernel
theorem dX7_highOf_1 : decode cX7_highOf 1 = .ok (.sipush 256, 3) := by decide +kernel
theorem dX7_highOf_4 : decode cX7_highOf 4 = .ok (.idiv, 1) := by decide +kernel
theorem dX7_highOf_5 : decode cX7_highOf 5 = .ok (.bipush 8, 2) := by decide +kernel
theorem dX7_highOf_7 : decode cX7_highOf 7 = .ok (.irem, 1) := by decide +kernel
theorem dX7_highOf_8 : decode cX7_highOf 8 = .ok (.ireturn, 1) := by decide +kernel
theorem dX7_fromOf_0 : decode cX7_fromOf 0 = .ok (.iload_n 0, 1) := by decide +kernel
theorem dX7_fromOf_1 : decode cX7_fromOf 1 = .ok (.bipush 16, 2) := by decide +kernel
theorem dX7_fromOf_3 : decode cX7_fromOf 3 = .ok (.idiv, 1) := by decide +kernel
theorem dX7_fromOf_4 : decode cX7_fromOf 4 = .ok (.bipush 16, 2) := by decide +kernel
theorem dX7_fromOf_6 : decode cX7_fromOf 6 = .ok (.irem, 1) := by decide +kernel
theorem dX7_fromOf_7 : decode cX7_fromOf 7 = .ok (.ireturn, 1) := by decide +kernel
theorem dX7_toOf_0 : decode cX7_toOf 0 = .ok (.iload_n 0, 1) := by decide +kernel
theorem dX7_toOf_1 : decode cX7_toOf 1 = .ok (.bipush 16, 2) := by decide +kernel
theorem dX7_toOf_3 : decode cX7_toOf 3 = .ok (.irem, 1) := by decide +kernel
theorem dX7_toOf_4 : decode cX7_toOf 4 = .ok (.ireturn, 1) := by decide +kernel
theorem dX7_livesAt_0 : decode cX7_livesAt 0 = .ok (.iload_n 1, 1) := by decide +kernel
theorem dX7_livesAt_1 : decode cX7_livesAt 1 = .ok (.iload_n 0, 1) := by decide +kernel
theorem dX7_livesAt_2 : decode cX7_livesAt 2 = .ok (.invokestatic 64, 3) := by decide +kernel
theorem dX7_livesAt_5 : decode cX7_livesAt 5 = .ok (.if_icmp .lt 15, 3) := by decide +kernel
theorem dX7_livesAt_8 : decode cX7_livesAt 8 = .ok (.iload_n 1, 1) := by decide +kernel
theorem dX7_livesAt_9 : decode cX7_livesAt 9 = .ok (.iload_n 0, 1) := by decide +kernel
theorem dX7_livesAt_10 : decode cX7_livesAt 10 = .ok (.invokestatic 68, 3) := by decide +kernel
theorem dX7_livesAt_13 : decode cX7_livesAt 13 = .ok (.if_icmp .gt 7, 3) := by decide +kernel
theorem dX7_livesAt_16 : decode cX7_livesAt 16 = .ok (.iconst 1, 1) := by decide +kernel
theorem dX7_livesAt_17 : decode cX7_livesAt 17 = .ok (.goto 4, 3) := by decide +kernel
theorem dX7_livesAt_20 : decode cX7_livesAt 20 = .ok (.iconst 0, 1) := by decide +kernel
theorem dX7_livesAt_21 : decode cX7_livesAt 21 = .ok (.ireturn, 1) := by decide +kernel
theorem dX7_write_0 : decode cX7_write 0 = .ok (.iload_n 1, 1) := by decide +kernel
theorem dX7_write_1 : decode cX7_write 1 = .ok (.i2l, 1) := by decide +kernel
theorem dX7_write_2 : decode cX7_write 2 = .ok (.lconst 0, 1) := by decide +kernel
theorem dX7_write_3 : decode cX7_write 3 = .ok (.ldc2_w 71, 3) := by decide +kernel
theorem dX7_write_6 : decode cX7_write 6 = .ok (.invokestatic 58, 3) := by decide +kernel
theorem dX7_write_9 : decode cX7_write 9 = .ok (.ifCond .ne 6, 3) := by decide +kernel
theorem dX7_write_12 : decode cX7_write 12 = .ok (.bipush (-2), 2) := by decide +kernel
theorem dX7_write_14 : decode cX7_write 14 = .ok (.ireturn, 1) := by decide +kernel
theorem dX7_write_15 : decode cX7_write 15 = .ok (.aload_n 0, 1) := by decide +kernel
theorem dX7_write_16 : decode cX7_write 16 = .ok (.getfield 73, 3) := by decide +kernel
theorem dX7_write_19 : decode cX7_write 19 = .ok (.bipush 64, 2) := by decide +kernel
theorem dX7_write_21 : decode cX7_write 21 = .ok (.if_icmp .ne 6, 3) := by decide +kernel
theorem dX7_write_24 : decode cX7_write 24 = .ok (.bipush (-4), 2) := by decide +kernel
theorem dX7_write_26 : decode cX7_write 26 = .ok (.ireturn, 1) := by decide +kernel
theorem dX7_write_27 : decode cX7_write 27 = .ok (.aload_n 0, 1) := by decide +kernel
theorem dX7_write_28 : decode cX7_write 28 = .ok (.getfield 13, 3) := by decide +kernel
theorem dX7_write_31 : decode cX7_write 31 = .ok (.aload_n 0, 1) := by decide +kernel
theorem dX7_write_32 : decode cX7_write 32 = .ok (.getfield 73, 3) := by decide +kernel
theorem dX7_write_35 : decode cX7_write 35 = .ok (.iload_n 1, 1) := by decide +kernel
theorem dX7_write_36 : decode cX7_write 36 = .ok (.iastore, 1) := by decide +kernel
theorem dX7_write_37 : decode cX7_write 37 = .ok (.aload_n 0, 1) := by decide +kernel
theorem dX7_write_38 : decode cX7_write 38 = .ok (.dup, 1) := by decide +kernel
theorem dX7_write_39 : decode cX7_write 39 = .ok (.getfield 73, 3) := by decide +kernel
theorem dX7_write_42 : decode cX7_write 42 = .ok (.iconst 1, 1) := by decide +kernel
theorem dX7_write_43 : decode cX7_write 43 = .ok (.iadd, 1) := by decide +kernel
theorem dX7_write_44 : decode cX7_write 44 = .ok (.putfield 73, 3) := by decide +kernel
theorem dX7_write_47 : decode cX7_write 47 = .ok (.aload_n 0, 1) := by decide +kernel
theorem dX7_write_48 : decode cX7_write 48 = .ok (.getfield 73, 3) := by decide +kernel
theorem dX7_write_51 : decode cX7_write 51 = .ok (.ireturn, 1) := by decide +kernel
theorem dX7_wipe_0 : decode cX7_wipe 0 = .ok (.aload_n 0, 1) := by decide +kernel
theorem dX7_wipe_1 : decode cX7_wipe 1 = .ok (.getfield 73, 3) := by decide +kernel
theorem dX7_wipe_4 : decode cX7_wipe 4 = .ok (.istore_n 1, 1) := by decide +kernel
theorem dX7_wipe_5 : decode cX7_wipe 5 = .ok (.aload_n 0, 1) := by decide +kernel
theorem dX7_wipe_6 : decode cX7_wipe 6 = .ok (.iconst 0, 1) := by decide +kernel
theorem dX7_wipe_7 : decode cX7_wipe 7 = .ok (.putfield 73, 3) := by decide +kernel
theorem dX7_wipe_10 : decode cX7_wipe 10 = .ok (.iload_n 1, 1) := by decide +kernel
theorem dX7_wipe_11 : decode cX7_wipe 11 = .ok (.ireturn, 1) := by decide +kernel
theorem dX7_knotAt_0 : decode cX7_knotAt 0 = .ok (.iload_n 1, 1) := by decide +kernel
theorem dX7_knotAt_1 : decode cX7_knotAt 1 = .ok (.aload_n 0, 1) := by decide +kernel
theorem dX7_knotAt_2 : decode cX7_knotAt 2 = .ok (.getfield 73, 3) := by decide +kernel
theorem dX7_knotAt_5 : decode cX7_knotAt 5 = .ok (.if_icmp .ge 34, 3) := by decide +kernel
theorem dX7_knotAt_8 : decode cX7_knotAt 8 = .ok (.aload_n 0, 1) := by decide +kernel
theorem dX7_knotAt_9 : decode cX7_knotAt 9 = .ok (.getfield 13, 3) := by decide +kernel
theorem dX7_knotAt_12 : decode cX7_knotAt 12 = .ok (.iload_n 1, 1) := by decide +kernel
theorem dX7_knotAt_13 : decode cX7_knotAt 13 = .ok (.iaload, 1) := by decide +kernel
theorem dX7_knotAt_14 : decode cX7_knotAt 14 = .ok (.i2l, 1) := by decide +kernel
theorem dX7_knotAt_15 : decode cX7_knotAt 15 = .ok (.ldc2_w 77, 3) := by decide +kernel
theorem dX7_knotAt_18 : decode cX7_knotAt 18 = .ok (.ldc2_w 79, 3) := by decide +kernel
theorem dX7_knotAt_21 : decode cX7_knotAt 21 = .ok (.invokestatic 58, 3) := by decide +kernel
theorem dX7_knotAt_24 : decode cX7_knotAt 24 = .ok (.ifCond .eq 15, 3) := by decide +kernel
theorem dX7_knotAt_27 : decode cX7_knotAt 27 = .ok (.aload_n 0, 1) := by decide +kernel
theorem dX7_knotAt_28 : decode cX7_knotAt 28 = .ok (.getfield 13, 3) := by decide +kernel
theorem dX7_knotAt_31 : decode cX7_knotAt 31 = .ok (.iload_n 1, 1) := by decide +kernel
theorem dX7_knotAt_32 : decode cX7_knotAt 32 = .ok (.iaload, 1) := by decide +kernel
theorem dX7_knotAt_33 : decode cX7_knotAt 33 = .ok (.bipush 48, 2) := by decide +kernel
theorem dX7_knotAt_35 : decode cX7_knotAt 35 = .ok (.isub, 1) := by decide +kernel
theorem dX7_knotAt_36 : decode cX7_knotAt 36 = .ok (.goto 5, 3) := by decide +kernel
theorem dX7_knotAt_39 : decode cX7_knotAt 39 = .ok (.bipush (-9), 2) := by decide +kernel
theorem dX7_knotAt_41 : decode cX7_knotAt 41 = .ok (.ireturn, 1) := by decide +kernel
theorem dX7_linksOf_0 : decode cX7_linksOf 0 = .ok (.iconst 0, 1) := by decide +kernel
theorem dX7_linksOf_1 : decode cX7_linksOf 1 = .ok (.istore_n 2, 1) := by decide +kernel
theorem dX7_linksOf_2 : decode cX7_linksOf 2 = .ok (.iconst 0, 1) := by decide +kernel
theorem dX7_linksOf_3 : decode cX7_linksOf 3 = .ok (.istore_n 3, 1) := by decide +kernel
theorem dX7_linksOf_4 : decode cX7_linksOf 4 = .ok (.iload_n 3, 1) := by decide +kernel
theorem dX7_linksOf_5 : decode cX7_linksOf 5 = .ok (.bipush 8, 2) := by decide +kernel
theorem dX7_linksOf_7 : decode cX7_linksOf 7 = .ok (.if_icmp .ge 31, 3) := by decide +kernel
theorem dX7_linksOf_10 : decode cX7_linksOf 10 = .ok (.iload_n 2, 1) := by decide +kernel
theorem dX7_linksOf_11 : decode cX7_linksOf 11 = .ok (.aload_n 0, 1) := by decide +kernel
theorem dX7_linksOf_12 : decode cX7_linksOf 12 = .ok (.getfield 16, 3) := by decide +kernel
theorem dX7_linksOf_15 : decode cX7_linksOf 15 = .ok (.bipush 8, 2) := by decide +kernel
theorem dX7_linksOf_17 : decode cX7_linksOf 17 = .ok (.iload_n 1, 1) := by decide +kernel
theorem dX7_linksOf_18 : decode cX7_linksOf 18 = .ok (.imul, 1) := by decide +kernel
theorem dX7_linksOf_19 : decode cX7_linksOf 19 = .ok (.iload_n 3, 1) := by decide +kernel
theorem dX7_linksOf_20 : decode cX7_linksOf 20 = .ok (.iadd, 1) := by decide +kernel
theorem dX7_linksOf_21 : decode cX7_linksOf 21 = .ok (.iaload, 1) := by decide +kernel
theorem dX7_linksOf_22 : decode cX7_linksOf 22 = .ok (.ifCond .le 7, 3) := by decide +kernel
theorem dX7_linksOf_25 : decode cX7_linksOf 25 = .ok (.iconst 1, 1) := by decide +kernel
theorem dX7_linksOf_26 : decode cX7_linksOf 26 = .ok (.goto 4, 3) := by decide +kernel
theorem dX7_linksOf_29 : decode cX7_linksOf 29 = .ok (.iconst 0, 1) := by decide +kernel
theorem dX7_linksOf_30 : decode cX7_linksOf 30 = .ok (.iadd, 1) := by decide +kernel
theorem dX7_linksOf_31 : decode cX7_linksOf 31 = .ok (.istore_n 2, 1) := by decide +kernel
theorem dX7_linksOf_32 : decode cX7_linksOf 32 = .ok (.iinc 3 1, 3) := by decide +kernel
theorem dX7_linksOf_35 : decode cX7_linksOf 35 = .ok (.goto (-31), 3) := by decide +kernel
theorem dX7_linksOf_38 : decode cX7_linksOf 38 = .ok (.iload_n 2, 1) := by decide +kernel
theorem dX7_linksOf_39 : decode cX7_linksOf 39 = .ok (.ireturn, 1) := by decide +kernel
theorem dX7_linksOfAll_0 : decode cX7_linksOfAll 0 = .ok (.iconst 0, 1) := by decide +kernel
theorem dX7_linksOfAll_1 : decode cX7_linksOfAll 1 = .ok (.istore_n 1, 1) := by decide +kernel
theorem dX7_linksOfAll_2 : decode cX7_linksOfAll 2 = .ok (.iconst 0, 1) := by decide +kernel
theorem dX7_linksOfAll_3 : decode cX7_linksOfAll 3 = .ok (.istore_n 2, 1) := by decide +kernel
theorem dX7_linksOfAll_4 : decode cX7_linksOfAll 4 = .ok (.iload_n 2, 1) := by decide +kernel
theorem dX7_linksOfAll_5 : decode cX7_linksOfAll 5 = .ok (.bipush 8, 2) := by decide +kernel
theorem dX7_linksOfAll_7 : decode cX7_linksOfAll 7 = .ok (.if_icmp .ge 17, 3) := by decide +kernel
theorem dX7_linksOfAll_10 : decode cX7_linksOfAll 10 = .ok (.iload_n 1, 1) := by decide +kernel
theorem dX7_linksOfAll_11 : decode cX7_linksOfAll 11 = .ok (.aload_n 0, 1) := by decide +kernel
theorem dX7_linksOfAll_12 : decode cX7_linksOfAll 12 = .ok (.iload_n 2, 1) := by decide +kernel
theorem dX7_linksOfAll_13 : decode cX7_linksOfAll 13 = .ok (.invokevirtual 81, 3) := by decide +kernel
theorem dX7_linksOfAll_16 : decode cX7_linksOfAll 16 = .ok (.iadd, 1) := by decide +kernel
theorem dX7_linksOfAll_17 : decode cX7_linksOfAll 17 = .ok (.istore_n 1, 1) := by decide +kernel
theorem dX7_linksOfAll_18 : decode cX7_linksOfAll 18 = .ok (.iinc 2 1, 3) := by decide +kernel
theorem dX7_linksOfAll_21 : decode cX7_linksOfAll 21 = .ok (.goto (-17), 3) := by decide +kernel
theorem dX7_linksOfAll_24 : decode cX7_linksOfAll 24 = .ok (.iload_n 1, 1) := by decide +kernel
theorem dX7_linksOfAll_25 : decode cX7_linksOfAll 25 = .ok (.ireturn, 1) := by decide +kernel
theorem dX7_readText_0 : decode cX7_readText 0 = .ok (.aload_n 0, 1) := by decide +kernel
theorem dX7_readText_1 : decode cX7_readText 1 = .ok (.getfield 7, 3) := by decide +kernel
theorem dX7_readText_4 : decode cX7_readText 4 = .ok (.bipush 17, 2) := by decide +kernel
theorem dX7_readText_6 : decode cX7_readText 6 = .ok (.iconst 0, 1) := by decide +kernel
theorem dX7_readText_7 : decode cX7_readText 7 = .ok (.iastore, 1) := by decide +kernel
theorem dX7_readText_8 : decode cX7_readText 8 = .ok (.iconst 0, 1) := by decide +kernel
theorem dX7_readText_9 : decode cX7_readText 9 = .ok (.istore_n 1, 1) := by decide +kernel
theorem dX7_readText_10 : decode cX7_readText 10 = .ok (.iload_n 1, 1) := by decide +kernel
theorem dX7_readText_11 : decode cX7_readText 11 = .ok (.bipush 64, 2) := by decide +kernel
theorem dX7_readText_13 : decode cX7_readText 13 = .ok (.if_icmp .ge 16, 3) := by decide +kernel
theorem dX7_readText_16 : decode cX7_readText 16 = .ok (.aload_n 0, 1) := by decide +kernel
theorem dX7_readText_17 : decode cX7_readText 17 = .ok (.getfield 16, 3) := by decide +kernel
theorem dX7_readText_20 : decode cX7_readText 20 = .ok (.iload_n 1, 1) := by decide +kernel
theorem dX7_readText_21 : decode cX7_readText 21 = .ok (.iconst 0, 1) := by decide +kernel
theorem dX7_readText_22 : decode cX7_readText 22 = .ok (.iastore, 1) := by decide +kernel
theorem dX7_readText_23 : decode cX7_readText 23 = .ok (.iinc 1 1, 3) := by decide +kernel
theorem dX7_readText_26 : decode cX7_readText 26 = .ok (.goto (-16), 3) := by decide +kernel
theorem dX7_readText_29 : decode cX7_readText 29 = .ok (.aload_n 0, 1) := by decide +kernel
theorem dX7_readText_30 : decode cX7_readText 30 = .ok (.getfield 73, 3) := by decide +kernel
theorem dX7_readText_33 : decode cX7_readText 33 = .ok (.ifCond .eq 14, 3) := by decide +kernel
theorem dX7_readText_36 : decode cX7_readText 36 = .ok (.aload_n 0, 1) := by decide +kernel
theorem dX7_readText_37 : decode cX7_readText 37 = .ok (.getfield 13, 3) := by decide +kernel
theorem dX7_readText_40 : decode cX7_readText 40 = .ok (.iconst 0, 1) := by decide +kernel
theorem dX7_readText_41 : decode cX7_readText 41 = .ok (.iaload, 1) := by decide +kernel
theorem dX7_readText_42 : decode cX7_readText 42 = .ok (.bipush 76, 2) := by decide +kernel
theorem dX7_readText_44 : decode cX7_readText 44 = .ok (.if_icmp .eq 5, 3) := by decide +kernel
theorem dX7_readText_47 : decode cX7_readText 47 = .ok (.iconst 0, 1) := by decide +kernel
theorem dX7_readText_48 : decode cX7_readText 48 = .ok (.ireturn, 1) := by decide +kernel
theorem dX7_readText_49 : decode cX7_readText 49 = .ok (.iconst 1, 1) := by decide +kernel
theorem dX7_readText_50 : decode cX7_readText 50 = .ok (.istore_n 1, 1) := by decide +kernel
theorem dX7_readText_51 : decode cX7_readText 51 = .ok (.iconst 0, 1) := by decide +kernel
theorem dX7_readText_52 : decode cX7_readText 52 = .ok (.istore_n 2, 1) := by decide +kernel
theorem dX7_readText_53 : decode cX7_readText 53 = .ok (.iload_n 1, 1) := by decide +kernel
theorem dX7_readText_54 : decode cX7_readText 54 = .ok (.aload_n 0, 1) := by decide +kernel
theorem dX7_readText_55 : decode cX7_readText 55 = .ok (.getfield 73, 3) := by decide +kernel
theorem dX7_readText_58 : decode cX7_readText 58 = .ok (.if_icmp .ge 113, 3) := by decide +kernel
theorem dX7_readText_61 : decode cX7_readText 61 = .ok (.aload_n 0, 1) := by decide +kernel
theorem dX7_readText_62 : decode cX7_readText 62 = .ok (.getfield 13, 3) := by decide +kernel
theorem dX7_readText_65 : decode cX7_readText 65 = .ok (.iload_n 1, 1) := by decide +kernel
theorem dX7_readText_66 : decode cX7_readText 66 = .ok (.iaload, 1) := by decide +kernel
theorem dX7_readText_67 : decode cX7_readText 67 = .ok (.istore_n 3, 1) := by decide +kernel
theorem dX7_readText_68 : decode cX7_readText 68 = .ok (.iload_n 3, 1) := by decide +kernel
theorem dX7_readText_69 : decode cX7_readText 69 = .ok (.bipush 43, 2) := by decide +kernel
theorem dX7_readText_71 : decode cX7_readText 71 = .ok (.if_icmp .ne 7, 3) := by decide +kernel
theorem dX7_readText_74 : decode cX7_readText 74 = .ok (.iconst 1, 1) := by decide +kernel
theorem dX7_readText_75 : decode cX7_readText 75 = .ok (.goto 4, 3) := by decide +kernel
theorem dX7_readText_78 : decode cX7_readText 78 = .ok (.iconst 0, 1) := by decide +kernel
theorem dX7_readText_79 : decode cX7_readText 79 = .ok (.istore 4, 2) := by decide +kernel
theorem dX7_readText_81 : decode cX7_readText 81 = .ok (.iload_n 3, 1) := by decide +kernel
theorem dX7_readText_82 : decode cX7_readText 82 = .ok (.bipush 45, 2) := by decide +kernel
theorem dX7_readText_84 : decode cX7_readText 84 = .ok (.if_icmp .ne 14, 3) := by decide +kernel
theorem dX7_readText_87 : decode cX7_readText 87 = .ok (.aload_n 0, 1) := by decide +kernel
theorem dX7_readText_88 : decode cX7_readText 88 = .ok (.invokevirtual 84, 3) := by decide +kernel
theorem dX7_readText_91 : decode cX7_readText 91 = .ok (.ifCond .le 7, 3) := by decide +kernel
theorem dX7_readText_94 : decode cX7_readText 94 = .ok (.iconst 1, 1) := by decide +kernel
theorem dX7_readText_95 : decode cX7_readText 95 = .ok (.goto 4, 3) := by decide +kernel
theorem dX7_readText_98 : decode cX7_readText 98 = .ok (.iconst 0, 1) := by decide +kernel
theorem dX7_readText_99 : decode cX7_readText 99 = .ok (.istore 5, 2) := by decide +kernel
theorem dX7_readText_101 : decode cX7_readText 101 = .ok (.iload_n 2, 1) := by decide +kernel
theorem dX7_readText_102 : decode cX7_readText 102 = .ok (.bipush 16, 2) := by decide +kernel
theorem dX7_readText_104 : decode cX7_readText 104 = .ok (.if_icmp .eq 19, 3) := by decide +kernel
theorem dX7_readText_107 : decode cX7_readText 107 = .ok (.iload 4, 2) := by decide +kernel
theorem dX7_readText_109 : decode cX7_readText 109 = .ok (.ifCond .ne 16, 3) := by decide +kernel
theorem dX7_readText_112 : decode cX7_readText 112 = .ok (.iload 5, 2) := by decide +kernel
theorem dX7_readText_114 : decode cX7_readText 114 = .ok (.ifCond .ne 11, 3) := by decide +kernel
theorem dX7_readText_117 : decode cX7_readText 117 = .ok (.iload_n 3, 1) := by decide +kernel
theorem dX7_readText_118 : decode cX7_readText 118 = .ok (.bipush 46, 2) := by decide +kernel
theorem dX7_readText_120 : decode cX7_readText 120 = .ok (.if_icmp .eq 5, 3) := by decide +kernel
theorem dX7_readText_123 : decode cX7_readText 123 = .ok (.iload_n 1, 1) := by decide +kernel
theorem dX7_readText_124 : decode cX7_readText 124 = .ok (.ireturn, 1) := by decide +kernel
theorem dX7_readText_125 : decode cX7_readText 125 = .ok (.iload_n 3, 1) := by decide +kernel
theorem dX7_readText_126 : decode cX7_readText 126 = .ok (.bipush 46, 2) := by decide +kernel
theorem dX7_readText_128 : decode cX7_readText 128 = .ok (.if_icmp .eq 23, 3) := by decide +kernel
theorem dX7_readText_131 : decode cX7_readText 131 = .ok (.aload_n 0, 1) := by decide +kernel
theorem dX7_readText_132 : decode cX7_readText 132 = .ok (.iload_n 1, 1) := by decide +kernel
theorem dX7_readText_133 : decode cX7_readText 133 = .ok (.iload 4, 2) := by decide +kernel
theorem dX7_readText_135 : decode cX7_readText 135 = .ok (.iload_n 2, 1) := by decide +kernel
theorem dX7_readText_136 : decode cX7_readText 136 = .ok (.invokevirtual 88, 3) := by decide +kernel
theorem dX7_readText_139 : decode cX7_readText 139 = .ok (.istore 6, 2) := by decide +kernel
theorem dX7_readText_141 : decode cX7_readText 141 = .ok (.iload 6, 2) := by decide +kernel
theorem dX7_readText_143 : decode cX7_readText 143 = .ok (.bipush (-9), 2) := by decide +kernel
theorem dX7_readText_145 : decode cX7_readText 145 = .ok (.if_icmp .eq 6, 3) := by decide +kernel
theorem dX7_readText_148 : decode cX7_readText 148 = .ok (.iload 6, 2) := by decide +kernel
theorem dX7_readText_150 : decode cX7_readText 150 = .ok (.ireturn, 1) := by decide +kernel
theorem dX7_readText_151 : decode cX7_readText 151 = .ok (.iload_n 1, 1) := by decide +kernel
theorem dX7_readText_152 : decode cX7_readText 152 = .ok (.iload_n 3, 1) := by decide +kernel
theorem dX7_readText_153 : decode cX7_readText 153 = .ok (.bipush 46, 2) := by decide +kernel
theorem dX7_readText_155 : decode cX7_readText 155 = .ok (.if_icmp .ne 7, 3) := by decide +kernel
theorem dX7_readText_158 : decode cX7_readText 158 = .ok (.iconst 1, 1) := by decide +kernel
theorem dX7_readText_159 : decode cX7_readText 159 = .ok (.goto 4, 3) := by decide +kernel
theorem dX7_readText_162 : decode cX7_readText 162 = .ok (.iconst 3, 1) := by decide +kernel
theorem dX7_readText_163 : decode cX7_readText 163 = .ok (.iadd, 1) := by decide +kernel
theorem dX7_readText_164 : decode cX7_readText 164 = .ok (.istore_n 1, 1) := by decide +kernel
theorem dX7_readText_165 : decode cX7_readText 165 = .ok (.iinc 2 1, 3) := by decide +kernel
theorem dX7_readText_168 : decode cX7_readText 168 = .ok (.goto (-115), 3) := by decide +kernel
theorem dX7_readText_171 : decode cX7_readText 171 = .ok (.bipush (-9), 2) := by decide +kernel
theorem dX7_readText_173 : decode cX7_readText 173 = .ok (.ireturn, 1) := by decide +kernel
theorem dX7_readPair_0 : decode cX7_readPair 0 = .ok (.aload_n 0, 1) := by decide +kernel
theorem dX7_readPair_1 : decode cX7_readPair 1 = .ok (.iload_n 1, 1) := by decide +kernel
theorem dX7_readPair_2 : decode cX7_readPair 2 = .ok (.iconst 1, 1) := by decide +kernel
theorem dX7_readPair_3 : decode cX7_readPair 3 = .ok (.iadd, 1) := by decide +kernel
theorem dX7_readPair_4 : decode cX7_readPair 4 = .ok (.invokevirtual 92, 3) := by decide +kernel
theorem dX7_readPair_7 : decode cX7_readPair 7 = .ok (.istore 4, 2) := by decide +kernel
theorem dX7_readPair_9 : decode cX7_readPair 9 = .ok (.iload 4, 2) := by decide +kernel
theorem dX7_readPair_11 : decode cX7_readPair 11 = .ok (.bipush (-9), 2) := by decide +kernel
theorem dX7_readPair_13 : decode cX7_readPair 13 = .ok (.if_icmp .eq 22, 3) := by decide +kernel
theorem dX7_readPair_16 : decode cX7_readPair 16 = .ok (.aload_n 0, 1) := by decide +kernel
theorem dX7_readPair_17 : decode cX7_readPair 17 = .ok (.iload 4, 2) := by decide +kernel
theorem dX7_readPair_19 : decode cX7_readPair 19 = .ok (.invokevirtual 81, 3) := by decide +kernel
theorem dX7_readPair_22 : decode cX7_readPair 22 = .ok (.iload_n 2, 1) := by decide +kernel
theorem dX7_readPair_23 : decode cX7_readPair 23 = .ok (.ifCond .eq 8, 3) := by decide +kernel
theorem dX7_readPair_26 : decode cX7_readPair 26 = .ok (.bipush 7, 2) := by decide +kernel
theorem dX7_readPair_28 : decode cX7_readPair 28 = .ok (.goto 4, 3) := by decide +kernel
theorem dX7_readPair_31 : decode cX7_readPair 31 = .ok (.iconst 0, 1) := by decide +kernel
theorem dX7_readPair_32 : decode cX7_readPair 32 = .ok (.if_icmp .ne 7, 3) := by decide +kernel
theorem dX7_readPair_35 : decode cX7_readPair 35 = .ok (.iload_n 1, 1) := by decide +kernel
theorem dX7_readPair_36 : decode cX7_readPair 36 = .ok (.iconst 1, 1) := by decide +kernel
theorem dX7_readPair_37 : decode cX7_readPair 37 = .ok (.iadd, 1) := by decide +kernel
theorem dX7_readPair_38 : decode cX7_readPair 38 = .ok (.ireturn, 1) := by decide +kernel
theorem dX7_readPair_39 : decode cX7_readPair 39 = .ok (.aload_n 0, 1) := by decide +kernel
theorem dX7_readPair_40 : decode cX7_readPair 40 = .ok (.iload_n 1, 1) := by decide +kernel
theorem dX7_readPair_41 : decode cX7_readPair 41 = .ok (.iconst 2, 1) := by decide +kernel
theorem dX7_readPair_42 : decode cX7_readPair 42 = .ok (.iadd, 1) := by decide +kernel
theorem dX7_readPair_43 : decode cX7_readPair 43 = .ok (.invokevirtual 92, 3) := by decide +kernel
theorem dX7_readPair_46 : decode cX7_readPair 46 = .ok (.istore 5, 2) := by decide +kernel
theorem dX7_readPair_48 : decode cX7_readPair 48 = .ok (.iload 5, 2) := by decide +kernel
theorem dX7_readPair_50 : decode cX7_readPair 50 = .ok (.bipush (-9), 2) := by decide +kernel
theorem dX7_readPair_52 : decode cX7_readPair 52 = .ok (.if_icmp .eq 35, 3) := by decide +kernel
theorem dX7_readPair_55 : decode cX7_readPair 55 = .ok (.iload 5, 2) := by decide +kernel
theorem dX7_readPair_57 : decode cX7_readPair 57 = .ok (.iload 4, 2) := by decide +kernel
theorem dX7_readPair_59 : decode cX7_readPair 59 = .ok (.if_icmp .eq 28, 3) := by decide +kernel
theorem dX7_readPair_62 : decode cX7_readPair 62 = .ok (.aload_n 0, 1) := by decide +kernel
theorem dX7_readPair_63 : decode cX7_readPair 63 = .ok (.getfield 16, 3) := by decide +kernel
theorem dX7_readPair_66 : decode cX7_readPair 66 = .ok (.bipush 8, 2) := by decide +kernel
theorem dX7_readPair_68 : decode cX7_readPair 68 = .ok (.iload 4, 2) := by decide +kernel
theorem dX7_readPair_70 : decode cX7_readPair 70 = .ok (.imul, 1) := by decide +kernel
theorem dX7_readPair_71 : decode cX7_readPair 71 = .ok (.iload 5, 2) := by decide +kernel
theorem dX7_readPair_73 : decode cX7_readPair 73 = .ok (.iadd, 1) := by decide +kernel
theorem dX7_readPair_74 : decode cX7_readPair 74 = .ok (.iaload, 1) := by decide +kernel
theorem dX7_readPair_75 : decode cX7_readPair 75 = .ok (.ifCond .le 7, 3) := by decide +kernel
theorem dX7_readPair_78 : decode cX7_readPair 78 = .ok (.iconst 1, 1) := by decide +kernel
theorem dX7_readPair_79 : decode cX7_readPair 79 = .ok (.goto 4, 3) := by decide +kernel
theorem dX7_readPair_82 : decode cX7_readPair 82 = .ok (.iconst 0, 1) := by decide +kernel
theorem dX7_readPair_83 : decode cX7_readPair 83 = .ok (.iload_n 2, 1) := by decide +kernel
theorem dX7_readPair_84 : decode cX7_readPair 84 = .ok (.if_icmp .ne 7, 3) := by decide +kernel
theorem dX7_readPair_87 : decode cX7_readPair 87 = .ok (.iload_n 1, 1) := by decide +kernel
theorem dX7_readPair_88 : decode cX7_readPair 88 = .ok (.iconst 2, 1) := by decide +kernel
theorem dX7_readPair_89 : decode cX7_readPair 89 = .ok (.iadd, 1) := by decide +kernel
theorem dX7_readPair_90 : decode cX7_readPair 90 = .ok (.ireturn, 1) := by decide +kernel
theorem dX7_readPair_91 : decode cX7_readPair 91 = .ok (.iload_n 2, 1) := by decide +kernel
theorem dX7_readPair_92 : decode cX7_readPair 92 = .ok (.ifCond .eq 82, 3) := by decide +kernel
theorem dX7_readPair_95 : decode cX7_readPair 95 = .ok (.aload_n 0, 1) := by decide +kernel
theorem dX7_readPair_96 : decode cX7_readPair 96 = .ok (.getfield 7, 3) := by decide +kernel
theorem dX7_readPair_99 : decode cX7_readPair 99 = .ok (.bipush 18, 2) := by decide +kernel
theorem dX7_readPair_101 : decode cX7_readPair 101 = .ok (.aload_n 0, 1) := by decide +kernel
theorem dX7_readPair_102 : decode cX7_readPair 102 = .ok (.getfield 7, 3) := by decide +kernel
theorem dX7_readPair_105 : decode cX7_readPair 105 = .ok (.bipush 17, 2) := by decide +kernel
theorem dX7_readPair_107 : decode cX7_readPair 107 = .ok (.iaload, 1) := by decide +kernel
theorem dX7_readPair_108 : decode cX7_readPair 108 = .ok (.iadd, 1) := by decide +kernel
theorem dX7_readPair_109 : decode cX7_readPair 109 = .ok (.iload 4, 2) := by decide +kernel
theorem dX7_readPair_111 : decode cX7_readPair 111 = .ok (.iload 5, 2) := by decide +kernel
theorem dX7_readPair_113 : decode cX7_readPair 113 = .ok (.iload_n 3, 1) := by decide +kernel
theorem dX7_readPair_114 : decode cX7_readPair 114 = .ok (.bipush 15, 2) := by decide +kernel
theorem dX7_readPair_116 : decode cX7_readPair 116 = .ok (.invokestatic 95, 3) := by decide +kernel
theorem dX7_readPair_119 : decode cX7_readPair 119 = .ok (.iastore, 1) := by decide +kernel
theorem dX7_readPair_120 : decode cX7_readPair 120 = .ok (.aload_n 0, 1) := by decide +kernel
theorem dX7_readPair_121 : decode cX7_readPair 121 = .ok (.getfield 7, 3) := by decide +kernel
theorem dX7_readPair_124 : decode cX7_readPair 124 = .ok (.bipush 17, 2) := by decide +kernel
theorem dX7_readPair_126 : decode cX7_readPair 126 = .ok (.dup2, 1) := by decide +kernel
theorem dX7_readPair_127 : decode cX7_readPair 127 = .ok (.iaload, 1) := by decide +kernel
theorem dX7_readPair_128 : decode cX7_readPair 128 = .ok (.iconst 1, 1) := by decide +kernel
theorem dX7_readPair_129 : decode cX7_readPair 129 = .ok (.iadd, 1) := by decide +kernel
theorem dX7_readPair_130 : decode cX7_readPair 130 = .ok (.iastore, 1) := by decide +kernel
theorem dX7_readPair_131 : decode cX7_readPair 131 = .ok (.aload_n 0, 1) := by decide +kernel
theorem dX7_readPair_132 : decode cX7_readPair 132 = .ok (.getfield 16, 3) := by decide +kernel
theorem dX7_readPair_135 : decode cX7_readPair 135 = .ok (.bipush 8, 2) := by decide +kernel
theorem dX7_readPair_137 : decode cX7_readPair 137 = .ok (.iload 4, 2) := by decide +kernel
theorem dX7_readPair_139 : decode cX7_readPair 139 = .ok (.imul, 1) := by decide +kernel
theorem dX7_readPair_140 : decode cX7_readPair 140 = .ok (.iload 5, 2) := by decide +kernel
theorem dX7_readPair_142 : decode cX7_readPair 142 = .ok (.iadd, 1) := by decide +kernel
theorem dX7_readPair_143 : decode cX7_readPair 143 = .ok (.aload_n 0, 1) := by decide +kernel
theorem dX7_readPair_144 : decode cX7_readPair 144 = .ok (.getfield 7, 3) := by decide +kernel
theorem dX7_readPair_147 : decode cX7_readPair 147 = .ok (.bipush 17, 2) := by decide +kernel
theorem dX7_readPair_149 : decode cX7_readPair 149 = .ok (.iaload, 1) := by decide +kernel
theorem dX7_readPair_150 : decode cX7_readPair 150 = .ok (.iastore, 1) := by decide +kernel
theorem dX7_readPair_151 : decode cX7_readPair 151 = .ok (.aload_n 0, 1) := by decide +kernel
theorem dX7_readPair_152 : decode cX7_readPair 152 = .ok (.getfield 16, 3) := by decide +kernel
theorem dX7_readPair_155 : decode cX7_readPair 155 = .ok (.bipush 8, 2) := by decide +kernel
theorem dX7_readPair_157 : decode cX7_readPair 157 = .ok (.iload 5, 2) := by decide +kernel
theorem dX7_readPair_159 : decode cX7_readPair 159 = .ok (.imul, 1) := by decide +kernel
theorem dX7_readPair_160 : decode cX7_readPair 160 = .ok (.iload 4, 2) := by decide +kernel
theorem dX7_readPair_162 : decode cX7_readPair 162 = .ok (.iadd, 1) := by decide +kernel
theorem dX7_readPair_163 : decode cX7_readPair 163 = .ok (.aload_n 0, 1) := by decide +kernel
theorem dX7_readPair_164 : decode cX7_readPair 164 = .ok (.getfield 7, 3) := by decide +kernel
theorem dX7_readPair_167 : decode cX7_readPair 167 = .ok (.bipush 17, 2) := by decide +kernel
theorem dX7_readPair_169 : decode cX7_readPair 169 = .ok (.iaload, 1) := by decide +kernel
theorem dX7_readPair_170 : decode cX7_readPair 170 = .ok (.iastore, 1) := by decide +kernel
theorem dX7_readPair_171 : decode cX7_readPair 171 = .ok (.goto 78, 3) := by decide +kernel
theorem dX7_readPair_174 : decode cX7_readPair 174 = .ok (.bipush 18, 2) := by decide +kernel
theorem dX7_readPair_176 : decode cX7_readPair 176 = .ok (.aload_n 0, 1) := by decide +kernel
theorem dX7_readPair_177 : decode cX7_readPair 177 = .ok (.getfield 16, 3) := by decide +kernel
theorem dX7_readPair_180 : decode cX7_readPair 180 = .ok (.bipush 8, 2) := by decide +kernel
theorem dX7_readPair_182 : decode cX7_readPair 182 = .ok (.iload 4, 2) := by decide +kernel
theorem dX7_readPair_184 : decode cX7_readPair 184 = .ok (.imul, 1) := by decide +kernel
theorem dX7_readPair_185 : decode cX7_readPair 185 = .ok (.iload 5, 2) := by decide +kernel
theorem dX7_readPair_187 : decode cX7_readPair 187 = .ok (.iadd, 1) := by decide +kernel
theorem dX7_readPair_188 : decode cX7_readPair 188 = .ok (.iaload, 1) := by decide +kernel
theorem dX7_readPair_189 : decode cX7_readPair 189 = .ok (.iadd, 1) := by decide +kernel
theorem dX7_readPair_190 : decode cX7_readPair 190 = .ok (.iconst 1, 1) := by decide +kernel
theorem dX7_readPair_191 : decode cX7_readPair 191 = .ok (.isub, 1) := by decide +kernel
theorem dX7_readPair_192 : decode cX7_readPair 192 = .ok (.istore 6, 2) := by decide +kernel
theorem dX7_readPair_194 : decode cX7_readPair 194 = .ok (.aload_n 0, 1) := by decide +kernel
theorem dX7_readPair_195 : decode cX7_readPair 195 = .ok (.getfield 7, 3) := by decide +kernel
theorem dX7_readPair_198 : decode cX7_readPair 198 = .ok (.iload 6, 2) := by decide +kernel
theorem dX7_readPair_200 : decode cX7_readPair 200 = .ok (.iload 4, 2) := by decide +kernel
theorem dX7_readPair_202 : decode cX7_readPair 202 = .ok (.iload 5, 2) := by decide +kernel
theorem dX7_readPair_204 : decode cX7_readPair 204 = .ok (.aload_n 0, 1) := by decide +kernel
theorem dX7_readPair_205 : decode cX7_readPair 205 = .ok (.getfield 7, 3) := by decide +kernel
theorem dX7_readPair_208 : decode cX7_readPair 208 = .ok (.iload 6, 2) := by decide +kernel
theorem dX7_readPair_210 : decode cX7_readPair 210 = .ok (.iaload, 1) := by decide +kernel
theorem dX7_readPair_211 : decode cX7_readPair 211 = .ok (.invokestatic 64, 3) := by decide +kernel
theorem dX7_readPair_214 : decode cX7_readPair 214 = .ok (.iload_n 3, 1) := by decide +kernel
theorem dX7_readPair_215 : decode cX7_readPair 215 = .ok (.iconst 1, 1) := by decide +kernel
theorem dX7_readPair_216 : decode cX7_readPair 216 = .ok (.isub, 1) := by decide +kernel
theorem dX7_readPair_217 : decode cX7_readPair 217 = .ok (.invokestatic 95, 3) := by decide +kernel
theorem dX7_readPair_220 : decode cX7_readPair 220 = .ok (.iastore, 1) := by decide +kernel
theorem dX7_readPair_221 : decode cX7_readPair 221 = .ok (.aload_n 0, 1) := by decide +kernel
theorem dX7_readPair_222 : decode cX7_readPair 222 = .ok (.getfield 16, 3) := by decide +kernel
theorem dX7_readPair_225 : decode cX7_readPair 225 = .ok (.bipush 8, 2) := by decide +kernel
theorem dX7_readPair_227 : decode cX7_readPair 227 = .ok (.iload 4, 2) := by decide +kernel
theorem dX7_readPair_229 : decode cX7_readPair 229 = .ok (.imul, 1) := by decide +kernel
theorem dX7_readPair_230 : decode cX7_readPair 230 = .ok (.iload 5, 2) := by decide +kernel
theorem dX7_readPair_232 : decode cX7_readPair 232 = .ok (.iadd, 1) := by decide +kernel
theorem dX7_readPair_233 : decode cX7_readPair 233 = .ok (.iconst 0, 1) := by decide +kernel
theorem dX7_readPair_234 : decode cX7_readPair 234 = .ok (.iastore, 1) := by decide +kernel
theorem dX7_readPair_235 : decode cX7_readPair 235 = .ok (.aload_n 0, 1) := by decide +kernel
theorem dX7_readPair_236 : decode cX7_readPair 236 = .ok (.getfield 16, 3) := by decide +kernel
theorem dX7_readPair_239 : decode cX7_readPair 239 = .ok (.bipush 8, 2) := by decide +kernel
theorem dX7_readPair_241 : decode cX7_readPair 241 = .ok (.iload 5, 2) := by decide +kernel
theorem dX7_readPair_243 : decode cX7_readPair 243 = .ok (.imul, 1) := by decide +kernel
theorem dX7_readPair_244 : decode cX7_readPair 244 = .ok (.iload 4, 2) := by decide +kernel
theorem dX7_readPair_246 : decode cX7_readPair 246 = .ok (.iadd, 1) := by decide +kernel
theorem dX7_readPair_247 : decode cX7_readPair 247 = .ok (.iconst 0, 1) := by decide +kernel
theorem dX7_readPair_248 : decode cX7_readPair 248 = .ok (.iastore, 1) := by decide +kernel
theorem dX7_readPair_249 : decode cX7_readPair 249 = .ok (.bipush (-9), 2) := by decide +kernel
theorem dX7_readPair_251 : decode cX7_readPair 251 = .ok (.ireturn, 1) := by decide +kernel
theorem dX7_fault_0 : decode cX7_fault 0 = .ok (.aload_n 0, 1) := by decide +kernel
theorem dX7_fault_1 : decode cX7_fault 1 = .ok (.invokevirtual 99, 3) := by decide +kernel
theorem dX7_fault_4 : decode cX7_fault 4 = .ok (.ireturn, 1) := by decide +kernel
theorem dX7_life_0 : decode cX7_life 0 = .ok (.aload_n 0, 1) := by decide +kernel
theorem dX7_life_1 : decode cX7_life 1 = .ok (.invokevirtual 99, 3) := by decide +kernel
theorem dX7_life_4 : decode cX7_life 4 = .ok (.bipush (-9), 2) := by decide +kernel
theorem dX7_life_6 : decode cX7_life 6 = .ok (.if_icmp .eq 6, 3) := by decide +kernel
theorem dX7_life_9 : decode cX7_life 9 = .ok (.bipush (-3), 2) := by decide +kernel
theorem dX7_life_11 : decode cX7_life 11 = .ok (.ireturn, 1) := by decide +kernel
theorem dX7_life_12 : decode cX7_life 12 = .ok (.iconst 0, 1) := by decide +kernel
theorem dX7_life_13 : decode cX7_life 13 = .ok (.istore_n 1, 1) := by decide +kernel
theorem dX7_life_14 : decode cX7_life 14 = .ok (.iload_n 1, 1) := by decide +kernel
theorem dX7_life_15 : decode cX7_life 15 = .ok (.bipush 17, 2) := by decide +kernel
theorem dX7_life_17 : decode cX7_life 17 = .ok (.if_icmp .ge 24, 3) := by decide +kernel
theorem dX7_life_20 : decode cX7_life 20 = .ok (.aload_n 0, 1) := by decide +kernel
theorem dX7_life_21 : decode cX7_life 21 = .ok (.getfield 7, 3) := by decide +kernel
theorem dX7_life_24 : decode cX7_life 24 = .ok (.iload_n 1, 1) := by decide +kernel
theorem dX7_life_25 : decode cX7_life 25 = .ok (.aload_n 0, 1) := by decide +kernel
theorem dX7_life_26 : decode cX7_life 26 = .ok (.getfield 7, 3) := by decide +kernel
theorem dX7_life_29 : decode cX7_life 29 = .ok (.bipush 17, 2) := by decide +kernel
theorem dX7_life_31 : decode cX7_life 31 = .ok (.iload_n 1, 1) := by decide +kernel
theorem dX7_life_32 : decode cX7_life 32 = .ok (.iadd, 1) := by decide +kernel
theorem dX7_life_33 : decode cX7_life 33 = .ok (.iaload, 1) := by decide +kernel
theorem dX7_life_34 : decode cX7_life 34 = .ok (.iastore, 1) := by decide +kernel
theorem dX7_life_35 : decode cX7_life 35 = .ok (.iinc 1 1, 3) := by decide +kernel
theorem dX7_life_38 : decode cX7_life 38 = .ok (.goto (-24), 3) := by decide +kernel
theorem dX7_life_41 : decode cX7_life 41 = .ok (.aload_n 0, 1) := by decide +kernel
theorem dX7_life_42 : decode cX7_life 42 = .ok (.iconst 0, 1) := by decide +kernel
theorem dX7_life_43 : decode cX7_life 43 = .ok (.putfield 102, 3) := by decide +kernel
theorem dX7_life_46 : decode cX7_life 46 = .ok (.aload_n 0, 1) := by decide +kernel
theorem dX7_life_47 : decode cX7_life 47 = .ok (.getfield 49, 3) := by decide +kernel
theorem dX7_life_50 : decode cX7_life 50 = .ok (.iconst 0, 1) := by decide +kernel
theorem dX7_life_51 : decode cX7_life 51 = .ok (.iconst 0, 1) := by decide +kernel
theorem dX7_life_52 : decode cX7_life 52 = .ok (.bastore, 1) := by decide +kernel
theorem dX7_life_53 : decode cX7_life 53 = .ok (.aload_n 0, 1) := by decide +kernel
theorem dX7_life_54 : decode cX7_life 54 = .ok (.getfield 49, 3) := by decide +kernel
theorem dX7_life_57 : decode cX7_life 57 = .ok (.iconst 1, 1) := by decide +kernel
theorem dX7_life_58 : decode cX7_life 58 = .ok (.iconst 0, 1) := by decide +kernel
theorem dX7_life_59 : decode cX7_life 59 = .ok (.bastore, 1) := by decide +kernel
theorem dX7_life_60 : decode cX7_life 60 = .ok (.aload_n 0, 1) := by decide +kernel
theorem dX7_life_61 : decode cX7_life 61 = .ok (.getfield 7, 3) := by decide +kernel
theorem dX7_life_64 : decode cX7_life 64 = .ok (.iconst 0, 1) := by decide +kernel
theorem dX7_life_65 : decode cX7_life 65 = .ok (.iaload, 1) := by decide +kernel
theorem dX7_life_66 : decode cX7_life 66 = .ok (.ireturn, 1) := by decide +kernel
theorem dX7_spanOf_0 : decode cX7_spanOf 0 = .ok (.aload_n 0, 1) := by decide +kernel
theorem dX7_spanOf_1 : decode cX7_spanOf 1 = .ok (.getfield 7, 3) := by decide +kernel
theorem dX7_spanOf_4 : decode cX7_spanOf 4 = .ok (.bipush 17, 2) := by decide +kernel
theorem dX7_spanOf_6 : decode cX7_spanOf 6 = .ok (.iload_n 1, 1) := by decide +kernel
theorem dX7_spanOf_7 : decode cX7_spanOf 7 = .ok (.imul, 1) := by decide +kernel
theorem dX7_spanOf_8 : decode cX7_spanOf 8 = .ok (.iconst 1, 1) := by decide +kernel
theorem dX7_spanOf_9 : decode cX7_spanOf 9 = .ok (.iadd, 1) := by decide +kernel
theorem dX7_spanOf_10 : decode cX7_spanOf 10 = .ok (.iload_n 2, 1) := by decide +kernel
theorem dX7_spanOf_11 : decode cX7_spanOf 11 = .ok (.iadd, 1) := by decide +kernel
theorem dX7_spanOf_12 : decode cX7_spanOf 12 = .ok (.iaload, 1) := by decide +kernel
theorem dX7_spanOf_13 : decode cX7_spanOf 13 = .ok (.ireturn, 1) := by decide +kernel
theorem dX7_many_0 : decode cX7_many 0 = .ok (.aload_n 0, 1) := by decide +kernel
theorem dX7_many_1 : decode cX7_many 1 = .ok (.getfield 7, 3) := by decide +kernel
theorem dX7_many_4 : decode cX7_many 4 = .ok (.bipush 17, 2) := by decide +kernel
theorem dX7_many_6 : decode cX7_many 6 = .ok (.iload_n 1, 1) := by decide +kernel
theorem dX7_many_7 : decode cX7_many 7 = .ok (.imul, 1) := by decide +kernel
theorem dX7_many_8 : decode cX7_many 8 = .ok (.iaload, 1) := by decide +kernel
theorem dX7_many_9 : decode cX7_many 9 = .ok (.ireturn, 1) := by decide +kernel
theorem dX7_isSpan_0 : decode cX7_isSpan 0 = .ok (.iload_n 1, 1) := by decide +kernel
theorem dX7_isSpan_1 : decode cX7_isSpan 1 = .ok (.i2l, 1) := by decide +kernel
theorem dX7_isSpan_2 : decode cX7_isSpan 2 = .ok (.lconst 0, 1) := by decide +kernel
theorem dX7_isSpan_3 : decode cX7_isSpan 3 = .ok (.aload_n 0, 1) := by decide +kernel
theorem dX7_isSpan_4 : decode cX7_isSpan 4 = .ok (.iconst 0, 1) := by decide +kernel
theorem dX7_isSpan_5 : decode cX7_isSpan 5 = .ok (.invokevirtual 105, 3) := by decide +kernel
theorem dX7_isSpan_8 : decode cX7_isSpan 8 = .ok (.iconst 1, 1) := by decide +kernel
theorem dX7_isSpan_9 : decode cX7_isSpan 9 = .ok (.isub, 1) := by decide +kernel
theorem dX7_isSpan_10 : decode cX7_isSpan 10 = .ok (.i2l, 1) := by decide +kernel
theorem dX7_isSpan_11 : decode cX7_isSpan 11 = .ok (.invokestatic 58, 3) := by decide +kernel
theorem dX7_isSpan_14 : decode cX7_isSpan 14 = .ok (.ireturn, 1) := by decide +kernel
theorem dX7_isFree_0 : decode cX7_isFree 0 = .ok (.iconst 1, 1) := by decide +kernel
theorem dX7_isFree_1 : decode cX7_isFree 1 = .ok (.istore 4, 2) := by decide +kernel
theorem dX7_isFree_3 : decode cX7_isFree 3 = .ok (.iconst 0, 1) := by decide +kernel
theorem dX7_isFree_4 : decode cX7_isFree 4 = .ok (.istore 5, 2) := by decide +kernel
theorem dX7_isFree_6 : decode cX7_isFree 6 = .ok (.iload 5, 2) := by decide +kernel
theorem dX7_isFree_8 : decode cX7_isFree 8 = .ok (.aload_n 0, 1) := by decide +kernel
theorem dX7_isFree_9 : decode cX7_isFree 9 = .ok (.iload_n 1, 1) := by decide +kernel
theorem dX7_isFree_10 : decode cX7_isFree 10 = .ok (.invokevirtual 105, 3) := by decide +kernel
theorem dX7_isFree_13 : decode cX7_isFree 13 = .ok (.if_icmp .ge 96, 3) := by decide +kernel
theorem dX7_isFree_16 : decode cX7_isFree 16 = .ok (.aload_n 0, 1) := by decide +kernel
theorem dX7_isFree_17 : decode cX7_isFree 17 = .ok (.iload_n 1, 1) := by decide +kernel
theorem dX7_isFree_18 : decode cX7_isFree 18 = .ok (.iload 5, 2) := by decide +kernel
theorem dX7_isFree_20 : decode cX7_isFree 20 = .ok (.invokevirtual 108, 3) := by decide +kernel
theorem dX7_isFree_23 : decode cX7_isFree 23 = .ok (.istore 6, 2) := by decide +kernel
theorem dX7_isFree_25 : decode cX7_isFree 25 = .ok (.iload 5, 2) := by decide +kernel
theorem dX7_isFree_27 : decode cX7_isFree 27 = .ok (.iload_n 3, 1) := by decide +kernel
theorem dX7_isFree_28 : decode cX7_isFree 28 = .ok (.if_icmp .eq 31, 3) := by decide +kernel
theorem dX7_isFree_31 : decode cX7_isFree 31 = .ok (.iload 6, 2) := by decide +kernel
theorem dX7_isFree_33 : decode cX7_isFree 33 = .ok (.invokestatic 112, 3) := by decide +kernel
theorem dX7_isFree_36 : decode cX7_isFree 36 = .ok (.iload_n 2, 1) := by decide +kernel
theorem dX7_isFree_37 : decode cX7_isFree 37 = .ok (.invokestatic 112, 3) := by decide +kernel
theorem dX7_isFree_40 : decode cX7_isFree 40 = .ok (.if_icmp .ne 19, 3) := by decide +kernel
theorem dX7_isFree_43 : decode cX7_isFree 43 = .ok (.iload 6, 2) := by decide +kernel
theorem dX7_isFree_45 : decode cX7_isFree 45 = .ok (.invokestatic 115, 3) := by decide +kernel
theorem dX7_isFree_48 : decode cX7_isFree 48 = .ok (.iload_n 2, 1) := by decide +kernel
theorem dX7_isFree_49 : decode cX7_isFree 49 = .ok (.invokestatic 115, 3) := by decide +kernel
theorem dX7_isFree_52 : decode cX7_isFree 52 = .ok (.if_icmp .ne 7, 3) := by decide +kernel
theorem dX7_isFree_55 : decode cX7_isFree 55 = .ok (.iconst 1, 1) := by decide +kernel
theorem dX7_isFree_56 : decode cX7_isFree 56 = .ok (.goto 4, 3) := by decide +kernel
theorem dX7_isFree_59 : decode cX7_isFree 59 = .ok (.iconst 0, 1) := by decide +kernel
theorem dX7_isFree_60 : decode cX7_isFree 60 = .ok (.istore 7, 2) := by decide +kernel
theorem dX7_isFree_62 : decode cX7_isFree 62 = .ok (.iload 4, 2) := by decide +kernel
theorem dX7_isFree_64 : decode cX7_isFree 64 = .ok (.ifCond .eq 36, 3) := by decide +kernel
theorem dX7_isFree_67 : decode cX7_isFree 67 = .ok (.iload 7, 2) := by decide +kernel
theorem dX7_isFree_69 : decode cX7_isFree 69 = .ok (.ifCond .eq 27, 3) := by decide +kernel
theorem dX7_isFree_72 : decode cX7_isFree 72 = .ok (.iload_n 2, 1) := by decide +kernel
theorem dX7_isFree_73 : decode cX7_isFree 73 = .ok (.invokestatic 64, 3) := by decide +kernel
theorem dX7_isFree_76 : decode cX7_isFree 76 = .ok (.iload 6, 2) := by decide +kernel
theorem dX7_isFree_78 : decode cX7_isFree 78 = .ok (.invokestatic 68, 3) := by decide +kernel
theorem dX7_isFree_81 : decode cX7_isFree 81 = .ok (.if_icmp .gt 15, 3) := by decide +kernel
theorem dX7_isFree_84 : decode cX7_isFree 84 = .ok (.iload 6, 2) := by decide +kernel
theorem dX7_isFree_86 : decode cX7_isFree 86 = .ok (.invokestatic 64, 3) := by decide +kernel
theorem dX7_isFree_89 : decode cX7_isFree 89 = .ok (.iload_n 2, 1) := by decide +kernel
theorem dX7_isFree_90 : decode cX7_isFree 90 = .ok (.invokestatic 68, 3) := by decide +kernel
theorem dX7_isFree_93 : decode cX7_isFree 93 = .ok (.if_icmp .le 7, 3) := by decide +kernel
theorem dX7_isFree_96 : decode cX7_isFree 96 = .ok (.iconst 1, 1) := by decide +kernel
theorem dX7_isFree_97 : decode cX7_isFree 97 = .ok (.goto 4, 3) := by decide +kernel
theorem dX7_isFree_100 : decode cX7_isFree 100 = .ok (.iconst 0, 1) := by decide +kernel
theorem dX7_isFree_101 : decode cX7_isFree 101 = .ok (.istore 4, 2) := by decide +kernel
theorem dX7_isFree_103 : decode cX7_isFree 103 = .ok (.iinc 5 1, 3) := by decide +kernel
theorem dX7_isFree_106 : decode cX7_isFree 106 = .ok (.goto (-100), 3) := by decide +kernel
theorem dX7_isFree_109 : decode cX7_isFree 109 = .ok (.iload 4, 2) := by decide +kernel
theorem dX7_isFree_111 : decode cX7_isFree 111 = .ok (.ireturn, 1) := by decide +kernel
theorem dX7_canPut_0 : decode cX7_canPut 0 = .ok (.iload_n 2, 1) := by decide +kernel
theorem dX7_canPut_1 : decode cX7_canPut 1 = .ok (.invokestatic 118, 3) := by decide +kernel
theorem dX7_canPut_4 : decode cX7_canPut 4 = .ok (.ifCond .eq 71, 3) := by decide +kernel
theorem dX7_canPut_7 : decode cX7_canPut 7 = .ok (.iload_n 3, 1) := by decide +kernel
theorem dX7_canPut_8 : decode cX7_canPut 8 = .ok (.invokestatic 118, 3) := by decide +kernel
theorem dX7_canPut_11 : decode cX7_canPut 11 = .ok (.ifCond .eq 64, 3) := by decide +kernel
theorem dX7_canPut_14 : decode cX7_canPut 14 = .ok (.iload_n 2, 1) := by decide +kernel
theorem dX7_canPut_15 : decode cX7_canPut 15 = .ok (.iload_n 3, 1) := by decide +kernel
theorem dX7_canPut_16 : decode cX7_canPut 16 = .ok (.if_icmp .eq 59, 3) := by decide +kernel
theorem dX7_canPut_19 : decode cX7_canPut 19 = .ok (.iload 4, 2) := by decide +kernel
theorem dX7_canPut_21 : decode cX7_canPut 21 = .ok (.invokestatic 122, 3) := by decide +kernel
theorem dX7_canPut_24 : decode cX7_canPut 24 = .ok (.ifCond .eq 51, 3) := by decide +kernel
theorem dX7_canPut_27 : decode cX7_canPut 27 = .ok (.iload 5, 2) := by decide +kernel
theorem dX7_canPut_29 : decode cX7_canPut 29 = .ok (.invokestatic 122, 3) := by decide +kernel
theorem dX7_canPut_32 : decode cX7_canPut 32 = .ok (.ifCond .eq 43, 3) := by decide +kernel
theorem dX7_canPut_35 : decode cX7_canPut 35 = .ok (.iload 4, 2) := by decide +kernel
theorem dX7_canPut_37 : decode cX7_canPut 37 = .ok (.iload 5, 2) := by decide +kernel
theorem dX7_canPut_39 : decode cX7_canPut 39 = .ok (.if_icmp .gt 36, 3) := by decide +kernel
theorem dX7_canPut_42 : decode cX7_canPut 42 = .ok (.aload_n 0, 1) := by decide +kernel
theorem dX7_canPut_43 : decode cX7_canPut 43 = .ok (.iload_n 1, 1) := by decide +kernel
theorem dX7_canPut_44 : decode cX7_canPut 44 = .ok (.invokevirtual 105, 3) := by decide +kernel
theorem dX7_canPut_47 : decode cX7_canPut 47 = .ok (.bipush 16, 2) := by decide +kernel
theorem dX7_canPut_49 : decode cX7_canPut 49 = .ok (.if_icmp .ge 26, 3) := by decide +kernel
theorem dX7_canPut_52 : decode cX7_canPut 52 = .ok (.aload_n 0, 1) := by decide +kernel
theorem dX7_canPut_53 : decode cX7_canPut 53 = .ok (.iload_n 1, 1) := by decide +kernel
theorem dX7_canPut_54 : decode cX7_canPut 54 = .ok (.iload_n 2, 1) := by decide +kernel
theorem dX7_canPut_55 : decode cX7_canPut 55 = .ok (.iload_n 3, 1) := by decide +kernel
theorem dX7_canPut_56 : decode cX7_canPut 56 = .ok (.iload 4, 2) := by decide +kernel
theorem dX7_canPut_58 : decode cX7_canPut 58 = .ok (.iload 5, 2) := by decide +kernel
theorem dX7_canPut_60 : decode cX7_canPut 60 = .ok (.invokestatic 95, 3) := by decide +kernel
theorem dX7_canPut_63 : decode cX7_canPut 63 = .ok (.bipush (-9), 2) := by decide +kernel
theorem dX7_canPut_65 : decode cX7_canPut 65 = .ok (.invokevirtual 125, 3) := by decide +kernel
theorem dX7_canPut_68 : decode cX7_canPut 68 = .ok (.ifCond .eq 7, 3) := by decide +kernel
theorem dX7_canPut_71 : decode cX7_canPut 71 = .ok (.iconst 1, 1) := by decide +kernel
theorem dX7_canPut_72 : decode cX7_canPut 72 = .ok (.goto 4, 3) := by decide +kernel
theorem dX7_canPut_75 : decode cX7_canPut 75 = .ok (.iconst 0, 1) := by decide +kernel
theorem dX7_canPut_76 : decode cX7_canPut 76 = .ok (.ireturn, 1) := by decide +kernel
theorem dX7_putOn_0 : decode cX7_putOn 0 = .ok (.aload_n 0, 1) := by decide +kernel
theorem dX7_putOn_1 : decode cX7_putOn 1 = .ok (.getfield 7, 3) := by decide +kernel
theorem dX7_putOn_4 : decode cX7_putOn 4 = .ok (.bipush 17, 2) := by decide +kernel
theorem dX7_putOn_6 : decode cX7_putOn 6 = .ok (.iload_n 1, 1) := by decide +kernel
theorem dX7_putOn_7 : decode cX7_putOn 7 = .ok (.imul, 1) := by decide +kernel
theorem dX7_putOn_8 : decode cX7_putOn 8 = .ok (.iconst 1, 1) := by decide +kernel
theorem dX7_putOn_9 : decode cX7_putOn 9 = .ok (.iadd, 1) := by decide +kernel
theorem dX7_putOn_10 : decode cX7_putOn 10 = .ok (.aload_n 0, 1) := by decide +kernel
theorem dX7_putOn_11 : decode cX7_putOn 11 = .ok (.iload_n 1, 1) := by decide +kernel
theorem dX7_putOn_12 : decode cX7_putOn 12 = .ok (.invokevirtual 105, 3) := by decide +kernel
theorem dX7_putOn_15 : decode cX7_putOn 15 = .ok (.iadd, 1) := by decide +kernel
theorem dX7_putOn_16 : decode cX7_putOn 16 = .ok (.iload_n 2, 1) := by decide +kernel
theorem dX7_putOn_17 : decode cX7_putOn 17 = .ok (.iastore, 1) := by decide +kernel
theorem dX7_putOn_18 : decode cX7_putOn 18 = .ok (.aload_n 0, 1) := by decide +kernel
theorem dX7_putOn_19 : decode cX7_putOn 19 = .ok (.getfield 7, 3) := by decide +kernel
theorem dX7_putOn_22 : decode cX7_putOn 22 = .ok (.bipush 17, 2) := by decide +kernel
theorem dX7_putOn_24 : decode cX7_putOn 24 = .ok (.iload_n 1, 1) := by decide +kernel
theorem dX7_putOn_25 : decode cX7_putOn 25 = .ok (.imul, 1) := by decide +kernel
theorem dX7_putOn_26 : decode cX7_putOn 26 = .ok (.dup2, 1) := by decide +kernel
theorem dX7_putOn_27 : decode cX7_putOn 27 = .ok (.iaload, 1) := by decide +kernel
theorem dX7_putOn_28 : decode cX7_putOn 28 = .ok (.iconst 1, 1) := by decide +kernel
theorem dX7_putOn_29 : decode cX7_putOn 29 = .ok (.iadd, 1) := by decide +kernel
theorem dX7_putOn_30 : decode cX7_putOn 30 = .ok (.iastore, 1) := by decide +kernel
theorem dX7_putOn_31 : decode cX7_putOn 31 = .ok (.return_, 1) := by decide +kernel
theorem dX7_cutOn_0 : decode cX7_cutOn 0 = .ok (.aload_n 0, 1) := by decide +kernel
theorem dX7_cutOn_1 : decode cX7_cutOn 1 = .ok (.getfield 7, 3) := by decide +kernel
theorem dX7_cutOn_4 : decode cX7_cutOn 4 = .ok (.bipush 17, 2) := by decide +kernel
theorem dX7_cutOn_6 : decode cX7_cutOn 6 = .ok (.iload_n 1, 1) := by decide +kernel
theorem dX7_cutOn_7 : decode cX7_cutOn 7 = .ok (.imul, 1) := by decide +kernel
theorem dX7_cutOn_8 : decode cX7_cutOn 8 = .ok (.dup2, 1) := by decide +kernel
theorem dX7_cutOn_9 : decode cX7_cutOn 9 = .ok (.iaload, 1) := by decide +kernel
theorem dX7_cutOn_10 : decode cX7_cutOn 10 = .ok (.iconst 1, 1) := by decide +kernel
theorem dX7_cutOn_11 : decode cX7_cutOn 11 = .ok (.isub, 1) := by decide +kernel
theorem dX7_cutOn_12 : decode cX7_cutOn 12 = .ok (.iastore, 1) := by decide +kernel
theorem dX7_cutOn_13 : decode cX7_cutOn 13 = .ok (.iload_n 2, 1) := by decide +kernel
theorem dX7_cutOn_14 : decode cX7_cutOn 14 = .ok (.istore_n 3, 1) := by decide +kernel
theorem dX7_cutOn_15 : decode cX7_cutOn 15 = .ok (.iload_n 3, 1) := by decide +kernel
theorem dX7_cutOn_16 : decode cX7_cutOn 16 = .ok (.aload_n 0, 1) := by decide +kernel
theorem dX7_cutOn_17 : decode cX7_cutOn 17 = .ok (.iload_n 1, 1) := by decide +kernel
theorem dX7_cutOn_18 : decode cX7_cutOn 18 = .ok (.invokevirtual 105, 3) := by decide +kernel
theorem dX7_cutOn_21 : decode cX7_cutOn 21 = .ok (.if_icmp .ge 37, 3) := by decide +kernel
theorem dX7_cutOn_24 : decode cX7_cutOn 24 = .ok (.aload_n 0, 1) := by decide +kernel
theorem dX7_cutOn_25 : decode cX7_cutOn 25 = .ok (.getfield 7, 3) := by decide +kernel
theorem dX7_cutOn_28 : decode cX7_cutOn 28 = .ok (.bipush 17, 2) := by decide +kernel
theorem dX7_cutOn_30 : decode cX7_cutOn 30 = .ok (.iload_n 1, 1) := by decide +kernel
theorem dX7_cutOn_31 : decode cX7_cutOn 31 = .ok (.imul, 1) := by decide +kernel
theorem dX7_cutOn_32 : decode cX7_cutOn 32 = .ok (.iconst 1, 1) := by decide +kernel
theorem dX7_cutOn_33 : decode cX7_cutOn 33 = .ok (.iadd, 1) := by decide +kernel
theorem dX7_cutOn_34 : decode cX7_cutOn 34 = .ok (.iload_n 3, 1) := by decide +kernel
theorem dX7_cutOn_35 : decode cX7_cutOn 35 = .ok (.iadd, 1) := by decide +kernel
theorem dX7_cutOn_36 : decode cX7_cutOn 36 = .ok (.aload_n 0, 1) := by decide +kernel
theorem dX7_cutOn_37 : decode cX7_cutOn 37 = .ok (.getfield 7, 3) := by decide +kernel
theorem dX7_cutOn_40 : decode cX7_cutOn 40 = .ok (.bipush 17, 2) := by decide +kernel
theorem dX7_cutOn_42 : decode cX7_cutOn 42 = .ok (.iload_n 1, 1) := by decide +kernel
theorem dX7_cutOn_43 : decode cX7_cutOn 43 = .ok (.imul, 1) := by decide +kernel
theorem dX7_cutOn_44 : decode cX7_cutOn 44 = .ok (.iconst 1, 1) := by decide +kernel
theorem dX7_cutOn_45 : decode cX7_cutOn 45 = .ok (.iadd, 1) := by decide +kernel
theorem dX7_cutOn_46 : decode cX7_cutOn 46 = .ok (.iload_n 3, 1) := by decide +kernel
theorem dX7_cutOn_47 : decode cX7_cutOn 47 = .ok (.iadd, 1) := by decide +kernel
theorem dX7_cutOn_48 : decode cX7_cutOn 48 = .ok (.iconst 1, 1) := by decide +kernel
theorem dX7_cutOn_49 : decode cX7_cutOn 49 = .ok (.iadd, 1) := by decide +kernel
theorem dX7_cutOn_50 : decode cX7_cutOn 50 = .ok (.iaload, 1) := by decide +kernel
theorem dX7_cutOn_51 : decode cX7_cutOn 51 = .ok (.iastore, 1) := by decide +kernel
theorem dX7_cutOn_52 : decode cX7_cutOn 52 = .ok (.iinc 3 1, 3) := by decide +kernel
theorem dX7_cutOn_55 : decode cX7_cutOn 55 = .ok (.goto (-40), 3) := by decide +kernel
theorem dX7_cutOn_58 : decode cX7_cutOn 58 = .ok (.return_, 1) := by decide +kernel
theorem dX7_canEnd_0 : decode cX7_canEnd 0 = .ok (.iload_n 2, 1) := by decide +kernel
theorem dX7_canEnd_1 : decode cX7_canEnd 1 = .ok (.i2l, 1) := by decide +kernel
theorem dX7_canEnd_2 : decode cX7_canEnd 2 = .ok (.lconst 0, 1) := by decide +kernel
theorem dX7_canEnd_3 : decode cX7_canEnd 3 = .ok (.aload_n 0, 1) := by decide +kernel
theorem dX7_canEnd_4 : decode cX7_canEnd 4 = .ok (.iload_n 1, 1) := by decide +kernel
theorem dX7_canEnd_5 : decode cX7_canEnd 5 = .ok (.invokevirtual 105, 3) := by decide +kernel
theorem dX7_canEnd_8 : decode cX7_canEnd 8 = .ok (.iconst 1, 1) := by decide +kernel
theorem dX7_canEnd_9 : decode cX7_canEnd 9 = .ok (.isub, 1) := by decide +kernel
theorem dX7_canEnd_10 : decode cX7_canEnd 10 = .ok (.i2l, 1) := by decide +kernel
theorem dX7_canEnd_11 : decode cX7_canEnd 11 = .ok (.invokestatic 58, 3) := by decide +kernel
theorem dX7_canEnd_14 : decode cX7_canEnd 14 = .ok (.ifCond .eq 12, 3) := by decide +kernel
theorem dX7_canEnd_17 : decode cX7_canEnd 17 = .ok (.aload_n 0, 1) := by decide +kernel
theorem dX7_canEnd_18 : decode cX7_canEnd 18 = .ok (.iload_n 1, 1) := by decide +kernel
theorem dX7_canEnd_19 : decode cX7_canEnd 19 = .ok (.iload_n 2, 1) := by decide +kernel
theorem dX7_canEnd_20 : decode cX7_canEnd 20 = .ok (.invokevirtual 108, 3) := by decide +kernel
theorem dX7_canEnd_23 : decode cX7_canEnd 23 = .ok (.goto 5, 3) := by decide +kernel
theorem dX7_canEnd_26 : decode cX7_canEnd 26 = .ok (.bipush (-9), 2) := by decide +kernel
theorem dX7_canEnd_28 : decode cX7_canEnd 28 = .ok (.istore 4, 2) := by decide +kernel
theorem dX7_canEnd_30 : decode cX7_canEnd 30 = .ok (.iload 4, 2) := by decide +kernel
theorem dX7_canEnd_32 : decode cX7_canEnd 32 = .ok (.bipush (-9), 2) := by decide +kernel
theorem dX7_canEnd_34 : decode cX7_canEnd 34 = .ok (.if_icmp .eq 28, 3) := by decide +kernel
theorem dX7_canEnd_37 : decode cX7_canEnd 37 = .ok (.iload_n 3, 1) := by decide +kernel
theorem dX7_canEnd_38 : decode cX7_canEnd 38 = .ok (.invokestatic 122, 3) := by decide +kernel
theorem dX7_canEnd_41 : decode cX7_canEnd 41 = .ok (.ifCond .eq 21, 3) := by decide +kernel
theorem dX7_canEnd_44 : decode cX7_canEnd 44 = .ok (.iload_n 3, 1) := by decide +kernel
theorem dX7_canEnd_45 : decode cX7_canEnd 45 = .ok (.iload 4, 2) := by decide +kernel
theorem dX7_canEnd_47 : decode cX7_canEnd 47 = .ok (.invokestatic 68, 3) := by decide +kernel
theorem dX7_canEnd_50 : decode cX7_canEnd 50 = .ok (.if_icmp .eq 12, 3) := by decide +kernel
theorem dX7_canEnd_53 : decode cX7_canEnd 53 = .ok (.iload_n 3, 1) := by decide +kernel
theorem dX7_canEnd_54 : decode cX7_canEnd 54 = .ok (.iload 4, 2) := by decide +kernel
theorem dX7_canEnd_56 : decode cX7_canEnd 56 = .ok (.invokestatic 64, 3) := by decide +kernel
theorem dX7_canEnd_59 : decode cX7_canEnd 59 = .ok (.if_icmp .ge 5, 3) := by decide +kernel
theorem dX7_canEnd_62 : decode cX7_canEnd 62 = .ok (.iconst 0, 1) := by decide +kernel
theorem dX7_canEnd_63 : decode cX7_canEnd 63 = .ok (.ireturn, 1) := by decide +kernel
theorem dX7_canEnd_64 : decode cX7_canEnd 64 = .ok (.aload_n 0, 1) := by decide +kernel
theorem dX7_canEnd_65 : decode cX7_canEnd 65 = .ok (.iload_n 1, 1) := by decide +kernel
theorem dX7_canEnd_66 : decode cX7_canEnd 66 = .ok (.iload 4, 2) := by decide +kernel
theorem dX7_canEnd_68 : decode cX7_canEnd 68 = .ok (.invokestatic 112, 3) := by decide +kernel
theorem dX7_canEnd_71 : decode cX7_canEnd 71 = .ok (.iload 4, 2) := by decide +kernel
theorem dX7_canEnd_73 : decode cX7_canEnd 73 = .ok (.invokestatic 115, 3) := by decide +kernel
theorem dX7_canEnd_76 : decode cX7_canEnd 76 = .ok (.iload 4, 2) := by decide +kernel
theorem dX7_canEnd_78 : decode cX7_canEnd 78 = .ok (.invokestatic 64, 3) := by decide +kernel
theorem dX7_canEnd_81 : decode cX7_canEnd 81 = .ok (.iload_n 3, 1) := by decide +kernel
theorem dX7_canEnd_82 : decode cX7_canEnd 82 = .ok (.invokestatic 95, 3) := by decide +kernel
theorem dX7_canEnd_85 : decode cX7_canEnd 85 = .ok (.iload_n 2, 1) := by decide +kernel
theorem dX7_canEnd_86 : decode cX7_canEnd 86 = .ok (.invokevirtual 125, 3) := by decide +kernel
theorem dX7_canEnd_89 : decode cX7_canEnd 89 = .ok (.ireturn, 1) := by decide +kernel
theorem dX7_endOn_0 : decode cX7_endOn 0 = .ok (.aload_n 0, 1) := by decide +kernel
theorem dX7_endOn_1 : decode cX7_endOn 1 = .ok (.iload_n 1, 1) := by decide +kernel
theorem dX7_endOn_2 : decode cX7_endOn 2 = .ok (.iload_n 2, 1) := by decide +kernel
theorem dX7_endOn_3 : decode cX7_endOn 3 = .ok (.invokevirtual 108, 3) := by decide +kernel
theorem dX7_endOn_6 : decode cX7_endOn 6 = .ok (.istore 4, 2) := by decide +kernel
theorem dX7_endOn_8 : decode cX7_endOn 8 = .ok (.aload_n 0, 1) := by decide +kernel
theorem dX7_endOn_9 : decode cX7_endOn 9 = .ok (.getfield 7, 3) := by decide +kernel
theorem dX7_endOn_12 : decode cX7_endOn 12 = .ok (.bipush 17, 2) := by decide +kernel
theorem dX7_endOn_14 : decode cX7_endOn 14 = .ok (.iload_n 1, 1) := by decide +kernel
theorem dX7_endOn_15 : decode cX7_endOn 15 = .ok (.imul, 1) := by decide +kernel
theorem dX7_endOn_16 : decode cX7_endOn 16 = .ok (.iconst 1, 1) := by decide +kernel
theorem dX7_endOn_17 : decode cX7_endOn 17 = .ok (.iadd, 1) := by decide +kernel
theorem dX7_endOn_18 : decode cX7_endOn 18 = .ok (.iload_n 2, 1) := by decide +kernel
theorem dX7_endOn_19 : decode cX7_endOn 19 = .ok (.iadd, 1) := by decide +kernel
theorem dX7_endOn_20 : decode cX7_endOn 20 = .ok (.iload 4, 2) := by decide +kernel
theorem dX7_endOn_22 : decode cX7_endOn 22 = .ok (.invokestatic 112, 3) := by decide +kernel
theorem dX7_endOn_25 : decode cX7_endOn 25 = .ok (.iload 4, 2) := by decide +kernel
theorem dX7_endOn_27 : decode cX7_endOn 27 = .ok (.invokestatic 115, 3) := by decide +kernel
theorem dX7_endOn_30 : decode cX7_endOn 30 = .ok (.iload 4, 2) := by decide +kernel
theorem dX7_endOn_32 : decode cX7_endOn 32 = .ok (.invokestatic 64, 3) := by decide +kernel
theorem dX7_endOn_35 : decode cX7_endOn 35 = .ok (.iload_n 3, 1) := by decide +kernel
theorem dX7_endOn_36 : decode cX7_endOn 36 = .ok (.invokestatic 95, 3) := by decide +kernel
theorem dX7_endOn_39 : decode cX7_endOn 39 = .ok (.iastore, 1) := by decide +kernel
theorem dX7_endOn_40 : decode cX7_endOn 40 = .ok (.return_, 1) := by decide +kernel
theorem dX7_depthOf_0 : decode cX7_depthOf 0 = .ok (.iconst 0, 1) := by decide +kernel
theorem dX7_depthOf_1 : decode cX7_depthOf 1 = .ok (.istore_n 1, 1) := by decide +kernel
theorem dX7_depthOf_2 : decode cX7_depthOf 2 = .ok (.iload_n 0, 1) := by decide +kernel
theorem dX7_depthOf_3 : decode cX7_depthOf 3 = .ok (.istore_n 2, 1) := by decide +kernel
theorem dX7_depthOf_4 : decode cX7_depthOf 4 = .ok (.iload_n 2, 1) := by decide +kernel
theorem dX7_depthOf_5 : decode cX7_depthOf 5 = .ok (.iconst 1, 1) := by decide +kernel
theorem dX7_depthOf_6 : decode cX7_depthOf 6 = .ok (.if_icmp .le 13, 3) := by decide +kernel
theorem dX7_depthOf_9 : decode cX7_depthOf 9 = .ok (.iinc 1 1, 3) := by decide +kernel
theorem dX7_depthOf_12 : decode cX7_depthOf 12 = .ok (.iload_n 2, 1) := by decide +kernel
theorem dX7_depthOf_13 : decode cX7_depthOf 13 = .ok (.iconst 2, 1) := by decide +kernel
theorem dX7_depthOf_14 : decode cX7_depthOf 14 = .ok (.idiv, 1) := by decide +kernel
theorem dX7_depthOf_15 : decode cX7_depthOf 15 = .ok (.istore_n 2, 1) := by decide +kernel
theorem dX7_depthOf_16 : decode cX7_depthOf 16 = .ok (.goto (-12), 3) := by decide +kernel
theorem dX7_depthOf_19 : decode cX7_depthOf 19 = .ok (.iload_n 1, 1) := by decide +kernel
theorem dX7_depthOf_20 : decode cX7_depthOf 20 = .ok (.ireturn, 1) := by decide +kernel
theorem dX7_firstOf_0 : decode cX7_firstOf 0 = .ok (.iload_n 0, 1) := by decide +kernel
theorem dX7_firstOf_1 : decode cX7_firstOf 1 = .ok (.invokestatic 129, 3) := by decide +kernel
theorem dX7_firstOf_4 : decode cX7_firstOf 4 = .ok (.istore_n 1, 1) := by decide +kernel
theorem dX7_firstOf_5 : decode cX7_firstOf 5 = .ok (.iload_n 0, 1) := by decide +kernel
theorem dX7_firstOf_6 : decode cX7_firstOf 6 = .ok (.iconst 1, 1) := by decide +kernel
theorem dX7_firstOf_7 : decode cX7_firstOf 7 = .ok (.iload_n 1, 1) := by decide +kernel
theorem dX7_firstOf_8 : decode cX7_firstOf 8 = .ok (.ishl, 1) := by decide +kernel
theorem dX7_firstOf_9 : decode cX7_firstOf 9 = .ok (.isub, 1) := by decide +kernel
theorem dX7_firstOf_10 : decode cX7_firstOf 10 = .ok (.bipush 16, 2) := by decide +kernel
theorem dX7_firstOf_12 : decode cX7_firstOf 12 = .ok (.iload_n 1, 1) := by decide +kernel
theorem dX7_firstOf_13 : decode cX7_firstOf 13 = .ok (.ishr, 1) := by decide +kernel
theorem dX7_firstOf_14 : decode cX7_firstOf 14 = .ok (.imul, 1) := by decide +kernel
theorem dX7_firstOf_15 : decode cX7_firstOf 15 = .ok (.ireturn, 1) := by decide +kernel
theorem dX7_lastOf_0 : decode cX7_lastOf 0 = .ok (.iload_n 0, 1) := by decide +kernel
theorem dX7_lastOf_1 : decode cX7_lastOf 1 = .ok (.invokestatic 132, 3) := by decide +kernel
theorem dX7_lastOf_4 : decode cX7_lastOf 4 = .ok (.bipush 16, 2) := by decide +kernel
theorem dX7_lastOf_6 : decode cX7_lastOf 6 = .ok (.iload_n 0, 1) := by decide +kernel
theorem dX7_lastOf_7 : decode cX7_lastOf 7 = .ok (.invokestatic 129, 3) := by decide +kernel
theorem dX7_lastOf_10 : decode cX7_lastOf 10 = .ok (.ishr, 1) := by decide +kernel
theorem dX7_lastOf_11 : decode cX7_lastOf 11 = .ok (.iadd, 1) := by decide +kernel
theorem dX7_lastOf_12 : decode cX7_lastOf 12 = .ok (.iconst 1, 1) := by decide +kernel
theorem dX7_lastOf_13 : decode cX7_lastOf 13 = .ok (.isub, 1) := by decide +kernel
theorem dX7_lastOf_14 : decode cX7_lastOf 14 = .ok (.ireturn, 1) := by decide +kernel
theorem dX7_fills_0 : decode cX7_fills 0 = .ok (.iload_n 0, 1) := by decide +kernel
theorem dX7_fills_1 : decode cX7_fills 1 = .ok (.invokestatic 64, 3) := by decide +kernel
theorem dX7_fills_4 : decode cX7_fills 4 = .ok (.iload_n 1, 1) := by decide +kernel
theorem dX7_fills_5 : decode cX7_fills 5 = .ok (.invokestatic 132, 3) := by decide +kernel
theorem dX7_fills_8 : decode cX7_fills 8 = .ok (.if_icmp .gt 18, 3) := by decide +kernel
theorem dX7_fills_11 : decode cX7_fills 11 = .ok (.iload_n 0, 1) := by decide +kernel
theorem dX7_fills_12 : decode cX7_fills 12 = .ok (.invokestatic 68, 3) := by decide +kernel
theorem dX7_fills_15 : decode cX7_fills 15 = .ok (.iload_n 1, 1) := by decide +kernel
theorem dX7_fills_16 : decode cX7_fills 16 = .ok (.invokestatic 135, 3) := by decide +kernel
theorem dX7_fills_19 : decode cX7_fills 19 = .ok (.if_icmp .lt 7, 3) := by decide +kernel
theorem dX7_fills_22 : decode cX7_fills 22 = .ok (.iconst 1, 1) := by decide +kernel
theorem dX7_fills_23 : decode cX7_fills 23 = .ok (.goto 4, 3) := by decide +kernel
theorem dX7_fills_26 : decode cX7_fills 26 = .ok (.iconst 0, 1) := by decide +kernel
theorem dX7_fills_27 : decode cX7_fills 27 = .ok (.ireturn, 1) := by decide +kernel
theorem dX7_lies_0 : decode cX7_lies 0 = .ok (.iload_n 0, 1) := by decide +kernel
theorem dX7_lies_1 : decode cX7_lies 1 = .ok (.iload_n 1, 1) := by decide +kernel
theorem dX7_lies_2 : decode cX7_lies 2 = .ok (.invokestatic 138, 3) := by decide +kernel
theorem dX7_lies_5 : decode cX7_lies 5 = .ok (.ifCond .eq 22, 3) := by decide +kernel
theorem dX7_lies_8 : decode cX7_lies 8 = .ok (.iload_n 1, 1) := by decide +kernel
theorem dX7_lies_9 : decode cX7_lies 9 = .ok (.iconst 1, 1) := by decide +kernel
theorem dX7_lies_10 : decode cX7_lies 10 = .ok (.if_icmp .eq 13, 3) := by decide +kernel
theorem dX7_lies_13 : decode cX7_lies 13 = .ok (.iload_n 0, 1) := by decide +kernel
theorem dX7_lies_14 : decode cX7_lies 14 = .ok (.iload_n 1, 1) := by decide +kernel
theorem dX7_lies_15 : decode cX7_lies 15 = .ok (.iconst 2, 1) := by decide +kernel
theorem dX7_lies_16 : decode cX7_lies 16 = .ok (.idiv, 1) := by decide +kernel
theorem dX7_lies_17 : decode cX7_lies 17 = .ok (.invokestatic 138, 3) := by decide +kernel
theorem dX7_lies_20 : decode cX7_lies 20 = .ok (.ifCond .ne 7, 3) := by decide +kernel
theorem dX7_lies_23 : decode cX7_lies 23 = .ok (.iconst 1, 1) := by decide +kernel
theorem dX7_lies_24 : decode cX7_lies 24 = .ok (.goto 4, 3) := by decide +kernel
theorem dX7_lies_27 : decode cX7_lies 27 = .ok (.iconst 0, 1) := by decide +kernel
theorem dX7_lies_28 : decode cX7_lies 28 = .ok (.ireturn, 1) := by decide +kernel
theorem dX7_nodesOf_0 : decode cX7_nodesOf 0 = .ok (.iconst 0, 1) := by decide +kernel
theorem dX7_nodesOf_1 : decode cX7_nodesOf 1 = .ok (.istore_n 1, 1) := by decide +kernel
theorem dX7_nodesOf_2 : decode cX7_nodesOf 2 = .ok (.iconst 1, 1) := by decide +kernel
theorem dX7_nodesOf_3 : decode cX7_nodesOf 3 = .ok (.istore_n 2, 1) := by decide +kernel
theorem dX7_nodesOf_4 : decode cX7_nodesOf 4 = .ok (.iload_n 2, 1) := by decide +kernel
theorem dX7_nodesOf_5 : decode cX7_nodesOf 5 = .ok (.bipush 32, 2) := by decide +kernel
theorem dX7_nodesOf_7 : decode cX7_nodesOf 7 = .ok (.if_icmp .ge 25, 3) := by decide +kernel
theorem dX7_nodesOf_10 : decode cX7_nodesOf 10 = .ok (.iload_n 1, 1) := by decide +kernel
theorem dX7_nodesOf_11 : decode cX7_nodesOf 11 = .ok (.iload_n 0, 1) := by decide +kernel
theorem dX7_nodesOf_12 : decode cX7_nodesOf 12 = .ok (.iload_n 2, 1) := by decide +kernel
theorem dX7_nodesOf_13 : decode cX7_nodesOf 13 = .ok (.invokestatic 142, 3) := by decide +kernel
theorem dX7_nodesOf_16 : decode cX7_nodesOf 16 = .ok (.ifCond .eq 7, 3) := by decide +kernel
theorem dX7_nodesOf_19 : decode cX7_nodesOf 19 = .ok (.iconst 1, 1) := by decide +kernel
theorem dX7_nodesOf_20 : decode cX7_nodesOf 20 = .ok (.goto 4, 3) := by decide +kernel
theorem dX7_nodesOf_23 : decode cX7_nodesOf 23 = .ok (.iconst 0, 1) := by decide +kernel
theorem dX7_nodesOf_24 : decode cX7_nodesOf 24 = .ok (.iadd, 1) := by decide +kernel
theorem dX7_nodesOf_25 : decode cX7_nodesOf 25 = .ok (.istore_n 1, 1) := by decide +kernel
theorem dX7_nodesOf_26 : decode cX7_nodesOf 26 = .ok (.iinc 2 1, 3) := by decide +kernel
theorem dX7_nodesOf_29 : decode cX7_nodesOf 29 = .ok (.goto (-25), 3) := by decide +kernel
theorem dX7_nodesOf_32 : decode cX7_nodesOf 32 = .ok (.iload_n 1, 1) := by decide +kernel
theorem dX7_nodesOf_33 : decode cX7_nodesOf 33 = .ok (.ireturn, 1) := by decide +kernel
theorem dX7_span_0 : decode cX7_span 0 = .ok (.aload_n 0, 1) := by decide +kernel
theorem dX7_span_1 : decode cX7_span 1 = .ok (.iload_n 1, 1) := by decide +kernel
theorem dX7_span_2 : decode cX7_span 2 = .ok (.invokevirtual 145, 3) := by decide +kernel
theorem dX7_span_5 : decode cX7_span 5 = .ok (.ifCond .ne 5, 3) := by decide +kernel
theorem dX7_span_8 : decode cX7_span 8 = .ok (.iconst (-1), 1) := by decide +kernel
theorem dX7_span_9 : decode cX7_span 9 = .ok (.ireturn, 1) := by decide +kernel
theorem dX7_span_10 : decode cX7_span 10 = .ok (.aload_n 0, 1) := by decide +kernel
theorem dX7_span_11 : decode cX7_span 11 = .ok (.iconst 0, 1) := by decide +kernel
theorem dX7_span_12 : decode cX7_span 12 = .ok (.iload_n 1, 1) := by decide +kernel
theorem dX7_span_13 : decode cX7_span 13 = .ok (.invokevirtual 108, 3) := by decide +kernel
theorem dX7_span_16 : decode cX7_span 16 = .ok (.istore_n 3, 1) := by decide +kernel
theorem dX7_span_17 : decode cX7_span 17 = .ok (.iload_n 2, 1) := by decide +kernel
theorem dX7_span_18 : decode cX7_span 18 = .ok (.tableswitch 59 0 4 #[34, 39, 44, 49, 54], 34) := by decide +kernel
theorem dX7_span_52 : decode cX7_span 52 = .ok (.iload_n 3, 1) := by decide +kernel
theorem dX7_span_53 : decode cX7_span 53 = .ok (.invokestatic 112, 3) := by decide +kernel
theorem dX7_span_56 : decode cX7_span 56 = .ok (.ireturn, 1) := by decide +kernel
theorem dX7_span_57 : decode cX7_span 57 = .ok (.iload_n 3, 1) := by decide +kernel
theorem dX7_span_58 : decode cX7_span 58 = .ok (.invokestatic 115, 3) := by decide +kernel
theorem dX7_span_61 : decode cX7_span 61 = .ok (.ireturn, 1) := by decide +kernel
theorem dX7_span_62 : decode cX7_span 62 = .ok (.iload_n 3, 1) := by decide +kernel
theorem dX7_span_63 : decode cX7_span 63 = .ok (.invokestatic 64, 3) := by decide +kernel
theorem dX7_span_66 : decode cX7_span 66 = .ok (.ireturn, 1) := by decide +kernel
theorem dX7_span_67 : decode cX7_span 67 = .ok (.iload_n 3, 1) := by decide +kernel
theorem dX7_span_68 : decode cX7_span 68 = .ok (.invokestatic 68, 3) := by decide +kernel
theorem dX7_span_71 : decode cX7_span 71 = .ok (.ireturn, 1) := by decide +kernel
theorem dX7_span_72 : decode cX7_span 72 = .ok (.iload_n 3, 1) := by decide +kernel
theorem dX7_span_73 : decode cX7_span 73 = .ok (.invokestatic 148, 3) := by decide +kernel
theorem dX7_span_76 : decode cX7_span 76 = .ok (.ireturn, 1) := by decide +kernel
theorem dX7_span_77 : decode cX7_span 77 = .ok (.bipush (-2), 2) := by decide +kernel
theorem dX7_span_79 : decode cX7_span 79 = .ok (.ireturn, 1) := by decide +kernel
theorem dX7_liesOn_0 : decode cX7_liesOn 0 = .ok (.iconst 0, 1) := by decide +kernel
theorem dX7_liesOn_1 : decode cX7_liesOn 1 = .ok (.istore_n 2, 1) := by decide +kernel
theorem dX7_liesOn_2 : decode cX7_liesOn 2 = .ok (.iconst 0, 1) := by decide +kernel
theorem dX7_liesOn_3 : decode cX7_liesOn 3 = .ok (.istore_n 3, 1) := by decide +kernel
theorem dX7_liesOn_4 : decode cX7_liesOn 4 = .ok (.iload_n 3, 1) := by decide +kernel
theorem dX7_liesOn_5 : decode cX7_liesOn 5 = .ok (.aload_n 0, 1) := by decide +kernel
theorem dX7_liesOn_6 : decode cX7_liesOn 6 = .ok (.iconst 0, 1) := by decide +kernel
theorem dX7_liesOn_7 : decode cX7_liesOn 7 = .ok (.invokevirtual 105, 3) := by decide +kernel
theorem dX7_liesOn_10 : decode cX7_liesOn 10 = .ok (.if_icmp .ge 32, 3) := by decide +kernel
theorem dX7_liesOn_13 : decode cX7_liesOn 13 = .ok (.iload_n 2, 1) := by decide +kernel
theorem dX7_liesOn_14 : decode cX7_liesOn 14 = .ok (.aload_n 0, 1) := by decide +kernel
theorem dX7_liesOn_15 : decode cX7_liesOn 15 = .ok (.iconst 0, 1) := by decide +kernel
theorem dX7_liesOn_16 : decode cX7_liesOn 16 = .ok (.iload_n 3, 1) := by decide +kernel
theorem dX7_liesOn_17 : decode cX7_liesOn 17 = .ok (.invokevirtual 108, 3) := by decide +kernel
theorem dX7_liesOn_20 : decode cX7_liesOn 20 = .ok (.iload_n 1, 1) := by decide +kernel
theorem dX7_liesOn_21 : decode cX7_liesOn 21 = .ok (.invokestatic 142, 3) := by decide +kernel
theorem dX7_liesOn_24 : decode cX7_liesOn 24 = .ok (.ifCond .eq 9, 3) := by decide +kernel
theorem dX7_liesOn_27 : decode cX7_liesOn 27 = .ok (.iconst 1, 1) := by decide +kernel
theorem dX7_liesOn_28 : decode cX7_liesOn 28 = .ok (.iload_n 3, 1) := by decide +kernel
theorem dX7_liesOn_29 : decode cX7_liesOn 29 = .ok (.ishl, 1) := by decide +kernel
theorem dX7_liesOn_30 : decode cX7_liesOn 30 = .ok (.goto 4, 3) := by decide +kernel
theorem dX7_liesOn_33 : decode cX7_liesOn 33 = .ok (.iconst 0, 1) := by decide +kernel
theorem dX7_liesOn_34 : decode cX7_liesOn 34 = .ok (.ior, 1) := by decide +kernel
theorem dX7_liesOn_35 : decode cX7_liesOn 35 = .ok (.istore_n 2, 1) := by decide +kernel
theorem dX7_liesOn_36 : decode cX7_liesOn 36 = .ok (.iinc 3 1, 3) := by decide +kernel
theorem dX7_liesOn_39 : decode cX7_liesOn 39 = .ok (.goto (-35), 3) := by decide +kernel
theorem dX7_liesOn_42 : decode cX7_liesOn 42 = .ok (.iload_n 2, 1) := by decide +kernel
theorem dX7_liesOn_43 : decode cX7_liesOn 43 = .ok (.ireturn, 1) := by decide +kernel
theorem dX7_node_0 : decode cX7_node 0 = .ok (.iload_n 1, 1) := by decide +kernel
theorem dX7_node_1 : decode cX7_node 1 = .ok (.i2l, 1) := by decide +kernel
theorem dX7_node_2 : decode cX7_node 2 = .ok (.lconst 1, 1) := by decide +kernel
theorem dX7_node_3 : decode cX7_node 3 = .ok (.ldc2_w 151, 3) := by decide +kernel
theorem dX7_node_6 : decode cX7_node 6 = .ok (.invokestatic 58, 3) := by decide +kernel
theorem dX7_node_9 : decode cX7_node 9 = .ok (.ifCond .eq 11, 3) := by decide +kernel
theorem dX7_node_12 : decode cX7_node 12 = .ok (.aload_n 0, 1) := by decide +kernel
theorem dX7_node_13 : decode cX7_node 13 = .ok (.iload_n 1, 1) := by decide +kernel
theorem dX7_node_14 : decode cX7_node 14 = .ok (.invokevirtual 153, 3) := by decide +kernel
theorem dX7_node_17 : decode cX7_node 17 = .ok (.goto 4, 3) := by decide +kernel
theorem dX7_node_20 : decode cX7_node 20 = .ok (.iconst (-1), 1) := by decide +kernel
theorem dX7_node_21 : decode cX7_node 21 = .ok (.ireturn, 1) := by decide +kernel
theorem dX7_keepAct_0 : decode cX7_keepAct 0 = .ok (.iconst 0, 1) := by decide +kernel
theorem dX7_keepAct_1 : decode cX7_keepAct 1 = .ok (.istore_n 1, 1) := by decide +kernel
theorem dX7_keepAct_2 : decode cX7_keepAct 2 = .ok (.iload_n 1, 1) := by decide +kernel
theorem dX7_keepAct_3 : decode cX7_keepAct 3 = .ok (.bipush 17, 2) := by decide +kernel
theorem dX7_keepAct_5 : decode cX7_keepAct 5 = .ok (.if_icmp .ge 29, 3) := by decide +kernel
theorem dX7_keepAct_8 : decode cX7_keepAct 8 = .ok (.aload_n 0, 1) := by decide +kernel
theorem dX7_keepAct_9 : decode cX7_keepAct 9 = .ok (.getfield 19, 3) := by decide +kernel
theorem dX7_keepAct_12 : decode cX7_keepAct 12 = .ok (.bipush 17, 2) := by decide +kernel
theorem dX7_keepAct_14 : decode cX7_keepAct 14 = .ok (.aload_n 0, 1) := by decide +kernel
theorem dX7_keepAct_15 : decode cX7_keepAct 15 = .ok (.getfield 156, 3) := by decide +kernel
theorem dX7_keepAct_18 : decode cX7_keepAct 18 = .ok (.imul, 1) := by decide +kernel
theorem dX7_keepAct_19 : decode cX7_keepAct 19 = .ok (.iload_n 1, 1) := by decide +kernel
theorem dX7_keepAct_20 : decode cX7_keepAct 20 = .ok (.iadd, 1) := by decide +kernel
theorem dX7_keepAct_21 : decode cX7_keepAct 21 = .ok (.aload_n 0, 1) := by decide +kernel
theorem dX7_keepAct_22 : decode cX7_keepAct 22 = .ok (.getfield 7, 3) := by decide +kernel
theorem dX7_keepAct_25 : decode cX7_keepAct 25 = .ok (.iload_n 1, 1) := by decide +kernel
theorem dX7_keepAct_26 : decode cX7_keepAct 26 = .ok (.iaload, 1) := by decide +kernel
theorem dX7_keepAct_27 : decode cX7_keepAct 27 = .ok (.iastore, 1) := by decide +kernel
theorem dX7_keepAct_28 : decode cX7_keepAct 28 = .ok (.iinc 1 1, 3) := by decide +kernel
theorem dX7_keepAct_31 : decode cX7_keepAct 31 = .ok (.goto (-29), 3) := by decide +kernel
theorem dX7_keepAct_34 : decode cX7_keepAct 34 = .ok (.aload_n 0, 1) := by decide +kernel
theorem dX7_keepAct_35 : decode cX7_keepAct 35 = .ok (.aload_n 0, 1) := by decide +kernel
theorem dX7_keepAct_36 : decode cX7_keepAct 36 = .ok (.getfield 156, 3) := by decide +kernel
theorem dX7_keepAct_39 : decode cX7_keepAct 39 = .ok (.iconst 1, 1) := by decide +kernel
theorem dX7_keepAct_40 : decode cX7_keepAct 40 = .ok (.iadd, 1) := by decide +kernel
theorem dX7_keepAct_41 : decode cX7_keepAct 41 = .ok (.bipush 14, 2) := by decide +kernel
theorem dX7_keepAct_43 : decode cX7_keepAct 43 = .ok (.irem, 1) := by decide +kernel
theorem dX7_keepAct_44 : decode cX7_keepAct 44 = .ok (.putfield 156, 3) := by decide +kernel
theorem dX7_keepAct_47 : decode cX7_keepAct 47 = .ok (.aload_n 0, 1) := by decide +kernel
theorem dX7_keepAct_48 : decode cX7_keepAct 48 = .ok (.aload_n 0, 1) := by decide +kernel
theorem dX7_keepAct_49 : decode cX7_keepAct 49 = .ok (.getfield 102, 3) := by decide +kernel
theorem dX7_keepAct_52 : decode cX7_keepAct 52 = .ok (.bipush 14, 2) := by decide +kernel
theorem dX7_keepAct_54 : decode cX7_keepAct 54 = .ok (.if_icmp .ge 12, 3) := by decide +kernel
theorem dX7_keepAct_57 : decode cX7_keepAct 57 = .ok (.aload_n 0, 1) := by decide +kernel
theorem dX7_keepAct_58 : decode cX7_keepAct 58 = .ok (.getfield 102, 3) := by decide +kernel
theorem dX7_keepAct_61 : decode cX7_keepAct 61 = .ok (.iconst 1, 1) := by decide +kernel
theorem dX7_keepAct_62 : decode cX7_keepAct 62 = .ok (.iadd, 1) := by decide +kernel
theorem dX7_keepAct_63 : decode cX7_keepAct 63 = .ok (.goto 5, 3) := by decide +kernel
theorem dX7_keepAct_66 : decode cX7_keepAct 66 = .ok (.bipush 14, 2) := by decide +kernel
theorem dX7_keepAct_68 : decode cX7_keepAct 68 = .ok (.putfield 102, 3) := by decide +kernel
theorem dX7_keepAct_71 : decode cX7_keepAct 71 = .ok (.return_, 1) := by decide +kernel
theorem dX7_put_0 : decode cX7_put 0 = .ok (.iload_n 1, 1) := by decide +kernel
theorem dX7_put_1 : decode cX7_put 1 = .ok (.invokestatic 118, 3) := by decide +kernel
theorem dX7_put_4 : decode cX7_put 4 = .ok (.ifCond .eq 25, 3) := by decide +kernel
theorem dX7_put_7 : decode cX7_put 7 = .ok (.iload_n 2, 1) := by decide +kernel
theorem dX7_put_8 : decode cX7_put 8 = .ok (.invokestatic 118, 3) := by decide +kernel
theorem dX7_put_11 : decode cX7_put 11 = .ok (.ifCond .eq 18, 3) := by decide +kernel
theorem dX7_put_14 : decode cX7_put 14 = .ok (.iload_n 3, 1) := by decide +kernel
theorem dX7_put_15 : decode cX7_put 15 = .ok (.invokestatic 122, 3) := by decide +kernel
theorem dX7_put_18 : decode cX7_put 18 = .ok (.ifCond .eq 11, 3) := by decide +kernel
theorem dX7_put_21 : decode cX7_put 21 = .ok (.iload 4, 2) := by decide +kernel
theorem dX7_put_23 : decode cX7_put 23 = .ok (.invokestatic 122, 3) := by decide +kernel
theorem dX7_put_26 : decode cX7_put 26 = .ok (.ifCond .ne 5, 3) := by decide +kernel
theorem dX7_put_29 : decode cX7_put 29 = .ok (.iconst (-1), 1) := by decide +kernel
theorem dX7_put_30 : decode cX7_put 30 = .ok (.ireturn, 1) := by decide +kernel
theorem dX7_put_31 : decode cX7_put 31 = .ok (.iload_n 1, 1) := by decide +kernel
theorem dX7_put_32 : decode cX7_put 32 = .ok (.iload_n 2, 1) := by decide +kernel
theorem dX7_put_33 : decode cX7_put 33 = .ok (.if_icmp .eq 9, 3) := by decide +kernel
theorem dX7_put_36 : decode cX7_put 36 = .ok (.iload 4, 2) := by decide +kernel
theorem dX7_put_38 : decode cX7_put 38 = .ok (.iload_n 3, 1) := by decide +kernel
theorem dX7_put_39 : decode cX7_put 39 = .ok (.if_icmp .ge 6, 3) := by decide +kernel
theorem dX7_put_42 : decode cX7_put 42 = .ok (.bipush (-2), 2) := by decide +kernel
theorem dX7_put_44 : decode cX7_put 44 = .ok (.ireturn, 1) := by decide +kernel
theorem dX7_put_45 : decode cX7_put 45 = .ok (.aload_n 0, 1) := by decide +kernel
theorem dX7_put_46 : decode cX7_put 46 = .ok (.iconst 0, 1) := by decide +kernel
theorem dX7_put_47 : decode cX7_put 47 = .ok (.iload_n 1, 1) := by decide +kernel
theorem dX7_put_48 : decode cX7_put 48 = .ok (.iload_n 2, 1) := by decide +kernel
theorem dX7_put_49 : decode cX7_put 49 = .ok (.iload_n 3, 1) := by decide +kernel
theorem dX7_put_50 : decode cX7_put 50 = .ok (.iload 4, 2) := by decide +kernel
theorem dX7_put_52 : decode cX7_put 52 = .ok (.invokestatic 95, 3) := by decide +kernel
theorem dX7_put_55 : decode cX7_put 55 = .ok (.bipush (-9), 2) := by decide +kernel
theorem dX7_put_57 : decode cX7_put 57 = .ok (.invokevirtual 125, 3) := by decide +kernel
theorem dX7_put_60 : decode cX7_put 60 = .ok (.ifCond .ne 6, 3) := by decide +kernel
theorem dX7_put_63 : decode cX7_put 63 = .ok (.bipush (-3), 2) := by decide +kernel
theorem dX7_put_65 : decode cX7_put 65 = .ok (.ireturn, 1) := by decide +kernel
theorem dX7_put_66 : decode cX7_put 66 = .ok (.aload_n 0, 1) := by decide +kernel
theorem dX7_put_67 : decode cX7_put 67 = .ok (.iconst 0, 1) := by decide +kernel
theorem dX7_put_68 : decode cX7_put 68 = .ok (.invokevirtual 105, 3) := by decide +kernel
theorem dX7_put_71 : decode cX7_put 71 = .ok (.bipush 16, 2) := by decide +kernel
theorem dX7_put_73 : decode cX7_put 73 = .ok (.if_icmp .ne 6, 3) := by decide +kernel
theorem dX7_put_76 : decode cX7_put 76 = .ok (.bipush (-4), 2) := by decide +kernel
theorem dX7_put_78 : decode cX7_put 78 = .ok (.ireturn, 1) := by decide +kernel
theorem dX7_put_79 : decode cX7_put 79 = .ok (.aload_n 0, 1) := by decide +kernel
theorem dX7_put_80 : decode cX7_put 80 = .ok (.invokevirtual 159, 3) := by decide +kernel
theorem dX7_put_83 : decode cX7_put 83 = .ok (.aload_n 0, 1) := by decide +kernel
theorem dX7_put_84 : decode cX7_put 84 = .ok (.iconst 0, 1) := by decide +kernel
theorem dX7_put_85 : decode cX7_put 85 = .ok (.iload_n 1, 1) := by decide +kernel
theorem dX7_put_86 : decode cX7_put 86 = .ok (.iload_n 2, 1) := by decide +kernel
theorem dX7_put_87 : decode cX7_put 87 = .ok (.iload_n 3, 1) := by decide +kernel
theorem dX7_put_88 : decode cX7_put 88 = .ok (.iload 4, 2) := by decide +kernel
theorem dX7_put_90 : decode cX7_put 90 = .ok (.invokestatic 95, 3) := by decide +kernel
theorem dX7_put_93 : decode cX7_put 93 = .ok (.invokevirtual 162, 3) := by decide +kernel
theorem dX7_put_96 : decode cX7_put 96 = .ok (.aload_n 0, 1) := by decide +kernel
theorem dX7_put_97 : decode cX7_put 97 = .ok (.iconst 0, 1) := by decide +kernel
theorem dX7_put_98 : decode cX7_put 98 = .ok (.invokevirtual 105, 3) := by decide +kernel
theorem dX7_put_101 : decode cX7_put 101 = .ok (.iconst 1, 1) := by decide +kernel
theorem dX7_put_102 : decode cX7_put 102 = .ok (.isub, 1) := by decide +kernel
theorem dX7_put_103 : decode cX7_put 103 = .ok (.ireturn, 1) := by decide +kernel
theorem dX7_cut_0 : decode cX7_cut 0 = .ok (.aload_n 0, 1) := by decide +kernel
theorem dX7_cut_1 : decode cX7_cut 1 = .ok (.iload_n 1, 1) := by decide +kernel
theorem dX7_cut_2 : decode cX7_cut 2 = .ok (.invokevirtual 145, 3) := by decide +kernel
theorem dX7_cut_5 : decode cX7_cut 5 = .ok (.ifCond .ne 5, 3) := by decide +kernel
theorem dX7_cut_8 : decode cX7_cut 8 = .ok (.iconst (-1), 1) := by decide +kernel
theorem dX7_cut_9 : decode cX7_cut 9 = .ok (.ireturn, 1) := by decide +kernel
theorem dX7_cut_10 : decode cX7_cut 10 = .ok (.aload_n 0, 1) := by decide +kernel
theorem dX7_cut_11 : decode cX7_cut 11 = .ok (.invokevirtual 159, 3) := by decide +kernel
theorem dX7_cut_14 : decode cX7_cut 14 = .ok (.aload_n 0, 1) := by decide +kernel
theorem dX7_cut_15 : decode cX7_cut 15 = .ok (.iconst 0, 1) := by decide +kernel
theorem dX7_cut_16 : decode cX7_cut 16 = .ok (.iload_n 1, 1) := by decide +kernel
theorem dX7_cut_17 : decode cX7_cut 17 = .ok (.invokevirtual 166, 3) := by decide +kernel
theorem dX7_cut_20 : decode cX7_cut 20 = .ok (.aload_n 0, 1) := by decide +kernel
theorem dX7_cut_21 : decode cX7_cut 21 = .ok (.iconst 0, 1) := by decide +kernel
theorem dX7_cut_22 : decode cX7_cut 22 = .ok (.invokevirtual 105, 3) := by decide +kernel
theorem dX7_cut_25 : decode cX7_cut 25 = .ok (.ireturn, 1) := by decide +kernel
theorem dX7_end_0 : decode cX7_end 0 = .ok (.aload_n 0, 1) := by decide +kernel
theorem dX7_end_1 : decode cX7_end 1 = .ok (.iload_n 1, 1) := by decide +kernel
theorem dX7_end_2 : decode cX7_end 2 = .ok (.invokevirtual 145, 3) := by decide +kernel
theorem dX7_end_5 : decode cX7_end 5 = .ok (.ifCond .eq 10, 3) := by decide +kernel
theorem dX7_end_8 : decode cX7_end 8 = .ok (.iload_n 2, 1) := by decide +kernel
theorem dX7_end_9 : decode cX7_end 9 = .ok (.invokestatic 122, 3) := by decide +kernel
theorem dX7_end_12 : decode cX7_end 12 = .ok (.ifCond .ne 5, 3) := by decide +kernel
theorem dX7_end_15 : decode cX7_end 15 = .ok (.iconst (-1), 1) := by decide +kernel
theorem dX7_end_16 : decode cX7_end 16 = .ok (.ireturn, 1) := by decide +kernel
theorem dX7_end_17 : decode cX7_end 17 = .ok (.aload_n 0, 1) := by decide +kernel
theorem dX7_end_18 : decode cX7_end 18 = .ok (.iconst 0, 1) := by decide +kernel
theorem dX7_end_19 : decode cX7_end 19 = .ok (.iload_n 1, 1) := by decide +kernel
theorem dX7_end_20 : decode cX7_end 20 = .ok (.iload_n 2, 1) := by decide +kernel
theorem dX7_end_21 : decode cX7_end 21 = .ok (.invokevirtual 169, 3) := by decide +kernel
theorem dX7_end_24 : decode cX7_end 24 = .ok (.ifCond .ne 6, 3) := by decide +kernel
theorem dX7_end_27 : decode cX7_end 27 = .ok (.bipush (-3), 2) := by decide +kernel
theorem dX7_end_29 : decode cX7_end 29 = .ok (.ireturn, 1) := by decide +kernel
theorem dX7_end_30 : decode cX7_end 30 = .ok (.aload_n 0, 1) := by decide +kernel
theorem dX7_end_31 : decode cX7_end 31 = .ok (.invokevirtual 159, 3) := by decide +kernel
theorem dX7_end_34 : decode cX7_end 34 = .ok (.aload_n 0, 1) := by decide +kernel
theorem dX7_end_35 : decode cX7_end 35 = .ok (.iconst 0, 1) := by decide +kernel
theorem dX7_end_36 : decode cX7_end 36 = .ok (.iload_n 1, 1) := by decide +kernel
theorem dX7_end_37 : decode cX7_end 37 = .ok (.invokevirtual 108, 3) := by decide +kernel
theorem dX7_end_40 : decode cX7_end 40 = .ok (.invokestatic 68, 3) := by decide +kernel
theorem dX7_end_43 : decode cX7_end 43 = .ok (.istore_n 3, 1) := by decide +kernel
theorem dX7_end_44 : decode cX7_end 44 = .ok (.aload_n 0, 1) := by decide +kernel
theorem dX7_end_45 : decode cX7_end 45 = .ok (.iconst 0, 1) := by decide +kernel
theorem dX7_end_46 : decode cX7_end 46 = .ok (.iload_n 1, 1) := by decide +kernel
theorem dX7_end_47 : decode cX7_end 47 = .ok (.iload_n 2, 1) := by decide +kernel
theorem dX7_end_48 : decode cX7_end 48 = .ok (.invokevirtual 172, 3) := by decide +kernel
theorem dX7_end_51 : decode cX7_end 51 = .ok (.iload_n 3, 1) := by decide +kernel
theorem dX7_end_52 : decode cX7_end 52 = .ok (.ireturn, 1) := by decide +kernel
theorem dX7_undo_0 : decode cX7_undo 0 = .ok (.aload_n 0, 1) := by decide +kernel
theorem dX7_undo_1 : decode cX7_undo 1 = .ok (.getfield 102, 3) := by decide +kernel
theorem dX7_undo_4 : decode cX7_undo 4 = .ok (.ifCond .ne 6, 3) := by decide +kernel
theorem dX7_undo_7 : decode cX7_undo 7 = .ok (.bipush (-3), 2) := by decide +kernel
theorem dX7_undo_9 : decode cX7_undo 9 = .ok (.ireturn, 1) := by decide +kernel
theorem dX7_undo_10 : decode cX7_undo 10 = .ok (.aload_n 0, 1) := by decide +kernel
theorem dX7_undo_11 : decode cX7_undo 11 = .ok (.dup, 1) := by decide +kernel
theorem dX7_undo_12 : decode cX7_undo 12 = .ok (.getfield 102, 3) := by decide +kernel
theorem dX7_undo_15 : decode cX7_undo 15 = .ok (.iconst 1, 1) := by decide +kernel
theorem dX7_undo_16 : decode cX7_undo 16 = .ok (.isub, 1) := by decide +kernel
theorem dX7_undo_17 : decode cX7_undo 17 = .ok (.putfield 102, 3) := by decide +kernel
theorem dX7_undo_20 : decode cX7_undo 20 = .ok (.aload_n 0, 1) := by decide +kernel
theorem dX7_undo_21 : decode cX7_undo 21 = .ok (.aload_n 0, 1) := by decide +kernel
theorem dX7_undo_22 : decode cX7_undo 22 = .ok (.getfield 156, 3) := by decide +kernel
theorem dX7_undo_25 : decode cX7_undo 25 = .ok (.bipush 13, 2) := by decide +kernel
theorem dX7_undo_27 : decode cX7_undo 27 = .ok (.iadd, 1) := by decide +kernel
theorem dX7_undo_28 : decode cX7_undo 28 = .ok (.bipush 14, 2) := by decide +kernel
theorem dX7_undo_30 : decode cX7_undo 30 = .ok (.irem, 1) := by decide +kernel
theorem dX7_undo_31 : decode cX7_undo 31 = .ok (.putfield 156, 3) := by decide +kernel
theorem dX7_undo_34 : decode cX7_undo 34 = .ok (.iconst 0, 1) := by decide +kernel
theorem dX7_undo_35 : decode cX7_undo 35 = .ok (.istore_n 1, 1) := by decide +kernel
theorem dX7_undo_36 : decode cX7_undo 36 = .ok (.iload_n 1, 1) := by decide +kernel
theorem dX7_undo_37 : decode cX7_undo 37 = .ok (.bipush 17, 2) := by decide +kernel
theorem dX7_undo_39 : decode cX7_undo 39 = .ok (.if_icmp .ge 29, 3) := by decide +kernel
theorem dX7_undo_42 : decode cX7_undo 42 = .ok (.aload_n 0, 1) := by decide +kernel
theorem dX7_undo_43 : decode cX7_undo 43 = .ok (.getfield 7, 3) := by decide +kernel
theorem dX7_undo_46 : decode cX7_undo 46 = .ok (.iload_n 1, 1) := by decide +kernel
theorem dX7_undo_47 : decode cX7_undo 47 = .ok (.aload_n 0, 1) := by decide +kernel
theorem dX7_undo_48 : decode cX7_undo 48 = .ok (.getfield 19, 3) := by decide +kernel
theorem dX7_undo_51 : decode cX7_undo 51 = .ok (.bipush 17, 2) := by decide +kernel
theorem dX7_undo_53 : decode cX7_undo 53 = .ok (.aload_n 0, 1) := by decide +kernel
theorem dX7_undo_54 : decode cX7_undo 54 = .ok (.getfield 156, 3) := by decide +kernel
theorem dX7_undo_57 : decode cX7_undo 57 = .ok (.imul, 1) := by decide +kernel
theorem dX7_undo_58 : decode cX7_undo 58 = .ok (.iload_n 1, 1) := by decide +kernel
theorem dX7_undo_59 : decode cX7_undo 59 = .ok (.iadd, 1) := by decide +kernel
theorem dX7_undo_60 : decode cX7_undo 60 = .ok (.iaload, 1) := by decide +kernel
theorem dX7_undo_61 : decode cX7_undo 61 = .ok (.iastore, 1) := by decide +kernel
theorem dX7_undo_62 : decode cX7_undo 62 = .ok (.iinc 1 1, 3) := by decide +kernel
theorem dX7_undo_65 : decode cX7_undo 65 = .ok (.goto (-29), 3) := by decide +kernel
theorem dX7_undo_68 : decode cX7_undo 68 = .ok (.aload_n 0, 1) := by decide +kernel
theorem dX7_undo_69 : decode cX7_undo 69 = .ok (.getfield 102, 3) := by decide +kernel
theorem dX7_undo_72 : decode cX7_undo 72 = .ok (.ireturn, 1) := by decide +kernel
theorem dX7_clearKnots_0 : decode cX7_clearKnots 0 = .ok (.iconst 0, 1) := by decide +kernel
theorem dX7_clearKnots_1 : decode cX7_clearKnots 1 = .ok (.istore_n 1, 1) := by decide +kernel
theorem dX7_clearKnots_2 : decode cX7_clearKnots 2 = .ok (.iload_n 1, 1) := by decide +kernel
theorem dX7_clearKnots_3 : decode cX7_clearKnots 3 = .ok (.bipush 8, 2) := by decide +kernel
theorem dX7_clearKnots_5 : decode cX7_clearKnots 5 = .ok (.if_icmp .ge 23, 3) := by decide +kernel
theorem dX7_clearKnots_8 : decode cX7_clearKnots 8 = .ok (.aload_n 0, 1) := by decide +kernel
theorem dX7_clearKnots_9 : decode cX7_clearKnots 9 = .ok (.getfield 22, 3) := by decide +kernel
theorem dX7_clearKnots_12 : decode cX7_clearKnots 12 = .ok (.iload_n 1, 1) := by decide +kernel
theorem dX7_clearKnots_13 : decode cX7_clearKnots 13 = .ok (.iload_n 1, 1) := by decide +kernel
theorem dX7_clearKnots_14 : decode cX7_clearKnots 14 = .ok (.iastore, 1) := by decide +kernel
theorem dX7_clearKnots_15 : decode cX7_clearKnots 15 = .ok (.aload_n 0, 1) := by decide +kernel
theorem dX7_clearKnots_16 : decode cX7_clearKnots 16 = .ok (.getfield 25, 3) := by decide +kernel
theorem dX7_clearKnots_19 : decode cX7_clearKnots 19 = .ok (.iload_n 1, 1) := by decide +kernel
theorem dX7_clearKnots_20 : decode cX7_clearKnots 20 = .ok (.iconst 1, 1) := by decide +kernel
theorem dX7_clearKnots_21 : decode cX7_clearKnots 21 = .ok (.iastore, 1) := by decide +kernel
theorem dX7_clearKnots_22 : decode cX7_clearKnots 22 = .ok (.iinc 1 1, 3) := by decide +kernel
theorem dX7_clearKnots_25 : decode cX7_clearKnots 25 = .ok (.goto (-23), 3) := by decide +kernel
theorem dX7_clearKnots_28 : decode cX7_clearKnots 28 = .ok (.return_, 1) := by decide +kernel
theorem dX7_rootOf_0 : decode cX7_rootOf 0 = .ok (.iload_n 1, 1) := by decide +kernel
theorem dX7_rootOf_1 : decode cX7_rootOf 1 = .ok (.istore_n 2, 1) := by decide +kernel
theorem dX7_rootOf_2 : decode cX7_rootOf 2 = .ok (.aload_n 0, 1) := by decide +kernel
theorem dX7_rootOf_3 : decode cX7_rootOf 3 = .ok (.getfield 22, 3) := by decide +kernel
theorem dX7_rootOf_6 : decode cX7_rootOf 6 = .ok (.iload_n 2, 1) := by decide +kernel
theorem dX7_rootOf_7 : decode cX7_rootOf 7 = .ok (.iaload, 1) := by decide +kernel
theorem dX7_rootOf_8 : decode cX7_rootOf 8 = .ok (.iload_n 2, 1) := by decide +kernel
theorem dX7_rootOf_9 : decode cX7_rootOf 9 = .ok (.if_icmp .eq 13, 3) := by decide +kernel
theorem dX7_rootOf_12 : decode cX7_rootOf 12 = .ok (.aload_n 0, 1) := by decide +kernel
theorem dX7_rootOf_13 : decode cX7_rootOf 13 = .ok (.getfield 22, 3) := by decide +kernel
theorem dX7_rootOf_16 : decode cX7_rootOf 16 = .ok (.iload_n 2, 1) := by decide +kernel
theorem dX7_rootOf_17 : decode cX7_rootOf 17 = .ok (.iaload, 1) := by decide +kernel
theorem dX7_rootOf_18 : decode cX7_rootOf 18 = .ok (.istore_n 2, 1) := by decide +kernel
theorem dX7_rootOf_19 : decode cX7_rootOf 19 = .ok (.goto (-17), 3) := by decide +kernel
theorem dX7_rootOf_22 : decode cX7_rootOf 22 = .ok (.iload_n 2, 1) := by decide +kernel
theorem dX7_rootOf_23 : decode cX7_rootOf 23 = .ok (.ireturn, 1) := by decide +kernel
theorem dX7_depthAt_0 : decode cX7_depthAt 0 = .ok (.iconst 0, 1) := by decide +kernel
theorem dX7_depthAt_1 : decode cX7_depthAt 1 = .ok (.istore_n 2, 1) := by decide +kernel
theorem dX7_depthAt_2 : decode cX7_depthAt 2 = .ok (.iload_n 1, 1) := by decide +kernel
theorem dX7_depthAt_3 : decode cX7_depthAt 3 = .ok (.istore_n 3, 1) := by decide +kernel
theorem dX7_depthAt_4 : decode cX7_depthAt 4 = .ok (.aload_n 0, 1) := by decide +kernel
theorem dX7_depthAt_5 : decode cX7_depthAt 5 = .ok (.getfield 22, 3) := by decide +kernel
theorem dX7_depthAt_8 : decode cX7_depthAt 8 = .ok (.iload_n 3, 1) := by decide +kernel
theorem dX7_depthAt_9 : decode cX7_depthAt 9 = .ok (.iaload, 1) := by decide +kernel
theorem dX7_depthAt_10 : decode cX7_depthAt 10 = .ok (.iload_n 3, 1) := by decide +kernel
theorem dX7_depthAt_11 : decode cX7_depthAt 11 = .ok (.if_icmp .eq 16, 3) := by decide +kernel
theorem dX7_depthAt_14 : decode cX7_depthAt 14 = .ok (.iinc 2 1, 3) := by decide +kernel
theorem dX7_depthAt_17 : decode cX7_depthAt 17 = .ok (.aload_n 0, 1) := by decide +kernel
theorem dX7_depthAt_18 : decode cX7_depthAt 18 = .ok (.getfield 22, 3) := by decide +kernel
theorem dX7_depthAt_21 : decode cX7_depthAt 21 = .ok (.iload_n 3, 1) := by decide +kernel
theorem dX7_depthAt_22 : decode cX7_depthAt 22 = .ok (.iaload, 1) := by decide +kernel
theorem dX7_depthAt_23 : decode cX7_depthAt 23 = .ok (.istore_n 3, 1) := by decide +kernel
theorem dX7_depthAt_24 : decode cX7_depthAt 24 = .ok (.goto (-20), 3) := by decide +kernel
theorem dX7_depthAt_27 : decode cX7_depthAt 27 = .ok (.iload_n 2, 1) := by decide +kernel
theorem dX7_depthAt_28 : decode cX7_depthAt 28 = .ok (.ireturn, 1) := by decide +kernel
theorem dX7_joins_0 : decode cX7_joins 0 = .ok (.aload_n 0, 1) := by decide +kernel
theorem dX7_joins_1 : decode cX7_joins 1 = .ok (.iload_n 1, 1) := by decide +kernel
theorem dX7_joins_2 : decode cX7_joins 2 = .ok (.invokestatic 112, 3) := by decide +kernel
theorem dX7_joins_5 : decode cX7_joins 5 = .ok (.invokevirtual 176, 3) := by decide +kernel
theorem dX7_joins_8 : decode cX7_joins 8 = .ok (.istore_n 2, 1) := by decide +kernel
theorem dX7_joins_9 : decode cX7_joins 9 = .ok (.aload_n 0, 1) := by decide +kernel
theorem dX7_joins_10 : decode cX7_joins 10 = .ok (.iload_n 1, 1) := by decide +kernel
theorem dX7_joins_11 : decode cX7_joins 11 = .ok (.invokestatic 115, 3) := by decide +kernel
theorem dX7_joins_14 : decode cX7_joins 14 = .ok (.invokevirtual 176, 3) := by decide +kernel
theorem dX7_joins_17 : decode cX7_joins 17 = .ok (.istore_n 3, 1) := by decide +kernel
theorem dX7_joins_18 : decode cX7_joins 18 = .ok (.iload_n 2, 1) := by decide +kernel
theorem dX7_joins_19 : decode cX7_joins 19 = .ok (.iload_n 3, 1) := by decide +kernel
theorem dX7_joins_20 : decode cX7_joins 20 = .ok (.if_icmp .ne 5, 3) := by decide +kernel
theorem dX7_joins_23 : decode cX7_joins 23 = .ok (.iconst 0, 1) := by decide +kernel
theorem dX7_joins_24 : decode cX7_joins 24 = .ok (.ireturn, 1) := by decide +kernel
theorem dX7_joins_25 : decode cX7_joins 25 = .ok (.aload_n 0, 1) := by decide +kernel
theorem dX7_joins_26 : decode cX7_joins 26 = .ok (.getfield 25, 3) := by decide +kernel
theorem dX7_joins_29 : decode cX7_joins 29 = .ok (.iload_n 3, 1) := by decide +kernel
theorem dX7_joins_30 : decode cX7_joins 30 = .ok (.iaload, 1) := by decide +kernel
theorem dX7_joins_31 : decode cX7_joins 31 = .ok (.aload_n 0, 1) := by decide +kernel
theorem dX7_joins_32 : decode cX7_joins 32 = .ok (.getfield 25, 3) := by decide +kernel
theorem dX7_joins_35 : decode cX7_joins 35 = .ok (.iload_n 2, 1) := by decide +kernel
theorem dX7_joins_36 : decode cX7_joins 36 = .ok (.iaload, 1) := by decide +kernel
theorem dX7_joins_37 : decode cX7_joins 37 = .ok (.if_icmp .lt 23, 3) := by decide +kernel
theorem dX7_joins_40 : decode cX7_joins 40 = .ok (.aload_n 0, 1) := by decide +kernel
theorem dX7_joins_41 : decode cX7_joins 41 = .ok (.getfield 25, 3) := by decide +kernel
theorem dX7_joins_44 : decode cX7_joins 44 = .ok (.iload_n 2, 1) := by decide +kernel
theorem dX7_joins_45 : decode cX7_joins 45 = .ok (.iaload, 1) := by decide +kernel
theorem dX7_joins_46 : decode cX7_joins 46 = .ok (.aload_n 0, 1) := by decide +kernel
theorem dX7_joins_47 : decode cX7_joins 47 = .ok (.getfield 25, 3) := by decide +kernel
theorem dX7_joins_50 : decode cX7_joins 50 = .ok (.iload_n 3, 1) := by decide +kernel
theorem dX7_joins_51 : decode cX7_joins 51 = .ok (.iaload, 1) := by decide +kernel
theorem dX7_joins_52 : decode cX7_joins 52 = .ok (.if_icmp .ne 12, 3) := by decide +kernel
theorem dX7_joins_55 : decode cX7_joins 55 = .ok (.iload_n 3, 1) := by decide +kernel
theorem dX7_joins_56 : decode cX7_joins 56 = .ok (.iload_n 2, 1) := by decide +kernel
theorem dX7_joins_57 : decode cX7_joins 57 = .ok (.if_icmp .le 7, 3) := by decide +kernel
theorem dX7_joins_60 : decode cX7_joins 60 = .ok (.iconst 1, 1) := by decide +kernel
theorem dX7_joins_61 : decode cX7_joins 61 = .ok (.goto 4, 3) := by decide +kernel
theorem dX7_joins_64 : decode cX7_joins 64 = .ok (.iconst 0, 1) := by decide +kernel
theorem dX7_joins_65 : decode cX7_joins 65 = .ok (.istore 4, 2) := by decide +kernel
theorem dX7_joins_67 : decode cX7_joins 67 = .ok (.iload 4, 2) := by decide +kernel
theorem dX7_joins_69 : decode cX7_joins 69 = .ok (.ifCond .eq 7, 3) := by decide +kernel
theorem dX7_joins_72 : decode cX7_joins 72 = .ok (.iload_n 3, 1) := by decide +kernel
theorem dX7_joins_73 : decode cX7_joins 73 = .ok (.goto 4, 3) := by decide +kernel
theorem dX7_joins_76 : decode cX7_joins 76 = .ok (.iload_n 2, 1) := by decide +kernel
theorem dX7_joins_77 : decode cX7_joins 77 = .ok (.istore 5, 2) := by decide +kernel
theorem dX7_joins_79 : decode cX7_joins 79 = .ok (.iload 4, 2) := by decide +kernel
theorem dX7_joins_81 : decode cX7_joins 81 = .ok (.ifCond .eq 7, 3) := by decide +kernel
theorem dX7_joins_84 : decode cX7_joins 84 = .ok (.iload_n 2, 1) := by decide +kernel
theorem dX7_joins_85 : decode cX7_joins 85 = .ok (.goto 4, 3) := by decide +kernel
theorem dX7_joins_88 : decode cX7_joins 88 = .ok (.iload_n 3, 1) := by decide +kernel
theorem dX7_joins_89 : decode cX7_joins 89 = .ok (.istore 6, 2) := by decide +kernel
theorem dX7_joins_91 : decode cX7_joins 91 = .ok (.aload_n 0, 1) := by decide +kernel
theorem dX7_joins_92 : decode cX7_joins 92 = .ok (.getfield 22, 3) := by decide +kernel
theorem dX7_joins_95 : decode cX7_joins 95 = .ok (.iload 5, 2) := by decide +kernel
theorem dX7_joins_97 : decode cX7_joins 97 = .ok (.iload 6, 2) := by decide +kernel
theorem dX7_joins_99 : decode cX7_joins 99 = .ok (.iastore, 1) := by decide +kernel
theorem dX7_joins_100 : decode cX7_joins 100 = .ok (.aload_n 0, 1) := by decide +kernel
theorem dX7_joins_101 : decode cX7_joins 101 = .ok (.getfield 25, 3) := by decide +kernel
theorem dX7_joins_104 : decode cX7_joins 104 = .ok (.iload 6, 2) := by decide +kernel
theorem dX7_joins_106 : decode cX7_joins 106 = .ok (.dup2, 1) := by decide +kernel
theorem dX7_joins_107 : decode cX7_joins 107 = .ok (.iaload, 1) := by decide +kernel
theorem dX7_joins_108 : decode cX7_joins 108 = .ok (.aload_n 0, 1) := by decide +kernel
theorem dX7_joins_109 : decode cX7_joins 109 = .ok (.getfield 25, 3) := by decide +kernel
theorem dX7_joins_112 : decode cX7_joins 112 = .ok (.iload 5, 2) := by decide +kernel
theorem dX7_joins_114 : decode cX7_joins 114 = .ok (.iaload, 1) := by decide +kernel
theorem dX7_joins_115 : decode cX7_joins 115 = .ok (.iadd, 1) := by decide +kernel
theorem dX7_joins_116 : decode cX7_joins 116 = .ok (.iastore, 1) := by decide +kernel
theorem dX7_joins_117 : decode cX7_joins 117 = .ok (.iconst 1, 1) := by decide +kernel
theorem dX7_joins_118 : decode cX7_joins 118 = .ok (.ireturn, 1) := by decide +kernel
theorem dX7_walkTo_0 : decode cX7_walkTo 0 = .ok (.aload_n 0, 1) := by decide +kernel
theorem dX7_walkTo_1 : decode cX7_walkTo 1 = .ok (.invokevirtual 179, 3) := by decide +kernel
theorem dX7_walkTo_4 : decode cX7_walkTo 4 = .ok (.iconst 0, 1) := by decide +kernel
theorem dX7_walkTo_5 : decode cX7_walkTo 5 = .ok (.istore_n 2, 1) := by decide +kernel
theorem dX7_walkTo_6 : decode cX7_walkTo 6 = .ok (.iload_n 1, 1) := by decide +kernel
theorem dX7_walkTo_7 : decode cX7_walkTo 7 = .ok (.invokestatic 129, 3) := by decide +kernel
theorem dX7_walkTo_10 : decode cX7_walkTo 10 = .ok (.istore_n 3, 1) := by decide +kernel
theorem dX7_walkTo_11 : decode cX7_walkTo 11 = .ok (.iload_n 3, 1) := by decide +kernel
theorem dX7_walkTo_12 : decode cX7_walkTo 12 = .ok (.ifCond .lt 72, 3) := by decide +kernel
theorem dX7_walkTo_15 : decode cX7_walkTo 15 = .ok (.iload_n 1, 1) := by decide +kernel
theorem dX7_walkTo_16 : decode cX7_walkTo 16 = .ok (.iload_n 3, 1) := by decide +kernel
theorem dX7_walkTo_17 : decode cX7_walkTo 17 = .ok (.ishr, 1) := by decide +kernel
theorem dX7_walkTo_18 : decode cX7_walkTo 18 = .ok (.istore 4, 2) := by decide +kernel
theorem dX7_walkTo_20 : decode cX7_walkTo 20 = .ok (.iconst 0, 1) := by decide +kernel
theorem dX7_walkTo_21 : decode cX7_walkTo 21 = .ok (.istore_n 2, 1) := by decide +kernel
theorem dX7_walkTo_22 : decode cX7_walkTo 22 = .ok (.iconst 0, 1) := by decide +kernel
theorem dX7_walkTo_23 : decode cX7_walkTo 23 = .ok (.istore 5, 2) := by decide +kernel
theorem dX7_walkTo_25 : decode cX7_walkTo 25 = .ok (.iload 5, 2) := by decide +kernel
theorem dX7_walkTo_27 : decode cX7_walkTo 27 = .ok (.aload_n 0, 1) := by decide +kernel
theorem dX7_walkTo_28 : decode cX7_walkTo 28 = .ok (.iconst 0, 1) := by decide +kernel
theorem dX7_walkTo_29 : decode cX7_walkTo 29 = .ok (.invokevirtual 105, 3) := by decide +kernel
theorem dX7_walkTo_32 : decode cX7_walkTo 32 = .ok (.if_icmp .ge 46, 3) := by decide +kernel
theorem dX7_walkTo_35 : decode cX7_walkTo 35 = .ok (.iload_n 2, 1) := by decide +kernel
theorem dX7_walkTo_36 : decode cX7_walkTo 36 = .ok (.aload_n 0, 1) := by decide +kernel
theorem dX7_walkTo_37 : decode cX7_walkTo 37 = .ok (.iconst 0, 1) := by decide +kernel
theorem dX7_walkTo_38 : decode cX7_walkTo 38 = .ok (.iload 5, 2) := by decide +kernel
theorem dX7_walkTo_40 : decode cX7_walkTo 40 = .ok (.invokevirtual 108, 3) := by decide +kernel
theorem dX7_walkTo_43 : decode cX7_walkTo 43 = .ok (.iload 4, 2) := by decide +kernel
theorem dX7_walkTo_45 : decode cX7_walkTo 45 = .ok (.invokestatic 142, 3) := by decide +kernel
theorem dX7_walkTo_48 : decode cX7_walkTo 48 = .ok (.ifCond .eq 21, 3) := by decide +kernel
theorem dX7_walkTo_51 : decode cX7_walkTo 51 = .ok (.aload_n 0, 1) := by decide +kernel
theorem dX7_walkTo_52 : decode cX7_walkTo 52 = .ok (.aload_n 0, 1) := by decide +kernel
theorem dX7_walkTo_53 : decode cX7_walkTo 53 = .ok (.iconst 0, 1) := by decide +kernel
theorem dX7_walkTo_54 : decode cX7_walkTo 54 = .ok (.iload 5, 2) := by decide +kernel
theorem dX7_walkTo_56 : decode cX7_walkTo 56 = .ok (.invokevirtual 108, 3) := by decide +kernel
theorem dX7_walkTo_59 : decode cX7_walkTo 59 = .ok (.invokevirtual 182, 3) := by decide +kernel
theorem dX7_walkTo_62 : decode cX7_walkTo 62 = .ok (.ifCond .eq 7, 3) := by decide +kernel
theorem dX7_walkTo_65 : decode cX7_walkTo 65 = .ok (.iconst 1, 1) := by decide +kernel
theorem dX7_walkTo_66 : decode cX7_walkTo 66 = .ok (.goto 4, 3) := by decide +kernel
theorem dX7_walkTo_69 : decode cX7_walkTo 69 = .ok (.iconst 0, 1) := by decide +kernel
theorem dX7_walkTo_70 : decode cX7_walkTo 70 = .ok (.iadd, 1) := by decide +kernel
theorem dX7_walkTo_71 : decode cX7_walkTo 71 = .ok (.istore_n 2, 1) := by decide +kernel
theorem dX7_walkTo_72 : decode cX7_walkTo 72 = .ok (.iinc 5 1, 3) := by decide +kernel
theorem dX7_walkTo_75 : decode cX7_walkTo 75 = .ok (.goto (-50), 3) := by decide +kernel
theorem dX7_walkTo_78 : decode cX7_walkTo 78 = .ok (.iinc 3 (-1), 3) := by decide +kernel
theorem dX7_walkTo_81 : decode cX7_walkTo 81 = .ok (.goto (-70), 3) := by decide +kernel
theorem dX7_walkTo_84 : decode cX7_walkTo 84 = .ok (.iload_n 2, 1) := by decide +kernel
theorem dX7_walkTo_85 : decode cX7_walkTo 85 = .ok (.ireturn, 1) := by decide +kernel
theorem dX7_partsBy_0 : decode cX7_partsBy 0 = .ok (.aload_n 0, 1) := by decide +kernel
theorem dX7_partsBy_1 : decode cX7_partsBy 1 = .ok (.invokevirtual 179, 3) := by decide +kernel
theorem dX7_partsBy_4 : decode cX7_partsBy 4 = .ok (.bipush 8, 2) := by decide +kernel
theorem dX7_partsBy_6 : decode cX7_partsBy 6 = .ok (.istore 4, 2) := by decide +kernel
theorem dX7_partsBy_8 : decode cX7_partsBy 8 = .ok (.iconst 0, 1) := by decide +kernel
theorem dX7_partsBy_9 : decode cX7_partsBy 9 = .ok (.istore 5, 2) := by decide +kernel
theorem dX7_partsBy_11 : decode cX7_partsBy 11 = .ok (.iload 5, 2) := by decide +kernel
theorem dX7_partsBy_13 : decode cX7_partsBy 13 = .ok (.aload_n 0, 1) := by decide +kernel
theorem dX7_partsBy_14 : decode cX7_partsBy 14 = .ok (.iload_n 1, 1) := by decide +kernel
theorem dX7_partsBy_15 : decode cX7_partsBy 15 = .ok (.invokevirtual 105, 3) := by decide +kernel
theorem dX7_partsBy_18 : decode cX7_partsBy 18 = .ok (.if_icmp .ge 56, 3) := by decide +kernel
theorem dX7_partsBy_21 : decode cX7_partsBy 21 = .ok (.iload 4, 2) := by decide +kernel
theorem dX7_partsBy_23 : decode cX7_partsBy 23 = .ok (.iload_n 3, 1) := by decide +kernel
theorem dX7_partsBy_24 : decode cX7_partsBy 24 = .ok (.iload 5, 2) := by decide +kernel
theorem dX7_partsBy_26 : decode cX7_partsBy 26 = .ok (.invokestatic 185, 3) := by decide +kernel
theorem dX7_partsBy_29 : decode cX7_partsBy 29 = .ok (.ifCond .eq 35, 3) := by decide +kernel
theorem dX7_partsBy_32 : decode cX7_partsBy 32 = .ok (.aload_n 0, 1) := by decide +kernel
theorem dX7_partsBy_33 : decode cX7_partsBy 33 = .ok (.iload_n 1, 1) := by decide +kernel
theorem dX7_partsBy_34 : decode cX7_partsBy 34 = .ok (.iload 5, 2) := by decide +kernel
theorem dX7_partsBy_36 : decode cX7_partsBy 36 = .ok (.invokevirtual 108, 3) := by decide +kernel
theorem dX7_partsBy_39 : decode cX7_partsBy 39 = .ok (.iload_n 2, 1) := by decide +kernel
theorem dX7_partsBy_40 : decode cX7_partsBy 40 = .ok (.invokestatic 188, 3) := by decide +kernel
theorem dX7_partsBy_43 : decode cX7_partsBy 43 = .ok (.ifCond .eq 21, 3) := by decide +kernel
theorem dX7_partsBy_46 : decode cX7_partsBy 46 = .ok (.aload_n 0, 1) := by decide +kernel
theorem dX7_partsBy_47 : decode cX7_partsBy 47 = .ok (.aload_n 0, 1) := by decide +kernel
theorem dX7_partsBy_48 : decode cX7_partsBy 48 = .ok (.iload_n 1, 1) := by decide +kernel
theorem dX7_partsBy_49 : decode cX7_partsBy 49 = .ok (.iload 5, 2) := by decide +kernel
theorem dX7_partsBy_51 : decode cX7_partsBy 51 = .ok (.invokevirtual 108, 3) := by decide +kernel
theorem dX7_partsBy_54 : decode cX7_partsBy 54 = .ok (.invokevirtual 182, 3) := by decide +kernel
theorem dX7_partsBy_57 : decode cX7_partsBy 57 = .ok (.ifCond .eq 7, 3) := by decide +kernel
theorem dX7_partsBy_60 : decode cX7_partsBy 60 = .ok (.iconst 1, 1) := by decide +kernel
theorem dX7_partsBy_61 : decode cX7_partsBy 61 = .ok (.goto 4, 3) := by decide +kernel
theorem dX7_partsBy_64 : decode cX7_partsBy 64 = .ok (.iconst 0, 1) := by decide +kernel
theorem dX7_partsBy_65 : decode cX7_partsBy 65 = .ok (.isub, 1) := by decide +kernel
theorem dX7_partsBy_66 : decode cX7_partsBy 66 = .ok (.istore 4, 2) := by decide +kernel
theorem dX7_partsBy_68 : decode cX7_partsBy 68 = .ok (.iinc 5 1, 3) := by decide +kernel
theorem dX7_partsBy_71 : decode cX7_partsBy 71 = .ok (.goto (-60), 3) := by decide +kernel
theorem dX7_partsBy_74 : decode cX7_partsBy 74 = .ok (.iload 4, 2) := by decide +kernel
theorem dX7_partsBy_76 : decode cX7_partsBy 76 = .ok (.ireturn, 1) := by decide +kernel
theorem dX7_livingAt_0 : decode cX7_livingAt 0 = .ok (.iconst 0, 1) := by decide +kernel
theorem dX7_livingAt_1 : decode cX7_livingAt 1 = .ok (.istore_n 2, 1) := by decide +kernel
theorem dX7_livingAt_2 : decode cX7_livingAt 2 = .ok (.iconst 0, 1) := by decide +kernel
theorem dX7_livingAt_3 : decode cX7_livingAt 3 = .ok (.istore_n 3, 1) := by decide +kernel
theorem dX7_livingAt_4 : decode cX7_livingAt 4 = .ok (.iload_n 3, 1) := by decide +kernel
theorem dX7_livingAt_5 : decode cX7_livingAt 5 = .ok (.aload_n 0, 1) := by decide +kernel
theorem dX7_livingAt_6 : decode cX7_livingAt 6 = .ok (.iconst 0, 1) := by decide +kernel
theorem dX7_livingAt_7 : decode cX7_livingAt 7 = .ok (.invokevirtual 105, 3) := by decide +kernel
theorem dX7_livingAt_10 : decode cX7_livingAt 10 = .ok (.if_icmp .ge 32, 3) := by decide +kernel
theorem dX7_livingAt_13 : decode cX7_livingAt 13 = .ok (.iload_n 2, 1) := by decide +kernel
theorem dX7_livingAt_14 : decode cX7_livingAt 14 = .ok (.aload_n 0, 1) := by decide +kernel
theorem dX7_livingAt_15 : decode cX7_livingAt 15 = .ok (.iconst 0, 1) := by decide +kernel
theorem dX7_livingAt_16 : decode cX7_livingAt 16 = .ok (.iload_n 3, 1) := by decide +kernel
theorem dX7_livingAt_17 : decode cX7_livingAt 17 = .ok (.invokevirtual 108, 3) := by decide +kernel
theorem dX7_livingAt_20 : decode cX7_livingAt 20 = .ok (.iload_n 1, 1) := by decide +kernel
theorem dX7_livingAt_21 : decode cX7_livingAt 21 = .ok (.invokestatic 188, 3) := by decide +kernel
theorem dX7_livingAt_24 : decode cX7_livingAt 24 = .ok (.ifCond .eq 9, 3) := by decide +kernel
theorem dX7_livingAt_27 : decode cX7_livingAt 27 = .ok (.iconst 1, 1) := by decide +kernel
theorem dX7_livingAt_28 : decode cX7_livingAt 28 = .ok (.iload_n 3, 1) := by decide +kernel
theorem dX7_livingAt_29 : decode cX7_livingAt 29 = .ok (.ishl, 1) := by decide +kernel
theorem dX7_livingAt_30 : decode cX7_livingAt 30 = .ok (.goto 4, 3) := by decide +kernel
theorem dX7_livingAt_33 : decode cX7_livingAt 33 = .ok (.iconst 0, 1) := by decide +kernel
theorem dX7_livingAt_34 : decode cX7_livingAt 34 = .ok (.ior, 1) := by decide +kernel
theorem dX7_livingAt_35 : decode cX7_livingAt 35 = .ok (.istore_n 2, 1) := by decide +kernel
theorem dX7_livingAt_36 : decode cX7_livingAt 36 = .ok (.iinc 3 1, 3) := by decide +kernel
theorem dX7_livingAt_39 : decode cX7_livingAt 39 = .ok (.goto (-35), 3) := by decide +kernel
theorem dX7_livingAt_42 : decode cX7_livingAt 42 = .ok (.iload_n 2, 1) := by decide +kernel
theorem dX7_livingAt_43 : decode cX7_livingAt 43 = .ok (.ireturn, 1) := by decide +kernel
theorem dX7_findSides_0 : decode cX7_findSides 0 = .ok (.aload_n 0, 1) := by decide +kernel
theorem dX7_findSides_1 : decode cX7_findSides 1 = .ok (.iconst 0, 1) := by decide +kernel
theorem dX7_findSides_2 : decode cX7_findSides 2 = .ok (.iload_n 1, 1) := by decide +kernel
theorem dX7_findSides_3 : decode cX7_findSides 3 = .ok (.ldc 191, 2) := by decide +kernel
theorem dX7_findSides_5 : decode cX7_findSides 5 = .ok (.invokevirtual 192, 3) := by decide +kernel
theorem dX7_findSides_8 : decode cX7_findSides 8 = .ok (.pop, 1) := by decide +kernel
theorem dX7_findSides_9 : decode cX7_findSides 9 = .ok (.iconst 0, 1) := by decide +kernel
theorem dX7_findSides_10 : decode cX7_findSides 10 = .ok (.istore_n 2, 1) := by decide +kernel
theorem dX7_findSides_11 : decode cX7_findSides 11 = .ok (.iload_n 2, 1) := by decide +kernel
theorem dX7_findSides_12 : decode cX7_findSides 12 = .ok (.bipush 8, 2) := by decide +kernel
theorem dX7_findSides_14 : decode cX7_findSides 14 = .ok (.if_icmp .ge 24, 3) := by decide +kernel
theorem dX7_findSides_17 : decode cX7_findSides 17 = .ok (.aload_n 0, 1) := by decide +kernel
theorem dX7_findSides_18 : decode cX7_findSides 18 = .ok (.getfield 28, 3) := by decide +kernel
theorem dX7_findSides_21 : decode cX7_findSides 21 = .ok (.iload_n 2, 1) := by decide +kernel
theorem dX7_findSides_22 : decode cX7_findSides 22 = .ok (.bipush (-9), 2) := by decide +kernel
theorem dX7_findSides_24 : decode cX7_findSides 24 = .ok (.iastore, 1) := by decide +kernel
theorem dX7_findSides_25 : decode cX7_findSides 25 = .ok (.aload_n 0, 1) := by decide +kernel
theorem dX7_findSides_26 : decode cX7_findSides 26 = .ok (.getfield 31, 3) := by decide +kernel
theorem dX7_findSides_29 : decode cX7_findSides 29 = .ok (.iload_n 2, 1) := by decide +kernel
theorem dX7_findSides_30 : decode cX7_findSides 30 = .ok (.iconst 0, 1) := by decide +kernel
theorem dX7_findSides_31 : decode cX7_findSides 31 = .ok (.iastore, 1) := by decide +kernel
theorem dX7_findSides_32 : decode cX7_findSides 32 = .ok (.iinc 2 1, 3) := by decide +kernel
theorem dX7_findSides_35 : decode cX7_findSides 35 = .ok (.goto (-24), 3) := by decide +kernel
theorem dX7_findSides_38 : decode cX7_findSides 38 = .ok (.iconst 0, 1) := by decide +kernel
theorem dX7_findSides_39 : decode cX7_findSides 39 = .ok (.istore_n 2, 1) := by decide +kernel
theorem dX7_findSides_40 : decode cX7_findSides 40 = .ok (.iload_n 2, 1) := by decide +kernel
theorem dX7_findSides_41 : decode cX7_findSides 41 = .ok (.bipush 8, 2) := by decide +kernel
theorem dX7_findSides_43 : decode cX7_findSides 43 = .ok (.if_icmp .ge 41, 3) := by decide +kernel
theorem dX7_findSides_46 : decode cX7_findSides 46 = .ok (.aload_n 0, 1) := by decide +kernel
theorem dX7_findSides_47 : decode cX7_findSides 47 = .ok (.getfield 28, 3) := by decide +kernel
theorem dX7_findSides_50 : decode cX7_findSides 50 = .ok (.iload_n 2, 1) := by decide +kernel
theorem dX7_findSides_51 : decode cX7_findSides 51 = .ok (.aload_n 0, 1) := by decide +kernel
theorem dX7_findSides_52 : decode cX7_findSides 52 = .ok (.getfield 28, 3) := by decide +kernel
theorem dX7_findSides_55 : decode cX7_findSides 55 = .ok (.iload_n 2, 1) := by decide +kernel
theorem dX7_findSides_56 : decode cX7_findSides 56 = .ok (.iaload, 1) := by decide +kernel
theorem dX7_findSides_57 : decode cX7_findSides 57 = .ok (.bipush (-9), 2) := by decide +kernel
theorem dX7_findSides_59 : decode cX7_findSides 59 = .ok (.if_icmp .ne 7, 3) := by decide +kernel
theorem dX7_findSides_62 : decode cX7_findSides 62 = .ok (.iconst 0, 1) := by decide +kernel
theorem dX7_findSides_63 : decode cX7_findSides 63 = .ok (.goto 9, 3) := by decide +kernel
theorem dX7_findSides_66 : decode cX7_findSides 66 = .ok (.aload_n 0, 1) := by decide +kernel
theorem dX7_findSides_67 : decode cX7_findSides 67 = .ok (.getfield 28, 3) := by decide +kernel
theorem dX7_findSides_70 : decode cX7_findSides 70 = .ok (.iload_n 2, 1) := by decide +kernel
theorem dX7_findSides_71 : decode cX7_findSides 71 = .ok (.iaload, 1) := by decide +kernel
theorem dX7_findSides_72 : decode cX7_findSides 72 = .ok (.iastore, 1) := by decide +kernel
theorem dX7_findSides_73 : decode cX7_findSides 73 = .ok (.aload_n 0, 1) := by decide +kernel
theorem dX7_findSides_74 : decode cX7_findSides 74 = .ok (.iload_n 1, 1) := by decide +kernel
theorem dX7_findSides_75 : decode cX7_findSides 75 = .ok (.invokevirtual 196, 3) := by decide +kernel
theorem dX7_findSides_78 : decode cX7_findSides 78 = .ok (.iinc 2 1, 3) := by decide +kernel
theorem dX7_findSides_81 : decode cX7_findSides 81 = .ok (.goto (-41), 3) := by decide +kernel
theorem dX7_findSides_84 : decode cX7_findSides 84 = .ok (.iconst 0, 1) := by decide +kernel
theorem dX7_findSides_85 : decode cX7_findSides 85 = .ok (.istore_n 2, 1) := by decide +kernel
theorem dX7_findSides_86 : decode cX7_findSides 86 = .ok (.iload_n 2, 1) := by decide +kernel
theorem dX7_findSides_87 : decode cX7_findSides 87 = .ok (.aload_n 0, 1) := by decide +kernel
theorem dX7_findSides_88 : decode cX7_findSides 88 = .ok (.iconst 0, 1) := by decide +kernel
theorem dX7_findSides_89 : decode cX7_findSides 89 = .ok (.invokevirtual 105, 3) := by decide +kernel
theorem dX7_findSides_92 : decode cX7_findSides 92 = .ok (.if_icmp .ge 59, 3) := by decide +kernel
theorem dX7_findSides_95 : decode cX7_findSides 95 = .ok (.aload_n 0, 1) := by decide +kernel
theorem dX7_findSides_96 : decode cX7_findSides 96 = .ok (.iconst 0, 1) := by decide +kernel
theorem dX7_findSides_97 : decode cX7_findSides 97 = .ok (.iload_n 2, 1) := by decide +kernel
theorem dX7_findSides_98 : decode cX7_findSides 98 = .ok (.invokevirtual 108, 3) := by decide +kernel
theorem dX7_findSides_101 : decode cX7_findSides 101 = .ok (.istore_n 3, 1) := by decide +kernel
theorem dX7_findSides_102 : decode cX7_findSides 102 = .ok (.iload_n 3, 1) := by decide +kernel
theorem dX7_findSides_103 : decode cX7_findSides 103 = .ok (.iload_n 1, 1) := by decide +kernel
theorem dX7_findSides_104 : decode cX7_findSides 104 = .ok (.invokestatic 188, 3) := by decide +kernel
theorem dX7_findSides_107 : decode cX7_findSides 107 = .ok (.ifCond .eq 38, 3) := by decide +kernel
theorem dX7_findSides_110 : decode cX7_findSides 110 = .ok (.aload_n 0, 1) := by decide +kernel
theorem dX7_findSides_111 : decode cX7_findSides 111 = .ok (.getfield 28, 3) := by decide +kernel
theorem dX7_findSides_114 : decode cX7_findSides 114 = .ok (.iload_n 3, 1) := by decide +kernel
theorem dX7_findSides_115 : decode cX7_findSides 115 = .ok (.invokestatic 112, 3) := by decide +kernel
theorem dX7_findSides_118 : decode cX7_findSides 118 = .ok (.iaload, 1) := by decide +kernel
theorem dX7_findSides_119 : decode cX7_findSides 119 = .ok (.aload_n 0, 1) := by decide +kernel
theorem dX7_findSides_120 : decode cX7_findSides 120 = .ok (.getfield 28, 3) := by decide +kernel
theorem dX7_findSides_123 : decode cX7_findSides 123 = .ok (.iload_n 3, 1) := by decide +kernel
theorem dX7_findSides_124 : decode cX7_findSides 124 = .ok (.invokestatic 115, 3) := by decide +kernel
theorem dX7_findSides_127 : decode cX7_findSides 127 = .ok (.iaload, 1) := by decide +kernel
theorem dX7_findSides_128 : decode cX7_findSides 128 = .ok (.if_icmp .ne 17, 3) := by decide +kernel
theorem dX7_findSides_131 : decode cX7_findSides 131 = .ok (.aload_n 0, 1) := by decide +kernel
theorem dX7_findSides_132 : decode cX7_findSides 132 = .ok (.getfield 31, 3) := by decide +kernel
theorem dX7_findSides_135 : decode cX7_findSides 135 = .ok (.aload_n 0, 1) := by decide +kernel
theorem dX7_findSides_136 : decode cX7_findSides 136 = .ok (.iload_n 3, 1) := by decide +kernel
theorem dX7_findSides_137 : decode cX7_findSides 137 = .ok (.invokestatic 112, 3) := by decide +kernel
theorem dX7_findSides_140 : decode cX7_findSides 140 = .ok (.invokevirtual 176, 3) := by decide +kernel
theorem dX7_findSides_143 : decode cX7_findSides 143 = .ok (.iconst 1, 1) := by decide +kernel
theorem dX7_findSides_144 : decode cX7_findSides 144 = .ok (.iastore, 1) := by decide +kernel
theorem dX7_findSides_145 : decode cX7_findSides 145 = .ok (.iinc 2 1, 3) := by decide +kernel
theorem dX7_findSides_148 : decode cX7_findSides 148 = .ok (.goto (-62), 3) := by decide +kernel
theorem dX7_findSides_151 : decode cX7_findSides 151 = .ok (.return_, 1) := by decide +kernel
theorem dX7_spreadSides_0 : decode cX7_spreadSides 0 = .ok (.iconst 0, 1) := by decide +kernel
theorem dX7_spreadSides_1 : decode cX7_spreadSides 1 = .ok (.istore_n 2, 1) := by decide +kernel
theorem dX7_spreadSides_2 : decode cX7_spreadSides 2 = .ok (.iload_n 2, 1) := by decide +kernel
theorem dX7_spreadSides_3 : decode cX7_spreadSides 3 = .ok (.bipush 8, 2) := by decide +kernel
theorem dX7_spreadSides_5 : decode cX7_spreadSides 5 = .ok (.if_icmp .ge 157, 3) := by decide +kernel
theorem dX7_spreadSides_8 : decode cX7_spreadSides 8 = .ok (.iconst 0, 1) := by decide +kernel
theorem dX7_spreadSides_9 : decode cX7_spreadSides 9 = .ok (.istore_n 3, 1) := by decide +kernel
theorem dX7_spreadSides_10 : decode cX7_spreadSides 10 = .ok (.iload_n 3, 1) := by decide +kernel
theorem dX7_spreadSides_11 : decode cX7_spreadSides 11 = .ok (.aload_n 0, 1) := by decide +kernel
theorem dX7_spreadSides_12 : decode cX7_spreadSides 12 = .ok (.iconst 0, 1) := by decide +kernel
theorem dX7_spreadSides_13 : decode cX7_spreadSides 13 = .ok (.invokevirtual 105, 3) := by decide +kernel
theorem dX7_spreadSides_16 : decode cX7_spreadSides 16 = .ok (.if_icmp .ge 140, 3) := by decide +kernel
theorem dX7_spreadSides_19 : decode cX7_spreadSides 19 = .ok (.aload_n 0, 1) := by decide +kernel
theorem dX7_spreadSides_20 : decode cX7_spreadSides 20 = .ok (.iconst 0, 1) := by decide +kernel
theorem dX7_spreadSides_21 : decode cX7_spreadSides 21 = .ok (.iload_n 3, 1) := by decide +kernel
theorem dX7_spreadSides_22 : decode cX7_spreadSides 22 = .ok (.invokevirtual 108, 3) := by decide +kernel
theorem dX7_spreadSides_25 : decode cX7_spreadSides 25 = .ok (.istore 4, 2) := by decide +kernel
theorem dX7_spreadSides_27 : decode cX7_spreadSides 27 = .ok (.iload 4, 2) := by decide +kernel
theorem dX7_spreadSides_29 : decode cX7_spreadSides 29 = .ok (.iload_n 1, 1) := by decide +kernel
theorem dX7_spreadSides_30 : decode cX7_spreadSides 30 = .ok (.invokestatic 188, 3) := by decide +kernel
theorem dX7_spreadSides_33 : decode cX7_spreadSides 33 = .ok (.ifCond .eq 117, 3) := by decide +kernel
theorem dX7_spreadSides_36 : decode cX7_spreadSides 36 = .ok (.iload 4, 2) := by decide +kernel
theorem dX7_spreadSides_38 : decode cX7_spreadSides 38 = .ok (.invokestatic 112, 3) := by decide +kernel
theorem dX7_spreadSides_41 : decode cX7_spreadSides 41 = .ok (.istore 5, 2) := by decide +kernel
theorem dX7_spreadSides_43 : decode cX7_spreadSides 43 = .ok (.iload 4, 2) := by decide +kernel
theorem dX7_spreadSides_45 : decode cX7_spreadSides 45 = .ok (.invokestatic 115, 3) := by decide +kernel
theorem dX7_spreadSides_48 : decode cX7_spreadSides 48 = .ok (.istore 6, 2) := by decide +kernel
theorem dX7_spreadSides_50 : decode cX7_spreadSides 50 = .ok (.aload_n 0, 1) := by decide +kernel
theorem dX7_spreadSides_51 : decode cX7_spreadSides 51 = .ok (.getfield 28, 3) := by decide +kernel
theorem dX7_spreadSides_54 : decode cX7_spreadSides 54 = .ok (.iload 6, 2) := by decide +kernel
theorem dX7_spreadSides_56 : decode cX7_spreadSides 56 = .ok (.aload_n 0, 1) := by decide +kernel
theorem dX7_spreadSides_57 : decode cX7_spreadSides 57 = .ok (.getfield 28, 3) := by decide +kernel
theorem dX7_spreadSides_60 : decode cX7_spreadSides 60 = .ok (.iload 5, 2) := by decide +kernel
theorem dX7_spreadSides_62 : decode cX7_spreadSides 62 = .ok (.iaload, 1) := by decide +kernel
theorem dX7_spreadSides_63 : decode cX7_spreadSides 63 = .ok (.bipush (-9), 2) := by decide +kernel
theorem dX7_spreadSides_65 : decode cX7_spreadSides 65 = .ok (.if_icmp .eq 27, 3) := by decide +kernel
theorem dX7_spreadSides_68 : decode cX7_spreadSides 68 = .ok (.aload_n 0, 1) := by decide +kernel
theorem dX7_spreadSides_69 : decode cX7_spreadSides 69 = .ok (.getfield 28, 3) := by decide +kernel
theorem dX7_spreadSides_72 : decode cX7_spreadSides 72 = .ok (.iload 6, 2) := by decide +kernel
theorem dX7_spreadSides_74 : decode cX7_spreadSides 74 = .ok (.iaload, 1) := by decide +kernel
theorem dX7_spreadSides_75 : decode cX7_spreadSides 75 = .ok (.bipush (-9), 2) := by decide +kernel
theorem dX7_spreadSides_77 : decode cX7_spreadSides 77 = .ok (.if_icmp .ne 15, 3) := by decide +kernel
theorem dX7_spreadSides_80 : decode cX7_spreadSides 80 = .ok (.iconst 1, 1) := by decide +kernel
theorem dX7_spreadSides_81 : decode cX7_spreadSides 81 = .ok (.aload_n 0, 1) := by decide +kernel
theorem dX7_spreadSides_82 : decode cX7_spreadSides 82 = .ok (.getfield 28, 3) := by decide +kernel
theorem dX7_spreadSides_85 : decode cX7_spreadSides 85 = .ok (.iload 5, 2) := by decide +kernel
theorem dX7_spreadSides_87 : decode cX7_spreadSides 87 = .ok (.iaload, 1) := by decide +kernel
theorem dX7_spreadSides_88 : decode cX7_spreadSides 88 = .ok (.isub, 1) := by decide +kernel
theorem dX7_spreadSides_89 : decode cX7_spreadSides 89 = .ok (.goto 10, 3) := by decide +kernel
theorem dX7_spreadSides_92 : decode cX7_spreadSides 92 = .ok (.aload_n 0, 1) := by decide +kernel
theorem dX7_spreadSides_93 : decode cX7_spreadSides 93 = .ok (.getfield 28, 3) := by decide +kernel
theorem dX7_spreadSides_96 : decode cX7_spreadSides 96 = .ok (.iload 6, 2) := by decide +kernel
theorem dX7_spreadSides_98 : decode cX7_spreadSides 98 = .ok (.iaload, 1) := by decide +kernel
theorem dX7_spreadSides_99 : decode cX7_spreadSides 99 = .ok (.iastore, 1) := by decide +kernel
theorem dX7_spreadSides_100 : decode cX7_spreadSides 100 = .ok (.aload_n 0, 1) := by decide +kernel
theorem dX7_spreadSides_101 : decode cX7_spreadSides 101 = .ok (.getfield 28, 3) := by decide +kernel
theorem dX7_spreadSides_104 : decode cX7_spreadSides 104 = .ok (.iload 5, 2) := by decide +kernel
theorem dX7_spreadSides_106 : decode cX7_spreadSides 106 = .ok (.aload_n 0, 1) := by decide +kernel
theorem dX7_spreadSides_107 : decode cX7_spreadSides 107 = .ok (.getfield 28, 3) := by decide +kernel
theorem dX7_spreadSides_110 : decode cX7_spreadSides 110 = .ok (.iload 6, 2) := by decide +kernel
theorem dX7_spreadSides_112 : decode cX7_spreadSides 112 = .ok (.iaload, 1) := by decide +kernel
theorem dX7_spreadSides_113 : decode cX7_spreadSides 113 = .ok (.bipush (-9), 2) := by decide +kernel
theorem dX7_spreadSides_115 : decode cX7_spreadSides 115 = .ok (.if_icmp .eq 27, 3) := by decide +kernel
theorem dX7_spreadSides_118 : decode cX7_spreadSides 118 = .ok (.aload_n 0, 1) := by decide +kernel
theorem dX7_spreadSides_119 : decode cX7_spreadSides 119 = .ok (.getfield 28, 3) := by decide +kernel
theorem dX7_spreadSides_122 : decode cX7_spreadSides 122 = .ok (.iload 5, 2) := by decide +kernel
theorem dX7_spreadSides_124 : decode cX7_spreadSides 124 = .ok (.iaload, 1) := by decide +kernel
theorem dX7_spreadSides_125 : decode cX7_spreadSides 125 = .ok (.bipush (-9), 2) := by decide +kernel
theorem dX7_spreadSides_127 : decode cX7_spreadSides 127 = .ok (.if_icmp .ne 15, 3) := by decide +kernel
theorem dX7_spreadSides_130 : decode cX7_spreadSides 130 = .ok (.iconst 1, 1) := by decide +kernel
theorem dX7_spreadSides_131 : decode cX7_spreadSides 131 = .ok (.aload_n 0, 1) := by decide +kernel
theorem dX7_spreadSides_132 : decode cX7_spreadSides 132 = .ok (.getfield 28, 3) := by decide +kernel
theorem dX7_spreadSides_135 : decode cX7_spreadSides 135 = .ok (.iload 6, 2) := by decide +kernel
theorem dX7_spreadSides_137 : decode cX7_spreadSides 137 = .ok (.iaload, 1) := by decide +kernel
theorem dX7_spreadSides_138 : decode cX7_spreadSides 138 = .ok (.isub, 1) := by decide +kernel
theorem dX7_spreadSides_139 : decode cX7_spreadSides 139 = .ok (.goto 10, 3) := by decide +kernel
theorem dX7_spreadSides_142 : decode cX7_spreadSides 142 = .ok (.aload_n 0, 1) := by decide +kernel
theorem dX7_spreadSides_143 : decode cX7_spreadSides 143 = .ok (.getfield 28, 3) := by decide +kernel
theorem dX7_spreadSides_146 : decode cX7_spreadSides 146 = .ok (.iload 5, 2) := by decide +kernel
theorem dX7_spreadSides_148 : decode cX7_spreadSides 148 = .ok (.iaload, 1) := by decide +kernel
theorem dX7_spreadSides_149 : decode cX7_spreadSides 149 = .ok (.iastore, 1) := by decide +kernel
theorem dX7_spreadSides_150 : decode cX7_spreadSides 150 = .ok (.iinc 3 1, 3) := by decide +kernel
theorem dX7_spreadSides_153 : decode cX7_spreadSides 153 = .ok (.goto (-143), 3) := by decide +kernel
theorem dX7_spreadSides_156 : decode cX7_spreadSides 156 = .ok (.iinc 2 1, 3) := by decide +kernel
theorem dX7_spreadSides_159 : decode cX7_spreadSides 159 = .ok (.goto (-157), 3) := by decide +kernel
theorem dX7_spreadSides_162 : decode cX7_spreadSides 162 = .ok (.return_, 1) := by decide +kernel
theorem dX7_oddParts_0 : decode cX7_oddParts 0 = .ok (.aload_n 0, 1) := by decide +kernel
theorem dX7_oddParts_1 : decode cX7_oddParts 1 = .ok (.iload_n 1, 1) := by decide +kernel
theorem dX7_oddParts_2 : decode cX7_oddParts 2 = .ok (.invokevirtual 200, 3) := by decide +kernel
theorem dX7_oddParts_5 : decode cX7_oddParts 5 = .ok (.iconst 0, 1) := by decide +kernel
theorem dX7_oddParts_6 : decode cX7_oddParts 6 = .ok (.istore_n 2, 1) := by decide +kernel
theorem dX7_oddParts_7 : decode cX7_oddParts 7 = .ok (.iconst 0, 1) := by decide +kernel
theorem dX7_oddParts_8 : decode cX7_oddParts 8 = .ok (.istore_n 3, 1) := by decide +kernel
theorem dX7_oddParts_9 : decode cX7_oddParts 9 = .ok (.iload_n 3, 1) := by decide +kernel
theorem dX7_oddParts_10 : decode cX7_oddParts 10 = .ok (.bipush 8, 2) := by decide +kernel
theorem dX7_oddParts_12 : decode cX7_oddParts 12 = .ok (.if_icmp .ge 18, 3) := by decide +kernel
theorem dX7_oddParts_15 : decode cX7_oddParts 15 = .ok (.iload_n 2, 1) := by decide +kernel
theorem dX7_oddParts_16 : decode cX7_oddParts 16 = .ok (.aload_n 0, 1) := by decide +kernel
theorem dX7_oddParts_17 : decode cX7_oddParts 17 = .ok (.getfield 31, 3) := by decide +kernel
theorem dX7_oddParts_20 : decode cX7_oddParts 20 = .ok (.iload_n 3, 1) := by decide +kernel
theorem dX7_oddParts_21 : decode cX7_oddParts 21 = .ok (.iaload, 1) := by decide +kernel
theorem dX7_oddParts_22 : decode cX7_oddParts 22 = .ok (.iadd, 1) := by decide +kernel
theorem dX7_oddParts_23 : decode cX7_oddParts 23 = .ok (.istore_n 2, 1) := by decide +kernel
theorem dX7_oddParts_24 : decode cX7_oddParts 24 = .ok (.iinc 3 1, 3) := by decide +kernel
theorem dX7_oddParts_27 : decode cX7_oddParts 27 = .ok (.goto (-18), 3) := by decide +kernel
theorem dX7_oddParts_30 : decode cX7_oddParts 30 = .ok (.iload_n 2, 1) := by decide +kernel
theorem dX7_oddParts_31 : decode cX7_oddParts 31 = .ok (.ireturn, 1) := by decide +kernel
theorem dX7_greatestDepth_0 : decode cX7_greatestDepth 0 = .ok (.aload_n 0, 1) := by decide +kernel
theorem dX7_greatestDepth_1 : decode cX7_greatestDepth 1 = .ok (.bipush 16, 2) := by decide +kernel
theorem dX7_greatestDepth_3 : decode cX7_greatestDepth 3 = .ok (.iload_n 1, 1) := by decide +kernel
theorem dX7_greatestDepth_4 : decode cX7_greatestDepth 4 = .ok (.iadd, 1) := by decide +kernel
theorem dX7_greatestDepth_5 : decode cX7_greatestDepth 5 = .ok (.invokevirtual 203, 3) := by decide +kernel
theorem dX7_greatestDepth_8 : decode cX7_greatestDepth 8 = .ok (.pop, 1) := by decide +kernel
theorem dX7_greatestDepth_9 : decode cX7_greatestDepth 9 = .ok (.iconst 0, 1) := by decide +kernel
theorem dX7_greatestDepth_10 : decode cX7_greatestDepth 10 = .ok (.istore_n 2, 1) := by decide +kernel
theorem dX7_greatestDepth_11 : decode cX7_greatestDepth 11 = .ok (.iconst 0, 1) := by decide +kernel
theorem dX7_greatestDepth_12 : decode cX7_greatestDepth 12 = .ok (.istore_n 3, 1) := by decide +kernel
theorem dX7_greatestDepth_13 : decode cX7_greatestDepth 13 = .ok (.iload_n 3, 1) := by decide +kernel
theorem dX7_greatestDepth_14 : decode cX7_greatestDepth 14 = .ok (.bipush 8, 2) := by decide +kernel
theorem dX7_greatestDepth_16 : decode cX7_greatestDepth 16 = .ok (.if_icmp .ge 28, 3) := by decide +kernel
theorem dX7_greatestDepth_19 : decode cX7_greatestDepth 19 = .ok (.aload_n 0, 1) := by decide +kernel
theorem dX7_greatestDepth_20 : decode cX7_greatestDepth 20 = .ok (.iload_n 3, 1) := by decide +kernel
theorem dX7_greatestDepth_21 : decode cX7_greatestDepth 21 = .ok (.invokevirtual 206, 3) := by decide +kernel
theorem dX7_greatestDepth_24 : decode cX7_greatestDepth 24 = .ok (.iload_n 2, 1) := by decide +kernel
theorem dX7_greatestDepth_25 : decode cX7_greatestDepth 25 = .ok (.if_icmp .le 11, 3) := by decide +kernel
theorem dX7_greatestDepth_28 : decode cX7_greatestDepth 28 = .ok (.aload_n 0, 1) := by decide +kernel
theorem dX7_greatestDepth_29 : decode cX7_greatestDepth 29 = .ok (.iload_n 3, 1) := by decide +kernel
theorem dX7_greatestDepth_30 : decode cX7_greatestDepth 30 = .ok (.invokevirtual 206, 3) := by decide +kernel
theorem dX7_greatestDepth_33 : decode cX7_greatestDepth 33 = .ok (.goto 4, 3) := by decide +kernel
theorem dX7_greatestDepth_36 : decode cX7_greatestDepth 36 = .ok (.iload_n 2, 1) := by decide +kernel
theorem dX7_greatestDepth_37 : decode cX7_greatestDepth 37 = .ok (.istore_n 2, 1) := by decide +kernel
theorem dX7_greatestDepth_38 : decode cX7_greatestDepth 38 = .ok (.iinc 3 1, 3) := by decide +kernel
theorem dX7_greatestDepth_41 : decode cX7_greatestDepth 41 = .ok (.goto (-28), 3) := by decide +kernel
theorem dX7_greatestDepth_44 : decode cX7_greatestDepth 44 = .ok (.iload_n 2, 1) := by decide +kernel
theorem dX7_greatestDepth_45 : decode cX7_greatestDepth 45 = .ok (.ireturn, 1) := by decide +kernel
theorem dX7_greatestPart_0 : decode cX7_greatestPart 0 = .ok (.aload_n 0, 1) := by decide +kernel
theorem dX7_greatestPart_1 : decode cX7_greatestPart 1 = .ok (.bipush 16, 2) := by decide +kernel
theorem dX7_greatestPart_3 : decode cX7_greatestPart 3 = .ok (.iload_n 1, 1) := by decide +kernel
theorem dX7_greatestPart_4 : decode cX7_greatestPart 4 = .ok (.iadd, 1) := by decide +kernel
theorem dX7_greatestPart_5 : decode cX7_greatestPart 5 = .ok (.invokevirtual 203, 3) := by decide +kernel
theorem dX7_greatestPart_8 : decode cX7_greatestPart 8 = .ok (.pop, 1) := by decide +kernel
theorem dX7_greatestPart_9 : decode cX7_greatestPart 9 = .ok (.iconst 0, 1) := by decide +kernel
theorem dX7_greatestPart_10 : decode cX7_greatestPart 10 = .ok (.istore_n 2, 1) := by decide +kernel
theorem dX7_greatestPart_11 : decode cX7_greatestPart 11 = .ok (.iconst 0, 1) := by decide +kernel
theorem dX7_greatestPart_12 : decode cX7_greatestPart 12 = .ok (.istore_n 3, 1) := by decide +kernel
theorem dX7_greatestPart_13 : decode cX7_greatestPart 13 = .ok (.iload_n 3, 1) := by decide +kernel
theorem dX7_greatestPart_14 : decode cX7_greatestPart 14 = .ok (.bipush 8, 2) := by decide +kernel
theorem dX7_greatestPart_16 : decode cX7_greatestPart 16 = .ok (.if_icmp .ge 40, 3) := by decide +kernel
theorem dX7_greatestPart_19 : decode cX7_greatestPart 19 = .ok (.aload_n 0, 1) := by decide +kernel
theorem dX7_greatestPart_20 : decode cX7_greatestPart 20 = .ok (.getfield 22, 3) := by decide +kernel
theorem dX7_greatestPart_23 : decode cX7_greatestPart 23 = .ok (.iload_n 3, 1) := by decide +kernel
theorem dX7_greatestPart_24 : decode cX7_greatestPart 24 = .ok (.iaload, 1) := by decide +kernel
theorem dX7_greatestPart_25 : decode cX7_greatestPart 25 = .ok (.iload_n 3, 1) := by decide +kernel
theorem dX7_greatestPart_26 : decode cX7_greatestPart 26 = .ok (.if_icmp .ne 22, 3) := by decide +kernel
theorem dX7_greatestPart_29 : decode cX7_greatestPart 29 = .ok (.aload_n 0, 1) := by decide +kernel
theorem dX7_greatestPart_30 : decode cX7_greatestPart 30 = .ok (.getfield 25, 3) := by decide +kernel
theorem dX7_greatestPart_33 : decode cX7_greatestPart 33 = .ok (.iload_n 3, 1) := by decide +kernel
theorem dX7_greatestPart_34 : decode cX7_greatestPart 34 = .ok (.iaload, 1) := by decide +kernel
theorem dX7_greatestPart_35 : decode cX7_greatestPart 35 = .ok (.iload_n 2, 1) := by decide +kernel
theorem dX7_greatestPart_36 : decode cX7_greatestPart 36 = .ok (.if_icmp .le 12, 3) := by decide +kernel
theorem dX7_greatestPart_39 : decode cX7_greatestPart 39 = .ok (.aload_n 0, 1) := by decide +kernel
theorem dX7_greatestPart_40 : decode cX7_greatestPart 40 = .ok (.getfield 25, 3) := by decide +kernel
theorem dX7_greatestPart_43 : decode cX7_greatestPart 43 = .ok (.iload_n 3, 1) := by decide +kernel
theorem dX7_greatestPart_44 : decode cX7_greatestPart 44 = .ok (.iaload, 1) := by decide +kernel
theorem dX7_greatestPart_45 : decode cX7_greatestPart 45 = .ok (.goto 4, 3) := by decide +kernel
theorem dX7_greatestPart_48 : decode cX7_greatestPart 48 = .ok (.iload_n 2, 1) := by decide +kernel
theorem dX7_greatestPart_49 : decode cX7_greatestPart 49 = .ok (.istore_n 2, 1) := by decide +kernel
theorem dX7_greatestPart_50 : decode cX7_greatestPart 50 = .ok (.iinc 3 1, 3) := by decide +kernel
theorem dX7_greatestPart_53 : decode cX7_greatestPart 53 = .ok (.goto (-40), 3) := by decide +kernel
theorem dX7_greatestPart_56 : decode cX7_greatestPart 56 = .ok (.iload_n 2, 1) := by decide +kernel
theorem dX7_greatestPart_57 : decode cX7_greatestPart 57 = .ok (.ireturn, 1) := by decide +kernel
theorem dX7_at_0 : decode cX7_at 0 = .ok (.iload_n 1, 1) := by decide +kernel
theorem dX7_at_1 : decode cX7_at 1 = .ok (.invokestatic 122, 3) := by decide +kernel
theorem dX7_at_4 : decode cX7_at 4 = .ok (.ifCond .ne 5, 3) := by decide +kernel
theorem dX7_at_7 : decode cX7_at 7 = .ok (.iconst (-1), 1) := by decide +kernel
theorem dX7_at_8 : decode cX7_at 8 = .ok (.ireturn, 1) := by decide +kernel
theorem dX7_at_9 : decode cX7_at 9 = .ok (.iload_n 2, 1) := by decide +kernel
theorem dX7_at_10 : decode cX7_at 10 = .ok (.tableswitch 67 0 4 #[34, 43, 49, 55, 61], 34) := by decide +kernel
theorem dX7_at_44 : decode cX7_at 44 = .ok (.aload_n 0, 1) := by decide +kernel
theorem dX7_at_45 : decode cX7_at 45 = .ok (.iconst 0, 1) := by decide +kernel
theorem dX7_at_46 : decode cX7_at 46 = .ok (.iload_n 1, 1) := by decide +kernel
theorem dX7_at_47 : decode cX7_at 47 = .ok (.ldc 191, 2) := by decide +kernel
theorem dX7_at_49 : decode cX7_at 49 = .ok (.invokevirtual 192, 3) := by decide +kernel
theorem dX7_at_52 : decode cX7_at 52 = .ok (.ireturn, 1) := by decide +kernel
theorem dX7_at_53 : decode cX7_at 53 = .ok (.aload_n 0, 1) := by decide +kernel
theorem dX7_at_54 : decode cX7_at 54 = .ok (.iload_n 1, 1) := by decide +kernel
theorem dX7_at_55 : decode cX7_at 55 = .ok (.invokevirtual 209, 3) := by decide +kernel
theorem dX7_at_58 : decode cX7_at 58 = .ok (.ireturn, 1) := by decide +kernel
theorem dX7_at_59 : decode cX7_at 59 = .ok (.aload_n 0, 1) := by decide +kernel
theorem dX7_at_60 : decode cX7_at 60 = .ok (.iload_n 1, 1) := by decide +kernel
theorem dX7_at_61 : decode cX7_at 61 = .ok (.invokevirtual 212, 3) := by decide +kernel
theorem dX7_at_64 : decode cX7_at 64 = .ok (.ireturn, 1) := by decide +kernel
theorem dX7_at_65 : decode cX7_at 65 = .ok (.aload_n 0, 1) := by decide +kernel
theorem dX7_at_66 : decode cX7_at 66 = .ok (.iload_n 1, 1) := by decide +kernel
theorem dX7_at_67 : decode cX7_at 67 = .ok (.invokevirtual 215, 3) := by decide +kernel
theorem dX7_at_70 : decode cX7_at 70 = .ok (.ireturn, 1) := by decide +kernel
theorem dX7_at_71 : decode cX7_at 71 = .ok (.aload_n 0, 1) := by decide +kernel
theorem dX7_at_72 : decode cX7_at 72 = .ok (.iload_n 1, 1) := by decide +kernel
theorem dX7_at_73 : decode cX7_at 73 = .ok (.invokevirtual 218, 3) := by decide +kernel
theorem dX7_at_76 : decode cX7_at 76 = .ok (.ireturn, 1) := by decide +kernel
theorem dX7_at_77 : decode cX7_at 77 = .ok (.bipush (-2), 2) := by decide +kernel
theorem dX7_at_79 : decode cX7_at 79 = .ok (.ireturn, 1) := by decide +kernel
theorem dX7_knot_0 : decode cX7_knot 0 = .ok (.iload_n 1, 1) := by decide +kernel
theorem dX7_knot_1 : decode cX7_knot 1 = .ok (.invokestatic 118, 3) := by decide +kernel
theorem dX7_knot_4 : decode cX7_knot 4 = .ok (.ifCond .eq 10, 3) := by decide +kernel
theorem dX7_knot_7 : decode cX7_knot 7 = .ok (.iload_n 2, 1) := by decide +kernel
theorem dX7_knot_8 : decode cX7_knot 8 = .ok (.invokestatic 122, 3) := by decide +kernel
theorem dX7_knot_11 : decode cX7_knot 11 = .ok (.ifCond .ne 5, 3) := by decide +kernel
theorem dX7_knot_14 : decode cX7_knot 14 = .ok (.iconst (-1), 1) := by decide +kernel
theorem dX7_knot_15 : decode cX7_knot 15 = .ok (.ireturn, 1) := by decide +kernel
theorem dX7_knot_16 : decode cX7_knot 16 = .ok (.iload_n 3, 1) := by decide +kernel
theorem dX7_knot_17 : decode cX7_knot 17 = .ok (.i2l, 1) := by decide +kernel
theorem dX7_knot_18 : decode cX7_knot 18 = .ok (.lconst 0, 1) := by decide +kernel
theorem dX7_knot_19 : decode cX7_knot 19 = .ok (.ldc2_w 221, 3) := by decide +kernel
theorem dX7_knot_22 : decode cX7_knot 22 = .ok (.invokestatic 58, 3) := by decide +kernel
theorem dX7_knot_25 : decode cX7_knot 25 = .ok (.ifCond .ne 6, 3) := by decide +kernel
theorem dX7_knot_28 : decode cX7_knot 28 = .ok (.bipush (-2), 2) := by decide +kernel
theorem dX7_knot_30 : decode cX7_knot 30 = .ok (.ireturn, 1) := by decide +kernel
theorem dX7_knot_31 : decode cX7_knot 31 = .ok (.aload_n 0, 1) := by decide +kernel
theorem dX7_knot_32 : decode cX7_knot 32 = .ok (.bipush 16, 2) := by decide +kernel
theorem dX7_knot_34 : decode cX7_knot 34 = .ok (.iload_n 2, 1) := by decide +kernel
theorem dX7_knot_35 : decode cX7_knot 35 = .ok (.iadd, 1) := by decide +kernel
theorem dX7_knot_36 : decode cX7_knot 36 = .ok (.invokevirtual 203, 3) := by decide +kernel
theorem dX7_knot_39 : decode cX7_knot 39 = .ok (.pop, 1) := by decide +kernel
theorem dX7_knot_40 : decode cX7_knot 40 = .ok (.iload_n 3, 1) := by decide +kernel
theorem dX7_knot_41 : decode cX7_knot 41 = .ok (.ifCond .ne 11, 3) := by decide +kernel
theorem dX7_knot_44 : decode cX7_knot 44 = .ok (.aload_n 0, 1) := by decide +kernel
theorem dX7_knot_45 : decode cX7_knot 45 = .ok (.iload_n 1, 1) := by decide +kernel
theorem dX7_knot_46 : decode cX7_knot 46 = .ok (.invokevirtual 176, 3) := by decide +kernel
theorem dX7_knot_49 : decode cX7_knot 49 = .ok (.goto 26, 3) := by decide +kernel
theorem dX7_knot_52 : decode cX7_knot 52 = .ok (.iload_n 3, 1) := by decide +kernel
theorem dX7_knot_53 : decode cX7_knot 53 = .ok (.iconst 1, 1) := by decide +kernel
theorem dX7_knot_54 : decode cX7_knot 54 = .ok (.if_icmp .ne 11, 3) := by decide +kernel
theorem dX7_knot_57 : decode cX7_knot 57 = .ok (.aload_n 0, 1) := by decide +kernel
theorem dX7_knot_58 : decode cX7_knot 58 = .ok (.iload_n 1, 1) := by decide +kernel
theorem dX7_knot_59 : decode cX7_knot 59 = .ok (.invokevirtual 206, 3) := by decide +kernel
theorem dX7_knot_62 : decode cX7_knot 62 = .ok (.goto 13, 3) := by decide +kernel
theorem dX7_knot_65 : decode cX7_knot 65 = .ok (.aload_n 0, 1) := by decide +kernel
theorem dX7_knot_66 : decode cX7_knot 66 = .ok (.getfield 25, 3) := by decide +kernel
theorem dX7_knot_69 : decode cX7_knot 69 = .ok (.aload_n 0, 1) := by decide +kernel
theorem dX7_knot_70 : decode cX7_knot 70 = .ok (.iload_n 1, 1) := by decide +kernel
theorem dX7_knot_71 : decode cX7_knot 71 = .ok (.invokevirtual 176, 3) := by decide +kernel
theorem dX7_knot_74 : decode cX7_knot 74 = .ok (.iaload, 1) := by decide +kernel
theorem dX7_knot_75 : decode cX7_knot 75 = .ok (.ireturn, 1) := by decide +kernel
theorem dX7_areJoined_0 : decode cX7_areJoined 0 = .ok (.aload_n 0, 1) := by decide +kernel
theorem dX7_areJoined_1 : decode cX7_areJoined 1 = .ok (.iload_n 1, 1) := by decide +kernel
theorem dX7_areJoined_2 : decode cX7_areJoined 2 = .ok (.iload 4, 2) := by decide +kernel
theorem dX7_areJoined_4 : decode cX7_areJoined 4 = .ok (.iload 5, 2) := by decide +kernel
theorem dX7_areJoined_6 : decode cX7_areJoined 6 = .ok (.invokevirtual 192, 3) := by decide +kernel
theorem dX7_areJoined_9 : decode cX7_areJoined 9 = .ok (.pop, 1) := by decide +kernel
theorem dX7_areJoined_10 : decode cX7_areJoined 10 = .ok (.aload_n 0, 1) := by decide +kernel
theorem dX7_areJoined_11 : decode cX7_areJoined 11 = .ok (.iload_n 2, 1) := by decide +kernel
theorem dX7_areJoined_12 : decode cX7_areJoined 12 = .ok (.invokevirtual 176, 3) := by decide +kernel
theorem dX7_areJoined_15 : decode cX7_areJoined 15 = .ok (.aload_n 0, 1) := by decide +kernel
theorem dX7_areJoined_16 : decode cX7_areJoined 16 = .ok (.iload_n 3, 1) := by decide +kernel
theorem dX7_areJoined_17 : decode cX7_areJoined 17 = .ok (.invokevirtual 176, 3) := by decide +kernel
theorem dX7_areJoined_20 : decode cX7_areJoined 20 = .ok (.if_icmp .ne 7, 3) := by decide +kernel
theorem dX7_areJoined_23 : decode cX7_areJoined 23 = .ok (.iconst 1, 1) := by decide +kernel
theorem dX7_areJoined_24 : decode cX7_areJoined 24 = .ok (.goto 4, 3) := by decide +kernel
theorem dX7_areJoined_27 : decode cX7_areJoined 27 = .ok (.iconst 0, 1) := by decide +kernel
theorem dX7_areJoined_28 : decode cX7_areJoined 28 = .ok (.ireturn, 1) := by decide +kernel
theorem dX7_joined_0 : decode cX7_joined 0 = .ok (.iload_n 1, 1) := by decide +kernel
theorem dX7_joined_1 : decode cX7_joined 1 = .ok (.invokestatic 118, 3) := by decide +kernel
theorem dX7_joined_4 : decode cX7_joined 4 = .ok (.ifCond .eq 17, 3) := by decide +kernel
theorem dX7_joined_7 : decode cX7_joined 7 = .ok (.iload_n 2, 1) := by decide +kernel
theorem dX7_joined_8 : decode cX7_joined 8 = .ok (.invokestatic 118, 3) := by decide +kernel
theorem dX7_joined_11 : decode cX7_joined 11 = .ok (.ifCond .eq 10, 3) := by decide +kernel
theorem dX7_joined_14 : decode cX7_joined 14 = .ok (.iload_n 3, 1) := by decide +kernel
theorem dX7_joined_15 : decode cX7_joined 15 = .ok (.invokestatic 122, 3) := by decide +kernel
theorem dX7_joined_18 : decode cX7_joined 18 = .ok (.ifCond .ne 5, 3) := by decide +kernel
theorem dX7_joined_21 : decode cX7_joined 21 = .ok (.iconst (-1), 1) := by decide +kernel
theorem dX7_joined_22 : decode cX7_joined 22 = .ok (.ireturn, 1) := by decide +kernel
theorem dX7_joined_23 : decode cX7_joined 23 = .ok (.aload_n 0, 1) := by decide +kernel
theorem dX7_joined_24 : decode cX7_joined 24 = .ok (.iconst 0, 1) := by decide +kernel
theorem dX7_joined_25 : decode cX7_joined 25 = .ok (.iload_n 1, 1) := by decide +kernel
theorem dX7_joined_26 : decode cX7_joined 26 = .ok (.iload_n 2, 1) := by decide +kernel
theorem dX7_joined_27 : decode cX7_joined 27 = .ok (.iload_n 3, 1) := by decide +kernel
theorem dX7_joined_28 : decode cX7_joined 28 = .ok (.ldc 191, 2) := by decide +kernel
theorem dX7_joined_30 : decode cX7_joined 30 = .ok (.invokevirtual 223, 3) := by decide +kernel
theorem dX7_joined_33 : decode cX7_joined 33 = .ok (.ifCond .eq 7, 3) := by decide +kernel
theorem dX7_joined_36 : decode cX7_joined 36 = .ok (.iconst 1, 1) := by decide +kernel
theorem dX7_joined_37 : decode cX7_joined 37 = .ok (.goto 4, 3) := by decide +kernel
theorem dX7_joined_40 : decode cX7_joined 40 = .ok (.iconst 0, 1) := by decide +kernel
theorem dX7_joined_41 : decode cX7_joined 41 = .ok (.ireturn, 1) := by decide +kernel
theorem dX7_side_0 : decode cX7_side 0 = .ok (.iload_n 1, 1) := by decide +kernel
theorem dX7_side_1 : decode cX7_side 1 = .ok (.invokestatic 118, 3) := by decide +kernel
theorem dX7_side_4 : decode cX7_side 4 = .ok (.ifCond .eq 17, 3) := by decide +kernel
theorem dX7_side_7 : decode cX7_side 7 = .ok (.iload_n 2, 1) := by decide +kernel
theorem dX7_side_8 : decode cX7_side 8 = .ok (.invokestatic 118, 3) := by decide +kernel
theorem dX7_side_11 : decode cX7_side 11 = .ok (.ifCond .eq 10, 3) := by decide +kernel
theorem dX7_side_14 : decode cX7_side 14 = .ok (.iload_n 3, 1) := by decide +kernel
theorem dX7_side_15 : decode cX7_side 15 = .ok (.invokestatic 122, 3) := by decide +kernel
theorem dX7_side_18 : decode cX7_side 18 = .ok (.ifCond .ne 5, 3) := by decide +kernel
theorem dX7_side_21 : decode cX7_side 21 = .ok (.iconst (-1), 1) := by decide +kernel
theorem dX7_side_22 : decode cX7_side 22 = .ok (.ireturn, 1) := by decide +kernel
theorem dX7_side_23 : decode cX7_side 23 = .ok (.iload_n 1, 1) := by decide +kernel
theorem dX7_side_24 : decode cX7_side 24 = .ok (.iload_n 2, 1) := by decide +kernel
theorem dX7_side_25 : decode cX7_side 25 = .ok (.if_icmp .ne 5, 3) := by decide +kernel
theorem dX7_side_28 : decode cX7_side 28 = .ok (.iconst 0, 1) := by decide +kernel
theorem dX7_side_29 : decode cX7_side 29 = .ok (.ireturn, 1) := by decide +kernel
theorem dX7_side_30 : decode cX7_side 30 = .ok (.aload_n 0, 1) := by decide +kernel
theorem dX7_side_31 : decode cX7_side 31 = .ok (.iload_n 3, 1) := by decide +kernel
theorem dX7_side_32 : decode cX7_side 32 = .ok (.invokevirtual 200, 3) := by decide +kernel
theorem dX7_side_35 : decode cX7_side 35 = .ok (.aload_n 0, 1) := by decide +kernel
theorem dX7_side_36 : decode cX7_side 36 = .ok (.iload_n 1, 1) := by decide +kernel
theorem dX7_side_37 : decode cX7_side 37 = .ok (.invokevirtual 176, 3) := by decide +kernel
theorem dX7_side_40 : decode cX7_side 40 = .ok (.aload_n 0, 1) := by decide +kernel
theorem dX7_side_41 : decode cX7_side 41 = .ok (.iload_n 2, 1) := by decide +kernel
theorem dX7_side_42 : decode cX7_side 42 = .ok (.invokevirtual 176, 3) := by decide +kernel
theorem dX7_side_45 : decode cX7_side 45 = .ok (.if_icmp .ne 17, 3) := by decide +kernel
theorem dX7_side_48 : decode cX7_side 48 = .ok (.aload_n 0, 1) := by decide +kernel
theorem dX7_side_49 : decode cX7_side 49 = .ok (.getfield 31, 3) := by decide +kernel
theorem dX7_side_52 : decode cX7_side 52 = .ok (.aload_n 0, 1) := by decide +kernel
theorem dX7_side_53 : decode cX7_side 53 = .ok (.iload_n 1, 1) := by decide +kernel
theorem dX7_side_54 : decode cX7_side 54 = .ok (.invokevirtual 176, 3) := by decide +kernel
theorem dX7_side_57 : decode cX7_side 57 = .ok (.iaload, 1) := by decide +kernel
theorem dX7_side_58 : decode cX7_side 58 = .ok (.iconst 1, 1) := by decide +kernel
theorem dX7_side_59 : decode cX7_side 59 = .ok (.if_icmp .ne 6, 3) := by decide +kernel
theorem dX7_side_62 : decode cX7_side 62 = .ok (.bipush (-3), 2) := by decide +kernel
theorem dX7_side_64 : decode cX7_side 64 = .ok (.ireturn, 1) := by decide +kernel
theorem dX7_side_65 : decode cX7_side 65 = .ok (.aload_n 0, 1) := by decide +kernel
theorem dX7_side_66 : decode cX7_side 66 = .ok (.getfield 28, 3) := by decide +kernel
theorem dX7_side_69 : decode cX7_side 69 = .ok (.iload_n 1, 1) := by decide +kernel
theorem dX7_side_70 : decode cX7_side 70 = .ok (.iaload, 1) := by decide +kernel
theorem dX7_side_71 : decode cX7_side 71 = .ok (.aload_n 0, 1) := by decide +kernel
theorem dX7_side_72 : decode cX7_side 72 = .ok (.getfield 28, 3) := by decide +kernel
theorem dX7_side_75 : decode cX7_side 75 = .ok (.iload_n 2, 1) := by decide +kernel
theorem dX7_side_76 : decode cX7_side 76 = .ok (.iaload, 1) := by decide +kernel
theorem dX7_side_77 : decode cX7_side 77 = .ok (.if_icmp .ne 7, 3) := by decide +kernel
theorem dX7_side_80 : decode cX7_side 80 = .ok (.iconst 0, 1) := by decide +kernel
theorem dX7_side_81 : decode cX7_side 81 = .ok (.goto 4, 3) := by decide +kernel
theorem dX7_side_84 : decode cX7_side 84 = .ok (.iconst 1, 1) := by decide +kernel
theorem dX7_side_85 : decode cX7_side 85 = .ok (.ireturn, 1) := by decide +kernel
theorem dX7_work_0 : decode cX7_work 0 = .ok (.iload_n 1, 1) := by decide +kernel
theorem dX7_work_1 : decode cX7_work 1 = .ok (.i2l, 1) := by decide +kernel
theorem dX7_work_2 : decode cX7_work 2 = .ok (.lconst 0, 1) := by decide +kernel
theorem dX7_work_3 : decode cX7_work 3 = .ok (.lconst 1, 1) := by decide +kernel
theorem dX7_work_4 : decode cX7_work 4 = .ok (.invokestatic 58, 3) := by decide +kernel
theorem dX7_work_7 : decode cX7_work 7 = .ok (.ifCond .ne 6, 3) := by decide +kernel
theorem dX7_work_10 : decode cX7_work 10 = .ok (.bipush (-2), 2) := by decide +kernel
theorem dX7_work_12 : decode cX7_work 12 = .ok (.ireturn, 1) := by decide +kernel
theorem dX7_work_13 : decode cX7_work 13 = .ok (.iconst 0, 1) := by decide +kernel
theorem dX7_work_14 : decode cX7_work 14 = .ok (.istore_n 2, 1) := by decide +kernel
theorem dX7_work_15 : decode cX7_work 15 = .ok (.iconst 1, 1) := by decide +kernel
theorem dX7_work_16 : decode cX7_work 16 = .ok (.istore_n 3, 1) := by decide +kernel
theorem dX7_work_17 : decode cX7_work 17 = .ok (.iload_n 3, 1) := by decide +kernel
theorem dX7_work_18 : decode cX7_work 18 = .ok (.bipush 32, 2) := by decide +kernel
theorem dX7_work_20 : decode cX7_work 20 = .ok (.if_icmp .ge 32, 3) := by decide +kernel
theorem dX7_work_23 : decode cX7_work 23 = .ok (.iload_n 2, 1) := by decide +kernel
theorem dX7_work_24 : decode cX7_work 24 = .ok (.iload_n 1, 1) := by decide +kernel
theorem dX7_work_25 : decode cX7_work 25 = .ok (.ifCond .ne 14, 3) := by decide +kernel
theorem dX7_work_28 : decode cX7_work 28 = .ok (.aload_n 0, 1) := by decide +kernel
theorem dX7_work_29 : decode cX7_work 29 = .ok (.iload_n 3, 1) := by decide +kernel
theorem dX7_work_30 : decode cX7_work 30 = .ok (.invokevirtual 153, 3) := by decide +kernel
theorem dX7_work_33 : decode cX7_work 33 = .ok (.invokestatic 227, 3) := by decide +kernel
theorem dX7_work_36 : decode cX7_work 36 = .ok (.goto 8, 3) := by decide +kernel
theorem dX7_work_39 : decode cX7_work 39 = .ok (.aload_n 0, 1) := by decide +kernel
theorem dX7_work_40 : decode cX7_work 40 = .ok (.iload_n 3, 1) := by decide +kernel
theorem dX7_work_41 : decode cX7_work 41 = .ok (.invokevirtual 203, 3) := by decide +kernel
theorem dX7_work_44 : decode cX7_work 44 = .ok (.iadd, 1) := by decide +kernel
theorem dX7_work_45 : decode cX7_work 45 = .ok (.istore_n 2, 1) := by decide +kernel
theorem dX7_work_46 : decode cX7_work 46 = .ok (.iinc 3 1, 3) := by decide +kernel
theorem dX7_work_49 : decode cX7_work 49 = .ok (.goto (-32), 3) := by decide +kernel
theorem dX7_work_52 : decode cX7_work 52 = .ok (.iload_n 2, 1) := by decide +kernel
theorem dX7_work_53 : decode cX7_work 53 = .ok (.ireturn, 1) := by decide +kernel
theorem dX7_when_0 : decode cX7_when 0 = .ok (.iload_n 1, 1) := by decide +kernel
theorem dX7_when_1 : decode cX7_when 1 = .ok (.invokestatic 118, 3) := by decide +kernel
theorem dX7_when_4 : decode cX7_when 4 = .ok (.ifCond .eq 10, 3) := by decide +kernel
theorem dX7_when_7 : decode cX7_when 7 = .ok (.iload_n 2, 1) := by decide +kernel
theorem dX7_when_8 : decode cX7_when 8 = .ok (.invokestatic 118, 3) := by decide +kernel
theorem dX7_when_11 : decode cX7_when 11 = .ok (.ifCond .ne 5, 3) := by decide +kernel
theorem dX7_when_14 : decode cX7_when 14 = .ok (.iconst (-1), 1) := by decide +kernel
theorem dX7_when_15 : decode cX7_when 15 = .ok (.ireturn, 1) := by decide +kernel
theorem dX7_when_16 : decode cX7_when 16 = .ok (.iconst 0, 1) := by decide +kernel
theorem dX7_when_17 : decode cX7_when 17 = .ok (.istore_n 3, 1) := by decide +kernel
theorem dX7_when_18 : decode cX7_when 18 = .ok (.iconst 0, 1) := by decide +kernel
theorem dX7_when_19 : decode cX7_when 19 = .ok (.istore 4, 2) := by decide +kernel
theorem dX7_when_21 : decode cX7_when 21 = .ok (.iload 4, 2) := by decide +kernel
theorem dX7_when_23 : decode cX7_when 23 = .ok (.bipush 16, 2) := by decide +kernel
theorem dX7_when_25 : decode cX7_when 25 = .ok (.if_icmp .ge 34, 3) := by decide +kernel
theorem dX7_when_28 : decode cX7_when 28 = .ok (.iload_n 3, 1) := by decide +kernel
theorem dX7_when_29 : decode cX7_when 29 = .ok (.aload_n 0, 1) := by decide +kernel
theorem dX7_when_30 : decode cX7_when 30 = .ok (.iconst 0, 1) := by decide +kernel
theorem dX7_when_31 : decode cX7_when 31 = .ok (.iload_n 1, 1) := by decide +kernel
theorem dX7_when_32 : decode cX7_when 32 = .ok (.iload_n 2, 1) := by decide +kernel
theorem dX7_when_33 : decode cX7_when 33 = .ok (.iload 4, 2) := by decide +kernel
theorem dX7_when_35 : decode cX7_when 35 = .ok (.ldc 191, 2) := by decide +kernel
theorem dX7_when_37 : decode cX7_when 37 = .ok (.invokevirtual 223, 3) := by decide +kernel
theorem dX7_when_40 : decode cX7_when 40 = .ok (.ifCond .eq 10, 3) := by decide +kernel
theorem dX7_when_43 : decode cX7_when 43 = .ok (.iconst 1, 1) := by decide +kernel
theorem dX7_when_44 : decode cX7_when 44 = .ok (.iload 4, 2) := by decide +kernel
theorem dX7_when_46 : decode cX7_when 46 = .ok (.ishl, 1) := by decide +kernel
theorem dX7_when_47 : decode cX7_when 47 = .ok (.goto 4, 3) := by decide +kernel
theorem dX7_when_50 : decode cX7_when 50 = .ok (.iconst 0, 1) := by decide +kernel
theorem dX7_when_51 : decode cX7_when 51 = .ok (.ior, 1) := by decide +kernel
theorem dX7_when_52 : decode cX7_when 52 = .ok (.istore_n 3, 1) := by decide +kernel
theorem dX7_when_53 : decode cX7_when 53 = .ok (.iinc 4 1, 3) := by decide +kernel
theorem dX7_when_56 : decode cX7_when 56 = .ok (.goto (-35), 3) := by decide +kernel
theorem dX7_when_59 : decode cX7_when 59 = .ok (.iload_n 3, 1) := by decide +kernel
theorem dX7_when_60 : decode cX7_when 60 = .ok (.ireturn, 1) := by decide +kernel
theorem dX7_bridges_0 : decode cX7_bridges 0 = .ok (.iload_n 1, 1) := by decide +kernel
theorem dX7_bridges_1 : decode cX7_bridges 1 = .ok (.invokestatic 122, 3) := by decide +kernel
theorem dX7_bridges_4 : decode cX7_bridges 4 = .ok (.ifCond .ne 5, 3) := by decide +kernel
theorem dX7_bridges_7 : decode cX7_bridges 7 = .ok (.iconst (-1), 1) := by decide +kernel
theorem dX7_bridges_8 : decode cX7_bridges 8 = .ok (.ireturn, 1) := by decide +kernel
theorem dX7_bridges_9 : decode cX7_bridges 9 = .ok (.aload_n 0, 1) := by decide +kernel
theorem dX7_bridges_10 : decode cX7_bridges 10 = .ok (.iconst 0, 1) := by decide +kernel
theorem dX7_bridges_11 : decode cX7_bridges 11 = .ok (.iload_n 1, 1) := by decide +kernel
theorem dX7_bridges_12 : decode cX7_bridges 12 = .ok (.ldc 191, 2) := by decide +kernel
theorem dX7_bridges_14 : decode cX7_bridges 14 = .ok (.invokevirtual 192, 3) := by decide +kernel
theorem dX7_bridges_17 : decode cX7_bridges 17 = .ok (.istore_n 2, 1) := by decide +kernel
theorem dX7_bridges_18 : decode cX7_bridges 18 = .ok (.iconst 0, 1) := by decide +kernel
theorem dX7_bridges_19 : decode cX7_bridges 19 = .ok (.istore_n 3, 1) := by decide +kernel
theorem dX7_bridges_20 : decode cX7_bridges 20 = .ok (.iconst 0, 1) := by decide +kernel
theorem dX7_bridges_21 : decode cX7_bridges 21 = .ok (.istore 4, 2) := by decide +kernel
theorem dX7_bridges_23 : decode cX7_bridges 23 = .ok (.iload 4, 2) := by decide +kernel
theorem dX7_bridges_25 : decode cX7_bridges 25 = .ok (.aload_n 0, 1) := by decide +kernel
theorem dX7_bridges_26 : decode cX7_bridges 26 = .ok (.iconst 0, 1) := by decide +kernel
theorem dX7_bridges_27 : decode cX7_bridges 27 = .ok (.invokevirtual 105, 3) := by decide +kernel
theorem dX7_bridges_30 : decode cX7_bridges 30 = .ok (.if_icmp .ge 39, 3) := by decide +kernel
theorem dX7_bridges_33 : decode cX7_bridges 33 = .ok (.iload_n 3, 1) := by decide +kernel
theorem dX7_bridges_34 : decode cX7_bridges 34 = .ok (.aload_n 0, 1) := by decide +kernel
theorem dX7_bridges_35 : decode cX7_bridges 35 = .ok (.iconst 0, 1) := by decide +kernel
theorem dX7_bridges_36 : decode cX7_bridges 36 = .ok (.iload_n 1, 1) := by decide +kernel
theorem dX7_bridges_37 : decode cX7_bridges 37 = .ok (.ldc 191, 2) := by decide +kernel
theorem dX7_bridges_39 : decode cX7_bridges 39 = .ok (.iconst 1, 1) := by decide +kernel
theorem dX7_bridges_40 : decode cX7_bridges 40 = .ok (.iload 4, 2) := by decide +kernel
theorem dX7_bridges_42 : decode cX7_bridges 42 = .ok (.ishl, 1) := by decide +kernel
theorem dX7_bridges_43 : decode cX7_bridges 43 = .ok (.iconst (-1), 1) := by decide +kernel
theorem dX7_bridges_44 : decode cX7_bridges 44 = .ok (.ixor, 1) := by decide +kernel
theorem dX7_bridges_45 : decode cX7_bridges 45 = .ok (.iand, 1) := by decide +kernel
theorem dX7_bridges_46 : decode cX7_bridges 46 = .ok (.invokevirtual 192, 3) := by decide +kernel
theorem dX7_bridges_49 : decode cX7_bridges 49 = .ok (.iload_n 2, 1) := by decide +kernel
theorem dX7_bridges_50 : decode cX7_bridges 50 = .ok (.if_icmp .le 10, 3) := by decide +kernel
theorem dX7_bridges_53 : decode cX7_bridges 53 = .ok (.iconst 1, 1) := by decide +kernel
theorem dX7_bridges_54 : decode cX7_bridges 54 = .ok (.iload 4, 2) := by decide +kernel
theorem dX7_bridges_56 : decode cX7_bridges 56 = .ok (.ishl, 1) := by decide +kernel
theorem dX7_bridges_57 : decode cX7_bridges 57 = .ok (.goto 4, 3) := by decide +kernel
theorem dX7_bridges_60 : decode cX7_bridges 60 = .ok (.iconst 0, 1) := by decide +kernel
theorem dX7_bridges_61 : decode cX7_bridges 61 = .ok (.ior, 1) := by decide +kernel
theorem dX7_bridges_62 : decode cX7_bridges 62 = .ok (.istore_n 3, 1) := by decide +kernel
theorem dX7_bridges_63 : decode cX7_bridges 63 = .ok (.iinc 4 1, 3) := by decide +kernel
theorem dX7_bridges_66 : decode cX7_bridges 66 = .ok (.goto (-43), 3) := by decide +kernel
theorem dX7_bridges_69 : decode cX7_bridges 69 = .ok (.iload_n 3, 1) := by decide +kernel
theorem dX7_bridges_70 : decode cX7_bridges 70 = .ok (.ireturn, 1) := by decide +kernel
theorem dX7_least_0 : decode cX7_least 0 = .ok (.iload_n 1, 1) := by decide +kernel
theorem dX7_least_1 : decode cX7_least 1 = .ok (.invokestatic 118, 3) := by decide +kernel
theorem dX7_least_4 : decode cX7_least 4 = .ok (.ifCond .eq 17, 3) := by decide +kernel
theorem dX7_least_7 : decode cX7_least 7 = .ok (.iload_n 2, 1) := by decide +kernel
theorem dX7_least_8 : decode cX7_least 8 = .ok (.invokestatic 118, 3) := by decide +kernel
theorem dX7_least_11 : decode cX7_least 11 = .ok (.ifCond .eq 10, 3) := by decide +kernel
theorem dX7_least_14 : decode cX7_least 14 = .ok (.iload_n 3, 1) := by decide +kernel
theorem dX7_least_15 : decode cX7_least 15 = .ok (.invokestatic 122, 3) := by decide +kernel
theorem dX7_least_18 : decode cX7_least 18 = .ok (.ifCond .ne 5, 3) := by decide +kernel
theorem dX7_least_21 : decode cX7_least 21 = .ok (.iconst (-1), 1) := by decide +kernel
theorem dX7_least_22 : decode cX7_least 22 = .ok (.ireturn, 1) := by decide +kernel
theorem dX7_least_23 : decode cX7_least 23 = .ok (.iload_n 1, 1) := by decide +kernel
theorem dX7_least_24 : decode cX7_least 24 = .ok (.iload_n 2, 1) := by decide +kernel
theorem dX7_least_25 : decode cX7_least 25 = .ok (.if_icmp .eq 14, 3) := by decide +kernel
theorem dX7_least_28 : decode cX7_least 28 = .ok (.iload 4, 2) := by decide +kernel
theorem dX7_least_30 : decode cX7_least 30 = .ok (.i2l, 1) := by decide +kernel
theorem dX7_least_31 : decode cX7_least 31 = .ok (.lconst 0, 1) := by decide +kernel
theorem dX7_least_32 : decode cX7_least 32 = .ok (.lconst 1, 1) := by decide +kernel
theorem dX7_least_33 : decode cX7_least 33 = .ok (.invokestatic 58, 3) := by decide +kernel
theorem dX7_least_36 : decode cX7_least 36 = .ok (.ifCond .ne 6, 3) := by decide +kernel
theorem dX7_least_39 : decode cX7_least 39 = .ok (.bipush (-2), 2) := by decide +kernel
theorem dX7_least_41 : decode cX7_least 41 = .ok (.ireturn, 1) := by decide +kernel
theorem dX7_least_42 : decode cX7_least 42 = .ok (.aload_n 0, 1) := by decide +kernel
theorem dX7_least_43 : decode cX7_least 43 = .ok (.iload_n 3, 1) := by decide +kernel
theorem dX7_least_44 : decode cX7_least 44 = .ok (.invokevirtual 209, 3) := by decide +kernel
theorem dX7_least_47 : decode cX7_least 47 = .ok (.istore 5, 2) := by decide +kernel
theorem dX7_least_49 : decode cX7_least 49 = .ok (.iload 5, 2) := by decide +kernel
theorem dX7_least_51 : decode cX7_least 51 = .ok (.invokestatic 227, 3) := by decide +kernel
theorem dX7_least_54 : decode cX7_least 54 = .ok (.bipush 10, 2) := by decide +kernel
theorem dX7_least_56 : decode cX7_least 56 = .ok (.if_icmp .le 6, 3) := by decide +kernel
theorem dX7_least_59 : decode cX7_least 59 = .ok (.bipush (-4), 2) := by decide +kernel
theorem dX7_least_61 : decode cX7_least 61 = .ok (.ireturn, 1) := by decide +kernel
theorem dX7_least_62 : decode cX7_least 62 = .ok (.iload 5, 2) := by decide +kernel
theorem dX7_least_64 : decode cX7_least 64 = .ok (.istore 6, 2) := by decide +kernel
theorem dX7_least_66 : decode cX7_least 66 = .ok (.iconst 0, 1) := by decide +kernel
theorem dX7_least_67 : decode cX7_least 67 = .ok (.istore 7, 2) := by decide +kernel
theorem dX7_least_69 : decode cX7_least 69 = .ok (.iload 7, 2) := by decide +kernel
theorem dX7_least_71 : decode cX7_least 71 = .ok (.iconst 1, 1) := by decide +kernel
theorem dX7_least_72 : decode cX7_least 72 = .ok (.aload_n 0, 1) := by decide +kernel
theorem dX7_least_73 : decode cX7_least 73 = .ok (.iconst 0, 1) := by decide +kernel
theorem dX7_least_74 : decode cX7_least 74 = .ok (.invokevirtual 105, 3) := by decide +kernel
theorem dX7_least_77 : decode cX7_least 77 = .ok (.ishl, 1) := by decide +kernel
theorem dX7_least_78 : decode cX7_least 78 = .ok (.if_icmp .ge 79, 3) := by decide +kernel
theorem dX7_least_81 : decode cX7_least 81 = .ok (.iload 7, 2) := by decide +kernel
theorem dX7_least_83 : decode cX7_least 83 = .ok (.iload 5, 2) := by decide +kernel
theorem dX7_least_85 : decode cX7_least 85 = .ok (.iconst (-1), 1) := by decide +kernel
theorem dX7_least_86 : decode cX7_least 86 = .ok (.ixor, 1) := by decide +kernel
theorem dX7_least_87 : decode cX7_least 87 = .ok (.iand, 1) := by decide +kernel
theorem dX7_least_88 : decode cX7_least 88 = .ok (.ifCond .ne 63, 3) := by decide +kernel
theorem dX7_least_91 : decode cX7_least 91 = .ok (.iload 7, 2) := by decide +kernel
theorem dX7_least_93 : decode cX7_least 93 = .ok (.invokestatic 227, 3) := by decide +kernel
theorem dX7_least_96 : decode cX7_least 96 = .ok (.iload 6, 2) := by decide +kernel
theorem dX7_least_98 : decode cX7_least 98 = .ok (.invokestatic 227, 3) := by decide +kernel
theorem dX7_least_101 : decode cX7_least 101 = .ok (.if_icmp .lt 23, 3) := by decide +kernel
theorem dX7_least_104 : decode cX7_least 104 = .ok (.iload 7, 2) := by decide +kernel
theorem dX7_least_106 : decode cX7_least 106 = .ok (.invokestatic 227, 3) := by decide +kernel
theorem dX7_least_109 : decode cX7_least 109 = .ok (.iload 6, 2) := by decide +kernel
theorem dX7_least_111 : decode cX7_least 111 = .ok (.invokestatic 227, 3) := by decide +kernel
theorem dX7_least_114 : decode cX7_least 114 = .ok (.if_icmp .ne 37, 3) := by decide +kernel
theorem dX7_least_117 : decode cX7_least 117 = .ok (.iload 7, 2) := by decide +kernel
theorem dX7_least_119 : decode cX7_least 119 = .ok (.iload 6, 2) := by decide +kernel
theorem dX7_least_121 : decode cX7_least 121 = .ok (.if_icmp .ge 30, 3) := by decide +kernel
theorem dX7_least_124 : decode cX7_least 124 = .ok (.aload_n 0, 1) := by decide +kernel
theorem dX7_least_125 : decode cX7_least 125 = .ok (.iconst 0, 1) := by decide +kernel
theorem dX7_least_126 : decode cX7_least 126 = .ok (.iload_n 1, 1) := by decide +kernel
theorem dX7_least_127 : decode cX7_least 127 = .ok (.iload_n 2, 1) := by decide +kernel
theorem dX7_least_128 : decode cX7_least 128 = .ok (.iload_n 3, 1) := by decide +kernel
theorem dX7_least_129 : decode cX7_least 129 = .ok (.ldc 191, 2) := by decide +kernel
theorem dX7_least_131 : decode cX7_least 131 = .ok (.iload 7, 2) := by decide +kernel
theorem dX7_least_133 : decode cX7_least 133 = .ok (.iconst (-1), 1) := by decide +kernel
theorem dX7_least_134 : decode cX7_least 134 = .ok (.ixor, 1) := by decide +kernel
theorem dX7_least_135 : decode cX7_least 135 = .ok (.iand, 1) := by decide +kernel
theorem dX7_least_136 : decode cX7_least 136 = .ok (.invokevirtual 223, 3) := by decide +kernel
theorem dX7_least_139 : decode cX7_least 139 = .ok (.ifCond .eq 8, 3) := by decide +kernel
theorem dX7_least_142 : decode cX7_least 142 = .ok (.iload 6, 2) := by decide +kernel
theorem dX7_least_144 : decode cX7_least 144 = .ok (.goto 5, 3) := by decide +kernel
theorem dX7_least_147 : decode cX7_least 147 = .ok (.iload 7, 2) := by decide +kernel
theorem dX7_least_149 : decode cX7_least 149 = .ok (.istore 6, 2) := by decide +kernel
theorem dX7_least_151 : decode cX7_least 151 = .ok (.iinc 7 1, 3) := by decide +kernel
theorem dX7_least_154 : decode cX7_least 154 = .ok (.goto (-85), 3) := by decide +kernel
theorem dX7_least_157 : decode cX7_least 157 = .ok (.iload 4, 2) := by decide +kernel
theorem dX7_least_159 : decode cX7_least 159 = .ok (.ifCond .ne 11, 3) := by decide +kernel
theorem dX7_least_162 : decode cX7_least 162 = .ok (.iload 6, 2) := by decide +kernel
theorem dX7_least_164 : decode cX7_least 164 = .ok (.invokestatic 227, 3) := by decide +kernel
theorem dX7_least_167 : decode cX7_least 167 = .ok (.goto 5, 3) := by decide +kernel
theorem dX7_least_170 : decode cX7_least 170 = .ok (.iload 6, 2) := by decide +kernel
theorem dX7_least_172 : decode cX7_least 172 = .ok (.ireturn, 1) := by decide +kernel
theorem dX7_layTrial_0 : decode cX7_layTrial 0 = .ok (.iconst 0, 1) := by decide +kernel
theorem dX7_layTrial_1 : decode cX7_layTrial 1 = .ok (.istore_n 1, 1) := by decide +kernel
theorem dX7_layTrial_2 : decode cX7_layTrial 2 = .ok (.iload_n 1, 1) := by decide +kernel
theorem dX7_layTrial_3 : decode cX7_layTrial 3 = .ok (.bipush 17, 2) := by decide +kernel
theorem dX7_layTrial_5 : decode cX7_layTrial 5 = .ok (.if_icmp .ge 24, 3) := by decide +kernel
theorem dX7_layTrial_8 : decode cX7_layTrial 8 = .ok (.aload_n 0, 1) := by decide +kernel
theorem dX7_layTrial_9 : decode cX7_layTrial 9 = .ok (.getfield 7, 3) := by decide +kernel
theorem dX7_layTrial_12 : decode cX7_layTrial 12 = .ok (.bipush 17, 2) := by decide +kernel
theorem dX7_layTrial_14 : decode cX7_layTrial 14 = .ok (.iload_n 1, 1) := by decide +kernel
theorem dX7_layTrial_15 : decode cX7_layTrial 15 = .ok (.iadd, 1) := by decide +kernel
theorem dX7_layTrial_16 : decode cX7_layTrial 16 = .ok (.aload_n 0, 1) := by decide +kernel
theorem dX7_layTrial_17 : decode cX7_layTrial 17 = .ok (.getfield 7, 3) := by decide +kernel
theorem dX7_layTrial_20 : decode cX7_layTrial 20 = .ok (.iload_n 1, 1) := by decide +kernel
theorem dX7_layTrial_21 : decode cX7_layTrial 21 = .ok (.iaload, 1) := by decide +kernel
theorem dX7_layTrial_22 : decode cX7_layTrial 22 = .ok (.iastore, 1) := by decide +kernel
theorem dX7_layTrial_23 : decode cX7_layTrial 23 = .ok (.iinc 1 1, 3) := by decide +kernel
theorem dX7_layTrial_26 : decode cX7_layTrial 26 = .ok (.goto (-24), 3) := by decide +kernel
theorem dX7_layTrial_29 : decode cX7_layTrial 29 = .ok (.return_, 1) := by decide +kernel
theorem dX7_tryThing_0 : decode cX7_tryThing 0 = .ok (.iload_n 2, 1) := by decide +kernel
theorem dX7_tryThing_1 : decode cX7_tryThing 1 = .ok (.bipush 10, 2) := by decide +kernel
theorem dX7_tryThing_3 : decode cX7_tryThing 3 = .ok (.idiv, 1) := by decide +kernel
theorem dX7_tryThing_4 : decode cX7_tryThing 4 = .ok (.istore 4, 2) := by decide +kernel
theorem dX7_tryThing_6 : decode cX7_tryThing 6 = .ok (.iload_n 2, 1) := by decide +kernel
theorem dX7_tryThing_7 : decode cX7_tryThing 7 = .ok (.bipush 10, 2) := by decide +kernel
theorem dX7_tryThing_9 : decode cX7_tryThing 9 = .ok (.irem, 1) := by decide +kernel
theorem dX7_tryThing_10 : decode cX7_tryThing 10 = .ok (.istore 5, 2) := by decide +kernel
theorem dX7_tryThing_12 : decode cX7_tryThing 12 = .ok (.iload_n 1, 1) := by decide +kernel
theorem dX7_tryThing_13 : decode cX7_tryThing 13 = .ok (.tableswitch 215 1 5 #[35, 82, 116, 140, 184], 35) := by decide +kernel
theorem dX7_tryThing_48 : decode cX7_tryThing 48 = .ok (.aload_n 0, 1) := by decide +kernel
theorem dX7_tryThing_49 : decode cX7_tryThing 49 = .ok (.iconst 1, 1) := by decide +kernel
theorem dX7_tryThing_50 : decode cX7_tryThing 50 = .ok (.iload 4, 2) := by decide +kernel
theorem dX7_tryThing_52 : decode cX7_tryThing 52 = .ok (.iload 5, 2) := by decide +kernel
theorem dX7_tryThing_54 : decode cX7_tryThing 54 = .ok (.iload_n 3, 1) := by decide +kernel
theorem dX7_tryThing_55 : decode cX7_tryThing 55 = .ok (.bipush 10, 2) := by decide +kernel
theorem dX7_tryThing_57 : decode cX7_tryThing 57 = .ok (.idiv, 1) := by decide +kernel
theorem dX7_tryThing_58 : decode cX7_tryThing 58 = .ok (.iload_n 3, 1) := by decide +kernel
theorem dX7_tryThing_59 : decode cX7_tryThing 59 = .ok (.bipush 10, 2) := by decide +kernel
theorem dX7_tryThing_61 : decode cX7_tryThing 61 = .ok (.irem, 1) := by decide +kernel
theorem dX7_tryThing_62 : decode cX7_tryThing 62 = .ok (.invokevirtual 230, 3) := by decide +kernel
theorem dX7_tryThing_65 : decode cX7_tryThing 65 = .ok (.istore 6, 2) := by decide +kernel
theorem dX7_tryThing_67 : decode cX7_tryThing 67 = .ok (.iload 6, 2) := by decide +kernel
theorem dX7_tryThing_69 : decode cX7_tryThing 69 = .ok (.ifCond .eq 23, 3) := by decide +kernel
theorem dX7_tryThing_72 : decode cX7_tryThing 72 = .ok (.aload_n 0, 1) := by decide +kernel
theorem dX7_tryThing_73 : decode cX7_tryThing 73 = .ok (.iconst 1, 1) := by decide +kernel
theorem dX7_tryThing_74 : decode cX7_tryThing 74 = .ok (.iload 4, 2) := by decide +kernel
theorem dX7_tryThing_76 : decode cX7_tryThing 76 = .ok (.iload 5, 2) := by decide +kernel
theorem dX7_tryThing_78 : decode cX7_tryThing 78 = .ok (.iload_n 3, 1) := by decide +kernel
theorem dX7_tryThing_79 : decode cX7_tryThing 79 = .ok (.bipush 10, 2) := by decide +kernel
theorem dX7_tryThing_81 : decode cX7_tryThing 81 = .ok (.idiv, 1) := by decide +kernel
theorem dX7_tryThing_82 : decode cX7_tryThing 82 = .ok (.iload_n 3, 1) := by decide +kernel
theorem dX7_tryThing_83 : decode cX7_tryThing 83 = .ok (.bipush 10, 2) := by decide +kernel
theorem dX7_tryThing_85 : decode cX7_tryThing 85 = .ok (.irem, 1) := by decide +kernel
theorem dX7_tryThing_86 : decode cX7_tryThing 86 = .ok (.invokestatic 95, 3) := by decide +kernel
theorem dX7_tryThing_89 : decode cX7_tryThing 89 = .ok (.invokevirtual 162, 3) := by decide +kernel
theorem dX7_tryThing_92 : decode cX7_tryThing 92 = .ok (.iload 6, 2) := by decide +kernel
theorem dX7_tryThing_94 : decode cX7_tryThing 94 = .ok (.ireturn, 1) := by decide +kernel
theorem dX7_tryThing_95 : decode cX7_tryThing 95 = .ok (.iload_n 2, 1) := by decide +kernel
theorem dX7_tryThing_96 : decode cX7_tryThing 96 = .ok (.ifCond .ne 16, 3) := by decide +kernel
theorem dX7_tryThing_99 : decode cX7_tryThing 99 = .ok (.iload_n 3, 1) := by decide +kernel
theorem dX7_tryThing_100 : decode cX7_tryThing 100 = .ok (.aload_n 0, 1) := by decide +kernel
theorem dX7_tryThing_101 : decode cX7_tryThing 101 = .ok (.iconst 1, 1) := by decide +kernel
theorem dX7_tryThing_102 : decode cX7_tryThing 102 = .ok (.invokevirtual 105, 3) := by decide +kernel
theorem dX7_tryThing_105 : decode cX7_tryThing 105 = .ok (.if_icmp .ge 7, 3) := by decide +kernel
theorem dX7_tryThing_108 : decode cX7_tryThing 108 = .ok (.iconst 1, 1) := by decide +kernel
theorem dX7_tryThing_109 : decode cX7_tryThing 109 = .ok (.goto 4, 3) := by decide +kernel
theorem dX7_tryThing_112 : decode cX7_tryThing 112 = .ok (.iconst 0, 1) := by decide +kernel
theorem dX7_tryThing_113 : decode cX7_tryThing 113 = .ok (.istore 7, 2) := by decide +kernel
theorem dX7_tryThing_115 : decode cX7_tryThing 115 = .ok (.iload 7, 2) := by decide +kernel
theorem dX7_tryThing_117 : decode cX7_tryThing 117 = .ok (.ifCond .eq 9, 3) := by decide +kernel
theorem dX7_tryThing_120 : decode cX7_tryThing 120 = .ok (.aload_n 0, 1) := by decide +kernel
theorem dX7_tryThing_121 : decode cX7_tryThing 121 = .ok (.iconst 1, 1) := by decide +kernel
theorem dX7_tryThing_122 : decode cX7_tryThing 122 = .ok (.iload_n 3, 1) := by decide +kernel
theorem dX7_tryThing_123 : decode cX7_tryThing 123 = .ok (.invokevirtual 166, 3) := by decide +kernel
theorem dX7_tryThing_126 : decode cX7_tryThing 126 = .ok (.iload 7, 2) := by decide +kernel
theorem dX7_tryThing_128 : decode cX7_tryThing 128 = .ok (.ireturn, 1) := by decide +kernel
theorem dX7_tryThing_129 : decode cX7_tryThing 129 = .ok (.aload_n 0, 1) := by decide +kernel
theorem dX7_tryThing_130 : decode cX7_tryThing 130 = .ok (.iconst 1, 1) := by decide +kernel
theorem dX7_tryThing_131 : decode cX7_tryThing 131 = .ok (.iload_n 2, 1) := by decide +kernel
theorem dX7_tryThing_132 : decode cX7_tryThing 132 = .ok (.iload_n 3, 1) := by decide +kernel
theorem dX7_tryThing_133 : decode cX7_tryThing 133 = .ok (.invokevirtual 169, 3) := by decide +kernel
theorem dX7_tryThing_136 : decode cX7_tryThing 136 = .ok (.istore 8, 2) := by decide +kernel
theorem dX7_tryThing_138 : decode cX7_tryThing 138 = .ok (.iload 8, 2) := by decide +kernel
theorem dX7_tryThing_140 : decode cX7_tryThing 140 = .ok (.ifCond .eq 10, 3) := by decide +kernel
theorem dX7_tryThing_143 : decode cX7_tryThing 143 = .ok (.aload_n 0, 1) := by decide +kernel
theorem dX7_tryThing_144 : decode cX7_tryThing 144 = .ok (.iconst 1, 1) := by decide +kernel
theorem dX7_tryThing_145 : decode cX7_tryThing 145 = .ok (.iload_n 2, 1) := by decide +kernel
theorem dX7_tryThing_146 : decode cX7_tryThing 146 = .ok (.iload_n 3, 1) := by decide +kernel
theorem dX7_tryThing_147 : decode cX7_tryThing 147 = .ok (.invokevirtual 172, 3) := by decide +kernel
theorem dX7_tryThing_150 : decode cX7_tryThing 150 = .ok (.iload 8, 2) := by decide +kernel
theorem dX7_tryThing_152 : decode cX7_tryThing 152 = .ok (.ireturn, 1) := by decide +kernel
theorem dX7_tryThing_153 : decode cX7_tryThing 153 = .ok (.iload 4, 2) := by decide +kernel
theorem dX7_tryThing_155 : decode cX7_tryThing 155 = .ok (.invokestatic 118, 3) := by decide +kernel
theorem dX7_tryThing_158 : decode cX7_tryThing 158 = .ok (.ifCond .eq 37, 3) := by decide +kernel
theorem dX7_tryThing_161 : decode cX7_tryThing 161 = .ok (.iload 5, 2) := by decide +kernel
theorem dX7_tryThing_163 : decode cX7_tryThing 163 = .ok (.invokestatic 118, 3) := by decide +kernel
theorem dX7_tryThing_166 : decode cX7_tryThing 166 = .ok (.ifCond .eq 29, 3) := by decide +kernel
theorem dX7_tryThing_169 : decode cX7_tryThing 169 = .ok (.iload_n 3, 1) := by decide +kernel
theorem dX7_tryThing_170 : decode cX7_tryThing 170 = .ok (.invokestatic 122, 3) := by decide +kernel
theorem dX7_tryThing_173 : decode cX7_tryThing 173 = .ok (.ifCond .eq 22, 3) := by decide +kernel
theorem dX7_tryThing_176 : decode cX7_tryThing 176 = .ok (.aload_n 0, 1) := by decide +kernel
theorem dX7_tryThing_177 : decode cX7_tryThing 177 = .ok (.iconst 1, 1) := by decide +kernel
theorem dX7_tryThing_178 : decode cX7_tryThing 178 = .ok (.iload 4, 2) := by decide +kernel
theorem dX7_tryThing_180 : decode cX7_tryThing 180 = .ok (.iload 5, 2) := by decide +kernel
theorem dX7_tryThing_182 : decode cX7_tryThing 182 = .ok (.iload_n 3, 1) := by decide +kernel
theorem dX7_tryThing_183 : decode cX7_tryThing 183 = .ok (.ldc 191, 2) := by decide +kernel
theorem dX7_tryThing_185 : decode cX7_tryThing 185 = .ok (.invokevirtual 223, 3) := by decide +kernel
theorem dX7_tryThing_188 : decode cX7_tryThing 188 = .ok (.ifCond .eq 7, 3) := by decide +kernel
theorem dX7_tryThing_191 : decode cX7_tryThing 191 = .ok (.iconst 1, 1) := by decide +kernel
theorem dX7_tryThing_192 : decode cX7_tryThing 192 = .ok (.goto 4, 3) := by decide +kernel
theorem dX7_tryThing_195 : decode cX7_tryThing 195 = .ok (.iconst 0, 1) := by decide +kernel
theorem dX7_tryThing_196 : decode cX7_tryThing 196 = .ok (.ireturn, 1) := by decide +kernel
theorem dX7_tryThing_197 : decode cX7_tryThing 197 = .ok (.iload 4, 2) := by decide +kernel
theorem dX7_tryThing_199 : decode cX7_tryThing 199 = .ok (.ifCond .ne 27, 3) := by decide +kernel
theorem dX7_tryThing_202 : decode cX7_tryThing 202 = .ok (.iload_n 3, 1) := by decide +kernel
theorem dX7_tryThing_203 : decode cX7_tryThing 203 = .ok (.invokestatic 122, 3) := by decide +kernel
theorem dX7_tryThing_206 : decode cX7_tryThing 206 = .ok (.ifCond .eq 20, 3) := by decide +kernel
theorem dX7_tryThing_209 : decode cX7_tryThing 209 = .ok (.aload_n 0, 1) := by decide +kernel
theorem dX7_tryThing_210 : decode cX7_tryThing 210 = .ok (.iconst 1, 1) := by decide +kernel
theorem dX7_tryThing_211 : decode cX7_tryThing 211 = .ok (.iload_n 3, 1) := by decide +kernel
theorem dX7_tryThing_212 : decode cX7_tryThing 212 = .ok (.ldc 191, 2) := by decide +kernel
theorem dX7_tryThing_214 : decode cX7_tryThing 214 = .ok (.invokevirtual 192, 3) := by decide +kernel
theorem dX7_tryThing_217 : decode cX7_tryThing 217 = .ok (.iload 5, 2) := by decide +kernel
theorem dX7_tryThing_219 : decode cX7_tryThing 219 = .ok (.if_icmp .lt 7, 3) := by decide +kernel
theorem dX7_tryThing_222 : decode cX7_tryThing 222 = .ok (.iconst 1, 1) := by decide +kernel
theorem dX7_tryThing_223 : decode cX7_tryThing 223 = .ok (.goto 4, 3) := by decide +kernel
theorem dX7_tryThing_226 : decode cX7_tryThing 226 = .ok (.iconst 0, 1) := by decide +kernel
theorem dX7_tryThing_227 : decode cX7_tryThing 227 = .ok (.ireturn, 1) := by decide +kernel
theorem dX7_tryThing_228 : decode cX7_tryThing 228 = .ok (.iconst 0, 1) := by decide +kernel
theorem dX7_tryThing_229 : decode cX7_tryThing 229 = .ok (.ireturn, 1) := by decide +kernel
theorem dX7_byFives_0 : decode cX7_byFives 0 = .ok (.lconst 1, 1) := by decide +kernel
theorem dX7_byFives_1 : decode cX7_byFives 1 = .ok (.lstore_n 1, 1) := by decide +kernel
theorem dX7_byFives_2 : decode cX7_byFives 2 = .ok (.iconst 0, 1) := by decide +kernel
theorem dX7_byFives_3 : decode cX7_byFives 3 = .ok (.istore_n 3, 1) := by decide +kernel
theorem dX7_byFives_4 : decode cX7_byFives 4 = .ok (.iload_n 3, 1) := by decide +kernel
theorem dX7_byFives_5 : decode cX7_byFives 5 = .ok (.iload_n 0, 1) := by decide +kernel
theorem dX7_byFives_6 : decode cX7_byFives 6 = .ok (.if_icmp .ge 15, 3) := by decide +kernel
theorem dX7_byFives_9 : decode cX7_byFives 9 = .ok (.lload_n 1, 1) := by decide +kernel
theorem dX7_byFives_10 : decode cX7_byFives 10 = .ok (.ldc2_w 233, 3) := by decide +kernel
theorem dX7_byFives_13 : decode cX7_byFives 13 = .ok (.lmul, 1) := by decide +kernel
theorem dX7_byFives_14 : decode cX7_byFives 14 = .ok (.lstore_n 1, 1) := by decide +kernel
theorem dX7_byFives_15 : decode cX7_byFives 15 = .ok (.iinc 3 1, 3) := by decide +kernel
theorem dX7_byFives_18 : decode cX7_byFives 18 = .ok (.goto (-14), 3) := by decide +kernel
theorem dX7_byFives_21 : decode cX7_byFives 21 = .ok (.lload_n 1, 1) := by decide +kernel
theorem dX7_byFives_22 : decode cX7_byFives 22 = .ok (.lreturn, 1) := by decide +kernel
theorem dX7_judge_0 : decode cX7_judge 0 = .ok (.iload_n 1, 1) := by decide +kernel
theorem dX7_judge_1 : decode cX7_judge 1 = .ok (.i2l, 1) := by decide +kernel
theorem dX7_judge_2 : decode cX7_judge 2 = .ok (.lconst 1, 1) := by decide +kernel
theorem dX7_judge_3 : decode cX7_judge 3 = .ok (.ldc2_w 235, 3) := by decide +kernel
theorem dX7_judge_6 : decode cX7_judge 6 = .ok (.invokestatic 58, 3) := by decide +kernel
theorem dX7_judge_9 : decode cX7_judge 9 = .ok (.ifCond .eq 17, 3) := by decide +kernel
theorem dX7_judge_12 : decode cX7_judge 12 = .ok (.lload_n 2, 1) := by decide +kernel
theorem dX7_judge_13 : decode cX7_judge 13 = .ok (.lconst 0, 1) := by decide +kernel
theorem dX7_judge_14 : decode cX7_judge 14 = .ok (.iload_n 1, 1) := by decide +kernel
theorem dX7_judge_15 : decode cX7_judge 15 = .ok (.invokestatic 237, 3) := by decide +kernel
theorem dX7_judge_18 : decode cX7_judge 18 = .ok (.lconst 1, 1) := by decide +kernel
theorem dX7_judge_19 : decode cX7_judge 19 = .ok (.lsub, 1) := by decide +kernel
theorem dX7_judge_20 : decode cX7_judge 20 = .ok (.invokestatic 58, 3) := by decide +kernel
theorem dX7_judge_23 : decode cX7_judge 23 = .ok (.ifCond .ne 6, 3) := by decide +kernel
theorem dX7_judge_26 : decode cX7_judge 26 = .ok (.bipush (-2), 2) := by decide +kernel
theorem dX7_judge_28 : decode cX7_judge 28 = .ok (.ireturn, 1) := by decide +kernel
theorem dX7_judge_29 : decode cX7_judge 29 = .ok (.aload_n 0, 1) := by decide +kernel
theorem dX7_judge_30 : decode cX7_judge 30 = .ok (.invokevirtual 241, 3) := by decide +kernel
theorem dX7_judge_33 : decode cX7_judge 33 = .ok (.iconst 0, 1) := by decide +kernel
theorem dX7_judge_34 : decode cX7_judge 34 = .ok (.istore 4, 2) := by decide +kernel
theorem dX7_judge_36 : decode cX7_judge 36 = .ok (.iload 4, 2) := by decide +kernel
theorem dX7_judge_38 : decode cX7_judge 38 = .ok (.iload_n 1, 1) := by decide +kernel
theorem dX7_judge_39 : decode cX7_judge 39 = .ok (.if_icmp .ge 56, 3) := by decide +kernel
theorem dX7_judge_42 : decode cX7_judge 42 = .ok (.lload_n 2, 1) := by decide +kernel
theorem dX7_judge_43 : decode cX7_judge 43 = .ok (.iload_n 1, 1) := by decide +kernel
theorem dX7_judge_44 : decode cX7_judge 44 = .ok (.iconst 1, 1) := by decide +kernel
theorem dX7_judge_45 : decode cX7_judge 45 = .ok (.isub, 1) := by decide +kernel
theorem dX7_judge_46 : decode cX7_judge 46 = .ok (.iload 4, 2) := by decide +kernel
theorem dX7_judge_48 : decode cX7_judge 48 = .ok (.isub, 1) := by decide +kernel
theorem dX7_judge_49 : decode cX7_judge 49 = .ok (.invokestatic 237, 3) := by decide +kernel
theorem dX7_judge_52 : decode cX7_judge 52 = .ok (.ldiv, 1) := by decide +kernel
theorem dX7_judge_53 : decode cX7_judge 53 = .ok (.ldc2_w 233, 3) := by decide +kernel
theorem dX7_judge_56 : decode cX7_judge 56 = .ok (.lrem, 1) := by decide +kernel
theorem dX7_judge_57 : decode cX7_judge 57 = .ok (.l2i, 1) := by decide +kernel
theorem dX7_judge_58 : decode cX7_judge 58 = .ok (.istore 5, 2) := by decide +kernel
theorem dX7_judge_60 : decode cX7_judge 60 = .ok (.aload_n 0, 1) := by decide +kernel
theorem dX7_judge_61 : decode cX7_judge 61 = .ok (.iload 5, 2) := by decide +kernel
theorem dX7_judge_63 : decode cX7_judge 63 = .ok (.sipush 10000, 3) := by decide +kernel
theorem dX7_judge_66 : decode cX7_judge 66 = .ok (.idiv, 1) := by decide +kernel
theorem dX7_judge_67 : decode cX7_judge 67 = .ok (.iload 5, 2) := by decide +kernel
theorem dX7_judge_69 : decode cX7_judge 69 = .ok (.bipush 100, 2) := by decide +kernel
theorem dX7_judge_71 : decode cX7_judge 71 = .ok (.idiv, 1) := by decide +kernel
theorem dX7_judge_72 : decode cX7_judge 72 = .ok (.bipush 100, 2) := by decide +kernel
theorem dX7_judge_74 : decode cX7_judge 74 = .ok (.irem, 1) := by decide +kernel
theorem dX7_judge_75 : decode cX7_judge 75 = .ok (.iload 5, 2) := by decide +kernel
theorem dX7_judge_77 : decode cX7_judge 77 = .ok (.bipush 100, 2) := by decide +kernel
theorem dX7_judge_79 : decode cX7_judge 79 = .ok (.irem, 1) := by decide +kernel
theorem dX7_judge_80 : decode cX7_judge 80 = .ok (.invokevirtual 244, 3) := by decide +kernel
theorem dX7_judge_83 : decode cX7_judge 83 = .ok (.ifCond .ne 6, 3) := by decide +kernel
theorem dX7_judge_86 : decode cX7_judge 86 = .ok (.iload 4, 2) := by decide +kernel
theorem dX7_judge_88 : decode cX7_judge 88 = .ok (.ireturn, 1) := by decide +kernel
theorem dX7_judge_89 : decode cX7_judge 89 = .ok (.iinc 4 1, 3) := by decide +kernel
theorem dX7_judge_92 : decode cX7_judge 92 = .ok (.goto (-56), 3) := by decide +kernel
theorem dX7_judge_95 : decode cX7_judge 95 = .ok (.bipush (-9), 2) := by decide +kernel
theorem dX7_judge_97 : decode cX7_judge 97 = .ok (.ireturn, 1) := by decide +kernel
theorem dX7_see_0 : decode cX7_see 0 = .ok (.iload_n 1, 1) := by decide +kernel
theorem dX7_see_1 : decode cX7_see 1 = .ok (.invokestatic 122, 3) := by decide +kernel
theorem dX7_see_4 : decode cX7_see 4 = .ok (.ifCond .eq 17, 3) := by decide +kernel
theorem dX7_see_7 : decode cX7_see 7 = .ok (.iload_n 2, 1) := by decide +kernel
theorem dX7_see_8 : decode cX7_see 8 = .ok (.invokestatic 118, 3) := by decide +kernel
theorem dX7_see_11 : decode cX7_see 11 = .ok (.ifCond .eq 10, 3) := by decide +kernel
theorem dX7_see_14 : decode cX7_see 14 = .ok (.iload_n 3, 1) := by decide +kernel
theorem dX7_see_15 : decode cX7_see 15 = .ok (.invokestatic 118, 3) := by decide +kernel
theorem dX7_see_18 : decode cX7_see 18 = .ok (.ifCond .ne 5, 3) := by decide +kernel
theorem dX7_see_21 : decode cX7_see 21 = .ok (.iconst (-1), 1) := by decide +kernel
theorem dX7_see_22 : decode cX7_see 22 = .ok (.ireturn, 1) := by decide +kernel
theorem dX7_see_23 : decode cX7_see 23 = .ok (.iload_n 2, 1) := by decide +kernel
theorem dX7_see_24 : decode cX7_see 24 = .ok (.iload_n 3, 1) := by decide +kernel
theorem dX7_see_25 : decode cX7_see 25 = .ok (.if_icmp .eq 14, 3) := by decide +kernel
theorem dX7_see_28 : decode cX7_see 28 = .ok (.iload 4, 2) := by decide +kernel
theorem dX7_see_30 : decode cX7_see 30 = .ok (.i2l, 1) := by decide +kernel
theorem dX7_see_31 : decode cX7_see 31 = .ok (.lconst 0, 1) := by decide +kernel
theorem dX7_see_32 : decode cX7_see 32 = .ok (.lconst 1, 1) := by decide +kernel
theorem dX7_see_33 : decode cX7_see 33 = .ok (.invokestatic 58, 3) := by decide +kernel
theorem dX7_see_36 : decode cX7_see 36 = .ok (.ifCond .ne 6, 3) := by decide +kernel
theorem dX7_see_39 : decode cX7_see 39 = .ok (.bipush (-2), 2) := by decide +kernel
theorem dX7_see_41 : decode cX7_see 41 = .ok (.ireturn, 1) := by decide +kernel
theorem dX7_see_42 : decode cX7_see 42 = .ok (.aload_n 0, 1) := by decide +kernel
theorem dX7_see_43 : decode cX7_see 43 = .ok (.getfield 247, 3) := by decide +kernel
theorem dX7_see_46 : decode cX7_see 46 = .ok (.bipush 6, 2) := by decide +kernel
theorem dX7_see_48 : decode cX7_see 48 = .ok (.if_icmp .ne 6, 3) := by decide +kernel
theorem dX7_see_51 : decode cX7_see 51 = .ok (.bipush (-4), 2) := by decide +kernel
theorem dX7_see_53 : decode cX7_see 53 = .ok (.ireturn, 1) := by decide +kernel
theorem dX7_see_54 : decode cX7_see 54 = .ok (.aload_n 0, 1) := by decide +kernel
theorem dX7_see_55 : decode cX7_see 55 = .ok (.getfield 34, 3) := by decide +kernel
theorem dX7_see_58 : decode cX7_see 58 = .ok (.aload_n 0, 1) := by decide +kernel
theorem dX7_see_59 : decode cX7_see 59 = .ok (.getfield 247, 3) := by decide +kernel
theorem dX7_see_62 : decode cX7_see 62 = .ok (.iload_n 1, 1) := by decide +kernel
theorem dX7_see_63 : decode cX7_see 63 = .ok (.iastore, 1) := by decide +kernel
theorem dX7_see_64 : decode cX7_see 64 = .ok (.aload_n 0, 1) := by decide +kernel
theorem dX7_see_65 : decode cX7_see 65 = .ok (.getfield 37, 3) := by decide +kernel
theorem dX7_see_68 : decode cX7_see 68 = .ok (.aload_n 0, 1) := by decide +kernel
theorem dX7_see_69 : decode cX7_see 69 = .ok (.getfield 247, 3) := by decide +kernel
theorem dX7_see_72 : decode cX7_see 72 = .ok (.iload_n 2, 1) := by decide +kernel
theorem dX7_see_73 : decode cX7_see 73 = .ok (.iastore, 1) := by decide +kernel
theorem dX7_see_74 : decode cX7_see 74 = .ok (.aload_n 0, 1) := by decide +kernel
theorem dX7_see_75 : decode cX7_see 75 = .ok (.getfield 40, 3) := by decide +kernel
theorem dX7_see_78 : decode cX7_see 78 = .ok (.aload_n 0, 1) := by decide +kernel
theorem dX7_see_79 : decode cX7_see 79 = .ok (.getfield 247, 3) := by decide +kernel
theorem dX7_see_82 : decode cX7_see 82 = .ok (.iload_n 3, 1) := by decide +kernel
theorem dX7_see_83 : decode cX7_see 83 = .ok (.iastore, 1) := by decide +kernel
theorem dX7_see_84 : decode cX7_see 84 = .ok (.aload_n 0, 1) := by decide +kernel
theorem dX7_see_85 : decode cX7_see 85 = .ok (.getfield 43, 3) := by decide +kernel
theorem dX7_see_88 : decode cX7_see 88 = .ok (.aload_n 0, 1) := by decide +kernel
theorem dX7_see_89 : decode cX7_see 89 = .ok (.getfield 247, 3) := by decide +kernel
theorem dX7_see_92 : decode cX7_see 92 = .ok (.iload 4, 2) := by decide +kernel
theorem dX7_see_94 : decode cX7_see 94 = .ok (.iastore, 1) := by decide +kernel
theorem dX7_see_95 : decode cX7_see 95 = .ok (.aload_n 0, 1) := by decide +kernel
theorem dX7_see_96 : decode cX7_see 96 = .ok (.dup, 1) := by decide +kernel
theorem dX7_see_97 : decode cX7_see 97 = .ok (.getfield 247, 3) := by decide +kernel
theorem dX7_see_100 : decode cX7_see 100 = .ok (.iconst 1, 1) := by decide +kernel
theorem dX7_see_101 : decode cX7_see 101 = .ok (.iadd, 1) := by decide +kernel
theorem dX7_see_102 : decode cX7_see 102 = .ok (.putfield 247, 3) := by decide +kernel
theorem dX7_see_105 : decode cX7_see 105 = .ok (.aload_n 0, 1) := by decide +kernel
theorem dX7_see_106 : decode cX7_see 106 = .ok (.getfield 247, 3) := by decide +kernel
theorem dX7_see_109 : decode cX7_see 109 = .ok (.ireturn, 1) := by decide +kernel
theorem dX7_unsee_0 : decode cX7_unsee 0 = .ok (.aload_n 0, 1) := by decide +kernel
theorem dX7_unsee_1 : decode cX7_unsee 1 = .ok (.getfield 247, 3) := by decide +kernel
theorem dX7_unsee_4 : decode cX7_unsee 4 = .ok (.istore_n 1, 1) := by decide +kernel
theorem dX7_unsee_5 : decode cX7_unsee 5 = .ok (.aload_n 0, 1) := by decide +kernel
theorem dX7_unsee_6 : decode cX7_unsee 6 = .ok (.iconst 0, 1) := by decide +kernel
theorem dX7_unsee_7 : decode cX7_unsee 7 = .ok (.putfield 247, 3) := by decide +kernel
theorem dX7_unsee_10 : decode cX7_unsee 10 = .ok (.iload_n 1, 1) := by decide +kernel
theorem dX7_unsee_11 : decode cX7_unsee 11 = .ok (.ireturn, 1) := by decide +kernel
theorem dX7_mayBe_0 : decode cX7_mayBe 0 = .ok (.aload_n 0, 1) := by decide +kernel
theorem dX7_mayBe_1 : decode cX7_mayBe 1 = .ok (.invokevirtual 241, 3) := by decide +kernel
theorem dX7_mayBe_4 : decode cX7_mayBe 4 = .ok (.aload_n 0, 1) := by decide +kernel
theorem dX7_mayBe_5 : decode cX7_mayBe 5 = .ok (.iconst 1, 1) := by decide +kernel
theorem dX7_mayBe_6 : decode cX7_mayBe 6 = .ok (.iload_n 1, 1) := by decide +kernel
theorem dX7_mayBe_7 : decode cX7_mayBe 7 = .ok (.invokevirtual 162, 3) := by decide +kernel
theorem dX7_mayBe_10 : decode cX7_mayBe 10 = .ok (.iconst 1, 1) := by decide +kernel
theorem dX7_mayBe_11 : decode cX7_mayBe 11 = .ok (.istore_n 2, 1) := by decide +kernel
theorem dX7_mayBe_12 : decode cX7_mayBe 12 = .ok (.iconst 0, 1) := by decide +kernel
theorem dX7_mayBe_13 : decode cX7_mayBe 13 = .ok (.istore_n 3, 1) := by decide +kernel
theorem dX7_mayBe_14 : decode cX7_mayBe 14 = .ok (.iload_n 3, 1) := by decide +kernel
theorem dX7_mayBe_15 : decode cX7_mayBe 15 = .ok (.aload_n 0, 1) := by decide +kernel
theorem dX7_mayBe_16 : decode cX7_mayBe 16 = .ok (.getfield 247, 3) := by decide +kernel
theorem dX7_mayBe_19 : decode cX7_mayBe 19 = .ok (.if_icmp .ge 62, 3) := by decide +kernel
theorem dX7_mayBe_22 : decode cX7_mayBe 22 = .ok (.iload_n 2, 1) := by decide +kernel
theorem dX7_mayBe_23 : decode cX7_mayBe 23 = .ok (.ifCond .eq 58, 3) := by decide +kernel
theorem dX7_mayBe_26 : decode cX7_mayBe 26 = .ok (.aload_n 0, 1) := by decide +kernel
theorem dX7_mayBe_27 : decode cX7_mayBe 27 = .ok (.iconst 1, 1) := by decide +kernel
theorem dX7_mayBe_28 : decode cX7_mayBe 28 = .ok (.aload_n 0, 1) := by decide +kernel
theorem dX7_mayBe_29 : decode cX7_mayBe 29 = .ok (.getfield 37, 3) := by decide +kernel
theorem dX7_mayBe_32 : decode cX7_mayBe 32 = .ok (.iload_n 3, 1) := by decide +kernel
theorem dX7_mayBe_33 : decode cX7_mayBe 33 = .ok (.iaload, 1) := by decide +kernel
theorem dX7_mayBe_34 : decode cX7_mayBe 34 = .ok (.aload_n 0, 1) := by decide +kernel
theorem dX7_mayBe_35 : decode cX7_mayBe 35 = .ok (.getfield 40, 3) := by decide +kernel
theorem dX7_mayBe_38 : decode cX7_mayBe 38 = .ok (.iload_n 3, 1) := by decide +kernel
theorem dX7_mayBe_39 : decode cX7_mayBe 39 = .ok (.iaload, 1) := by decide +kernel
theorem dX7_mayBe_40 : decode cX7_mayBe 40 = .ok (.aload_n 0, 1) := by decide +kernel
theorem dX7_mayBe_41 : decode cX7_mayBe 41 = .ok (.getfield 34, 3) := by decide +kernel
theorem dX7_mayBe_44 : decode cX7_mayBe 44 = .ok (.iload_n 3, 1) := by decide +kernel
theorem dX7_mayBe_45 : decode cX7_mayBe 45 = .ok (.iaload, 1) := by decide +kernel
theorem dX7_mayBe_46 : decode cX7_mayBe 46 = .ok (.ldc 191, 2) := by decide +kernel
theorem dX7_mayBe_48 : decode cX7_mayBe 48 = .ok (.invokevirtual 223, 3) := by decide +kernel
theorem dX7_mayBe_51 : decode cX7_mayBe 51 = .ok (.aload_n 0, 1) := by decide +kernel
theorem dX7_mayBe_52 : decode cX7_mayBe 52 = .ok (.getfield 43, 3) := by decide +kernel
theorem dX7_mayBe_55 : decode cX7_mayBe 55 = .ok (.iload_n 3, 1) := by decide +kernel
theorem dX7_mayBe_56 : decode cX7_mayBe 56 = .ok (.iaload, 1) := by decide +kernel
theorem dX7_mayBe_57 : decode cX7_mayBe 57 = .ok (.iconst 1, 1) := by decide +kernel
theorem dX7_mayBe_58 : decode cX7_mayBe 58 = .ok (.if_icmp .ne 7, 3) := by decide +kernel
theorem dX7_mayBe_61 : decode cX7_mayBe 61 = .ok (.iconst 1, 1) := by decide +kernel
theorem dX7_mayBe_62 : decode cX7_mayBe 62 = .ok (.goto 4, 3) := by decide +kernel
theorem dX7_mayBe_65 : decode cX7_mayBe 65 = .ok (.iconst 0, 1) := by decide +kernel
theorem dX7_mayBe_66 : decode cX7_mayBe 66 = .ok (.if_icmp .ne 7, 3) := by decide +kernel
theorem dX7_mayBe_69 : decode cX7_mayBe 69 = .ok (.iconst 1, 1) := by decide +kernel
theorem dX7_mayBe_70 : decode cX7_mayBe 70 = .ok (.goto 4, 3) := by decide +kernel
theorem dX7_mayBe_73 : decode cX7_mayBe 73 = .ok (.iconst 0, 1) := by decide +kernel
theorem dX7_mayBe_74 : decode cX7_mayBe 74 = .ok (.istore_n 2, 1) := by decide +kernel
theorem dX7_mayBe_75 : decode cX7_mayBe 75 = .ok (.iinc 3 1, 3) := by decide +kernel
theorem dX7_mayBe_78 : decode cX7_mayBe 78 = .ok (.goto (-64), 3) := by decide +kernel
theorem dX7_mayBe_81 : decode cX7_mayBe 81 = .ok (.iload_n 2, 1) := by decide +kernel
theorem dX7_mayBe_82 : decode cX7_mayBe 82 = .ok (.ireturn, 1) := by decide +kernel
theorem dX7_missing_0 : decode cX7_missing 0 = .ok (.iload_n 1, 1) := by decide +kernel
theorem dX7_missing_1 : decode cX7_missing 1 = .ok (.i2l, 1) := by decide +kernel
theorem dX7_missing_2 : decode cX7_missing 2 = .ok (.lconst 0, 1) := by decide +kernel
theorem dX7_missing_3 : decode cX7_missing 3 = .ok (.lconst 1, 1) := by decide +kernel
theorem dX7_missing_4 : decode cX7_missing 4 = .ok (.invokestatic 58, 3) := by decide +kernel
theorem dX7_missing_7 : decode cX7_missing 7 = .ok (.ifCond .ne 6, 3) := by decide +kernel
theorem dX7_missing_10 : decode cX7_missing 10 = .ok (.bipush (-2), 2) := by decide +kernel
theorem dX7_missing_12 : decode cX7_missing 12 = .ok (.ireturn, 1) := by decide +kernel
theorem dX7_missing_13 : decode cX7_missing 13 = .ok (.aload_n 0, 1) := by decide +kernel
theorem dX7_missing_14 : decode cX7_missing 14 = .ok (.iconst 0, 1) := by decide +kernel
theorem dX7_missing_15 : decode cX7_missing 15 = .ok (.invokevirtual 105, 3) := by decide +kernel
theorem dX7_missing_18 : decode cX7_missing 18 = .ok (.bipush 16, 2) := by decide +kernel
theorem dX7_missing_20 : decode cX7_missing 20 = .ok (.if_icmp .ne 6, 3) := by decide +kernel
theorem dX7_missing_23 : decode cX7_missing 23 = .ok (.bipush (-4), 2) := by decide +kernel
theorem dX7_missing_25 : decode cX7_missing 25 = .ok (.ireturn, 1) := by decide +kernel
theorem dX7_missing_26 : decode cX7_missing 26 = .ok (.iconst 0, 1) := by decide +kernel
theorem dX7_missing_27 : decode cX7_missing 27 = .ok (.istore_n 2, 1) := by decide +kernel
theorem dX7_missing_28 : decode cX7_missing 28 = .ok (.bipush (-9), 2) := by decide +kernel
theorem dX7_missing_30 : decode cX7_missing 30 = .ok (.istore_n 3, 1) := by decide +kernel
theorem dX7_missing_31 : decode cX7_missing 31 = .ok (.iconst 0, 1) := by decide +kernel
theorem dX7_missing_32 : decode cX7_missing 32 = .ok (.istore 4, 2) := by decide +kernel
theorem dX7_missing_34 : decode cX7_missing 34 = .ok (.iload 4, 2) := by decide +kernel
theorem dX7_missing_36 : decode cX7_missing 36 = .ok (.sipush 16384, 3) := by decide +kernel
theorem dX7_missing_39 : decode cX7_missing 39 = .ok (.if_icmp .ge 116, 3) := by decide +kernel
theorem dX7_missing_42 : decode cX7_missing 42 = .ok (.iload 4, 2) := by decide +kernel
theorem dX7_missing_44 : decode cX7_missing 44 = .ok (.invokestatic 112, 3) := by decide +kernel
theorem dX7_missing_47 : decode cX7_missing 47 = .ok (.iload 4, 2) := by decide +kernel
theorem dX7_missing_49 : decode cX7_missing 49 = .ok (.invokestatic 115, 3) := by decide +kernel
theorem dX7_missing_52 : decode cX7_missing 52 = .ok (.if_icmp .ge 35, 3) := by decide +kernel
theorem dX7_missing_55 : decode cX7_missing 55 = .ok (.aload_n 0, 1) := by decide +kernel
theorem dX7_missing_56 : decode cX7_missing 56 = .ok (.iconst 0, 1) := by decide +kernel
theorem dX7_missing_57 : decode cX7_missing 57 = .ok (.iload 4, 2) := by decide +kernel
theorem dX7_missing_59 : decode cX7_missing 59 = .ok (.invokestatic 112, 3) := by decide +kernel
theorem dX7_missing_62 : decode cX7_missing 62 = .ok (.iload 4, 2) := by decide +kernel
theorem dX7_missing_64 : decode cX7_missing 64 = .ok (.invokestatic 115, 3) := by decide +kernel
theorem dX7_missing_67 : decode cX7_missing 67 = .ok (.iload 4, 2) := by decide +kernel
theorem dX7_missing_69 : decode cX7_missing 69 = .ok (.invokestatic 64, 3) := by decide +kernel
theorem dX7_missing_72 : decode cX7_missing 72 = .ok (.iload 4, 2) := by decide +kernel
theorem dX7_missing_74 : decode cX7_missing 74 = .ok (.invokestatic 68, 3) := by decide +kernel
theorem dX7_missing_77 : decode cX7_missing 77 = .ok (.invokevirtual 230, 3) := by decide +kernel
theorem dX7_missing_80 : decode cX7_missing 80 = .ok (.ifCond .eq 7, 3) := by decide +kernel
theorem dX7_missing_83 : decode cX7_missing 83 = .ok (.iconst 1, 1) := by decide +kernel
theorem dX7_missing_84 : decode cX7_missing 84 = .ok (.goto 4, 3) := by decide +kernel
theorem dX7_missing_87 : decode cX7_missing 87 = .ok (.iconst 0, 1) := by decide +kernel
theorem dX7_missing_88 : decode cX7_missing 88 = .ok (.istore 5, 2) := by decide +kernel
theorem dX7_missing_90 : decode cX7_missing 90 = .ok (.iload 5, 2) := by decide +kernel
theorem dX7_missing_92 : decode cX7_missing 92 = .ok (.ifCond .eq 57, 3) := by decide +kernel
theorem dX7_missing_95 : decode cX7_missing 95 = .ok (.aload_n 0, 1) := by decide +kernel
theorem dX7_missing_96 : decode cX7_missing 96 = .ok (.iload 4, 2) := by decide +kernel
theorem dX7_missing_98 : decode cX7_missing 98 = .ok (.invokevirtual 250, 3) := by decide +kernel
theorem dX7_missing_101 : decode cX7_missing 101 = .ok (.ifCond .eq 48, 3) := by decide +kernel
theorem dX7_missing_104 : decode cX7_missing 104 = .ok (.iload_n 2, 1) := by decide +kernel
theorem dX7_missing_105 : decode cX7_missing 105 = .ok (.ifCond .ne 39, 3) := by decide +kernel
theorem dX7_missing_108 : decode cX7_missing 108 = .ok (.ldc 253, 2) := by decide +kernel
theorem dX7_missing_110 : decode cX7_missing 110 = .ok (.iload 4, 2) := by decide +kernel
theorem dX7_missing_112 : decode cX7_missing 112 = .ok (.invokestatic 112, 3) := by decide +kernel
theorem dX7_missing_115 : decode cX7_missing 115 = .ok (.imul, 1) := by decide +kernel
theorem dX7_missing_116 : decode cX7_missing 116 = .ok (.sipush 10000, 3) := by decide +kernel
theorem dX7_missing_119 : decode cX7_missing 119 = .ok (.iload 4, 2) := by decide +kernel
theorem dX7_missing_121 : decode cX7_missing 121 = .ok (.invokestatic 115, 3) := by decide +kernel
theorem dX7_missing_124 : decode cX7_missing 124 = .ok (.imul, 1) := by decide +kernel
theorem dX7_missing_125 : decode cX7_missing 125 = .ok (.iadd, 1) := by decide +kernel
theorem dX7_missing_126 : decode cX7_missing 126 = .ok (.bipush 100, 2) := by decide +kernel
theorem dX7_missing_128 : decode cX7_missing 128 = .ok (.iload 4, 2) := by decide +kernel
theorem dX7_missing_130 : decode cX7_missing 130 = .ok (.invokestatic 64, 3) := by decide +kernel
theorem dX7_missing_133 : decode cX7_missing 133 = .ok (.imul, 1) := by decide +kernel
theorem dX7_missing_134 : decode cX7_missing 134 = .ok (.iadd, 1) := by decide +kernel
theorem dX7_missing_135 : decode cX7_missing 135 = .ok (.iload 4, 2) := by decide +kernel
theorem dX7_missing_137 : decode cX7_missing 137 = .ok (.invokestatic 68, 3) := by decide +kernel
theorem dX7_missing_140 : decode cX7_missing 140 = .ok (.iadd, 1) := by decide +kernel
theorem dX7_missing_141 : decode cX7_missing 141 = .ok (.goto 4, 3) := by decide +kernel
theorem dX7_missing_144 : decode cX7_missing 144 = .ok (.iload_n 3, 1) := by decide +kernel
theorem dX7_missing_145 : decode cX7_missing 145 = .ok (.istore_n 3, 1) := by decide +kernel
theorem dX7_missing_146 : decode cX7_missing 146 = .ok (.iinc 2 1, 3) := by decide +kernel
theorem dX7_missing_149 : decode cX7_missing 149 = .ok (.iinc 4 1, 3) := by decide +kernel
theorem dX7_missing_152 : decode cX7_missing 152 = .ok (.goto (-118), 3) := by decide +kernel
theorem dX7_missing_155 : decode cX7_missing 155 = .ok (.iload_n 1, 1) := by decide +kernel
theorem dX7_missing_156 : decode cX7_missing 156 = .ok (.ifCond .ne 7, 3) := by decide +kernel
theorem dX7_missing_159 : decode cX7_missing 159 = .ok (.iload_n 2, 1) := by decide +kernel
theorem dX7_missing_160 : decode cX7_missing 160 = .ok (.goto 4, 3) := by decide +kernel
theorem dX7_missing_163 : decode cX7_missing 163 = .ok (.iload_n 3, 1) := by decide +kernel
theorem dX7_missing_164 : decode cX7_missing 164 = .ok (.ireturn, 1) := by decide +kernel
theorem dX7_factorial_0 : decode cX7_factorial 0 = .ok (.iconst 1, 1) := by decide +kernel
theorem dX7_factorial_1 : decode cX7_factorial 1 = .ok (.istore_n 1, 1) := by decide +kernel
theorem dX7_factorial_2 : decode cX7_factorial 2 = .ok (.iconst 2, 1) := by decide +kernel
theorem dX7_factorial_3 : decode cX7_factorial 3 = .ok (.istore_n 2, 1) := by decide +kernel
theorem dX7_factorial_4 : decode cX7_factorial 4 = .ok (.iload_n 2, 1) := by decide +kernel
theorem dX7_factorial_5 : decode cX7_factorial 5 = .ok (.iload_n 0, 1) := by decide +kernel
theorem dX7_factorial_6 : decode cX7_factorial 6 = .ok (.if_icmp .gt 13, 3) := by decide +kernel
theorem dX7_factorial_9 : decode cX7_factorial 9 = .ok (.iload_n 1, 1) := by decide +kernel
theorem dX7_factorial_10 : decode cX7_factorial 10 = .ok (.iload_n 2, 1) := by decide +kernel
theorem dX7_factorial_11 : decode cX7_factorial 11 = .ok (.imul, 1) := by decide +kernel
theorem dX7_factorial_12 : decode cX7_factorial 12 = .ok (.istore_n 1, 1) := by decide +kernel
theorem dX7_factorial_13 : decode cX7_factorial 13 = .ok (.iinc 2 1, 3) := by decide +kernel
theorem dX7_factorial_16 : decode cX7_factorial 16 = .ok (.goto (-12), 3) := by decide +kernel
theorem dX7_factorial_19 : decode cX7_factorial 19 = .ok (.iload_n 1, 1) := by decide +kernel
theorem dX7_factorial_20 : decode cX7_factorial 20 = .ok (.ireturn, 1) := by decide +kernel
theorem dX7_common_0 : decode cX7_common 0 = .ok (.iload_n 0, 1) := by decide +kernel
theorem dX7_common_1 : decode cX7_common 1 = .ok (.ifCond .ge 8, 3) := by decide +kernel
theorem dX7_common_4 : decode cX7_common 4 = .ok (.iload_n 0, 1) := by decide +kernel
theorem dX7_common_5 : decode cX7_common 5 = .ok (.ineg, 1) := by decide +kernel
theorem dX7_common_6 : decode cX7_common 6 = .ok (.goto 4, 3) := by decide +kernel
theorem dX7_common_9 : decode cX7_common 9 = .ok (.iload_n 0, 1) := by decide +kernel
theorem dX7_common_10 : decode cX7_common 10 = .ok (.istore_n 2, 1) := by decide +kernel
theorem dX7_common_11 : decode cX7_common 11 = .ok (.iload_n 1, 1) := by decide +kernel
theorem dX7_common_12 : decode cX7_common 12 = .ok (.istore_n 3, 1) := by decide +kernel
theorem dX7_common_13 : decode cX7_common 13 = .ok (.iload_n 3, 1) := by decide +kernel
theorem dX7_common_14 : decode cX7_common 14 = .ok (.ifCond .eq 16, 3) := by decide +kernel
theorem dX7_common_17 : decode cX7_common 17 = .ok (.iload_n 2, 1) := by decide +kernel
theorem dX7_common_18 : decode cX7_common 18 = .ok (.iload_n 3, 1) := by decide +kernel
theorem dX7_common_19 : decode cX7_common 19 = .ok (.irem, 1) := by decide +kernel
theorem dX7_common_20 : decode cX7_common 20 = .ok (.istore 4, 2) := by decide +kernel
theorem dX7_common_22 : decode cX7_common 22 = .ok (.iload_n 3, 1) := by decide +kernel
theorem dX7_common_23 : decode cX7_common 23 = .ok (.istore_n 2, 1) := by decide +kernel
theorem dX7_common_24 : decode cX7_common 24 = .ok (.iload 4, 2) := by decide +kernel
theorem dX7_common_26 : decode cX7_common 26 = .ok (.istore_n 3, 1) := by decide +kernel
theorem dX7_common_27 : decode cX7_common 27 = .ok (.goto (-14), 3) := by decide +kernel
theorem dX7_common_30 : decode cX7_common 30 = .ok (.iload_n 2, 1) := by decide +kernel
theorem dX7_common_31 : decode cX7_common 31 = .ok (.ireturn, 1) := by decide +kernel
theorem dX7_findLiving_0 : decode cX7_findLiving 0 = .ok (.iconst 0, 1) := by decide +kernel
theorem dX7_findLiving_1 : decode cX7_findLiving 1 = .ok (.istore_n 2, 1) := by decide +kernel
theorem dX7_findLiving_2 : decode cX7_findLiving 2 = .ok (.iconst 0, 1) := by decide +kernel
theorem dX7_findLiving_3 : decode cX7_findLiving 3 = .ok (.istore_n 3, 1) := by decide +kernel
theorem dX7_findLiving_4 : decode cX7_findLiving 4 = .ok (.iload_n 3, 1) := by decide +kernel
theorem dX7_findLiving_5 : decode cX7_findLiving 5 = .ok (.aload_n 0, 1) := by decide +kernel
theorem dX7_findLiving_6 : decode cX7_findLiving 6 = .ok (.iconst 0, 1) := by decide +kernel
theorem dX7_findLiving_7 : decode cX7_findLiving 7 = .ok (.invokevirtual 105, 3) := by decide +kernel
theorem dX7_findLiving_10 : decode cX7_findLiving 10 = .ok (.if_icmp .ge 32, 3) := by decide +kernel
theorem dX7_findLiving_13 : decode cX7_findLiving 13 = .ok (.aload_n 0, 1) := by decide +kernel
theorem dX7_findLiving_14 : decode cX7_findLiving 14 = .ok (.iconst 0, 1) := by decide +kernel
theorem dX7_findLiving_15 : decode cX7_findLiving 15 = .ok (.iload_n 3, 1) := by decide +kernel
theorem dX7_findLiving_16 : decode cX7_findLiving 16 = .ok (.invokevirtual 108, 3) := by decide +kernel
theorem dX7_findLiving_19 : decode cX7_findLiving 19 = .ok (.iload_n 1, 1) := by decide +kernel
theorem dX7_findLiving_20 : decode cX7_findLiving 20 = .ok (.invokestatic 188, 3) := by decide +kernel
theorem dX7_findLiving_23 : decode cX7_findLiving 23 = .ok (.ifCond .eq 13, 3) := by decide +kernel
theorem dX7_findLiving_26 : decode cX7_findLiving 26 = .ok (.aload_n 0, 1) := by decide +kernel
theorem dX7_findLiving_27 : decode cX7_findLiving 27 = .ok (.getfield 46, 3) := by decide +kernel
theorem dX7_findLiving_30 : decode cX7_findLiving 30 = .ok (.iload_n 2, 1) := by decide +kernel
theorem dX7_findLiving_31 : decode cX7_findLiving 31 = .ok (.iload_n 3, 1) := by decide +kernel
theorem dX7_findLiving_32 : decode cX7_findLiving 32 = .ok (.iastore, 1) := by decide +kernel
theorem dX7_findLiving_33 : decode cX7_findLiving 33 = .ok (.iinc 2 1, 3) := by decide +kernel
theorem dX7_findLiving_36 : decode cX7_findLiving 36 = .ok (.iinc 3 1, 3) := by decide +kernel
theorem dX7_findLiving_39 : decode cX7_findLiving 39 = .ok (.goto (-35), 3) := by decide +kernel
theorem dX7_findLiving_42 : decode cX7_findLiving 42 = .ok (.iload_n 2, 1) := by decide +kernel
theorem dX7_findLiving_43 : decode cX7_findLiving 43 = .ok (.ireturn, 1) := by decide +kernel
theorem dX7_spansOf_0 : decode cX7_spansOf 0 = .ok (.iconst 0, 1) := by decide +kernel
theorem dX7_spansOf_1 : decode cX7_spansOf 1 = .ok (.istore_n 3, 1) := by decide +kernel
theorem dX7_spansOf_2 : decode cX7_spansOf 2 = .ok (.iconst 0, 1) := by decide +kernel
theorem dX7_spansOf_3 : decode cX7_spansOf 3 = .ok (.istore 4, 2) := by decide +kernel
theorem dX7_spansOf_5 : decode cX7_spansOf 5 = .ok (.iload 4, 2) := by decide +kernel
theorem dX7_spansOf_7 : decode cX7_spansOf 7 = .ok (.iload_n 2, 1) := by decide +kernel
theorem dX7_spansOf_8 : decode cX7_spansOf 8 = .ok (.if_icmp .ge 34, 3) := by decide +kernel
theorem dX7_spansOf_11 : decode cX7_spansOf 11 = .ok (.iload_n 3, 1) := by decide +kernel
theorem dX7_spansOf_12 : decode cX7_spansOf 12 = .ok (.iload_n 1, 1) := by decide +kernel
theorem dX7_spansOf_13 : decode cX7_spansOf 13 = .ok (.iload 4, 2) := by decide +kernel
theorem dX7_spansOf_15 : decode cX7_spansOf 15 = .ok (.invokestatic 185, 3) := by decide +kernel
theorem dX7_spansOf_18 : decode cX7_spansOf 18 = .ok (.ifCond .eq 15, 3) := by decide +kernel
theorem dX7_spansOf_21 : decode cX7_spansOf 21 = .ok (.iconst 1, 1) := by decide +kernel
theorem dX7_spansOf_22 : decode cX7_spansOf 22 = .ok (.aload_n 0, 1) := by decide +kernel
theorem dX7_spansOf_23 : decode cX7_spansOf 23 = .ok (.getfield 46, 3) := by decide +kernel
theorem dX7_spansOf_26 : decode cX7_spansOf 26 = .ok (.iload 4, 2) := by decide +kernel
theorem dX7_spansOf_28 : decode cX7_spansOf 28 = .ok (.iaload, 1) := by decide +kernel
theorem dX7_spansOf_29 : decode cX7_spansOf 29 = .ok (.ishl, 1) := by decide +kernel
theorem dX7_spansOf_30 : decode cX7_spansOf 30 = .ok (.goto 4, 3) := by decide +kernel
theorem dX7_spansOf_33 : decode cX7_spansOf 33 = .ok (.iconst 0, 1) := by decide +kernel
theorem dX7_spansOf_34 : decode cX7_spansOf 34 = .ok (.ior, 1) := by decide +kernel
theorem dX7_spansOf_35 : decode cX7_spansOf 35 = .ok (.istore_n 3, 1) := by decide +kernel
theorem dX7_spansOf_36 : decode cX7_spansOf 36 = .ok (.iinc 4 1, 3) := by decide +kernel
theorem dX7_spansOf_39 : decode cX7_spansOf 39 = .ok (.goto (-34), 3) := by decide +kernel
theorem dX7_spansOf_42 : decode cX7_spansOf 42 = .ok (.iload_n 3, 1) := by decide +kernel
theorem dX7_spansOf_43 : decode cX7_spansOf 43 = .ok (.ireturn, 1) := by decide +kernel
theorem dX7_share_0 : decode cX7_share 0 = .ok (.aload_n 0, 1) := by decide +kernel
theorem dX7_share_1 : decode cX7_share 1 = .ok (.iload_n 1, 1) := by decide +kernel
theorem dX7_share_2 : decode cX7_share 2 = .ok (.invokevirtual 145, 3) := by decide +kernel
theorem dX7_share_5 : decode cX7_share 5 = .ok (.ifCond .eq 10, 3) := by decide +kernel
theorem dX7_share_8 : decode cX7_share 8 = .ok (.iload_n 2, 1) := by decide +kernel
theorem dX7_share_9 : decode cX7_share 9 = .ok (.invokestatic 122, 3) := by decide +kernel
theorem dX7_share_12 : decode cX7_share 12 = .ok (.ifCond .ne 5, 3) := by decide +kernel
theorem dX7_share_15 : decode cX7_share 15 = .ok (.iconst (-1), 1) := by decide +kernel
theorem dX7_share_16 : decode cX7_share 16 = .ok (.ireturn, 1) := by decide +kernel
theorem dX7_share_17 : decode cX7_share 17 = .ok (.aload_n 0, 1) := by decide +kernel
theorem dX7_share_18 : decode cX7_share 18 = .ok (.iload_n 2, 1) := by decide +kernel
theorem dX7_share_19 : decode cX7_share 19 = .ok (.invokevirtual 254, 3) := by decide +kernel
theorem dX7_share_22 : decode cX7_share 22 = .ok (.istore 4, 2) := by decide +kernel
theorem dX7_share_24 : decode cX7_share 24 = .ok (.iload 4, 2) := by decide +kernel
theorem dX7_share_26 : decode cX7_share 26 = .ok (.bipush 8, 2) := by decide +kernel
theorem dX7_share_28 : decode cX7_share 28 = .ok (.if_icmp .le 6, 3) := by decide +kernel
theorem dX7_share_31 : decode cX7_share 31 = .ok (.bipush (-4), 2) := by decide +kernel
theorem dX7_share_33 : decode cX7_share 33 = .ok (.ireturn, 1) := by decide +kernel
theorem dX7_share_34 : decode cX7_share 34 = .ok (.iconst 0, 1) := by decide +kernel
theorem dX7_share_35 : decode cX7_share 35 = .ok (.istore 5, 2) := by decide +kernel
theorem dX7_share_37 : decode cX7_share 37 = .ok (.iconst 0, 1) := by decide +kernel
theorem dX7_share_38 : decode cX7_share 38 = .ok (.istore 6, 2) := by decide +kernel
theorem dX7_share_40 : decode cX7_share 40 = .ok (.iload 6, 2) := by decide +kernel
theorem dX7_share_42 : decode cX7_share 42 = .ok (.iconst 1, 1) := by decide +kernel
theorem dX7_share_43 : decode cX7_share 43 = .ok (.iload 4, 2) := by decide +kernel
theorem dX7_share_45 : decode cX7_share 45 = .ok (.ishl, 1) := by decide +kernel
theorem dX7_share_46 : decode cX7_share 46 = .ok (.if_icmp .ge 94, 3) := by decide +kernel
theorem dX7_share_49 : decode cX7_share 49 = .ok (.aload_n 0, 1) := by decide +kernel
theorem dX7_share_50 : decode cX7_share 50 = .ok (.iload 6, 2) := by decide +kernel
theorem dX7_share_52 : decode cX7_share 52 = .ok (.iload 4, 2) := by decide +kernel
theorem dX7_share_54 : decode cX7_share 54 = .ok (.invokevirtual 257, 3) := by decide +kernel
theorem dX7_share_57 : decode cX7_share 57 = .ok (.istore 7, 2) := by decide +kernel
theorem dX7_share_59 : decode cX7_share 59 = .ok (.iload 7, 2) := by decide +kernel
theorem dX7_share_61 : decode cX7_share 61 = .ok (.iload_n 1, 1) := by decide +kernel
theorem dX7_share_62 : decode cX7_share 62 = .ok (.invokestatic 185, 3) := by decide +kernel
theorem dX7_share_65 : decode cX7_share 65 = .ok (.ifCond .ne 69, 3) := by decide +kernel
theorem dX7_share_68 : decode cX7_share 68 = .ok (.aload_n 0, 1) := by decide +kernel
theorem dX7_share_69 : decode cX7_share 69 = .ok (.iconst 0, 1) := by decide +kernel
theorem dX7_share_70 : decode cX7_share 70 = .ok (.iload_n 1, 1) := by decide +kernel
theorem dX7_share_71 : decode cX7_share 71 = .ok (.invokevirtual 108, 3) := by decide +kernel
theorem dX7_share_74 : decode cX7_share 74 = .ok (.iload_n 2, 1) := by decide +kernel
theorem dX7_share_75 : decode cX7_share 75 = .ok (.invokestatic 188, 3) := by decide +kernel
theorem dX7_share_78 : decode cX7_share 78 = .ok (.ifCond .eq 56, 3) := by decide +kernel
theorem dX7_share_81 : decode cX7_share 81 = .ok (.iload 6, 2) := by decide +kernel
theorem dX7_share_83 : decode cX7_share 83 = .ok (.invokestatic 227, 3) := by decide +kernel
theorem dX7_share_86 : decode cX7_share 86 = .ok (.invokestatic 260, 3) := by decide +kernel
theorem dX7_share_89 : decode cX7_share 89 = .ok (.iload 4, 2) := by decide +kernel
theorem dX7_share_91 : decode cX7_share 91 = .ok (.iconst 1, 1) := by decide +kernel
theorem dX7_share_92 : decode cX7_share 92 = .ok (.isub, 1) := by decide +kernel
theorem dX7_share_93 : decode cX7_share 93 = .ok (.iload 6, 2) := by decide +kernel
theorem dX7_share_95 : decode cX7_share 95 = .ok (.invokestatic 227, 3) := by decide +kernel
theorem dX7_share_98 : decode cX7_share 98 = .ok (.isub, 1) := by decide +kernel
theorem dX7_share_99 : decode cX7_share 99 = .ok (.invokestatic 260, 3) := by decide +kernel
theorem dX7_share_102 : decode cX7_share 102 = .ok (.imul, 1) := by decide +kernel
theorem dX7_share_103 : decode cX7_share 103 = .ok (.istore 8, 2) := by decide +kernel
theorem dX7_share_105 : decode cX7_share 105 = .ok (.iload 5, 2) := by decide +kernel
theorem dX7_share_107 : decode cX7_share 107 = .ok (.iload 8, 2) := by decide +kernel
theorem dX7_share_109 : decode cX7_share 109 = .ok (.aload_n 0, 1) := by decide +kernel
theorem dX7_share_110 : decode cX7_share 110 = .ok (.iconst 0, 1) := by decide +kernel
theorem dX7_share_111 : decode cX7_share 111 = .ok (.iload_n 2, 1) := by decide +kernel
theorem dX7_share_112 : decode cX7_share 112 = .ok (.iload 7, 2) := by decide +kernel
theorem dX7_share_114 : decode cX7_share 114 = .ok (.invokevirtual 192, 3) := by decide +kernel
theorem dX7_share_117 : decode cX7_share 117 = .ok (.aload_n 0, 1) := by decide +kernel
theorem dX7_share_118 : decode cX7_share 118 = .ok (.iconst 0, 1) := by decide +kernel
theorem dX7_share_119 : decode cX7_share 119 = .ok (.iload_n 2, 1) := by decide +kernel
theorem dX7_share_120 : decode cX7_share 120 = .ok (.iload 7, 2) := by decide +kernel
theorem dX7_share_122 : decode cX7_share 122 = .ok (.iconst 1, 1) := by decide +kernel
theorem dX7_share_123 : decode cX7_share 123 = .ok (.iload_n 1, 1) := by decide +kernel
theorem dX7_share_124 : decode cX7_share 124 = .ok (.ishl, 1) := by decide +kernel
theorem dX7_share_125 : decode cX7_share 125 = .ok (.ior, 1) := by decide +kernel
theorem dX7_share_126 : decode cX7_share 126 = .ok (.invokevirtual 192, 3) := by decide +kernel
theorem dX7_share_129 : decode cX7_share 129 = .ok (.isub, 1) := by decide +kernel
theorem dX7_share_130 : decode cX7_share 130 = .ok (.imul, 1) := by decide +kernel
theorem dX7_share_131 : decode cX7_share 131 = .ok (.iadd, 1) := by decide +kernel
theorem dX7_share_132 : decode cX7_share 132 = .ok (.istore 5, 2) := by decide +kernel
theorem dX7_share_134 : decode cX7_share 134 = .ok (.iinc 6 1, 3) := by decide +kernel
theorem dX7_share_137 : decode cX7_share 137 = .ok (.goto (-97), 3) := by decide +kernel
theorem dX7_share_140 : decode cX7_share 140 = .ok (.iload 5, 2) := by decide +kernel
theorem dX7_share_142 : decode cX7_share 142 = .ok (.iload 4, 2) := by decide +kernel
theorem dX7_share_144 : decode cX7_share 144 = .ok (.invokestatic 260, 3) := by decide +kernel
theorem dX7_share_147 : decode cX7_share 147 = .ok (.invokestatic 263, 3) := by decide +kernel
theorem dX7_share_150 : decode cX7_share 150 = .ok (.istore 6, 2) := by decide +kernel
theorem dX7_share_152 : decode cX7_share 152 = .ok (.iload_n 3, 1) := by decide +kernel
theorem dX7_share_153 : decode cX7_share 153 = .ok (.ifCond .eq 11, 3) := by decide +kernel
theorem dX7_share_156 : decode cX7_share 156 = .ok (.iload 5, 2) := by decide +kernel
theorem dX7_share_158 : decode cX7_share 158 = .ok (.iload 6, 2) := by decide +kernel
theorem dX7_share_160 : decode cX7_share 160 = .ok (.idiv, 1) := by decide +kernel
theorem dX7_share_161 : decode cX7_share 161 = .ok (.goto 11, 3) := by decide +kernel
theorem dX7_share_164 : decode cX7_share 164 = .ok (.iload 4, 2) := by decide +kernel
theorem dX7_share_166 : decode cX7_share 166 = .ok (.invokestatic 260, 3) := by decide +kernel
theorem dX7_share_169 : decode cX7_share 169 = .ok (.iload 6, 2) := by decide +kernel
theorem dX7_share_171 : decode cX7_share 171 = .ok (.idiv, 1) := by decide +kernel
theorem dX7_share_172 : decode cX7_share 172 = .ok (.ireturn, 1) := by decide +kernel
theorem dX7_fails_0 : decode cX7_fails 0 = .ok (.iload_n 1, 1) := by decide +kernel
theorem dX7_fails_1 : decode cX7_fails 1 = .ok (.invokestatic 118, 3) := by decide +kernel
theorem dX7_fails_4 : decode cX7_fails 4 = .ok (.ifCond .eq 17, 3) := by decide +kernel
theorem dX7_fails_7 : decode cX7_fails 7 = .ok (.iload_n 2, 1) := by decide +kernel
theorem dX7_fails_8 : decode cX7_fails 8 = .ok (.invokestatic 118, 3) := by decide +kernel
theorem dX7_fails_11 : decode cX7_fails 11 = .ok (.ifCond .eq 10, 3) := by decide +kernel
theorem dX7_fails_14 : decode cX7_fails 14 = .ok (.iload_n 3, 1) := by decide +kernel
theorem dX7_fails_15 : decode cX7_fails 15 = .ok (.invokestatic 122, 3) := by decide +kernel
theorem dX7_fails_18 : decode cX7_fails 18 = .ok (.ifCond .ne 5, 3) := by decide +kernel
theorem dX7_fails_21 : decode cX7_fails 21 = .ok (.iconst (-1), 1) := by decide +kernel
theorem dX7_fails_22 : decode cX7_fails 22 = .ok (.ireturn, 1) := by decide +kernel
theorem dX7_fails_23 : decode cX7_fails 23 = .ok (.iload 4, 2) := by decide +kernel
theorem dX7_fails_25 : decode cX7_fails 25 = .ok (.i2l, 1) := by decide +kernel
theorem dX7_fails_26 : decode cX7_fails 26 = .ok (.lconst 0, 1) := by decide +kernel
theorem dX7_fails_27 : decode cX7_fails 27 = .ok (.ldc2_w 266, 3) := by decide +kernel
theorem dX7_fails_30 : decode cX7_fails 30 = .ok (.invokestatic 58, 3) := by decide +kernel
theorem dX7_fails_33 : decode cX7_fails 33 = .ok (.ifCond .ne 6, 3) := by decide +kernel
theorem dX7_fails_36 : decode cX7_fails 36 = .ok (.bipush (-2), 2) := by decide +kernel
theorem dX7_fails_38 : decode cX7_fails 38 = .ok (.ireturn, 1) := by decide +kernel
theorem dX7_fails_39 : decode cX7_fails 39 = .ok (.aload_n 0, 1) := by decide +kernel
theorem dX7_fails_40 : decode cX7_fails 40 = .ok (.iload_n 3, 1) := by decide +kernel
theorem dX7_fails_41 : decode cX7_fails 41 = .ok (.invokevirtual 254, 3) := by decide +kernel
theorem dX7_fails_44 : decode cX7_fails 44 = .ok (.istore 6, 2) := by decide +kernel
theorem dX7_fails_46 : decode cX7_fails 46 = .ok (.iload 6, 2) := by decide +kernel
theorem dX7_fails_48 : decode cX7_fails 48 = .ok (.bipush 8, 2) := by decide +kernel
theorem dX7_fails_50 : decode cX7_fails 50 = .ok (.if_icmp .le 6, 3) := by decide +kernel
theorem dX7_fails_53 : decode cX7_fails 53 = .ok (.bipush (-4), 2) := by decide +kernel
theorem dX7_fails_55 : decode cX7_fails 55 = .ok (.ireturn, 1) := by decide +kernel
theorem dX7_fails_56 : decode cX7_fails 56 = .ok (.iconst 0, 1) := by decide +kernel
theorem dX7_fails_57 : decode cX7_fails 57 = .ok (.istore 7, 2) := by decide +kernel
theorem dX7_fails_59 : decode cX7_fails 59 = .ok (.iconst 0, 1) := by decide +kernel
theorem dX7_fails_60 : decode cX7_fails 60 = .ok (.istore 8, 2) := by decide +kernel
theorem dX7_fails_62 : decode cX7_fails 62 = .ok (.iconst 0, 1) := by decide +kernel
theorem dX7_fails_63 : decode cX7_fails 63 = .ok (.istore 9, 2) := by decide +kernel
theorem dX7_fails_65 : decode cX7_fails 65 = .ok (.iload 9, 2) := by decide +kernel
theorem dX7_fails_67 : decode cX7_fails 67 = .ok (.iconst 1, 1) := by decide +kernel
theorem dX7_fails_68 : decode cX7_fails 68 = .ok (.iload 6, 2) := by decide +kernel
theorem dX7_fails_70 : decode cX7_fails 70 = .ok (.ishl, 1) := by decide +kernel
theorem dX7_fails_71 : decode cX7_fails 71 = .ok (.if_icmp .ge 90, 3) := by decide +kernel
theorem dX7_fails_74 : decode cX7_fails 74 = .ok (.iconst 1, 1) := by decide +kernel
theorem dX7_fails_75 : decode cX7_fails 75 = .ok (.istore 10, 2) := by decide +kernel
theorem dX7_fails_77 : decode cX7_fails 77 = .ok (.iconst 0, 1) := by decide +kernel
theorem dX7_fails_78 : decode cX7_fails 78 = .ok (.istore 11, 2) := by decide +kernel
theorem dX7_fails_80 : decode cX7_fails 80 = .ok (.iload 11, 2) := by decide +kernel
theorem dX7_fails_82 : decode cX7_fails 82 = .ok (.iload 6, 2) := by decide +kernel
theorem dX7_fails_84 : decode cX7_fails 84 = .ok (.if_icmp .ge 34, 3) := by decide +kernel
theorem dX7_fails_87 : decode cX7_fails 87 = .ok (.iload 10, 2) := by decide +kernel
theorem dX7_fails_89 : decode cX7_fails 89 = .ok (.iload 9, 2) := by decide +kernel
theorem dX7_fails_91 : decode cX7_fails 91 = .ok (.iload 11, 2) := by decide +kernel
theorem dX7_fails_93 : decode cX7_fails 93 = .ok (.invokestatic 185, 3) := by decide +kernel
theorem dX7_fails_96 : decode cX7_fails 96 = .ok (.ifCond .eq 11, 3) := by decide +kernel
theorem dX7_fails_99 : decode cX7_fails 99 = .ok (.bipush 10, 2) := by decide +kernel
theorem dX7_fails_101 : decode cX7_fails 101 = .ok (.iload 4, 2) := by decide +kernel
theorem dX7_fails_103 : decode cX7_fails 103 = .ok (.isub, 1) := by decide +kernel
theorem dX7_fails_104 : decode cX7_fails 104 = .ok (.goto 5, 3) := by decide +kernel
theorem dX7_fails_107 : decode cX7_fails 107 = .ok (.iload 4, 2) := by decide +kernel
theorem dX7_fails_109 : decode cX7_fails 109 = .ok (.imul, 1) := by decide +kernel
theorem dX7_fails_110 : decode cX7_fails 110 = .ok (.istore 10, 2) := by decide +kernel
theorem dX7_fails_112 : decode cX7_fails 112 = .ok (.iinc 11 1, 3) := by decide +kernel
theorem dX7_fails_115 : decode cX7_fails 115 = .ok (.goto (-35), 3) := by decide +kernel
theorem dX7_fails_118 : decode cX7_fails 118 = .ok (.iload 8, 2) := by decide +kernel
theorem dX7_fails_120 : decode cX7_fails 120 = .ok (.iload 10, 2) := by decide +kernel
theorem dX7_fails_122 : decode cX7_fails 122 = .ok (.iadd, 1) := by decide +kernel
theorem dX7_fails_123 : decode cX7_fails 123 = .ok (.istore 8, 2) := by decide +kernel
theorem dX7_fails_125 : decode cX7_fails 125 = .ok (.iload 7, 2) := by decide +kernel
theorem dX7_fails_127 : decode cX7_fails 127 = .ok (.aload_n 0, 1) := by decide +kernel
theorem dX7_fails_128 : decode cX7_fails 128 = .ok (.iconst 0, 1) := by decide +kernel
theorem dX7_fails_129 : decode cX7_fails 129 = .ok (.iload_n 1, 1) := by decide +kernel
theorem dX7_fails_130 : decode cX7_fails 130 = .ok (.iload_n 2, 1) := by decide +kernel
theorem dX7_fails_131 : decode cX7_fails 131 = .ok (.iload_n 3, 1) := by decide +kernel
theorem dX7_fails_132 : decode cX7_fails 132 = .ok (.aload_n 0, 1) := by decide +kernel
theorem dX7_fails_133 : decode cX7_fails 133 = .ok (.iload 9, 2) := by decide +kernel
theorem dX7_fails_135 : decode cX7_fails 135 = .ok (.iload 6, 2) := by decide +kernel
theorem dX7_fails_137 : decode cX7_fails 137 = .ok (.invokevirtual 257, 3) := by decide +kernel
theorem dX7_fails_140 : decode cX7_fails 140 = .ok (.invokevirtual 223, 3) := by decide +kernel
theorem dX7_fails_143 : decode cX7_fails 143 = .ok (.ifCond .eq 8, 3) := by decide +kernel
theorem dX7_fails_146 : decode cX7_fails 146 = .ok (.iload 10, 2) := by decide +kernel
theorem dX7_fails_148 : decode cX7_fails 148 = .ok (.goto 4, 3) := by decide +kernel
theorem dX7_fails_151 : decode cX7_fails 151 = .ok (.iconst 0, 1) := by decide +kernel
theorem dX7_fails_152 : decode cX7_fails 152 = .ok (.iadd, 1) := by decide +kernel
theorem dX7_fails_153 : decode cX7_fails 153 = .ok (.istore 7, 2) := by decide +kernel
theorem dX7_fails_155 : decode cX7_fails 155 = .ok (.iinc 9 1, 3) := by decide +kernel
theorem dX7_fails_158 : decode cX7_fails 158 = .ok (.goto (-93), 3) := by decide +kernel
theorem dX7_fails_161 : decode cX7_fails 161 = .ok (.iload 7, 2) := by decide +kernel
theorem dX7_fails_163 : decode cX7_fails 163 = .ok (.iload 8, 2) := by decide +kernel
theorem dX7_fails_165 : decode cX7_fails 165 = .ok (.invokestatic 263, 3) := by decide +kernel
theorem dX7_fails_168 : decode cX7_fails 168 = .ok (.istore 9, 2) := by decide +kernel
theorem dX7_fails_170 : decode cX7_fails 170 = .ok (.iload 5, 2) := by decide +kernel
theorem dX7_fails_172 : decode cX7_fails 172 = .ok (.ifCond .eq 11, 3) := by decide +kernel
theorem dX7_fails_175 : decode cX7_fails 175 = .ok (.iload 7, 2) := by decide +kernel
theorem dX7_fails_177 : decode cX7_fails 177 = .ok (.iload 9, 2) := by decide +kernel
theorem dX7_fails_179 : decode cX7_fails 179 = .ok (.idiv, 1) := by decide +kernel
theorem dX7_fails_180 : decode cX7_fails 180 = .ok (.goto 8, 3) := by decide +kernel
theorem dX7_fails_183 : decode cX7_fails 183 = .ok (.iload 8, 2) := by decide +kernel
theorem dX7_fails_185 : decode cX7_fails 185 = .ok (.iload 9, 2) := by decide +kernel
theorem dX7_fails_187 : decode cX7_fails 187 = .ok (.idiv, 1) := by decide +kernel
theorem dX7_fails_188 : decode cX7_fails 188 = .ok (.ireturn, 1) := by decide +kernel
theorem dX7_seed_0 : decode cX7_seed 0 = .ok (.aload_n 0, 1) := by decide +kernel
theorem dX7_seed_1 : decode cX7_seed 1 = .ok (.getfield 268, 3) := by decide +kernel
theorem dX7_seed_4 : decode cX7_seed 4 = .ok (.lstore_n 3, 1) := by decide +kernel
theorem dX7_seed_5 : decode cX7_seed 5 = .ok (.aload_n 0, 1) := by decide +kernel
theorem dX7_seed_6 : decode cX7_seed 6 = .ok (.lload_n 1, 1) := by decide +kernel
theorem dX7_seed_7 : decode cX7_seed 7 = .ok (.putfield 268, 3) := by decide +kernel
theorem dX7_seed_10 : decode cX7_seed 10 = .ok (.lload_n 3, 1) := by decide +kernel
theorem dX7_seed_11 : decode cX7_seed 11 = .ok (.lreturn, 1) := by decide +kernel
theorem dX7_drawn_0 : decode cX7_drawn 0 = .ok (.iload_n 1, 1) := by decide +kernel
theorem dX7_drawn_1 : decode cX7_drawn 1 = .ok (.i2l, 1) := by decide +kernel
theorem dX7_drawn_2 : decode cX7_drawn 2 = .ok (.lconst 1, 1) := by decide +kernel
theorem dX7_drawn_3 : decode cX7_drawn 3 = .ok (.ldc2_w 272, 3) := by decide +kernel
theorem dX7_drawn_6 : decode cX7_drawn 6 = .ok (.invokestatic 58, 3) := by decide +kernel
theorem dX7_drawn_9 : decode cX7_drawn 9 = .ok (.ifCond .ne 6, 3) := by decide +kernel
theorem dX7_drawn_12 : decode cX7_drawn 12 = .ok (.bipush (-2), 2) := by decide +kernel
theorem dX7_drawn_14 : decode cX7_drawn 14 = .ok (.ireturn, 1) := by decide +kernel
theorem dX7_drawn_15 : decode cX7_drawn 15 = .ok (.aload_n 0, 1) := by decide +kernel
theorem dX7_drawn_16 : decode cX7_drawn 16 = .ok (.invokevirtual 241, 3) := by decide +kernel
theorem dX7_drawn_19 : decode cX7_drawn 19 = .ok (.iconst 0, 1) := by decide +kernel
theorem dX7_drawn_20 : decode cX7_drawn 20 = .ok (.istore_n 2, 1) := by decide +kernel
theorem dX7_drawn_21 : decode cX7_drawn 21 = .ok (.iconst 0, 1) := by decide +kernel
theorem dX7_drawn_22 : decode cX7_drawn 22 = .ok (.istore_n 3, 1) := by decide +kernel
theorem dX7_drawn_23 : decode cX7_drawn 23 = .ok (.iload_n 3, 1) := by decide +kernel
theorem dX7_drawn_24 : decode cX7_drawn 24 = .ok (.iload_n 1, 1) := by decide +kernel
theorem dX7_drawn_25 : decode cX7_drawn 25 = .ok (.if_icmp .ge 137, 3) := by decide +kernel
theorem dX7_drawn_28 : decode cX7_drawn 28 = .ok (.aload_n 0, 1) := by decide +kernel
theorem dX7_drawn_29 : decode cX7_drawn 29 = .ok (.aload_n 0, 1) := by decide +kernel
theorem dX7_drawn_30 : decode cX7_drawn 30 = .ok (.getfield 268, 3) := by decide +kernel
theorem dX7_drawn_33 : decode cX7_drawn 33 = .ok (.ldc2_w 274, 3) := by decide +kernel
theorem dX7_drawn_36 : decode cX7_drawn 36 = .ok (.lmul, 1) := by decide +kernel
theorem dX7_drawn_37 : decode cX7_drawn 37 = .ok (.ldc2_w 276, 3) := by decide +kernel
theorem dX7_drawn_40 : decode cX7_drawn 40 = .ok (.ladd, 1) := by decide +kernel
theorem dX7_drawn_41 : decode cX7_drawn 41 = .ok (.putfield 268, 3) := by decide +kernel
theorem dX7_drawn_44 : decode cX7_drawn 44 = .ok (.aload_n 0, 1) := by decide +kernel
theorem dX7_drawn_45 : decode cX7_drawn 45 = .ok (.getfield 268, 3) := by decide +kernel
theorem dX7_drawn_48 : decode cX7_drawn 48 = .ok (.bipush 33, 2) := by decide +kernel
theorem dX7_drawn_50 : decode cX7_drawn 50 = .ok (.lushr, 1) := by decide +kernel
theorem dX7_drawn_51 : decode cX7_drawn 51 = .ok (.l2i, 1) := by decide +kernel
theorem dX7_drawn_52 : decode cX7_drawn 52 = .ok (.istore 4, 2) := by decide +kernel
theorem dX7_drawn_54 : decode cX7_drawn 54 = .ok (.iload 4, 2) := by decide +kernel
theorem dX7_drawn_56 : decode cX7_drawn 56 = .ok (.bipush 64, 2) := by decide +kernel
theorem dX7_drawn_58 : decode cX7_drawn 58 = .ok (.idiv, 1) := by decide +kernel
theorem dX7_drawn_59 : decode cX7_drawn 59 = .ok (.bipush 16, 2) := by decide +kernel
theorem dX7_drawn_61 : decode cX7_drawn 61 = .ok (.irem, 1) := by decide +kernel
theorem dX7_drawn_62 : decode cX7_drawn 62 = .ok (.istore 5, 2) := by decide +kernel
theorem dX7_drawn_64 : decode cX7_drawn 64 = .ok (.iload 5, 2) := by decide +kernel
theorem dX7_drawn_66 : decode cX7_drawn 66 = .ok (.iload 4, 2) := by decide +kernel
theorem dX7_drawn_68 : decode cX7_drawn 68 = .ok (.sipush 1024, 3) := by decide +kernel
theorem dX7_drawn_71 : decode cX7_drawn 71 = .ok (.idiv, 1) := by decide +kernel
theorem dX7_drawn_72 : decode cX7_drawn 72 = .ok (.bipush 16, 2) := by decide +kernel
theorem dX7_drawn_74 : decode cX7_drawn 74 = .ok (.irem, 1) := by decide +kernel
theorem dX7_drawn_75 : decode cX7_drawn 75 = .ok (.iadd, 1) := by decide +kernel
theorem dX7_drawn_76 : decode cX7_drawn 76 = .ok (.istore 6, 2) := by decide +kernel
theorem dX7_drawn_78 : decode cX7_drawn 78 = .ok (.iload 6, 2) := by decide +kernel
theorem dX7_drawn_80 : decode cX7_drawn 80 = .ok (.bipush 15, 2) := by decide +kernel
theorem dX7_drawn_82 : decode cX7_drawn 82 = .ok (.if_icmp .le 8, 3) := by decide +kernel
theorem dX7_drawn_85 : decode cX7_drawn 85 = .ok (.bipush 15, 2) := by decide +kernel
theorem dX7_drawn_87 : decode cX7_drawn 87 = .ok (.goto 5, 3) := by decide +kernel
theorem dX7_drawn_90 : decode cX7_drawn 90 = .ok (.iload 6, 2) := by decide +kernel
theorem dX7_drawn_92 : decode cX7_drawn 92 = .ok (.istore 6, 2) := by decide +kernel
theorem dX7_drawn_94 : decode cX7_drawn 94 = .ok (.aload_n 0, 1) := by decide +kernel
theorem dX7_drawn_95 : decode cX7_drawn 95 = .ok (.iconst 1, 1) := by decide +kernel
theorem dX7_drawn_96 : decode cX7_drawn 96 = .ok (.iload 4, 2) := by decide +kernel
theorem dX7_drawn_98 : decode cX7_drawn 98 = .ok (.bipush 8, 2) := by decide +kernel
theorem dX7_drawn_100 : decode cX7_drawn 100 = .ok (.irem, 1) := by decide +kernel
theorem dX7_drawn_101 : decode cX7_drawn 101 = .ok (.iload 4, 2) := by decide +kernel
theorem dX7_drawn_103 : decode cX7_drawn 103 = .ok (.bipush 8, 2) := by decide +kernel
theorem dX7_drawn_105 : decode cX7_drawn 105 = .ok (.idiv, 1) := by decide +kernel
theorem dX7_drawn_106 : decode cX7_drawn 106 = .ok (.bipush 8, 2) := by decide +kernel
theorem dX7_drawn_108 : decode cX7_drawn 108 = .ok (.irem, 1) := by decide +kernel
theorem dX7_drawn_109 : decode cX7_drawn 109 = .ok (.iload 5, 2) := by decide +kernel
theorem dX7_drawn_111 : decode cX7_drawn 111 = .ok (.iload 6, 2) := by decide +kernel
theorem dX7_drawn_113 : decode cX7_drawn 113 = .ok (.invokevirtual 230, 3) := by decide +kernel
theorem dX7_drawn_116 : decode cX7_drawn 116 = .ok (.ifCond .eq 28, 3) := by decide +kernel
theorem dX7_drawn_119 : decode cX7_drawn 119 = .ok (.aload_n 0, 1) := by decide +kernel
theorem dX7_drawn_120 : decode cX7_drawn 120 = .ok (.iconst 1, 1) := by decide +kernel
theorem dX7_drawn_121 : decode cX7_drawn 121 = .ok (.iload 4, 2) := by decide +kernel
theorem dX7_drawn_123 : decode cX7_drawn 123 = .ok (.bipush 8, 2) := by decide +kernel
theorem dX7_drawn_125 : decode cX7_drawn 125 = .ok (.irem, 1) := by decide +kernel
theorem dX7_drawn_126 : decode cX7_drawn 126 = .ok (.iload 4, 2) := by decide +kernel
theorem dX7_drawn_128 : decode cX7_drawn 128 = .ok (.bipush 8, 2) := by decide +kernel
theorem dX7_drawn_130 : decode cX7_drawn 130 = .ok (.idiv, 1) := by decide +kernel
theorem dX7_drawn_131 : decode cX7_drawn 131 = .ok (.bipush 8, 2) := by decide +kernel
theorem dX7_drawn_133 : decode cX7_drawn 133 = .ok (.irem, 1) := by decide +kernel
theorem dX7_drawn_134 : decode cX7_drawn 134 = .ok (.iload 5, 2) := by decide +kernel
theorem dX7_drawn_136 : decode cX7_drawn 136 = .ok (.iload 6, 2) := by decide +kernel
theorem dX7_drawn_138 : decode cX7_drawn 138 = .ok (.invokestatic 95, 3) := by decide +kernel
theorem dX7_drawn_141 : decode cX7_drawn 141 = .ok (.invokevirtual 162, 3) := by decide +kernel
theorem dX7_drawn_144 : decode cX7_drawn 144 = .ok (.iload_n 2, 1) := by decide +kernel
theorem dX7_drawn_145 : decode cX7_drawn 145 = .ok (.aload_n 0, 1) := by decide +kernel
theorem dX7_drawn_146 : decode cX7_drawn 146 = .ok (.iconst 1, 1) := by decide +kernel
theorem dX7_drawn_147 : decode cX7_drawn 147 = .ok (.bipush 8, 2) := by decide +kernel
theorem dX7_drawn_149 : decode cX7_drawn 149 = .ok (.ldc 191, 2) := by decide +kernel
theorem dX7_drawn_151 : decode cX7_drawn 151 = .ok (.invokevirtual 192, 3) := by decide +kernel
theorem dX7_drawn_154 : decode cX7_drawn 154 = .ok (.iadd, 1) := by decide +kernel
theorem dX7_drawn_155 : decode cX7_drawn 155 = .ok (.istore_n 2, 1) := by decide +kernel
theorem dX7_drawn_156 : decode cX7_drawn 156 = .ok (.iinc 3 1, 3) := by decide +kernel
theorem dX7_drawn_159 : decode cX7_drawn 159 = .ok (.goto (-136), 3) := by decide +kernel
theorem dX7_drawn_162 : decode cX7_drawn 162 = .ok (.iload_n 2, 1) := by decide +kernel
theorem dX7_drawn_163 : decode cX7_drawn 163 = .ok (.ireturn, 1) := by decide +kernel
theorem dX7_keep_0 : decode cX7_keep 0 = .ok (.iload_n 1, 1) := by decide +kernel
theorem dX7_keep_1 : decode cX7_keep 1 = .ok (.i2l, 1) := by decide +kernel
theorem dX7_keep_2 : decode cX7_keep 2 = .ok (.lconst 0, 1) := by decide +kernel
theorem dX7_keep_3 : decode cX7_keep 3 = .ok (.lconst 1, 1) := by decide +kernel
theorem dX7_keep_4 : decode cX7_keep 4 = .ok (.invokestatic 58, 3) := by decide +kernel
theorem dX7_keep_7 : decode cX7_keep 7 = .ok (.ifCond .ne 5, 3) := by decide +kernel
theorem dX7_keep_10 : decode cX7_keep 10 = .ok (.iconst (-1), 1) := by decide +kernel
theorem dX7_keep_11 : decode cX7_keep 11 = .ok (.ireturn, 1) := by decide +kernel
theorem dX7_keep_12 : decode cX7_keep 12 = .ok (.aload_n 0, 1) := by decide +kernel
theorem dX7_keep_13 : decode cX7_keep 13 = .ok (.getfield 49, 3) := by decide +kernel
theorem dX7_keep_16 : decode cX7_keep 16 = .ok (.iload_n 1, 1) := by decide +kernel
theorem dX7_keep_17 : decode cX7_keep 17 = .ok (.iconst 1, 1) := by decide +kernel
theorem dX7_keep_18 : decode cX7_keep 18 = .ok (.bastore, 1) := by decide +kernel
theorem dX7_keep_19 : decode cX7_keep 19 = .ok (.iconst 0, 1) := by decide +kernel
theorem dX7_keep_20 : decode cX7_keep 20 = .ok (.istore_n 2, 1) := by decide +kernel
theorem dX7_keep_21 : decode cX7_keep 21 = .ok (.iload_n 2, 1) := by decide +kernel
theorem dX7_keep_22 : decode cX7_keep 22 = .ok (.bipush 17, 2) := by decide +kernel
theorem dX7_keep_24 : decode cX7_keep 24 = .ok (.if_icmp .ge 26, 3) := by decide +kernel
theorem dX7_keep_27 : decode cX7_keep 27 = .ok (.aload_n 0, 1) := by decide +kernel
theorem dX7_keep_28 : decode cX7_keep 28 = .ok (.getfield 53, 3) := by decide +kernel
theorem dX7_keep_31 : decode cX7_keep 31 = .ok (.bipush 17, 2) := by decide +kernel
theorem dX7_keep_33 : decode cX7_keep 33 = .ok (.iload_n 1, 1) := by decide +kernel
theorem dX7_keep_34 : decode cX7_keep 34 = .ok (.imul, 1) := by decide +kernel
theorem dX7_keep_35 : decode cX7_keep 35 = .ok (.iload_n 2, 1) := by decide +kernel
theorem dX7_keep_36 : decode cX7_keep 36 = .ok (.iadd, 1) := by decide +kernel
theorem dX7_keep_37 : decode cX7_keep 37 = .ok (.aload_n 0, 1) := by decide +kernel
theorem dX7_keep_38 : decode cX7_keep 38 = .ok (.getfield 7, 3) := by decide +kernel
theorem dX7_keep_41 : decode cX7_keep 41 = .ok (.iload_n 2, 1) := by decide +kernel
theorem dX7_keep_42 : decode cX7_keep 42 = .ok (.iaload, 1) := by decide +kernel
theorem dX7_keep_43 : decode cX7_keep 43 = .ok (.iastore, 1) := by decide +kernel
theorem dX7_keep_44 : decode cX7_keep 44 = .ok (.iinc 2 1, 3) := by decide +kernel
theorem dX7_keep_47 : decode cX7_keep 47 = .ok (.goto (-26), 3) := by decide +kernel
theorem dX7_keep_50 : decode cX7_keep 50 = .ok (.aload_n 0, 1) := by decide +kernel
theorem dX7_keep_51 : decode cX7_keep 51 = .ok (.iconst 0, 1) := by decide +kernel
theorem dX7_keep_52 : decode cX7_keep 52 = .ok (.invokevirtual 105, 3) := by decide +kernel
theorem dX7_keep_55 : decode cX7_keep 55 = .ok (.ireturn, 1) := by decide +kernel
theorem dX7_again_0 : decode cX7_again 0 = .ok (.iload_n 1, 1) := by decide +kernel
theorem dX7_again_1 : decode cX7_again 1 = .ok (.i2l, 1) := by decide +kernel
theorem dX7_again_2 : decode cX7_again 2 = .ok (.lconst 0, 1) := by decide +kernel
theorem dX7_again_3 : decode cX7_again 3 = .ok (.lconst 1, 1) := by decide +kernel
theorem dX7_again_4 : decode cX7_again 4 = .ok (.invokestatic 58, 3) := by decide +kernel
theorem dX7_again_7 : decode cX7_again 7 = .ok (.ifCond .ne 5, 3) := by decide +kernel
theorem dX7_again_10 : decode cX7_again 10 = .ok (.iconst (-1), 1) := by decide +kernel
theorem dX7_again_11 : decode cX7_again 11 = .ok (.ireturn, 1) := by decide +kernel
theorem dX7_again_12 : decode cX7_again 12 = .ok (.aload_n 0, 1) := by decide +kernel
theorem dX7_again_13 : decode cX7_again 13 = .ok (.getfield 49, 3) := by decide +kernel
theorem dX7_again_16 : decode cX7_again 16 = .ok (.iload_n 1, 1) := by decide +kernel
theorem dX7_again_17 : decode cX7_again 17 = .ok (.baload, 1) := by decide +kernel
theorem dX7_again_18 : decode cX7_again 18 = .ok (.ifCond .ne 6, 3) := by decide +kernel
theorem dX7_again_21 : decode cX7_again 21 = .ok (.bipush (-3), 2) := by decide +kernel
theorem dX7_again_23 : decode cX7_again 23 = .ok (.ireturn, 1) := by decide +kernel
theorem dX7_again_24 : decode cX7_again 24 = .ok (.iconst 0, 1) := by decide +kernel
theorem dX7_again_25 : decode cX7_again 25 = .ok (.istore_n 2, 1) := by decide +kernel
theorem dX7_again_26 : decode cX7_again 26 = .ok (.iload_n 2, 1) := by decide +kernel
theorem dX7_again_27 : decode cX7_again 27 = .ok (.bipush 17, 2) := by decide +kernel
theorem dX7_again_29 : decode cX7_again 29 = .ok (.if_icmp .ge 26, 3) := by decide +kernel
theorem dX7_again_32 : decode cX7_again 32 = .ok (.aload_n 0, 1) := by decide +kernel
theorem dX7_again_33 : decode cX7_again 33 = .ok (.getfield 7, 3) := by decide +kernel
theorem dX7_again_36 : decode cX7_again 36 = .ok (.iload_n 2, 1) := by decide +kernel
theorem dX7_again_37 : decode cX7_again 37 = .ok (.aload_n 0, 1) := by decide +kernel
theorem dX7_again_38 : decode cX7_again 38 = .ok (.getfield 53, 3) := by decide +kernel
theorem dX7_again_41 : decode cX7_again 41 = .ok (.bipush 17, 2) := by decide +kernel
theorem dX7_again_43 : decode cX7_again 43 = .ok (.iload_n 1, 1) := by decide +kernel
theorem dX7_again_44 : decode cX7_again 44 = .ok (.imul, 1) := by decide +kernel
theorem dX7_again_45 : decode cX7_again 45 = .ok (.iload_n 2, 1) := by decide +kernel
theorem dX7_again_46 : decode cX7_again 46 = .ok (.iadd, 1) := by decide +kernel
theorem dX7_again_47 : decode cX7_again 47 = .ok (.iaload, 1) := by decide +kernel
theorem dX7_again_48 : decode cX7_again 48 = .ok (.iastore, 1) := by decide +kernel
theorem dX7_again_49 : decode cX7_again 49 = .ok (.iinc 2 1, 3) := by decide +kernel
theorem dX7_again_52 : decode cX7_again 52 = .ok (.goto (-26), 3) := by decide +kernel
theorem dX7_again_55 : decode cX7_again 55 = .ok (.aload_n 0, 1) := by decide +kernel
theorem dX7_again_56 : decode cX7_again 56 = .ok (.iconst 0, 1) := by decide +kernel
theorem dX7_again_57 : decode cX7_again 57 = .ok (.putfield 102, 3) := by decide +kernel
theorem dX7_again_60 : decode cX7_again 60 = .ok (.aload_n 0, 1) := by decide +kernel
theorem dX7_again_61 : decode cX7_again 61 = .ok (.iconst 0, 1) := by decide +kernel
theorem dX7_again_62 : decode cX7_again 62 = .ok (.invokevirtual 105, 3) := by decide +kernel
theorem dX7_again_65 : decode cX7_again 65 = .ok (.ireturn, 1) := by decide +kernel
theorem dX7_filledTimes_0 : decode cX7_filledTimes 0 = .ok (.iconst 0, 1) := by decide +kernel
theorem dX7_filledTimes_1 : decode cX7_filledTimes 1 = .ok (.istore_n 1, 1) := by decide +kernel
theorem dX7_filledTimes_2 : decode cX7_filledTimes 2 = .ok (.iconst 0, 1) := by decide +kernel
theorem dX7_filledTimes_3 : decode cX7_filledTimes 3 = .ok (.istore_n 2, 1) := by decide +kernel
theorem dX7_filledTimes_4 : decode cX7_filledTimes 4 = .ok (.iload_n 2, 1) := by decide +kernel
theorem dX7_filledTimes_5 : decode cX7_filledTimes 5 = .ok (.bipush 16, 2) := by decide +kernel
theorem dX7_filledTimes_7 : decode cX7_filledTimes 7 = .ok (.if_icmp .ge 27, 3) := by decide +kernel
theorem dX7_filledTimes_10 : decode cX7_filledTimes 10 = .ok (.iload_n 1, 1) := by decide +kernel
theorem dX7_filledTimes_11 : decode cX7_filledTimes 11 = .ok (.aload_n 0, 1) := by decide +kernel
theorem dX7_filledTimes_12 : decode cX7_filledTimes 12 = .ok (.iload_n 2, 1) := by decide +kernel
theorem dX7_filledTimes_13 : decode cX7_filledTimes 13 = .ok (.invokevirtual 209, 3) := by decide +kernel
theorem dX7_filledTimes_16 : decode cX7_filledTimes 16 = .ok (.ifCond .ne 7, 3) := by decide +kernel
theorem dX7_filledTimes_19 : decode cX7_filledTimes 19 = .ok (.iconst 0, 1) := by decide +kernel
theorem dX7_filledTimes_20 : decode cX7_filledTimes 20 = .ok (.goto 6, 3) := by decide +kernel
theorem dX7_filledTimes_23 : decode cX7_filledTimes 23 = .ok (.iconst 1, 1) := by decide +kernel
theorem dX7_filledTimes_24 : decode cX7_filledTimes 24 = .ok (.iload_n 2, 1) := by decide +kernel
theorem dX7_filledTimes_25 : decode cX7_filledTimes 25 = .ok (.ishl, 1) := by decide +kernel
theorem dX7_filledTimes_26 : decode cX7_filledTimes 26 = .ok (.ior, 1) := by decide +kernel
theorem dX7_filledTimes_27 : decode cX7_filledTimes 27 = .ok (.istore_n 1, 1) := by decide +kernel
theorem dX7_filledTimes_28 : decode cX7_filledTimes 28 = .ok (.iinc 2 1, 3) := by decide +kernel
theorem dX7_filledTimes_31 : decode cX7_filledTimes 31 = .ok (.goto (-27), 3) := by decide +kernel
theorem dX7_filledTimes_34 : decode cX7_filledTimes 34 = .ok (.iload_n 1, 1) := by decide +kernel
theorem dX7_filledTimes_35 : decode cX7_filledTimes 35 = .ok (.ireturn, 1) := by decide +kernel
theorem dX7_timesTogether_0 : decode cX7_timesTogether 0 = .ok (.iconst 0, 1) := by decide +kernel
theorem dX7_timesTogether_1 : decode cX7_timesTogether 1 = .ok (.istore_n 1, 1) := by decide +kernel
theorem dX7_timesTogether_2 : decode cX7_timesTogether 2 = .ok (.iconst 0, 1) := by decide +kernel
theorem dX7_timesTogether_3 : decode cX7_timesTogether 3 = .ok (.istore_n 2, 1) := by decide +kernel
theorem dX7_timesTogether_4 : decode cX7_timesTogether 4 = .ok (.iload_n 2, 1) := by decide +kernel
theorem dX7_timesTogether_5 : decode cX7_timesTogether 5 = .ok (.aload_n 0, 1) := by decide +kernel
theorem dX7_timesTogether_6 : decode cX7_timesTogether 6 = .ok (.iconst 0, 1) := by decide +kernel
theorem dX7_timesTogether_7 : decode cX7_timesTogether 7 = .ok (.invokevirtual 105, 3) := by decide +kernel
theorem dX7_timesTogether_10 : decode cX7_timesTogether 10 = .ok (.if_icmp .ge 33, 3) := by decide +kernel
theorem dX7_timesTogether_13 : decode cX7_timesTogether 13 = .ok (.iload_n 1, 1) := by decide +kernel
theorem dX7_timesTogether_14 : decode cX7_timesTogether 14 = .ok (.aload_n 0, 1) := by decide +kernel
theorem dX7_timesTogether_15 : decode cX7_timesTogether 15 = .ok (.iconst 0, 1) := by decide +kernel
theorem dX7_timesTogether_16 : decode cX7_timesTogether 16 = .ok (.iload_n 2, 1) := by decide +kernel
theorem dX7_timesTogether_17 : decode cX7_timesTogether 17 = .ok (.invokevirtual 108, 3) := by decide +kernel
theorem dX7_timesTogether_20 : decode cX7_timesTogether 20 = .ok (.invokestatic 68, 3) := by decide +kernel
theorem dX7_timesTogether_23 : decode cX7_timesTogether 23 = .ok (.aload_n 0, 1) := by decide +kernel
theorem dX7_timesTogether_24 : decode cX7_timesTogether 24 = .ok (.iconst 0, 1) := by decide +kernel
theorem dX7_timesTogether_25 : decode cX7_timesTogether 25 = .ok (.iload_n 2, 1) := by decide +kernel
theorem dX7_timesTogether_26 : decode cX7_timesTogether 26 = .ok (.invokevirtual 108, 3) := by decide +kernel
theorem dX7_timesTogether_29 : decode cX7_timesTogether 29 = .ok (.invokestatic 64, 3) := by decide +kernel
theorem dX7_timesTogether_32 : decode cX7_timesTogether 32 = .ok (.isub, 1) := by decide +kernel
theorem dX7_timesTogether_33 : decode cX7_timesTogether 33 = .ok (.iconst 1, 1) := by decide +kernel
theorem dX7_timesTogether_34 : decode cX7_timesTogether 34 = .ok (.iadd, 1) := by decide +kernel
theorem dX7_timesTogether_35 : decode cX7_timesTogether 35 = .ok (.iadd, 1) := by decide +kernel
theorem dX7_timesTogether_36 : decode cX7_timesTogether 36 = .ok (.istore_n 1, 1) := by decide +kernel
theorem dX7_timesTogether_37 : decode cX7_timesTogether 37 = .ok (.iinc 2 1, 3) := by decide +kernel
theorem dX7_timesTogether_40 : decode cX7_timesTogether 40 = .ok (.goto (-36), 3) := by decide +kernel
theorem dX7_timesTogether_43 : decode cX7_timesTogether 43 = .ok (.iload_n 1, 1) := by decide +kernel
theorem dX7_timesTogether_44 : decode cX7_timesTogether 44 = .ok (.ireturn, 1) := by decide +kernel
theorem dX7_count_0 : decode cX7_count 0 = .ok (.iload_n 1, 1) := by decide +kernel
theorem dX7_count_1 : decode cX7_count 1 = .ok (.tableswitch 70 0 5 #[39, 44, 50, 55, 60, 65], 39) := by decide +kernel
theorem dX7_count_40 : decode cX7_count 40 = .ok (.aload_n 0, 1) := by decide +kernel
theorem dX7_count_41 : decode cX7_count 41 = .ok (.getfield 73, 3) := by decide +kernel
theorem dX7_count_44 : decode cX7_count 44 = .ok (.ireturn, 1) := by decide +kernel
theorem dX7_count_45 : decode cX7_count 45 = .ok (.aload_n 0, 1) := by decide +kernel
theorem dX7_count_46 : decode cX7_count 46 = .ok (.iconst 0, 1) := by decide +kernel
theorem dX7_count_47 : decode cX7_count 47 = .ok (.invokevirtual 105, 3) := by decide +kernel
theorem dX7_count_50 : decode cX7_count 50 = .ok (.ireturn, 1) := by decide +kernel
theorem dX7_count_51 : decode cX7_count 51 = .ok (.aload_n 0, 1) := by decide +kernel
theorem dX7_count_52 : decode cX7_count 52 = .ok (.invokevirtual 278, 3) := by decide +kernel
theorem dX7_count_55 : decode cX7_count 55 = .ok (.ireturn, 1) := by decide +kernel
theorem dX7_count_56 : decode cX7_count 56 = .ok (.aload_n 0, 1) := by decide +kernel
theorem dX7_count_57 : decode cX7_count 57 = .ok (.invokevirtual 281, 3) := by decide +kernel
theorem dX7_count_60 : decode cX7_count 60 = .ok (.ireturn, 1) := by decide +kernel
theorem dX7_count_61 : decode cX7_count 61 = .ok (.aload_n 0, 1) := by decide +kernel
theorem dX7_count_62 : decode cX7_count 62 = .ok (.getfield 102, 3) := by decide +kernel
theorem dX7_count_65 : decode cX7_count 65 = .ok (.ireturn, 1) := by decide +kernel
theorem dX7_count_66 : decode cX7_count 66 = .ok (.aload_n 0, 1) := by decide +kernel
theorem dX7_count_67 : decode cX7_count 67 = .ok (.getfield 247, 3) := by decide +kernel
theorem dX7_count_70 : decode cX7_count 70 = .ok (.ireturn, 1) := by decide +kernel
theorem dX7_count_71 : decode cX7_count 71 = .ok (.bipush (-2), 2) := by decide +kernel
theorem dX7_count_73 : decode cX7_count 73 = .ok (.ireturn, 1) := by decide +kernel
end
section
theorem dL_law_0 : decode cL_law 0 = .ok (.new 7, 3) := by decide +kernel
theorem dL_law_3 : decode cL_law 3 = .ok (.dup, 1) := by decide +kernel
theorem dL_law_4 : decode cL_law 4 = .ok (.invokespecial 9, 3) := by decide +kernel
theorem dL_law_7 : decode cL_law 7 = .ok (.astore_n 1, 1) := by decide +kernel
theorem dL_law_8 : decode cL_law 8 = .ok (.new 10, 3) := by decide +kernel
theorem dL_law_11 : decode cL_law 11 = .ok (.dup, 1) := by decide +kernel
theorem dL_law_12 : decode cL_law 12 = .ok (.invokespecial 12, 3) := by decide +kernel
theorem dL_law_15 : decode cL_law 15 = .ok (.astore_n 2, 1) := by decide +kernel
theorem dL_law_16 : decode cL_law 16 = .ok (.iconst 0, 1) := by decide +kernel
theorem dL_law_17 : decode cL_law 17 = .ok (.istore_n 3, 1) := by decide +kernel
theorem dL_law_18 : decode cL_law 18 = .ok (.iload_n 3, 1) := by decide +kernel
theorem dL_law_19 : decode cL_law 19 = .ok (.aload_n 0, 1) := by decide +kernel
theorem dL_law_20 : decode cL_law 20 = .ok (.arraylength, 1) := by decide +kernel
theorem dL_law_21 : decode cL_law 21 = .ok (.bipush 6, 2) := by decide +kernel
theorem dL_law_23 : decode cL_law 23 = .ok (.isub, 1) := by decide +kernel
theorem dL_law_24 : decode cL_law 24 = .ok (.if_icmp .gt 1116, 3) := by decide +kernel
theorem dL_law_27 : decode cL_law 27 = .ok (.aload_n 0, 1) := by decide +kernel
theorem dL_law_28 : decode cL_law 28 = .ok (.iload_n 3, 1) := by decide +kernel
theorem dL_law_29 : decode cL_law 29 = .ok (.iaload, 1) := by decide +kernel
theorem dL_law_30 : decode cL_law 30 = .ok (.bipush 31, 2) := by decide +kernel
theorem dL_law_32 : decode cL_law 32 = .ok (.iand, 1) := by decide +kernel
theorem dL_law_33 : decode cL_law 33 = .ok (.tableswitch 1101 0 28 #[131, 154, 167, 180, 193, 226, 249, 302, 325, 358, 371, 404, 447, 490, 533, 556, 589, 612, 665, 728, 781, 794, 817, 876, 955, 1009, 1032, 1055, 1078], 131) := by decide +kernel
theorem dL_law_164 : decode cL_law 164 = .ok (.aload_n 1, 1) := by decide +kernel
theorem dL_law_165 : decode cL_law 165 = .ok (.aload_n 0, 1) := by decide +kernel
theorem dL_law_166 : decode cL_law 166 = .ok (.iload_n 3, 1) := by decide +kernel
theorem dL_law_167 : decode cL_law 167 = .ok (.iconst 1, 1) := by decide +kernel
theorem dL_law_168 : decode cL_law 168 = .ok (.iadd, 1) := by decide +kernel
theorem dL_law_169 : decode cL_law 169 = .ok (.iaload, 1) := by decide +kernel
theorem dL_law_170 : decode cL_law 170 = .ok (.invokevirtual 13, 3) := by decide +kernel
theorem dL_law_173 : decode cL_law 173 = .ok (.aload_n 2, 1) := by decide +kernel
theorem dL_law_174 : decode cL_law 174 = .ok (.aload_n 0, 1) := by decide +kernel
theorem dL_law_175 : decode cL_law 175 = .ok (.iload_n 3, 1) := by decide +kernel
theorem dL_law_176 : decode cL_law 176 = .ok (.iconst 1, 1) := by decide +kernel
theorem dL_law_177 : decode cL_law 177 = .ok (.iadd, 1) := by decide +kernel
theorem dL_law_178 : decode cL_law 178 = .ok (.iaload, 1) := by decide +kernel
theorem dL_law_179 : decode cL_law 179 = .ok (.invokevirtual 17, 3) := by decide +kernel
theorem dL_law_182 : decode cL_law 182 = .ok (.if_icmp .eq 952, 3) := by decide +kernel
theorem dL_law_185 : decode cL_law 185 = .ok (.iconst 0, 1) := by decide +kernel
theorem dL_law_186 : decode cL_law 186 = .ok (.ireturn, 1) := by decide +kernel
theorem dL_law_187 : decode cL_law 187 = .ok (.aload_n 1, 1) := by decide +kernel
theorem dL_law_188 : decode cL_law 188 = .ok (.invokevirtual 18, 3) := by decide +kernel
theorem dL_law_191 : decode cL_law 191 = .ok (.aload_n 2, 1) := by decide +kernel
theorem dL_law_192 : decode cL_law 192 = .ok (.invokevirtual 22, 3) := by decide +kernel
theorem dL_law_195 : decode cL_law 195 = .ok (.if_icmp .eq 939, 3) := by decide +kernel
theorem dL_law_198 : decode cL_law 198 = .ok (.iconst 0, 1) := by decide +kernel
theorem dL_law_199 : decode cL_law 199 = .ok (.ireturn, 1) := by decide +kernel
theorem dL_law_200 : decode cL_law 200 = .ok (.aload_n 1, 1) := by decide +kernel
theorem dL_law_201 : decode cL_law 201 = .ok (.invokevirtual 23, 3) := by decide +kernel
theorem dL_law_204 : decode cL_law 204 = .ok (.aload_n 2, 1) := by decide +kernel
theorem dL_law_205 : decode cL_law 205 = .ok (.invokevirtual 26, 3) := by decide +kernel
theorem dL_law_208 : decode cL_law 208 = .ok (.if_icmp .eq 926, 3) := by decide +kernel
theorem dL_law_211 : decode cL_law 211 = .ok (.iconst 0, 1) := by decide +kernel
theorem dL_law_212 : decode cL_law 212 = .ok (.ireturn, 1) := by decide +kernel
theorem dL_law_213 : decode cL_law 213 = .ok (.aload_n 1, 1) := by decide +kernel
theorem dL_law_214 : decode cL_law 214 = .ok (.invokevirtual 27, 3) := by decide +kernel
theorem dL_law_217 : decode cL_law 217 = .ok (.aload_n 2, 1) := by decide +kernel
theorem dL_law_218 : decode cL_law 218 = .ok (.invokevirtual 30, 3) := by decide +kernel
theorem dL_law_221 : decode cL_law 221 = .ok (.if_icmp .eq 913, 3) := by decide +kernel
theorem dL_law_224 : decode cL_law 224 = .ok (.iconst 0, 1) := by decide +kernel
theorem dL_law_225 : decode cL_law 225 = .ok (.ireturn, 1) := by decide +kernel
theorem dL_law_226 : decode cL_law 226 = .ok (.aload_n 1, 1) := by decide +kernel
theorem dL_law_227 : decode cL_law 227 = .ok (.aload_n 0, 1) := by decide +kernel
theorem dL_law_228 : decode cL_law 228 = .ok (.iload_n 3, 1) := by decide +kernel
theorem dL_law_229 : decode cL_law 229 = .ok (.iconst 1, 1) := by decide +kernel
theorem dL_law_230 : decode cL_law 230 = .ok (.iadd, 1) := by decide +kernel
theorem dL_law_231 : decode cL_law 231 = .ok (.iaload, 1) := by decide +kernel
theorem dL_law_232 : decode cL_law 232 = .ok (.aload_n 0, 1) := by decide +kernel
theorem dL_law_233 : decode cL_law 233 = .ok (.iload_n 3, 1) := by decide +kernel
theorem dL_law_234 : decode cL_law 234 = .ok (.iconst 2, 1) := by decide +kernel
theorem dL_law_235 : decode cL_law 235 = .ok (.iadd, 1) := by decide +kernel
theorem dL_law_236 : decode cL_law 236 = .ok (.iaload, 1) := by decide +kernel
theorem dL_law_237 : decode cL_law 237 = .ok (.invokevirtual 31, 3) := by decide +kernel
theorem dL_law_240 : decode cL_law 240 = .ok (.aload_n 2, 1) := by decide +kernel
theorem dL_law_241 : decode cL_law 241 = .ok (.aload_n 0, 1) := by decide +kernel
theorem dL_law_242 : decode cL_law 242 = .ok (.iload_n 3, 1) := by decide +kernel
theorem dL_law_243 : decode cL_law 243 = .ok (.iconst 1, 1) := by decide +kernel
theorem dL_law_244 : decode cL_law 244 = .ok (.iadd, 1) := by decide +kernel
theorem dL_law_245 : decode cL_law 245 = .ok (.iaload, 1) := by decide +kernel
theorem dL_law_246 : decode cL_law 246 = .ok (.aload_n 0, 1) := by decide +kernel
theorem dL_law_247 : decode cL_law 247 = .ok (.iload_n 3, 1) := by decide +kernel
theorem dL_law_248 : decode cL_law 248 = .ok (.iconst 2, 1) := by decide +kernel
theorem dL_law_249 : decode cL_law 249 = .ok (.iadd, 1) := by decide +kernel
theorem dL_law_250 : decode cL_law 250 = .ok (.iaload, 1) := by decide +kernel
theorem dL_law_251 : decode cL_law 251 = .ok (.invokevirtual 35, 3) := by decide +kernel
theorem dL_law_254 : decode cL_law 254 = .ok (.if_icmp .eq 880, 3) := by decide +kernel
theorem dL_law_257 : decode cL_law 257 = .ok (.iconst 0, 1) := by decide +kernel
theorem dL_law_258 : decode cL_law 258 = .ok (.ireturn, 1) := by decide +kernel
theorem dL_law_259 : decode cL_law 259 = .ok (.aload_n 1, 1) := by decide +kernel
theorem dL_law_260 : decode cL_law 260 = .ok (.aload_n 0, 1) := by decide +kernel
theorem dL_law_261 : decode cL_law 261 = .ok (.iload_n 3, 1) := by decide +kernel
theorem dL_law_262 : decode cL_law 262 = .ok (.iconst 1, 1) := by decide +kernel
theorem dL_law_263 : decode cL_law 263 = .ok (.iadd, 1) := by decide +kernel
theorem dL_law_264 : decode cL_law 264 = .ok (.iaload, 1) := by decide +kernel
theorem dL_law_265 : decode cL_law 265 = .ok (.invokevirtual 36, 3) := by decide +kernel
theorem dL_law_268 : decode cL_law 268 = .ok (.aload_n 2, 1) := by decide +kernel
theorem dL_law_269 : decode cL_law 269 = .ok (.aload_n 0, 1) := by decide +kernel
theorem dL_law_270 : decode cL_law 270 = .ok (.iload_n 3, 1) := by decide +kernel
theorem dL_law_271 : decode cL_law 271 = .ok (.iconst 1, 1) := by decide +kernel
theorem dL_law_272 : decode cL_law 272 = .ok (.iadd, 1) := by decide +kernel
theorem dL_law_273 : decode cL_law 273 = .ok (.iaload, 1) := by decide +kernel
theorem dL_law_274 : decode cL_law 274 = .ok (.invokevirtual 39, 3) := by decide +kernel
theorem dL_law_277 : decode cL_law 277 = .ok (.if_icmp .eq 857, 3) := by decide +kernel
theorem dL_law_280 : decode cL_law 280 = .ok (.iconst 0, 1) := by decide +kernel
theorem dL_law_281 : decode cL_law 281 = .ok (.ireturn, 1) := by decide +kernel
theorem dL_law_282 : decode cL_law 282 = .ok (.aload_n 1, 1) := by decide +kernel
theorem dL_law_283 : decode cL_law 283 = .ok (.aload_n 0, 1) := by decide +kernel
theorem dL_law_284 : decode cL_law 284 = .ok (.iload_n 3, 1) := by decide +kernel
theorem dL_law_285 : decode cL_law 285 = .ok (.iconst 1, 1) := by decide +kernel
theorem dL_law_286 : decode cL_law 286 = .ok (.iadd, 1) := by decide +kernel
theorem dL_law_287 : decode cL_law 287 = .ok (.iaload, 1) := by decide +kernel
theorem dL_law_288 : decode cL_law 288 = .ok (.aload_n 0, 1) := by decide +kernel
theorem dL_law_289 : decode cL_law 289 = .ok (.iload_n 3, 1) := by decide +kernel
theorem dL_law_290 : decode cL_law 290 = .ok (.iconst 2, 1) := by decide +kernel
theorem dL_law_291 : decode cL_law 291 = .ok (.iadd, 1) := by decide +kernel
theorem dL_law_292 : decode cL_law 292 = .ok (.iaload, 1) := by decide +kernel
theorem dL_law_293 : decode cL_law 293 = .ok (.aload_n 0, 1) := by decide +kernel
theorem dL_law_294 : decode cL_law 294 = .ok (.iload_n 3, 1) := by decide +kernel
theorem dL_law_295 : decode cL_law 295 = .ok (.iconst 3, 1) := by decide +kernel
theorem dL_law_296 : decode cL_law 296 = .ok (.iadd, 1) := by decide +kernel
theorem dL_law_297 : decode cL_law 297 = .ok (.iaload, 1) := by decide +kernel
theorem dL_law_298 : decode cL_law 298 = .ok (.aload_n 0, 1) := by decide +kernel
theorem dL_law_299 : decode cL_law 299 = .ok (.iload_n 3, 1) := by decide +kernel
theorem dL_law_300 : decode cL_law 300 = .ok (.iconst 4, 1) := by decide +kernel
theorem dL_law_301 : decode cL_law 301 = .ok (.iadd, 1) := by decide +kernel
theorem dL_law_302 : decode cL_law 302 = .ok (.iaload, 1) := by decide +kernel
theorem dL_law_303 : decode cL_law 303 = .ok (.invokevirtual 40, 3) := by decide +kernel
theorem dL_law_306 : decode cL_law 306 = .ok (.aload_n 2, 1) := by decide +kernel
theorem dL_law_307 : decode cL_law 307 = .ok (.aload_n 0, 1) := by decide +kernel
theorem dL_law_308 : decode cL_law 308 = .ok (.iload_n 3, 1) := by decide +kernel
theorem dL_law_309 : decode cL_law 309 = .ok (.iconst 1, 1) := by decide +kernel
theorem dL_law_310 : decode cL_law 310 = .ok (.iadd, 1) := by decide +kernel
theorem dL_law_311 : decode cL_law 311 = .ok (.iaload, 1) := by decide +kernel
theorem dL_law_312 : decode cL_law 312 = .ok (.aload_n 0, 1) := by decide +kernel
theorem dL_law_313 : decode cL_law 313 = .ok (.iload_n 3, 1) := by decide +kernel
theorem dL_law_314 : decode cL_law 314 = .ok (.iconst 2, 1) := by decide +kernel
theorem dL_law_315 : decode cL_law 315 = .ok (.iadd, 1) := by decide +kernel
theorem dL_law_316 : decode cL_law 316 = .ok (.iaload, 1) := by decide +kernel
theorem dL_law_317 : decode cL_law 317 = .ok (.aload_n 0, 1) := by decide +kernel
theorem dL_law_318 : decode cL_law 318 = .ok (.iload_n 3, 1) := by decide +kernel
theorem dL_law_319 : decode cL_law 319 = .ok (.iconst 3, 1) := by decide +kernel
theorem dL_law_320 : decode cL_law 320 = .ok (.iadd, 1) := by decide +kernel
theorem dL_law_321 : decode cL_law 321 = .ok (.iaload, 1) := by decide +kernel
theorem dL_law_322 : decode cL_law 322 = .ok (.aload_n 0, 1) := by decide +kernel
theorem dL_law_323 : decode cL_law 323 = .ok (.iload_n 3, 1) := by decide +kernel
theorem dL_law_324 : decode cL_law 324 = .ok (.iconst 4, 1) := by decide +kernel
theorem dL_law_325 : decode cL_law 325 = .ok (.iadd, 1) := by decide +kernel
theorem dL_law_326 : decode cL_law 326 = .ok (.iaload, 1) := by decide +kernel
theorem dL_law_327 : decode cL_law 327 = .ok (.invokevirtual 44, 3) := by decide +kernel
theorem dL_law_330 : decode cL_law 330 = .ok (.if_icmp .eq 804, 3) := by decide +kernel
theorem dL_law_333 : decode cL_law 333 = .ok (.iconst 0, 1) := by decide +kernel
theorem dL_law_334 : decode cL_law 334 = .ok (.ireturn, 1) := by decide +kernel
theorem dL_law_335 : decode cL_law 335 = .ok (.aload_n 1, 1) := by decide +kernel
theorem dL_law_336 : decode cL_law 336 = .ok (.aload_n 0, 1) := by decide +kernel
theorem dL_law_337 : decode cL_law 337 = .ok (.iload_n 3, 1) := by decide +kernel
theorem dL_law_338 : decode cL_law 338 = .ok (.iconst 1, 1) := by decide +kernel
theorem dL_law_339 : decode cL_law 339 = .ok (.iadd, 1) := by decide +kernel
theorem dL_law_340 : decode cL_law 340 = .ok (.iaload, 1) := by decide +kernel
theorem dL_law_341 : decode cL_law 341 = .ok (.invokevirtual 45, 3) := by decide +kernel
theorem dL_law_344 : decode cL_law 344 = .ok (.aload_n 2, 1) := by decide +kernel
theorem dL_law_345 : decode cL_law 345 = .ok (.aload_n 0, 1) := by decide +kernel
theorem dL_law_346 : decode cL_law 346 = .ok (.iload_n 3, 1) := by decide +kernel
theorem dL_law_347 : decode cL_law 347 = .ok (.iconst 1, 1) := by decide +kernel
theorem dL_law_348 : decode cL_law 348 = .ok (.iadd, 1) := by decide +kernel
theorem dL_law_349 : decode cL_law 349 = .ok (.iaload, 1) := by decide +kernel
theorem dL_law_350 : decode cL_law 350 = .ok (.invokevirtual 48, 3) := by decide +kernel
theorem dL_law_353 : decode cL_law 353 = .ok (.if_icmp .eq 781, 3) := by decide +kernel
theorem dL_law_356 : decode cL_law 356 = .ok (.iconst 0, 1) := by decide +kernel
theorem dL_law_357 : decode cL_law 357 = .ok (.ireturn, 1) := by decide +kernel
theorem dL_law_358 : decode cL_law 358 = .ok (.aload_n 1, 1) := by decide +kernel
theorem dL_law_359 : decode cL_law 359 = .ok (.aload_n 0, 1) := by decide +kernel
theorem dL_law_360 : decode cL_law 360 = .ok (.iload_n 3, 1) := by decide +kernel
theorem dL_law_361 : decode cL_law 361 = .ok (.iconst 1, 1) := by decide +kernel
theorem dL_law_362 : decode cL_law 362 = .ok (.iadd, 1) := by decide +kernel
theorem dL_law_363 : decode cL_law 363 = .ok (.iaload, 1) := by decide +kernel
theorem dL_law_364 : decode cL_law 364 = .ok (.aload_n 0, 1) := by decide +kernel
theorem dL_law_365 : decode cL_law 365 = .ok (.iload_n 3, 1) := by decide +kernel
theorem dL_law_366 : decode cL_law 366 = .ok (.iconst 2, 1) := by decide +kernel
theorem dL_law_367 : decode cL_law 367 = .ok (.iadd, 1) := by decide +kernel
theorem dL_law_368 : decode cL_law 368 = .ok (.iaload, 1) := by decide +kernel
theorem dL_law_369 : decode cL_law 369 = .ok (.invokevirtual 49, 3) := by decide +kernel
theorem dL_law_372 : decode cL_law 372 = .ok (.aload_n 2, 1) := by decide +kernel
theorem dL_law_373 : decode cL_law 373 = .ok (.aload_n 0, 1) := by decide +kernel
theorem dL_law_374 : decode cL_law 374 = .ok (.iload_n 3, 1) := by decide +kernel
theorem dL_law_375 : decode cL_law 375 = .ok (.iconst 1, 1) := by decide +kernel
theorem dL_law_376 : decode cL_law 376 = .ok (.iadd, 1) := by decide +kernel
theorem dL_law_377 : decode cL_law 377 = .ok (.iaload, 1) := by decide +kernel
theorem dL_law_378 : decode cL_law 378 = .ok (.aload_n 0, 1) := by decide +kernel
theorem dL_law_379 : decode cL_law 379 = .ok (.iload_n 3, 1) := by decide +kernel
theorem dL_law_380 : decode cL_law 380 = .ok (.iconst 2, 1) := by decide +kernel
theorem dL_law_381 : decode cL_law 381 = .ok (.iadd, 1) := by decide +kernel
theorem dL_law_382 : decode cL_law 382 = .ok (.iaload, 1) := by decide +kernel
theorem dL_law_383 : decode cL_law 383 = .ok (.invokevirtual 52, 3) := by decide +kernel
theorem dL_law_386 : decode cL_law 386 = .ok (.if_icmp .eq 748, 3) := by decide +kernel
theorem dL_law_389 : decode cL_law 389 = .ok (.iconst 0, 1) := by decide +kernel
theorem dL_law_390 : decode cL_law 390 = .ok (.ireturn, 1) := by decide +kernel
theorem dL_law_391 : decode cL_law 391 = .ok (.aload_n 1, 1) := by decide +kernel
theorem dL_law_392 : decode cL_law 392 = .ok (.invokevirtual 53, 3) := by decide +kernel
theorem dL_law_395 : decode cL_law 395 = .ok (.aload_n 2, 1) := by decide +kernel
theorem dL_law_396 : decode cL_law 396 = .ok (.invokevirtual 56, 3) := by decide +kernel
theorem dL_law_399 : decode cL_law 399 = .ok (.if_icmp .eq 735, 3) := by decide +kernel
theorem dL_law_402 : decode cL_law 402 = .ok (.iconst 0, 1) := by decide +kernel
theorem dL_law_403 : decode cL_law 403 = .ok (.ireturn, 1) := by decide +kernel
theorem dL_law_404 : decode cL_law 404 = .ok (.aload_n 1, 1) := by decide +kernel
theorem dL_law_405 : decode cL_law 405 = .ok (.aload_n 0, 1) := by decide +kernel
theorem dL_law_406 : decode cL_law 406 = .ok (.iload_n 3, 1) := by decide +kernel
theorem dL_law_407 : decode cL_law 407 = .ok (.iconst 1, 1) := by decide +kernel
theorem dL_law_408 : decode cL_law 408 = .ok (.iadd, 1) := by decide +kernel
theorem dL_law_409 : decode cL_law 409 = .ok (.iaload, 1) := by decide +kernel
theorem dL_law_410 : decode cL_law 410 = .ok (.aload_n 0, 1) := by decide +kernel
theorem dL_law_411 : decode cL_law 411 = .ok (.iload_n 3, 1) := by decide +kernel
theorem dL_law_412 : decode cL_law 412 = .ok (.iconst 2, 1) := by decide +kernel
theorem dL_law_413 : decode cL_law 413 = .ok (.iadd, 1) := by decide +kernel
theorem dL_law_414 : decode cL_law 414 = .ok (.iaload, 1) := by decide +kernel
theorem dL_law_415 : decode cL_law 415 = .ok (.invokevirtual 57, 3) := by decide +kernel
theorem dL_law_418 : decode cL_law 418 = .ok (.aload_n 2, 1) := by decide +kernel
theorem dL_law_419 : decode cL_law 419 = .ok (.aload_n 0, 1) := by decide +kernel
theorem dL_law_420 : decode cL_law 420 = .ok (.iload_n 3, 1) := by decide +kernel
theorem dL_law_421 : decode cL_law 421 = .ok (.iconst 1, 1) := by decide +kernel
theorem dL_law_422 : decode cL_law 422 = .ok (.iadd, 1) := by decide +kernel
theorem dL_law_423 : decode cL_law 423 = .ok (.iaload, 1) := by decide +kernel
theorem dL_law_424 : decode cL_law 424 = .ok (.aload_n 0, 1) := by decide +kernel
theorem dL_law_425 : decode cL_law 425 = .ok (.iload_n 3, 1) := by decide +kernel
theorem dL_law_426 : decode cL_law 426 = .ok (.iconst 2, 1) := by decide +kernel
theorem dL_law_427 : decode cL_law 427 = .ok (.iadd, 1) := by decide +kernel
theorem dL_law_428 : decode cL_law 428 = .ok (.iaload, 1) := by decide +kernel
theorem dL_law_429 : decode cL_law 429 = .ok (.invokevirtual 60, 3) := by decide +kernel
theorem dL_law_432 : decode cL_law 432 = .ok (.if_icmp .eq 702, 3) := by decide +kernel
theorem dL_law_435 : decode cL_law 435 = .ok (.iconst 0, 1) := by decide +kernel
theorem dL_law_436 : decode cL_law 436 = .ok (.ireturn, 1) := by decide +kernel
theorem dL_law_437 : decode cL_law 437 = .ok (.aload_n 1, 1) := by decide +kernel
theorem dL_law_438 : decode cL_law 438 = .ok (.aload_n 0, 1) := by decide +kernel
theorem dL_law_439 : decode cL_law 439 = .ok (.iload_n 3, 1) := by decide +kernel
theorem dL_law_440 : decode cL_law 440 = .ok (.iconst 1, 1) := by decide +kernel
theorem dL_law_441 : decode cL_law 441 = .ok (.iadd, 1) := by decide +kernel
theorem dL_law_442 : decode cL_law 442 = .ok (.iaload, 1) := by decide +kernel
theorem dL_law_443 : decode cL_law 443 = .ok (.aload_n 0, 1) := by decide +kernel
theorem dL_law_444 : decode cL_law 444 = .ok (.iload_n 3, 1) := by decide +kernel
theorem dL_law_445 : decode cL_law 445 = .ok (.iconst 2, 1) := by decide +kernel
theorem dL_law_446 : decode cL_law 446 = .ok (.iadd, 1) := by decide +kernel
theorem dL_law_447 : decode cL_law 447 = .ok (.iaload, 1) := by decide +kernel
theorem dL_law_448 : decode cL_law 448 = .ok (.aload_n 0, 1) := by decide +kernel
theorem dL_law_449 : decode cL_law 449 = .ok (.iload_n 3, 1) := by decide +kernel
theorem dL_law_450 : decode cL_law 450 = .ok (.iconst 3, 1) := by decide +kernel
theorem dL_law_451 : decode cL_law 451 = .ok (.iadd, 1) := by decide +kernel
theorem dL_law_452 : decode cL_law 452 = .ok (.iaload, 1) := by decide +kernel
theorem dL_law_453 : decode cL_law 453 = .ok (.invokevirtual 61, 3) := by decide +kernel
theorem dL_law_456 : decode cL_law 456 = .ok (.aload_n 2, 1) := by decide +kernel
theorem dL_law_457 : decode cL_law 457 = .ok (.aload_n 0, 1) := by decide +kernel
theorem dL_law_458 : decode cL_law 458 = .ok (.iload_n 3, 1) := by decide +kernel
theorem dL_law_459 : decode cL_law 459 = .ok (.iconst 1, 1) := by decide +kernel
theorem dL_law_460 : decode cL_law 460 = .ok (.iadd, 1) := by decide +kernel
theorem dL_law_461 : decode cL_law 461 = .ok (.iaload, 1) := by decide +kernel
theorem dL_law_462 : decode cL_law 462 = .ok (.aload_n 0, 1) := by decide +kernel
theorem dL_law_463 : decode cL_law 463 = .ok (.iload_n 3, 1) := by decide +kernel
theorem dL_law_464 : decode cL_law 464 = .ok (.iconst 2, 1) := by decide +kernel
theorem dL_law_465 : decode cL_law 465 = .ok (.iadd, 1) := by decide +kernel
theorem dL_law_466 : decode cL_law 466 = .ok (.iaload, 1) := by decide +kernel
theorem dL_law_467 : decode cL_law 467 = .ok (.aload_n 0, 1) := by decide +kernel
theorem dL_law_468 : decode cL_law 468 = .ok (.iload_n 3, 1) := by decide +kernel
theorem dL_law_469 : decode cL_law 469 = .ok (.iconst 3, 1) := by decide +kernel
theorem dL_law_470 : decode cL_law 470 = .ok (.iadd, 1) := by decide +kernel
theorem dL_law_471 : decode cL_law 471 = .ok (.iaload, 1) := by decide +kernel
theorem dL_law_472 : decode cL_law 472 = .ok (.invokevirtual 65, 3) := by decide +kernel
theorem dL_law_475 : decode cL_law 475 = .ok (.if_icmp .eq 659, 3) := by decide +kernel
theorem dL_law_478 : decode cL_law 478 = .ok (.iconst 0, 1) := by decide +kernel
theorem dL_law_479 : decode cL_law 479 = .ok (.ireturn, 1) := by decide +kernel
theorem dL_law_480 : decode cL_law 480 = .ok (.aload_n 1, 1) := by decide +kernel
theorem dL_law_481 : decode cL_law 481 = .ok (.aload_n 0, 1) := by decide +kernel
theorem dL_law_482 : decode cL_law 482 = .ok (.iload_n 3, 1) := by decide +kernel
theorem dL_law_483 : decode cL_law 483 = .ok (.iconst 1, 1) := by decide +kernel
theorem dL_law_484 : decode cL_law 484 = .ok (.iadd, 1) := by decide +kernel
theorem dL_law_485 : decode cL_law 485 = .ok (.iaload, 1) := by decide +kernel
theorem dL_law_486 : decode cL_law 486 = .ok (.aload_n 0, 1) := by decide +kernel
theorem dL_law_487 : decode cL_law 487 = .ok (.iload_n 3, 1) := by decide +kernel
theorem dL_law_488 : decode cL_law 488 = .ok (.iconst 2, 1) := by decide +kernel
theorem dL_law_489 : decode cL_law 489 = .ok (.iadd, 1) := by decide +kernel
theorem dL_law_490 : decode cL_law 490 = .ok (.iaload, 1) := by decide +kernel
theorem dL_law_491 : decode cL_law 491 = .ok (.aload_n 0, 1) := by decide +kernel
theorem dL_law_492 : decode cL_law 492 = .ok (.iload_n 3, 1) := by decide +kernel
theorem dL_law_493 : decode cL_law 493 = .ok (.iconst 3, 1) := by decide +kernel
theorem dL_law_494 : decode cL_law 494 = .ok (.iadd, 1) := by decide +kernel
theorem dL_law_495 : decode cL_law 495 = .ok (.iaload, 1) := by decide +kernel
theorem dL_law_496 : decode cL_law 496 = .ok (.invokevirtual 66, 3) := by decide +kernel
theorem dL_law_499 : decode cL_law 499 = .ok (.aload_n 2, 1) := by decide +kernel
theorem dL_law_500 : decode cL_law 500 = .ok (.aload_n 0, 1) := by decide +kernel
theorem dL_law_501 : decode cL_law 501 = .ok (.iload_n 3, 1) := by decide +kernel
theorem dL_law_502 : decode cL_law 502 = .ok (.iconst 1, 1) := by decide +kernel
theorem dL_law_503 : decode cL_law 503 = .ok (.iadd, 1) := by decide +kernel
theorem dL_law_504 : decode cL_law 504 = .ok (.iaload, 1) := by decide +kernel
theorem dL_law_505 : decode cL_law 505 = .ok (.aload_n 0, 1) := by decide +kernel
theorem dL_law_506 : decode cL_law 506 = .ok (.iload_n 3, 1) := by decide +kernel
theorem dL_law_507 : decode cL_law 507 = .ok (.iconst 2, 1) := by decide +kernel
theorem dL_law_508 : decode cL_law 508 = .ok (.iadd, 1) := by decide +kernel
theorem dL_law_509 : decode cL_law 509 = .ok (.iaload, 1) := by decide +kernel
theorem dL_law_510 : decode cL_law 510 = .ok (.aload_n 0, 1) := by decide +kernel
theorem dL_law_511 : decode cL_law 511 = .ok (.iload_n 3, 1) := by decide +kernel
theorem dL_law_512 : decode cL_law 512 = .ok (.iconst 3, 1) := by decide +kernel
theorem dL_law_513 : decode cL_law 513 = .ok (.iadd, 1) := by decide +kernel
theorem dL_law_514 : decode cL_law 514 = .ok (.iaload, 1) := by decide +kernel
theorem dL_law_515 : decode cL_law 515 = .ok (.invokevirtual 69, 3) := by decide +kernel
theorem dL_law_518 : decode cL_law 518 = .ok (.if_icmp .eq 616, 3) := by decide +kernel
theorem dL_law_521 : decode cL_law 521 = .ok (.iconst 0, 1) := by decide +kernel
theorem dL_law_522 : decode cL_law 522 = .ok (.ireturn, 1) := by decide +kernel
theorem dL_law_523 : decode cL_law 523 = .ok (.aload_n 1, 1) := by decide +kernel
theorem dL_law_524 : decode cL_law 524 = .ok (.aload_n 0, 1) := by decide +kernel
theorem dL_law_525 : decode cL_law 525 = .ok (.iload_n 3, 1) := by decide +kernel
theorem dL_law_526 : decode cL_law 526 = .ok (.iconst 1, 1) := by decide +kernel
theorem dL_law_527 : decode cL_law 527 = .ok (.iadd, 1) := by decide +kernel
theorem dL_law_528 : decode cL_law 528 = .ok (.iaload, 1) := by decide +kernel
theorem dL_law_529 : decode cL_law 529 = .ok (.aload_n 0, 1) := by decide +kernel
theorem dL_law_530 : decode cL_law 530 = .ok (.iload_n 3, 1) := by decide +kernel
theorem dL_law_531 : decode cL_law 531 = .ok (.iconst 2, 1) := by decide +kernel
theorem dL_law_532 : decode cL_law 532 = .ok (.iadd, 1) := by decide +kernel
theorem dL_law_533 : decode cL_law 533 = .ok (.iaload, 1) := by decide +kernel
theorem dL_law_534 : decode cL_law 534 = .ok (.aload_n 0, 1) := by decide +kernel
theorem dL_law_535 : decode cL_law 535 = .ok (.iload_n 3, 1) := by decide +kernel
theorem dL_law_536 : decode cL_law 536 = .ok (.iconst 3, 1) := by decide +kernel
theorem dL_law_537 : decode cL_law 537 = .ok (.iadd, 1) := by decide +kernel
theorem dL_law_538 : decode cL_law 538 = .ok (.iaload, 1) := by decide +kernel
theorem dL_law_539 : decode cL_law 539 = .ok (.invokevirtual 70, 3) := by decide +kernel
theorem dL_law_542 : decode cL_law 542 = .ok (.aload_n 2, 1) := by decide +kernel
theorem dL_law_543 : decode cL_law 543 = .ok (.aload_n 0, 1) := by decide +kernel
theorem dL_law_544 : decode cL_law 544 = .ok (.iload_n 3, 1) := by decide +kernel
theorem dL_law_545 : decode cL_law 545 = .ok (.iconst 1, 1) := by decide +kernel
theorem dL_law_546 : decode cL_law 546 = .ok (.iadd, 1) := by decide +kernel
theorem dL_law_547 : decode cL_law 547 = .ok (.iaload, 1) := by decide +kernel
theorem dL_law_548 : decode cL_law 548 = .ok (.aload_n 0, 1) := by decide +kernel
theorem dL_law_549 : decode cL_law 549 = .ok (.iload_n 3, 1) := by decide +kernel
theorem dL_law_550 : decode cL_law 550 = .ok (.iconst 2, 1) := by decide +kernel
theorem dL_law_551 : decode cL_law 551 = .ok (.iadd, 1) := by decide +kernel
theorem dL_law_552 : decode cL_law 552 = .ok (.iaload, 1) := by decide +kernel
theorem dL_law_553 : decode cL_law 553 = .ok (.aload_n 0, 1) := by decide +kernel
theorem dL_law_554 : decode cL_law 554 = .ok (.iload_n 3, 1) := by decide +kernel
theorem dL_law_555 : decode cL_law 555 = .ok (.iconst 3, 1) := by decide +kernel
theorem dL_law_556 : decode cL_law 556 = .ok (.iadd, 1) := by decide +kernel
theorem dL_law_557 : decode cL_law 557 = .ok (.iaload, 1) := by decide +kernel
theorem dL_law_558 : decode cL_law 558 = .ok (.invokevirtual 73, 3) := by decide +kernel
theorem dL_law_561 : decode cL_law 561 = .ok (.if_icmp .eq 573, 3) := by decide +kernel
theorem dL_law_564 : decode cL_law 564 = .ok (.iconst 0, 1) := by decide +kernel
theorem dL_law_565 : decode cL_law 565 = .ok (.ireturn, 1) := by decide +kernel
theorem dL_law_566 : decode cL_law 566 = .ok (.aload_n 1, 1) := by decide +kernel
theorem dL_law_567 : decode cL_law 567 = .ok (.aload_n 0, 1) := by decide +kernel
theorem dL_law_568 : decode cL_law 568 = .ok (.iload_n 3, 1) := by decide +kernel
theorem dL_law_569 : decode cL_law 569 = .ok (.iconst 1, 1) := by decide +kernel
theorem dL_law_570 : decode cL_law 570 = .ok (.iadd, 1) := by decide +kernel
theorem dL_law_571 : decode cL_law 571 = .ok (.iaload, 1) := by decide +kernel
theorem dL_law_572 : decode cL_law 572 = .ok (.invokevirtual 74, 3) := by decide +kernel
theorem dL_law_575 : decode cL_law 575 = .ok (.aload_n 2, 1) := by decide +kernel
theorem dL_law_576 : decode cL_law 576 = .ok (.aload_n 0, 1) := by decide +kernel
theorem dL_law_577 : decode cL_law 577 = .ok (.iload_n 3, 1) := by decide +kernel
theorem dL_law_578 : decode cL_law 578 = .ok (.iconst 1, 1) := by decide +kernel
theorem dL_law_579 : decode cL_law 579 = .ok (.iadd, 1) := by decide +kernel
theorem dL_law_580 : decode cL_law 580 = .ok (.iaload, 1) := by decide +kernel
theorem dL_law_581 : decode cL_law 581 = .ok (.invokevirtual 77, 3) := by decide +kernel
theorem dL_law_584 : decode cL_law 584 = .ok (.if_icmp .eq 550, 3) := by decide +kernel
theorem dL_law_587 : decode cL_law 587 = .ok (.iconst 0, 1) := by decide +kernel
theorem dL_law_588 : decode cL_law 588 = .ok (.ireturn, 1) := by decide +kernel
theorem dL_law_589 : decode cL_law 589 = .ok (.aload_n 1, 1) := by decide +kernel
theorem dL_law_590 : decode cL_law 590 = .ok (.aload_n 0, 1) := by decide +kernel
theorem dL_law_591 : decode cL_law 591 = .ok (.iload_n 3, 1) := by decide +kernel
theorem dL_law_592 : decode cL_law 592 = .ok (.iconst 1, 1) := by decide +kernel
theorem dL_law_593 : decode cL_law 593 = .ok (.iadd, 1) := by decide +kernel
theorem dL_law_594 : decode cL_law 594 = .ok (.iaload, 1) := by decide +kernel
theorem dL_law_595 : decode cL_law 595 = .ok (.aload_n 0, 1) := by decide +kernel
theorem dL_law_596 : decode cL_law 596 = .ok (.iload_n 3, 1) := by decide +kernel
theorem dL_law_597 : decode cL_law 597 = .ok (.iconst 2, 1) := by decide +kernel
theorem dL_law_598 : decode cL_law 598 = .ok (.iadd, 1) := by decide +kernel
theorem dL_law_599 : decode cL_law 599 = .ok (.iaload, 1) := by decide +kernel
theorem dL_law_600 : decode cL_law 600 = .ok (.invokevirtual 78, 3) := by decide +kernel
theorem dL_law_603 : decode cL_law 603 = .ok (.aload_n 2, 1) := by decide +kernel
theorem dL_law_604 : decode cL_law 604 = .ok (.aload_n 0, 1) := by decide +kernel
theorem dL_law_605 : decode cL_law 605 = .ok (.iload_n 3, 1) := by decide +kernel
theorem dL_law_606 : decode cL_law 606 = .ok (.iconst 1, 1) := by decide +kernel
theorem dL_law_607 : decode cL_law 607 = .ok (.iadd, 1) := by decide +kernel
theorem dL_law_608 : decode cL_law 608 = .ok (.iaload, 1) := by decide +kernel
theorem dL_law_609 : decode cL_law 609 = .ok (.aload_n 0, 1) := by decide +kernel
theorem dL_law_610 : decode cL_law 610 = .ok (.iload_n 3, 1) := by decide +kernel
theorem dL_law_611 : decode cL_law 611 = .ok (.iconst 2, 1) := by decide +kernel
theorem dL_law_612 : decode cL_law 612 = .ok (.iadd, 1) := by decide +kernel
theorem dL_law_613 : decode cL_law 613 = .ok (.iaload, 1) := by decide +kernel
theorem dL_law_614 : decode cL_law 614 = .ok (.invokevirtual 81, 3) := by decide +kernel
theorem dL_law_617 : decode cL_law 617 = .ok (.if_icmp .eq 517, 3) := by decide +kernel
theorem dL_law_620 : decode cL_law 620 = .ok (.iconst 0, 1) := by decide +kernel
theorem dL_law_621 : decode cL_law 621 = .ok (.ireturn, 1) := by decide +kernel
theorem dL_law_622 : decode cL_law 622 = .ok (.aload_n 1, 1) := by decide +kernel
theorem dL_law_623 : decode cL_law 623 = .ok (.aload_n 0, 1) := by decide +kernel
theorem dL_law_624 : decode cL_law 624 = .ok (.iload_n 3, 1) := by decide +kernel
theorem dL_law_625 : decode cL_law 625 = .ok (.iconst 1, 1) := by decide +kernel
theorem dL_law_626 : decode cL_law 626 = .ok (.iadd, 1) := by decide +kernel
theorem dL_law_627 : decode cL_law 627 = .ok (.iaload, 1) := by decide +kernel
theorem dL_law_628 : decode cL_law 628 = .ok (.invokevirtual 82, 3) := by decide +kernel
theorem dL_law_631 : decode cL_law 631 = .ok (.aload_n 2, 1) := by decide +kernel
theorem dL_law_632 : decode cL_law 632 = .ok (.aload_n 0, 1) := by decide +kernel
theorem dL_law_633 : decode cL_law 633 = .ok (.iload_n 3, 1) := by decide +kernel
theorem dL_law_634 : decode cL_law 634 = .ok (.iconst 1, 1) := by decide +kernel
theorem dL_law_635 : decode cL_law 635 = .ok (.iadd, 1) := by decide +kernel
theorem dL_law_636 : decode cL_law 636 = .ok (.iaload, 1) := by decide +kernel
theorem dL_law_637 : decode cL_law 637 = .ok (.invokevirtual 85, 3) := by decide +kernel
theorem dL_law_640 : decode cL_law 640 = .ok (.if_icmp .eq 494, 3) := by decide +kernel
theorem dL_law_643 : decode cL_law 643 = .ok (.iconst 0, 1) := by decide +kernel
theorem dL_law_644 : decode cL_law 644 = .ok (.ireturn, 1) := by decide +kernel
theorem dL_law_645 : decode cL_law 645 = .ok (.aload_n 1, 1) := by decide +kernel
theorem dL_law_646 : decode cL_law 646 = .ok (.aload_n 0, 1) := by decide +kernel
theorem dL_law_647 : decode cL_law 647 = .ok (.iload_n 3, 1) := by decide +kernel
theorem dL_law_648 : decode cL_law 648 = .ok (.iconst 1, 1) := by decide +kernel
theorem dL_law_649 : decode cL_law 649 = .ok (.iadd, 1) := by decide +kernel
theorem dL_law_650 : decode cL_law 650 = .ok (.iaload, 1) := by decide +kernel
theorem dL_law_651 : decode cL_law 651 = .ok (.aload_n 0, 1) := by decide +kernel
theorem dL_law_652 : decode cL_law 652 = .ok (.iload_n 3, 1) := by decide +kernel
theorem dL_law_653 : decode cL_law 653 = .ok (.iconst 2, 1) := by decide +kernel
theorem dL_law_654 : decode cL_law 654 = .ok (.iadd, 1) := by decide +kernel
theorem dL_law_655 : decode cL_law 655 = .ok (.iaload, 1) := by decide +kernel
theorem dL_law_656 : decode cL_law 656 = .ok (.aload_n 0, 1) := by decide +kernel
theorem dL_law_657 : decode cL_law 657 = .ok (.iload_n 3, 1) := by decide +kernel
theorem dL_law_658 : decode cL_law 658 = .ok (.iconst 3, 1) := by decide +kernel
theorem dL_law_659 : decode cL_law 659 = .ok (.iadd, 1) := by decide +kernel
theorem dL_law_660 : decode cL_law 660 = .ok (.iaload, 1) := by decide +kernel
theorem dL_law_661 : decode cL_law 661 = .ok (.aload_n 0, 1) := by decide +kernel
theorem dL_law_662 : decode cL_law 662 = .ok (.iload_n 3, 1) := by decide +kernel
theorem dL_law_663 : decode cL_law 663 = .ok (.iconst 4, 1) := by decide +kernel
theorem dL_law_664 : decode cL_law 664 = .ok (.iadd, 1) := by decide +kernel
theorem dL_law_665 : decode cL_law 665 = .ok (.iaload, 1) := by decide +kernel
theorem dL_law_666 : decode cL_law 666 = .ok (.invokevirtual 86, 3) := by decide +kernel
theorem dL_law_669 : decode cL_law 669 = .ok (.aload_n 2, 1) := by decide +kernel
theorem dL_law_670 : decode cL_law 670 = .ok (.aload_n 0, 1) := by decide +kernel
theorem dL_law_671 : decode cL_law 671 = .ok (.iload_n 3, 1) := by decide +kernel
theorem dL_law_672 : decode cL_law 672 = .ok (.iconst 1, 1) := by decide +kernel
theorem dL_law_673 : decode cL_law 673 = .ok (.iadd, 1) := by decide +kernel
theorem dL_law_674 : decode cL_law 674 = .ok (.iaload, 1) := by decide +kernel
theorem dL_law_675 : decode cL_law 675 = .ok (.aload_n 0, 1) := by decide +kernel
theorem dL_law_676 : decode cL_law 676 = .ok (.iload_n 3, 1) := by decide +kernel
theorem dL_law_677 : decode cL_law 677 = .ok (.iconst 2, 1) := by decide +kernel
theorem dL_law_678 : decode cL_law 678 = .ok (.iadd, 1) := by decide +kernel
theorem dL_law_679 : decode cL_law 679 = .ok (.iaload, 1) := by decide +kernel
theorem dL_law_680 : decode cL_law 680 = .ok (.aload_n 0, 1) := by decide +kernel
theorem dL_law_681 : decode cL_law 681 = .ok (.iload_n 3, 1) := by decide +kernel
theorem dL_law_682 : decode cL_law 682 = .ok (.iconst 3, 1) := by decide +kernel
theorem dL_law_683 : decode cL_law 683 = .ok (.iadd, 1) := by decide +kernel
theorem dL_law_684 : decode cL_law 684 = .ok (.iaload, 1) := by decide +kernel
theorem dL_law_685 : decode cL_law 685 = .ok (.aload_n 0, 1) := by decide +kernel
theorem dL_law_686 : decode cL_law 686 = .ok (.iload_n 3, 1) := by decide +kernel
theorem dL_law_687 : decode cL_law 687 = .ok (.iconst 4, 1) := by decide +kernel
theorem dL_law_688 : decode cL_law 688 = .ok (.iadd, 1) := by decide +kernel
theorem dL_law_689 : decode cL_law 689 = .ok (.iaload, 1) := by decide +kernel
theorem dL_law_690 : decode cL_law 690 = .ok (.invokevirtual 89, 3) := by decide +kernel
theorem dL_law_693 : decode cL_law 693 = .ok (.if_icmp .eq 441, 3) := by decide +kernel
theorem dL_law_696 : decode cL_law 696 = .ok (.iconst 0, 1) := by decide +kernel
theorem dL_law_697 : decode cL_law 697 = .ok (.ireturn, 1) := by decide +kernel
theorem dL_law_698 : decode cL_law 698 = .ok (.aload_n 1, 1) := by decide +kernel
theorem dL_law_699 : decode cL_law 699 = .ok (.aload_n 0, 1) := by decide +kernel
theorem dL_law_700 : decode cL_law 700 = .ok (.iload_n 3, 1) := by decide +kernel
theorem dL_law_701 : decode cL_law 701 = .ok (.iconst 1, 1) := by decide +kernel
theorem dL_law_702 : decode cL_law 702 = .ok (.iadd, 1) := by decide +kernel
theorem dL_law_703 : decode cL_law 703 = .ok (.iaload, 1) := by decide +kernel
theorem dL_law_704 : decode cL_law 704 = .ok (.aload_n 0, 1) := by decide +kernel
theorem dL_law_705 : decode cL_law 705 = .ok (.iload_n 3, 1) := by decide +kernel
theorem dL_law_706 : decode cL_law 706 = .ok (.iconst 2, 1) := by decide +kernel
theorem dL_law_707 : decode cL_law 707 = .ok (.iadd, 1) := by decide +kernel
theorem dL_law_708 : decode cL_law 708 = .ok (.iaload, 1) := by decide +kernel
theorem dL_law_709 : decode cL_law 709 = .ok (.i2l, 1) := by decide +kernel
theorem dL_law_710 : decode cL_law 710 = .ok (.bipush 32, 2) := by decide +kernel
theorem dL_law_712 : decode cL_law 712 = .ok (.lshl, 1) := by decide +kernel
theorem dL_law_713 : decode cL_law 713 = .ok (.aload_n 0, 1) := by decide +kernel
theorem dL_law_714 : decode cL_law 714 = .ok (.iload_n 3, 1) := by decide +kernel
theorem dL_law_715 : decode cL_law 715 = .ok (.iconst 3, 1) := by decide +kernel
theorem dL_law_716 : decode cL_law 716 = .ok (.iadd, 1) := by decide +kernel
theorem dL_law_717 : decode cL_law 717 = .ok (.iaload, 1) := by decide +kernel
theorem dL_law_718 : decode cL_law 718 = .ok (.i2l, 1) := by decide +kernel
theorem dL_law_719 : decode cL_law 719 = .ok (.ldc2_w 90, 3) := by decide +kernel
theorem dL_law_722 : decode cL_law 722 = .ok (.land, 1) := by decide +kernel
theorem dL_law_723 : decode cL_law 723 = .ok (.lor, 1) := by decide +kernel
theorem dL_law_724 : decode cL_law 724 = .ok (.invokevirtual 92, 3) := by decide +kernel
theorem dL_law_727 : decode cL_law 727 = .ok (.aload_n 2, 1) := by decide +kernel
theorem dL_law_728 : decode cL_law 728 = .ok (.aload_n 0, 1) := by decide +kernel
theorem dL_law_729 : decode cL_law 729 = .ok (.iload_n 3, 1) := by decide +kernel
theorem dL_law_730 : decode cL_law 730 = .ok (.iconst 1, 1) := by decide +kernel
theorem dL_law_731 : decode cL_law 731 = .ok (.iadd, 1) := by decide +kernel
theorem dL_law_732 : decode cL_law 732 = .ok (.iaload, 1) := by decide +kernel
theorem dL_law_733 : decode cL_law 733 = .ok (.aload_n 0, 1) := by decide +kernel
theorem dL_law_734 : decode cL_law 734 = .ok (.iload_n 3, 1) := by decide +kernel
theorem dL_law_735 : decode cL_law 735 = .ok (.iconst 2, 1) := by decide +kernel
theorem dL_law_736 : decode cL_law 736 = .ok (.iadd, 1) := by decide +kernel
theorem dL_law_737 : decode cL_law 737 = .ok (.iaload, 1) := by decide +kernel
theorem dL_law_738 : decode cL_law 738 = .ok (.i2l, 1) := by decide +kernel
theorem dL_law_739 : decode cL_law 739 = .ok (.bipush 32, 2) := by decide +kernel
theorem dL_law_741 : decode cL_law 741 = .ok (.lshl, 1) := by decide +kernel
theorem dL_law_742 : decode cL_law 742 = .ok (.aload_n 0, 1) := by decide +kernel
theorem dL_law_743 : decode cL_law 743 = .ok (.iload_n 3, 1) := by decide +kernel
theorem dL_law_744 : decode cL_law 744 = .ok (.iconst 3, 1) := by decide +kernel
theorem dL_law_745 : decode cL_law 745 = .ok (.iadd, 1) := by decide +kernel
theorem dL_law_746 : decode cL_law 746 = .ok (.iaload, 1) := by decide +kernel
theorem dL_law_747 : decode cL_law 747 = .ok (.i2l, 1) := by decide +kernel
theorem dL_law_748 : decode cL_law 748 = .ok (.ldc2_w 90, 3) := by decide +kernel
theorem dL_law_751 : decode cL_law 751 = .ok (.land, 1) := by decide +kernel
theorem dL_law_752 : decode cL_law 752 = .ok (.lor, 1) := by decide +kernel
theorem dL_law_753 : decode cL_law 753 = .ok (.invokevirtual 96, 3) := by decide +kernel
theorem dL_law_756 : decode cL_law 756 = .ok (.if_icmp .eq 378, 3) := by decide +kernel
theorem dL_law_759 : decode cL_law 759 = .ok (.iconst 0, 1) := by decide +kernel
theorem dL_law_760 : decode cL_law 760 = .ok (.ireturn, 1) := by decide +kernel
theorem dL_law_761 : decode cL_law 761 = .ok (.aload_n 1, 1) := by decide +kernel
theorem dL_law_762 : decode cL_law 762 = .ok (.aload_n 0, 1) := by decide +kernel
theorem dL_law_763 : decode cL_law 763 = .ok (.iload_n 3, 1) := by decide +kernel
theorem dL_law_764 : decode cL_law 764 = .ok (.iconst 1, 1) := by decide +kernel
theorem dL_law_765 : decode cL_law 765 = .ok (.iadd, 1) := by decide +kernel
theorem dL_law_766 : decode cL_law 766 = .ok (.iaload, 1) := by decide +kernel
theorem dL_law_767 : decode cL_law 767 = .ok (.aload_n 0, 1) := by decide +kernel
theorem dL_law_768 : decode cL_law 768 = .ok (.iload_n 3, 1) := by decide +kernel
theorem dL_law_769 : decode cL_law 769 = .ok (.iconst 2, 1) := by decide +kernel
theorem dL_law_770 : decode cL_law 770 = .ok (.iadd, 1) := by decide +kernel
theorem dL_law_771 : decode cL_law 771 = .ok (.iaload, 1) := by decide +kernel
theorem dL_law_772 : decode cL_law 772 = .ok (.aload_n 0, 1) := by decide +kernel
theorem dL_law_773 : decode cL_law 773 = .ok (.iload_n 3, 1) := by decide +kernel
theorem dL_law_774 : decode cL_law 774 = .ok (.iconst 3, 1) := by decide +kernel
theorem dL_law_775 : decode cL_law 775 = .ok (.iadd, 1) := by decide +kernel
theorem dL_law_776 : decode cL_law 776 = .ok (.iaload, 1) := by decide +kernel
theorem dL_law_777 : decode cL_law 777 = .ok (.aload_n 0, 1) := by decide +kernel
theorem dL_law_778 : decode cL_law 778 = .ok (.iload_n 3, 1) := by decide +kernel
theorem dL_law_779 : decode cL_law 779 = .ok (.iconst 4, 1) := by decide +kernel
theorem dL_law_780 : decode cL_law 780 = .ok (.iadd, 1) := by decide +kernel
theorem dL_law_781 : decode cL_law 781 = .ok (.iaload, 1) := by decide +kernel
theorem dL_law_782 : decode cL_law 782 = .ok (.invokevirtual 97, 3) := by decide +kernel
theorem dL_law_785 : decode cL_law 785 = .ok (.aload_n 2, 1) := by decide +kernel
theorem dL_law_786 : decode cL_law 786 = .ok (.aload_n 0, 1) := by decide +kernel
theorem dL_law_787 : decode cL_law 787 = .ok (.iload_n 3, 1) := by decide +kernel
theorem dL_law_788 : decode cL_law 788 = .ok (.iconst 1, 1) := by decide +kernel
theorem dL_law_789 : decode cL_law 789 = .ok (.iadd, 1) := by decide +kernel
theorem dL_law_790 : decode cL_law 790 = .ok (.iaload, 1) := by decide +kernel
theorem dL_law_791 : decode cL_law 791 = .ok (.aload_n 0, 1) := by decide +kernel
theorem dL_law_792 : decode cL_law 792 = .ok (.iload_n 3, 1) := by decide +kernel
theorem dL_law_793 : decode cL_law 793 = .ok (.iconst 2, 1) := by decide +kernel
theorem dL_law_794 : decode cL_law 794 = .ok (.iadd, 1) := by decide +kernel
theorem dL_law_795 : decode cL_law 795 = .ok (.iaload, 1) := by decide +kernel
theorem dL_law_796 : decode cL_law 796 = .ok (.aload_n 0, 1) := by decide +kernel
theorem dL_law_797 : decode cL_law 797 = .ok (.iload_n 3, 1) := by decide +kernel
theorem dL_law_798 : decode cL_law 798 = .ok (.iconst 3, 1) := by decide +kernel
theorem dL_law_799 : decode cL_law 799 = .ok (.iadd, 1) := by decide +kernel
theorem dL_law_800 : decode cL_law 800 = .ok (.iaload, 1) := by decide +kernel
theorem dL_law_801 : decode cL_law 801 = .ok (.aload_n 0, 1) := by decide +kernel
theorem dL_law_802 : decode cL_law 802 = .ok (.iload_n 3, 1) := by decide +kernel
theorem dL_law_803 : decode cL_law 803 = .ok (.iconst 4, 1) := by decide +kernel
theorem dL_law_804 : decode cL_law 804 = .ok (.iadd, 1) := by decide +kernel
theorem dL_law_805 : decode cL_law 805 = .ok (.iaload, 1) := by decide +kernel
theorem dL_law_806 : decode cL_law 806 = .ok (.invokevirtual 100, 3) := by decide +kernel
theorem dL_law_809 : decode cL_law 809 = .ok (.if_icmp .eq 325, 3) := by decide +kernel
theorem dL_law_812 : decode cL_law 812 = .ok (.iconst 0, 1) := by decide +kernel
theorem dL_law_813 : decode cL_law 813 = .ok (.ireturn, 1) := by decide +kernel
theorem dL_law_814 : decode cL_law 814 = .ok (.aload_n 1, 1) := by decide +kernel
theorem dL_law_815 : decode cL_law 815 = .ok (.invokevirtual 101, 3) := by decide +kernel
theorem dL_law_818 : decode cL_law 818 = .ok (.aload_n 2, 1) := by decide +kernel
theorem dL_law_819 : decode cL_law 819 = .ok (.invokevirtual 104, 3) := by decide +kernel
theorem dL_law_822 : decode cL_law 822 = .ok (.if_icmp .eq 312, 3) := by decide +kernel
theorem dL_law_825 : decode cL_law 825 = .ok (.iconst 0, 1) := by decide +kernel
theorem dL_law_826 : decode cL_law 826 = .ok (.ireturn, 1) := by decide +kernel
theorem dL_law_827 : decode cL_law 827 = .ok (.aload_n 1, 1) := by decide +kernel
theorem dL_law_828 : decode cL_law 828 = .ok (.aload_n 0, 1) := by decide +kernel
theorem dL_law_829 : decode cL_law 829 = .ok (.iload_n 3, 1) := by decide +kernel
theorem dL_law_830 : decode cL_law 830 = .ok (.iconst 1, 1) := by decide +kernel
theorem dL_law_831 : decode cL_law 831 = .ok (.iadd, 1) := by decide +kernel
theorem dL_law_832 : decode cL_law 832 = .ok (.iaload, 1) := by decide +kernel
theorem dL_law_833 : decode cL_law 833 = .ok (.invokevirtual 105, 3) := by decide +kernel
theorem dL_law_836 : decode cL_law 836 = .ok (.aload_n 2, 1) := by decide +kernel
theorem dL_law_837 : decode cL_law 837 = .ok (.aload_n 0, 1) := by decide +kernel
theorem dL_law_838 : decode cL_law 838 = .ok (.iload_n 3, 1) := by decide +kernel
theorem dL_law_839 : decode cL_law 839 = .ok (.iconst 1, 1) := by decide +kernel
theorem dL_law_840 : decode cL_law 840 = .ok (.iadd, 1) := by decide +kernel
theorem dL_law_841 : decode cL_law 841 = .ok (.iaload, 1) := by decide +kernel
theorem dL_law_842 : decode cL_law 842 = .ok (.invokevirtual 108, 3) := by decide +kernel
theorem dL_law_845 : decode cL_law 845 = .ok (.if_icmp .eq 289, 3) := by decide +kernel
theorem dL_law_848 : decode cL_law 848 = .ok (.iconst 0, 1) := by decide +kernel
theorem dL_law_849 : decode cL_law 849 = .ok (.ireturn, 1) := by decide +kernel
theorem dL_law_850 : decode cL_law 850 = .ok (.aload_n 1, 1) := by decide +kernel
theorem dL_law_851 : decode cL_law 851 = .ok (.aload_n 0, 1) := by decide +kernel
theorem dL_law_852 : decode cL_law 852 = .ok (.iload_n 3, 1) := by decide +kernel
theorem dL_law_853 : decode cL_law 853 = .ok (.iconst 1, 1) := by decide +kernel
theorem dL_law_854 : decode cL_law 854 = .ok (.iadd, 1) := by decide +kernel
theorem dL_law_855 : decode cL_law 855 = .ok (.iaload, 1) := by decide +kernel
theorem dL_law_856 : decode cL_law 856 = .ok (.aload_n 0, 1) := by decide +kernel
theorem dL_law_857 : decode cL_law 857 = .ok (.iload_n 3, 1) := by decide +kernel
theorem dL_law_858 : decode cL_law 858 = .ok (.iconst 2, 1) := by decide +kernel
theorem dL_law_859 : decode cL_law 859 = .ok (.iadd, 1) := by decide +kernel
theorem dL_law_860 : decode cL_law 860 = .ok (.iaload, 1) := by decide +kernel
theorem dL_law_861 : decode cL_law 861 = .ok (.aload_n 0, 1) := by decide +kernel
theorem dL_law_862 : decode cL_law 862 = .ok (.iload_n 3, 1) := by decide +kernel
theorem dL_law_863 : decode cL_law 863 = .ok (.iconst 3, 1) := by decide +kernel
theorem dL_law_864 : decode cL_law 864 = .ok (.iadd, 1) := by decide +kernel
theorem dL_law_865 : decode cL_law 865 = .ok (.iaload, 1) := by decide +kernel
theorem dL_law_866 : decode cL_law 866 = .ok (.ifCond .eq 7, 3) := by decide +kernel
theorem dL_law_869 : decode cL_law 869 = .ok (.iconst 1, 1) := by decide +kernel
theorem dL_law_870 : decode cL_law 870 = .ok (.goto 4, 3) := by decide +kernel
theorem dL_law_873 : decode cL_law 873 = .ok (.iconst 0, 1) := by decide +kernel
theorem dL_law_874 : decode cL_law 874 = .ok (.invokevirtual 109, 3) := by decide +kernel
theorem dL_law_877 : decode cL_law 877 = .ok (.aload_n 2, 1) := by decide +kernel
theorem dL_law_878 : decode cL_law 878 = .ok (.aload_n 0, 1) := by decide +kernel
theorem dL_law_879 : decode cL_law 879 = .ok (.iload_n 3, 1) := by decide +kernel
theorem dL_law_880 : decode cL_law 880 = .ok (.iconst 1, 1) := by decide +kernel
theorem dL_law_881 : decode cL_law 881 = .ok (.iadd, 1) := by decide +kernel
theorem dL_law_882 : decode cL_law 882 = .ok (.iaload, 1) := by decide +kernel
theorem dL_law_883 : decode cL_law 883 = .ok (.aload_n 0, 1) := by decide +kernel
theorem dL_law_884 : decode cL_law 884 = .ok (.iload_n 3, 1) := by decide +kernel
theorem dL_law_885 : decode cL_law 885 = .ok (.iconst 2, 1) := by decide +kernel
theorem dL_law_886 : decode cL_law 886 = .ok (.iadd, 1) := by decide +kernel
theorem dL_law_887 : decode cL_law 887 = .ok (.iaload, 1) := by decide +kernel
theorem dL_law_888 : decode cL_law 888 = .ok (.aload_n 0, 1) := by decide +kernel
theorem dL_law_889 : decode cL_law 889 = .ok (.iload_n 3, 1) := by decide +kernel
theorem dL_law_890 : decode cL_law 890 = .ok (.iconst 3, 1) := by decide +kernel
theorem dL_law_891 : decode cL_law 891 = .ok (.iadd, 1) := by decide +kernel
theorem dL_law_892 : decode cL_law 892 = .ok (.iaload, 1) := by decide +kernel
theorem dL_law_893 : decode cL_law 893 = .ok (.ifCond .eq 7, 3) := by decide +kernel
theorem dL_law_896 : decode cL_law 896 = .ok (.iconst 1, 1) := by decide +kernel
theorem dL_law_897 : decode cL_law 897 = .ok (.goto 4, 3) := by decide +kernel
theorem dL_law_900 : decode cL_law 900 = .ok (.iconst 0, 1) := by decide +kernel
theorem dL_law_901 : decode cL_law 901 = .ok (.invokevirtual 113, 3) := by decide +kernel
theorem dL_law_904 : decode cL_law 904 = .ok (.if_icmp .eq 230, 3) := by decide +kernel
theorem dL_law_907 : decode cL_law 907 = .ok (.iconst 0, 1) := by decide +kernel
theorem dL_law_908 : decode cL_law 908 = .ok (.ireturn, 1) := by decide +kernel
theorem dL_law_909 : decode cL_law 909 = .ok (.aload_n 1, 1) := by decide +kernel
theorem dL_law_910 : decode cL_law 910 = .ok (.aload_n 0, 1) := by decide +kernel
theorem dL_law_911 : decode cL_law 911 = .ok (.iload_n 3, 1) := by decide +kernel
theorem dL_law_912 : decode cL_law 912 = .ok (.iconst 1, 1) := by decide +kernel
theorem dL_law_913 : decode cL_law 913 = .ok (.iadd, 1) := by decide +kernel
theorem dL_law_914 : decode cL_law 914 = .ok (.iaload, 1) := by decide +kernel
theorem dL_law_915 : decode cL_law 915 = .ok (.aload_n 0, 1) := by decide +kernel
theorem dL_law_916 : decode cL_law 916 = .ok (.iload_n 3, 1) := by decide +kernel
theorem dL_law_917 : decode cL_law 917 = .ok (.iconst 2, 1) := by decide +kernel
theorem dL_law_918 : decode cL_law 918 = .ok (.iadd, 1) := by decide +kernel
theorem dL_law_919 : decode cL_law 919 = .ok (.iaload, 1) := by decide +kernel
theorem dL_law_920 : decode cL_law 920 = .ok (.aload_n 0, 1) := by decide +kernel
theorem dL_law_921 : decode cL_law 921 = .ok (.iload_n 3, 1) := by decide +kernel
theorem dL_law_922 : decode cL_law 922 = .ok (.iconst 3, 1) := by decide +kernel
theorem dL_law_923 : decode cL_law 923 = .ok (.iadd, 1) := by decide +kernel
theorem dL_law_924 : decode cL_law 924 = .ok (.iaload, 1) := by decide +kernel
theorem dL_law_925 : decode cL_law 925 = .ok (.aload_n 0, 1) := by decide +kernel
theorem dL_law_926 : decode cL_law 926 = .ok (.iload_n 3, 1) := by decide +kernel
theorem dL_law_927 : decode cL_law 927 = .ok (.iconst 4, 1) := by decide +kernel
theorem dL_law_928 : decode cL_law 928 = .ok (.iadd, 1) := by decide +kernel
theorem dL_law_929 : decode cL_law 929 = .ok (.iaload, 1) := by decide +kernel
theorem dL_law_930 : decode cL_law 930 = .ok (.aload_n 0, 1) := by decide +kernel
theorem dL_law_931 : decode cL_law 931 = .ok (.iload_n 3, 1) := by decide +kernel
theorem dL_law_932 : decode cL_law 932 = .ok (.iconst 5, 1) := by decide +kernel
theorem dL_law_933 : decode cL_law 933 = .ok (.iadd, 1) := by decide +kernel
theorem dL_law_934 : decode cL_law 934 = .ok (.iaload, 1) := by decide +kernel
theorem dL_law_935 : decode cL_law 935 = .ok (.ifCond .eq 7, 3) := by decide +kernel
theorem dL_law_938 : decode cL_law 938 = .ok (.iconst 1, 1) := by decide +kernel
theorem dL_law_939 : decode cL_law 939 = .ok (.goto 4, 3) := by decide +kernel
theorem dL_law_942 : decode cL_law 942 = .ok (.iconst 0, 1) := by decide +kernel
theorem dL_law_943 : decode cL_law 943 = .ok (.invokevirtual 114, 3) := by decide +kernel
theorem dL_law_946 : decode cL_law 946 = .ok (.aload_n 2, 1) := by decide +kernel
theorem dL_law_947 : decode cL_law 947 = .ok (.aload_n 0, 1) := by decide +kernel
theorem dL_law_948 : decode cL_law 948 = .ok (.iload_n 3, 1) := by decide +kernel
theorem dL_law_949 : decode cL_law 949 = .ok (.iconst 1, 1) := by decide +kernel
theorem dL_law_950 : decode cL_law 950 = .ok (.iadd, 1) := by decide +kernel
theorem dL_law_951 : decode cL_law 951 = .ok (.iaload, 1) := by decide +kernel
theorem dL_law_952 : decode cL_law 952 = .ok (.aload_n 0, 1) := by decide +kernel
theorem dL_law_953 : decode cL_law 953 = .ok (.iload_n 3, 1) := by decide +kernel
theorem dL_law_954 : decode cL_law 954 = .ok (.iconst 2, 1) := by decide +kernel
theorem dL_law_955 : decode cL_law 955 = .ok (.iadd, 1) := by decide +kernel
theorem dL_law_956 : decode cL_law 956 = .ok (.iaload, 1) := by decide +kernel
theorem dL_law_957 : decode cL_law 957 = .ok (.aload_n 0, 1) := by decide +kernel
theorem dL_law_958 : decode cL_law 958 = .ok (.iload_n 3, 1) := by decide +kernel
theorem dL_law_959 : decode cL_law 959 = .ok (.iconst 3, 1) := by decide +kernel
theorem dL_law_960 : decode cL_law 960 = .ok (.iadd, 1) := by decide +kernel
theorem dL_law_961 : decode cL_law 961 = .ok (.iaload, 1) := by decide +kernel
theorem dL_law_962 : decode cL_law 962 = .ok (.aload_n 0, 1) := by decide +kernel
theorem dL_law_963 : decode cL_law 963 = .ok (.iload_n 3, 1) := by decide +kernel
theorem dL_law_964 : decode cL_law 964 = .ok (.iconst 4, 1) := by decide +kernel
theorem dL_law_965 : decode cL_law 965 = .ok (.iadd, 1) := by decide +kernel
theorem dL_law_966 : decode cL_law 966 = .ok (.iaload, 1) := by decide +kernel
theorem dL_law_967 : decode cL_law 967 = .ok (.aload_n 0, 1) := by decide +kernel
theorem dL_law_968 : decode cL_law 968 = .ok (.iload_n 3, 1) := by decide +kernel
theorem dL_law_969 : decode cL_law 969 = .ok (.iconst 5, 1) := by decide +kernel
theorem dL_law_970 : decode cL_law 970 = .ok (.iadd, 1) := by decide +kernel
theorem dL_law_971 : decode cL_law 971 = .ok (.iaload, 1) := by decide +kernel
theorem dL_law_972 : decode cL_law 972 = .ok (.ifCond .eq 7, 3) := by decide +kernel
theorem dL_law_975 : decode cL_law 975 = .ok (.iconst 1, 1) := by decide +kernel
theorem dL_law_976 : decode cL_law 976 = .ok (.goto 4, 3) := by decide +kernel
theorem dL_law_979 : decode cL_law 979 = .ok (.iconst 0, 1) := by decide +kernel
theorem dL_law_980 : decode cL_law 980 = .ok (.invokevirtual 118, 3) := by decide +kernel
theorem dL_law_983 : decode cL_law 983 = .ok (.if_icmp .eq 151, 3) := by decide +kernel
theorem dL_law_986 : decode cL_law 986 = .ok (.iconst 0, 1) := by decide +kernel
theorem dL_law_987 : decode cL_law 987 = .ok (.ireturn, 1) := by decide +kernel
theorem dL_law_988 : decode cL_law 988 = .ok (.aload_n 1, 1) := by decide +kernel
theorem dL_law_989 : decode cL_law 989 = .ok (.aload_n 0, 1) := by decide +kernel
theorem dL_law_990 : decode cL_law 990 = .ok (.iload_n 3, 1) := by decide +kernel
theorem dL_law_991 : decode cL_law 991 = .ok (.iconst 1, 1) := by decide +kernel
theorem dL_law_992 : decode cL_law 992 = .ok (.iadd, 1) := by decide +kernel
theorem dL_law_993 : decode cL_law 993 = .ok (.iaload, 1) := by decide +kernel
theorem dL_law_994 : decode cL_law 994 = .ok (.i2l, 1) := by decide +kernel
theorem dL_law_995 : decode cL_law 995 = .ok (.bipush 32, 2) := by decide +kernel
theorem dL_law_997 : decode cL_law 997 = .ok (.lshl, 1) := by decide +kernel
theorem dL_law_998 : decode cL_law 998 = .ok (.aload_n 0, 1) := by decide +kernel
theorem dL_law_999 : decode cL_law 999 = .ok (.iload_n 3, 1) := by decide +kernel
theorem dL_law_1000 : decode cL_law 1000 = .ok (.iconst 2, 1) := by decide +kernel
theorem dL_law_1001 : decode cL_law 1001 = .ok (.iadd, 1) := by decide +kernel
theorem dL_law_1002 : decode cL_law 1002 = .ok (.iaload, 1) := by decide +kernel
theorem dL_law_1003 : decode cL_law 1003 = .ok (.i2l, 1) := by decide +kernel
theorem dL_law_1004 : decode cL_law 1004 = .ok (.ldc2_w 90, 3) := by decide +kernel
theorem dL_law_1007 : decode cL_law 1007 = .ok (.land, 1) := by decide +kernel
theorem dL_law_1008 : decode cL_law 1008 = .ok (.lor, 1) := by decide +kernel
theorem dL_law_1009 : decode cL_law 1009 = .ok (.invokevirtual 119, 3) := by decide +kernel
theorem dL_law_1012 : decode cL_law 1012 = .ok (.aload_n 2, 1) := by decide +kernel
theorem dL_law_1013 : decode cL_law 1013 = .ok (.aload_n 0, 1) := by decide +kernel
theorem dL_law_1014 : decode cL_law 1014 = .ok (.iload_n 3, 1) := by decide +kernel
theorem dL_law_1015 : decode cL_law 1015 = .ok (.iconst 1, 1) := by decide +kernel
theorem dL_law_1016 : decode cL_law 1016 = .ok (.iadd, 1) := by decide +kernel
theorem dL_law_1017 : decode cL_law 1017 = .ok (.iaload, 1) := by decide +kernel
theorem dL_law_1018 : decode cL_law 1018 = .ok (.i2l, 1) := by decide +kernel
theorem dL_law_1019 : decode cL_law 1019 = .ok (.bipush 32, 2) := by decide +kernel
theorem dL_law_1021 : decode cL_law 1021 = .ok (.lshl, 1) := by decide +kernel
theorem dL_law_1022 : decode cL_law 1022 = .ok (.aload_n 0, 1) := by decide +kernel
theorem dL_law_1023 : decode cL_law 1023 = .ok (.iload_n 3, 1) := by decide +kernel
theorem dL_law_1024 : decode cL_law 1024 = .ok (.iconst 2, 1) := by decide +kernel
theorem dL_law_1025 : decode cL_law 1025 = .ok (.iadd, 1) := by decide +kernel
theorem dL_law_1026 : decode cL_law 1026 = .ok (.iaload, 1) := by decide +kernel
theorem dL_law_1027 : decode cL_law 1027 = .ok (.i2l, 1) := by decide +kernel
theorem dL_law_1028 : decode cL_law 1028 = .ok (.ldc2_w 90, 3) := by decide +kernel
theorem dL_law_1031 : decode cL_law 1031 = .ok (.land, 1) := by decide +kernel
theorem dL_law_1032 : decode cL_law 1032 = .ok (.lor, 1) := by decide +kernel
theorem dL_law_1033 : decode cL_law 1033 = .ok (.invokevirtual 123, 3) := by decide +kernel
theorem dL_law_1036 : decode cL_law 1036 = .ok (.lcmp, 1) := by decide +kernel
theorem dL_law_1037 : decode cL_law 1037 = .ok (.ifCond .eq 97, 3) := by decide +kernel
theorem dL_law_1040 : decode cL_law 1040 = .ok (.iconst 0, 1) := by decide +kernel
theorem dL_law_1041 : decode cL_law 1041 = .ok (.ireturn, 1) := by decide +kernel
theorem dL_law_1042 : decode cL_law 1042 = .ok (.aload_n 1, 1) := by decide +kernel
theorem dL_law_1043 : decode cL_law 1043 = .ok (.aload_n 0, 1) := by decide +kernel
theorem dL_law_1044 : decode cL_law 1044 = .ok (.iload_n 3, 1) := by decide +kernel
theorem dL_law_1045 : decode cL_law 1045 = .ok (.iconst 1, 1) := by decide +kernel
theorem dL_law_1046 : decode cL_law 1046 = .ok (.iadd, 1) := by decide +kernel
theorem dL_law_1047 : decode cL_law 1047 = .ok (.iaload, 1) := by decide +kernel
theorem dL_law_1048 : decode cL_law 1048 = .ok (.invokevirtual 124, 3) := by decide +kernel
theorem dL_law_1051 : decode cL_law 1051 = .ok (.aload_n 2, 1) := by decide +kernel
theorem dL_law_1052 : decode cL_law 1052 = .ok (.aload_n 0, 1) := by decide +kernel
theorem dL_law_1053 : decode cL_law 1053 = .ok (.iload_n 3, 1) := by decide +kernel
theorem dL_law_1054 : decode cL_law 1054 = .ok (.iconst 1, 1) := by decide +kernel
theorem dL_law_1055 : decode cL_law 1055 = .ok (.iadd, 1) := by decide +kernel
theorem dL_law_1056 : decode cL_law 1056 = .ok (.iaload, 1) := by decide +kernel
theorem dL_law_1057 : decode cL_law 1057 = .ok (.invokevirtual 127, 3) := by decide +kernel
theorem dL_law_1060 : decode cL_law 1060 = .ok (.if_icmp .eq 74, 3) := by decide +kernel
theorem dL_law_1063 : decode cL_law 1063 = .ok (.iconst 0, 1) := by decide +kernel
theorem dL_law_1064 : decode cL_law 1064 = .ok (.ireturn, 1) := by decide +kernel
theorem dL_law_1065 : decode cL_law 1065 = .ok (.aload_n 1, 1) := by decide +kernel
theorem dL_law_1066 : decode cL_law 1066 = .ok (.aload_n 0, 1) := by decide +kernel
theorem dL_law_1067 : decode cL_law 1067 = .ok (.iload_n 3, 1) := by decide +kernel
theorem dL_law_1068 : decode cL_law 1068 = .ok (.iconst 1, 1) := by decide +kernel
theorem dL_law_1069 : decode cL_law 1069 = .ok (.iadd, 1) := by decide +kernel
theorem dL_law_1070 : decode cL_law 1070 = .ok (.iaload, 1) := by decide +kernel
theorem dL_law_1071 : decode cL_law 1071 = .ok (.invokevirtual 128, 3) := by decide +kernel
theorem dL_law_1074 : decode cL_law 1074 = .ok (.aload_n 2, 1) := by decide +kernel
theorem dL_law_1075 : decode cL_law 1075 = .ok (.aload_n 0, 1) := by decide +kernel
theorem dL_law_1076 : decode cL_law 1076 = .ok (.iload_n 3, 1) := by decide +kernel
theorem dL_law_1077 : decode cL_law 1077 = .ok (.iconst 1, 1) := by decide +kernel
theorem dL_law_1078 : decode cL_law 1078 = .ok (.iadd, 1) := by decide +kernel
theorem dL_law_1079 : decode cL_law 1079 = .ok (.iaload, 1) := by decide +kernel
theorem dL_law_1080 : decode cL_law 1080 = .ok (.invokevirtual 131, 3) := by decide +kernel
theorem dL_law_1083 : decode cL_law 1083 = .ok (.if_icmp .eq 51, 3) := by decide +kernel
theorem dL_law_1086 : decode cL_law 1086 = .ok (.iconst 0, 1) := by decide +kernel
theorem dL_law_1087 : decode cL_law 1087 = .ok (.ireturn, 1) := by decide +kernel
theorem dL_law_1088 : decode cL_law 1088 = .ok (.aload_n 1, 1) := by decide +kernel
theorem dL_law_1089 : decode cL_law 1089 = .ok (.aload_n 0, 1) := by decide +kernel
theorem dL_law_1090 : decode cL_law 1090 = .ok (.iload_n 3, 1) := by decide +kernel
theorem dL_law_1091 : decode cL_law 1091 = .ok (.iconst 1, 1) := by decide +kernel
theorem dL_law_1092 : decode cL_law 1092 = .ok (.iadd, 1) := by decide +kernel
theorem dL_law_1093 : decode cL_law 1093 = .ok (.iaload, 1) := by decide +kernel
theorem dL_law_1094 : decode cL_law 1094 = .ok (.invokevirtual 132, 3) := by decide +kernel
theorem dL_law_1097 : decode cL_law 1097 = .ok (.aload_n 2, 1) := by decide +kernel
theorem dL_law_1098 : decode cL_law 1098 = .ok (.aload_n 0, 1) := by decide +kernel
theorem dL_law_1099 : decode cL_law 1099 = .ok (.iload_n 3, 1) := by decide +kernel
theorem dL_law_1100 : decode cL_law 1100 = .ok (.iconst 1, 1) := by decide +kernel
theorem dL_law_1101 : decode cL_law 1101 = .ok (.iadd, 1) := by decide +kernel
theorem dL_law_1102 : decode cL_law 1102 = .ok (.iaload, 1) := by decide +kernel
theorem dL_law_1103 : decode cL_law 1103 = .ok (.invokevirtual 135, 3) := by decide +kernel
theorem dL_law_1106 : decode cL_law 1106 = .ok (.if_icmp .eq 28, 3) := by decide +kernel
theorem dL_law_1109 : decode cL_law 1109 = .ok (.iconst 0, 1) := by decide +kernel
theorem dL_law_1110 : decode cL_law 1110 = .ok (.ireturn, 1) := by decide +kernel
theorem dL_law_1111 : decode cL_law 1111 = .ok (.aload_n 1, 1) := by decide +kernel
theorem dL_law_1112 : decode cL_law 1112 = .ok (.aload_n 0, 1) := by decide +kernel
theorem dL_law_1113 : decode cL_law 1113 = .ok (.iload_n 3, 1) := by decide +kernel
theorem dL_law_1114 : decode cL_law 1114 = .ok (.iconst 1, 1) := by decide +kernel
theorem dL_law_1115 : decode cL_law 1115 = .ok (.iadd, 1) := by decide +kernel
theorem dL_law_1116 : decode cL_law 1116 = .ok (.iaload, 1) := by decide +kernel
theorem dL_law_1117 : decode cL_law 1117 = .ok (.invokevirtual 136, 3) := by decide +kernel
theorem dL_law_1120 : decode cL_law 1120 = .ok (.aload_n 2, 1) := by decide +kernel
theorem dL_law_1121 : decode cL_law 1121 = .ok (.aload_n 0, 1) := by decide +kernel
theorem dL_law_1122 : decode cL_law 1122 = .ok (.iload_n 3, 1) := by decide +kernel
theorem dL_law_1123 : decode cL_law 1123 = .ok (.iconst 1, 1) := by decide +kernel
theorem dL_law_1124 : decode cL_law 1124 = .ok (.iadd, 1) := by decide +kernel
theorem dL_law_1125 : decode cL_law 1125 = .ok (.iaload, 1) := by decide +kernel
theorem dL_law_1126 : decode cL_law 1126 = .ok (.invokevirtual 139, 3) := by decide +kernel
theorem dL_law_1129 : decode cL_law 1129 = .ok (.if_icmp .eq 5, 3) := by decide +kernel
theorem dL_law_1132 : decode cL_law 1132 = .ok (.iconst 0, 1) := by decide +kernel
theorem dL_law_1133 : decode cL_law 1133 = .ok (.ireturn, 1) := by decide +kernel
theorem dL_law_1134 : decode cL_law 1134 = .ok (.iinc 3 6, 3) := by decide +kernel
theorem dL_law_1137 : decode cL_law 1137 = .ok (.goto (-1119), 3) := by decide +kernel
theorem dL_law_1140 : decode cL_law 1140 = .ok (.iconst 1, 1) := by decide +kernel
theorem dL_law_1141 : decode cL_law 1141 = .ok (.ireturn, 1) := by decide +kernel
end
